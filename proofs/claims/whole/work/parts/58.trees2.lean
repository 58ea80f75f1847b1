/-! Web: addUpBelow, fillRely -/
/-- those that stand from the i-th place on -/
def dS (q : List Nat) (i : Nat) : Nat → Bool := fun y => decide (y ∈ q.drop i)
theorem dS_s {q : List Nat} {i : Nat} (h : i < q.length) : dS q i = dpt (dS q (i + 1)) (gq q i) := by
  funext y
  unfold dS dpt
  rw [List.drop_eq_getElem_cons h, gq_e h]
  generalize List.drop (i + 1) q = l
  simp
theorem dS_no {q : List Nat} (hn : q.Nodup) {i j : Nat} (hi : i < q.length) (hj : j ≤ i) : dS q (i + 1) (gq q j) = false := by
  refine decide_eq_false (fun hm => ?_)
  obtain ⟨k, hk, e⟩ := List.getElem_of_mem hm
  rw [List.length_drop] at hk
  rw [List.getElem_drop, ← gq_e (by omega)] at e
  have := gq_inj hn (by omega) (by omega) e
  omega
theorem l_addUp {H : ia_H} {S : bsT} {sd : Nat → Bool} {A B : Nat → Nat} {n m : Nat} (h : tfOk S sd A B n m) (hv : ∀ W, tvOk (hsI H 41 W) S sd A B m) {Z : Option Value → ia_H → Prop} (hZ : ∀ W, (∀ x, x < m → W x = nI (cb (fP A B S) (fE S) m (dS S.1 0) x)) → Z none (hsI H 41 W)) :
    ∀ (i : Nat) (W : Nat → Int32) (a2 : Option Value), i ≤ S.1.length → (∀ x, x < m → W x = nI (cb (fP A B S) (fE S) m (dS S.1 i) x)) → R_ ia_k_X6_addUpBelow Z (7, [some (.ref 29), some (.int (nI i + -1)), a2], [], hsI H 41 W) := by
  have hm := h.1.1
  have ht := tf_trs h
  have hl := bsOk_len h.2.2.1.1
  intro i
  induction i with
  | zero =>
    intro W a2 hi hW
    refine ia_walk (fun pc => Nat.beq pc 7) 60 (fun X hX => ?_)
    conv => whnf
    refine And.intro (fun c => ?_) (fun c => ?_)
    · conv => whnf
      exact hZ W hW
    · exact absurd (show nI 0 + -1 < 0 by decide) c
  | succ i ih =>
    intro W a2 hi hW
    have hi : i < S.1.length := by omega
    have hgm : gq S.1 i < m := (h.2.2.1.1.2.1 _ (gq_in hi)).1
    have eR : (hsI H 41 W).1 36 i = nI (gq S.1 i) := by
      rw [(hv W).2.2.2.2.1 i hi, gq_e hi]
    have e38 := (hv W).2.2.2.1
    have edec := nI_dec i
    rcases tf_x h hgm with ⟨q1, q2, q3⟩ | ⟨q1, q2, q3, q4, q5, q6, q7⟩
    · refine ia_walk (fun pc => Nat.beq pc 7) 60 (fun X hX => ?_)
      conv => whnf
      refine And.intro (fun c => ?_) (fun c => ?_)
      · exact absurd (show nI (i + 1) + -1 < 0 from c) (by rw [edec]; exact nI_pos (by omega))
      · conv => whnf
        refine Exists.intro (i) (And.intro (And.intro (edec) (by omega)) ?_)
        conv => whnf
        refine Exists.intro (gq S.1 i) (And.intro (And.intro (eR) (by omega)) ?_)
        conv => whnf
        refine And.intro (fun c1 => ?_) (fun c1 => ?_)
        · conv => whnf
          rw [edec]
          exact hX _ (ih W _ (by omega) (fun x hx => by rw [hW x hx, dS_s hi, cb_root ht.1 q2]))
        · exact absurd (show (hsI H 41 W).1 38 (gq S.1 i) = -1 by rw [e38]; exact q1) c1
    · refine ia_walk (fun pc => Nat.beq pc 7) 60 (fun X hX => ?_)
      conv => whnf
      refine And.intro (fun c => ?_) (fun c => ?_)
      · exact absurd (show nI (i + 1) + -1 < 0 from c) (by rw [edec]; exact nI_pos (by omega))
      · conv => whnf
        refine Exists.intro (i) (And.intro (And.intro (edec) (by omega)) ?_)
        conv => whnf
        refine Exists.intro (gq S.1 i) (And.intro (And.intro (eR) (by omega)) ?_)
        conv => whnf
        refine And.intro (fun c1 => ?_) (fun c1 => ?_)
        · exact absurd (show (hsI H 41 W).1 38 (gq S.1 i) = -1 from c1) (by rw [e38]; exact q1)
        · have hpm := (ht.1 _ hgm).1
          have hno : dS S.1 (i + 1) (fP A B S (gq S.1 i)) = false := by
            rcases ft_at hm h.2.2.1 hi with ⟨z, -, -⟩ | ⟨j, j1, -, -, -, -, -, -, j8, -, -⟩
            · exact absurd z q1
            · rw [j8]
              exact dS_no h.2.2.1.1.1 hi (by omega)
          conv => whnf
          have ev := ia_callE (v_above (hv W) h hgm)
          rw [← eR] at ev
          refine Exists.intro (_, _) (And.intro ev ?_)
          conv => whnf
          refine Exists.intro _ (And.intro (And.intro rfl (by omega)) ?_)
          conv => whnf
          refine Exists.intro (gq S.1 i) (And.intro (And.intro (eR) (by omega)) ?_)
          conv => whnf
          refine Exists.intro _ (And.intro (And.intro rfl (by omega)) ?_)
          conv => whnf
          rw [edec]
          have nx := ih (upd W (fP A B S (gq S.1 i)) (W (fP A B S (gq S.1 i)) + W (gq S.1 i))) (some (.int ((hsI H 41 W).1 36 i))) (by omega) (fun x hx => by
            rw [dS_s hi, cb_put ht.1 hgm q7 (dS_no h.2.2.1.1.1 hi (Nat.le_refl _)) hno]
            by_cases hxp : x = fP A B S (gq S.1 i)
            · rw [if_pos hxp, hxp, ← nI_add, ← hW _ hpm, ← hW _ hgm]
              exact if_pos rfl
            · rw [if_neg hxp, ← hW x hx]
              exact if_neg hxp)
          rw [← hsI_same H 41 W (upd W (fP A B S (gq S.1 i)) (W (fP A B S (gq S.1 i)) + W (gq S.1 i)))] at nx
          exact hX _ nx
theorem v_addUp {H : ia_H} {S : bsT} {sd : Nat → Bool} {A B : Nat → Nat} {n m : Nat} (h : tfOk S sd A B n m) (hv : ∀ W, tvOk (hsI H 41 W) S sd A B m) (W : Nat → Int32) (hW : ∀ x, x < m → W x = 1) : V_ 60 [.ref 29] (hsI H 41 W) (fun r h' => r = none ∧ ∃ W, h' = hsI H 41 W ∧ ∀ x, x < m → W x = nI (cb (fP A B S) (fE S) m tt x)) := by
  have ht := tf_trs h
  have e7 := (hv W).2.2.2.2.2
  refine ia_V_in ia_k_X6_addUpBelow [some (.ref 29), none, none] rfl rfl (Nat.le_of_ble_eq_true rfl) rfl ?_
  refine ia_walk (fun pc => Nat.beq pc 7) 60 (fun X hX => ?_)
  conv => whnf
  have lp := l_addUp h hv (Z := fun r h' => r = none ∧ ∃ W, h' = hsI H 41 W ∧ ∀ x, x < m → W x = nI (cb (fP A B S) (fE S) m tt x)) (fun W hW => ⟨rfl, W, rfl, fun x hx => by
    rw [hW x hx, cb_congr ht.1 (D := dS S.1 0) (D2 := tt) (fun y hy => decide_eq_true (by rw [List.drop_zero]; exact h.2.2.2 y hy))]⟩) S.1.length W none (Nat.le_refl _) (fun x hx => by
      rw [hW x hx, cb_congr ht.1 (D := dS S.1 S.1.length) (D2 := fun _ => false) (fun y hy => decide_eq_false (by rw [List.drop_length]; exact List.not_mem_nil)), cb_0 ht.1 hx]
      rfl)
  have e8 : (hsI H 41 W).1 29 7 - 1 = nI S.1.length + -1 := by
    rw [e7, Int32.sub_eq_add_neg]
  rw [← e8] at lp
  exact hX _ lp
/-- a statement by which one of the first i hangs -/
def rlB (S : bsT) (i s : Nat) : Prop := ∃ k, k < i ∧ ¬ S.2.2 (gq S.1 k) = -1 ∧ fT S (gq S.1 k) = s
def rlI (S : bsT) (sd : Nat → Bool) (A B : Nat → Nat) (i : Nat) (R : Nat → Int32) : Prop := ∀ s, s < 120 → (rlB S i s → R s = rlM sd A B s) ∧ (¬ rlB S i s → R s = 0)
def rrI (S : bsT) (i r : Nat) : Prop := i = 0 ∨ ∃ k, k < i ∧ gq S.1 k = r ∧ S.2.2 (gq S.1 k) = -1 ∧ ∀ k', k < k' → k' < i → ¬ S.2.2 (gq S.1 k') = -1
theorem l_fillRely {H : ia_H} {S : bsT} {sd : Nat → Bool} {A B : Nat → Nat} {n m : Nat} (h : tfOk S sd A B n m) (hv : ∀ R, tvOk (hsI H 42 R) S sd A B m) (hW : ∀ x, x < m → H.1 41 x = nI (cb (fP A B S) (fE S) m tt x)) (hon : ∀ g, g < m → (H.1 40 g = 0 ∧ ∀ t, t < n → sd t = true → ntr m (fE S) (fT S) t → sb (fP A B S) (fE S) tt g (A t) = sb (fP A B S) (fE S) tt g (B t)) ∨ (H.1 40 g = 1 ∧ ∃ t, t < n ∧ sd t = true ∧ ntr m (fE S) (fT S) t ∧ sb (fP A B S) (fE S) tt g (A t) ≠ sb (fP A B S) (fE S) tt g (B t))) {Z : Option Value → ia_H → Prop} (hZ : ∀ R, rlI S sd A B S.1.length R → Z none (hsI H 42 R)) :
    ∀ (k i r : Nat) (R : Nat → Int32) (a3 : Option Value), i + k = S.1.length → rrI S i r → rlI S sd A B i R → R_ ia_k_X6_fillRely Z (12, [some (.ref 29), some (.int (nI r)), some (.int (nI i)), a3], [], hsI H 42 R) := by
  have hm := h.1.1
  have ht := tf_trs h
  have hl := bsOk_len h.2.2.1.1
  intro k
  induction k with
  | zero =>
    intro i r R a3 hi hr hR
    have hi : i = S.1.length := by omega
    subst hi
    have e7 := (hv R).2.2.2.2.2
    refine ia_walk (fun pc => Nat.beq pc 12) 60 (fun X hX => ?_)
    conv => whnf
    refine And.intro (fun c => ?_) (fun c => ?_)
    · exact absurd (show nI S.1.length < (hsI H 42 R).1 29 7 from c) (by rw [e7]; exact nI_nlt (Nat.le_refl _) (by omega))
    · conv => whnf
      exact hZ R hR
  | succ k ih =>
    intro i r R a3 hi hr hR
    have hi2 : i < S.1.length := by omega
    have e7 := (hv R).2.2.2.2.2
    have hgm : gq S.1 i < m := (h.2.2.1.1.2.1 _ (gq_in hi2)).1
    have eR : (hsI H 42 R).1 36 i = nI (gq S.1 i) := by
      rw [(hv R).2.2.2.2.1 i hi2, gq_e hi2]
    have e38 := (hv R).2.2.2.1
    have c0 : nI i < (hsI H 42 R).1 29 7 := by rw [e7]; exact nI_lt hi2 (by omega)
    rcases tf_x h hgm with ⟨q1, q2, q3⟩ | ⟨q1, q2, q3, q4, q5, q6, q7⟩
    · refine ia_walk (fun pc => Nat.beq pc 12) 60 (fun X hX => ?_)
      conv => whnf
      refine And.intro (fun c => ?_) (fun c => ?_)
      · conv => whnf
        refine Exists.intro _ (And.intro (And.intro rfl (by omega)) ?_)
        conv => whnf
        refine Exists.intro (gq S.1 i) (And.intro (And.intro (eR) (by omega)) ?_)
        conv => whnf
        refine And.intro (fun c1 => ?_) (fun c1 => ?_)
        · conv => whnf
          rw [nI_1]
          have nx := ih (i + 1) (gq S.1 i) R (some (.int ((hsI H 42 R).1 36 i))) (by omega) (Or.inr ⟨i, by omega, rfl, q1, fun k' h1 h2 => by omega⟩) (fun s hs => by
            have hb : rlB S (i + 1) s ↔ rlB S i s := by
              constructor
              · intro ⟨j, j1, j2, j3⟩
                by_cases hj : j = i
                · exact absurd (hj ▸ q1) j2
                · exact ⟨j, by omega, j2, j3⟩
              · intro ⟨j, j1, j2, j3⟩
                exact ⟨j, by omega, j2, j3⟩
            rw [hb]
            exact hR s hs)
          rw [← eR] at nx
          exact hX _ nx
        · exact absurd (show (hsI H 42 R).1 38 (gq S.1 i) = -1 by rw [e38]; exact q1) c1
      · exact absurd c0 c
    · have eb : (hsI H 42 R).1 38 (gq S.1 i) = nI (fW S (gq S.1 i)) := by rw [e38]; exact q5
      have hr2 : r = rto (fP A B S) (fE S) (gq S.1 i) := by
        obtain ⟨k2, z1, z2, z3, z4⟩ := ft_rt hm h.2.2.1 (i + 1) i (by omega) hi2
        have hki : k2 < i := by
          apply Classical.byContradiction
          intro z
          rw [show k2 = i by omega] at z2
          exact q1 z2
        rcases hr with hr | ⟨j, j1, j2, j3, j4⟩
        · omega
        · have : j = k2 := by
            rcases Nat.lt_trichotomy j k2 with z | z | z
            · exact absurd z2 (j4 k2 z hki)
            · exact z
            · exact absurd j3 (z4 j z (by omega))
          rw [z3, ← j2, this]
      have hrm : r < m := by rw [hr2]; exact (rto_ok ht.1 _ _ hgm rfl).1
      have hec : ¬ fE S (gq S.1 i) = 0 := by omega
      have hrr : rrI S (i + 1) r := by
        rcases hr with hr | ⟨j, j1, j2, j3, j4⟩
        · obtain ⟨k2, z1, z2, z3, z4⟩ := ft_rt hm h.2.2.1 (i + 1) i (by omega) hi2
          rw [show k2 = i by omega] at z2
          exact absurd z2 q1
        · refine Or.inr ⟨j, by omega, j2, j3, fun k' h1 h2 => ?_⟩
          by_cases hk : k' = i
          · rw [hk]; exact q1
          · exact j4 k' h1 (by omega)
      have hsx : fT S (gq S.1 i) < 120 := show fW S (gq S.1 i) / 2 < 120 by omega
      have hni : ¬ rlB S i (fT S (gq S.1 i)) := fun ⟨j, j1, j2, j3⟩ => by
        have hjl : j < S.1.length := by omega
        have hjm : gq S.1 j < m := (h.2.2.1.1.2.1 _ (gq_in hjl)).1
        have ej : ¬ fE S (gq S.1 j) = 0 := by
          rcases tf_x h hjm with ⟨z1, -, -⟩ | ⟨-, -, -, -, -, -, z7⟩
          · exact absurd z1 j2
          · omega
        have := gq_inj h.2.2.1.1.1 hjl hi2 (tr_inj ht hjm hgm ej hec j3)
        omega
      have put : ∀ v : Int32, v = rlM sd A B (fT S (gq S.1 i)) → rlI S sd A B (i + 1) (upd R (fT S (gq S.1 i)) v) := by
        intro v hvv s hs
        by_cases hse : s = fT S (gq S.1 i)
        · subst hse
          refine ⟨fun _ => ?_, fun z => absurd ⟨i, by omega, q1, rfl⟩ z⟩
          rw [← hvv]
          exact if_pos rfl
        · have hb : rlB S (i + 1) s ↔ rlB S i s := by
            constructor
            · intro ⟨j, j1, j2, j3⟩
              by_cases hj : j = i
              · rw [hj] at j3
                exact absurd j3.symm hse
              · exact ⟨j, by omega, j2, j3⟩
            · intro ⟨j, j1, j2, j3⟩
              exact ⟨j, by omega, j2, j3⟩
          rw [hb, show upd R (fT S (gq S.1 i)) v s = R s from if_neg hse]
          exact hR s hs
      rcases hon _ hgm with ⟨o1, o2⟩ | ⟨o1, t, t1, t2, t3, t4⟩
      · have eV := rl_tree h.1 ht hgm hec o2
        refine ia_walk (fun pc => Nat.beq pc 12) 80 (fun X hX => ?_)
        conv => whnf
        refine And.intro (fun c => ?_) (fun c => ?_)
        · conv => whnf
          refine Exists.intro _ (And.intro (And.intro rfl (by omega)) ?_)
          conv => whnf
          refine Exists.intro (gq S.1 i) (And.intro (And.intro (eR) (by omega)) ?_)
          conv => whnf
          refine And.intro (fun c1 => ?_) (fun c1 => ?_)
          · exact absurd (eb.symm.trans c1) (nI_nm1 (by omega))
          · conv => whnf
            refine Exists.intro (gq S.1 i) (And.intro (And.intro (eR) (by omega)) ?_)
            conv => whnf
            refine And.intro (fun c2 => ?_) (fun c2 => ?_)
            · conv => whnf
              refine Exists.intro (gq S.1 i) (And.intro (And.intro (eR) (by omega)) ?_)
              conv => whnf
              refine Exists.intro (gq S.1 i) (And.intro (And.intro (eR) (by omega)) ?_)
              conv => whnf
              refine Exists.intro _ (And.intro (And.intro rfl (by omega)) ?_)
              conv => whnf
              refine Exists.intro (gq S.1 i) (And.intro (And.intro (eR) (by omega)) ?_)
              conv => whnf
              refine Exists.intro (fW S (gq S.1 i) / 2) (And.intro (And.intro ((show (hsI H 42 R).1 38 (gq S.1 i) >>> ((1 : Int32) &&& 31) = _ by rw [eb]; exact shr1 _ q2)) (by omega)) ?_)
              conv => whnf
              rw [nI_1]
              have nx := ih (i + 1) r _ (some (.int ((hsI H 42 R).1 36 i))) (by omega) hrr (put (H.1 41 (gq S.1 i) * (H.1 41 r - H.1 41 (gq S.1 i))) (by rw [eV, hW _ hgm, hW _ hrm, hr2]))
              rw [← hsI_same H 42 R (upd R (fT S (gq S.1 i)) (H.1 41 (gq S.1 i) * (H.1 41 r - H.1 41 (gq S.1 i))))] at nx
              exact hX _ nx
            · exact absurd o1 c2
        · exact absurd c0 c
      · have eV := rl_ring h.1 ht hgm hec t1 t2 t3 t4
        refine ia_walk (fun pc => Nat.beq pc 12) 80 (fun X hX => ?_)
        conv => whnf
        refine And.intro (fun c => ?_) (fun c => ?_)
        · conv => whnf
          refine Exists.intro _ (And.intro (And.intro rfl (by omega)) ?_)
          conv => whnf
          refine Exists.intro (gq S.1 i) (And.intro (And.intro (eR) (by omega)) ?_)
          conv => whnf
          refine And.intro (fun c1 => ?_) (fun c1 => ?_)
          · exact absurd (eb.symm.trans c1) (nI_nm1 (by omega))
          · conv => whnf
            refine Exists.intro (gq S.1 i) (And.intro (And.intro (eR) (by omega)) ?_)
            conv => whnf
            refine And.intro (fun c2 => ?_) (fun c2 => ?_)
            · exact absurd (show H.1 40 (gq S.1 i) = 0 from c2) (by rw [o1]; decide)
            · conv => whnf
              rw [nI_1]
              have e0 : upd R (fT S (gq S.1 i)) 0 = R := by
                funext y
                by_cases hy : y = fT S (gq S.1 i)
                · rw [hy, (hR _ hsx).2 hni]
                  exact if_pos rfl
                · exact if_neg hy
              have pp := put 0 eV.symm
              rw [e0] at pp
              exact hX _ (ih (i + 1) r R _ (by omega) hrr pp)
        · exact absurd c0 c
theorem v_fillRely {H : ia_H} {S : bsT} {sd : Nat → Bool} {A B : Nat → Nat} {n m : Nat} (h : tfOk S sd A B n m) (hv : ∀ R, tvOk (hsI H 42 R) S sd A B m) (hW : ∀ x, x < m → H.1 41 x = nI (cb (fP A B S) (fE S) m tt x)) (hon : ∀ g, g < m → (H.1 40 g = 0 ∧ ∀ t, t < n → sd t = true → ntr m (fE S) (fT S) t → sb (fP A B S) (fE S) tt g (A t) = sb (fP A B S) (fE S) tt g (B t)) ∨ (H.1 40 g = 1 ∧ ∃ t, t < n ∧ sd t = true ∧ ntr m (fE S) (fT S) t ∧ sb (fP A B S) (fE S) tt g (A t) ≠ sb (fP A B S) (fE S) tt g (B t))) : V_ 61 [.ref 29] H (fun r h' => r = none ∧ ∃ R, h' = hsI H 42 R ∧ ∀ s, s < 120 → R s = rlM sd A B s) := by
  have ht := tf_trs h
  refine ia_V_in ia_k_X6_fillRely [some (.ref 29), none, none, none] rfl rfl (Nat.le_of_ble_eq_true rfl) rfl ?_
  refine ia_walk (fun pc => Nat.beq pc 12) 60 (fun X hX => ?_)
  conv => whnf
  refine Exists.intro (_, _) (And.intro (ia_callE (v_fill_rely H 0)) ?_)
  conv => whnf
  refine hX _ (l_fillRely h hv hW hon (Z := fun r h' => r = none ∧ ∃ R, h' = hsI H 42 R ∧ ∀ s, s < 120 → R s = rlM sd A B s) (fun R hR => ⟨rfl, R, rfl, fun s hs => ?_⟩) S.1.length 0 0 (flF (H.1 42) 120 0) none (by omega) (Or.inl rfl) (fun s hs => ⟨fun ⟨k, hk, _⟩ => absurd hk (Nat.not_lt_zero k), fun _ => if_pos hs⟩))
  by_cases hb : rlB S S.1.length s
  · exact (hR s hs).1 hb
  · rw [(hR s hs).2 hb]
    by_cases hsn : s < n
    · refine (rl_nt h.1 ht hsn (fun y hy ey he => hb ?_)).symm
      obtain ⟨i, hi, e⟩ := gq_of (h.2.2.2 y hy)
      refine ⟨i, hi, ?_, by rw [e]; exact he⟩
      rw [e]
      rcases tf_x h hy with ⟨-, z2, -⟩ | ⟨z1, -⟩
      · exact absurd z2 ey
      · exact z1
    · unfold rlM
      rw [h.1.2.2.1 s (by omega), if_neg (by decide)]
