/-! Paths that are laid: flowAlong, laysPath -/
def flU (fl : Nat → Int32) (w : Nat) : Nat → Int32 := upd fl (w / 2) (fl (w / 2) + (if w % 2 = 0 then 1 else -1))
def pfF (wy sr : Nat → Nat) : Nat → Nat → (Nat → Int32) → (Nat → Int32)
  | 0, _, fl => fl
  | k + 1, g, fl => pfF wy sr k (sr (wy g)) (flU fl (wy g))
/-- each that is reached: the root, or by the way wy -/
def ptOk (st : Nat → Bool) (sr dt : Nat → Nat) (rm : Nat → Bool) (S : bsT) (root : Nat) (wy : Nat → Nat) : Prop := ∀ g, g ∈ S.1 → (g = root ∧ S.2.2 g = -1 ∧ S.2.1 g = 0) ∨ (g ≠ root ∧ wy g < 240 ∧ st (wy g) = true ∧ rm (wy g) = true ∧ dt (wy g) = g ∧ S.2.2 g = nI (wy g) ∧ sr (wy g) ∈ S.1 ∧ S.2.1 g = S.2.1 (sr (wy g)) + 1)
/-- a root has no way -/
def bsU (rs : List Nat) (S : bsT) : Prop := ∀ g, g ∈ S.1 → S.2.2 g = -1 → g ∈ rs
theorem bsU_W {st : Nat → Bool} {sr dt : Nat → Nat} {rm : Nat → Bool} {rs : List Nat} {a : Nat} {S : bsT} (h : bsU rs S) : ∀ w, w ≤ 240 → bsU rs (bsW st sr dt rm a S w)
  | 0, _ => h
  | w + 1, hw => by
    have ih := bsU_W (st := st) (sr := sr) (dt := dt) (rm := rm) (a := a) h w (by omega)
    rw [bsW]
    by_cases hc : st w = true ∧ sr w = a
    · rw [if_pos hc]
      unfold bsS
      by_cases hq : dt w ∈ (bsW st sr dt rm a S w).1 ∨ rm w = false
      · rw [if_pos hq]; exact ih
      · rw [if_neg hq]
        intro g hg e
        have e : upd (bsW st sr dt rm a S w).2.2 (dt w) (nI w) g = -1 := e
        simp only [upd] at e
        by_cases eg : g = dt w
        · rw [if_pos eg] at e
          exact absurd e (nI_nm1 (by omega))
        · rw [if_neg eg] at e
          rcases List.mem_append.mp hg with y | y
          · exact ih g y e
          · exact absurd (List.mem_singleton.mp y) eg
    · rw [if_neg hc]; exact ih
theorem bsU_R {st : Nat → Bool} {sr dt : Nat → Nat} {rm : Nat → Bool} {rs : List Nat} : ∀ (k i : Nat) (S : bsT), bsU rs S → bsU rs (bsR st sr dt rm k i S)
  | 0, _, _, h => h
  | k + 1, i, S, h => by
    rw [bsR]
    by_cases hi : i < S.1.length
    · rw [dif_pos hi]; exact bsU_R k (i + 1) _ (bsU_W h 240 (Nat.le_refl _))
    · rw [dif_neg hi]; exact h
theorem bsU_P {rs : List Nat} {g : Nat} {S : bsT} (h : bsU rs S) (hn : ¬ g ∈ S.1) : bsU (g :: rs) (bsP g S) := by
  intro k hk e
  rcases List.mem_append.mp hk with y | y
  · have e : upd S.2.2 g (-1) k = -1 := e
    rw [show upd S.2.2 g (-1) k = S.2.2 k from if_neg (show ¬ k = g from fun z => hn (z ▸ y))] at e
    exact List.mem_cons_of_mem _ (h k y e)
  · rw [List.mem_singleton.mp y]; exact List.mem_cons_self
theorem pt_ex {st : Nat → Bool} {sr dt : Nat → Nat} {rm : Nat → Bool} {m : Nat} (hm : m ≤ 41) (hd : ∀ w, w < 240 → st w = true → dt w < m) {g : Nat} (hg : g < m) : ∃ wy, ptOk st sr dt rm (bsF st sr dt rm g bs0) g wy := by
  obtain ⟨-, -, -, hB⟩ := bsF_all (sr := sr) (rm := rm) hm hd hg
  have hU : bsU [g] (bsF st sr dt rm g bs0) := bsU_R _ _ _ (bsU_P (rs := []) (fun k hk => absurd hk List.not_mem_nil) List.not_mem_nil)
  have hR0 : (bsF st sr dt rm g bs0).2.2 g = -1 := by
    unfold bsF
    have key : ∀ (k i : Nat) (S : bsT), g ∈ S.1 → S.2.2 g = -1 → (bsR st sr dt rm k i S).2.2 g = -1 := by
      intro k
      induction k with
      | zero => intro i S _ h; exact h
      | succ k ih =>
        intro i S hg h
        rw [bsR]
        by_cases hi : i < S.1.length
        · rw [dif_pos hi]
          have kw : ∀ w, g ∈ (bsW st sr dt rm S.1[i] S w).1 ∧ (bsW st sr dt rm S.1[i] S w).2.2 g = -1 := by
            intro w
            induction w with
            | zero => exact ⟨hg, h⟩
            | succ w ihw =>
              rw [bsW]
              by_cases hc : st w = true ∧ sr w = S.1[i]
              · rw [if_pos hc]
                unfold bsS
                by_cases hq : dt w ∈ (bsW st sr dt rm S.1[i] S w).1 ∨ rm w = false
                · rw [if_pos hq]; exact ihw
                · rw [if_neg hq]
                  refine ⟨List.mem_append_left _ ihw.1, ?_⟩
                  show upd (bsW st sr dt rm S.1[i] S w).2.2 (dt w) (nI w) g = -1
                  rw [show upd (bsW st sr dt rm S.1[i] S w).2.2 (dt w) (nI w) g = (bsW st sr dt rm S.1[i] S w).2.2 g from if_neg (show ¬ g = dt w from fun z => hq (Or.inl (z ▸ ihw.1)))]
                  exact ihw.2
              · rw [if_neg hc]; exact ihw
          exact ih (i + 1) _ (kw 240).1 (kw 240).2
        · rw [dif_neg hi]; exact h
    exact key _ _ _ (List.mem_append_right _ (List.mem_singleton.mpr rfl)) (if_pos rfl)
  generalize bsF st sr dt rm g bs0 = S at hB hU hR0
  have H : ∀ k, ∃ w, k ∈ S.1 → (k = g ∧ S.2.2 k = -1 ∧ S.2.1 k = 0) ∨ (k ≠ g ∧ w < 240 ∧ st w = true ∧ rm w = true ∧ dt w = k ∧ S.2.2 k = nI w ∧ sr w ∈ S.1 ∧ S.2.1 k = S.2.1 (sr w) + 1) := by
    intro k
    by_cases hk : k ∈ S.1
    · rcases hB k hk with ⟨e1, e2⟩ | ⟨w, q⟩
      · exact ⟨0, fun _ => Or.inl ⟨List.mem_singleton.mp (hU k hk e1), e1, e2⟩⟩
      · refine ⟨w, fun _ => Or.inr ⟨fun e => ?_, q⟩⟩
        have := hR0
        rw [← e, q.2.2.2.2.1] at this
        exact absurd this (nI_nm1 (by have := q.1; omega))
    · exact ⟨0, fun z => absurd z hk⟩
  exact ⟨fun k => Classical.choose (H k), fun k hk => Classical.choose_spec (H k) hk⟩
theorem l_flowAlong (h : ia_H) (st : Nat → Bool) (sr dt : Nat → Nat) (rm : Nat → Bool) (S : bsT) (root : Nat) (wy : Nat → Nat) (m : Nat) (hm : m ≤ 41) (hok : bsOk m S) (hp : ptOk st sr dt rm S root wy) (hb : ∀ g, g ∈ S.1 → h.1 38 g = S.2.2 g) (hx : ∀ w, w < 240 → st w = true → h.1 30 (w ^^^ 1) = nI (sr w)) (e0 : Int32) {Z : Option Value → ia_H → Prop} : ∀ (k j g : Nat) (fl : Nat → Int32) (a4 : Option Value), g ∈ S.1 → S.2.1 g = nI k → j + k ≤ 40 → Z none (hsI h 39 (pfF wy sr k g fl)) → R_ ia_k_X6_flowAlong Z (4, [some (.ref 29), some (.int e0), some (.int (nI g)), some (.int (nI j)), a4], [], hsI h 39 fl) := by
  intro k
  induction k with
  | zero =>
    intro j g fl a4 hg hk hj hZ
    have hgm := (hok.2.1 g hg).1
    have e1 : h.1 38 g = -1 := by
      rw [hb g hg]
      rcases hp g hg with ⟨-, q, -⟩ | ⟨-, -, -, -, -, -, q6, q7⟩
      · exact q
      · obtain ⟨-, i, i1, i2⟩ := hok.2.1 _ q6
        have := bsOk_len hok
        rw [i2, hk, nI_1] at q7
        exact absurd (nI_inj (by omega) (by omega) q7) (by omega)
    refine ia_walk (fun pc => Nat.beq pc 4) 60 (fun X hX => ?_)
    conv => whnf
    refine And.intro (fun c => ?_) (fun c => ?_)
    · conv => whnf
      refine Exists.intro _ (And.intro (And.intro rfl (by omega)) ?_)
      conv => whnf
      refine And.intro (fun c1 => ?_) (fun c1 => ?_)
      · conv => whnf
        exact hZ
      · exact absurd e1 c1
    · exact absurd ((nI_lt41 (by omega)).mpr (by omega)) c
  | succ k ih =>
    intro j g fl a4 hg hk hj hZ
    have hgm := (hok.2.1 g hg).1
    have hlen := bsOk_len hok
    rcases hp g hg with ⟨-, -, q⟩ | ⟨hgr, w1, w2, w3, w4, w5, w6, w7⟩
    · rw [hk] at q
      exact absurd q (nI_ne0 (by omega) (by omega))
    · obtain ⟨-, i, i1, i2⟩ := hok.2.1 _ w6
      have eik : i = k := by
        rw [i2, hk, nI_1] at w7
        have := nI_inj (by omega) (by omega) w7
        omega
      subst eik
      have eb : h.1 38 g = nI (wy g) := by rw [hb g hg]; exact w5
      have e2 := shr1 _ w1
      have e1 := and1 _ w1
      obtain ⟨x1, x2⟩ := xor1 _ w1
      have hx1 := hx _ w1 w2
      have fin : ∀ z : Int32, z = fl (wy g / 2) + (if wy g % 2 = 0 then 1 else -1) → R_ ia_k_X6_flowAlong Z (51, [some (.ref 29), some (.int e0), some (.int (nI g)), some (.int (nI j)), some (.int (nI (wy g)))], [.int z, .int (nI (wy g) >>> ((1 : Int32) &&& 31)), .ref 39], hsI h 39 fl) := by
        intro z hz
        refine ia_walk (fun pc => Nat.beq pc 4) 60 (fun X hX => ?_)
        conv => whnf
        refine Exists.intro (wy g / 2) (And.intro (And.intro (e2) (by omega)) ?_)
        conv => whnf
        refine Exists.intro (wy g ^^^ 1) (And.intro (And.intro (x1) (x2)) ?_)
        conv => whnf
        rw [nI_1]
        have nx := ih (j + 1) (sr (wy g)) (flU fl (wy g)) (some (.int (nI (wy g)))) w6 i2 (by omega) hZ
        have e5 : hsI (hsI h 39 fl) 39 (upd fl (wy g / 2) z) = hsI h 39 (flU fl (wy g)) := by rw [hsI_same, hz]; rfl
        rw [← e5, ← hx1] at nx
        exact hX _ nx
      refine ia_walk (fun pc => Nat.beq pc 51) 60 (fun X hX => ?_)
      conv => whnf
      refine And.intro (fun c => ?_) (fun c => ?_)
      · conv => whnf
        refine Exists.intro _ (And.intro (And.intro rfl (by omega)) ?_)
        conv => whnf
        refine And.intro (fun c1 => ?_) (fun c1 => ?_)
        · exact absurd (eb.symm.trans c1) (nI_nm1 (by omega))
        · conv => whnf
          refine Exists.intro _ (And.intro (And.intro rfl (by omega)) ?_)
          conv => whnf
          rw [show (hsI h 39 fl).1 38 g = nI (wy g) from eb]
          refine Exists.intro (wy g / 2) (And.intro (And.intro e2 (by omega)) ?_)
          conv => whnf
          refine And.intro (fun c2 => ?_) (fun c2 => ?_)
          · conv => whnf
            exact hX _ (fin _ (by rw [if_pos (nI_inj (b := 0) (by omega) (by decide) (e1.symm.trans c2))]; rfl))
          · conv => whnf
            exact hX _ (fin _ (by rw [if_neg (fun q => c2 (by rw [e1, q]; rfl))]; rfl))
      · exact absurd ((nI_lt41 (by omega)).mpr (by omega)) c
theorem v_flowAlong (h : ia_H) (st : Nat → Bool) (sr dt : Nat → Nat) (rm : Nat → Bool) (S : bsT) (root : Nat) (wy : Nat → Nat) (m : Nat) (hm : m ≤ 41) (hok : bsOk m S) (hp : ptOk st sr dt rm S root wy) (hb : ∀ g, g ∈ S.1 → h.1 38 g = S.2.2 g) (hx : ∀ w, w < 240 → st w = true → h.1 30 (w ^^^ 1) = nI (sr w)) (g k : Nat) (hg : g ∈ S.1) (hk : S.2.1 g = nI k) (hk41 : k ≤ 40) : V_ 55 [.ref 29, .int (nI g)] h (fun r h' => r = none ∧ h' = hsI h 39 (pfF wy sr k g (h.1 39))) := by
  refine ia_V_in ia_k_X6_flowAlong [some (.ref 29), some (.int (nI g)), none, none, none] rfl rfl (Nat.le_of_ble_eq_true rfl) rfl ?_
  refine ia_walk (fun pc => Nat.beq pc 4) 60 (fun X hX => ?_)
  conv => whnf
  have l1 := l_flowAlong h st sr dt rm S root wy m hm hok hp hb hx (nI g) (Z := fun r h' => r = none ∧ h' = hsI h 39 (pfF wy sr k g (h.1 39))) k 0 g (h.1 39) none hg hk (by omega) ⟨rfl, rfl⟩
  rw [hsI_eta] at l1
  exact hX _ l1
theorem l_laysPath (h : ia_H) (n G : Nat) (sd : Nat → Bool) (A B : Nat → Nat) (hd : mdOk h n G sd A B) (rm : Nat → Bool) (S : bsT) (root : Nat) (hr : root < G) (wy : Nat → Nat) (hok : bsOk G S) (hp : ptOk (cst sd) (csr A B) (cdt A B) rm S root wy) (hc : cbOk (h.1 73) S.2.2 S.1) (e0 : Int32) {Z : Option Value → ia_H → Prop} : ∀ (k g : Nat) (fl : Nat → Int32) (a4 : Option Value), k ≤ 40 → g ∈ S.1 → S.2.1 g = nI k → Z none (hsI h 72 (pfF wy (csr A B) k g fl)) → R_ ia_k_X8_laysPath Z (2, [some (.ref 52), some (.int (nI root)), some (.int e0), some (.int (nI g)), a4], [], hsI h 72 fl) := by
  have hd0 := hd
  obtain ⟨hn, hG, eN, eG, hS, hsd⟩ := hd
  intro k
  induction k with
  | zero =>
    intro g fl a4 hk40 hg hk hZ
    have hgm := (hok.2.1 g hg).1
    have e1 : g = root := by
      rcases hp g hg with ⟨q, -, -⟩ | ⟨-, -, -, -, -, -, q6, q7⟩
      · exact q
      · obtain ⟨-, i, i1, i2⟩ := hok.2.1 _ q6
        have := bsOk_len hok
        rw [i2, hk, nI_1] at q7
        exact absurd (nI_inj (by omega) (by omega) q7) (by omega)
    refine ia_walk (fun pc => Nat.beq pc 2) 60 (fun X hX => ?_)
    conv => whnf
    refine And.intro (fun c => ?_) (fun c => ?_)
    · conv => whnf
      exact hZ
    · exact absurd (by rw [e1]) c
  | succ k ih =>
    intro g fl a4 hk40 hg hk hZ
    have hgm := (hok.2.1 g hg).1
    have hlen := bsOk_len hok
    rcases hp g hg with ⟨-, -, q⟩ | ⟨hgr, w1, w2, w3, w4, w5, w6, w7⟩
    · rw [hk] at q
      exact absurd q (nI_ne0 (by omega) (by omega))
    · obtain ⟨-, i, i1, i2⟩ := hok.2.1 _ w6
      have eik : i = k := by
        rw [i2, hk, nI_1] at w7
        have := nI_inj (by omega) (by omega) w7
        omega
      subst eik
      have eC : h.1 73 g = nI (wy g / 2) := hc g hg _ w1 w5
      obtain ⟨m1, m2, m3⟩ := md_dt hd0 _ w1 w2
      obtain ⟨s1, s2, s3, s4, s5, s6⟩ := hS _ m3
      refine ia_walk (fun pc => Nat.beq pc 2) 60 (fun X hX => ?_)
      conv => whnf
      refine And.intro (fun c => ?_) (fun c => ?_)
      · exact absurd (nI_inj (by omega) (by omega) c) hgr
      · conv => whnf
        refine Exists.intro _ (And.intro (And.intro rfl (by omega)) ?_)
        conv => whnf
        refine Exists.intro (wy g / 2) (And.intro (And.intro (eC) (by omega)) ?_)
        have hpar : (wy g % 2 = 0 ∧ B (wy g / 2) = g ∧ csr A B (wy g) = A (wy g / 2)) ∨ (¬ wy g % 2 = 0 ∧ A (wy g / 2) = g ∧ csr A B (wy g) = B (wy g / 2)) := by
          unfold cdt at w4
          unfold csr
          by_cases hp2 : wy g % 2 = 0
          · rw [if_pos hp2] at w4 ⊢; exact Or.inl ⟨hp2, w4, rfl⟩
          · rw [if_neg hp2] at w4 ⊢; exact Or.inr ⟨hp2, w4, rfl⟩
        conv => whnf
        refine And.intro (fun c1 => ?_) (fun c1 => ?_)
        · rcases hpar with ⟨p1, p2, p3⟩ | ⟨p1, p2, p3⟩
          · conv => whnf
            refine Exists.intro (wy g / 2) (And.intro (And.intro (eC) (by omega)) ?_)
            conv => whnf
            refine Exists.intro (wy g / 2) (And.intro (And.intro (eC) (by omega)) ?_)
            conv => whnf
            refine Exists.intro (wy g / 2) (And.intro (And.intro (eC) (by omega)) ?_)
            conv => whnf
            have nx := ih (csr A B (wy g)) (flU fl (wy g)) (some (.int (nI (wy g / 2)))) (by omega) w6 i2 hZ
            have e5 : hsI (hsI h 72 fl) 72 (upd fl (wy g / 2) (fl (wy g / 2) + 1)) = hsI h 72 (flU fl (wy g)) := by rw [hsI_same]; unfold flU; rw [if_pos p1]
            rw [← e5, p3, ← s1, ← eC] at nx
            exact hX _ nx
          · exact absurd (nI_inj (by omega) (by omega) (s3.symm.trans c1)) (fun q => s5 (p2.trans q.symm))
        · rcases hpar with ⟨p1, p2, p3⟩ | ⟨p1, p2, p3⟩
          · exact absurd (show h.1 57 (wy g / 2) = nI g by rw [s3, p2]) c1
          · conv => whnf
            refine Exists.intro (wy g / 2) (And.intro (And.intro (eC) (by omega)) ?_)
            conv => whnf
            refine Exists.intro (wy g / 2) (And.intro (And.intro (eC) (by omega)) ?_)
            conv => whnf
            refine Exists.intro (wy g / 2) (And.intro (And.intro (eC) (by omega)) ?_)
            conv => whnf
            have nx := ih (csr A B (wy g)) (flU fl (wy g)) (some (.int (nI (wy g / 2)))) (by omega) w6 i2 hZ
            have e5 : hsI (hsI h 72 fl) 72 (upd fl (wy g / 2) (fl (wy g / 2) - 1)) = hsI h 72 (flU fl (wy g)) := by rw [hsI_same]; unfold flU; rw [if_neg p1, Int32.sub_eq_add_neg]
            rw [← e5, p3, ← s3, ← eC] at nx
            exact hX _ nx
theorem v_laysPath (h : ia_H) (n G : Nat) (sd : Nat → Bool) (A B : Nat → Nat) (hd : mdOk h n G sd A B) (rm : Nat → Bool) (S : bsT) (root : Nat) (hr : root < G) (wy : Nat → Nat) (hok : bsOk G S) (hp : ptOk (cst sd) (csr A B) (cdt A B) rm S root wy) (hc : cbOk (h.1 73) S.2.2 S.1) (g k : Nat) (hg : g ∈ S.1) (hk : S.2.1 g = nI k) (hk40 : k ≤ 40) : V_ 156 [.ref 52, .int (nI root), .int (nI g)] h (fun r h' => r = none ∧ h' = hsI h 72 (pfF wy (csr A B) k g (h.1 72))) := by
  refine ia_V_in ia_k_X8_laysPath [some (.ref 52), some (.int (nI root)), some (.int (nI g)), none, none] rfl rfl (Nat.le_of_ble_eq_true rfl) rfl ?_
  refine ia_walk (fun pc => Nat.beq pc 2) 60 (fun X hX => ?_)
  conv => whnf
  have l1 := l_laysPath h n G sd A B hd rm S root hr wy hok hp hc (nI g) (Z := fun r h' => r = none ∧ h' = hsI h 72 (pfF wy (csr A B) k g (h.1 72))) k g (h.1 72) none hk40 hg hk ⟨rfl, rfl⟩
  rw [hsI_eta] at l1
  exact hX _ l1
