/-! Web: above, isInTree, markRing -/
def tvOk (H : ia_H) (S : bsT) (sd : Nat → Bool) (A B : Nat → Nat) (m : Nat) : Prop := (∀ w, w < 240 → cst sd w = true → H.1 30 w = nI (cdt A B w) ∧ cdt A B w < m) ∧ (∀ s, s < 120 → sd s = false → H.1 30 (2 * s) = -1) ∧ H.1 37 = S.2.1 ∧ H.1 38 = S.2.2 ∧ rwOk (H.1 36) S.1 ∧ H.1 29 7 = nI S.1.length
def tfOk (S : bsT) (sd : Nat → Bool) (A B : Nat → Nat) (n m : Nat) : Prop := grOk sd A B n m ∧ (∀ s, s < n → A s < m ∧ B s < m) ∧ ftA (cst sd) (csr A B) (cdt A B) m S ∧ ∀ x, x < m → x ∈ S.1
noncomputable abbrev fT (S : bsT) : Nat → Nat := fun x => fW S x / 2
theorem tf_trs {S : bsT} {sd : Nat → Bool} {A B : Nat → Nat} {n m : Nat} (h : tfOk S sd A B n m) : trs sd A B n m (fP A B S) (fE S) (fT S) := ft_trs h.1 h.2.1 h.2.2.1 h.2.2.2
theorem tf_x {S : bsT} {sd : Nat → Bool} {A B : Nat → Nat} {n m : Nat} (h : tfOk S sd A B n m) {x : Nat} (hx : x < m) : (S.2.2 x = -1 ∧ fE S x = 0 ∧ fP A B S x = x) ∨ (¬ S.2.2 x = -1 ∧ fW S x < 240 ∧ cst sd (fW S x) = true ∧ cdt A B (fW S x) = x ∧ S.2.2 x = nI (fW S x) ∧ csr A B (fW S x) = fP A B S x ∧ fE S x = fE S (fP A B S x) + 1) := by
  obtain ⟨i, hi, e⟩ := gq_of (h.2.2.2 x hx)
  subst e
  rcases ft_at h.1.1 h.2.2.1 hi with q | ⟨j, q1, q2, q3, q4, q5, q6, q7, q8, q9, q10⟩
  · exact Or.inl q
  · exact Or.inr ⟨q2, q3, q4, q5, q6, q7.trans q8.symm, by rw [q8]; exact q9⟩
theorem tf_e {S : bsT} {sd : Nat → Bool} {A B : Nat → Nat} {n m : Nat} (h : tfOk S sd A B n m) {x : Nat} (hx : x < m) : S.2.1 x = nI (fE S x) ∧ fE S x ≤ 40 := by
  have hl := bsOk_len h.2.2.1.1
  have hm := h.1.1
  obtain ⟨-, k, k1, k2⟩ := h.2.2.1.1.2.1 x (h.2.2.2 x hx)
  rw [fE_eq (S := S) (x := x) (k := k) (by omega) k2]
  exact ⟨k2, by omega⟩
theorem v_above {H : ia_H} {S : bsT} {sd : Nat → Bool} {A B : Nat → Nat} {n m : Nat} (hv : tvOk H S sd A B m) (h : tfOk S sd A B n m) {x : Nat} (hx : x < m) : V_ 58 [.ref 29, .int (nI x)] H (Z_ (.int (nI (fP A B S x))) H) := by
  have hm := h.1.1
  have e38 := hv.2.2.2.1
  rcases tf_x h hx with ⟨q1, q2, q3⟩ | ⟨q1, q2, q3, q4, q5, q6, q7⟩
  · refine ia_V_in ia_k_X6_above [some (.ref 29), some (.int (nI x))] rfl rfl (Nat.le_of_ble_eq_true rfl) rfl ?_
    refine ia_walk (fun _ => false) 60 (fun X hX => ?_)
    conv => whnf
    refine Exists.intro _ (And.intro (And.intro rfl (by omega)) ?_)
    conv => whnf
    refine And.intro (fun c => ?_) (fun c => ?_)
    · conv => whnf
      exact ⟨by rw [q3], rfl⟩
    · exact absurd (show H.1 38 x = -1 by rw [e38]; exact q1) c
  · obtain ⟨x1, x2⟩ := xor1 _ q2
    obtain ⟨c1, c2⟩ := c_xor sd A B q2
    have eb : H.1 38 x = nI (fW S x) := by rw [e38]; exact q5
    have el := (hv.1 _ x2 (c1.trans q3)).1
    rw [c2, q6] at el
    refine ia_V_in ia_k_X6_above [some (.ref 29), some (.int (nI x))] rfl rfl (Nat.le_of_ble_eq_true rfl) rfl ?_
    refine ia_walk (fun _ => false) 60 (fun X hX => ?_)
    conv => whnf
    refine Exists.intro _ (And.intro (And.intro rfl (by omega)) ?_)
    conv => whnf
    refine And.intro (fun c => ?_) (fun c => ?_)
    · exact absurd (eb.symm.trans c) (nI_nm1 (by omega))
    · conv => whnf
      refine Exists.intro _ (And.intro (And.intro rfl (by omega)) ?_)
      conv => whnf
      refine Exists.intro (fW S x ^^^ 1) (And.intro (And.intro ((show H.1 38 x ^^^ 1 = _ by rw [eb]; exact x1)) (x2)) ?_)
      conv => whnf
      exact ⟨congrArg (fun v => some (Value.int v)) el, rfl⟩
theorem nt_iff {S : bsT} {sd : Nat → Bool} {A B : Nat → Nat} {n m : Nat} (h : tfOk S sd A B n m) {s : Nat} (hs : s < n) : ntr m (fE S) (fT S) s ↔ (¬ S.2.2 (B s) = nI (2 * s)) ∧ ¬ S.2.2 (A s) = nI (2 * s + 1) := by
  have hn := h.1.2.1
  obtain ⟨hA, hB⟩ := h.2.1 s hs
  constructor
  · intro hnt
    refine ⟨fun q => ?_, fun q => ?_⟩
    · have ew := fW_eq (show 2 * s < 240 by omega) q
      rcases tf_x h hB with ⟨q1, q2, q3⟩ | ⟨q1, q2, q3, q4, q5, q6, q7⟩
      · exact absurd (q.symm.trans q1) (nI_nm1 (by omega))
      · exact hnt (B s) hB (by omega) (show fW S (B s) / 2 = s by rw [ew]; omega)
    · have ew := fW_eq (show 2 * s + 1 < 240 by omega) q
      rcases tf_x h hA with ⟨q1, q2, q3⟩ | ⟨q1, q2, q3, q4, q5, q6, q7⟩
      · exact absurd (q.symm.trans q1) (nI_nm1 (by omega))
      · exact hnt (A s) hA (by omega) (show fW S (A s) / 2 = s by rw [ew]; omega)
  · intro ⟨n1, n2⟩ y hy ey hq
    have hq : fW S y / 2 = s := hq
    rcases tf_x h hy with ⟨q1, q2, q3⟩ | ⟨q1, q2, q3, q4, q5, q6, q7⟩
    · exact ey q2
    · rcases c_ends A B (fW S y) with ⟨z1, z2, z3⟩ | ⟨z1, z2, z3⟩
      · rw [hq, q4] at z3
        refine n1 ?_
        rw [← z3, q5]
        congr 1
        omega
      · rw [hq, q4] at z3
        refine n2 ?_
        rw [← z3, q5]
        congr 1
        omega
theorem v_isInTree {H : ia_H} {S : bsT} {sd : Nat → Bool} {A B : Nat → Nat} {n m : Nat} (hv : tvOk H S sd A B m) (h : tfOk S sd A B n m) {s : Nat} (hs : s < n) (h1 : sd s = true) : V_ 57 [.ref 29, .int (nI s)] H (fun r h' => h' = H ∧ ∃ v, r = some (.int v) ∧ (v = 0 ↔ ntr m (fE S) (fT S) s)) := by
  have hm := h.1.1
  have hn := h.1.2.1
  have e38 := hv.2.2.2.1
  obtain ⟨hA, hB⟩ := h.2.1 s hs
  obtain ⟨a1, a2, a3⟩ := c_even sd A B s
  obtain ⟨b1, b2, b3⟩ := c_odd sd A B s
  obtain ⟨m1, m2⟩ := mul2d s (by omega)
  have l1 := (hv.1 (2 * s) (by omega) (a1.trans h1)).1
  have l2 := (hv.1 (2 * s + 1) (by omega) (b1.trans h1)).1
  rw [a3] at l1
  rw [b3] at l2
  have hi := nt_iff h hs
  refine ia_V_in ia_k_X6_isInTree [some (.ref 29), some (.int (nI s)), none] rfl rfl (Nat.le_of_ble_eq_true rfl) rfl ?_
  refine ia_walk (fun _ => false) 90 (fun X hX => ?_)
  conv => whnf
  refine Exists.intro (2 * s) (And.intro (And.intro (m1) (by omega)) ?_)
  conv => whnf
  refine Exists.intro (B s) (And.intro (And.intro (l1) (by omega)) ?_)
  conv => whnf
  refine And.intro (fun c => ?_) (fun c => ?_)
  · have c : H.1 38 (B s) = 2 * nI s := c
    rw [e38, m1] at c
    conv => whnf
    exact ⟨Or.inr rfl, rfl, _, rfl, fun q => absurd q (by decide), fun q => absurd c (hi.mp q).1⟩
  · have c : ¬ H.1 38 (B s) = 2 * nI s := c
    rw [e38, m1] at c
    conv => whnf
    refine Exists.intro (2 * s + 1) (And.intro (And.intro (m2) (by omega)) ?_)
    conv => whnf
    refine Exists.intro (A s) (And.intro (And.intro (l2) (by omega)) ?_)
    conv => whnf
    refine And.intro (fun c2 => ?_) (fun c2 => ?_)
    · have c2 : H.1 38 (A s) = 2 * nI s + 1 := c2
      rw [e38, m2] at c2
      conv => whnf
      exact ⟨Or.inr rfl, rfl, _, rfl, fun q => absurd q (by decide), fun q => absurd c2 (hi.mp q).2⟩
    · have c2 : ¬ H.1 38 (A s) = 2 * nI s + 1 := c2
      rw [e38, m2] at c2
      conv => whnf
      exact ⟨Or.inl rfl, rfl, _, rfl, fun _ => hi.mpr ⟨c, c2⟩, fun _ => rfl⟩
theorem nI_lt_iff {a b : Nat} (ha : a < 2 ^ 31) (hb : b < 2 ^ 31) : nI a < nI b ↔ a < b := ⟨fun h => Classical.byContradiction (fun q => nI_nlt (by omega) ha h), fun h => nI_lt h hb⟩
theorem ring_s {p e : Nat → Nat} {G l r : Nat} (hf : frs p e G) (hl : l < G) (hr : r < G) (el : e l = e (p l) + 1) (hle : e r ≤ e l) (hne : ¬ l = r) (g : Nat) (on : Nat → Int32) : (if (sb p e tt g (p l) != sb p e tt g r) = true then (1 : Int32) else upd on l 1 g) = if (sb p e tt g l != sb p e tt g r) = true then 1 else on g := by
  by_cases hg : g = l
  · subst hg
    have q : sb p e tt g r = false := by
      cases hq : sb p e tt g r
      · rfl
      · rcases sb_dep hf _ r hr rfl hq with z | z
        · exact absurd z.symm hne
        · omega
    rw [sb_self, q, if_pos (show (true != false) = true from rfl)]
    by_cases z : (sb p e tt g (p g) != false) = true
    · rw [if_pos z]
    · rw [if_neg z]; exact if_pos rfl
  · have q : sb p e tt g l = sb p e tt g (p l) := by
      rw [sb_s el]
      simp [Ne.symm hg]
    rw [q, show upd on l 1 g = on g from if_neg hg]
theorem bne_comm' (a b : Bool) : (a != b) = (b != a) := by cases a <;> cases b <;> rfl
theorem l_ring {H : ia_H} {S : bsT} {sd : Nat → Bool} {A B : Nat → Nat} {n m : Nat} (h : tfOk S sd A B n m) (o1 o2 : Int32) {Z : Option Value → ia_H → Prop} : ∀ (k l r j : Nat) (on : Nat → Int32), (∀ on, tvOk (hsI H 40 on) S sd A B m) → l < m → r < m → rto (fP A B S) (fE S) l = rto (fP A B S) (fE S) r → fE S l + fE S r ≤ k → j + k ≤ 81 → (∀ on', (∀ g, g < m → on' g = if (sb (fP A B S) (fE S) tt g l != sb (fP A B S) (fE S) tt g r) = true then 1 else on g) → Z none (hsI H 40 on')) → R_ ia_k_X6_markRing Z (8, [some (.ref 29), some (.int o1), some (.int o2), some (.int (nI l)), some (.int (nI r)), some (.int (nI j))], [], hsI H 40 on) := by
  have hm := h.1.1
  have ht := tf_trs h
  intro k
  induction k with
  | zero =>
    intro l r j on hv hl hr hrt hk hj hZ
    have elr : l = r := by
      rw [rto_r (show fE S l = 0 by omega), rto_r (show fE S r = 0 by omega)] at hrt
      exact hrt
    subst elr
    refine ia_walk (fun pc => Nat.beq pc 8) 60 (fun X hX => ?_)
    conv => whnf
    refine And.intro (fun c => ?_) (fun c => ?_)
    · conv => whnf
      refine And.intro (fun c1 => ?_) (fun c1 => ?_)
      · conv => whnf
        exact hZ on (fun g hg => by simp)
      · exact absurd rfl c1
    · exact absurd (show nI j < 82 from nI_lt (b := 82) (by omega) (by omega)) c
  | succ k ih =>
    intro l r j on hv hl hr hrt hk hj hZ
    obtain ⟨l1, l2⟩ := tf_e h hl
    obtain ⟨r1, r2⟩ := tf_e h hr
    have e37 := (hv on).2.2.1
    by_cases elr : l = r
    · subst elr
      refine ia_walk (fun pc => Nat.beq pc 8) 60 (fun X hX => ?_)
      conv => whnf
      refine And.intro (fun c => ?_) (fun c => ?_)
      · conv => whnf
        refine And.intro (fun c1 => ?_) (fun c1 => ?_)
        · conv => whnf
          exact hZ on (fun g hg => by simp)
        · exact absurd rfl c1
      · exact absurd (show nI j < 82 from nI_lt (b := 82) (by omega) (by omega)) c
    · refine ia_walk (fun pc => Nat.beq pc 8) 80 (fun X hX => ?_)
      conv => whnf
      refine And.intro (fun c => ?_) (fun c => ?_)
      · conv => whnf
        refine And.intro (fun c1 => ?_) (fun c1 => ?_)
        · exact absurd (nI_inj (by omega) (by omega) c1) elr
        · conv => whnf
          refine Exists.intro _ (And.intro (And.intro rfl (by omega)) ?_)
          conv => whnf
          refine Exists.intro _ (And.intro (And.intro rfl (by omega)) ?_)
          conv => whnf
          refine And.intro (fun c2 => ?_) (fun c2 => ?_)
          · have c2 : fE S l < fE S r := by
              have c2 : (hsI H 40 on).1 37 l < (hsI H 40 on).1 37 r := c2
              rw [e37, l1, r1] at c2
              exact (nI_lt_iff (by omega) (by omega)).mp c2
            have er := nt_e ht hr (show ¬ fE S r = 0 by omega)
            have hp := (ht.1 r hr).1
            conv => whnf
            refine Exists.intro _ (And.intro (And.intro rfl (by omega)) ?_)
            conv => whnf
            have e : hsI (hsI H 40 on) 40 (upd on r (vp_nar .boolean 1)) = hsI H 40 (upd on r 1) := by rw [nar1, hsI_same]
            have ev := ia_callE (v_above (hv (upd on r 1)) h hr)
            rw [← e] at ev
            refine Exists.intro (_, _) (And.intro ev ?_)
            conv => whnf
            rw [nI_1]
            have nx := ih l (fP A B S r) (j + 1) (upd on r 1) hv hl hp (by rw [hrt, rto_s er]) (by omega) (by omega) (fun on' ho => hZ on' (fun g hg => by
              rw [ho g hg, bne_comm', bne_comm' (sb (fP A B S) (fE S) tt g l)]
              exact ring_s ht.1 hr hl er (by omega) (fun q => elr q.symm) g on))
            rw [← e] at nx
            exact hX _ nx
          · have c2 : ¬ fE S l < fE S r := by
              have c2 : ¬ (hsI H 40 on).1 37 l < (hsI H 40 on).1 37 r := c2
              rw [e37, l1, r1] at c2
              exact fun q => c2 ((nI_lt_iff (by omega) (by omega)).mpr q)
            have hne : ¬ fE S l = 0 := fun q => by
              rw [rto_r q, rto_r (show fE S r = 0 by omega)] at hrt
              exact elr hrt
            have el := nt_e ht hl hne
            have hp := (ht.1 l hl).1
            conv => whnf
            refine Exists.intro _ (And.intro (And.intro rfl (by omega)) ?_)
            conv => whnf
            have e : hsI (hsI H 40 on) 40 (upd on l (vp_nar .boolean 1)) = hsI H 40 (upd on l 1) := by rw [nar1, hsI_same]
            have ev := ia_callE (v_above (hv (upd on l 1)) h hl)
            rw [← e] at ev
            refine Exists.intro (_, _) (And.intro ev ?_)
            conv => whnf
            rw [nI_1]
            have nx := ih (fP A B S l) r (j + 1) (upd on l 1) hv hp hr (by rw [← hrt, rto_s el]) (by omega) (by omega) (fun on' ho => hZ on' (fun g hg => by
              rw [ho g hg]
              exact ring_s ht.1 hl hr el (by omega) elr g on))
            rw [← e] at nx
            exact hX _ nx
      · exact absurd (show nI j < 82 from nI_lt (b := 82) (by omega) (by omega)) c
theorem v_markRing {H : ia_H} {S : bsT} {sd : Nat → Bool} {A B : Nat → Nat} {n m : Nat} (hv : ∀ on, tvOk (hsI H 40 on) S sd A B m) (h : tfOk S sd A B n m) {l r : Nat} (hl : l < m) (hr : r < m) (hrt : rto (fP A B S) (fE S) l = rto (fP A B S) (fE S) r) (on : Nat → Int32) : V_ 59 [.ref 29, .int (nI l), .int (nI r)] (hsI H 40 on) (fun v h' => v = none ∧ ∃ on', h' = hsI H 40 on' ∧ ∀ g, g < m → on' g = if (sb (fP A B S) (fE S) tt g l != sb (fP A B S) (fE S) tt g r) = true then 1 else on g) := by
  obtain ⟨-, l2⟩ := tf_e h hl
  obtain ⟨-, r2⟩ := tf_e h hr
  refine ia_V_in ia_k_X6_markRing [some (.ref 29), some (.int (nI l)), some (.int (nI r)), none, none, none] rfl rfl (Nat.le_of_ble_eq_true rfl) rfl ?_
  refine ia_walk (fun pc => Nat.beq pc 8) 60 (fun X hX => ?_)
  conv => whnf
  exact hX _ (l_ring h (nI l) (nI r) 80 l r 0 on hv hl hr hrt (by omega) (by omega) (Z := fun v h' => v = none ∧ ∃ on', h' = hsI H 40 on' ∧ ∀ g, g < m → on' g = if (sb (fP A B S) (fE S) tt g l != sb (fP A B S) (fE S) tt g r) = true then 1 else on g) (fun on' ho => ⟨rfl, on', rfl, ho⟩))
