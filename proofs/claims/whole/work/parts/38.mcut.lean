/-! The reference's cut -/
theorem sel_at {p : Nat → Bool} {s : Nat} (hp : p s = true) : ∀ {n : Nat}, s < n → ∃ hj : (sel p s).length < (sel p n).length, (sel p n)[(sel p s).length] = s
  | 0, h => absurd h (Nat.not_lt_zero s)
  | n + 1, h => by
    by_cases e : s = n
    · subst e
      have e2 := sel_t (n := s) hp
      refine ⟨by rw [e2, List.length_append]; exact Nat.lt_succ_self _, ?_⟩
      simp only [e2]
      simp
    · obtain ⟨q1, q2⟩ := sel_at hp (n := n) (by omega)
      cases hc : p n
      · have e2 := sel_f (n := n) hc
        refine ⟨by rw [e2]; exact q1, ?_⟩
        simp only [e2]
        exact q2
      · have e2 := sel_t (n := n) hc
        refine ⟨by rw [e2, List.length_append]; omega, ?_⟩
        simp only [e2]
        rw [List.getElem_append_left q1]
        exact q2
/-- what is answered of a list of statements, of its k-th -/
def lsA (l : List Nat) (k v : Int32) : Prop := (∃ (j : Nat) (hj : j < l.length), k = nI j ∧ v = nI l[j]) ∨ ((∀ j, j < l.length → ¬ k = nI j) ∧ v = if k = -1 then nI l.length else -2)
theorem lsA_eq {l : List Nat} {k v v' : Int32} (hl : l.length < 2 ^ 31) (h1 : lsA l k v) (h2 : lsA l k v') : v = v' := by
  rcases h1 with ⟨j, hj, a, b⟩ | ⟨a, b⟩ <;> rcases h2 with ⟨j', hj', a', b'⟩ | ⟨a', b'⟩
  · have : j = j' := nI_inj (by omega) (by omega) (a.symm.trans a')
    subst this
    rw [b, b']
  · exact absurd a (a' j hj)
  · exact absurd a' (a j' hj')
  · rw [b, b']
theorem m_isCut (h : ia_H) (n G : Nat) (sd : Nat → Bool) (A B : Nat → Nat) (hd : mdOk h n G sd A B) (q : List Nat) (hq : irOk G (h.1 66) q) (s : Nat) (hs : s < n) : V_ 157 [.ref 52, .int (nI s)] h (Z_ (.int (bif cuP sd A B q s then 1 else 0)) h) := by
  obtain ⟨hn, hG, en, eG, hst, -⟩ := hd
  obtain ⟨a1, a2, b1, b2, hab, hs1⟩ := hst s hs
  refine ia_V_in ia_k_X8_isCut [some (.ref 52), some (.int (nI s))] rfl rfl (Nat.le_of_ble_eq_true rfl) rfl ?_
  refine ia_walk (fun _ => false) 60 (fun X hX => ?_)
  conv => whnf
  obtain ⟨v, ev, ev'⟩ := ia_callN (m_isStanding h s (by omega))
  refine Exists.intro (_, _) (And.intro ev' ?_)
  clear ev'
  rw [← hs1] at ev
  conv => whnf
  refine And.intro (fun c => ?_) (fun c => ?_)
  · conv => whnf
    refine ⟨Or.inl rfl, ?_, rfl⟩
    have : sd s = false := by
      cases e : sd s
      · rfl
      · rw [ev, e] at c; exact absurd c (by decide)
    unfold cuP
    rw [this]
    rfl
  · have hsd : sd s = true := by
      cases e : sd s
      · rw [ev, e] at c; exact absurd rfl c
      · rfl
    conv => whnf
    refine Exists.intro _ (And.intro (And.intro rfl (by omega)) ?_)
    conv => whnf
    refine Exists.intro (A s) (And.intro (And.intro (a1) (by omega)) ?_)
    conv => whnf
    refine Exists.intro _ (And.intro (And.intro rfl (by omega)) ?_)
    conv => whnf
    refine Exists.intro (B s) (And.intro (And.intro (b1) (by omega)) ?_)
    conv => whnf
    refine And.intro (fun c2 => ?_) (fun c2 => ?_)
    · conv => whnf
      refine ⟨Or.inl rfl, ?_, rfl⟩
      have c2 : h.1 66 (A s) = h.1 66 (B s) := c2
      have z : decide (A s ∈ q) = decide (B s ∈ q) := by
        by_cases x : A s ∈ q <;> by_cases y : B s ∈ q
        · rw [decide_eq_true x, decide_eq_true y]
        · rw [(hq _ a2).1 x, (hq _ b2).2 y] at c2; exact absurd c2 (by decide)
        · rw [(hq _ a2).2 x, (hq _ b2).1 y] at c2; exact absurd c2 (by decide)
        · rw [decide_eq_false x, decide_eq_false y]
      unfold cuP
      rw [z, hsd]
      cases decide (B s ∈ q) <;> rfl
    · conv => whnf
      refine ⟨Or.inr rfl, ?_, rfl⟩
      have c2 : ¬ h.1 66 (A s) = h.1 66 (B s) := c2
      have z : ¬ decide (A s ∈ q) = decide (B s ∈ q) := by
        intro w
        by_cases x : A s ∈ q <;> by_cases y : B s ∈ q
        · exact c2 ((hq _ a2).1 x ▸ (hq _ b2).1 y ▸ rfl)
        · rw [decide_eq_true x, decide_eq_false y] at w; cases w
        · rw [decide_eq_false x, decide_eq_true y] at w; cases w
        · exact c2 ((hq _ a2).2 x ▸ (hq _ b2).2 y ▸ rfl)
      unfold cuP
      rw [hsd]
      revert z
      cases decide (A s ∈ q) <;> cases decide (B s ∈ q) <;> decide
theorem l_mcut3 (h : ia_H) (n G : Nat) (sd : Nat → Bool) (A B : Nat → Nat) (hd : mdOk h n G sd A B) (q : List Nat) (hq : irOk G (h.1 66) q) (a1 kk : Int32) {Z : Option Value → ia_H → Prop} (hZ : ∀ v, lsA (sel (cuP sd A B q) n) kk v → Z (some (.int v)) h) :
    ∀ k s : Nat, s + k = n → (∀ j, j < (sel (cuP sd A B q) s).length → ¬ kk = nI j) → R_ ia_k_X8_cut Z (106, [some (.ref 52), some (.int a1), some (.int kk), some (.int (nI (sel (cuP sd A B q) s).length)), some (.int (nI s))], [], h) := by
  have hn := hd.1
  have en := hd.2.2.1
  intro k
  induction k with
  | zero =>
    intro s hs hno
    rw [show s = n by omega] at hno ⊢
    refine ia_walk (fun pc => Nat.beq pc 106) 60 (fun X hX => ?_)
    conv => whnf
    refine And.intro (fun c => ?_) (fun c => ?_)
    · exact absurd (show nI n < h.1 52 10 from c) (by rw [en]; exact nI_nlt (by omega) (by omega))
    · conv => whnf
      refine And.intro (fun c2 => ?_) (fun c2 => ?_)
      · conv => whnf
        exact hZ _ (Or.inr ⟨hno, (if_pos c2).symm⟩)
      · conv => whnf
        exact hZ _ (Or.inr ⟨hno, (if_neg c2).symm⟩)
  | succ k ih =>
    intro s hs hno
    have hl := sel_len (cuP sd A B q) s
    have ih := ih (s + 1) (by omega)
    refine ia_walk (fun pc => Nat.beq pc 106) 60 (fun X hX => ?_)
    conv => whnf
    refine And.intro (fun c => ?_) (fun c => ?_)
    · conv => whnf
      obtain ⟨v, ev, ev'⟩ := ia_callN (m_isCut h n G sd A B hd q hq s (by omega))
      refine Exists.intro (_, _) (And.intro ev' ?_)
      clear ev'
      conv => whnf
      refine And.intro (fun c1 => ?_) (fun c1 => ?_)
      · have hp : cuP sd A B q s = false := by
          cases e : cuP sd A B q s
          · rfl
          · rw [ev, e] at c1; exact absurd c1 (by decide)
        conv => whnf
        rw [nI_1]
        rw [sel_f hp] at ih
        exact hX _ (ih hno)
      · have hp : cuP sd A B q s = true := by
          cases e : cuP sd A B q s
          · rw [ev, e] at c1; exact absurd rfl c1
          · rfl
        conv => whnf
        refine And.intro (fun c2 => ?_) (fun c2 => ?_)
        · obtain ⟨q1, q2⟩ := sel_at hp (n := n) (by omega)
          have c2 : nI (sel (cuP sd A B q) s).length = kk := c2
          conv => whnf
          exact hZ _ (Or.inl ⟨_, q1, c2.symm, by rw [q2]⟩)
        · have c2 : ¬ nI (sel (cuP sd A B q) s).length = kk := c2
          conv => whnf
          rw [nI_1, nI_1]
          rw [sel_t hp, List.length_append] at ih
          refine hX _ (ih (fun j hj e => ?_))
          have hj : j < (sel (cuP sd A B q) s).length + 1 := hj
          by_cases z : j = (sel (cuP sd A B q) s).length
          · exact c2 (by rw [← z]; exact e.symm)
          · exact hno j (by omega) e
    · exact absurd (show nI s < h.1 52 10 by rw [en]; exact nI_lt (by omega) (by omega)) c
/-- a heap like another but for what the reference's cut uses -/
def frM (h H : ia_H) : Prop := (∀ y, y ≠ 66 → y ≠ 67 → y ≠ 72 → y ≠ 73 → H.1 y = h.1 y) ∧ H.2 = h.2
theorem frM_hC {h H : ia_H} (hf : frM h H) (I Q C : Nat → Int32) : frM h (hC H I Q C) := by
  refine ⟨fun y h1 h2 h3 h4 => ?_, hf.2⟩
  show (if y = 73 then C else if y = 67 then Q else if y = 66 then I else H.1 y) = h.1 y
  rw [if_neg h4, if_neg h2, if_neg h1]
  exact hf.1 y h1 h2 h3 h4
theorem frM_72 {h H : ia_H} (hf : frM h H) (f : Nat → Int32) : frM h (hsI H 72 f) := by
  refine ⟨fun y h1 h2 h3 h4 => ?_, hf.2⟩
  show (if y = 72 then f else H.1 y) = h.1 y
  rw [if_neg h3]
  exact hf.1 y h1 h2 h3 h4
theorem mdOk_fr {h H : ia_H} {n G : Nat} {sd : Nat → Bool} {A B : Nat → Nat} (hd : mdOk h n G sd A B) (hf : frM h H) : mdOk H n G sd A B := by
  obtain ⟨h1, h2, h3, h4, h5, h6⟩ := hd
  refine ⟨h1, h2, ?_, ?_, fun s hs => ?_, h6⟩
  · rw [hf.1 52 (by decide) (by decide) (by decide) (by decide)]; exact h3
  · rw [hf.1 52 (by decide) (by decide) (by decide) (by decide)]; exact h4
  · rw [hf.1 56 (by decide) (by decide) (by decide) (by decide), hf.1 57 (by decide) (by decide) (by decide) (by decide), hf.1 62 (by decide) (by decide) (by decide) (by decide)]; exact h5 s hs
theorem l_mcut2 (h : ia_H) (n G : Nat) (sd : Nat → Bool) (A B : Nat → Nat) (hd : mdOk h n G sd A B) (x : Nat) (hx : x < n) (kk : Int32) (hkk : ∀ j : Nat, j < 0 → ¬ kk = nI j) (a4 : Option Value) (N : Nat) (n2 : ∀ j, j < N → B x ∈ (cuS sd A B (A x) (cuQ sd A B (A x) (B x) j)).1) (n1 : ¬ B x ∈ (cuS sd A B (A x) (cuQ sd A B (A x) (B x) N)).1) {Z : Option Value → ia_H → Prop} (hZ : ∀ v H, frM h H → lsA (sel (cuP sd A B (cuS sd A B (A x) (cuQ sd A B (A x) (B x) N)).1) n) kk v → Z (some (.int v)) H) :
    ∀ (k i : Nat) (a3 : Option Value) (H : ia_H), i + k = N → frM h H → fAg n (H.1 72) (cuQ sd A B (A x) (B x) i) → irOk G (H.1 66) (cuS sd A B (A x) (cuQ sd A B (A x) (B x) i)).1 → cbOk (H.1 73) (cuS sd A B (A x) (cuQ sd A B (A x) (B x) i)).2.2 (cuS sd A B (A x) (cuQ sd A B (A x) (B x) i)).1 → R_ ia_k_X8_cut Z (58, [some (.ref 52), some (.int (nI x)), some (.int kk), a3, a4], [], H) := by
  have hn := hd.1
  have hG := hd.2.1
  obtain ⟨x1, x2, x3, x4, x5, -⟩ := hd.2.2.2.2.1 x hx
  have hdt : ∀ w, w < 240 → cst sd w = true → cdt A B w < G := fun w h1 h2 => (md_dt hd w h1 h2).1
  intro k
  induction k with
  | zero =>
    intro i a3 H hi hf hag hir hcb
    have ei : i = N := by omega
    subst ei
    have hdH := mdOk_fr hd hf
    obtain ⟨y1, -, y3, -, -, -⟩ := hdH.2.2.2.2.1 x hx
    refine ia_walk (fun pc => Nat.beq pc 106) 60 (fun X hX => ?_)
    conv => whnf
    refine Exists.intro _ (And.intro (And.intro rfl (by omega)) ?_)
    conv => whnf
    refine Exists.intro (B x) (And.intro (And.intro (y3) (by omega)) ?_)
    conv => whnf
    refine And.intro (fun c => ?_) (fun c => ?_)
    · conv => whnf
      exact hX _ (l_mcut3 H n G sd A B hdH _ hir (nI x) kk (fun v hv => hZ v H hf hv) n 0 (by omega) (fun j hj => hkk j hj))
    · exact absurd (show H.1 66 (B x) = 0 from (hir _ x4).2 n1) c
  | succ k ih =>
    intro i a3 H hi hf hag hir hcb
    have hdH := mdOk_fr hd hf
    obtain ⟨y1, -, y3, -, -, -⟩ := hdH.2.2.2.2.1 x hx
    have hin := n2 i (by omega)
    obtain ⟨okF, -, -, -⟩ := bsF_all (sr := csr A B) (rm := rmF (cuQ sd A B (A x) (B x) i)) hG hdt x2
    have okF : bsOk G (cuS sd A B (A x) (cuQ sd A B (A x) (B x) i)) := okF
    have hWy := cuW_ok (A := A) (B := B) hG hdt x2 (cuQ sd A B (A x) (B x) i)
    obtain ⟨-, kd, kd1, kd2⟩ := okF.2.1 _ hin
    have hl := bsOk_len okF
    have ek : ((cuS sd A B (A x) (cuQ sd A B (A x) (B x) i)).2.1 (B x)).toNatClampNeg = kd := by rw [kd2]; exact nI_clamp (by omega)
    have hlp := v_laysPath H n G sd A B hdH _ _ (A x) x2 _ okF hWy hcb (B x) kd hin kd2 (by omega)
    have hf2 := frM_72 hf (pfF (cuW sd A B (A x) (cuQ sd A B (A x) (B x) i)) (csr A B) kd (B x) (H.1 72))
    have hag2 : fAg n (pfF (cuW sd A B (A x) (cuQ sd A B (A x) (B x) i)) (csr A B) kd (B x) (H.1 72)) (cuQ sd A B (A x) (B x) (i + 1)) := by
      rw [cuQ, cuN, ek]
      exact fAg_pf hag
    generalize pfF (cuW sd A B (A x) (cuQ sd A B (A x) (B x) i)) (csr A B) kd (B x) (H.1 72) = F at hlp hf2 hag2
    have hd2 := mdOk_fr hd hf2
    obtain ⟨z1, -, z3, -, -, -⟩ := hd2.2.2.2.2.1 x hx
    obtain ⟨r', h2, evs, w1, I, Q, C, w2, w3, w4⟩ := v_spreads (hsI H 72 F) n G sd A B hd2 (A x) x2
    have e0 : bsF (cst sd) (csr A B) (cdt A B) (rmF ((hsI H 72 F).1 72)) (A x) bs0 = cuS sd A B (A x) (cuQ sd A B (A x) (B x) (i + 1)) := bsR_rm2 (rm_ag hd.2.2.2.2.2 hag2) _ _ _
    rw [e0] at w2 w3
    subst w1
    subst w4
    rw [← z1] at evs
    refine ia_walk (fun pc => Nat.beq pc 58) 60 (fun X hX => ?_)
    conv => whnf
    refine Exists.intro _ (And.intro (And.intro rfl (by omega)) ?_)
    conv => whnf
    refine Exists.intro (B x) (And.intro (And.intro (y3) (by omega)) ?_)
    conv => whnf
    refine And.intro (fun c => ?_) (fun c => ?_)
    · exact absurd (show H.1 66 (B x) = 0 from c) (by rw [(hir _ x4).1 hin]; decide)
    · conv => whnf
      refine Exists.intro _ (And.intro (And.intro rfl (by omega)) ?_)
      conv => whnf
      rw [y1]
      conv => whnf
      refine Exists.intro _ (And.intro (And.intro rfl (by omega)) ?_)
      conv => whnf
      rw [y3]
      refine Exists.intro (_, _) (And.intro (ia_callE hlp) ?_)
      conv => whnf
      refine Exists.intro _ (And.intro (And.intro rfl (by omega)) ?_)
      conv => whnf
      refine Exists.intro (_, _) (And.intro evs ?_)
      conv => whnf
      exact hX _ (ih (i + 1) a3 _ (by omega) (frM_hC hf2 I Q C) hag2 w2 w3)
theorem l_mcut1 (h : ia_H) (n G : Nat) (sd : Nat → Bool) (A B : Nat → Nat) (hd : mdOk h n G sd A B) (a1 a2 : Int32) {Z : Option Value → ia_H → Prop} (hZ : ∀ (H : ia_H) (a3 : Option Value), frM h H → fAg n (H.1 72) (fun _ => 0) → R_ ia_k_X8_cut Z (48, [some (.ref 52), some (.int a1), some (.int a2), a3, none], [], H)) :
    ∀ (k s : Nat) (F : Nat → Int32), s + k = n → fAg s F (fun _ => 0) → R_ ia_k_X8_cut Z (27, [some (.ref 52), some (.int a1), some (.int a2), some (.int (nI s)), none], [], hsI h 72 F) := by
  have hn := hd.1
  have en := hd.2.2.1
  intro k
  induction k with
  | zero =>
    intro s F hs hF
    rw [show s = n by omega] at hF ⊢
    refine ia_walk (fun pc => Nat.beq pc 48) 60 (fun X hX => ?_)
    conv => whnf
    refine And.intro (fun c => ?_) (fun c => ?_)
    · exact absurd (show nI n < h.1 52 10 from c) (by rw [en]; exact nI_nlt (by omega) (by omega))
    · conv => whnf
      exact hX _ (hZ _ _ (frM_72 ⟨fun _ _ _ _ _ => rfl, rfl⟩ F) hF)
  | succ k ih =>
    intro s F hs hF
    refine ia_walk (fun pc => Nat.beq pc 27) 60 (fun X hX => ?_)
    conv => whnf
    refine And.intro (fun c => ?_) (fun c => ?_)
    · conv => whnf
      refine Exists.intro _ (And.intro (And.intro rfl (by omega)) ?_)
      conv => whnf
      rw [nI_1]
      have := ih (s + 1) (upd F s 0) (by omega) (fun j hj => by
        show (if j = s then 0 else F j) = 0
        by_cases e : j = s
        · exact if_pos e
        · rw [if_neg e]; exact hF j (by omega))
      rw [← hsI_same h 72 F] at this
      exact hX _ this
    · exact absurd (show nI s < h.1 52 10 by rw [en]; exact nI_lt (by omega) (by omega)) c
/-- the reference's cut, of a refused statement -/
theorem m_cut1 (h : ia_H) (n G : Nat) (sd : Nat → Bool) (A B : Nat → Nat) (hd : mdOk h n G sd A B) (x : Nat) (hx : x < n) (hk : h.1 62 x = 2) (kk : Int32) (hkk : ¬ kk < -1) (N : Nat) (n2 : ∀ j, j < N → B x ∈ (cuS sd A B (A x) (cuQ sd A B (A x) (B x) j)).1) (n1 : ¬ B x ∈ (cuS sd A B (A x) (cuQ sd A B (A x) (B x) N)).1) : V_ 158 [.ref 52, .int (nI x), .int kk] h (fun r h' => ∃ v, r = some (.int v) ∧ frM h h' ∧ lsA (sel (cuP sd A B (cuS sd A B (A x) (cuQ sd A B (A x) (B x) N)).1) n) kk v) := by
  have hn := hd.1
  obtain ⟨x1, x2, x3, x4, x5, -⟩ := hd.2.2.2.2.1 x hx
  refine ia_V_in ia_k_X8_cut [some (.ref 52), some (.int (nI x)), some (.int kk), none, none] rfl rfl (Nat.le_of_ble_eq_true rfl) rfl ?_
  refine ia_walk (fun pc => Nat.beq pc 27) 60 (fun X hX => ?_)
  conv => whnf
  refine Exists.intro (_, _) (And.intro (ia_callE (m_isSt1 hd.2.2.1 (by omega) hx)) ?_)
  conv => whnf
  refine And.intro (fun c => ?_) (fun c => ?_)
  · exact absurd (show (1 : Int32) = 0 from c) (by decide)
  · conv => whnf
    refine Exists.intro _ (And.intro (And.intro rfl (by omega)) ?_)
    conv => whnf
    refine And.intro (fun c2 => ?_) (fun c2 => ?_)
    · conv => whnf
      refine And.intro (fun c3 => ?_) (fun c3 => ?_)
      · exact absurd c3 hkk
      · conv => whnf
        have l1 := l_mcut1 h n G sd A B hd (nI x) kk (Z := fun r h' => ∃ v, r = some (.int v) ∧ frM h h' ∧ lsA (sel (cuP sd A B (cuS sd A B (A x) (cuQ sd A B (A x) (B x) N)).1) n) kk v) (fun H a3 hf hF => by
          have hdH := mdOk_fr hd hf
          obtain ⟨y1, -, y3, -, -, -⟩ := hdH.2.2.2.2.1 x hx
          obtain ⟨r', h2, evs, w1, I, Q, C, w2, w3, w4⟩ := v_spreads H n G sd A B hdH (A x) x2
          have e0 : bsF (cst sd) (csr A B) (cdt A B) (rmF (H.1 72)) (A x) bs0 = cuS sd A B (A x) (cuQ sd A B (A x) (B x) 0) := bsR_rm2 (rm_ag hd.2.2.2.2.2 hF) _ _ _
          rw [e0] at w2 w3
          subst w1
          subst w4
          rw [← y1] at evs
          refine ia_walk (fun pc => Nat.beq pc 58) 60 (fun X hX => ?_)
          conv => whnf
          refine Exists.intro _ (And.intro (And.intro rfl (by omega)) ?_)
          conv => whnf
          refine Exists.intro (_, _) (And.intro evs ?_)
          conv => whnf
          exact hX _ (l_mcut2 h n G sd A B hd x hx kk (fun j hj => absurd hj (Nat.not_lt_zero j)) none N n2 n1 (fun v H hf hv => ⟨v, rfl, hf, hv⟩) N 0 a3 _ (by omega) (frM_hC hf I Q C) hF w2 w3)) n 0 (h.1 72) (by omega) (fun j hj => absurd hj (Nat.not_lt_zero j))
        rw [hsI_eta] at l1
        exact hX _ l1
    · exact absurd hk c2
theorem m_cut0 (h : ia_H) (n : Nat) (hn : n ≤ 120) (en : h.1 52 10 = nI n) (x kk : Int32) (hb : bad x n ∨ (∃ j, j < n ∧ x = nI j ∧ ¬ h.1 62 j = 2) ∨ kk < -1) : V_ 158 [.ref 52, .int x, .int kk] h (Z_ (.int (-1)) h) := by
  rcases bad_or x (show n < 2 ^ 31 by omega) with hb1 | ⟨j, hj, rfl⟩
  · refine ia_V_in ia_k_X8_cut [some (.ref 52), some (.int x), some (.int kk), none, none] rfl rfl (Nat.le_of_ble_eq_true rfl) rfl ?_
    refine ia_walk (fun _ => false) 50 (fun X hX => ?_)
    conv => whnf
    refine Exists.intro (_, _) (And.intro (ia_callE (m_isSt0 en hb1)) ?_)
    conv => whnf
    refine And.intro (fun c => ?_) (fun c => ?_)
    · conv => whnf
      exact ⟨rfl, rfl⟩
    · exact absurd rfl c
  · have hb2 : ¬ h.1 62 j = 2 ∨ kk < -1 := by
      rcases hb with q | ⟨i, hi, ei, q⟩ | q
      · rcases q with q | q
        · exact absurd q (nI_pos (by omega))
        · exact absurd (nI_lt hj (by omega)) (Int32.not_lt.mpr q)
      · rw [nI_inj (by omega) (by omega) ei]; exact Or.inl q
      · exact Or.inr q
    refine ia_V_in ia_k_X8_cut [some (.ref 52), some (.int (nI j)), some (.int kk), none, none] rfl rfl (Nat.le_of_ble_eq_true rfl) rfl ?_
    refine ia_walk (fun pc => Nat.beq pc 25) 50 (fun X hX => ?_)
    conv => whnf
    refine Exists.intro (_, _) (And.intro (ia_callE (m_isSt1 en (by omega) hj)) ?_)
    conv => whnf
    refine And.intro (fun c => ?_) (fun c => ?_)
    · exact absurd (show (1 : Int32) = 0 from c) (by decide)
    · conv => whnf
      refine Exists.intro _ (And.intro (And.intro rfl (by omega)) ?_)
      conv => whnf
      refine And.intro (fun c2 => ?_) (fun c2 => ?_)
      · conv => whnf
        refine And.intro (fun c3 => ?_) (fun c3 => ?_)
        · conv => whnf
          exact ⟨rfl, rfl⟩
        · exact absurd hb2 (fun q => q.elim (fun z => z c2) c3)
      · conv => whnf
        exact ⟨rfl, rfl⟩
