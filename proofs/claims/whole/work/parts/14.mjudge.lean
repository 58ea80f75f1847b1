/-! The reference's judging -/
def mjR (L : Nat → Int32) (O : Nat → Int64) (la lb : Int32) (sh : Int64) : Nat → Int64 × Int64 × Bool
  | 0 => (0, 0, true)
  | n + 1 => match mjR L O la lb sh n with
    | (lo, hi, f) => if L n = la then (if f = true ∨ O n + sh < lo then O n + sh else lo, if f = true ∨ hi < O n + sh then O n + sh else hi, false)
      else if L n = lb then (if f = true ∨ O n < lo then O n else lo, if f = true ∨ hi < O n then O n else hi, false) else (lo, hi, f)
def mjF (L : Nat → Int32) (O : Nat → Int64) (G a b : Nat) (m : Int64) : Int32 :=
  if L a = L b then (if O a - O b = m then 1 else 2)
  else if 1000000000000000000 < (mjR L O (L a) (L b) (O b + m - O a) G).2.1 - (mjR L O (L a) (L b) (O b + m - O a) G).1 then 3 else 0
theorem l_judgedAs (h : ia_H) (s a b G : Nat) (hs : s < 132) (ha : a < 41) (hb : b < 41) (hG : G ≤ 41) (eG : h.1 52 4 = nI G) (sh : Int64) {Z : Option Value → ia_H → Prop} (hZ : Z (some (.int (if 1000000000000000000 < (mjR (h.1 60) (h.2 61) (h.1 60 a) (h.1 60 b) sh G).2.1 - (mjR (h.1 60) (h.2 61) (h.1 60 a) (h.1 60 b) sh G).1 then 3 else 0))) h) : ∀ k g : Nat, g + k = G → ∀ (lo hi : Int64) (f : Bool) (w : Option Value), (lo, hi, f) = mjR (h.1 60) (h.2 61) (h.1 60 a) (h.1 60 b) sh g → R_ ia_k_X8_judgedAs Z (92, [some (.ref 52), some (.int (nI s)), some (.int (nI a)), some (.int (nI b)), some (.long sh), none, some (.long lo), none, some (.long hi), none, some (.int (bif f then 1 else 0)), some (.int (nI g)), w, none], [], h) := by
  intro k
  induction k with
  | zero =>
    intro g hg lo hi f w hm
    have eg : g = G := by omega
    subst eg
    rw [← hm] at hZ
    refine ia_walk (fun pc => Nat.beq pc 92) 50 (fun X hX => ?_)
    conv => whnf
    refine And.intro (fun c => ?_) (fun c => ?_)
    · exact absurd c (by show ¬ nI g < h.1 52 4; rw [eG]; exact nI_nlt (Nat.le_refl g) (by omega))
    · conv => whnf
      refine And.intro (fun c2 => ?_) (fun c2 => ?_)
      · conv => whnf
        exact (by rw [if_pos ((lg_cmp_gt _ _).mp c2)] at hZ; exact hZ)
      · conv => whnf
        exact (by rw [if_neg (fun q => c2 ((lg_cmp_gt _ _).mpr q))] at hZ; exact hZ)
  | succ k ih =>
    intro g hg lo hi f w hm
    have step : ∀ (lo2 hi2 : Int64) (f2 : Bool) (w2 : Option Value), (lo2, hi2, f2) = mjR (h.1 60) (h.2 61) (h.1 60 a) (h.1 60 b) sh (g + 1) → R_ ia_k_X8_judgedAs Z (221, [some (.ref 52), some (.int (nI s)), some (.int (nI a)), some (.int (nI b)), some (.long sh), none, some (.long lo2), none, some (.long hi2), none, some (.int (bif f2 then 1 else 0)), some (.int (nI g)), w2, none], [], h) := by
      intro lo2 hi2 f2 w2 h2
      refine ia_walk (fun pc => Nat.beq pc 92) 50 (fun X hX => ?_)
      conv => whnf
      rw [nI_1]
      exact hX _ (ih (g + 1) (by omega) lo2 hi2 f2 w2 h2)
    have val : ∀ x : Int64, ((if f = true ∨ x < lo then x else lo, if f = true ∨ hi < x then x else hi, false) : Int64 × Int64 × Bool) = mjR (h.1 60) (h.2 61) (h.1 60 a) (h.1 60 b) sh (g + 1) → R_ ia_k_X8_judgedAs Z (172, [some (.ref 52), some (.int (nI s)), some (.int (nI a)), some (.int (nI b)), some (.long sh), none, some (.long lo), none, some (.long hi), none, some (.int (bif f then 1 else 0)), some (.int (nI g)), w, none], [.long x], h) := by
      intro x hx
      cases f with
      | true =>
        refine ia_walk (fun pc => Nat.beq pc 221) 50 (fun X hX => ?_)
        conv => whnf
        refine And.intro (fun c => ?_) (fun c => ?_)
        · exact absurd c (by decide)
        · conv => whnf
          refine And.intro (fun c2 => ?_) (fun c2 => ?_)
          · exact absurd c2 (by decide)
          · conv => whnf
            exact hX _ (step x x false (some (.long x)) (by rw [← hx]; simp))
      | false =>
        refine ia_walk (fun pc => Nat.beq pc 221) 50 (fun X hX => ?_)
        conv => whnf
        refine And.intro (fun c => ?_) (fun c => ?_)
        · conv => whnf
          refine And.intro (fun c2 => ?_) (fun c2 => ?_)
          · conv => whnf
            refine And.intro (fun c3 => ?_) (fun c3 => ?_)
            · conv => whnf
              refine And.intro (fun c4 => ?_) (fun c4 => ?_)
              · conv => whnf
                exact hX _ (step x x false (some (.long x)) (by rw [← hx, if_pos (Or.inr ((lg_cmp_lt _ _).mp c2)), if_pos (Or.inr ((lg_cmp_gt _ _).mp c4))]))
              · conv => whnf
                exact hX _ (step x hi false (some (.long x)) (by rw [← hx, if_pos (Or.inr ((lg_cmp_lt _ _).mp c2)), if_neg (fun q => q.elim (fun z => by cases z) (fun z => c4 ((lg_cmp_gt _ _).mpr z)))]))
            · exact absurd rfl c3
          · conv => whnf
            refine And.intro (fun c3 => ?_) (fun c3 => ?_)
            · conv => whnf
              refine And.intro (fun c4 => ?_) (fun c4 => ?_)
              · conv => whnf
                exact hX _ (step lo x false (some (.long x)) (by rw [← hx, if_neg (fun q => q.elim (fun z => by cases z) (fun z => c2 ((lg_cmp_lt _ _).mpr z))), if_pos (Or.inr ((lg_cmp_gt _ _).mp c4))]))
              · conv => whnf
                exact hX _ (step lo hi false (some (.long x)) (by rw [← hx, if_neg (fun q => q.elim (fun z => by cases z) (fun z => c2 ((lg_cmp_lt _ _).mpr z))), if_neg (fun q => q.elim (fun z => by cases z) (fun z => c4 ((lg_cmp_gt _ _).mpr z)))]))
            · exact absurd rfl c3
        · exact absurd rfl c
    have from136 : ((if h.1 60 g = h.1 60 a then (if f = true ∨ h.2 61 g + sh < lo then h.2 61 g + sh else lo, if f = true ∨ hi < h.2 61 g + sh then h.2 61 g + sh else hi, false) else (if f = true ∨ h.2 61 g < lo then h.2 61 g else lo, if f = true ∨ hi < h.2 61 g then h.2 61 g else hi, false)) : Int64 × Int64 × Bool) = mjR (h.1 60) (h.2 61) (h.1 60 a) (h.1 60 b) sh (g + 1) → R_ ia_k_X8_judgedAs Z (136, [some (.ref 52), some (.int (nI s)), some (.int (nI a)), some (.int (nI b)), some (.long sh), none, some (.long lo), none, some (.long hi), none, some (.int (bif f then 1 else 0)), some (.int (nI g)), w, none], [], h) := by
      intro h6
      refine ia_walk (fun pc => Nat.beq pc 172) 50 (fun X hX => ?_)
      conv => whnf
      refine Exists.intro _ (And.intro (And.intro rfl (by omega)) ?_)
      conv => whnf
      refine Exists.intro _ (And.intro (And.intro rfl (ha)) ?_)
      conv => whnf
      refine And.intro (fun c => ?_) (fun c => ?_)
      · rw [if_pos c] at h6
        conv => whnf
        refine Exists.intro _ (And.intro (And.intro rfl (by omega)) ?_)
        conv => whnf
        exact hX _ (val _ h6)
      · rw [if_neg c] at h6
        conv => whnf
        refine Exists.intro _ (And.intro (And.intro rfl (by omega)) ?_)
        conv => whnf
        exact hX _ (val _ h6)
    refine ia_walk (fun pc => Nat.beq pc 136 || Nat.beq pc 221) 50 (fun X hX => ?_)
    conv => whnf
    refine And.intro (fun c => ?_) (fun c => ?_)
    · conv => whnf
      refine Exists.intro _ (And.intro (And.intro rfl (by omega)) ?_)
      conv => whnf
      refine Exists.intro _ (And.intro (And.intro rfl (ha)) ?_)
      conv => whnf
      refine And.intro (fun c1 => ?_) (fun c1 => ?_)
      · conv => whnf
        exact hX _ (from136 (by rw [if_pos c1]; show _ = mjR _ _ _ _ _ (g + 1); rw [mjR, ← hm]; simp only [if_pos (show h.1 60 g = h.1 60 a from c1)]))
      · conv => whnf
        refine Exists.intro _ (And.intro (And.intro rfl (by omega)) ?_)
        conv => whnf
        refine Exists.intro _ (And.intro (And.intro rfl (hb)) ?_)
        conv => whnf
        refine And.intro (fun c2 => ?_) (fun c2 => ?_)
        · conv => whnf
          exact hX _ (from136 (by rw [if_neg c1]; show _ = mjR _ _ _ _ _ (g + 1); rw [mjR, ← hm]; simp only [if_neg (show ¬ h.1 60 g = h.1 60 a from c1), if_pos (show h.1 60 g = h.1 60 b from c2)]))
        · conv => whnf
          exact hX _ (step lo hi f w (by rw [mjR, ← hm]; simp only [if_neg (show ¬ h.1 60 g = h.1 60 a from c1), if_neg (show ¬ h.1 60 g = h.1 60 b from c2)]))
    · exact absurd (by show nI g < h.1 52 4; rw [eG]; exact nI_lt (by omega) (by omega)) c
theorem v_judgedAs (h : ia_H) (s a b G : Nat) (hs : s < 132) (ha : a < 41) (hb : b < 41) (hG : G ≤ 41) (eG : h.1 52 4 = nI G) (e1 : h.1 56 s = nI a) (e2 : h.1 57 s = nI b) : V_ 115 [.ref 52, .int (nI s)] h (Z_ (.int (mjF (h.1 60) (h.2 61) G a b (h.2 58 s))) h) := by
  refine ia_V_in ia_k_X8_judgedAs [some (.ref 52), some (.int (nI s)), none, none, none, none, none, none, none, none, none, none, none, none] rfl rfl (Nat.le_of_ble_eq_true rfl) rfl ?_
  refine ia_walk (fun pc => Nat.beq pc 92) 90 (fun X hX => ?_)
  conv => whnf
  refine Exists.intro _ (And.intro (And.intro rfl (hs)) ?_)
  conv => whnf
  refine Exists.intro _ (And.intro (And.intro rfl (hs)) ?_)
  conv => whnf
  refine Exists.intro (a) (And.intro (And.intro (e1) (ha)) ?_)
  conv => whnf
  refine Exists.intro (b) (And.intro (And.intro (e2) (hb)) ?_)
  conv => whnf
  refine And.intro (fun c => ?_) (fun c => ?_)
  · conv => whnf
    refine Exists.intro (a) (And.intro (And.intro (e1) (ha)) ?_)
    conv => whnf
    refine Exists.intro (b) (And.intro (And.intro (e2) (hb)) ?_)
    conv => whnf
    refine Exists.intro _ (And.intro (And.intro rfl (hs)) ?_)
    conv => whnf
    refine And.intro (fun c2 => ?_) (fun c2 => ?_)
    · conv => whnf
      exact ⟨by unfold mjF; rw [if_pos c, if_pos ((lg_cmp_eq _ _).mp c2)], rfl⟩
    · conv => whnf
      exact ⟨by unfold mjF; rw [if_pos c, if_neg (fun q => c2 ((lg_cmp_eq _ _).mpr q))], rfl⟩
  · conv => whnf
    refine Exists.intro (b) (And.intro (And.intro (e2) (hb)) ?_)
    conv => whnf
    refine Exists.intro _ (And.intro (And.intro rfl (hs)) ?_)
    conv => whnf
    refine Exists.intro (a) (And.intro (And.intro (e1) (ha)) ?_)
    conv => whnf
    rw [e1, e2]
    exact hX _ (l_judgedAs h s a b G hs ha hb hG eG _ ⟨by unfold mjF; rw [if_neg c], rfl⟩ G 0 (by omega) 0 0 true none rfl)
