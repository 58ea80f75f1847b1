/-! The reference's judges -/
def hN (h : ia_H) (L : Nat → Int32) (O : Nat → Int64) (V : Nat → Int32) : ia_H := hsI (hM h L O) 62 V
theorem hN_put (h : ia_H) (L : Nat → Int32) (O : Nat → Int64) (V W : Nat → Int32) : hsI (hN h L O V) 62 W = hN h L O W := hsI_same _ _ _ _
theorem hN_M (h : ia_H) (L L2 : Nat → Int32) (O O2 : Nat → Int64) (V : Nat → Int32) : hM (hN h L O V) L2 O2 = hN h L2 O2 V := by
  refine Prod.ext (funext fun y => ?_) (funext fun y => ?_)
  · simp only [hM, hN, hsI, hsL]
    by_cases h1 : y = 60
    · subst h1; simp
    · by_cases h2 : y = 62
      · subst h2; simp
      · simp [h1, h2]
  · simp only [hM, hN, hsI, hsL]
    by_cases h1 : y = 61
    · subst h1; simp
    · simp [h1]
def mgS (G : Nat) (A B : Nat → Nat) (m : Nat → Int64) (out : Nat → Int32) (s : Nat) (t : jgT) : jgT :=
  if out s = 0 then (if mjF t.1 t.2.1 G (A s) (B s) (m s) = 0 then (mqL t.1 G (A s) (B s), mqO t.1 t.2.1 G (A s) (B s) (t.1 (A s)).toNatClampNeg (m s), upd t.2.2 s 0) else (t.1, t.2.1, upd t.2.2 s (mjF t.1 t.2.1 G (A s) (B s) (m s)))) else (t.1, t.2.1, upd t.2.2 s 4)
def mgR (G : Nat) (A B : Nat → Nat) (m : Nat → Int64) (out : Nat → Int32) (t : jgT) : Nat → jgT
  | 0 => t
  | s + 1 => mgS G A B m out s (mgR G A B m out t s)
/-- groups are gauges -/
def gOk (L : Nat → Int32) (G : Nat) : Prop := ∀ g, g < G → ∃ l, l < 41 ∧ L g = nI l
theorem mgR_ok {G : Nat} {A B : Nat → Nat} {m : Nat → Int64} {out : Nat → Int32} {t : jgT} {n : Nat} (h0 : gOk t.1 G) (hA : ∀ s, s < n → A s < G) (hB : ∀ s, s < n → B s < G) : ∀ s, s ≤ n → gOk (mgR G A B m out t s).1 G := by
  intro s
  induction s with
  | zero => exact fun _ => h0
  | succ s ih =>
    intro hs
    have ih := ih (by omega)
    rw [mgR]
    generalize mgR G A B m out t s = u at ih
    unfold mgS
    by_cases h1 : out s = 0
    · rw [if_pos h1]
      by_cases h2 : mjF u.1 u.2.1 G (A s) (B s) (m s) = 0
      · rw [if_pos h2]
        intro g hg
        show ∃ l, l < 41 ∧ mqL u.1 G (A s) (B s) g = nI l
        unfold mqL mgL
        by_cases h3 : g < G ∧ (u.1 g = u.1 (A s) ∨ u.1 g = u.1 (B s))
        · rw [if_pos h3]
          unfold mqX
          by_cases h4 : u.1 (A s) < u.1 (B s)
          · rw [if_pos h4]; exact ih _ (hA s (by omega))
          · rw [if_neg h4]; exact ih _ (hB s (by omega))
        · rw [if_neg h3]; exact ih g hg
      · rw [if_neg h2]; exact ih
    · rw [if_neg h1]; exact ih
theorem l_judges (h : ia_H) (n G : Nat) (hn : n ≤ 120) (hG : G ≤ 41) (hst : h.1 52 10 = nI n) (eG : h.1 52 4 = nI G) (A B : Nat → Nat) (hA : ∀ s, s < n → h.1 56 s = nI (A s) ∧ A s < G) (hB : ∀ s, s < n → h.1 57 s = nI (B s) ∧ B s < G) (t0 : jgT) (ht0 : gOk t0.1 G) {Z : Option Value → ia_H → Prop} (hZ : Z none (hN h (mgR G A B (h.2 58) (h.1 59) t0 n).1 (mgR G A B (h.2 58) (h.1 59) t0 n).2.1 (mgR G A B (h.2 58) (h.1 59) t0 n).2.2)) : ∀ k s : Nat, s + k = n → ∀ t : jgT, t = mgR G A B (h.2 58) (h.1 59) t0 s → R_ ia_k_X8_judges Z (32, [some (.ref 52), some (.int (nI s))], [], hN h t.1 t.2.1 t.2.2) := by
  intro k
  induction k with
  | zero =>
    intro s hs t ht
    have es : s = n := by omega
    subst es
    refine ia_walk (fun pc => Nat.beq pc 32) 50 (fun X hX => ?_)
    conv => whnf
    refine And.intro (fun c => ?_) (fun c => ?_)
    · exact absurd c (by show ¬ nI s < h.1 52 10; rw [hst]; exact nI_nlt (Nat.le_refl s) (by omega))
    · conv => whnf
      rw [ht]
      exact hZ
  | succ k ih =>
    intro s hs t ht
    have hok : gOk t.1 G := by rw [ht]; exact mgR_ok (n := n) ht0 (fun s hs => (hA s hs).2) (fun s hs => (hB s hs).2) s (by omega)
    obtain ⟨L, O, V⟩ := t
    have hlt : s < n := by omega
    obtain ⟨a1, a2⟩ := hA s hlt
    obtain ⟨b1, b2⟩ := hB s hlt
    obtain ⟨la, la1, la2⟩ := hok (A s) a2
    have ela : (L (A s)).toNatClampNeg = la := by rw [show L (A s) = nI la from la2]; exact nI_clamp (by omega)
    have tail : ∀ v : Int32, (¬ v = 0 → mgS G A B (h.2 58) (h.1 59) s (L, O, V) = (L, O, upd V s v)) → (v = 0 → mgS G A B (h.2 58) (h.1 59) s (L, O, V) = (mqL L G (A s) (B s), mqO L O G (A s) (B s) la (h.2 58 s), upd V s v)) → R_ ia_k_X8_judges Z (63, [some (.ref 52), some (.int (nI s))], [.int v, .int (nI s), .ref 62], hN h L O V) := by
      intro v hv1 hv2
      refine ia_walk (fun pc => Nat.beq pc 32) 50 (fun X hX => ?_)
      conv => whnf
      refine Exists.intro _ (And.intro (And.intro rfl (by omega)) ?_)
      conv => whnf
      refine Exists.intro _ (And.intro (And.intro rfl (by omega)) ?_)
      have ev : upd V s v s = v := by simp [upd]
      conv => whnf
      refine And.intro (fun c => ?_) (fun c => ?_)
      · have c0 : v = 0 := ev.symm.trans c
        conv => whnf
        have hj := v_joins (hN h L O (upd V s v)) s (A s) (B s) G la (by omega) (by omega) (by omega) hG la1 la2 eG a1 b1
        rw [← hN_put h L O V] at hj
        refine Exists.intro (_, _) (And.intro (ia_callE (r0 := none) (h0 := hN h (mqL L G (A s) (B s)) (mqO L O G (A s) (B s) la (h.2 58 s)) (upd V s v)) ?_) ?_)
        · obtain ⟨r, h2, g1, g2, g3⟩ := hj
          refine ⟨r, h2, g1, g2, ?_⟩
          rw [g3, hN_put, hN_M]
          rfl
        · conv => whnf
          rw [nI_1]
          refine hX _ (ih (s + 1) (by omega) (mqL L G (A s) (B s), mqO L O G (A s) (B s) la (h.2 58 s), upd V s v) ?_)
          rw [mgR, ← ht, hv2 c0]
      · conv => whnf
        rw [nI_1]
        have e := hN_put h L O V (upd V s v)
        refine hX _ (e ▸ ih (s + 1) (by omega) (L, O, upd V s v) ?_ : ia_Run _ _ _ _ (32, _, _, hsI (hN h L O V) 62 (upd V s v)))
        rw [mgR, ← ht, hv1 (fun q => c (ev.trans q))]
    refine ia_walk (fun pc => Nat.beq pc 63) 50 (fun X hX => ?_)
    conv => whnf
    refine And.intro (fun c => ?_) (fun c => ?_)
    · conv => whnf
      refine Exists.intro _ (And.intro (And.intro rfl (by omega)) ?_)
      conv => whnf
      refine And.intro (fun c2 => ?_) (fun c2 => ?_)
      · have hw := v_judgedAs (hN h L O V) s (A s) (B s) G (by omega) (by omega) (by omega) hG eG a1 b1
        conv => whnf
        obtain ⟨v, ev, ec⟩ := ia_callN (f := Value.int) hw
        refine Exists.intro (_, _) (And.intro ec ?_)
        have ev : v = mjF L O G (A s) (B s) (h.2 58 s) := ev
        have c2 : h.1 59 s = 0 := c2
        conv => whnf
        refine hX _ (tail v (fun q => ?_) (fun q => ?_))
        · unfold mgS
          rw [if_pos c2, if_neg (by rw [← ev]; exact q), ← ev]
        · unfold mgS
          rw [if_pos c2, if_pos (by rw [← ev]; exact q), q]
          show (_, mqO L O G (A s) (B s) (L (A s)).toNatClampNeg (h.2 58 s), _) = _
          rw [ela]
      · have c2 : ¬ h.1 59 s = 0 := c2
        conv => whnf
        refine hX _ (tail 4 (fun q => ?_) (fun q => absurd q (by decide)))
        unfold mgS
        rw [if_neg c2]
    · exact absurd (by show nI s < h.1 52 10; rw [hst]; exact nI_lt hlt (by omega)) c
theorem l_judges0 (h : ia_H) (G : Nat) (hG : G ≤ 41) (eG : h.1 52 4 = nI G) {Z : Option Value → ia_H → Prop} (hN0 : R_ ia_k_X8_judges Z (32, [some (.ref 52), some (.int 0)], [], hM h (jgL (h.1 60) G) (jgO (h.2 61) G))) : ∀ k g : Nat, g + k = G → R_ ia_k_X8_judges Z (2, [some (.ref 52), some (.int (nI g))], [], hM h (jgL (h.1 60) g) (jgO (h.2 61) g)) := by
  intro k
  induction k with
  | zero =>
    intro g hg
    have eg : g = G := by omega
    subst eg
    refine ia_walk (fun pc => Nat.beq pc 32) 50 (fun X hX => ?_)
    conv => whnf
    refine And.intro (fun c => ?_) (fun c => ?_)
    · exact absurd c (by show ¬ nI g < h.1 52 4; rw [eG]; exact nI_nlt (Nat.le_refl g) (by omega))
    · conv => whnf
      exact hX _ (hN0)
  | succ k ih =>
    intro g hg
    refine ia_walk (fun pc => Nat.beq pc 2) 50 (fun X hX => ?_)
    conv => whnf
    refine And.intro (fun c => ?_) (fun c => ?_)
    · conv => whnf
      refine Exists.intro _ (And.intro (And.intro rfl (by omega)) ?_)
      conv => whnf
      refine Exists.intro _ (And.intro (And.intro rfl (by omega)) ?_)
      conv => whnf
      rw [nI_1]
      have e : hsL (hsI (hM h (jgL (h.1 60) g) (jgO (h.2 61) g)) 60 (upd (jgL (h.1 60) g) g (nI g))) 61 (vp_updL (jgO (h.2 61) g) g 0) = hM h (jgL (h.1 60) (g + 1)) (jgO (h.2 61) (g + 1)) := by
        rw [jgL_s, jgO_s]
        unfold hM
        rw [hsIL, hsL_same, hsI_same]
      exact hX _ (e ▸ ih (g + 1) (by omega) : ia_Run _ _ _ _ (2, _, _, hsL (hsI (hM h (jgL (h.1 60) g) (jgO (h.2 61) g)) 60 (upd (jgL (h.1 60) g) g (nI g))) 61 (vp_updL (jgO (h.2 61) g) g 0)))
    · exact absurd (by show nI g < h.1 52 4; rw [eG]; exact nI_lt (by omega) (by omega)) c
def mgW (h : ia_H) (G : Nat) (A B : Nat → Nat) (n : Nat) : jgT := mgR G A B (h.2 58) (h.1 59) (jgL (h.1 60) G, jgO (h.2 61) G, h.1 62) n
theorem v_judges (h : ia_H) (n G : Nat) (hn : n ≤ 120) (hG : G ≤ 41) (hst : h.1 52 10 = nI n) (eG : h.1 52 4 = nI G) (A B : Nat → Nat) (hA : ∀ s, s < n → h.1 56 s = nI (A s) ∧ A s < G) (hB : ∀ s, s < n → h.1 57 s = nI (B s) ∧ B s < G) : V_ 117 [.ref 52] h (fun r h' => r = none ∧ h' = hN h (mgW h G A B n).1 (mgW h G A B n).2.1 (mgW h G A B n).2.2) := by
  refine ia_V_in ia_k_X8_judges [some (.ref 52), none] rfl rfl (Nat.le_of_ble_eq_true rfl) rfl ?_
  refine ia_walk (fun pc => Nat.beq pc 2) 50 (fun X hX => ?_)
  conv => whnf
  have e : hM h (jgL (h.1 60) 0) (jgO (h.2 61) 0) = h := by
    rw [jgL_0, jgO_0]
    unfold hM
    rw [hsI_eta, hsL_eta]
  have e2 : hN h (jgL (h.1 60) G) (jgO (h.2 61) G) (h.1 62) = hM h (jgL (h.1 60) G) (jgO (h.2 61) G) := hsI_eta (hM h (jgL (h.1 60) G) (jgO (h.2 61) G)) 62
  have key := l_judges0 h G hG eG (Z := fun r h' => r = none ∧ h' = hN h (mgW h G A B n).1 (mgW h G A B n).2.1 (mgW h G A B n).2.2) (by
    rw [← e2]
    exact l_judges h n G hn hG hst eG A B hA hB _ (fun g hg => ⟨g, by omega, by show (if g < G then nI g else _) = nI g; rw [if_pos hg]⟩) ⟨rfl, rfl⟩ n 0 (by omega) (jgL (h.1 60) G, jgO (h.2 61) G, h.1 62) rfl) G 0 (by omega)
  rw [e] at key
  exact hX _ key
