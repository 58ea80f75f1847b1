/-! acts of the class: add, takeBackLast, turn -/
/-- an act leads from a to b; x says which statement was turned, or none -/
def tdE (a b : tdT) : Prop := (∀ g, 1 ≤ g → g < tdG a → tdL a g = tdL b g ∧ ∀ k, tdC a g k = tdC b g k) ∧ ∀ s, s < tdN a → tdA a s = tdA b s ∧ tdB a s = tdB b s ∧ tdM a s = tdM b s
def acR (x : Int32) (a b : tdT) : Prop := tdE a b ∧ ((x = -1 ∧ tdG a ≤ tdG b ∧ tdN a ≤ tdN b ∧ ∀ s, s < tdN a → tdO a s = tdO b s) ∨ ∃ s0, s0 < tdN a ∧ x = nI s0 ∧ tdG a = tdG b ∧ tdN a = tdN b ∧ ∀ s, s < tdN a → tdO a s = if s = s0 then !tdO b s else tdO b s)
def aC (h : ia_H) (ts : Nat → tdT) (u p : Nat) : Prop := u ≤ 20 ∧ p < 20 ∧ h.1 43 3 = nI p ∧ h.1 43 4 = nI u ∧ ∀ k, k < u → h.1 45 ((p + 20 - u + k) % 20) = nI (tdG (ts k)) ∧ h.1 46 ((p + 20 - u + k) % 20) = nI (tdN (ts k)) ∧ acR (h.1 44 ((p + 20 - u + k) % 20)) (ts k) (ts (k + 1))
def tsP (ts : Nat → tdT) (u : Nat) (b : tdT) : Nat → tdT := if u < 20 then (fun k => if k = u + 1 then b else ts k) else (fun k => if k = 20 then b else ts (k + 1))
abbrev uP (u : Nat) : Nat := if u < 20 then u + 1 else 20
abbrev pP (p : Nat) : Nat := if p + 1 < 20 then p + 1 else 0
theorem tsP_top (ts : Nat → tdT) {u : Nat} (hu : u ≤ 20) (b : tdT) : tsP ts u b (uP u) = b := by
  unfold tsP uP
  by_cases h : u < 20
  · rw [if_pos h, if_pos h]; exact if_pos rfl
  · rw [if_neg h, if_neg h]; exact if_pos rfl
def hAd (h : ia_H) (p p2 u2 : Nat) (x : Int32) : ia_H := hsI (hsI (hsI (hsI h 44 (upd (h.1 44) p x)) 45 (upd (h.1 45) p (h.1 4 6))) 46 (upd (h.1 46) p (h.1 4 7))) 43 (upd (upd (h.1 43) 3 (nI p2)) 4 (nI u2))
theorem v_add (h : ia_H) (u p : Nat) (hu : u ≤ 20) (hp : p < 20) (e3 : h.1 43 3 = nI p) (e4 : h.1 43 4 = nI u) (x : Int32) : V_ 0 [.ref 43, .int x, .ref 4] h (fun r h' => r = none ∧ h' = hAd h p (pP p) (uP u) x) := by
  have emin : (if (20 : Int32) < h.1 43 4 + 1 then 20 else h.1 43 4 + 1) = nI (uP u) := by
    rw [e4, nI_1]
    by_cases q : u < 20
    · rw [if_neg (show ¬ (20 : Int32) < nI (u + 1) from nI_nlt (a := 20) (by omega) (by omega)), show uP u = u + 1 from if_pos q]
    · rw [if_pos (show (20 : Int32) < nI (u + 1) from nI_lt (a := 20) (by omega) (by omega)), show uP u = 20 from if_neg q]
      rfl
  refine ia_V_in ia_k_X0_add [some (.ref 43), some (.int x), some (.ref 4)] rfl rfl (Nat.le_of_ble_eq_true rfl) rfl ?_
  refine ia_walk (fun _ => false) 80 (fun X hX => ?_)
  conv => whnf
  refine Exists.intro (p) (And.intro (And.intro (e3) (hp)) ?_)
  conv => whnf
  refine Exists.intro (p) (And.intro (And.intro (e3) (hp)) ?_)
  conv => whnf
  refine Exists.intro (p) (And.intro (And.intro (e3) (hp)) ?_)
  conv => whnf
  refine And.intro (fun c => ?_) (fun c => ?_)
  · have c : h.1 43 3 + 1 < 20 := c
    have hq : p + 1 < 20 := by
      rw [e3, nI_1] at c
      exact (nI_ltI (b := 20) (by omega) (by decide)).mp c
    conv => whnf
    refine ⟨rfl, ?_⟩
    show hsI (hsI (hsI (hsI (hsI h 44 (upd (h.1 44) p x)) 45 (upd (h.1 45) p (h.1 4 6))) 46 (upd (h.1 46) p (h.1 4 7))) 43 (upd (h.1 43) 3 (h.1 43 3 + 1))) 43 (upd (upd (h.1 43) 3 (h.1 43 3 + 1)) 4 (if (20 : Int32) < h.1 43 4 + 1 then 20 else h.1 43 4 + 1)) = _
    rw [hsI_same, emin, e3, nI_1]
    unfold hAd
    rw [show pP p = p + 1 from if_pos hq]
  · have c : ¬ h.1 43 3 + 1 < 20 := c
    have hq : ¬ p + 1 < 20 := fun q => c (by rw [e3, nI_1]; exact nI_lt (b := 20) q (by omega))
    conv => whnf
    refine ⟨rfl, ?_⟩
    show hsI (hsI (hsI (hsI (hsI h 44 (upd (h.1 44) p x)) 45 (upd (h.1 45) p (h.1 4 6))) 46 (upd (h.1 46) p (h.1 4 7))) 43 (upd (h.1 43) 3 0)) 43 (upd (upd (h.1 43) 3 0) 4 (if (20 : Int32) < h.1 43 4 + 1 then 20 else h.1 43 4 + 1)) = _
    rw [hsI_same, emin]
    unfold hAd
    rw [show pP p = 0 from if_neg hq]
    rfl
theorem updp (f : Nat → Int32) (i : Nat) (v : Int32) : upd f i v i = v := if_pos rfl
theorem updn {f : Nat → Int32} {i j : Nat} {v : Int32} (h : ¬ j = i) : upd f i v j = f j := if_neg h
/-- the act is kept: the ring holds it -/
theorem aC_add {h H : ia_H} {ts : Nat → tdT} {u p : Nat} (ha : aC h ts u p) {x : Int32} {b : tdT} (hx : acR x (ts u) b) (eg : h.1 4 6 = nI (tdG (ts u))) (en : h.1 4 7 = nI (tdN (ts u))) (h43 : H.1 43 = (hAd h p (pP p) (uP u) x).1 43) (h44 : H.1 44 = (hAd h p (pP p) (uP u) x).1 44) (h45 : H.1 45 = (hAd h p (pP p) (uP u) x).1 45) (h46 : H.1 46 = (hAd h p (pP p) (uP u) x).1 46) : aC H (tsP ts u b) (uP u) (pP p) := by
  obtain ⟨a1, a2, a3, a4, a5⟩ := ha
  have g44 : H.1 44 = upd (h.1 44) p x := h44
  have g45 : H.1 45 = upd (h.1 45) p (h.1 4 6) := h45
  have g46 : H.1 46 = upd (h.1 46) p (h.1 4 7) := h46
  have hpm : pP p = (p + 1) % 20 := by
    unfold pP
    by_cases q : p + 1 < 20
    · rw [if_pos q]; omega
    · rw [if_neg q]; omega
  refine ⟨?_, ?_, ?_, ?_, fun k hk => ?_⟩
  · unfold uP; by_cases q : u < 20
    · rw [if_pos q]; omega
    · rw [if_neg q]; omega
  · rw [hpm]; omega
  · rw [h43]; rfl
  · rw [h43]; rfl
  · by_cases q : u < 20
    · have eu : uP u = u + 1 := if_pos q
      rw [eu] at hk ⊢
      have es : ((pP p + 20 - (u + 1) + k) % 20) = ((p + 20 - u + k) % 20) := by rw [hpm]; omega
      rw [es, g44, g45, g46]
      have et : tsP ts u b = fun k => if k = u + 1 then b else ts k := by unfold tsP; rw [if_pos q]
      rw [et]
      show _ = nI (tdG (if k = u + 1 then b else ts k)) ∧ _ = nI (tdN (if k = u + 1 then b else ts k)) ∧ acR _ (if k = u + 1 then b else ts k) (if k + 1 = u + 1 then b else ts (k + 1))
      rw [if_neg (show ¬ k = u + 1 by omega)]
      by_cases hku : k = u
      · subst hku
        rw [show ((p + 20 - k + k) % 20) = p by omega, updp, updp, updp, if_pos rfl]
        exact ⟨eg, en, hx⟩
      · have hne : ¬ ((p + 20 - u + k) % 20) = p := by omega
        rw [updn hne, updn hne, updn hne, if_neg (show ¬ k + 1 = u + 1 by omega)]
        exact a5 k (by omega)
    · have eu : uP u = 20 := if_neg q
      have hu : u = 20 := by omega
      subst hu
      rw [eu] at hk ⊢
      have et : tsP ts 20 b = fun k => if k = 20 then b else ts (k + 1) := by unfold tsP; rw [if_neg q]
      rw [et, g44, g45, g46]
      show _ = nI (tdG (if k = 20 then b else ts (k + 1))) ∧ _ = nI (tdN (if k = 20 then b else ts (k + 1))) ∧ acR _ (if k = 20 then b else ts (k + 1)) (if k + 1 = 20 then b else ts (k + 1 + 1))
      rw [if_neg (show ¬ k = 20 by omega)]
      by_cases hku : k = 19
      · subst hku
        rw [show ((pP p + 20 - 20 + 19) % 20) = p by rw [hpm]; omega, updp, updp, updp, if_pos rfl]
        exact ⟨eg, en, hx⟩
      · have hne : ¬ ((pP p + 20 - 20 + k) % 20) = p := by rw [hpm]; omega
        have es : ((pP p + 20 - 20 + k) % 20) = ((p + 20 - 20 + (k + 1)) % 20) := by rw [hpm]; omega
        rw [updn hne, updn hne, updn hne, es, if_neg (show ¬ k + 1 = 20 by omega)]
        exact a5 (k + 1) (by omega)
abbrev pM (p : Nat) : Nat := if 0 < p then p - 1 else 19
def hTb (h : ia_H) (p2 u2 : Nat) (f10 : Nat → Int32) : ia_H := hsI (hsI (hsI h 43 (upd (upd (h.1 43) 3 (nI p2)) 4 (nI u2))) 4 (upd (upd (h.1 4) 6 (h.1 45 p2)) 7 (h.1 46 p2))) 10 f10
theorem v_takeBack (h : ia_H) (u p : Nat) (hu : u + 1 ≤ 20) (hp : p < 20) (e3 : h.1 43 3 = nI p) (e4 : h.1 43 4 = nI (u + 1)) (hx : h.1 44 (pM p) = -1 ∨ ∃ s, s < 120 ∧ h.1 44 (pM p) = nI s ∧ (h.1 10 s = 0 ∨ h.1 10 s = 1)) : V_ 1 [.ref 43, .ref 4] h (fun r h' => r = none ∧ ((h.1 44 (pM p) = -1 ∧ h' = hTb h (pM p) u (h.1 10)) ∨ ∃ s, s < 120 ∧ h.1 44 (pM p) = nI s ∧ h' = hTb h (pM p) u (upd (h.1 10) s (if h.1 10 s = 0 then 1 else 0)))) := by
  have eu : h.1 43 4 - 1 = nI u := by rw [e4]; exact nI_s1 (by omega)
  have hpm : pM p < 20 := by
    unfold pM
    by_cases q : 0 < p
    · rw [if_pos q]; omega
    · rw [if_neg q]; omega
  have rest : ∀ (z : Int32), z = nI (pM p) → R_ ia_k_X0_takeBackLast (fun r h' => r = none ∧ ((h.1 44 (pM p) = -1 ∧ h' = hTb h (pM p) u (h.1 10)) ∨ ∃ s, s < 120 ∧ h.1 44 (pM p) = nI s ∧ h' = hTb h (pM p) u (upd (h.1 10) s (if h.1 10 s = 0 then 1 else 0)))) (19, [some (.ref 43), some (.ref 4), none], [.int z, .ref 43], h) := by
    intro z hz
    refine ia_walk (fun _ => false) 90 (fun X hX => ?_)
    conv => whnf
    refine Exists.intro (pM p) (And.intro (And.intro (hz) (hpm)) ?_)
    conv => whnf
    refine Exists.intro (pM p) (And.intro (And.intro (hz) (hpm)) ?_)
    conv => whnf
    refine Exists.intro (pM p) (And.intro (And.intro (hz) (hpm)) ?_)
    have eF : ∀ f, hsI (hsI (hsI (hsI (hsI h 43 (upd (h.1 43) 3 z)) 43 (upd (upd (h.1 43) 3 z) 4 (h.1 43 4 - 1))) 4 (upd (h.1 4) 6 (h.1 45 (pM p)))) 4 (upd (upd (h.1 4) 6 (h.1 45 (pM p))) 7 (h.1 46 (pM p)))) 10 f = hTb h (pM p) u f := fun f => by
      rw [hsI_same, hsI_same, hz, eu]
      rfl
    conv => whnf
    refine And.intro (fun c => ?_) (fun c => ?_)
    · have c : h.1 44 (pM p) = -1 := c
      conv => whnf
      refine ⟨rfl, Or.inl ⟨c, ?_⟩⟩
      rw [← eF]
      show hsI (hsI (hsI (hsI h 43 (upd (h.1 43) 3 z)) 43 (upd (upd (h.1 43) 3 z) 4 (h.1 43 4 - 1))) 4 (upd (h.1 4) 6 (h.1 45 (pM p)))) 4 (upd (upd (h.1 4) 6 (h.1 45 (pM p))) 7 (h.1 46 (pM p))) = _
      exact (hsI_eta _ 10).symm
    · have c : ¬ h.1 44 (pM p) = -1 := c
      rcases hx with hx | ⟨s, hs, hx, h01⟩
      · exact absurd hx c
      · conv => whnf
        refine Exists.intro (s) (And.intro (And.intro (hx) (hs)) ?_)
        conv => whnf
        refine And.intro (fun c2 => ?_) (fun c2 => ?_)
        · have c2 : h.1 10 s = 0 := c2
          conv => whnf
          refine Exists.intro (s) (And.intro (And.intro (hx) (hs)) ?_)
          conv => whnf
          refine ⟨rfl, Or.inr ⟨s, hs, hx, ?_⟩⟩
          rw [← eF, if_pos c2]
          rfl
        · have c2 : ¬ h.1 10 s = 0 := c2
          conv => whnf
          refine Exists.intro (s) (And.intro (And.intro (hx) (hs)) ?_)
          conv => whnf
          refine ⟨rfl, Or.inr ⟨s, hs, hx, ?_⟩⟩
          rw [← eF, if_neg c2]
          rfl
  refine ia_V_in ia_k_X0_takeBackLast [some (.ref 43), some (.ref 4), none] rfl rfl (Nat.le_of_ble_eq_true rfl) rfl ?_
  refine ia_walk (fun pc => Nat.beq pc 19) 60 (fun X hX => ?_)
  conv => whnf
  refine And.intro (fun c => ?_) (fun c => ?_)
  · have c : 0 < h.1 43 3 := c
    have hq : 0 < p := by
      rw [e3] at c
      exact Nat.pos_of_ne_zero (fun q => by rw [q] at c; exact absurd c (by decide))
    conv => whnf
    exact hX _ (rest _ (by
      rw [e3, show pM p = p - 1 from if_pos hq]
      have := nI_s1 (a := p - 1) (by omega)
      rw [show p - 1 + 1 = p by omega] at this
      exact this))
  · have c : ¬ 0 < h.1 43 3 := c
    have hq : ¬ 0 < p := fun q => c (by rw [e3]; exact nI_lt (a := 0) q (by omega))
    conv => whnf
    exact hX _ (rest _ (by rw [show pM p = 19 from if_neg hq]; rfl))
