/-! sortWays: the third loop; sortWays and weave whole -/
def hY (h : ia_H) (f Y : Nat → Int32) : ia_H := hsI (hsI h 33 f) 31 Y
theorem hY_31 (h : ia_H) (f Y Y2 : Nat → Int32) : hsI (hY h f Y) 31 Y2 = hY h f Y2 := hsI_same _ _ _ _
theorem hY_33 (h : ia_H) (f f2 Y : Nat → Int32) : hsI (hY h f Y) 33 f2 = hY h f2 Y := by
  unfold hY
  rw [hsI_comm _ (by decide : (31 : Nat) ≠ 33), hsI_same]
theorem l_sort3 (h : ia_H) (st : Nat → Bool) (sr : Nat → Nat) (hD : ldOk (h.1 30) st sr) (hb : ∀ j, j < 42 → h.1 32 j = nI (wsm st sr j)) (f : Nat → Int32) {Z : Option Value → ia_H → Prop} (hN : ∀ Y : Nat → Int32, wyOk st sr Y 240 → Z none (hY h (srF st sr f 240) Y)) : ∀ (k w : Nat) (Y : Nat → Int32) (u : Option Value), w + k = 240 → wyOk st sr Y w → R_ ia_k_X6_sortWays Z (93, [some (.ref 29), some (.int (nI w)), u], [], hY h (srF st sr f w) Y) := by
  intro k
  induction k with
  | zero =>
    intro w Y u hw hy
    have ew : w = 240 := by omega
    subst ew
    refine ia_walk (fun pc => Nat.beq pc 93) 50 (fun X hX => ?_)
    conv => whnf
    refine And.intro (fun c => ?_) (fun c => ?_)
    · exact absurd c (by decide)
    · conv => whnf
      exact hN Y hy
  | succ k ih =>
    intro w Y u hw hy
    have hlt : w < 240 := by omega
    obtain ⟨x1, x2⟩ := xor1 w hlt
    refine ia_walk (fun pc => Nat.beq pc 93) 70 (fun X hX => ?_)
    conv => whnf
    refine And.intro (fun c => ?_) (fun c => ?_)
    · conv => whnf
      refine Exists.intro _ (And.intro (And.intro rfl (by omega)) ?_)
      conv => whnf
      refine And.intro (fun c1 => ?_) (fun c1 => ?_)
      · have hs : st w = false := by
          cases hq : st w
          · rfl
          · exact absurd c1 ((hD w hlt).1 hq).1
        conv => whnf
        rw [nI_1, srF_f hs]
        exact hX _ (ih (w + 1) Y _ (by omega) (wyOk_f hy hs))
      · have hs : st w = true := by
          cases hq : st w
          · exact absurd ((hD w hlt).2 hq) c1
          · rfl
        obtain ⟨d1, d2, d3⟩ := (hD w hlt).1 hs
        have d2 : h.1 30 (w ^^^ 1) = nI (sr w) := d2
        have e3 : srF st sr f w (sr w) = nI (wcn st sr (sr w) w) := if_pos d3
        have pp := wy_pos (sr := sr) hlt hs
        have pa := wsm_all st sr (sr w + 1)
        conv => whnf
        refine Exists.intro (w ^^^ 1) (And.intro (And.intro (x1) (x2)) ?_)
        conv => whnf
        refine Exists.intro (sr w) (And.intro (And.intro (d2) (by omega)) ?_)
        conv => whnf
        refine Exists.intro (sr w) (And.intro (And.intro (d2) (d3)) ?_)
        conv => whnf
        refine Exists.intro (wsm st sr (sr w) + wcn st sr (sr w) w) (And.intro (And.intro ((show h.1 32 (sr w) + srF st sr f w (sr w) = _ by rw [hb _ (by omega), e3, nI_add])) (by omega)) ?_)
        conv => whnf
        refine Exists.intro (sr w) (And.intro (And.intro (d2) (d3)) ?_)
        conv => whnf
        refine Exists.intro (sr w) (And.intro (And.intro (d2) (d3)) ?_)
        conv => whnf
        rw [nI_1]
        have e : hsI (hsI (hY h (srF st sr f w) Y) 31 (upd Y (wsm st sr (sr w) + wcn st sr (sr w) w) (nI w))) 33 (upd (srF st sr f w) (sr w) (srF st sr f w (sr w) + 1)) = hY h (srF st sr f (w + 1)) (upd Y (wsm st sr (sr w) + wcn st sr (sr w) w) (nI w)) := by rw [hY_31, hY_33, srF_t hs d3]
        exact hX _ (e ▸ ih (w + 1) _ _ (by omega) (wyOk_s hlt hy hs) : ia_Run _ _ _ _ (93, _, _, hsI (hsI (hY h (srF st sr f w) Y) 31 (upd Y (wsm st sr (sr w) + wcn st sr (sr w) w) (nI w))) 33 (upd (srF st sr f w) (sr w) (srF st sr f w (sr w) + 1))))
    · exact absurd (show nI w < 240 from nI_lt (b := 240) hlt (by omega)) c
/-- begins as sortWays leaves it -/
def bgF (st : Nat → Bool) (sr : Nat → Nat) (f : Nat → Int32) : Nat → Int32 := bg2 st sr f 41
theorem bgF_at {st : Nat → Bool} {sr : Nat → Nat} {f : Nat → Int32} {j : Nat} (h : j < 42) : bgF st sr f j = nI (wsm st sr j) := by
  simp only [bgF, bg2]
  rw [if_pos h, if_pos (by omega)]
theorem v_sortWays (h : ia_H) (st : Nat → Bool) (sr : Nat → Nat) (hD : ldOk (h.1 30) st sr) : V_ 42 [.ref 29] h (fun r h' => r = none ∧ ∃ Y, wyOk st sr Y 240 ∧ h' = hY (hsI h 32 (bgF st sr (h.1 32))) (srF st sr (h.1 33) 240) Y) := by
  refine ia_V_in ia_k_X6_sortWays [some (.ref 29), none, none] rfl rfl (Nat.le_of_ble_eq_true rfl) rfl ?_
  refine ia_walk (fun pc => Nat.beq pc 10) 50 (fun X hX => ?_)
  conv => whnf
  refine Exists.intro (_, _) (And.intro (ia_callE (v_fill_begins h 0)) ?_)
  conv => whnf
  rw [← bg1_0 st sr (h.1 32)]
  refine hX _ (l_sort1 h st sr hD (h.1 32) (fun w => ?_) 240 0 rfl)
  refine ia_walk (fun pc => Nat.beq pc 54) 50 (fun X hX => ?_)
  conv => whnf
  rw [bg2_0]
  refine hX _ (l_sort2 h st sr (h.1 32) (fun w => ?_) 41 0 rfl)
  refine ia_walk (fun pc => Nat.beq pc 93) 50 (fun X hX => ?_)
  conv => whnf
  refine Exists.intro (_, _) (And.intro (ia_callE (v_fill_sorted (hsI h 32 (bgF st sr (h.1 32))) 0)) ?_)
  conv => whnf
  have l3 := l_sort3 (hsI h 32 (bgF st sr (h.1 32))) st sr hD (fun j hj => bgF_at hj) (h.1 33) (Z := fun r h' => r = none ∧ ∃ Y, wyOk st sr Y 240 ∧ h' = hY (hsI h 32 (bgF st sr (h.1 32))) (srF st sr (h.1 33) 240) Y) (fun Y hy => ⟨rfl, Y, hy, rfl⟩) 240 0 (h.1 31) none rfl (fun v hv => absurd hv (Nat.not_lt_zero v))
  rw [srF_0] at l3
  have e : hY (hsI h 32 (bgF st sr (h.1 32))) (flF (h.1 33) 41 0) (h.1 31) = hsI (hsI h 32 (bgF st sr (h.1 32))) 33 (flF (h.1 33) 41 0) := hsI_eta (hsI (hsI h 32 (bgF st sr (h.1 32))) 33 (flF (h.1 33) 41 0)) 31
  rw [e] at l3
  exact hX _ l3
/-- what weave makes of leads -/
def ldF (h : ia_H) (n : Nat) : Nat → Int32 := wvF (h.1 7) (h.1 8) (h.1 26) (h.1 30) n
theorem v_weave (h : ia_H) (n : Nat) (hn : n ≤ 120) (eN : h.1 4 7 = nI n) (st : Nat → Bool) (sr : Nat → Nat) (hD : ldOk (ldF h n) st sr) : V_ 41 [.ref 29, .ref 4, .ref 25] h (fun r h' => r = none ∧ ∃ Y, wyOk st sr Y 240 ∧ h' = hY (hsI (hsI h 30 (ldF h n)) 32 (bgF st sr (h.1 32))) (srF st sr (h.1 33) 240) Y) := by
  refine ia_V_in ia_k_X6_weave [some (.ref 29), some (.ref 4), some (.ref 25), none] rfl rfl (Nat.le_of_ble_eq_true rfl) rfl ?_
  refine ia_walk (fun pc => Nat.beq pc 10) 50 (fun X hX => ?_)
  conv => whnf
  refine Exists.intro (_, _) (And.intro (ia_callE (v_fill_leads h (-1))) ?_)
  conv => whnf
  rw [← wvF_0 (h.1 7) (h.1 8) (h.1 26) (h.1 30)]
  refine hX _ (l_weave h n hn eN (h.1 30) (fun w => ?_) n 0 (by omega))
  refine ia_walk (fun _ => false) 50 (fun X hX => ?_)
  conv => whnf
  obtain ⟨r, h2, ev, z1, Y, z2, z3⟩ := v_sortWays (hsI h 30 (ldF h n)) st sr hD
  refine Exists.intro (r, h2) (And.intro ev ?_)
  subst z1
  conv => whnf
  exact ⟨rfl, Y, z2, z3⟩
