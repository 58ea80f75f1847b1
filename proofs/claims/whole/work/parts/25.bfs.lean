/-! Web: hasRoom, mark, forgetReached -/
theorem and1 : ∀ w, w < 240 → nI w &&& 1 = nI (w % 2) := by decide +kernel
theorem shr1 : ∀ w, w < 240 → nI w >>> ((1 : Int32) &&& 31) = nI (w / 2) := by decide +kernel
def rmF (fl : Nat → Int32) (w : Nat) : Bool := if w % 2 = 0 then decide (fl (w / 2) < 1) else decide (-1 < fl (w / 2))
theorem v_hasRoom (h : ia_H) (w : Nat) (hw : w < 240) : V_ 47 [.ref 29, .int (nI w)] h (Z_ (.int (bif rmF (h.1 39) w then 1 else 0)) h) := by
  have e1 := and1 w hw
  have e2 := shr1 w hw
  refine ia_V_in ia_k_X6_hasRoom [some (.ref 29), some (.int (nI w))] rfl rfl (Nat.le_of_ble_eq_true rfl) rfl ?_
  refine ia_walk (fun _ => false) 50 (fun X hX => ?_)
  conv => whnf
  refine And.intro (fun c => ?_) (fun c => ?_)
  · have c0 : w % 2 = 0 := by
      rw [e1] at c
      exact nI_inj (by omega) (by omega) c
    conv => whnf
    refine Exists.intro (w / 2) (And.intro (And.intro (e2) (by omega)) ?_)
    conv => whnf
    refine And.intro (fun c2 => ?_) (fun c2 => ?_)
    · conv => whnf
      exact ⟨Or.inr rfl, by unfold rmF; rw [if_pos c0, decide_eq_true c2]; rfl, rfl⟩
    · conv => whnf
      exact ⟨Or.inl rfl, by unfold rmF; rw [if_pos c0, decide_eq_false c2]; rfl, rfl⟩
  · have c0 : ¬ w % 2 = 0 := fun q => c (by rw [e1, q]; rfl)
    conv => whnf
    refine Exists.intro (w / 2) (And.intro (And.intro (e2) (by omega)) ?_)
    conv => whnf
    refine And.intro (fun c2 => ?_) (fun c2 => ?_)
    · conv => whnf
      exact ⟨Or.inr rfl, by unfold rmF; rw [if_neg c0, decide_eq_true c2]; rfl, rfl⟩
    · conv => whnf
      exact ⟨Or.inl rfl, by unfold rmF; rw [if_neg c0, decide_eq_false c2]; rfl, rfl⟩
/-- the heap with what has been reached put in: the row, steps, reachedBy, how many -/
def hB (h : ia_H) (R d b : Nat → Int32) (c : Nat) : ia_H := hsI (hsI (hsI (hsI h 36 R) 37 d) 38 b) 29 (upd (h.1 29) 7 (nI c))
theorem hB_36 (h : ia_H) (R d b R2 : Nat → Int32) (c : Nat) : hsI (hB h R d b c) 36 R2 = hB h R2 d b c := by
  unfold hB
  rw [hsI_comm _ (by decide : (29 : Nat) ≠ 36), hsI_comm _ (by decide : (38 : Nat) ≠ 36), hsI_comm _ (by decide : (37 : Nat) ≠ 36), hsI_same]
theorem hB_37 (h : ia_H) (R d b d2 : Nat → Int32) (c : Nat) : hsI (hB h R d b c) 37 d2 = hB h R d2 b c := by
  unfold hB
  rw [hsI_comm _ (by decide : (29 : Nat) ≠ 37), hsI_comm _ (by decide : (38 : Nat) ≠ 37), hsI_same]
theorem hB_38 (h : ia_H) (R d b b2 : Nat → Int32) (c : Nat) : hsI (hB h R d b c) 38 b2 = hB h R d b2 c := by
  unfold hB
  rw [hsI_comm _ (by decide : (29 : Nat) ≠ 38), hsI_same]
theorem upd_upd (f : Nat → Int32) (i : Nat) (x y : Int32) : upd (upd f i x) i y = upd f i y := by
  funext j
  simp only [upd]
  by_cases hj : j = i <;> simp [hj]
theorem hB_29 (h : ia_H) (R d b : Nat → Int32) (c c2 : Nat) : hsI (hB h R d b c) 29 (upd (upd (h.1 29) 7 (nI c)) 7 (nI c2)) = hB h R d b c2 := by
  unfold hB
  rw [hsI_same, upd_upd]
theorem v_mark (h : ia_H) (R d b : Nat → Int32) (c g : Nat) (far way : Int32) (hc : c < 41) (hg : g < 41) : V_ 45 [.ref 29, .int (nI g), .int far, .int way] (hB h R d b c) (fun r h' => r = none ∧ h' = hB h (upd R c (nI g)) (upd d g far) (upd b g way) (c + 1)) := by
  have e7 : upd (h.1 29) 7 (nI c) 7 = nI c := by simp [upd]
  refine ia_V_in ia_k_X6_mark [some (.ref 29), some (.int (nI g)), some (.int far), some (.int way)] rfl rfl (Nat.le_of_ble_eq_true rfl) rfl ?_
  refine ia_walk (fun _ => false) 60 (fun X hX => ?_)
  conv => whnf
  refine Exists.intro _ (And.intro (And.intro rfl (hg)) ?_)
  conv => whnf
  refine Exists.intro _ (And.intro (And.intro rfl (hg)) ?_)
  conv => whnf
  refine And.intro (fun c1 => ?_) (fun c1 => ?_)
  · conv => whnf
    refine Exists.intro (c) (And.intro (And.intro (e7) (hc)) ?_)
    conv => whnf
    refine ⟨rfl, ?_⟩
    show hsI (hsI (hsI (hsI (hB h R d b c) 37 (upd d g far)) 38 (upd b g way)) 36 (upd R c (nI g))) 29 (upd (upd (h.1 29) 7 (nI c)) 7 (upd (h.1 29) 7 (nI c) 7 + 1)) = _
    rw [e7, nI_1, hB_37, hB_38, hB_36, hB_29]
  · exact absurd (show upd (h.1 29) 7 (nI c) 7 < 41 by rw [e7]; exact (nI_lt41 (by omega)).mpr hc) c1
theorem v_forget (h : ia_H) (R d b : Nat → Int32) (c : Nat) : V_ 44 [.ref 29] (hB h R d b c) (fun r h' => r = none ∧ h' = hB h R (flF d 41 (-1)) b 0) := by
  refine ia_V_in ia_k_X6_forgetReached [some (.ref 29)] rfl rfl (Nat.le_of_ble_eq_true rfl) rfl ?_
  refine ia_walk (fun _ => false) 60 (fun X hX => ?_)
  conv => whnf
  refine Exists.intro (_, _) (And.intro (ia_callE (v_fill_steps (hB h R d b c) (-1))) ?_)
  conv => whnf
  refine ⟨rfl, ?_⟩
  show hsI (hsI (hB h R d b c) 37 (flF d 41 (-1))) 29 (upd (upd (h.1 29) 7 (nI c)) 7 0) = _
  rw [hB_37]
  exact hB_29 h R (flF d 41 (-1)) b c 0
/-! what can be reached, as lists: q the gauges in order; d, b: how far, by which way -/
abbrev bsT : Type := List Nat × (Nat → Int32) × (Nat → Int32)
/-- a way is gone, or not -/
def bsS (rm : Nat → Bool) (dt : Nat → Nat) (at_ : Nat) (S : bsT) (w : Nat) : bsT := if dt w ∈ S.1 ∨ rm w = false then S else (S.1 ++ [dt w], upd S.2.1 (dt w) (S.2.1 at_ + 1), upd S.2.2 (dt w) (nI w))
/-- all ways below w that come from a gauge -/
def bsW (st : Nat → Bool) (sr dt : Nat → Nat) (rm : Nat → Bool) (at_ : Nat) (S : bsT) : Nat → bsT
  | 0 => S
  | w + 1 => if st w = true ∧ sr w = at_ then bsS rm dt at_ (bsW st sr dt rm at_ S w) w else bsW st sr dt rm at_ S w
/-- from the i-th reached gauge on -/
def bsR (st : Nat → Bool) (sr dt : Nat → Nat) (rm : Nat → Bool) : Nat → Nat → bsT → bsT
  | 0, _, S => S
  | k + 1, i, S => if h : i < S.1.length then bsR st sr dt rm k (i + 1) (bsW st sr dt rm (S.1[i]) S 240) else S
/-- reached rightly: apart, gauges below m, those not reached have no step -/
def bsOk (m : Nat) (S : bsT) : Prop := S.1.Nodup ∧ (∀ g ∈ S.1, g < m ∧ ∃ k, k < S.1.length ∧ S.2.1 g = nI k) ∧ ∀ g, g < 41 → ¬ g ∈ S.1 → S.2.1 g = -1
theorem nodup_len : ∀ {m : Nat} {q : List Nat}, q.Nodup → (∀ g ∈ q, g < m) → q.length ≤ m
  | 0, [], _, _ => Nat.le_refl 0
  | 0, x :: q, _, h => absurd (h x List.mem_cons_self) (Nat.not_lt_zero x)
  | m + 1, q, hn, h => by
    by_cases hm : m ∈ q
    · have h1 : (q.erase m).length = q.length - 1 := List.length_erase_of_mem hm
      have h2 := nodup_len (m := m) (hn.erase m) (fun g hg => by
        have g1 := List.mem_of_mem_erase hg
        have g2 := h g g1
        have g3 : g ≠ m := fun q => by rw [q] at hg; exact (List.Nodup.not_mem_erase hn) hg
        omega)
      have h3 : 0 < q.length := List.length_pos_of_mem hm
      omega
    · have := nodup_len (m := m) hn (fun g hg => by
        have g2 := h g hg
        have g3 : g ≠ m := fun q => hm (q ▸ hg)
        omega)
      omega
