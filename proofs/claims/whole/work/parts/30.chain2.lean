/-! findChain whole; the reference's isStep and laysChain -/
/-- alike, as far as it matters -/
def bsE (S T : bsT) : Prop := S.1 = T.1 ∧ (∀ g, g < 41 → S.2.1 g = T.2.1 g) ∧ ∀ g, g ∈ S.1 → S.2.2 g = T.2.2 g
theorem bsE_S {rm : Nat → Bool} {dt : Nat → Nat} {a w : Nat} {S T : bsT} (h : bsE S T) (ha : a < 41) : bsE (bsS rm dt a S w) (bsS rm dt a T w) := by
  obtain ⟨h1, h2, h3⟩ := h
  unfold bsS
  rw [← h1]
  by_cases hq : dt w ∈ S.1 ∨ rm w = false
  · rw [if_pos hq, if_pos hq]; exact ⟨h1, h2, h3⟩
  · rw [if_neg hq, if_neg hq]
    refine ⟨rfl, fun g hg => ?_, fun g hg => ?_⟩
    · show upd S.2.1 (dt w) (S.2.1 a + 1) g = upd T.2.1 (dt w) (T.2.1 a + 1) g
      simp only [upd]
      rw [h2 a ha, h2 g hg]
    · show upd S.2.2 (dt w) (nI w) g = upd T.2.2 (dt w) (nI w) g
      simp only [upd]
      by_cases e : g = dt w
      · rw [if_pos e, if_pos e]
      · rw [if_neg e, if_neg e]
        rcases List.mem_append.mp hg with q | q
        · exact h3 g q
        · exact absurd (List.mem_singleton.mp q) e
theorem bsE_W {st : Nat → Bool} {sr dt : Nat → Nat} {rm : Nat → Bool} {a : Nat} {S T : bsT} (h : bsE S T) (ha : a < 41) : ∀ w, bsE (bsW st sr dt rm a S w) (bsW st sr dt rm a T w)
  | 0 => h
  | w + 1 => by
    have ih := bsE_W (st := st) (sr := sr) (dt := dt) (rm := rm) h ha w
    rw [bsW, bsW]
    by_cases hc : st w = true ∧ sr w = a
    · rw [if_pos hc, if_pos hc]; exact bsE_S ih ha
    · rw [if_neg hc, if_neg hc]; exact ih
theorem bsE_R {st : Nat → Bool} {sr dt : Nat → Nat} {rm : Nat → Bool} {m : Nat} (hm : m ≤ 41) (hd : ∀ w, w < 240 → st w = true → dt w < m) : ∀ (k i : Nat) {S T : bsT}, bsOk m S → bsE S T → bsE (bsR st sr dt rm k i S) (bsR st sr dt rm k i T)
  | 0, _, _, _, _, h => h
  | k + 1, i, S, T, hok, h => by
    rw [bsR, bsR]
    by_cases hi : i < S.1.length
    · have hi2 : i < T.1.length := by rw [← h.1]; exact hi
      rw [dif_pos hi, dif_pos hi2]
      have ha : S.1[i] ∈ S.1 := List.getElem_mem hi
      have e : T.1[i] = S.1[i] := by simp only [← h.1]
      rw [e]
      have := (hok.2.1 _ ha).1
      exact bsE_R hm hd k (i + 1) (bsW_ok hd hok ha 240 (Nat.le_refl _)).1 (bsE_W h (by omega) 240)
    · have hi2 : ¬ i < T.1.length := by rw [← h.1]; exact hi
      rw [dif_neg hi, dif_neg hi2]; exact h
theorem bsE_F {st : Nat → Bool} {sr dt : Nat → Nat} {rm : Nat → Bool} {m : Nat} (hm : m ≤ 41) (hd : ∀ w, w < 240 → st w = true → dt w < m) {g : Nat} (hg : g < m) {S T : bsT} (hok : bsOk m S) (hn : ¬ g ∈ S.1) (h : bsE S T) : bsE (bsF st sr dt rm g S) (bsF st sr dt rm g T) := by
  unfold bsF
  rw [← h.1]
  refine bsE_R hm hd _ _ (bsP_ok hok hg hn) ⟨?_, fun k hk => ?_, fun k hk => ?_⟩
  · show S.1 ++ [g] = T.1 ++ [g]
    rw [h.1]
  · show upd S.2.1 g 0 k = upd T.2.1 g 0 k
    simp only [upd]
    rw [h.2.1 k hk]
  · show upd S.2.2 g (-1) k = upd T.2.2 g (-1) k
    simp only [upd]
    by_cases e : k = g
    · rw [if_pos e, if_pos e]
    · rw [if_neg e, if_neg e]
      rcases List.mem_append.mp hk with q | q
      · exact h.2.2 k q
      · exact absurd (List.mem_singleton.mp q) e
theorem v_forget2 (h : ia_H) : V_ 44 [.ref 29] h (fun r h' => r = none ∧ h' = hB h (h.1 36) (flF (h.1 37) 41 (-1)) (h.1 38) 0) := by
  refine ia_V_in ia_k_X6_forgetReached [some (.ref 29)] rfl rfl (Nat.le_of_ble_eq_true rfl) rfl ?_
  refine ia_walk (fun _ => false) 60 (fun X hX => ?_)
  conv => whnf
  refine Exists.intro (_, _) (And.intro (ia_callE (v_fill_steps h (-1))) ?_)
  conv => whnf
  refine ⟨rfl, ?_⟩
  show hsI (hsI h 37 (flF (h.1 37) 41 (-1))) 29 (upd (h.1 29) 7 0) = _
  unfold hB
  rw [hsI_eta h 36]
  have e : (hsI h 37 (flF (h.1 37) 41 (-1))).1 38 = h.1 38 := rfl
  rw [← e, hsI_eta]
  rfl
/-- where the class begins to reach -/
def bsH (h : ia_H) : bsT := ([], flF (h.1 37) 41 (-1), h.1 38)
theorem bsH_ok (h : ia_H) (m : Nat) : bsOk m (bsH h) := ⟨List.nodup_nil, fun g hg => (List.not_mem_nil hg).elim, fun g hg _ => if_pos hg⟩
theorem bsH_E (h : ia_H) : bsE (bsH h) bs0 := ⟨rfl, fun g hg => if_pos hg, fun g hg => (List.not_mem_nil hg).elim⟩
/-- the heap of a search with no flow -/
def h0F (h : ia_H) : ia_H := hsI h 39 (flF (h.1 39) 120 0)
theorem rm_0 (h : ia_H) : ∀ w, w < 240 → rmF ((h0F h).1 39) w = true := by
  intro w hw
  have e : (h0F h).1 39 (w / 2) = 0 := by
    show flF (h.1 39) 120 0 (w / 2) = 0
    exact if_pos (by omega)
  unfold rmF
  rw [e]
  split <;> decide
theorem bsW_rm {st : Nat → Bool} {sr dt : Nat → Nat} {rm rm2 : Nat → Bool} {a : Nat} {S : bsT} : ∀ {w : Nat}, (∀ v, v < w → rm v = rm2 v) → bsW st sr dt rm a S w = bsW st sr dt rm2 a S w
  | 0, _ => rfl
  | w + 1, h => by
    rw [bsW, bsW, bsW_rm (fun v hv => h v (by omega))]
    unfold bsS
    rw [h w (by omega)]
theorem bsR_rm {st : Nat → Bool} {sr dt : Nat → Nat} {rm rm2 : Nat → Bool} (h : ∀ v, v < 240 → rm v = rm2 v) : ∀ (k i : Nat) (S : bsT), bsR st sr dt rm k i S = bsR st sr dt rm2 k i S
  | 0, _, _ => rfl
  | k + 1, i, S => by
    rw [bsR, bsR]
    by_cases hi : i < S.1.length
    · rw [dif_pos hi, dif_pos hi, bsW_rm h, bsR_rm h]
    · rw [dif_neg hi, dif_neg hi]
theorem v_findChain (h : ia_H) (st : Nat → Bool) (sr dt : Nat → Nat) (m : Nat) (hm : m ≤ 41) (hw : wbOk h st sr dt m) (x o : Nat) (hxm : x < m) (ho : o < m) (nx : Nat → Nat) (hnx : ∀ g, g ∈ (bsF st sr dt tt o bs0).1 → ¬ (bsF st sr dt tt o bs0).2.1 g = 0 → nxP st sr dt (bsF st sr dt tt o bs0).2.1 g (nx g) ∧ dt (nx g) ∈ (bsF st sr dt tt o bs0).1) :
    V_ 48 [.ref 29, .int (nI x), .int (nI o)] h (fun r h' => r = some (.int ((bsF st sr dt tt o bs0).2.1 x)) ∧ ∃ R d b c T, h' = hsI (hB (h0F h) R d b c) 34 T ∧ ∀ n, (bsF st sr dt tt o bs0).2.1 x = nI n → n < 2 ^ 30 → ∀ k, k < n → T k = nI (nx (chA dt nx x k) / 2)) := by
  have hdt : ∀ w, w < 240 → st w = true → dt w < m := fun w h1 h2 => (hw.1 w h1 h2).2.1
  have hw0 : wbOk (h0F h) st sr dt m := hw
  have e0 : bsF st sr dt (rmF ((h0F h).1 39)) o (bsH (h0F h)) = bsF st sr dt tt o (bsH (h0F h)) := bsR_rm (fun v hv => rm_0 h v hv) _ _ _
  have hE := bsE_F (sr := sr) (rm := tt) hm hdt ho (bsH_ok (h0F h) m) List.not_mem_nil (bsH_E (h0F h))
  obtain ⟨okF, -, -, -⟩ := bsF_all (sr := sr) (rm := tt) hm hdt ho
  have ed := hE.2.1
  clear hE
  generalize bsF st sr dt tt o bs0 = S2 at hnx okF ed ⊢
  refine ia_V_in ia_k_X6_findChain [some (.ref 29), some (.int (nI x)), some (.int (nI o)), none, none, none, none] rfl rfl (Nat.le_of_ble_eq_true rfl) rfl ?_
  refine ia_walk (fun pc => Nat.beq pc 30) 60 (fun X hX => ?_)
  conv => whnf
  refine Exists.intro (_, _) (And.intro (ia_callE (v_fill_flow h 0)) ?_)
  conv => whnf
  refine Exists.intro (_, _) (And.intro (ia_callE (v_forget2 (h0F h))) ?_)
  conv => whnf
  obtain ⟨r, h2, ev, z1, R2, z2, z3⟩ := v_reachFrom (h0F h) st sr dt m hm hw0 o ho (bsH (h0F h)) (bsH_ok _ m) List.not_mem_nil ((h0F h).1 36) (fun i hi => absurd hi (Nat.not_lt_zero i))
  refine Exists.intro (r, h2) (And.intro ev ?_)
  subst z1
  subst z3
  rw [e0] at z2 ⊢
  conv => whnf
  refine Exists.intro _ (And.intro (And.intro rfl (by omega)) ?_)
  conv => whnf
  generalize bsF st sr dt tt o (bsH (h0F h)) = S1 at z2 ed ⊢
  have ex : S1.2.1 x = S2.2.1 x := ed x (by omega)
  by_cases hin : x ∈ S2.1
  · obtain ⟨-, n, n1, n2⟩ := okF.2.1 x hin
    have ln := bsOk_len okF
    have l1 := l_findChain (hB (h0F h) R2 S1.2.1 S1.2.2 S1.1.length) st sr dt m hm hw nx x n (by omega) (nI o) (fun g => g ∈ S2.1) (fun g hg => (okF.2.1 g hg).1) hin (show S1.2.1 x = nI n by rw [ex]; exact n2) (fun g hg hne => by
      have hne2 : ¬ S2.2.1 g = 0 := fun q => hne (show S1.2.1 g = 0 by rw [ed g (by have := (okF.2.1 g hg).1; omega)]; exact q)
      obtain ⟨q1, q2⟩ := hnx g hg hne2
      refine ⟨⟨q1.1, ⟨q1.2.1.1, q1.2.1.2.1, ?_⟩, fun u hu hc => q1.2.2 u hu ⟨hc.1, hc.2.1, ?_⟩⟩, q2⟩
      · show S1.2.1 (dt (nx g)) = S1.2.1 g - 1
        rw [ed _ (by have := (okF.2.1 _ q2).1; omega), ed g (by have := (okF.2.1 g hg).1; omega)]
        exact q1.2.1.2.2
      · have hu2 := hdt u (by have := q1.1; omega) hc.1
        have hc3 : S1.2.1 (dt u) = S1.2.1 g - 1 := hc.2.2
        rw [ed _ (by omega), ed g (by have := (okF.2.1 g hg).1; omega)] at hc3
        exact hc3) (Z := fun r h' => r = some (.int (S2.2.1 x)) ∧ ∃ R d b c T, h' = hsI (hB (h0F h) R d b c) 34 T ∧ ∀ n, S2.2.1 x = nI n → n < 2 ^ 30 → ∀ k, k < n → T k = nI (nx (chA dt nx x k) / 2)) (fun T hT => ⟨by rw [n2], R2, S1.2.1, S1.2.2, S1.1.length, T, rfl, fun n' e1 e2 k hk => by
        have : n' = n := nI_inj (by omega) (by omega) (e1.symm.trans n2)
        subst this
        exact hT k hk⟩) n 0 none (by omega) (h.1 34) (fun i hi => absurd hi (Nat.not_lt_zero i))
    have e34 : hsI (hB (h0F h) R2 S1.2.1 S1.2.2 S1.1.length) 34 (h.1 34) = hB (h0F h) R2 S1.2.1 S1.2.2 S1.1.length := hsI_eta (hB (h0F h) R2 S1.2.1 S1.2.2 S1.1.length) 34
    rw [e34] at l1
    have e5 : (hB (h0F h) R2 S1.2.1 S1.2.2 S1.1.length).1 37 x = nI n := by
      show S1.2.1 x = nI n
      rw [ex, n2]
    rw [e5]
    exact hX _ l1
  · have en : S2.2.1 x = -1 := okF.2.2 x (by omega) hin
    refine hX _ ?_
    refine ia_walk (fun pc => Nat.beq pc 30) 60 (fun X hX => ?_)
    conv => whnf
    refine And.intro (fun c => ?_) (fun c => ?_)
    · exact absurd (show (0 : Int32) < S1.2.1 x from c) (by rw [ex, en]; decide)
    · conv => whnf
      refine ⟨by show some (Value.int (S1.2.1 x)) = _; rw [ex], R2, S1.2.1, S1.2.2, S1.1.length, h.1 34, (hsI_eta (hB (h0F h) R2 S1.2.1 S1.2.2 S1.1.length) 34).symm, fun n e1 e2 => ?_⟩
      exact absurd (e1.symm.trans en) (nI_nm1 (by omega))
