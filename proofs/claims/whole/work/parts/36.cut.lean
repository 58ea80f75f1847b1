/-! Cuts: the rounds of paths, and the class's findCut -/
def fAg (N : Nat) (f g : Nat → Int32) : Prop := ∀ s, s < N → f s = g s
theorem fAg_U {N : Nat} {f g : Nat → Int32} (h : fAg N f g) (w : Nat) : fAg N (flU f w) (flU g w) := by
  intro s hs
  unfold flU
  simp only [upd]
  by_cases e : s = w / 2
  · rw [if_pos e, if_pos e, h (w / 2) (by omega)]
  · rw [if_neg e, if_neg e]; exact h s hs
theorem fAg_pf {N : Nat} {wy sr : Nat → Nat} : ∀ {k g : Nat} {f f2 : Nat → Int32}, fAg N f f2 → fAg N (pfF wy sr k g f) (pfF wy sr k g f2)
  | 0, _, _, _, h => h
  | k + 1, g, _, _, h => fAg_pf (k := k) (g := sr (wy g)) (fAg_U h (wy g))
theorem bsW_rm2 {st : Nat → Bool} {sr dt : Nat → Nat} {rm rm2 : Nat → Bool} {a : Nat} {S : bsT} : ∀ {w : Nat}, (∀ v, v < w → st v = true → rm v = rm2 v) → bsW st sr dt rm a S w = bsW st sr dt rm2 a S w
  | 0, _ => rfl
  | w + 1, h => by
    rw [bsW, bsW, bsW_rm2 (fun v hv => h v (by omega))]
    by_cases hc : st w = true ∧ sr w = a
    · rw [if_pos hc, if_pos hc]
      unfold bsS
      rw [h w (by omega) hc.1]
    · rw [if_neg hc, if_neg hc]
theorem bsR_rm2 {st : Nat → Bool} {sr dt : Nat → Nat} {rm rm2 : Nat → Bool} (h : ∀ v, v < 240 → st v = true → rm v = rm2 v) : ∀ (k i : Nat) (S : bsT), bsR st sr dt rm k i S = bsR st sr dt rm2 k i S
  | 0, _, _ => rfl
  | k + 1, i, S => by
    rw [bsR, bsR]
    by_cases hi : i < S.1.length
    · rw [dif_pos hi, dif_pos hi, bsW_rm2 h, bsR_rm2 h]
    · rw [dif_neg hi, dif_neg hi]
theorem rm_ag {sd : Nat → Bool} {n : Nat} {f g : Nat → Int32} (hsd : ∀ s, n ≤ s → sd s = false) (h : fAg n f g) : ∀ w, w < 240 → cst sd w = true → rmF f w = rmF g w := by
  intro w hw hs
  have h1 : w / 2 < n := by
    rcases Nat.lt_or_ge (w / 2) n with q | q
    · exact q
    · have : sd (w / 2) = true := hs
      rw [hsd _ q] at this; cases this
  unfold rmF
  rw [h _ h1]
/-- what can be reached beside a flow -/
def cuS (sd : Nat → Bool) (A B : Nat → Nat) (r : Nat) (fl : Nat → Int32) : bsT := bsF (cst sd) (csr A B) (cdt A B) (rmF fl) r bs0
noncomputable def cuW (sd : Nat → Bool) (A B : Nat → Nat) (r : Nat) (fl : Nat → Int32) : Nat → Nat := Classical.epsilon (fun wy => ptOk (cst sd) (csr A B) (cdt A B) (rmF fl) (cuS sd A B r fl) r wy)
noncomputable def cuN (sd : Nat → Bool) (A B : Nat → Nat) (r o : Nat) (fl : Nat → Int32) : Nat → Int32 := pfF (cuW sd A B r fl) (csr A B) ((cuS sd A B r fl).2.1 o).toNatClampNeg o fl
noncomputable def cuQ (sd : Nat → Bool) (A B : Nat → Nat) (r o : Nat) : Nat → (Nat → Int32)
  | 0 => fun _ => 0
  | i + 1 => cuN sd A B r o (cuQ sd A B r o i)
theorem cuW_ok {sd : Nat → Bool} {A B : Nat → Nat} {m r : Nat} (hm : m ≤ 41) (hd : ∀ w, w < 240 → cst sd w = true → cdt A B w < m) (hr : r < m) (fl : Nat → Int32) : ptOk (cst sd) (csr A B) (cdt A B) (rmF fl) (cuS sd A B r fl) r (cuW sd A B r fl) := Classical.epsilon_spec (pt_ex hm hd hr)
theorem cu_prog {sd : Nat → Bool} {A B : Nat → Nat} {m r o : Nat} (hm : m ≤ 41) (hd : ∀ w, w < 240 → cst sd w = true → cdt A B w < m) (hr : r < m) (hro : o ≠ r) (hab : ∀ s, s < 120 → A s ≠ B s) : ∀ i, (∀ j, j < i → o ∈ (cuS sd A B r (cuQ sd A B r o j)).1) → flB (cuQ sd A B r o i) ∧ flN sd A B r (cuQ sd A B r o i) = i
  | 0, _ => by
    refine ⟨fun s _ => Or.inr (Or.inl rfl), ?_⟩
    show smN (flC sd A B r (fun _ => 0)) 120 = 0
    have : ∀ n, smN (flC sd A B r (fun _ => 0)) n = 0 := by
      intro n
      induction n with
      | zero => rfl
      | succ n ih =>
        rw [smN, ih]
        unfold flC
        have e : (0 : Int32).toInt = 0 := by decide
        rw [e]
        split
        · split
          · rfl
          · split <;> rfl
        · rfl
    exact this 120
  | i + 1, h => by
    obtain ⟨i1, i2⟩ := cu_prog hm hd hr hro hab i (fun j hj => h j (by omega))
    have ho := h i (by omega)
    have hw := cuW_ok (A := A) (B := B) hm hd hr (cuQ sd A B r o i)
    obtain ⟨ok, -, -, -⟩ := bsF_all (sr := csr A B) (rm := rmF (cuQ sd A B r o i)) hm hd hr
    have ok : bsOk m (cuS sd A B r (cuQ sd A B r o i)) := ok
    obtain ⟨-, k, k1, k2⟩ := ok.2.1 o ho
    have hl := bsOk_len ok
    have ek : ((cuS sd A B r (cuQ sd A B r o i)).2.1 o).toNatClampNeg = k := by rw [k2]; exact nI_clamp (by omega)
    have k0 : k ≠ 0 := by
      intro q
      rcases hw o ho with ⟨z, -, -⟩ | ⟨-, -, -, -, -, -, q6, q7⟩
      · exact hro z
      · obtain ⟨-, l, l1, l2⟩ := ok.2.1 _ q6
        rw [l2, k2, nI_1] at q7
        have := nI_inj (by omega) (by omega) q7
        omega
    obtain ⟨f1, f2⟩ := flow_path hm ok hw i1 hab k o (cuQ sd A B r o i) (by omega) ho k2 i1 (fun _ _ _ _ _ _ => rfl)
    rw [cuQ, cuN, ek]
    refine ⟨f1, ?_⟩
    rw [f2, if_neg k0, i2]
    omega
/-- there is a round in which the other end is reached no more -/
theorem cu_end {sd : Nat → Bool} {A B : Nat → Nat} {m r o s0 : Nat} (hm : m ≤ 41) (hd : ∀ w, w < 240 → cst sd w = true → cdt A B w < m) (hr : r < m) (hro : o ≠ r) (hab : ∀ s, s < 120 → A s ≠ B s) (hs0 : s0 < 120) (hsd : sd s0 = false) : ∃ N, N ≤ 119 ∧ (∀ j, j < N → o ∈ (cuS sd A B r (cuQ sd A B r o j)).1) ∧ ¬ o ∈ (cuS sd A B r (cuQ sd A B r o N)).1 := by
  have ex : ∃ N, ¬ o ∈ (cuS sd A B r (cuQ sd A B r o N)).1 := by
    apply Classical.byContradiction
    intro hc
    have all : ∀ j, o ∈ (cuS sd A B r (cuQ sd A B r o j)).1 := fun j => Classical.byContradiction (fun q => hc ⟨j, q⟩)
    obtain ⟨p1, p2⟩ := cu_prog hm hd hr hro hab 120 (fun j _ => all j)
    have := flN_le (sd := sd) (A := A) (B := B) (r := r) p1
    have := ct_lt hs0 hsd
    omega
  obtain ⟨N, n1, n2⟩ := pk_least _ ex
  have n2 : ∀ j, j < N → o ∈ (cuS sd A B r (cuQ sd A B r o j)).1 := fun j hj => Classical.byContradiction (fun q => n2 j hj q)
  obtain ⟨p1, p2⟩ := cu_prog hm hd hr hro hab N n2
  have := flN_le (sd := sd) (A := A) (B := B) (r := r) p1
  have := ct_lt hs0 hsd
  exact ⟨N, by omega, n2, n1⟩
/-- a heap like another but for what searches use -/
def frW (h H : ia_H) : Prop := (∀ y, y ≠ 29 → y ≠ 34 → y ≠ 36 → y ≠ 37 → y ≠ 38 → y ≠ 39 → H.1 y = h.1 y) ∧ H.2 = h.2
theorem frW_hB {h H : ia_H} (hf : frW h H) (R d b : Nat → Int32) (c : Nat) : frW h (hB H R d b c) := by
  refine ⟨fun y h1 h2 h3 h4 h5 h6 => ?_, hf.2⟩
  show (if y = 29 then _ else if y = 38 then b else if y = 37 then d else if y = 36 then R else H.1 y) = h.1 y
  rw [if_neg h1, if_neg h5, if_neg h4, if_neg h3]
  exact hf.1 y h1 h2 h3 h4 h5 h6
theorem frW_39 {h H : ia_H} (hf : frW h H) (f : Nat → Int32) : frW h (hsI H 39 f) := by
  refine ⟨fun y h1 h2 h3 h4 h5 h6 => ?_, hf.2⟩
  show (if y = 39 then f else H.1 y) = h.1 y
  rw [if_neg h6]
  exact hf.1 y h1 h2 h3 h4 h5 h6
theorem frW_34 {h H : ia_H} (hf : frW h H) (f : Nat → Int32) : frW h (hsI H 34 f) := by
  refine ⟨fun y h1 h2 h3 h4 h5 h6 => ?_, hf.2⟩
  show (if y = 34 then f else H.1 y) = h.1 y
  rw [if_neg h2]
  exact hf.1 y h1 h2 h3 h4 h5 h6
theorem x1c : ∀ w, w < 240 → (w ^^^ 1) / 2 = w / 2 ∧ (w ^^^ 1) % 2 = 1 - w % 2 := by decide +kernel
theorem c_xor (sd : Nat → Bool) (A B : Nat → Nat) {w : Nat} (hw : w < 240) : cst sd (w ^^^ 1) = cst sd w ∧ cdt A B (w ^^^ 1) = csr A B w := by
  obtain ⟨e1, e2⟩ := x1c w hw
  unfold cst cdt csr
  rw [e1, e2]
  refine ⟨rfl, ?_⟩
  by_cases hp : w % 2 = 0
  · rw [if_neg (show ¬ 1 - w % 2 = 0 by omega), if_pos hp]
  · rw [if_pos (show 1 - w % 2 = 0 by omega), if_neg hp]
theorem l_cut1 (h : ia_H) (n m : Nat) (hn : n ≤ 120) (hm : m ≤ 41) (sd : Nat → Bool) (A B : Nat → Nat) (hsd : ∀ s, n ≤ s → sd s = false) (r o N : Nat) (hr : r < m) (ho : o < m) (hN : N ≤ 119) (n2 : ∀ j, j < N → o ∈ (cuS sd A B r (cuQ sd A B r o j)).1) (n1 : ¬ o ∈ (cuS sd A B r (cuQ sd A B r o N)).1) {Z : Option Value → ia_H → Prop}
    (hZ : ∀ (H : ia_H) (a3 a4 : Option Value), frW h H → (∀ g, g < 41 → (H.1 37 g = -1 ↔ ¬ g ∈ (cuS sd A B r (cuQ sd A B r o N)).1)) → R_ ia_k_X6_findCut Z (49, [some (.ref 29), some (.int (nI r)), some (.int (nI o)), a3, a4], [], H)) :
    ∀ (k i : Nat) (a4 : Option Value) (H : ia_H), i + k = N → frW h H → wbOk H (cst sd) (csr A B) (cdt A B) m → fAg 120 (H.1 39) (cuQ sd A B r o i) → R_ ia_k_X6_findCut Z (10, [some (.ref 29), some (.int (nI r)), some (.int (nI o)), some (.int (nI i)), a4], [], H) := by
  intro k
  induction k with
  | zero =>
    intro i a4 H hi hf hw hag
    have ei : i = N := by omega
    subst ei
    have hdt : ∀ w, w < 240 → cst sd w = true → cdt A B w < m := fun w h1 h2 => (hw.1 w h1 h2).2.1
    have e0 : bsF (cst sd) (csr A B) (cdt A B) (rmF (H.1 39)) r (bsH H) = bsF (cst sd) (csr A B) (cdt A B) (rmF (cuQ sd A B r o i)) r (bsH H) := bsR_rm2 (rm_ag hsd (fun s hs => hag s (by omega))) _ _ _
    have hE := bsE_F (sr := csr A B) (rm := rmF (cuQ sd A B r o i)) hm hdt hr (bsH_ok H m) List.not_mem_nil (bsH_E H)
    obtain ⟨okF, -, -, -⟩ := bsF_all (sr := csr A B) (rm := rmF (cuQ sd A B r o i)) hm hdt hr
    have okF : bsOk m (cuS sd A B r (cuQ sd A B r o i)) := okF
    have hE : bsE _ (cuS sd A B r (cuQ sd A B r o i)) := hE
    refine ia_walk (fun pc => Nat.beq pc 49) 60 (fun X hX => ?_)
    conv => whnf
    refine And.intro (fun c => ?_) (fun c => ?_)
    · exact absurd (show (120 : Int32) < nI i from c) (nI_nlt (a := 120) (b := i) (by omega) (by omega))
    · conv => whnf
      refine Exists.intro (_, _) (And.intro (ia_callE (v_forget2 H)) ?_)
      conv => whnf
      obtain ⟨r', h2, ev, z1, R2, z2, z3⟩ := v_reachFrom H (cst sd) (csr A B) (cdt A B) m hm hw r hr (bsH H) (bsH_ok _ m) List.not_mem_nil (H.1 36) (fun i hi => absurd hi (Nat.not_lt_zero i))
      refine Exists.intro (r', h2) (And.intro ev ?_)
      subst z1
      subst z3
      rw [e0]
      have key := fun g (hg : g < 41) => hE.2.1 g hg
      generalize bsF (cst sd) (csr A B) (cdt A B) (rmF (cuQ sd A B r o i)) r (bsH H) = S1 at key ⊢
      conv => whnf
      refine Exists.intro _ (And.intro (And.intro rfl (by omega)) ?_)
      conv => whnf
      refine And.intro (fun c1 => ?_) (fun c1 => ?_)
      · conv => whnf
        refine hX _ (hZ _ _ _ (frW_hB hf _ _ _ _) (fun g hg => ?_))
        show S1.2.1 g = -1 ↔ _
        rw [key g hg]
        exact bsOk_in okF hm hg
      · exact absurd (show S1.2.1 o = -1 by rw [key o (by omega)]; exact (bsOk_in okF hm (by omega)).mpr n1) c1
  | succ k ih =>
    intro i a4 H hi hf hw hag
    have hdt : ∀ w, w < 240 → cst sd w = true → cdt A B w < m := fun w h1 h2 => (hw.1 w h1 h2).2.1
    have e0 : bsF (cst sd) (csr A B) (cdt A B) (rmF (H.1 39)) r (bsH H) = bsF (cst sd) (csr A B) (cdt A B) (rmF (cuQ sd A B r o i)) r (bsH H) := bsR_rm2 (rm_ag hsd (fun s hs => hag s (by omega))) _ _ _
    have hE := bsE_F (sr := csr A B) (rm := rmF (cuQ sd A B r o i)) hm hdt hr (bsH_ok H m) List.not_mem_nil (bsH_E H)
    obtain ⟨okF, -, -, -⟩ := bsF_all (sr := csr A B) (rm := rmF (cuQ sd A B r o i)) hm hdt hr
    have okF : bsOk m (cuS sd A B r (cuQ sd A B r o i)) := okF
    have hE : bsE _ (cuS sd A B r (cuQ sd A B r o i)) := hE
    have hWy := cuW_ok (A := A) (B := B) hm hdt hr (cuQ sd A B r o i)
    have hin := n2 i (by omega)
    obtain ⟨-, kd, kd1, kd2⟩ := okF.2.1 o hin
    have hl := bsOk_len okF
    have ek : ((cuS sd A B r (cuQ sd A B r o i)).2.1 o).toNatClampNeg = kd := by rw [kd2]; exact nI_clamp (by omega)
    refine ia_walk (fun pc => Nat.beq pc 10) 60 (fun X hX => ?_)
    conv => whnf
    refine And.intro (fun c => ?_) (fun c => ?_)
    · exact absurd (show (120 : Int32) < nI i from c) (nI_nlt (a := 120) (b := i) (by omega) (by omega))
    · conv => whnf
      refine Exists.intro (_, _) (And.intro (ia_callE (v_forget2 H)) ?_)
      conv => whnf
      obtain ⟨r', h2, ev, z1, R2, z2, z3⟩ := v_reachFrom H (cst sd) (csr A B) (cdt A B) m hm hw r hr (bsH H) (bsH_ok _ m) List.not_mem_nil (H.1 36) (fun i hi => absurd hi (Nat.not_lt_zero i))
      refine Exists.intro (r', h2) (And.intro ev ?_)
      subst z1
      subst z3
      rw [e0]
      generalize bsF (cst sd) (csr A B) (cdt A B) (rmF (cuQ sd A B r o i)) r (bsH H) = S1 at hE ⊢
      conv => whnf
      refine Exists.intro _ (And.intro (And.intro rfl (by omega)) ?_)
      conv => whnf
      refine And.intro (fun c1 => ?_) (fun c1 => ?_)
      · exact absurd (show S1.2.1 o = -1 from c1) (by rw [hE.2.1 o (by omega), kd2]; exact nI_nm1 (by omega))
      · conv => whnf
        have hfl := v_flowAlong (hB H R2 S1.2.1 S1.2.2 S1.1.length) (cst sd) (csr A B) (cdt A B) (rmF (cuQ sd A B r o i)) (cuS sd A B r (cuQ sd A B r o i)) r (cuW sd A B r (cuQ sd A B r o i)) m hm okF hWy (fun g hg => hE.2.2 g (by rw [hE.1]; exact hg)) (fun w hw1 hw2 => by
          obtain ⟨x1, x2⟩ := xor1 w hw1
          obtain ⟨y1, y2⟩ := c_xor sd A B hw1
          have := (hw.1 (w ^^^ 1) x2 (by rw [y1]; exact hw2)).1
          rw [y2] at this
          exact this) o kd hin kd2 (by omega)
        refine Exists.intro (_, _) (And.intro (ia_callE hfl) ?_)
        conv => whnf
        rw [nI_1]
        refine hX _ (ih (i + 1) _ _ (by omega) (frW_39 (frW_hB hf _ _ _ _) _) hw ?_)
        show fAg 120 (pfF (cuW sd A B r (cuQ sd A B r o i)) (csr A B) kd o (H.1 39)) (cuQ sd A B r o (i + 1))
        rw [cuQ, cuN, ek]
        exact fAg_pf hag
