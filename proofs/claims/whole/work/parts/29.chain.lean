/-! Chains: firstNearer, findChain -/
/-- v is the first way from g to one that is a step nearer -/
def nxP (st : Nat → Bool) (sr dt : Nat → Nat) (d : Nat → Int32) (g v : Nat) : Prop := v < 240 ∧ (st v = true ∧ sr v = g ∧ d (dt v) = d g - 1) ∧ ∀ u, u < v → ¬ (st u = true ∧ sr u = g ∧ d (dt u) = d g - 1)
theorem l_firstNearer (h : ia_H) (st : Nat → Bool) (sr dt : Nat → Nat) (m : Nat) (hm : m ≤ 41) (hw : wbOk h st sr dt m) (g v : Nat) (hg : g < m) (hv : nxP st sr dt (h.1 37) g v) {Z : Option Value → ia_H → Prop} (hZ : Z (some (.int (nI v))) h) : ∀ (k w : Nat), w ≤ v → wcn st sr g w + k = wcn st sr g 240 → R_ ia_k_X6_firstNearer Z (7, [some (.ref 29), some (.int (nI g)), some (.int (nI (wsm st sr g + wcn st sr g w)))], [], h) := by
  obtain ⟨v1, ⟨v2, v3, v4⟩, v5⟩ := hv
  have ea1 : wsm st sr (g + 1) = wsm st sr g + wcn st sr g 240 := rfl
  have hall := wsm_all st sr (g + 1)
  intro k
  induction k with
  | zero =>
    intro w w1 w2
    have q1 := wcn_t (st := st) (sr := sr) v2
    rw [v3] at q1
    have q2 := wcn_mono (st := st) (sr := sr) (g := g) w1
    have q3 := wcn_mono (st := st) (sr := sr) (g := g) (show v + 1 ≤ 240 by omega)
    omega
  | succ k ih =>
    intro w w1 w2
    obtain ⟨u, u1, u2, u3, u4, u5⟩ := wcn_next (st := st) (sr := sr) (a := g) (240 - w) w (by omega) (by omega)
    have uv : u ≤ v := by
      rcases Nat.lt_or_ge v u with q | q
      · exact absurd ⟨v2, v3⟩ (u5 v w1 q)
      · exact q
    obtain ⟨-, s2⟩ := bsW_skip (st := st) (sr := sr) (dt := dt) (rm := fun _ => true) (S := bs0) u1 u5
    obtain ⟨l1, l2, -⟩ := hw.1 u u2 u3
    have eY : h.1 31 (wsm st sr g + wcn st sr g w) = nI u := by
      have := hw.2.2 u u2 u3
      rw [u4, s2] at this
      exact this
    have et := wcn_t (st := st) (sr := sr) u3
    rw [u4, s2] at et
    have em := wcn_mono (st := st) (sr := sr) (g := g) (show u + 1 ≤ 240 by omega)
    refine ia_walk (fun pc => Nat.beq pc 7) 60 (fun X hX => ?_)
    conv => whnf
    refine Exists.intro (g + 1) (And.intro (And.intro (nI_1 g) (by omega)) ?_)
    conv => whnf
    refine And.intro (fun c => ?_) (fun c => ?_)
    · conv => whnf
      refine Exists.intro _ (And.intro (And.intro rfl (by omega)) ?_)
      conv => whnf
      refine Exists.intro (u) (And.intro (And.intro (eY) (u2)) ?_)
      conv => whnf
      refine Exists.intro (dt u) (And.intro (And.intro (l1) (by omega)) ?_)
      conv => whnf
      refine Exists.intro _ (And.intro (And.intro rfl (by omega)) ?_)
      conv => whnf
      refine And.intro (fun c1 => ?_) (fun c1 => ?_)
      · have euv : u = v := by
          rcases Nat.lt_or_ge u v with q | q
          · exact absurd ⟨u3, u4, c1⟩ (v5 u q)
          · omega
        conv => whnf
        refine Exists.intro _ (And.intro (And.intro rfl (by omega)) ?_)
        conv => whnf
        rw [eY, euv]
        exact hZ
      · have huv : u < v := by
          rcases Nat.lt_or_ge u v with q | q
          · exact q
          · have : u = v := by omega
            subst this
            exact absurd v4 c1
        conv => whnf
        rw [nI_1, Nat.add_assoc, ← et]
        exact hX _ (ih (u + 1) (by omega) (by omega))
    · exact absurd (show nI (wsm st sr g + wcn st sr g w) < h.1 32 (g + 1) by rw [hw.2.1 _ (by omega), ea1]; exact nI_lt (by omega) (by omega)) c
theorem v_firstNearer (h : ia_H) (st : Nat → Bool) (sr dt : Nat → Nat) (m : Nat) (hm : m ≤ 41) (hw : wbOk h st sr dt m) (g v : Nat) (hg : g < m) (hv : nxP st sr dt (h.1 37) g v) : V_ 49 [.ref 29, .int (nI g)] h (Z_ (.int (nI v)) h) := by
  refine ia_V_in ia_k_X6_firstNearer [some (.ref 29), some (.int (nI g)), none] rfl rfl (Nat.le_of_ble_eq_true rfl) rfl ?_
  refine ia_walk (fun pc => Nat.beq pc 7) 60 (fun X hX => ?_)
  conv => whnf
  refine Exists.intro _ (And.intro (And.intro rfl (by omega)) ?_)
  conv => whnf
  have eb : h.1 32 g = nI (wsm st sr g + wcn st sr g 0) := hw.2.1 g (by omega)
  rw [eb]
  exact hX _ (l_firstNearer h st sr dt m hm hw g v hg hv ⟨rfl, rfl⟩ (wcn st sr g 240) 0 (by omega) (Nat.zero_add _))
/-- the places of a chain: from x on, by the ways nx -/
def chA (dt nx : Nat → Nat) (x : Nat) : Nat → Nat
  | 0 => x
  | k + 1 => dt (nx (chA dt nx x k))
/-- how far: each step is one nearer -/
theorem chA_d {st : Nat → Bool} {sr dt : Nat → Nat} {d : Nat → Int32} {nx : Nat → Nat} {x n : Nat} (hn : n < 2 ^ 30) (hx : d x = nI n) (P : Nat → Prop) (hP : P x) (hnx : ∀ g, P g → ¬ d g = 0 → nxP st sr dt d g (nx g) ∧ P (dt (nx g))) : ∀ k, k ≤ n → d (chA dt nx x k) = nI (n - k) ∧ P (chA dt nx x k)
  | 0, _ => ⟨hx, hP⟩
  | k + 1, hk => by
    obtain ⟨i1, i2⟩ := chA_d hn hx P hP hnx k (by omega)
    have hne : ¬ d (chA dt nx x k) = 0 := by rw [i1]; exact nI_ne0 (by omega) (by omega)
    obtain ⟨j1, j2⟩ := hnx _ i2 hne
    refine ⟨?_, j2⟩
    show d (dt (nx (chA dt nx x k))) = _
    rw [j1.2.1.2.2, i1, show n - k = (n - (k + 1)) + 1 by omega]
    exact nI_pred _
theorem l_findChain (h : ia_H) (st : Nat → Bool) (sr dt : Nat → Nat) (m : Nat) (hm : m ≤ 41) (hw : wbOk h st sr dt m) (nx : Nat → Nat) (x n : Nat) (hn : n < 120) (o : Int32) (P : Nat → Prop) (hPm : ∀ g, P g → g < m) (hP : P x) (hx : h.1 37 x = nI n) (hnx : ∀ g, P g → ¬ h.1 37 g = 0 → nxP st sr dt (h.1 37) g (nx g) ∧ P (dt (nx g))) {Z : Option Value → ia_H → Prop} (hZ : ∀ T : Nat → Int32, (∀ k, k < n → T k = nI (nx (chA dt nx x k) / 2)) → Z (some (.int (nI n))) (hsI h 34 T)) : ∀ (k j : Nat) (a6 : Option Value), j + k = n → ∀ T : Nat → Int32, (∀ i, i < j → T i = nI (nx (chA dt nx x i) / 2)) → R_ ia_k_X6_findChain Z (30, [some (.ref 29), some (.int (nI x)), some (.int o), some (.int (nI n)), some (.int (nI (chA dt nx x j))), some (.int (nI j)), a6], [], hsI h 34 T) := by
  intro k
  induction k with
  | zero =>
    intro j a6 hj T hT
    have ej : j = n := by omega
    subst ej
    refine ia_walk (fun pc => Nat.beq pc 30) 60 (fun X hX => ?_)
    conv => whnf
    refine And.intro (fun c => ?_) (fun c => ?_)
    · exact absurd c (nI_nlt (Nat.le_refl _) (by omega))
    · conv => whnf
      exact hZ T hT
  | succ k ih =>
    intro j a6 hj T hT
    obtain ⟨d1, d2⟩ := chA_d (st := st) (sr := sr) (by omega) hx P hP hnx j (by omega)
    have hne : ¬ h.1 37 (chA dt nx x j) = 0 := by rw [d1]; exact nI_ne0 (by omega) (by omega)
    obtain ⟨j1, j2⟩ := hnx _ d2 hne
    have hgm := hPm _ d2
    obtain ⟨n1, ⟨n2, n3, n4⟩, n5⟩ := j1
    obtain ⟨l1, l2, -⟩ := hw.1 _ n1 n2
    refine ia_walk (fun pc => Nat.beq pc 30) 60 (fun X hX => ?_)
    conv => whnf
    refine And.intro (fun c => ?_) (fun c => ?_)
    · conv => whnf
      refine Exists.intro (_, _) (And.intro (ia_callE (v_firstNearer (hsI h 34 T) st sr dt m hm hw (chA dt nx x j) (nx (chA dt nx x j)) hgm ⟨n1, ⟨n2, n3, n4⟩, n5⟩)) ?_)
      conv => whnf
      refine And.intro (fun c1 => ?_) (fun c1 => ?_)
      · exact absurd c1 (nI_nm1 (by omega))
      · conv => whnf
        refine Exists.intro _ (And.intro (And.intro rfl (by omega)) ?_)
        conv => whnf
        refine Exists.intro _ (And.intro (And.intro rfl (by omega)) ?_)
        conv => whnf
        rw [nI_1, shr1 _ n1]
        have e : hsI (hsI h 34 T) 34 (upd T j (nI (nx (chA dt nx x j) / 2))) = hsI h 34 (upd T j (nI (nx (chA dt nx x j) / 2))) := hsI_same _ _ _ _
        have nxt := ih (j + 1) (some (.int (nI (nx (chA dt nx x j))))) (by omega) (upd T j (nI (nx (chA dt nx x j) / 2))) (fun i hi => by
          simp only [upd]
          by_cases hij : i = j
          · subst hij; rw [if_pos rfl]
          · rw [if_neg hij]; exact hT i (by omega))
        rw [← e] at nxt
        have l1 : h.1 30 (nx (chA dt nx x j)) = nI (chA dt nx x (j + 1)) := l1
        rw [← l1] at nxt
        exact hX _ nxt
    · exact absurd (nI_lt (show j < n by omega) (by omega)) c
