/-! chain, class and reference side by side -/
abbrev chS (sd : Nat → Bool) (A B : Nat → Nat) (o : Nat) : bsT := bsF (cst sd) (csr A B) (cdt A B) tt o bs0
noncomputable def chX (sd : Nat → Bool) (A B : Nat → Nat) (o g : Nat) : Nat := Classical.epsilon (fun v => nxP (cst sd) (csr A B) (cdt A B) (chS sd A B o).2.1 g v)
theorem nI_s1 {a : Nat} (h : a < 2 ^ 30) : nI (a + 1) - 1 = nI a := by
  rw [← nI_1]
  exact Int32.add_sub_cancel _ _
theorem csr_xor (A B : Nat → Nat) {w : Nat} (hw : w < 240) : csr A B (w ^^^ 1) = cdt A B w := by
  obtain ⟨e1, e2⟩ := x1c w hw
  unfold cdt csr
  rw [e1, e2]
  by_cases hp : w % 2 = 0
  · rw [if_neg (show ¬ 1 - w % 2 = 0 by omega), if_pos hp]
  · rw [if_pos (show 1 - w % 2 = 0 by omega), if_neg hp]
theorem ch_0 {sd : Nat → Bool} {A B : Nat → Nat} {m o : Nat} (hm : m ≤ 41) (hd : ∀ w, w < 240 → cst sd w = true → cdt A B w < m) (ho : o < m) : ∀ g, g ∈ (chS sd A B o).1 → ((chS sd A B o).2.1 g = 0 ↔ g = o) := by
  intro g hg
  obtain ⟨ok, -, -, -⟩ := bsF_all (sr := csr A B) (rm := tt) hm hd ho
  obtain ⟨wy, hw⟩ := pt_ex (sr := csr A B) (rm := tt) hm hd ho
  have hl := bsOk_len ok
  rcases hw g hg with ⟨e, -, z⟩ | ⟨q1, -, -, -, -, -, q6, q7⟩
  · exact ⟨fun _ => e, fun _ => z⟩
  · refine ⟨fun z => ?_, fun e => absurd e q1⟩
    obtain ⟨-, l, l1, l2⟩ := ok.2.1 _ q6
    have q7 : (chS sd A B o).2.1 g = _ := q7
    rw [z, l2, nI_1] at q7
    have := nI_inj (a := 0) (by omega) (by omega) q7
    omega
theorem chX_ok {sd : Nat → Bool} {A B : Nat → Nat} {m o : Nat} (hm : m ≤ 41) (hd : ∀ w, w < 240 → cst sd w = true → cdt A B w < m) (ho : o < m) : ∀ g, g ∈ (chS sd A B o).1 → ¬ (chS sd A B o).2.1 g = 0 → nxP (cst sd) (csr A B) (cdt A B) (chS sd A B o).2.1 g (chX sd A B o g) ∧ cdt A B (chX sd A B o g) ∈ (chS sd A B o).1 := by
  intro g hg hne
  obtain ⟨ok, -, -, hB⟩ := bsF_all (sr := csr A B) (rm := tt) hm hd ho
  have ok : bsOk m (chS sd A B o) := ok
  have hl := bsOk_len ok
  obtain ⟨gm, kg, kg1, kg2⟩ := ok.2.1 g hg
  have kg0 : kg ≠ 0 := fun e => hne (by rw [kg2, e]; rfl)
  obtain ⟨k, rfl⟩ : ∃ k, kg = k + 1 := ⟨kg - 1, by omega⟩
  have ek : (chS sd A B o).2.1 g - 1 = nI k := by rw [kg2]; exact nI_s1 (by omega)
  have ex : ∃ v, v < 240 ∧ (cst sd v = true ∧ csr A B v = g ∧ (chS sd A B o).2.1 (cdt A B v) = (chS sd A B o).2.1 g - 1) := by
    rcases hB g hg with ⟨-, z⟩ | ⟨w, w1, w2, -, w4, -, w6, w7⟩
    · exact absurd z hne
    · obtain ⟨x1, x2⟩ := xor1 w w1
      obtain ⟨y1, y2⟩ := c_xor sd A B w1
      refine ⟨w ^^^ 1, x2, by rw [y1]; exact w2, by rw [csr_xor A B w1]; exact w4, ?_⟩
      rw [y2]
      have w7 : (chS sd A B o).2.1 g = (chS sd A B o).2.1 (csr A B w) + 1 := w7
      rw [w7]
      exact (Int32.add_sub_cancel _ _).symm
  obtain ⟨v, ⟨v1, v2⟩, v3⟩ := pk_least _ ex
  have hs : nxP (cst sd) (csr A B) (cdt A B) (chS sd A B o).2.1 g (chX sd A B o g) := Classical.epsilon_spec (p := fun v => nxP (cst sd) (csr A B) (cdt A B) (chS sd A B o).2.1 g v) ⟨v, v1, v2, fun u hu q => v3 u hu ⟨by omega, q⟩⟩
  refine ⟨hs, ?_⟩
  have hlt := hd _ hs.1 hs.2.1.1
  apply Classical.byContradiction
  intro hn
  have := ok.2.2 _ (by omega) hn
  have h4 := hs.2.1.2.2
  rw [this, ek] at h4
  exact nI_nm1 (by omega) h4.symm
/-- the chain -/
noncomputable def chL (sd : Nat → Bool) (A B : Nat → Nat) (x o : Nat) : List Nat := (List.range ((chS sd A B o).2.1 x).toNatClampNeg).map (fun k => chX sd A B o (chA (cdt A B) (chX sd A B o) x k) / 2)
theorem chL_len {sd : Nat → Bool} {A B : Nat → Nat} {x o k : Nat} (hk : k < 2 ^ 30) (e : (chS sd A B o).2.1 x = nI k) : (chL sd A B x o).length = k := by
  unfold chL
  rw [List.length_map, List.length_range, e]
  exact nI_clamp (by omega)
theorem chL_rw {sd : Nat → Bool} {A B : Nat → Nat} {x o k : Nat} (hk : k < 2 ^ 30) (e : (chS sd A B o).2.1 x = nI k) {T : Nat → Int32} (hT : ∀ i, i < k → T i = nI (chX sd A B o (chA (cdt A B) (chX sd A B o) x i) / 2)) : rwOk T (chL sd A B x o) := by
  intro i hi
  rw [hT i (by rw [chL_len hk e] at hi; exact hi)]
  simp only [chL, List.getElem_map, List.getElem_range]
theorem chL_ok {sd : Nat → Bool} {A B : Nat → Nat} {m n x o : Nat} (hm : m ≤ 41) (hd : ∀ w, w < 240 → cst sd w = true → cdt A B w < m ∧ w / 2 < n) (ho : o < m) (hx : x ∈ (chS sd A B o).1) : (chL sd A B x o).length ≤ 40 ∧ (∀ s, s ∈ chL sd A B x o → s < n) ∧ (chS sd A B o).2.1 x = nI (chL sd A B x o).length := by
  have hd1 : ∀ w, w < 240 → cst sd w = true → cdt A B w < m := fun w h1 h2 => (hd w h1 h2).1
  obtain ⟨ok, -, -, -⟩ := bsF_all (sr := csr A B) (rm := tt) hm hd1 ho
  have ok : bsOk m (chS sd A B o) := ok
  have hl := bsOk_len ok
  obtain ⟨-, k, k1, k2⟩ := ok.2.1 x hx
  have hk : k < 2 ^ 30 := by omega
  have e := chL_len hk k2
  refine ⟨by omega, fun s hs => ?_, by rw [e]; exact k2⟩
  unfold chL at hs
  obtain ⟨i, hi, rfl⟩ := List.mem_map.mp hs
  have hi : i < k := by
    have := List.mem_range.mp hi
    rw [k2, nI_clamp (by omega)] at this
    exact this
  obtain ⟨c1, c2⟩ := chA_d hk k2 (fun g => g ∈ (chS sd A B o).1) hx (chX_ok hm hd1 ho) i (by omega)
  have hne : ¬ (chS sd A B o).2.1 (chA (cdt A B) (chX sd A B o) x i) = 0 := by
    rw [c1]
    intro q
    have := nI_inj (b := 0) (by omega) (by omega) q
    omega
  have h1 := (chX_ok hm hd1 ho _ c2 hne).1
  exact (hd _ h1.1 h1.2.1.1).2
/-- what class and reference find of a chain -/
def chZ (sd : Nat → Bool) (A B : Nat → Nat) (x o c : Nat) (r : Option Value) (h' : ia_H) : Prop := (x ∈ (chS sd A B o).1 ∧ r = some (.int (nI (chL sd A B x o).length)) ∧ rwOk (h'.1 c) (chL sd A B x o)) ∨ (¬ x ∈ (chS sd A B o).1 ∧ r = some (.int (-1)))
theorem v_fChain (h : ia_H) (n G : Nat) (sd : Nat → Bool) (A B : Nat → Nat) (hw : wOk h n G sd A B) (x o : Nat) (hx : x < G) (ho : o < G) : V_ 48 [.ref 29, .int (nI x), .int (nI o)] h (fun r h' => frS h h' ∧ h'.1 35 = h.1 35 ∧ h'.1 71 = h.1 71 ∧ chZ sd A B x o 34 r h') := by
  obtain ⟨hd, -, -, -, hwb, -, -⟩ := hw
  have hG := hd.2.1
  have hdt : ∀ w, w < 240 → cst sd w = true → cdt A B w < G := fun w h1 h2 => (md_dt hd w h1 h2).1
  obtain ⟨ok, -, -, -⟩ := bsF_all (sr := csr A B) (rm := tt) hG hdt ho
  have ok : bsOk G (chS sd A B o) := ok
  have hl := bsOk_len ok
  obtain ⟨r, h', ev, z1, R, d, b, c, T, z2, z3⟩ := v_findChain h (cst sd) (csr A B) (cdt A B) G hG hwb x o hx ho (chX sd A B o) (chX_ok hG hdt ho)
  subst z2
  refine ⟨_, _, ev, ?_, rfl, rfl, ?_⟩
  · exact frS_W (frW_34 (frW_hB (frW_39 ⟨fun _ _ _ _ _ _ _ => rfl, rfl⟩ _) R d b c) T)
  · by_cases hin : x ∈ (chS sd A B o).1
    · obtain ⟨-, k, k1, k2⟩ := ok.2.1 x hin
      have hk : k < 2 ^ 30 := by omega
      refine Or.inl ⟨hin, ?_, ?_⟩
      · rw [z1, chL_len hk k2]
        exact congrArg (fun v => some (Value.int v)) k2
      · exact chL_rw hk k2 (z3 k k2 hk)
    · refine Or.inr ⟨hin, ?_⟩
      rw [z1]
      exact congrArg (fun v => some (Value.int v)) (ok.2.2 x (by omega) hin)
/-- one group: there is a chain -/
def cnOk (h : ia_H) (G : Nat) (sd : Nat → Bool) (A B : Nat → Nat) : Prop := ∀ x o, x < G → o < G → (h.1 60 x = h.1 60 o ↔ x ∈ (chS sd A B o).1)
theorem m_lChain (h : ia_H) (n G : Nat) (sd : Nat → Bool) (A B : Nat → Nat) (hd : mdOk h n G sd A B) (hc : cnOk h G sd A B) (x o : Nat) (hx : x < G) (ho : o < G) : V_ 150 [.ref 52, .int (nI x), .int (nI o)] h (fun r h' => frS h h' ∧ h'.1 35 = h.1 35 ∧ h'.1 71 = h.1 71 ∧ chZ sd A B x o 70 r h') := by
  have hG := hd.2.1
  have hdt : ∀ w, w < 240 → cst sd w = true → cdt A B w < G := fun w h1 h2 => (md_dt hd w h1 h2).1
  obtain ⟨ok, -, -, -⟩ := bsF_all (sr := csr A B) (rm := tt) hG hdt ho
  have ok : bsOk G (chS sd A B o) := ok
  have hl := bsOk_len ok
  have hcx := hc x o hx ho
  refine ia_V_in ia_k_X8_laysChain [some (.ref 52), some (.int (nI x)), some (.int (nI o)), none, none, none] rfl rfl (Nat.le_of_ble_eq_true rfl) rfl ?_
  refine ia_walk (fun pc => Nat.beq pc 27) 60 (fun X hX => ?_)
  conv => whnf
  refine Exists.intro _ (And.intro (And.intro rfl (by omega)) ?_)
  conv => whnf
  refine Exists.intro _ (And.intro (And.intro rfl (by omega)) ?_)
  conv => whnf
  refine And.intro (fun c => ?_) (fun c => ?_)
  · have c : h.1 60 x = h.1 60 o := c
    have hin := hcx.mp c
    obtain ⟨-, k, k1, k2⟩ := ok.2.1 x hin
    have hk : k < 2 ^ 30 := by omega
    conv => whnf
    obtain ⟨r', h2, evf, w1, Q, F, w2, w3, w4⟩ := v_laysFar h n G sd A B hd o ho
    subst w1
    subst w4
    refine Exists.intro (_, _) (And.intro evf ?_)
    conv => whnf
    have w3 : ∀ g, g < G → F g = (chS sd A B o).2.1 g := w3
    have l1 := l_mchain (hF h Q F) n G sd A B hd (chX sd A B o) x o k (by omega) ho (fun g => g ∈ (chS sd A B o).1) (fun g hg => (ok.2.1 g hg).1) hin (show F x = nI k by rw [w3 x hx]; exact k2) (fun g hg => by
      show F g = 0 ↔ g = o
      rw [w3 g (ok.2.1 g hg).1]
      exact ch_0 hG hdt ho g hg) (fun g hg hne => by
      have hgG := (ok.2.1 g hg).1
      have hne2 : ¬ (chS sd A B o).2.1 g = 0 := fun q => hne (show F g = 0 by rw [w3 g hgG]; exact q)
      obtain ⟨q1, q2⟩ := chX_ok hG hdt ho g hg hne2
      refine ⟨⟨q1.1, ⟨q1.2.1.1, q1.2.1.2.1, ?_⟩, fun u hu hcc => q1.2.2 u hu ⟨hcc.1, hcc.2.1, ?_⟩⟩, q2⟩
      · show F (cdt A B (chX sd A B o g)) = F g - 1
        rw [w3 _ (ok.2.1 _ q2).1, w3 g hgG]
        exact q1.2.1.2.2
      · have hu2 := hdt u (by have := q1.1; omega) hcc.1
        have hc3 : F (cdt A B u) = F g - 1 := hcc.2.2
        rw [w3 _ hu2, w3 g hgG] at hc3
        exact hc3) (Z := fun r h' => frS h h' ∧ h'.1 35 = h.1 35 ∧ h'.1 71 = h.1 71 ∧ chZ sd A B x o 70 r h') (fun T hT => by
        refine ⟨frS_tr (frS_tr (frS_I (y := 67) (by omega) Q) (frS_I (y := 69) (by omega) F)) (frS_I (y := 70) (by omega) T), rfl, rfl, Or.inl ⟨hin, ?_, chL_rw hk k2 hT⟩⟩
        rw [chL_len hk k2]) k 0 none (by omega) (h.1 70) (fun i hi => absurd hi (Nat.not_lt_zero i))
    have e70 : hsI (hF h Q F) 70 (h.1 70) = hF h Q F := hsI_eta (hF h Q F) 70
    rw [e70] at l1
    exact hX _ l1
  · conv => whnf
    exact ⟨frS_rfl h, rfl, rfl, Or.inr ⟨fun q => c (hcx.mpr q), rfl⟩⟩
theorem v_chain0 (h : ia_H) (G : Nat) (hG : G ≤ 41) (eG : h.1 4 6 = nI G) (x y kk : Int32) (hb : bad x G ∨ bad y G ∨ kk < -1) : V_ 81 [.ref 0, .int x, .int y, .int kk] h (Z_ (.int (-1)) h) := by
  rcases bad_or x (show G < 2 ^ 31 by omega) with hb1 | ⟨j, hj, rfl⟩
  · refine ia_V_in ia_k_X7_chain [some (.ref 0), some (.int x), some (.int y), some (.int kk), none] rfl rfl (Nat.le_of_ble_eq_true rfl) rfl ?_
    refine ia_walk (fun _ => false) 50 (fun X hX => ?_)
    conv => whnf
    refine Exists.intro (_, _) (And.intro (ia_callE (v_isGa0 eG hb1)) ?_)
    conv => whnf
    refine And.intro (fun c => ?_) (fun c => ?_)
    · conv => whnf
      exact ⟨rfl, rfl⟩
    · exact absurd rfl c
  · rcases bad_or y (show G < 2 ^ 31 by omega) with hb2 | ⟨i, hi, rfl⟩
    · refine ia_V_in ia_k_X7_chain [some (.ref 0), some (.int (nI j)), some (.int y), some (.int kk), none] rfl rfl (Nat.le_of_ble_eq_true rfl) rfl ?_
      refine ia_walk (fun _ => false) 50 (fun X hX => ?_)
      conv => whnf
      refine Exists.intro (_, _) (And.intro (ia_callE (v_isGa1 eG (by omega) hj)) ?_)
      conv => whnf
      refine And.intro (fun c => ?_) (fun c => ?_)
      · exact absurd (show (1 : Int32) = 0 from c) (by decide)
      · conv => whnf
        refine Exists.intro (_, _) (And.intro (ia_callE (v_isGa0 eG hb2)) ?_)
        conv => whnf
        refine And.intro (fun c => ?_) (fun c => ?_)
        · conv => whnf
          exact ⟨rfl, rfl⟩
        · exact absurd rfl c
    · have hk : kk < -1 := by
        rcases hb with (q | q) | (q | q) | q
        · exact absurd q (nI_pos (by omega))
        · exact absurd (nI_lt hj (by omega)) (Int32.not_lt.mpr q)
        · exact absurd q (nI_pos (by omega))
        · exact absurd (nI_lt hi (by omega)) (Int32.not_lt.mpr q)
        · exact q
      refine ia_V_in ia_k_X7_chain [some (.ref 0), some (.int (nI j)), some (.int (nI i)), some (.int kk), none] rfl rfl (Nat.le_of_ble_eq_true rfl) rfl ?_
      refine ia_walk (fun pc => Nat.beq pc 23) 50 (fun X hX => ?_)
      conv => whnf
      refine Exists.intro (_, _) (And.intro (ia_callE (v_isGa1 eG (by omega) hj)) ?_)
      conv => whnf
      refine And.intro (fun c => ?_) (fun c => ?_)
      · exact absurd (show (1 : Int32) = 0 from c) (by decide)
      · conv => whnf
        refine Exists.intro (_, _) (And.intro (ia_callE (v_isGa1 eG (by omega) hi)) ?_)
        conv => whnf
        refine And.intro (fun c => ?_) (fun c => ?_)
        · exact absurd (show (1 : Int32) = 0 from c) (by decide)
        · conv => whnf
          refine And.intro (fun c3 => ?_) (fun c3 => ?_)
          · conv => whnf
            exact ⟨rfl, rfl⟩
          · exact absurd hk c3
theorem m_chain0 (h : ia_H) (G : Nat) (hG : G ≤ 41) (eG : h.1 52 4 = nI G) (x y kk : Int32) (hb : bad x G ∨ bad y G ∨ kk < -1) : V_ 152 [.ref 52, .int x, .int y, .int kk] h (Z_ (.int (-1)) h) := by
  rcases bad_or x (show G < 2 ^ 31 by omega) with hb1 | ⟨j, hj, rfl⟩
  · refine ia_V_in ia_k_X8_chain [some (.ref 52), some (.int x), some (.int y), some (.int kk), none] rfl rfl (Nat.le_of_ble_eq_true rfl) rfl ?_
    refine ia_walk (fun _ => false) 50 (fun X hX => ?_)
    conv => whnf
    refine Exists.intro (_, _) (And.intro (ia_callE (m_isGa0 eG hb1)) ?_)
    conv => whnf
    refine And.intro (fun c => ?_) (fun c => ?_)
    · conv => whnf
      exact ⟨rfl, rfl⟩
    · exact absurd rfl c
  · rcases bad_or y (show G < 2 ^ 31 by omega) with hb2 | ⟨i, hi, rfl⟩
    · refine ia_V_in ia_k_X8_chain [some (.ref 52), some (.int (nI j)), some (.int y), some (.int kk), none] rfl rfl (Nat.le_of_ble_eq_true rfl) rfl ?_
      refine ia_walk (fun _ => false) 50 (fun X hX => ?_)
      conv => whnf
      refine Exists.intro (_, _) (And.intro (ia_callE (m_isGa1 eG (by omega) hj)) ?_)
      conv => whnf
      refine And.intro (fun c => ?_) (fun c => ?_)
      · exact absurd (show (1 : Int32) = 0 from c) (by decide)
      · conv => whnf
        refine Exists.intro (_, _) (And.intro (ia_callE (m_isGa0 eG hb2)) ?_)
        conv => whnf
        refine And.intro (fun c => ?_) (fun c => ?_)
        · conv => whnf
          exact ⟨rfl, rfl⟩
        · exact absurd rfl c
    · have hk : kk < -1 := by
        rcases hb with (q | q) | (q | q) | q
        · exact absurd q (nI_pos (by omega))
        · exact absurd (nI_lt hj (by omega)) (Int32.not_lt.mpr q)
        · exact absurd q (nI_pos (by omega))
        · exact absurd (nI_lt hi (by omega)) (Int32.not_lt.mpr q)
        · exact q
      refine ia_V_in ia_k_X8_chain [some (.ref 52), some (.int (nI j)), some (.int (nI i)), some (.int kk), none] rfl rfl (Nat.le_of_ble_eq_true rfl) rfl ?_
      refine ia_walk (fun pc => Nat.beq pc 23) 50 (fun X hX => ?_)
      conv => whnf
      refine Exists.intro (_, _) (And.intro (ia_callE (m_isGa1 eG (by omega) hj)) ?_)
      conv => whnf
      refine And.intro (fun c => ?_) (fun c => ?_)
      · exact absurd (show (1 : Int32) = 0 from c) (by decide)
      · conv => whnf
        refine Exists.intro (_, _) (And.intro (ia_callE (m_isGa1 eG (by omega) hi)) ?_)
        conv => whnf
        refine And.intro (fun c => ?_) (fun c => ?_)
        · exact absurd (show (1 : Int32) = 0 from c) (by decide)
        · conv => whnf
          refine And.intro (fun c3 => ?_) (fun c3 => ?_)
          · conv => whnf
            exact ⟨rfl, rfl⟩
          · exact absurd hk c3
/-- the answer of chain -/
def chA2 (sd : Nat → Bool) (A B : Nat → Nat) (x o : Nat) (kk v : Int32) : Prop := (x ∈ (chS sd A B o).1 ∧ lsA (chL sd A B x o) kk v) ∨ (¬ x ∈ (chS sd A B o).1 ∧ v = -2)
theorem v_chain1 (h : ia_H) (n G : Nat) (sd : Nat → Bool) (A B : Nat → Nat) (hw : wOk h n G sd A B) (x o : Nat) (hx : x < G) (ho : o < G) (kk : Int32) (hkk : ¬ kk < -1) : V_ 81 [.ref 0, .int (nI x), .int (nI o), .int kk] h (fun r h' => ∃ v, r = some (.int v) ∧ frS h h' ∧ chA2 sd A B x o kk v) := by
  have hG := hw.1.2.1
  have hn := hw.1.1
  have eG := hw.2.2.1
  obtain ⟨r', h2, ev, w1, -, -, w2⟩ := v_fChain h n G sd A B hw x o hx ho
  refine ia_V_in ia_k_X7_chain [some (.ref 0), some (.int (nI x)), some (.int (nI o)), some (.int kk), none] rfl rfl (Nat.le_of_ble_eq_true rfl) rfl ?_
  refine ia_walk (fun _ => false) 60 (fun X hX => ?_)
  conv => whnf
  refine Exists.intro (_, _) (And.intro (ia_callE (v_isGa1 eG (by omega) hx)) ?_)
  conv => whnf
  refine And.intro (fun c => ?_) (fun c => ?_)
  · exact absurd (show (1 : Int32) = 0 from c) (by decide)
  · conv => whnf
    refine Exists.intro (_, _) (And.intro (ia_callE (v_isGa1 eG (by omega) ho)) ?_)
    conv => whnf
    refine And.intro (fun c => ?_) (fun c => ?_)
    · exact absurd (show (1 : Int32) = 0 from c) (by decide)
    · conv => whnf
      refine And.intro (fun c3 => ?_) (fun c3 => ?_)
      · exact absurd c3 hkk
      · conv => whnf
        refine Exists.intro (_, _) (And.intro ev ?_)
        rcases w2 with ⟨hin, rfl, hrw⟩ | ⟨hni, rfl⟩
        · have hl := (chL_ok hG (fun w h1 h2 => ⟨(md_dt hw.1 w h1 h2).1, (md_dt hw.1 w h1 h2).2.2⟩) ho hin).1
          generalize hll : chL sd A B x o = l at hrw hl
          conv => whnf
          refine And.intro (fun c4 => ?_) (fun c4 => ?_)
          · exact absurd (show nI l.length = -1 from c4) (nI_nm1 (by omega))
          · rcases k_or hkk (show l.length < 2 ^ 31 by omega) with q | ⟨q0, q⟩ | ⟨j, hj, rfl⟩
            · subst q
              conv => whnf
              refine And.intro (fun c5 => ?_) (fun c5 => ?_)
              · conv => whnf
                refine And.intro (fun c6 => ?_) (fun c6 => ?_)
                · conv => whnf
                  refine ⟨_, rfl, w1, Or.inl ⟨hin, ?_⟩⟩
                  rw [hll]
                  exact Or.inr ⟨fun j hj e => absurd e.symm (nI_nm1 (by omega)), rfl⟩
                · exact absurd rfl c6
              · exact absurd (show (-1 : Int32) < nI l.length from Int32.lt_of_lt_of_le (by decide) (Int32.not_lt.mp (nI_pos (by omega)))) c5
            · conv => whnf
              refine And.intro (fun c5 => ?_) (fun c5 => ?_)
              · exact absurd c5 (Int32.not_lt.mpr q)
              · conv => whnf
                exact ⟨_, rfl, w1, Or.inl ⟨hin, hll ▸ Or.inr ⟨fun j hj e => absurd (show kk < nI l.length by rw [e]; exact nI_lt hj (by omega)) (Int32.not_lt.mpr q), (if_neg q0).symm⟩⟩⟩
            · conv => whnf
              refine And.intro (fun c5 => ?_) (fun c5 => ?_)
              · conv => whnf
                refine And.intro (fun c6 => ?_) (fun c6 => ?_)
                · exact absurd c6 (nI_nm1 (by omega))
                · conv => whnf
                  refine Exists.intro _ (And.intro (And.intro rfl (by omega)) ?_)
                  conv => whnf
                  refine ⟨_, rfl, w1, Or.inl ⟨hin, ?_⟩⟩
                  rw [hll]
                  exact Or.inl ⟨j, hj, rfl, hrw j hj⟩
              · exact absurd (nI_lt hj (by omega)) c5
        · conv => whnf
          refine And.intro (fun c4 => ?_) (fun c4 => ?_)
          · conv => whnf
            exact ⟨_, rfl, w1, Or.inr ⟨hni, rfl⟩⟩
          · exact absurd rfl c4
theorem m_chain1 (h : ia_H) (n G : Nat) (sd : Nat → Bool) (A B : Nat → Nat) (hd : mdOk h n G sd A B) (hc : cnOk h G sd A B) (x o : Nat) (hx : x < G) (ho : o < G) (kk : Int32) (hkk : ¬ kk < -1) : V_ 152 [.ref 52, .int (nI x), .int (nI o), .int kk] h (fun r h' => ∃ v, r = some (.int v) ∧ frS h h' ∧ chA2 sd A B x o kk v) := by
  have hG := hd.2.1
  have hn := hd.1
  have eG := hd.2.2.2.1
  obtain ⟨r', h2, ev, w1, -, -, w2⟩ := m_lChain h n G sd A B hd hc x o hx ho
  refine ia_V_in ia_k_X8_chain [some (.ref 52), some (.int (nI x)), some (.int (nI o)), some (.int kk), none] rfl rfl (Nat.le_of_ble_eq_true rfl) rfl ?_
  refine ia_walk (fun _ => false) 60 (fun X hX => ?_)
  conv => whnf
  refine Exists.intro (_, _) (And.intro (ia_callE (m_isGa1 eG (by omega) hx)) ?_)
  conv => whnf
  refine And.intro (fun c => ?_) (fun c => ?_)
  · exact absurd (show (1 : Int32) = 0 from c) (by decide)
  · conv => whnf
    refine Exists.intro (_, _) (And.intro (ia_callE (m_isGa1 eG (by omega) ho)) ?_)
    conv => whnf
    refine And.intro (fun c => ?_) (fun c => ?_)
    · exact absurd (show (1 : Int32) = 0 from c) (by decide)
    · conv => whnf
      refine And.intro (fun c3 => ?_) (fun c3 => ?_)
      · exact absurd c3 hkk
      · conv => whnf
        refine Exists.intro (_, _) (And.intro ev ?_)
        rcases w2 with ⟨hin, rfl, hrw⟩ | ⟨hni, rfl⟩
        · have hl := (chL_ok hG (fun w h1 h2 => ⟨(md_dt hd w h1 h2).1, (md_dt hd w h1 h2).2.2⟩) ho hin).1
          generalize hll : chL sd A B x o = l at hrw hl
          conv => whnf
          refine And.intro (fun c4 => ?_) (fun c4 => ?_)
          · exact absurd (show nI l.length < 0 from c4) (nI_pos (by omega))
          · rcases k_or hkk (show l.length < 2 ^ 31 by omega) with q | ⟨q0, q⟩ | ⟨j, hj, rfl⟩
            · subst q
              conv => whnf
              refine And.intro (fun c5 => ?_) (fun c5 => ?_)
              · conv => whnf
                refine ⟨_, rfl, w1, Or.inl ⟨hin, ?_⟩⟩
                rw [hll]
                exact Or.inr ⟨fun j hj e => absurd e.symm (nI_nm1 (by omega)), rfl⟩
              · exact absurd rfl c5
            · conv => whnf
              refine And.intro (fun c5 => ?_) (fun c5 => ?_)
              · exact absurd c5 q0
              · conv => whnf
                refine And.intro (fun c6 => ?_) (fun c6 => ?_)
                · exact absurd c6 (Int32.not_lt.mpr q)
                · conv => whnf
                  exact ⟨_, rfl, w1, Or.inl ⟨hin, hll ▸ Or.inr ⟨fun j hj e => absurd (show kk < nI l.length by rw [e]; exact nI_lt hj (by omega)) (Int32.not_lt.mpr q), (if_neg q0).symm⟩⟩⟩
            · conv => whnf
              refine And.intro (fun c5 => ?_) (fun c5 => ?_)
              · exact absurd c5 (nI_nm1 (by omega))
              · conv => whnf
                refine And.intro (fun c6 => ?_) (fun c6 => ?_)
                · conv => whnf
                  refine Exists.intro _ (And.intro (And.intro rfl (by omega)) ?_)
                  conv => whnf
                  refine ⟨_, rfl, w1, Or.inl ⟨hin, ?_⟩⟩
                  rw [hll]
                  exact Or.inl ⟨j, hj, rfl, hrw j hj⟩
                · exact absurd (nI_lt hj (by omega)) c6
        · conv => whnf
          refine And.intro (fun c4 => ?_) (fun c4 => ?_)
          · conv => whnf
            exact ⟨_, rfl, w1, Or.inr ⟨hni, rfl⟩⟩
          · exact absurd (show (-1 : Int32) < 0 by decide) c4
theorem cnOk_fr {h H : ia_H} {G : Nat} {sd : Nat → Bool} {A B : Nat → Nat} (hc : cnOk h G sd A B) (hf : frS h H) : cnOk H G sd A B := by
  intro x o hx ho
  rw [hf.1 60 (by omega)]
  exact hc x o hx ho
theorem q_chain {h : ia_H} {n G : Nat} {sd : Nat → Bool} {A B : Nat → Nat} (hw : wOk h n G sd A B) (hc : cnOk h G sd A B) (x y kk : Int32) : P_ 81 [.ref 0, .int x, .int y, .int kk] 152 [.ref 52, .int x, .int y, .int kk] h := by
  have hG := hw.1.2.1
  have e1 := hw.2.2.1
  have e2 := hw.1.2.2.2.1
  rcases bad_or x (show G < 2 ^ 31 by omega) with hb | ⟨i, hi, rfl⟩
  · exact P_of (v_chain0 h G hG e1 x y kk (Or.inl hb)) (m_chain0 h G hG e2 x y kk (Or.inl hb))
  · rcases bad_or y (show G < 2 ^ 31 by omega) with hb | ⟨j, hj, rfl⟩
    · exact P_of (v_chain0 h G hG e1 _ y kk (Or.inr (Or.inl hb))) (m_chain0 h G hG e2 _ y kk (Or.inr (Or.inl hb)))
    · by_cases hkk : kk < -1
      · exact P_of (v_chain0 h G hG e1 _ _ kk (Or.inr (Or.inr hkk))) (m_chain0 h G hG e2 _ _ kk (Or.inr (Or.inr hkk)))
      · obtain ⟨r, h1, ev, v, z1, z2, z3⟩ := v_chain1 h n G sd A B hw i j hi hj kk hkk
        obtain ⟨r', h2, ev', v', y1, y2, y3⟩ := m_chain1 h1 n G sd A B (wOk_fr hw z2).1 (cnOk_fr hc z2) i j hi hj kk hkk
        refine ⟨r, h1, ev, z2, r', h2, ev', ?_, frS_tr z2 y2⟩
        rw [y1, z1]
        congr 2
        rcases y3 with ⟨p1, p2⟩ | ⟨p1, p2⟩ <;> rcases z3 with ⟨q1, q2⟩ | ⟨q1, q2⟩
        · have hl := (chL_ok hG (fun w h1 h2 => ⟨(md_dt hw.1 w h1 h2).1, (md_dt hw.1 w h1 h2).2.2⟩) hj p1).1
          exact lsA_eq (by omega) p2 q2
        · exact absurd p1 q1
        · exact absurd q1 p1
        · rw [p2, q2]
