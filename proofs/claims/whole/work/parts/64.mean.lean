/-! bitsOf, meanOf, mean: class and reference side by side -/
theorem dec64 {a : Int} {x : Int64} (h : x = Int64.ofInt a) : x - 1 = Int64.ofInt (a - 1) := by
  rw [h, Int64.ofInt_sub]
  rfl
theorem inc64 {a : Int} {x : Int64} (h : x = Int64.ofInt a) : x + 1 = Int64.ofInt (a + 1) := by
  rw [h, Int64.ofInt_add]
  rfl
theorem l_b3 (h : ia_H) {v z : UInt64} {s : Bool} {c : Nat} {q0 : Int} (hv : nrm v s c q0) (hz : nrm z false c 0) {E : Int64} (hE : E = Int64.ofInt (1075 + q0 - 0)) (a6 a7 : Option Value) : R_ ia_k_X7_bitsOf (Zl_ v.toInt64 h) (100, [some (.double v), none, some (.double z), none, some (.long E), none, a6, a7], [], h) := by
  have hE2 : E = Int64.ofNat (q0 + 1075).toNat := by
    have := hv.2.2.2.1
    rw [hE, show (1075 + q0 - 0 : Int) = (((q0 + 1075).toNat : Nat) : Int) by omega]
    rfl
  have hd := nrm_d2l hz
  have hf := nrm_fin1 hv (b := E <<< (Int32.toInt64 52 &&& 63) ||| (FP.d2l z &&& 4503599627370495)) (by rw [hE2, hd])
  refine ia_walk (fun _ => false) 80 (fun X hX => ?_)
  conv => whnf
  refine And.intro (fun c1 => ?_) (fun c1 => ?_)
  · have hs : s = true := (fp_sg hv .g).1.mp c1
    rw [if_pos hs] at hf
    conv => whnf
    exact ⟨congrArg (fun v => some (Value.long v)) hf, rfl⟩
  · have hs : ¬ s = true := fun q => c1 ((fp_sg hv .g).1.mpr q)
    rw [if_neg hs] at hf
    conv => whnf
    exact ⟨congrArg (fun v => some (Value.long v)) hf, rfl⟩
theorem l_b2 (h : ia_H) {v : UInt64} {s : Bool} {c : Nat} {q0 : Int} (hv : nrm v s c q0) : ∀ (k i : Nat) (z : UInt64) (E : Int64), nrm z false c k → E = Int64.ofInt (1075 + q0 - k) → i + k ≤ 1000 → R_ ia_k_X7_bitsOf (Zl_ v.toInt64 h) (66, [some (.double v), none, some (.double z), none, some (.long E), none, some (.int (nI i)), none], [], h) := by
  intro k
  induction k with
  | zero =>
    intro i z E hz hE hi
    refine ia_walk (fun pc => Nat.beq pc 66 || Nat.beq pc 100) 60 (fun X hX => ?_)
    conv => whnf
    refine And.intro (fun c1 => ?_) (fun c1 => ?_)
    · conv => whnf
      refine And.intro (fun c2 => ?_) (fun c2 => ?_)
      · conv => whnf
        exact hX _ (l_b3 h hv hz hE _ _)
      · exact absurd ((fp_lt hz fp_c53 .l).mpr (by decide)) c2
    · exact absurd (show nI i < 1100 from nI_lt (b := 1100) (by omega) (by omega)) c1
  | succ k ih =>
    intro i z E hz hE hi
    have hz2 := nrm_half hz (show (0 : Int) < ((k + 1 : Nat) : Int) by omega)
    rw [show ((k + 1 : Nat) : Int) - 1 = (k : Int) by omega] at hz2
    have hE2 := inc64 hE
    rw [show 1075 + q0 - ((k + 1 : Nat) : Int) + 1 = 1075 + q0 - (k : Int) by omega] at hE2
    refine ia_walk (fun pc => Nat.beq pc 66 || Nat.beq pc 100) 60 (fun X hX => ?_)
    conv => whnf
    refine And.intro (fun c1 => ?_) (fun c1 => ?_)
    · conv => whnf
      refine And.intro (fun c2 => ?_) (fun c2 => ?_)
      · exact absurd ((fp_lt hz fp_c53 .l).mp c2) (by omega)
      · conv => whnf
        refine Exists.intro (fp_n (nrm_fin hz2)) ?_
        conv => whnf
        rw [nI_1]
        exact hX _ (ih (i + 1) _ _ hz2 hE2 (by omega))
    · exact absurd (show nI i < 1100 from nI_lt (b := 1100) (by omega) (by omega)) c1
theorem l_b1 (h : ia_H) {v : UInt64} {s : Bool} {c : Nat} {q0 : Int} (hv : nrm v s c q0) : ∀ (k i : Nat) (z : UInt64) (E : Int64) (q : Int), nrm z false c q → E = Int64.ofInt (1075 + q0 - q) → k = (-q).toNat → i + k ≤ 1000 → R_ ia_k_X7_bitsOf (Zl_ v.toInt64 h) (29, [some (.double v), none, some (.double z), none, some (.long E), none, some (.int (nI i)), none], [], h) := by
  intro k
  induction k with
  | zero =>
    intro i z E q hz hE hk hi
    have hq : 0 ≤ q := by omega
    have hq2 := hz.2.2.2.2
    have hz2 := hz
    rw [show q = ((q.toNat : Nat) : Int) by omega] at hz2 hE
    refine ia_walk (fun pc => Nat.beq pc 29 || Nat.beq pc 66) 60 (fun X hX => ?_)
    conv => whnf
    refine And.intro (fun c1 => ?_) (fun c1 => ?_)
    · conv => whnf
      refine And.intro (fun c2 => ?_) (fun c2 => ?_)
      · exact absurd ((fp_lt hz fp_c52 .g).mp c2) (by omega)
      · conv => whnf
        exact hX _ (l_b2 h hv q.toNat 0 z E hz2 hE (by omega))
    · exact absurd (show nI i < 1100 from nI_lt (b := 1100) (by omega) (by omega)) c1
  | succ k ih =>
    intro i z E q hz hE hk hi
    have hq : q < 0 := by omega
    have hz2 := nrm_dbl hz hq
    have hE2 := dec64 hE
    rw [show 1075 + q0 - q - 1 = 1075 + q0 - (q + 1) by omega] at hE2
    refine ia_walk (fun pc => Nat.beq pc 29 || Nat.beq pc 66) 60 (fun X hX => ?_)
    conv => whnf
    refine And.intro (fun c1 => ?_) (fun c1 => ?_)
    · conv => whnf
      refine And.intro (fun c2 => ?_) (fun c2 => ?_)
      · conv => whnf
        refine Exists.intro (fp_n (nrm_fin hz2)) ?_
        conv => whnf
        rw [nI_1]
        exact hX _ (ih (i + 1) _ _ _ hz2 hE2 (by omega) (by omega))
      · exact absurd ((fp_lt hz fp_c52 .g).mpr hq) c2
    · exact absurd (show nI i < 1100 from nI_lt (b := 1100) (by omega) (by omega)) c1
theorem v_bitsOf (h : ia_H) {v : UInt64} (hv : v = 0 ∨ ∃ s c q, nrm v s c q) : V_ 96 [.double v] h (Zl_ v.toInt64 h) := by
  rcases hv with rfl | ⟨s, c, q, hv⟩
  · refine ia_V_in ia_k_X7_bitsOf [some (.double 0), none, none, none, none, none, none, none] rfl rfl (Nat.le_of_ble_eq_true rfl) rfl ?_
    refine ia_walk (fun pc => Nat.beq pc 29) 60 (fun X hX => ?_)
    conv => whnf
    refine And.intro (fun c1 => ?_) (fun c1 => ?_)
    · conv => whnf
      exact ⟨rfl, rfl⟩
    · exact absurd (show Op.cmpValue (FP.dcmp 0 FP.dconst0) .l = 0 by decide +kernel) c1
  · have hq1 := hv.2.2.2.1
    have hq2 := hv.2.2.2.2
    refine ia_V_in ia_k_X7_bitsOf [some (.double v), none, none, none, none, none, none, none] rfl rfl (Nat.le_of_ble_eq_true rfl) rfl ?_
    refine ia_walk (fun pc => Nat.beq pc 29) 60 (fun X hX => ?_)
    conv => whnf
    refine And.intro (fun c1 => ?_) (fun c1 => ?_)
    · exact absurd c1 (fp_sg hv .l).2
    · conv => whnf
      refine And.intro (fun c2 => ?_) (fun c2 => ?_)
      · have hs : s = true := (fp_sg hv .g).1.mp c2
        subst hs
        conv => whnf
        exact hX _ (l_b1 h hv (-q).toNat 0 (FP.dneg v) 1075 q (nrm_neg hv) (by rw [show 1075 + q - q = 1075 by omega]; rfl) rfl (by omega))
      · have hs : s = false := by
          cases hq : s
          · rfl
          · exact absurd ((fp_sg hv .g).1.mpr hq) c2
        subst hs
        conv => whnf
        exact hX _ (l_b1 h hv (-q).toNat 0 v 1075 q hv (by rw [show 1075 + q - q = 1075 by omega]; rfl) rfl (by omega))
/-- the sum of those of a group among the first g -/
def smD (L : Nat → Int32) (O : Nat → Int64) (x : Int32) : Nat → UInt64
  | 0 => FP.dconst0
  | g + 1 => if L g = x then FP.dadd (smD L O x g) (FP.l2d (O g)) else smD L O x g
theorem smD_iv (L : Nat → Int32) (O : Nat → Int64) (x : Int32) : ∀ g : Nat, g ≤ 41 → iv (smD L O x g) (12 + 2 * (g : Int))
  | 0, _ => ⟨false, 0, Jvm.FP.Core.b64.qmin, Jvm.FP.Core.val64_dconst0, fun _ => rfl, fun _ => Nat.dvd_zero _, by decide, by decide, Or.inl fp_qmin⟩
  | g + 1, hg => by
    have ih := smD_iv L O x g (by omega)
    rw [smD]
    by_cases hc : L g = x
    · rw [if_pos hc, show 12 + 2 * ((g + 1 : Nat) : Int) = (12 + 2 * (g : Int)) + 2 by omega]
      exact iv_dadd (by omega) (by omega) ih (iv_mono (iv_l2d _) (by omega))
    · rw [if_neg hc]
      exact iv_mono ih (by omega)
theorem smD_congr {L L2 : Nat → Int32} {O O2 : Nat → Int64} {x x2 : Int32} : ∀ {n : Nat}, (∀ g, g < n → (L g = x ↔ L2 g = x2) ∧ O g = O2 g) → smD L O x n = smD L2 O2 x2 n
  | 0, _ => rfl
  | n + 1, h => by
    have ih := smD_congr (L := L) (L2 := L2) (O := O) (O2 := O2) (x := x) (x2 := x2) (n := n) (fun g hg => h g (by omega))
    obtain ⟨h1, h2⟩ := h n (by omega)
    rw [smD, smD, ih, h2]
    by_cases hc : L n = x
    · rw [if_pos hc, if_pos (h1.mp hc)]
    · rw [if_neg hc, if_neg (fun q => hc (h1.mpr q))]
theorem smD_stop {L : Nat → Int32} {O : Nat → Int64} {x : Int32} {m : Nat} : ∀ {n : Nat}, m ≤ n → (∀ g, m ≤ g → g < n → ¬ L g = x) → smD L O x n = smD L O x m
  | 0, h, _ => by rw [show m = 0 by omega]
  | n + 1, h, hn => by
    by_cases he : m = n + 1
    · rw [he]
    · rw [smD, if_neg (hn n (by omega) (by omega))]
      exact smD_stop (by omega) (fun g h1 h2 => hn g h1 (by omega))
theorem l_meanOf (h : ia_H) (x : Int32) {Z : Option Value → ia_H → Prop} (h0 : 0 < ct (fun j => decide (h.1 27 j = x)) 41) (hn : vf_n64 (FP.ddiv (smD (h.1 27) (h.2 28) x 41) (FP.i2d (nI (ct (fun j => decide (h.1 27 j = x)) 41))))) (hZ : Z (some (.double (FP.ddiv (smD (h.1 27) (h.2 28) x 41) (FP.i2d (nI (ct (fun j => decide (h.1 27 j = x)) 41)))))) h) : ∀ k g : Nat, g + k = 41 → R_ ia_k_X1_meanOf Z (8, [some (.ref 25), some (.int x), some (.double (smD (h.1 27) (h.2 28) x g)), none, some (.int (nI (ct (fun j => decide (h.1 27 j = x)) g))), some (.int (nI g))], [], h) := by
  intro k
  induction k with
  | zero =>
    intro g hg
    rw [show g = 41 by omega]
    have hle := ct_le (fun j => decide (h.1 27 j = x)) 41
    refine ia_walk (fun pc => Nat.beq pc 8) 60 (fun X hX => ?_)
    conv => whnf
    refine And.intro (fun c => ?_) (fun c => ?_)
    · exact absurd (show nI 41 < 41 from c) (by decide)
    · conv => whnf
      refine And.intro (fun c1 => ?_) (fun c1 => ?_)
      · exact absurd (show nI (ct (fun j => decide (h.1 27 j = x)) 41) = 0 from c1) (nI_ne0 (by omega) (by omega))
      · conv => whnf
        refine Exists.intro hn ?_
        conv => whnf
        exact hZ
  | succ k ih =>
    intro g hg
    have ih := ih (g + 1) (by omega)
    refine ia_walk (fun pc => Nat.beq pc 8) 60 (fun X hX => ?_)
    conv => whnf
    refine And.intro (fun c => ?_) (fun c => ?_)
    · conv => whnf
      refine Exists.intro _ (And.intro (And.intro rfl (by omega)) ?_)
      conv => whnf
      refine And.intro (fun c1 => ?_) (fun c1 => ?_)
      · have c1 : h.1 27 g = x := c1
        have hiv := smD_iv (h.1 27) (h.2 28) x (g + 1) (by omega)
        rw [smD, if_pos c1] at ih hiv
        rw [ct_t (decide_eq_true c1)] at ih
        conv => whnf
        refine Exists.intro _ (And.intro (And.intro rfl (by omega)) ?_)
        conv => whnf
        refine Exists.intro (iv_n hiv) ?_
        conv => whnf
        rw [nI_1, nI_1]
        exact hX _ ih
      · have c1 : ¬ h.1 27 g = x := c1
        rw [smD, if_neg c1, ct_f (decide_eq_false c1)] at ih
        conv => whnf
        rw [nI_1]
        exact hX _ ih
    · exact absurd ((nI_lt41 (by omega)).mpr (by omega)) c
theorem v_meanOf (h : ia_H) (x : Int32) (h0 : 0 < ct (fun j => decide (h.1 27 j = x)) 41) (hn : vf_n64 (FP.ddiv (smD (h.1 27) (h.2 28) x 41) (FP.i2d (nI (ct (fun j => decide (h.1 27 j = x)) 41))))) : V_ 10 [.ref 25, .int x] h (fun r h' => r = some (.double (FP.ddiv (smD (h.1 27) (h.2 28) x 41) (FP.i2d (nI (ct (fun j => decide (h.1 27 j = x)) 41))))) ∧ h' = h) := by
  refine ia_V_in ia_k_X1_meanOf [some (.ref 25), some (.int x), none, none, none, none] rfl rfl (Nat.le_of_ble_eq_true rfl) rfl ?_
  refine ia_walk (fun pc => Nat.beq pc 8) 60 (fun X hX => ?_)
  conv => whnf
  exact hX _ (l_meanOf h x h0 hn ⟨rfl, rfl⟩ 41 0 (by omega))
theorem l_mmean (h : ia_H) (a G : Nat) (ha : a < G) (hG : G ≤ 41) (eG : h.1 52 4 = nI G) {Z : Option Value → ia_H → Prop} (hN : R_ ia_k_X8_mean Z (59, [some (.ref 52), some (.int (nI a)), some (.double (smD (h.1 60) (h.2 61) (h.1 60 a) G)), none, some (.int (nI G))], [], h)) : ∀ k g : Nat, g + k = G → R_ ia_k_X8_mean Z (17, [some (.ref 52), some (.int (nI a)), some (.double (smD (h.1 60) (h.2 61) (h.1 60 a) g)), none, some (.int (nI g))], [], h) := by
  intro k
  induction k with
  | zero =>
    intro g hg
    have eg : g = G := by omega
    subst eg
    refine ia_walk (fun pc => Nat.beq pc 17 || Nat.beq pc 59) 60 (fun X hX => ?_)
    conv => whnf
    refine And.intro (fun c => ?_) (fun c => ?_)
    · exact absurd (show nI g < h.1 52 4 from c) (by rw [eG]; exact nI_nlt (Nat.le_refl g) (by omega))
    · conv => whnf
      exact hX _ hN
  | succ k ih =>
    intro g hg
    have ih := ih (g + 1) (by omega)
    refine ia_walk (fun pc => Nat.beq pc 17 || Nat.beq pc 59) 60 (fun X hX => ?_)
    conv => whnf
    refine And.intro (fun c => ?_) (fun c => ?_)
    · conv => whnf
      refine Exists.intro _ (And.intro (And.intro rfl (by omega)) ?_)
      conv => whnf
      refine Exists.intro _ (And.intro (And.intro rfl (by omega)) ?_)
      conv => whnf
      refine And.intro (fun c1 => ?_) (fun c1 => ?_)
      · have c1 : h.1 60 g = h.1 60 a := c1
        have hiv := smD_iv (h.1 60) (h.2 61) (h.1 60 a) (g + 1) (by omega)
        rw [smD, if_pos c1] at ih hiv
        conv => whnf
        refine Exists.intro _ (And.intro (And.intro rfl (by omega)) ?_)
        conv => whnf
        refine Exists.intro (iv_n hiv) ?_
        conv => whnf
        rw [nI_1]
        exact hX _ ih
      · have c1 : ¬ h.1 60 g = h.1 60 a := c1
        rw [smD, if_neg c1] at ih
        conv => whnf
        rw [nI_1]
        exact hX _ ih
    · exact absurd (show nI g < h.1 52 4 by rw [eG]; exact nI_lt (by omega) (by omega)) c
theorem v_isNaN (h : ia_H) {v : UInt64} (hv : Jvm.FP.Core.DFin v) : V_ 165 [.double v] h (Z_ (.int 0) h) := by
  obtain ⟨s, c, q, e⟩ := hv
  refine ia_V_in ia_k_Jxe99ae_isNaN_b9ae7 [some (.double v), none] rfl rfl (Nat.le_of_ble_eq_true rfl) rfl ?_
  refine ia_walk (fun _ => false) 60 (fun X hX => ?_)
  conv => whnf
  refine And.intro (fun c1 => ?_) (fun c1 => ?_)
  · conv => whnf
    exact ⟨Or.inl rfl, rfl, rfl⟩
  · exact absurd (show Op.cmpValue (FP.dcmp v v) .l = 0 by rw [fp_cmp e e]; exact (fp_ord .l).2.mpr rfl) c1
theorem v_dtlb (h : ia_H) {v : UInt64} (hv : Jvm.FP.Core.DFin v) : V_ 166 [.double v] h (Zl_ v.toInt64 h) := by
  refine ia_V_in ia_k_Jxe99ae_doubleToLongBits_ccdee [some (.double v), none] rfl rfl (Nat.le_of_ble_eq_true rfl) rfl ?_
  refine ia_walk (fun _ => false) 60 (fun X hX => ?_)
  conv => whnf
  refine Exists.intro (_, _) (And.intro (ia_callE (v_isNaN h hv)) ?_)
  conv => whnf
  refine And.intro (fun c1 => ?_) (fun c1 => ?_)
  · conv => whnf
    exact ⟨rfl, rfl⟩
  · exact absurd rfl c1
theorem ct_pos {p : Nat → Bool} {i : Nat} (hp : p i = true) : ∀ {n : Nat}, i < n → 0 < ct p n
  | 0, h => absurd h (Nat.not_lt_zero i)
  | n + 1, h => by
    by_cases he : i = n
    · subst he
      rw [ct_t hp]
      omega
    · have := ct_pos hp (n := n) (by omega)
      simp only [ct]
      omega
theorem q_mean {h : ia_H} {G n : Nat} (hG : G ≤ 41) (e1 : h.1 4 6 = nI G) (e2 : h.1 52 4 = nI G) (hp : gpOk h G n) (x : Int32) : Q_ 79 [.ref 0, .int x] 147 [.ref 52, .int x] h := by
  rcases bad_or x (show G < 2 ^ 31 by omega) with hb | ⟨j, hj, rfl⟩
  · refine ⟨.long (-9223372036854775808), ?_, ?_⟩
    · refine ia_V_in ia_k_X7_mean [some (.ref 0), some (.int x)] rfl rfl (Nat.le_of_ble_eq_true rfl) rfl ?_
      refine ia_walk (fun _ => false) 50 (fun X hX => ?_)
      conv => whnf
      refine Exists.intro (_, _) (And.intro (ia_callE (v_isGa0 e1 hb)) ?_)
      conv => whnf
      refine And.intro (fun c => ?_) (fun c => ?_)
      · conv => whnf
        exact ⟨rfl, rfl⟩
      · exact absurd rfl c
    · refine ia_V_in ia_k_X8_mean [some (.ref 52), some (.int x), none, none, none] rfl rfl (Nat.le_of_ble_eq_true rfl) rfl ?_
      refine ia_walk (fun _ => false) 50 (fun X hX => ?_)
      conv => whnf
      refine Exists.intro (_, _) (And.intro (ia_callE (m_isGa0 e2 hb)) ?_)
      conv => whnf
      refine And.intro (fun c => ?_) (fun c => ?_)
      · conv => whnf
        exact ⟨rfl, rfl⟩
      · exact absurd rfl c
  · have hsz := gp_size hG hp hj
    have hle := ct_le (fun i => decide (h.1 60 i = h.1 60 j)) G
    have hpos : 0 < ct (fun i => decide (h.1 60 i = h.1 60 j)) G := ct_pos (decide_eq_true rfl) hj
    have hsm : smD (h.1 27) (h.2 28) (h.1 27 j) 41 = smD (h.1 60) (h.2 61) (h.1 60 j) G := by
      rw [smD_stop hG (fun g h1 h2 => gp_ne hG hp (by omega) h1 h2)]
      exact smD_congr (fun g hg => ⟨by rw [(gp_eq hp hg).1, (gp_eq hp hj).1], (gp_eq hp hg).2.symm⟩)
    have hiv := smD_iv (h.1 60) (h.2 61) (h.1 60 j) G hG
    have hdv := iv_ddiv (by omega) (by omega) hiv hpos (show _ < 42 by omega)
    have hfin : Jvm.FP.Core.DFin (FP.ddiv (smD (h.1 60) (h.2 61) (h.1 60 j) G) (FP.i2d (nI (ct (fun i => decide (h.1 60 i = h.1 60 j)) G)))) := by
      rcases hdv with q | ⟨s, c, q, hq⟩
      · rw [q]
        exact ⟨_, _, _, Jvm.FP.Core.val64_dconst0⟩
      · exact nrm_fin hq
    have hn := fp_n hfin
    refine ⟨.long (FP.ddiv (smD (h.1 60) (h.2 61) (h.1 60 j) G) (FP.i2d (nI (ct (fun i => decide (h.1 60 i = h.1 60 j)) G)))).toInt64, ?_, ?_⟩
    · have hmo := v_meanOf h (h.1 27 j) (by rw [hsz]; exact hpos) (by rw [hsz, hsm]; exact hn)
      rw [hsz, hsm] at hmo
      refine ia_V_in ia_k_X7_mean [some (.ref 0), some (.int (nI j))] rfl rfl (Nat.le_of_ble_eq_true rfl) rfl ?_
      refine ia_walk (fun _ => false) 50 (fun X hX => ?_)
      conv => whnf
      refine Exists.intro (_, _) (And.intro (ia_callE (v_isGa1 e1 (by omega) hj)) ?_)
      conv => whnf
      refine And.intro (fun c => ?_) (fun c => ?_)
      · exact absurd (show (1 : Int32) = 0 from c) (by decide)
      · conv => whnf
        refine Exists.intro _ (And.intro (And.intro rfl (by omega)) ?_)
        conv => whnf
        refine Exists.intro (_, _) (And.intro (ia_callE (hmo)) ?_)
        conv => whnf
        refine Exists.intro (_, _) (And.intro (ia_callE (v_bitsOf h hdv)) ?_)
        conv => whnf
        exact ⟨rfl, rfl⟩
    · refine ia_V_in ia_k_X8_mean [some (.ref 52), some (.int (nI j)), none, none, none] rfl rfl (Nat.le_of_ble_eq_true rfl) rfl ?_
      refine ia_walk (fun pc => Nat.beq pc 17) 50 (fun X hX => ?_)
      conv => whnf
      refine Exists.intro (_, _) (And.intro (ia_callE (m_isGa1 e2 (by omega) hj)) ?_)
      conv => whnf
      refine And.intro (fun c => ?_) (fun c => ?_)
      · exact absurd (show (1 : Int32) = 0 from c) (by decide)
      · have lp := l_mmean h j G hj hG e2 (Z := fun r h' => r = some (.long (FP.ddiv (smD (h.1 60) (h.2 61) (h.1 60 j) G) (FP.i2d (nI (ct (fun i => decide (h.1 60 i = h.1 60 j)) G)))).toInt64) ∧ h' = h) (by
          refine ia_walk (fun _ => false) 50 (fun X hX => ?_)
          conv => whnf
          refine Exists.intro (_, _) (And.intro (ia_callE (m_sizeOf h j G (by omega) hG e2)) ?_)
          conv => whnf
          refine Exists.intro hn ?_
          conv => whnf
          refine Exists.intro (_, _) (And.intro (ia_callE (v_dtlb h hfin)) ?_)
          conv => whnf
          exact ⟨rfl, rfl⟩) G 0 (by omega)
        conv => whnf
        exact hX _ (lp)
