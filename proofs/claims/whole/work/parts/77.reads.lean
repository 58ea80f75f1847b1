/-! Reader of the class: numbers, statements, texts -/
def bys (i : Nat) : Int32 := Int32.ofInt ((i : Int) - 128)
theorem bys_ok {x : Int32} (hx : byR x) : ∃ i, i < 256 ∧ x = bys i := by
  unfold byR at hx
  refine ⟨(x.toInt + 128).toNat, by omega, ?_⟩
  unfold bys
  rw [show (((x.toInt + 128).toNat : Nat) : Int) - 128 = x.toInt by omega]
  exact (Int32.ofInt_toInt x).symm
theorem and255d : ∀ i, i < 256 → ((bys i &&& 255 = bys i ∧ 128 ≤ i) ∨ ((128 : Int32) ≤ bys i &&& 255 ∧ i < 128)) ∧ ¬ bys i &&& 255 = -1 := by decide +kernel
theorem bys_neg : ∀ i, i < 128 → bys i < 0 := by decide +kernel
theorem and255 {x : Int32} (hx : byR x) {c : Nat} (hc : c < 128) : x &&& 255 = nI c ↔ x = nI c := by
  obtain ⟨i, hi, e⟩ := bys_ok hx
  subst e
  rcases (and255d i hi).1 with ⟨h1, h2⟩ | ⟨h1, h2⟩
  · rw [h1]
  · constructor
    · intro q
      rw [q] at h1
      exact absurd h1 (Int32.not_le.mpr (nI_lt (b := 128) hc (by omega)))
    · intro q
      have := bys_neg i h2
      rw [q] at this
      exact absurd this (nI_pos (by omega))
theorem and255n {x : Int32} (hx : byR x) : ¬ x &&& 255 = -1 := by
  obtain ⟨i, hi, e⟩ := bys_ok hx
  subst e
  exact (and255d i hi).2
theorem hr_s {f : Nat → Int32} {L j : Nat} (hb : ∀ i, i < L → byR (f i)) {c : Nat} (hc : c < 128) : hrV f L j = nI c ↔ isS f L (nI c) j = true := by
  unfold hrV isS
  by_cases q : j < L
  · rw [if_pos q, decide_eq_true q, Bool.true_and, decide_eq_true_eq]
    exact and255 (hb j q) hc
  · rw [if_neg q, decide_eq_false q, Bool.false_and]
    exact ⟨fun z => absurd z.symm (nI_nm1 (by omega)), fun z => by cases z⟩
theorem hr_o {f : Nat → Int32} {L j : Nat} (hb : ∀ i, i < L → byR (f i)) : hrV f L j = -1 ↔ ¬ j < L := by
  unfold hrV
  by_cases q : j < L
  · rw [if_pos q]
    exact ⟨fun z => absurd z (and255n (hb j q)), fun z => absurd q z⟩
  · rw [if_neg q]
    exact ⟨fun _ => q, fun _ => rfl⟩
theorem v_readNumber {h H : ia_H} {L pl : Nat} {d : tdT} {ft : Int32} (hc : CR h H L d pl ft) : V_ 27 [.ref 1] H (fun r H' => r = some (.long (nbT (h.1 3) L pl).2.1) ∧ CR h H' L d (nbT (h.1 3) L pl).2.2 (if (nbT (h.1 3) L pl).1 = 0 then ft else ftF ft (nbT (h.1 3) L pl).1)) := by
  have ef := CR_f hc
  have hL := hc.2.1.1
  obtain ⟨b1, b2⟩ : pl ≤ bl (h.1 3) L pl ∧ bl (h.1 3) L pl ≤ L := rn_le (isS (h.1 3) L 32) hc.2.1.2.1
  have vb := v_pB hc.2.1
  rw [ef] at vb
  have hc1 := CR_pl hc b2
  have vd := v_pD hc1.2.1
  rw [CR_f hc1, hPl_2] at vd
  obtain ⟨e1, e2⟩ := rn_le (isDg (h.1 3) L) b2
  have hc2 : CR h (hPl H (rn (isDg (h.1 3) L) L (bl (h.1 3) L pl))) L d (rn (isDg (h.1 3) L) L (bl (h.1 3) L pl)) ft := CR_pl hc e2
  unfold nbT
  generalize hB : bl (h.1 3) L pl = b at *
  generalize hE : rn (isDg (h.1 3) L) L b = e at *
  have eft : (hPl H e).1 1 3 = ft := hc2.2.2.2.2.1
  refine ia_V_in ia_k_X3_readNumber [some (.ref 1), none, none] rfl rfl (Nat.le_of_ble_eq_true rfl) rfl ?_
  refine ia_walk (fun _ => false) 90 (fun X hX => ?_)
  conv => whnf
  refine Exists.intro (_, _) (And.intro (ia_callE (vb)) ?_)
  conv => whnf
  refine Exists.intro (_, _) (And.intro (ia_callE (vd)) ?_)
  conv => whnf
  refine And.intro (fun q1 => ?_) (fun q1 => ?_)
  · have q1 : nI (e - b) = 0 := q1
    have hz : e = b := by
      have := nI_inj (b := 0) (by omega) (by omega) q1
      omega
    conv => whnf
    have ev := ia_callE (v_fail (hPl H e) (pl := b) (w := 1))
    rw [eft] at ev
    refine Exists.intro (_, _) (And.intro ev ?_)
    conv => whnf
    rw [if_pos hz]
    refine ⟨rfl, ?_⟩
    show CR h _ L d e (if 8 * b + 1 = 0 then ft else ftF ft (8 * b + 1))
    rw [if_neg (by omega)]
    exact CR_ft hc2 _
  · have q1 : ¬ nI (e - b) = 0 := q1
    have hz : ¬ e = b := fun q => q1 (by rw [q, Nat.sub_self]; rfl)
    conv => whnf
    refine And.intro (fun q2 => ?_) (fun q2 => ?_)
    · have q2 : (18 : Int32) < nI (e - b) := q2
      have h6 : 18 < e - b := (nI_lt_iff (a := 18) (by omega) (by omega)).mp q2
      conv => whnf
      have ev := ia_callE (v_fail (hPl H e) (pl := b) (w := 2))
      rw [eft] at ev
      refine Exists.intro (_, _) (And.intro ev ?_)
      conv => whnf
      rw [if_neg hz, if_pos h6]
      refine ⟨rfl, ?_⟩
      show CR h _ L d e (if 8 * b + 2 = 0 then ft else ftF ft (8 * b + 2))
      rw [if_neg (by omega)]
      exact CR_ft hc2 _
    · have q2 : ¬ (18 : Int32) < nI (e - b) := q2
      have h6 : ¬ 18 < e - b := fun q => q2 (nI_lt (a := 18) q (by omega))
      have vn := v_num (h := hPl H e) (L := L) (b := b) (len := e - b) hL hc2.2.1.2.2.1 (by omega)
      rw [CR_f hc2] at vn
      conv => whnf
      refine Exists.intro (_, _) (And.intro (ia_callE (vn)) ?_)
      conv => whnf
      rw [if_neg hz, if_neg h6]
      exact ⟨rfl, hc2⟩
theorem ftF_0 {ft : Int32} {n : Nat} : (if n = 0 then ft else ftF ft n) = ftF ft n ∨ n = 0 := by
  by_cases q : n = 0
  · exact Or.inr q
  · exact Or.inl (if_neg q)
theorem v_readAmount {h H : ia_H} {L pl : Nat} {d : tdT} {ft : Int32} (hb : ∀ i, i < L → byR (h.1 3 i)) (hc : CR h H L d pl ft) (b : Bool) : V_ 26 [.ref 1, .int (oI b)] H (fun r H' => r = some (.long (amT (h.1 3) L b pl).2.1) ∧ CR h H' L d (amT (h.1 3) L b pl).2.2 (if (amT (h.1 3) L b pl).1 = 0 then ft else ftF ft (amT (h.1 3) L b pl).1)) := by
  have ef := CR_f hc
  have vh := v_here hc.2.1
  rw [ef] at vh
  have e22 := hc.2.1.2.2.2
  have hple := hc.2.1.2.1
  have s45 : hrV (h.1 3) L pl = 45 ↔ isS (h.1 3) L 45 pl = true := hr_s hb (c := 45) (by decide)
  have s43 : hrV (h.1 3) L pl = 43 ↔ isS (h.1 3) L 43 pl = true := hr_s hb (c := 43) (by decide)
  have lt_of : ∀ c, isS (h.1 3) L c pl = true → pl < L := fun c q => by
    unfold isS at q
    rw [Bool.and_eq_true, decide_eq_true_eq] at q
    exact q.1
  generalize hs : hrV (h.1 3) L pl = sg at *
  -- behind the sign: a number
  have tail : ∀ (p2 : Nat) (K : ia_H), CR h K L d p2 ft → (sg = 45 → ((nbT (h.1 3) L p2).1, -(nbT (h.1 3) L p2).2.1, (nbT (h.1 3) L p2).2.2) = amT (h.1 3) L b pl) → (¬ sg = 45 → nbT (h.1 3) L p2 = amT (h.1 3) L b pl) → ∀ a3 a4 a5 : Option Value, R_ ia_k_X3_readAmount (fun r H' => r = some (.long (amT (h.1 3) L b pl).2.1) ∧ CR h H' L d (amT (h.1 3) L b pl).2.2 (if (amT (h.1 3) L b pl).1 = 0 then ft else ftF ft (amT (h.1 3) L b pl).1)) (57, [some (.ref 1), some (.int (oI b)), some (.int sg), some (.int 1), none, none], [], K) ∧ R_ ia_k_X3_readAmount (fun r H' => r = some (.long (amT (h.1 3) L b pl).2.1) ∧ CR h H' L d (amT (h.1 3) L b pl).2.2 (if (amT (h.1 3) L b pl).1 = 0 then ft else ftF ft (amT (h.1 3) L b pl).1)) (57, [some (.ref 1), some (.int (oI b)), some (.int sg), some (.int 0), none, none], [], K) := by
    intro p2 K hK e1 e2 _ _ _
    obtain ⟨r1, K1, ev1, z1, z2⟩ := v_readNumber hK
    subst z1
    constructor
    · refine ia_walk (fun _ => false) 60 (fun X hX => ?_)
      conv => whnf
      refine Exists.intro (_, _) (And.intro ev1 ?_)
      conv => whnf
      refine And.intro (fun q => ?_) (fun q => ?_)
      · have q : sg = 45 := q
        conv => whnf
        exact ⟨by rw [← e1 q], by rw [← e1 q]; exact z2⟩
      · have q : ¬ sg = 45 := q
        conv => whnf
        exact ⟨by rw [← e2 q], by rw [← e2 q]; exact z2⟩
    · refine ia_walk (fun _ => false) 60 (fun X hX => ?_)
      conv => whnf
      refine Exists.intro (_, _) (And.intro ev1 ?_)
      conv => whnf
      refine And.intro (fun q => ?_) (fun q => ?_)
      · have q : sg = 45 := q
        conv => whnf
        exact ⟨by rw [← e1 q], by rw [← e1 q]; exact z2⟩
      · have q : ¬ sg = 45 := q
        conv => whnf
        exact ⟨by rw [← e2 q], by rw [← e2 q]; exact z2⟩
  have mid1 : (isS (h.1 3) L 45 pl = true ∨ (isS (h.1 3) L 43 pl = true ∧ b = false)) → R_ ia_k_X3_readAmount (fun r H' => r = some (.long (amT (h.1 3) L b pl).2.1) ∧ CR h H' L d (amT (h.1 3) L b pl).2.2 (if (amT (h.1 3) L b pl).1 = 0 then ft else ftF ft (amT (h.1 3) L b pl).1)) (29, [some (.ref 1), some (.int (oI b)), some (.int sg), none, none, none], [.int 1], H) := by
    intro q
    have hlt : pl < L := q.elim (lt_of 45) (fun z => lt_of 43 z.1)
    have tl := (tail (pl + 1) (hPl H (pl + 1)) (CR_pl hc (by omega)) (fun z => by
      unfold amT
      rw [if_pos (s45.mp z)]) (fun z => by
      unfold amT
      rcases q with q | ⟨q, qb⟩
      · exact absurd (s45.mpr q) z
      · rw [if_neg (fun w => z (s45.mpr w)), if_neg (by rw [qb]; decide), if_pos q]) none none none).1
    rw [← pl_u e22] at tl
    refine ia_walk (fun pc => Nat.beq pc 57) 60 (fun X hX => ?_)
    conv => whnf
    refine And.intro (fun w1 => ?_) (fun w1 => ?_)
    · exact absurd (show (1 : Int32) = 0 from w1) (by decide)
    · conv => whnf
      refine And.intro (fun w2 => ?_) (fun w2 => ?_)
      · exact absurd (show (1 : Int32) = 0 from w2) (by decide)
      · conv => whnf
        exact hX _ (tl)
  have mid0 : ¬ isS (h.1 3) L 45 pl = true → ¬ (isS (h.1 3) L 43 pl = true ∧ b = false) → R_ ia_k_X3_readAmount (fun r H' => r = some (.long (amT (h.1 3) L b pl).2.1) ∧ CR h H' L d (amT (h.1 3) L b pl).2.2 (if (amT (h.1 3) L b pl).1 = 0 then ft else ftF ft (amT (h.1 3) L b pl).1)) (29, [some (.ref 1), some (.int (oI b)), some (.int sg), none, none, none], [.int 0], H) := by
    intro q1 q2
    refine ia_walk (fun pc => Nat.beq pc 57) 60 (fun X hX => ?_)
    conv => whnf
    refine And.intro (fun w1 => ?_) (fun w1 => ?_)
    · conv => whnf
      refine And.intro (fun w2 => ?_) (fun w2 => ?_)
      · have w2 : oI b = 0 := w2
        have hb0 : b = false := oI_0.mp w2
        have ea : amT (h.1 3) L b pl = (0, 0, pl) := by
          unfold amT
          rw [if_neg q1, if_neg (by rw [hb0]; decide), if_neg (fun z => q2 ⟨z, hb0⟩)]
        rw [ea]
        conv => whnf
        exact ⟨rfl, hc⟩
      · have w2 : ¬ oI b = 0 := w2
        have hb1 : b = true := by
          cases hb1 : b
          · rw [hb1] at w2; exact absurd rfl w2
          · rfl
        have tl := (tail pl H hc (fun z => absurd (s45.mp z) q1) (fun z => by
          unfold amT
          rw [if_neg q1, if_pos hb1]) none none none).2
        conv => whnf
        refine And.intro (fun w3 => ?_) (fun w3 => ?_)
        · conv => whnf
          exact hX _ (tl)
        · exact absurd rfl w3
    · exact absurd rfl w1
  refine ia_V_in ia_k_X3_readAmount [some (.ref 1), some (.int (oI b)), none, none, none, none] rfl rfl (Nat.le_of_ble_eq_true rfl) rfl ?_
  refine ia_walk (fun pc => Nat.beq pc 29) 60 (fun X hX => ?_)
  conv => whnf
  refine Exists.intro (_, _) (And.intro (ia_callE (vh)) ?_)
  conv => whnf
  refine And.intro (fun w1 => ?_) (fun w1 => ?_)
  · have w1 : sg = 45 := w1
    conv => whnf
    exact hX _ (mid1 (Or.inl (s45.mp w1)))
  · have w1 : ¬ sg = 45 := w1
    conv => whnf
    refine And.intro (fun w2 => ?_) (fun w2 => ?_)
    · have w2 : sg = 43 := w2
      conv => whnf
      refine And.intro (fun w3 => ?_) (fun w3 => ?_)
      · have w3 : oI b = 0 := w3
        conv => whnf
        exact hX _ (mid1 (Or.inr ⟨s43.mp w2, oI_0.mp w3⟩))
      · have w3 : ¬ oI b = 0 := w3
        conv => whnf
        exact hX _ (mid0 (fun z => w1 (s45.mpr z)) (fun z => w3 (oI_0.mpr z.2)))
    · have w2 : ¬ sg = 43 := w2
      conv => whnf
      exact hX _ (mid0 (fun z => w1 (s45.mpr z)) (fun z => w2 (s43.mpr z.1)))
