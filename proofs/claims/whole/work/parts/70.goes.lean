/-! the reference goes back: goesBackTo; keepsAct -/
def frG (h H : ia_H) : Prop := (∀ y, y ≠ 52 → y ≠ 54 → y ≠ 56 → y ≠ 57 → y ≠ 59 → H.1 y = h.1 y) ∧ (∀ y, y ≠ 58 → H.2 y = h.2 y) ∧ ∀ j, j ≠ 4 → j ≠ 10 → H.1 52 j = h.1 52 j
theorem l_goes2 (h : ia_H) (j n : Nat) (hj : j < 22) (hn : n ≤ 120) (o : Nat → Bool) (ho : ∀ s, s < n → h.1 63 (649 * j + 529 + s) = oI (o s)) {r0 : Int32} (hr : r0 = nI (649 * j)) {Z : Option Value → ia_H → Prop} (f54 : Nat → Int32) (G : Int32)
    (hZ : ∀ H, frG h H → H.1 52 10 = nI n → H.1 52 4 = G → H.1 54 = f54 → (∀ s, s < n → H.1 56 s = h.1 63 (649 * j + 289 + s) ∧ H.1 57 s = h.1 63 (649 * j + 409 + s) ∧ H.1 59 s = oI (o s) ∧ H.2 58 s = h.2 64 (120 * j + s)) → R_ ia_k_X8_goesBackTo Z (161, [some (.ref 52), some (.int (nI j)), some (.int r0), some (.int (nI n))], [], H)) :
    ∀ (k s : Nat) (H : ia_H), s + k = n → frG h H → H.1 52 10 = nI n → H.1 52 4 = G → H.1 54 = f54 → (∀ i, i < s → H.1 56 i = h.1 63 (649 * j + 289 + i) ∧ H.1 57 i = h.1 63 (649 * j + 409 + i) ∧ H.1 59 i = oI (o i) ∧ H.2 58 i = h.2 64 (120 * j + i)) → R_ ia_k_X8_goesBackTo Z (67, [some (.ref 52), some (.int (nI j)), some (.int r0), some (.int (nI s))], [], H) := by
  intro k
  induction k with
  | zero =>
    intro s H hk hf e10 e4 e54 hs
    have hk : s = n := by omega
    subst hk
    refine ia_walk (fun pc => Nat.beq pc 67 || Nat.beq pc 161) 60 (fun X hX => ?_)
    conv => whnf
    refine And.intro (fun c => ?_) (fun c => ?_)
    · exact absurd (show nI s < H.1 52 10 from c) (by rw [e10]; exact nI_nlt (Nat.le_refl _) (by omega))
    · conv => whnf
      exact hX _ (hZ H hf e10 e4 e54 hs)
  | succ k ih =>
    intro s H hk hf e10 e4 e54 hs
    have hsn : s < n := by omega
    have e63 := hf.1 63 (by decide) (by decide) (by decide) (by decide) (by decide)
    have e64 := hf.2.1 64 (by decide)
    have i1 : r0 + 289 + nI s = nI (649 * j + 289 + s) := ix3 (b := 289) hr
    have i2 : r0 + 409 + nI s = nI (649 * j + 409 + s) := ix3 (b := 409) hr
    have i3 : r0 + 529 + nI s = nI (649 * j + 529 + s) := ix3 (b := 529) hr
    have i4 : (120 : Int32) * nI j + nI s = nI (120 * j + s) := ix2 (pk_mul 120 j)
    have last : ∀ v : Int32, vp_nar .boolean v = oI (o s) → R_ ia_k_X8_goesBackTo Z (137, [some (.ref 52), some (.int (nI j)), some (.int r0), some (.int (nI s))], [.int v, .int (nI s), .ref 59], hsI (hsI H 56 (upd (H.1 56) s (H.1 63 (649 * j + 289 + s)))) 57 (upd (H.1 57) s (H.1 63 (649 * j + 409 + s)))) := by
      intro v hv
      refine ia_walk (fun pc => Nat.beq pc 67) 60 (fun X hX => ?_)
      conv => whnf
      refine Exists.intro _ (And.intro (And.intro rfl (by omega)) ?_)
      conv => whnf
      refine Exists.intro (120 * j + s) (And.intro (And.intro (i4) (by omega)) ?_)
      conv => whnf
      refine Exists.intro _ (And.intro (And.intro rfl (by omega)) ?_)
      conv => whnf
      rw [nI_1]
      refine hX _ (ih (s + 1) _ (by omega) ⟨fun y h1 h2 h3 h4 h5 => ?_, fun y h1 => ?_, hf.2.2⟩ e10 e4 e54 (fun i hi => ?_))
      · show (if y = 59 then _ else if y = 57 then _ else if y = 56 then _ else H.1 y) = h.1 y
        rw [if_neg h5, if_neg h4, if_neg h3]
        exact hf.1 y h1 h2 h3 h4 h5
      · show (if y = 58 then _ else H.2 y) = h.2 y
        rw [if_neg h1]
        exact hf.2.1 y h1
      · show upd (H.1 56) s (H.1 63 (649 * j + 289 + s)) i = _ ∧ upd (H.1 57) s (H.1 63 (649 * j + 409 + s)) i = _ ∧ upd (H.1 59) s (vp_nar .boolean v) i = _ ∧ vp_updL (H.2 58) s (H.2 64 (120 * j + s)) i = _
        by_cases his : i = s
        · subst his
          rw [updp, updp, updp, show vp_updL (H.2 58) i (H.2 64 (120 * j + i)) i = H.2 64 (120 * j + i) from if_pos rfl, e63, e64]
          exact ⟨rfl, rfl, hv, rfl⟩
        · rw [updn his, updn his, updn his, show vp_updL (H.2 58) s (H.2 64 (120 * j + s)) i = H.2 58 i from if_neg his]
          exact hs i (by omega)
    refine ia_walk (fun pc => Nat.beq pc 137) 60 (fun X hX => ?_)
    conv => whnf
    refine And.intro (fun c => ?_) (fun c => ?_)
    · conv => whnf
      refine Exists.intro (649 * j + 289 + s) (And.intro (And.intro (i1) (by omega)) ?_)
      conv => whnf
      refine Exists.intro _ (And.intro (And.intro rfl (by omega)) ?_)
      conv => whnf
      refine Exists.intro (649 * j + 409 + s) (And.intro (And.intro (i2) (by omega)) ?_)
      conv => whnf
      refine Exists.intro _ (And.intro (And.intro rfl (by omega)) ?_)
      conv => whnf
      refine Exists.intro (649 * j + 529 + s) (And.intro (And.intro (i3) (by omega)) ?_)
      have e5 : H.1 63 (649 * j + 529 + s) = oI (o s) := by rw [e63]; exact ho s hsn
      conv => whnf
      refine And.intro (fun c1 => ?_) (fun c1 => ?_)
      · have c1 : H.1 63 (649 * j + 529 + s) = 1 := c1
        conv => whnf
        refine hX _ (last 1 ?_)
        rw [← e5, c1]
        rfl
      · have c1 : ¬ H.1 63 (649 * j + 529 + s) = 1 := c1
        conv => whnf
        refine hX _ (last 0 ?_)
        rw [e5] at c1
        cases hq : o s
        · rfl
        · rw [hq] at c1; exact absurd rfl c1
    · exact absurd (show nI s < H.1 52 10 by rw [e10]; exact nI_lt hsn (by omega)) c
theorem l_goes1 (h : ia_H) (j G : Nat) (hj : j < 22) (hG : G ≤ 41) {r0 : Int32} (hr : r0 = nI (649 * j)) (n : Int32) {Z : Option Value → ia_H → Prop}
    (hZ : ∀ (H : ia_H) (a3 : Option Value), frG h H → H.1 52 4 = nI G → H.1 52 10 = n → (∀ i, i < 7 * G → H.1 54 i = h.1 63 (649 * j + 2 + i)) → R_ ia_k_X8_goesBackTo Z (65, [some (.ref 52), some (.int (nI j)), some (.int r0), a3], [], H)) :
    ∀ (k i : Nat) (H : ia_H), i + k = 7 * G → frG h H → H.1 52 4 = nI G → H.1 52 10 = n → (∀ m, m < i → H.1 54 m = h.1 63 (649 * j + 2 + m)) → R_ ia_k_X8_goesBackTo Z (32, [some (.ref 52), some (.int (nI j)), some (.int r0), some (.int (nI i))], [], H) := by
  intro k
  induction k with
  | zero =>
    intro i H hk hf eG en hp
    have hk : i = 7 * G := by omega
    subst hk
    have e : (7 : Int32) * H.1 52 4 = nI (7 * G) := by rw [eG]; exact pk_mul 7 G
    refine ia_walk (fun pc => Nat.beq pc 32 || Nat.beq pc 65) 60 (fun X hX => ?_)
    conv => whnf
    refine And.intro (fun c => ?_) (fun c => ?_)
    · exact absurd (show nI (7 * G) < (7 : Int32) * H.1 52 4 from c) (by rw [e]; exact nI_nlt (Nat.le_refl _) (by omega))
    · conv => whnf
      exact hX _ (hZ H _ hf eG en hp)
  | succ k ih =>
    intro i H hk hf eG en hp
    have e : (7 : Int32) * H.1 52 4 = nI (7 * G) := by rw [eG]; exact pk_mul 7 G
    have e63 := hf.1 63 (by decide) (by decide) (by decide) (by decide) (by decide)
    have i1 : r0 + 2 + nI i = nI (649 * j + 2 + i) := ix3 (b := 2) hr
    refine ia_walk (fun pc => Nat.beq pc 32 || Nat.beq pc 65) 60 (fun X hX => ?_)
    conv => whnf
    refine And.intro (fun c => ?_) (fun c => ?_)
    · conv => whnf
      refine Exists.intro (649 * j + 2 + i) (And.intro (And.intro (i1) (by omega)) ?_)
      conv => whnf
      refine Exists.intro _ (And.intro (And.intro rfl (by omega)) ?_)
      conv => whnf
      rw [nI_1]
      refine hX _ (ih (i + 1) _ (by omega) ⟨fun y h1 h2 h3 h4 h5 => ?_, hf.2.1, hf.2.2⟩ eG en (fun m hm => ?_))
      · show (if y = 54 then _ else H.1 y) = h.1 y
        rw [if_neg h2]
        exact hf.1 y h1 h2 h3 h4 h5
      · show upd (H.1 54) i (H.1 63 (649 * j + 2 + i)) m = _
        by_cases hmi : m = i
        · subst hmi; rw [updp, e63]
        · rw [updn hmi]; exact hp m (by omega)
    · exact absurd (show nI i < (7 : Int32) * H.1 52 4 by rw [e]; exact nI_lt (by omega) (by omega)) c
def frQ (h H : ia_H) : Prop := (∀ y, y ≠ 52 → y ≠ 54 → y ≠ 56 → y ≠ 57 → y ≠ 59 → y ≠ 60 → y ≠ 62 → H.1 y = h.1 y) ∧ (∀ y, y ≠ 58 → y ≠ 61 → H.2 y = h.2 y) ∧ ∀ j, j ≠ 4 → j ≠ 10 → H.1 52 j = h.1 52 j
theorem m_goes {h : ia_H} {t : tdT} (hok : tdOk t) (j : Nat) (hj : j < 22) (hh : hRep h j t) : V_ 126 [.ref 52, .int (nI j)] h (fun r h' => r = none ∧ mRep h' t ∧ mJ h' t ∧ frQ h h') := by
  have hok0 := hok
  obtain ⟨o1, o2, o3, o4, o5⟩ := hok
  obtain ⟨g1, g2, g3, g4⟩ := hh
  have hr : (649 : Int32) * nI j = nI (649 * j) := pk_mul 649 j
  have i0 : (649 : Int32) * nI j + 0 = nI (649 * j) := by rw [hr]; exact Int32.add_zero _
  have i1 : (649 : Int32) * nI j + 1 = nI (649 * j + 1) := ix2 (b := 1) hr
  refine ia_V_in ia_k_X8_goesBackTo [some (.ref 52), some (.int (nI j)), none, none] rfl rfl (Nat.le_of_ble_eq_true rfl) rfl ?_
  refine ia_walk (fun pc => Nat.beq pc 32) 60 (fun X hX => ?_)
  conv => whnf
  refine Exists.intro (649 * j) (And.intro (And.intro (i0) (by omega)) ?_)
  conv => whnf
  refine Exists.intro (649 * j + 1) (And.intro (And.intro (i1) (by omega)) ?_)
  conv => whnf
  have lp := l_goes1 h j (tdG t) hj o2 hr (nI (tdN t)) (Z := fun r h' => r = none ∧ mRep h' t ∧ mJ h' t ∧ frQ h h') (fun H a3 hf eG en hp => ?_) (7 * tdG t) 0 (hsI (hsI h 52 (upd (h.1 52) 4 (h.1 63 (649 * j)))) 52 (upd (upd (h.1 52) 4 (h.1 63 (649 * j))) 10 (h.1 63 (649 * j + 1)))) (by omega) ⟨fun y h1 _ _ _ _ => ?_, fun _ _ => rfl, fun i h1 h2 => ?_⟩ ?_ ?_ (fun m hm => absurd hm (Nat.not_lt_zero m))
  · exact hX _ lp
  · refine ia_walk (fun pc => Nat.beq pc 67) 60 (fun X hX => ?_)
    conv => whnf
    refine hX _ (l_goes2 h j (tdN t) hj o3 (tdO t) (fun s hs => (g4 s hs).2.2.1) hr (H.1 54) (nI (tdG t)) (fun K hf2 e10 e4 e54 hs2 => ?_) (tdN t) 0 H (by omega) hf en eG rfl (fun i hi => absurd hi (Nat.not_lt_zero i)))
    have rk : mRep K t := by
      refine ⟨e4, e10, fun g q1 q2 => ?_, fun s hs => ?_⟩
      · obtain ⟨w1, w2⟩ := g3 g q1 q2
        obtain ⟨v1, v2, -⟩ := o4 g q1 q2
        rw [e54]
        refine ⟨by rw [hp _ (by omega)]; exact w1, fun k hk => by rw [hp _ (by omega)]; exact w2 k hk⟩
      · obtain ⟨w1, w2, w3, w4⟩ := g4 s hs
        obtain ⟨v1, v2, v3, v4⟩ := hs2 s hs
        exact ⟨by rw [v1]; exact w1, by rw [v2]; exact w2, by rw [v4]; exact w4, v3⟩
    obtain ⟨r2, h2, ev2, z1, z2, z3⟩ := m_anew hok0 rk
    subst z1
    refine ia_walk (fun _ => false) 60 (fun X hX => ?_)
    conv => whnf
    refine Exists.intro (_, _) (And.intro ev2 ?_)
    conv => whnf
    refine ⟨rfl, ?_, z3, fun y h1 h2 h3 h4 h5 h6 h7 => ?_, fun y h1 h2 => ?_, fun i h1 h2 => ?_⟩
    · obtain ⟨q1, q2, q3, q4⟩ := rk
      show h2.1 52 4 = _ ∧ h2.1 52 10 = _ ∧ mDat h2 t
      unfold mDat
      rw [z2.1 52 (by decide) (by decide), z2.1 54 (by decide) (by decide), z2.1 56 (by decide) (by decide), z2.1 57 (by decide) (by decide), z2.1 59 (by decide) (by decide), z2.2 58 (by decide)]
      exact ⟨q1, q2, q3, q4⟩
    · rw [z2.1 y h6 h7]
      exact hf2.1 y h1 h2 h3 h4 h5
    · rw [z2.2 y h2]
      exact hf2.2.1 y h1
    · rw [z2.1 52 (by decide) (by decide)]
      exact hf2.2.2 i h1 h2
  · show (if y = 52 then _ else if y = 52 then _ else h.1 y) = h.1 y
    rw [if_neg h1, if_neg h1]
  · show upd (upd (h.1 52) 4 _) 10 _ i = _
    rw [updn h2, updn h1]
  · exact g1
  · exact g2
/-- the acts that can be taken back, as the reference holds them -/
def aM (h : ia_H) (ts : Nat → tdT) (u : Nat) : Prop := u ≤ 20 ∧ h.1 52 22 = nI u ∧ ∀ k, k < u → tdOk (ts k) ∧ hRep h k (ts k)
theorem hRep_fr {h H : ia_H} {i j : Nat} {t : tdT} (hok : tdOk t) (hh : hRep h i t) (e1 : ∀ k, k < 649 → H.1 63 (649 * j + k) = h.1 63 (649 * i + k)) (e2 : ∀ k, k < 120 → H.2 64 (120 * j + k) = h.2 64 (120 * i + k)) : hRep H j t := by
  obtain ⟨o1, o2, o3, o4, o5⟩ := hok
  obtain ⟨g1, g2, g3, g4⟩ := hh
  refine ⟨by rw [show 649 * j = 649 * j + 0 by omega, e1 0 (by decide)]; exact g1, by rw [e1 1 (by decide)]; exact g2, fun g q1 q2 => ?_, fun s hs => ?_⟩
  · obtain ⟨w1, w2⟩ := g3 g q1 q2
    obtain ⟨v1, v2, -⟩ := o4 g q1 q2
    refine ⟨by rw [Nat.add_assoc, e1 _ (by omega), ← Nat.add_assoc]; exact w1, fun k hk => by rw [Nat.add_assoc, e1 _ (by omega), ← Nat.add_assoc]; exact w2 k hk⟩
  · obtain ⟨w1, w2, w3, w4⟩ := g4 s hs
    refine ⟨by rw [Nat.add_assoc, e1 _ (by omega), ← Nat.add_assoc]; exact w1, by rw [Nat.add_assoc, e1 _ (by omega), ← Nat.add_assoc]; exact w2, by rw [Nat.add_assoc, e1 _ (by omega), ← Nat.add_assoc]; exact w3, by rw [e2 _ (by omega)]; exact w4⟩
theorem l_kA2 (h : ia_H) {Z : Option Value → ia_H → Prop} (hN : ∀ (w : Option Value) (H : ia_H), (∀ i, i < 2280 → H.2 64 i = h.2 64 (i + 120)) → (∀ i, 2280 ≤ i → H.2 64 i = h.2 64 i) → (∀ y, y ≠ 64 → H.2 y = h.2 y) → H.1 = h.1 → R_ ia_k_X8_keepsAct Z (73, [some (.ref 52), w], [], H)) :
    ∀ (k d : Nat) (H : ia_H), d + k = 2280 → (∀ m, m < d → H.2 64 m = h.2 64 (m + 120)) → (∀ m, d ≤ m → H.2 64 m = h.2 64 m) → (∀ y, y ≠ 64 → H.2 y = h.2 y) → H.1 = h.1 → R_ ia_k_X8_keepsAct Z (45, [some (.ref 52), some (.int (nI (d + 120)))], [], H) := by
  intro k
  induction k with
  | zero =>
    intro d H hk f1 f2 f3 f4
    have hk : d = 2280 := by omega
    subst hk
    refine ia_walk (fun pc => Nat.beq pc 45 || Nat.beq pc 73) 60 (fun X hX => ?_)
    conv => whnf
    refine And.intro (fun c => ?_) (fun c => ?_)
    · exact absurd (show nI 2400 < 2400 from c) (by decide)
    · conv => whnf
      exact hX _ (hN _ H f1 f2 f3 f4)
  | succ k ih =>
    intro d H hk f1 f2 f3 f4
    have i1 : nI (d + 120) - 120 = nI d := by
      rw [← nI_add]
      exact Int32.add_sub_cancel _ _
    have ih := ih (d + 1)
    rw [show d + 1 + 120 = d + 120 + 1 by omega] at ih
    refine ia_walk (fun pc => Nat.beq pc 45 || Nat.beq pc 73) 60 (fun X hX => ?_)
    conv => whnf
    refine And.intro (fun c => ?_) (fun c => ?_)
    · conv => whnf
      refine Exists.intro _ (And.intro (And.intro rfl (by omega)) ?_)
      conv => whnf
      refine Exists.intro (d) (And.intro (And.intro (i1) (by omega)) ?_)
      conv => whnf
      rw [nI_1]
      refine hX _ (ih _ (by omega) (fun m hm => ?_) (fun m hm => ?_) (fun y hy => ?_) f4)
      · show vp_updL (H.2 64) d (H.2 64 (d + 120)) m = _
        by_cases q : m = d
        · rw [q, show vp_updL (H.2 64) d (H.2 64 (d + 120)) d = H.2 64 (d + 120) from if_pos rfl, f2 (d + 120) (by omega)]
        · rw [show vp_updL (H.2 64) d (H.2 64 (d + 120)) m = H.2 64 m from if_neg q]
          exact f1 m (by omega)
      · show vp_updL (H.2 64) d (H.2 64 (d + 120)) m = _
        rw [show vp_updL (H.2 64) d (H.2 64 (d + 120)) m = H.2 64 m from if_neg (by omega)]
        exact f2 m (by omega)
      · show (if y = 64 then _ else H.2 y) = _
        rw [if_neg hy]
        exact f3 y hy
    · exact absurd (show nI (d + 120) < 2400 from nI_lt (b := 2400) (by omega) (by omega)) c
theorem l_kA1 (h : ia_H) {Z : Option Value → ia_H → Prop} (hN : ∀ (w : Option Value) (H : ia_H), (∀ i, i < 12331 → H.1 63 i = h.1 63 (i + 649)) → (∀ i, 12331 ≤ i → H.1 63 i = h.1 63 i) → (∀ y, y ≠ 63 → H.1 y = h.1 y) → H.2 = h.2 → R_ ia_k_X8_keepsAct Z (42, [some (.ref 52), w], [], H)) :
    ∀ (k d : Nat) (H : ia_H), d + k = 12331 → (∀ m, m < d → H.1 63 m = h.1 63 (m + 649)) → (∀ m, d ≤ m → H.1 63 m = h.1 63 m) → (∀ y, y ≠ 63 → H.1 y = h.1 y) → H.2 = h.2 → R_ ia_k_X8_keepsAct Z (13, [some (.ref 52), some (.int (nI (d + 649)))], [], H) := by
  intro k
  induction k with
  | zero =>
    intro d H hk f1 f2 f3 f4
    have hk : d = 12331 := by omega
    subst hk
    refine ia_walk (fun pc => Nat.beq pc 13 || Nat.beq pc 42) 60 (fun X hX => ?_)
    conv => whnf
    refine And.intro (fun c => ?_) (fun c => ?_)
    · exact absurd (show nI 12980 < 12980 from c) (by decide)
    · conv => whnf
      exact hX _ (hN _ H f1 f2 f3 f4)
  | succ k ih =>
    intro d H hk f1 f2 f3 f4
    have i1 : nI (d + 649) - 649 = nI d := by
      rw [← nI_add]
      exact Int32.add_sub_cancel _ _
    have ih := ih (d + 1)
    rw [show d + 1 + 649 = d + 649 + 1 by omega] at ih
    refine ia_walk (fun pc => Nat.beq pc 13 || Nat.beq pc 42) 60 (fun X hX => ?_)
    conv => whnf
    refine And.intro (fun c => ?_) (fun c => ?_)
    · conv => whnf
      refine Exists.intro _ (And.intro (And.intro rfl (by omega)) ?_)
      conv => whnf
      refine Exists.intro (d) (And.intro (And.intro (i1) (by omega)) ?_)
      conv => whnf
      rw [nI_1]
      refine hX _ (ih _ (by omega) (fun m hm => ?_) (fun m hm => ?_) (fun y hy => ?_) f4)
      · show upd (H.1 63) d (H.1 63 (d + 649)) m = _
        by_cases q : m = d
        · rw [q, show upd (H.1 63) d (H.1 63 (d + 649)) d = H.1 63 (d + 649) from if_pos rfl, f2 (d + 649) (by omega)]
        · rw [show upd (H.1 63) d (H.1 63 (d + 649)) m = H.1 63 m from if_neg q]
          exact f1 m (by omega)
      · show upd (H.1 63) d (H.1 63 (d + 649)) m = _
        rw [show upd (H.1 63) d (H.1 63 (d + 649)) m = H.1 63 m from if_neg (by omega)]
        exact f2 m (by omega)
      · show (if y = 63 then _ else H.1 y) = _
        rw [if_neg hy]
        exact f3 y hy
    · exact absurd (show nI (d + 649) < 12980 from nI_lt (b := 12980) (by omega) (by omega)) c
def frK (h H : ia_H) : Prop := (∀ y, y ≠ 52 → y ≠ 63 → H.1 y = h.1 y) ∧ (∀ y, y ≠ 64 → H.2 y = h.2 y) ∧ (∀ j, j ≠ 22 → H.1 52 j = h.1 52 j) ∧ (∀ i, 12980 ≤ i → H.1 63 i = h.1 63 i) ∧ ∀ i, 2400 ≤ i → H.2 64 i = h.2 64 i
theorem m_kTold {h : ia_H} {t : tdT} (hok : tdOk t) (hm : mRep h t) {u : Nat} (hu : u < 20) (e : h.1 52 22 = nI u) : V_ 128 [.ref 52] h (fun r h' => r = none ∧ hRep h' u t ∧ frH u h h') := by
  obtain ⟨r1, h1, ev1, z1, z2⟩ := m_keeps hok hm u (by omega)
  subst z1
  rw [← e] at ev1
  refine ia_V_in ia_k_X8_keepsTold [some (.ref 52)] rfl rfl (Nat.le_of_ble_eq_true rfl) rfl ?_
  refine ia_walk (fun _ => false) 60 (fun X hX => ?_)
  conv => whnf
  refine Exists.intro (_, _) (And.intro ev1 ?_)
  conv => whnf
  exact ⟨rfl, z2⟩
theorem m_keepsAct {h : ia_H} {ts : Nat → tdT} {u : Nat} (hok : tdOk (ts u)) (hm : mRep h (ts u)) (ha : aM h ts u) (b : tdT) : V_ 127 [.ref 52] h (fun r h' => r = none ∧ aM h' (tsP ts u b) (uP u) ∧ frK h h') := by
  obtain ⟨a1, a2, a3⟩ := ha
  by_cases hu : u < 20
  · obtain ⟨r1, h1, ev1, z1, z2, z3⟩ := m_kTold hok hm hu a2
    subst z1
    have e22 : h1.1 52 22 = nI u := by rw [z3.1 52 (by decide)]; exact a2
    refine ia_V_in ia_k_X8_keepsAct [some (.ref 52), none] rfl rfl (Nat.le_of_ble_eq_true rfl) rfl ?_
    refine ia_walk (fun _ => false) 60 (fun X hX => ?_)
    conv => whnf
    refine And.intro (fun c => ?_) (fun c => ?_)
    · exact absurd (show h.1 52 22 = 20 from c) (by rw [a2]; exact fun q => by have := nI_inj (b := 20) (by omega) (by omega) q; omega)
    · conv => whnf
      refine Exists.intro (_, _) (And.intro ev1 ?_)
      conv => whnf
      have eu : uP u = u + 1 := if_pos hu
      refine ⟨rfl, ⟨by omega, ?_, fun k hk => ?_⟩, fun y n1 n2 => ?_, fun y n1 => ?_, fun j hj => ?_, fun i hi => ?_, fun i hi => ?_⟩
      · show upd (h1.1 52) 22 (h1.1 52 22 + 1) 22 = _
        rw [updp, e22, nI_1, eu]
      · have et : tsP ts u b k = ts k := by
          unfold tsP
          rw [if_pos hu]
          exact if_neg (by omega)
        rw [et]
        by_cases hku : k = u
        · subst hku
          exact ⟨hok, z2⟩
        · obtain ⟨q1, q2⟩ := a3 k (by omega)
          exact ⟨q1, hRep_fr q1 q2 (fun m hm => z3.2.2.1 _ (by omega)) (fun m hm => z3.2.2.2 _ (by omega))⟩
      · show (if y = 52 then _ else h1.1 y) = _
        rw [if_neg n1]
        exact z3.1 y n2
      · exact z3.2.1 y n1
      · show upd (h1.1 52) 22 _ j = _
        rw [updn hj, z3.1 52 (by decide)]
      · exact z3.2.2.1 i (by omega)
      · exact z3.2.2.2 i (by omega)
  · have hu : u = 20 := by omega
    subst hu
    have key := l_kA1 h (Z := fun r h' => r = none ∧ aM h' (tsP ts 20 b) (uP 20) ∧ frK h h') (fun w H f1 f2 f3 f4 => ?_) 12331 0 h (by omega) (fun m hm => absurd hm (Nat.not_lt_zero m)) (fun _ _ => rfl) (fun _ _ => rfl) rfl
    · refine ia_V_in ia_k_X8_keepsAct [some (.ref 52), none] rfl rfl (Nat.le_of_ble_eq_true rfl) rfl ?_
      refine ia_walk (fun pc => Nat.beq pc 13) 60 (fun X hX => ?_)
      conv => whnf
      refine And.intro (fun c => ?_) (fun c => ?_)
      · conv => whnf
        exact hX _ (key)
      · exact absurd (show h.1 52 22 = 20 by rw [a2]; rfl) c
    · refine ia_walk (fun pc => Nat.beq pc 45) 60 (fun X hX => ?_)
      conv => whnf
      refine hX _ (l_kA2 H (fun w2 K g1 g2 g3 g4 => ?_) 2280 0 H (by omega) (fun m hm => absurd hm (Nat.not_lt_zero m)) (fun _ _ => rfl) (fun _ _ => rfl) rfl)
      have e52 : K.1 52 = h.1 52 := by rw [g4, f3 52 (by decide)]
      have rk : mRep (hsI K 52 (upd (K.1 52) 22 (K.1 52 22 - 1))) (ts 20) := by
        obtain ⟨q1, q2, q3, q4⟩ := hm
        refine ⟨?_, ?_, ?_, ?_⟩
        · show K.1 52 4 = _
          rw [e52]; exact q1
        · show K.1 52 10 = _
          rw [e52]; exact q2
        · show ∀ g, _ → _ → K.1 54 _ = _ ∧ ∀ k, _ → K.1 54 _ = _
          rw [g4, f3 54 (by decide)]; exact q3
        · show ∀ s, _ → K.1 56 s = _ ∧ K.1 57 s = _ ∧ K.2 58 s = _ ∧ K.1 59 s = _
          rw [g4, f3 56 (by decide), f3 57 (by decide), f3 59 (by decide), g3 58 (by decide), f4]; exact q4
      have e19 : (hsI K 52 (upd (K.1 52) 22 (K.1 52 22 - 1))).1 52 22 = nI 19 := by
        show K.1 52 22 - 1 = _
        rw [e52, a2]
        rfl
      obtain ⟨r1, h1, ev1, z1, z2, z3⟩ := m_kTold hok rk (show 19 < 20 by decide) e19
      subst z1
      have e22 : h1.1 52 22 = nI 19 := by rw [z3.1 52 (by decide)]; exact e19
      refine ia_walk (fun _ => false) 60 (fun X hX => ?_)
      conv => whnf
      refine Exists.intro (_, _) (And.intro ev1 ?_)
      conv => whnf
      refine ⟨rfl, ⟨by decide, ?_, fun k hk => ?_⟩, fun y n1 n2 => ?_, fun y n1 => ?_, fun j hj => ?_, fun i hi => ?_, fun i hi => ?_⟩
      · show upd (h1.1 52) 22 (h1.1 52 22 + 1) 22 = _
        rw [updp, e22]
        rfl
      · have hk : k < 20 := hk
        have et : tsP ts 20 b k = ts (k + 1) := by
          unfold tsP
          rw [if_neg (by decide)]
          exact if_neg (by omega)
        rw [et]
        by_cases hk19 : k = 19
        · subst hk19
          exact ⟨hok, z2⟩
        · obtain ⟨q1, q2⟩ := a3 (k + 1) (by omega)
          refine ⟨q1, hRep_fr q1 q2 (fun m hm => ?_) (fun m hm => ?_)⟩
          · show h1.1 63 _ = _
            rw [z3.2.2.1 _ (by omega)]
            show K.1 63 _ = _
            rw [g4, f1 _ (by omega), show 649 * k + m + 649 = 649 * (k + 1) + m by omega]
          · show h1.2 64 _ = _
            rw [z3.2.2.2 _ (by omega)]
            show K.2 64 _ = _
            rw [g1 _ (by omega), f4, show 120 * k + m + 120 = 120 * (k + 1) + m by omega]
      · show (if y = 52 then _ else h1.1 y) = _
        rw [if_neg n1, z3.1 y n2]
        show (if y = 52 then _ else K.1 y) = _
        rw [if_neg n1, g4, f3 y n2]
      · show h1.2 y = _
        rw [z3.2.1 y n1]
        show K.2 y = _
        rw [g3 y n1, f4]
      · show upd (h1.1 52) 22 _ j = _
        rw [updn hj, z3.1 52 (by decide)]
        show upd (K.1 52) 22 _ j = _
        rw [updn hj, e52]
      · show h1.1 63 i = _
        rw [z3.2.2.1 i (by omega)]
        show K.1 63 i = _
        rw [g4, f2 i (by omega)]
      · show h1.2 64 i = _
        rw [z3.2.2.2 i (by omega)]
        show K.2 64 i = _
        rw [g2 i (by omega), f4]
