/-! what the reference holds: keeps, goesBackTo -/
def hRep (h : ia_H) (j : Nat) (t : tdT) : Prop := h.1 63 (649 * j) = nI (tdG t) ∧ h.1 63 (649 * j + 1) = nI (tdN t) ∧ (∀ g, 1 ≤ g → g < tdG t → h.1 63 (649 * j + 2 + 7 * g) = nI (tdL t g) ∧ ∀ k, k < tdL t g → h.1 63 (649 * j + 2 + (7 * g + 1 + k)) = nI (tdC t g k)) ∧ ∀ s, s < tdN t → h.1 63 (649 * j + 289 + s) = nI (tdA t s) ∧ h.1 63 (649 * j + 409 + s) = nI (tdB t s) ∧ h.1 63 (649 * j + 529 + s) = oI (tdO t s) ∧ h.2 64 (120 * j + s) = tdM t s
/-- only the j-th row has changed -/
def frH (j : Nat) (h H : ia_H) : Prop := (∀ y, y ≠ 63 → H.1 y = h.1 y) ∧ (∀ y, y ≠ 64 → H.2 y = h.2 y) ∧ (∀ i, (i < 649 * j ∨ 649 * j + 649 ≤ i) → H.1 63 i = h.1 63 i) ∧ ∀ i, (i < 120 * j ∨ 120 * j + 120 ≤ i) → H.2 64 i = h.2 64 i
theorem ix2 {a b : Nat} {r : Int32} (hr : r = nI a) : r + nI b = nI (a + b) := by rw [hr, nI_add]
theorem ix3 {a b c : Nat} {r : Int32} (hr : r = nI a) : r + nI b + nI c = nI (a + b + c) := by rw [hr, nI_add, nI_add]
theorem frH_u {j : Nat} {h H : ia_H} (hf : frH j h H) {i : Nat} (hi : 649 * j ≤ i ∧ i < 649 * j + 649) (v : Int32) : frH j h (hsI H 63 (upd (H.1 63) i v)) := by
  refine ⟨fun y hy => ?_, hf.2.1, fun k hk => ?_, hf.2.2.2⟩
  · rw [hsI_ne H _ hy]; exact hf.1 y hy
  · show upd (H.1 63) i v k = _
    rw [updn (by omega)]
    exact hf.2.2.1 k hk
theorem frH_l {j : Nat} {h H : ia_H} (hf : frH j h H) {i : Nat} (hi : 120 * j ≤ i ∧ i < 120 * j + 120) (v : Int64) : frH j h (hsL H 64 (vp_updL (H.2 64) i v)) := by
  refine ⟨hf.1, fun y hy => ?_, hf.2.2.1, fun k hk => ?_⟩
  · rw [hsL_ne H _ hy]; exact hf.2.1 y hy
  · show vp_updL (H.2 64) i v k = _
    rw [show vp_updL (H.2 64) i v k = H.2 64 k from if_neg (by omega)]
    exact hf.2.2.2 k hk
theorem l_keeps2 (h : ia_H) (j n : Nat) (hj : j < 22) (hn : n ≤ 120) (en : h.1 52 10 = nI n) (o : Nat → Bool) (ho : ∀ s, s < n → h.1 59 s = oI (o s)) {r0 : Int32} (hr : r0 = nI (649 * j)) {Z : Option Value → ia_H → Prop} (P : ia_H → Prop) (hP : ∀ H K, P H → (∀ i, i < 649 * j + 289 → K.1 63 i = H.1 63 i) → P K)
    (hZ : ∀ H, frH j h H → P H → (∀ s, s < n → H.1 63 (649 * j + 289 + s) = h.1 56 s ∧ H.1 63 (649 * j + 409 + s) = h.1 57 s ∧ H.1 63 (649 * j + 529 + s) = oI (o s) ∧ H.2 64 (120 * j + s) = h.2 58 s) → Z none H) :
    ∀ (k s : Nat) (H : ia_H), s + k = n → frH j h H → P H → (∀ i, i < s → H.1 63 (649 * j + 289 + i) = h.1 56 i ∧ H.1 63 (649 * j + 409 + i) = h.1 57 i ∧ H.1 63 (649 * j + 529 + i) = oI (o i) ∧ H.2 64 (120 * j + i) = h.2 58 i) → R_ ia_k_X8_keeps Z (67, [some (.ref 52), some (.int (nI j)), some (.int r0), some (.int (nI s))], [], H) := by
  intro k
  induction k with
  | zero =>
    intro s H hk hf hp hs
    have hk : s = n := by omega
    subst hk
    have e : H.1 52 10 = nI s := by rw [hf.1 52 (by decide)]; exact en
    refine ia_walk (fun pc => Nat.beq pc 67) 60 (fun X hX => ?_)
    conv => whnf
    refine And.intro (fun c => ?_) (fun c => ?_)
    · exact absurd (show nI s < H.1 52 10 from c) (by rw [e]; exact nI_nlt (Nat.le_refl _) (by omega))
    · conv => whnf
      exact hZ H hf hp hs
  | succ k ih =>
    intro s H hk hf hp hs
    have hsn : s < n := by omega
    have e : H.1 52 10 = nI n := by rw [hf.1 52 (by decide)]; exact en
    have e56 := hf.1 56 (by decide)
    have e57 := hf.1 57 (by decide)
    have e59 := hf.1 59 (by decide)
    have e58 := hf.2.1 58 (by decide)
    have i1 : r0 + 289 + nI s = nI (649 * j + 289 + s) := ix3 (b := 289) hr
    have i2 : r0 + 409 + nI s = nI (649 * j + 409 + s) := ix3 (b := 409) hr
    have i3 : r0 + 529 + nI s = nI (649 * j + 529 + s) := ix3 (b := 529) hr
    have i4 : (120 : Int32) * nI j + nI s = nI (120 * j + s) := ix2 (pk_mul 120 j)
    have last : ∀ v : Int32, v = oI (o s) → R_ ia_k_X8_keeps Z (136, [some (.ref 52), some (.int (nI j)), some (.int r0), some (.int (nI s))], [.int v, .int (r0 + 529 + nI s), .ref 63], hsI (hsI H 63 (upd (H.1 63) (649 * j + 289 + s) (H.1 56 s))) 63 (upd (upd (H.1 63) (649 * j + 289 + s) (H.1 56 s)) (649 * j + 409 + s) (H.1 57 s))) := by
      intro v hv
      refine ia_walk (fun pc => Nat.beq pc 67) 60 (fun X hX => ?_)
      conv => whnf
      refine Exists.intro (649 * j + 529 + s) (And.intro (And.intro (i3) (by omega)) ?_)
      conv => whnf
      refine Exists.intro _ (And.intro (And.intro rfl (by omega)) ?_)
      conv => whnf
      refine Exists.intro (120 * j + s) (And.intro (And.intro (i4) (by omega)) ?_)
      conv => whnf
      rw [nI_1]
      have g := frH_l (frH_u (frH_u (frH_u hf (i := 649 * j + 289 + s) (by omega) (H.1 56 s)) (i := 649 * j + 409 + s) (by omega) (H.1 57 s)) (i := 649 * j + 529 + s) (by omega) v) (i := 120 * j + s) (by omega) (H.2 58 s)
      refine hX _ (ih (s + 1) _ (by omega) g (hP H _ hp (fun i hi => ?_)) (fun i hi => ?_))
      · show upd (upd (upd (H.1 63) (649 * j + 289 + s) (H.1 56 s)) (649 * j + 409 + s) (H.1 57 s)) (649 * j + 529 + s) v i = _
        rw [updn (by omega), updn (by omega), updn (by omega)]
      · show upd (upd (upd (H.1 63) (649 * j + 289 + s) (H.1 56 s)) (649 * j + 409 + s) (H.1 57 s)) (649 * j + 529 + s) v _ = _ ∧ upd (upd (upd (H.1 63) (649 * j + 289 + s) (H.1 56 s)) (649 * j + 409 + s) (H.1 57 s)) (649 * j + 529 + s) v _ = _ ∧ upd (upd (upd (H.1 63) (649 * j + 289 + s) (H.1 56 s)) (649 * j + 409 + s) (H.1 57 s)) (649 * j + 529 + s) v _ = _ ∧ vp_updL (H.2 64) (120 * j + s) (H.2 58 s) (120 * j + i) = _
        by_cases his : i = s
        · subst his
          rw [updn (by omega), updn (by omega), updp, updn (by omega), updp, updp, show vp_updL (H.2 64) (120 * j + i) (H.2 58 i) (120 * j + i) = H.2 58 i from if_pos rfl, e56, e57, e58]
          exact ⟨rfl, rfl, hv, rfl⟩
        · obtain ⟨q1, q2, q3, q4⟩ := hs i (by omega)
          rw [updn (by omega), updn (by omega), updn (by omega), updn (by omega), updn (by omega), updn (by omega), updn (by omega), updn (by omega), updn (by omega), show vp_updL (H.2 64) (120 * j + s) (H.2 58 s) (120 * j + i) = H.2 64 (120 * j + i) from if_neg (by omega)]
          exact ⟨q1, q2, q3, q4⟩
    refine ia_walk (fun pc => Nat.beq pc 136) 60 (fun X hX => ?_)
    conv => whnf
    refine And.intro (fun c => ?_) (fun c => ?_)
    · conv => whnf
      refine Exists.intro _ (And.intro (And.intro rfl (by omega)) ?_)
      conv => whnf
      refine Exists.intro (649 * j + 289 + s) (And.intro (And.intro (i1) (by omega)) ?_)
      conv => whnf
      refine Exists.intro _ (And.intro (And.intro rfl (by omega)) ?_)
      conv => whnf
      refine Exists.intro (649 * j + 409 + s) (And.intro (And.intro (i2) (by omega)) ?_)
      conv => whnf
      refine Exists.intro _ (And.intro (And.intro rfl (by omega)) ?_)
      have e5 : H.1 59 s = oI (o s) := by rw [e59]; exact ho s hsn
      conv => whnf
      refine And.intro (fun c1 => ?_) (fun c1 => ?_)
      · have c1 : H.1 59 s = 0 := c1
        conv => whnf
        exact hX _ (last 0 (by rw [← e5, c1]))
      · have c1 : ¬ H.1 59 s = 0 := c1
        conv => whnf
        refine hX _ (last 1 ?_)
        rw [e5] at c1
        cases hq : o s
        · rw [hq] at c1; exact absurd rfl c1
        · rfl
    · exact absurd (show nI s < H.1 52 10 by rw [e]; exact nI_lt hsn (by omega)) c
theorem l_keeps1 (h : ia_H) (j G : Nat) (hj : j < 22) (hG : G ≤ 41) (eG : h.1 52 4 = nI G) {r0 : Int32} (hr : r0 = nI (649 * j)) (v0 v1 : Int32) {Z : Option Value → ia_H → Prop}
    (hZ : ∀ (H : ia_H) (a3 : Option Value), frH j h H → (H.1 63 (649 * j) = v0 ∧ H.1 63 (649 * j + 1) = v1 ∧ ∀ i, i < 7 * G → H.1 63 (649 * j + 2 + i) = h.1 54 i) → R_ ia_k_X8_keeps Z (65, [some (.ref 52), some (.int (nI j)), some (.int r0), a3], [], H)) :
    ∀ (k i : Nat) (H : ia_H), i + k = 7 * G → frH j h H → (H.1 63 (649 * j) = v0 ∧ H.1 63 (649 * j + 1) = v1 ∧ ∀ m, m < i → H.1 63 (649 * j + 2 + m) = h.1 54 m) → R_ ia_k_X8_keeps Z (32, [some (.ref 52), some (.int (nI j)), some (.int r0), some (.int (nI i))], [], H) := by
  intro k
  induction k with
  | zero =>
    intro i H hk hf hp
    have hk : i = 7 * G := by omega
    subst hk
    have e : (7 : Int32) * H.1 52 4 = nI (7 * G) := by rw [hf.1 52 (by decide), eG]; exact pk_mul 7 G
    refine ia_walk (fun pc => Nat.beq pc 32 || Nat.beq pc 65) 60 (fun X hX => ?_)
    conv => whnf
    refine And.intro (fun c => ?_) (fun c => ?_)
    · exact absurd (show nI (7 * G) < (7 : Int32) * H.1 52 4 from c) (by rw [e]; exact nI_nlt (Nat.le_refl _) (by omega))
    · conv => whnf
      exact hX _ (hZ H _ hf hp)
  | succ k ih =>
    intro i H hk hf hp
    have e : (7 : Int32) * H.1 52 4 = nI (7 * G) := by rw [hf.1 52 (by decide), eG]; exact pk_mul 7 G
    have e54 := hf.1 54 (by decide)
    have i1 : r0 + 2 + nI i = nI (649 * j + 2 + i) := ix3 (b := 2) hr
    refine ia_walk (fun pc => Nat.beq pc 32 || Nat.beq pc 65) 60 (fun X hX => ?_)
    conv => whnf
    refine And.intro (fun c => ?_) (fun c => ?_)
    · conv => whnf
      refine Exists.intro _ (And.intro (And.intro rfl (by omega)) ?_)
      conv => whnf
      refine Exists.intro (649 * j + 2 + i) (And.intro (And.intro (i1) (by omega)) ?_)
      conv => whnf
      rw [nI_1]
      refine hX _ (ih (i + 1) _ (by omega) (frH_u hf (i := 649 * j + 2 + i) (by omega) (H.1 54 i)) ⟨?_, ?_, fun m hm => ?_⟩)
      · show upd (H.1 63) (649 * j + 2 + i) (H.1 54 i) (649 * j) = _
        rw [updn (by omega)]; exact hp.1
      · show upd (H.1 63) (649 * j + 2 + i) (H.1 54 i) (649 * j + 1) = _
        rw [updn (by omega)]; exact hp.2.1
      · show upd (H.1 63) (649 * j + 2 + i) (H.1 54 i) (649 * j + 2 + m) = _
        by_cases hmi : m = i
        · subst hmi; rw [updp, e54]
        · rw [updn (by omega)]; exact hp.2.2 m (by omega)
    · exact absurd (show nI i < (7 : Int32) * H.1 52 4 by rw [e]; exact nI_lt (by omega) (by omega)) c
theorem frH_r (j : Nat) (h : ia_H) : frH j h h := ⟨fun _ _ => rfl, fun _ _ => rfl, fun _ _ => rfl, fun _ _ => rfl⟩
theorem m_keeps {h : ia_H} {t : tdT} (hok : tdOk t) (hm : mRep h t) (j : Nat) (hj : j < 22) : V_ 125 [.ref 52, .int (nI j)] h (fun r h' => r = none ∧ hRep h' j t ∧ frH j h h') := by
  obtain ⟨o1, o2, o3, o4, o5⟩ := hok
  obtain ⟨m1, m2, m3, m4⟩ := hm
  have hr : (649 : Int32) * nI j = nI (649 * j) := pk_mul 649 j
  have i0 : (649 : Int32) * nI j + 0 = nI (649 * j) := by rw [hr]; exact Int32.add_zero _
  have i1 : (649 : Int32) * nI j + 1 = nI (649 * j + 1) := ix2 (b := 1) hr
  refine ia_V_in ia_k_X8_keeps [some (.ref 52), some (.int (nI j)), none, none] rfl rfl (Nat.le_of_ble_eq_true rfl) rfl ?_
  refine ia_walk (fun pc => Nat.beq pc 32) 60 (fun X hX => ?_)
  conv => whnf
  refine Exists.intro (649 * j) (And.intro (And.intro (i0) (by omega)) ?_)
  conv => whnf
  refine Exists.intro (649 * j + 1) (And.intro (And.intro (i1) (by omega)) ?_)
  conv => whnf
  have f1 := frH_u (frH_u (frH_r j h) (i := 649 * j) (by omega) (h.1 52 4)) (i := 649 * j + 1) (by omega) (h.1 52 10)
  have lp := l_keeps1 h j (tdG t) hj o2 m1 hr (h.1 52 4) (h.1 52 10) (Z := fun r h' => r = none ∧ hRep h' j t ∧ frH j h h') (fun H a3 hf hp => ?_) (7 * tdG t) 0 _ (by omega) f1 ⟨?_, ?_, fun m hm => absurd hm (Nat.not_lt_zero m)⟩
  · exact hX _ lp
  · refine ia_walk (fun pc => Nat.beq pc 67) 60 (fun X hX => ?_)
    conv => whnf
    refine hX _ (l_keeps2 h j (tdN t) hj o3 m2 (tdO t) (fun s hs => (m4 s hs).2.2.2) hr (fun H => H.1 63 (649 * j) = h.1 52 4 ∧ H.1 63 (649 * j + 1) = h.1 52 10 ∧ ∀ i, i < 7 * tdG t → H.1 63 (649 * j + 2 + i) = h.1 54 i) (fun H K hP hK => ⟨?_, ?_, fun i hi => ?_⟩) (fun H2 hf2 hp2 hs2 => ⟨rfl, ⟨?_, ?_, fun g g1 g2 => ?_, fun s hs => ?_⟩, hf2⟩) (tdN t) 0 H (by omega) hf hp (fun i hi => absurd hi (Nat.not_lt_zero i)))
    · rw [hK _ (by omega)]; exact hP.1
    · rw [hK _ (by omega)]; exact hP.2.1
    · rw [hK _ (by omega)]; exact hP.2.2 i hi
    · rw [hp2.1]; exact m1
    · rw [hp2.2.1]; exact m2
    · obtain ⟨q1, q2⟩ := m3 g g1 g2
      obtain ⟨w1, w2, -⟩ := o4 g g1 g2
      refine ⟨by rw [hp2.2.2 _ (by omega)]; exact q1, fun k hk => by rw [hp2.2.2 _ (by omega)]; exact q2 k hk⟩
    · obtain ⟨q1, q2, q3, q4⟩ := m4 s hs
      obtain ⟨w1, w2, w3, w4⟩ := hs2 s hs
      exact ⟨by rw [w1]; exact q1, by rw [w2]; exact q2, w3, by rw [w4]; exact q3⟩
  · show upd (upd (h.1 63) (649 * j) (h.1 52 4)) (649 * j + 1) (h.1 52 10) (649 * j) = _
    rw [updn (by omega), updp]
  · show upd (upd (h.1 63) (649 * j) (h.1 52 4)) (649 * j + 1) (h.1 52 10) (649 * j + 1) = _
    rw [updp]
