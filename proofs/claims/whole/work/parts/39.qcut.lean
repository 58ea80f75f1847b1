/-! cut, class and reference side by side -/
/-- a heap like another but for what questions use -/
def frS (h H : ia_H) : Prop := (∀ y, y < 29 ∨ (30 ≤ y ∧ y ≤ 33) ∨ (43 ≤ y ∧ y ≤ 65) ∨ 74 ≤ y → H.1 y = h.1 y) ∧ H.2 = h.2
theorem frS_rfl (h : ia_H) : frS h h := ⟨fun _ _ => rfl, rfl⟩
theorem frS_tr {h H K : ia_H} (h1 : frS h H) (h2 : frS H K) : frS h K := ⟨fun y hy => (h2.1 y hy).trans (h1.1 y hy), h2.2.trans h1.2⟩
theorem frS_W {h H : ia_H} (hf : frW h H) : frS h H := ⟨fun y hy => hf.1 y (by omega) (by omega) (by omega) (by omega) (by omega) (by omega), hf.2⟩
theorem frS_M {h H : ia_H} (hf : frM h H) : frS h H := ⟨fun y hy => hf.1 y (by omega) (by omega) (by omega) (by omega), hf.2⟩
theorem frS_I {h : ia_H} {y : Nat} (hy : ¬ (y < 29 ∨ (30 ≤ y ∧ y ≤ 33) ∨ (43 ≤ y ∧ y ≤ 65) ∨ 74 ≤ y)) (f : Nat → Int32) : frS h (hsI h y f) := by
  refine ⟨fun z hz => ?_, rfl⟩
  show (if z = y then f else h.1 z) = h.1 z
  exact if_neg (show ¬ z = y from fun e => hy (e ▸ hz))
/-- what class and reference know of the statements that stand -/
def wOk (h : ia_H) (n G : Nat) (sd : Nat → Bool) (A B : Nat → Nat) : Prop := mdOk h n G sd A B ∧ h.1 4 7 = nI n ∧ h.1 4 6 = nI G ∧ (∀ s, s < n → h.1 7 s = nI (A s) ∧ h.1 8 s = nI (B s) ∧ h.1 26 s = h.1 62 s) ∧ wbOk h (cst sd) (csr A B) (cdt A B) G ∧ (∀ s, s < 120 → sd s = false → h.1 30 (2 * s) = -1) ∧ (∀ s, s < 120 → A s ≠ B s)
theorem wOk_fr {h H : ia_H} {n G : Nat} {sd : Nat → Bool} {A B : Nat → Nat} (hw : wOk h n G sd A B) (hf : frS h H) : wOk H n G sd A B := by
  obtain ⟨⟨a1, a2, a3, a4, a5, a6⟩, b, c, d, ⟨e1, e2, e3⟩, f, g⟩ := hw
  have x := hf.1
  refine ⟨⟨a1, a2, ?_, ?_, fun s hs => ?_, a6⟩, ?_, ?_, fun s hs => ?_, ⟨fun w h1 h2 => ?_, fun j hj => ?_, ?_⟩, fun s h1 h2 => ?_, g⟩
  · rw [x 52 (by omega)]; exact a3
  · rw [x 52 (by omega)]; exact a4
  · rw [x 56 (by omega), x 57 (by omega), x 62 (by omega)]; exact a5 s hs
  · rw [x 4 (by omega)]; exact b
  · rw [x 4 (by omega)]; exact c
  · rw [x 7 (by omega), x 8 (by omega), x 26 (by omega), x 62 (by omega)]; exact d s hs
  · rw [x 30 (by omega)]; exact e1 w h1 h2
  · rw [x 32 (by omega)]; exact e2 j hj
  · rw [x 31 (by omega)]; exact e3
  · rw [x 30 (by omega)]; exact f s h1 h2
/-- two questions that get one answer -/
abbrev P_ (a : Nat) (as : List Value) (b : Nat) (bs : List Value) (h : ia_H) : Prop := V_ a as h (fun r h1 => frS h h1 ∧ V_ b bs h1 (fun r2 h2 => r2 = r ∧ frS h h2))
theorem P_of {a : Nat} {as : List Value} {b : Nat} {bs : List Value} {h : ia_H} {v : Value} (h1 : V_ a as h (Z_ v h)) (h2 : V_ b bs h (Z_ v h)) : P_ a as b bs h := by
  obtain ⟨r, k, e, e1, e2⟩ := h1
  obtain ⟨r', k', e', e1', e2'⟩ := h2
  subst e1 e2 e1' e2'
  exact ⟨_, _, e, frS_rfl _, _, _, e', rfl, frS_rfl _⟩
theorem v_cut0 (h : ia_H) (n : Nat) (hn : n ≤ 120) (en : h.1 4 7 = nI n) (x kk : Int32) (hb : bad x n ∨ (∃ j, j < n ∧ x = nI j ∧ ¬ h.1 26 j = 2) ∨ kk < -1) : V_ 82 [.ref 0, .int x, .int kk] h (Z_ (.int (-1)) h) := by
  rcases bad_or x (show n < 2 ^ 31 by omega) with hb1 | ⟨j, hj, rfl⟩
  · refine ia_V_in ia_k_X7_cut [some (.ref 0), some (.int x), some (.int kk), none] rfl rfl (Nat.le_of_ble_eq_true rfl) rfl ?_
    refine ia_walk (fun _ => false) 50 (fun X hX => ?_)
    conv => whnf
    refine Exists.intro (_, _) (And.intro (ia_callE (v_isSt0 en hb1)) ?_)
    conv => whnf
    refine And.intro (fun c => ?_) (fun c => ?_)
    · conv => whnf
      exact ⟨rfl, rfl⟩
    · exact absurd rfl c
  · have hb2 : ¬ h.1 26 j = 2 ∨ kk < -1 := by
      rcases hb with q | ⟨i, hi, ei, q⟩ | q
      · rcases q with q | q
        · exact absurd q (nI_pos (by omega))
        · exact absurd (nI_lt hj (by omega)) (Int32.not_lt.mpr q)
      · rw [nI_inj (by omega) (by omega) ei]; exact Or.inl q
      · exact Or.inr q
    refine ia_V_in ia_k_X7_cut [some (.ref 0), some (.int (nI j)), some (.int kk), none] rfl rfl (Nat.le_of_ble_eq_true rfl) rfl ?_
    refine ia_walk (fun pc => Nat.beq pc 28) 50 (fun X hX => ?_)
    conv => whnf
    refine Exists.intro (_, _) (And.intro (ia_callE (v_isSt1 en (by omega) hj)) ?_)
    conv => whnf
    refine And.intro (fun c => ?_) (fun c => ?_)
    · exact absurd (show (1 : Int32) = 0 from c) (by decide)
    · conv => whnf
      refine Exists.intro _ (And.intro (And.intro rfl (by omega)) ?_)
      conv => whnf
      refine And.intro (fun c2 => ?_) (fun c2 => ?_)
      · conv => whnf
        refine And.intro (fun c3 => ?_) (fun c3 => ?_)
        · conv => whnf
          exact ⟨rfl, rfl⟩
        · exact absurd hb2 (fun q => q.elim (fun z => z c2) c3)
      · conv => whnf
        exact ⟨rfl, rfl⟩
/-- what the class answers of its row -/
theorem k_or {kk : Int32} (hkk : ¬ kk < -1) {l : Nat} (hl : l < 2 ^ 31) : kk = -1 ∨ (¬ kk = -1 ∧ nI l ≤ kk) ∨ ∃ j, j < l ∧ kk = nI j := by
  rcases pk_ix kk hl with q | q | q
  · refine Or.inl ?_
    have h1 := Int32.lt_iff_toInt_lt.mp q
    have h2 := mt Int32.lt_iff_toInt_lt.mpr hkk
    refine Int32.toInt_inj.mp ?_
    have e0 : (0 : Int32).toInt = 0 := by decide
    have e1 : (-1 : Int32).toInt = -1 := by decide
    rw [e0] at h1
    rw [e1] at h2
    rw [e1]
    omega
  · refine Or.inr (Or.inl ⟨fun e => ?_, q⟩)
    have h1 := nI_pos hl
    have h2 := Int32.le_iff_toInt_le.mp q
    have h3 := mt Int32.lt_iff_toInt_lt.mpr h1
    rw [e] at h2
    have e0 : (0 : Int32).toInt = 0 := by decide
    have e1 : (-1 : Int32).toInt = -1 := by decide
    rw [e0] at h3
    rw [e1] at h2
    omega
  · exact Or.inr (Or.inr q)
theorem v_cut1 (h : ia_H) (n G : Nat) (sd : Nat → Bool) (A B : Nat → Nat) (hw : wOk h n G sd A B) (x : Nat) (hx : x < n) (hk : h.1 26 x = 2) (kk : Int32) (hkk : ¬ kk < -1) (N : Nat) (hN : N ≤ 119) (n2 : ∀ j, j < N → B x ∈ (cuS sd A B (A x) (cuQ sd A B (A x) (B x) j)).1) (n1 : ¬ B x ∈ (cuS sd A B (A x) (cuQ sd A B (A x) (B x) N)).1) : V_ 82 [.ref 0, .int (nI x), .int kk] h (fun r h' => ∃ v, r = some (.int v) ∧ frW h h' ∧ lsA (sel (cuP sd A B (cuS sd A B (A x) (cuQ sd A B (A x) (B x) N)).1) n) kk v) := by
  obtain ⟨hd, en, eG, hst, hwb, hL, hab⟩ := hw
  have hn := hd.1
  obtain ⟨-, x2, -, x4, -, -⟩ := hd.2.2.2.2.1 x hx
  obtain ⟨e7, e8, -⟩ := hst x hx
  obtain ⟨r', h2, ev, w1, w2, w3⟩ := v_findCut h n G hn hd.2.1 sd A B hd.2.2.2.2.2 hwb hL (A x) (B x) N x2 x4 hN n2 n1
  have es : sel (cuP sd A B (cuS sd A B (A x) (cuQ sd A B (A x) (B x) N)).1) 120 = sel (cuP sd A B (cuS sd A B (A x) (cuQ sd A B (A x) (B x) N)).1) n := sel_stop hn (fun k h1 _ => by unfold cuP; rw [hd.2.2.2.2.2 k h1]; rfl)
  rw [es] at w1 w3
  have hl := sel_len (cuP sd A B (cuS sd A B (A x) (cuQ sd A B (A x) (B x) N)).1) n
  generalize sel (cuP sd A B (cuS sd A B (A x) (cuQ sd A B (A x) (B x) N)).1) n = l at w1 w3 hl ⊢
  subst w1
  rw [← e7, ← e8] at ev
  refine ia_V_in ia_k_X7_cut [some (.ref 0), some (.int (nI x)), some (.int kk), none] rfl rfl (Nat.le_of_ble_eq_true rfl) rfl ?_
  refine ia_walk (fun _ => false) 60 (fun X hX => ?_)
  conv => whnf
  refine Exists.intro (_, _) (And.intro (ia_callE (v_isSt1 en (by omega) hx)) ?_)
  conv => whnf
  refine And.intro (fun c => ?_) (fun c => ?_)
  · exact absurd (show (1 : Int32) = 0 from c) (by decide)
  · conv => whnf
    refine Exists.intro _ (And.intro (And.intro rfl (by omega)) ?_)
    conv => whnf
    refine And.intro (fun c2 => ?_) (fun c2 => ?_)
    · conv => whnf
      refine And.intro (fun c3 => ?_) (fun c3 => ?_)
      · exact absurd c3 hkk
      · conv => whnf
        refine Exists.intro _ (And.intro (And.intro rfl (by omega)) ?_)
        conv => whnf
        refine Exists.intro _ (And.intro (And.intro rfl (by omega)) ?_)
        conv => whnf
        refine Exists.intro (_, _) (And.intro ev ?_)
        rcases k_or hkk (show l.length < 2 ^ 31 by omega) with q | ⟨q0, q⟩ | ⟨j, hj, rfl⟩
        · subst q
          conv => whnf
          refine And.intro (fun c4 => ?_) (fun c4 => ?_)
          · conv => whnf
            refine And.intro (fun c5 => ?_) (fun c5 => ?_)
            · conv => whnf
              exact ⟨_, rfl, w2, Or.inr ⟨fun j hj e => absurd e.symm (nI_nm1 (by omega)), rfl⟩⟩
            · exact absurd rfl c5
          · exact absurd (show (-1 : Int32) < nI l.length from Int32.lt_of_lt_of_le (by decide) (Int32.not_lt.mp (nI_pos (by omega)))) c4
        · conv => whnf
          refine And.intro (fun c4 => ?_) (fun c4 => ?_)
          · exact absurd c4 (Int32.not_lt.mpr q)
          · conv => whnf
            exact ⟨_, rfl, w2, Or.inr ⟨fun j hj e => absurd (show kk < nI l.length by rw [e]; exact nI_lt hj (by omega)) (Int32.not_lt.mpr q), (if_neg q0).symm⟩⟩
        · conv => whnf
          refine And.intro (fun c4 => ?_) (fun c4 => ?_)
          · conv => whnf
            refine And.intro (fun c5 => ?_) (fun c5 => ?_)
            · exact absurd c5 (nI_nm1 (by omega))
            · conv => whnf
              refine Exists.intro _ (And.intro (And.intro rfl (by omega)) ?_)
              conv => whnf
              exact ⟨_, rfl, w2, Or.inl ⟨j, hj, rfl, w3 j hj⟩⟩
          · exact absurd (nI_lt hj (by omega)) c4
    · exact absurd hk c2
theorem q_cut {h : ia_H} {n G : Nat} {sd : Nat → Bool} {A B : Nat → Nat} (hw : wOk h n G sd A B) (x kk : Int32) : P_ 82 [.ref 0, .int x, .int kk] 158 [.ref 52, .int x, .int kk] h := by
  have hn := hw.1.1
  have e1 := hw.2.1
  have e2 := hw.1.2.2.1
  rcases bad_or x (show n < 2 ^ 31 by omega) with hb | ⟨j, hj, rfl⟩
  · exact P_of (v_cut0 h n hn e1 x kk (Or.inl hb)) (m_cut0 h n hn e2 x kk (Or.inl hb))
  · obtain ⟨-, -, ek⟩ := hw.2.2.2.1 j hj
    by_cases hk : h.1 26 j = 2
    · by_cases hkk : kk < -1
      · exact P_of (v_cut0 h n hn e1 _ kk (Or.inr (Or.inr hkk))) (m_cut0 h n hn e2 _ kk (Or.inr (Or.inr hkk)))
      · obtain ⟨-, x2, -, x4, -, x6⟩ := hw.1.2.2.2.2.1 j hj
        have hs0 : sd j = false := by rw [x6, ← ek, hk]; rfl
        have hdt : ∀ w, w < 240 → cst sd w = true → cdt A B w < G := fun w h1 h2 => (md_dt hw.1 w h1 h2).1
        obtain ⟨N, hN, n2, n1⟩ := cu_end (o := B j) hw.1.2.1 hdt x2 (fun e => hw.2.2.2.2.2.2 j (by omega) e.symm) hw.2.2.2.2.2.2 (show j < 120 by omega) hs0
        obtain ⟨r, h1, ev, v, z1, z2, z3⟩ := v_cut1 h n G sd A B hw j hj hk kk hkk N hN n2 n1
        have hw1 := wOk_fr hw (frS_W z2)
        obtain ⟨r', h2, ev', v', y1, y2, y3⟩ := m_cut1 h1 n G sd A B hw1.1 j hj (by rw [← (hw1.2.2.2.1 j hj).2.2, (frS_W z2).1 26 (by omega)]; exact hk) kk hkk N n2 n1
        refine ⟨r, h1, ev, frS_W z2, r', h2, ev', ?_, frS_tr (frS_W z2) (frS_M y2)⟩
        have hl := sel_len (cuP sd A B (cuS sd A B (A j) (cuQ sd A B (A j) (B j) N)).1) n
        rw [y1, z1, lsA_eq (by omega) y3 z3]
    · have hk2 : ¬ h.1 62 j = 2 := by rw [← ek]; exact hk
      exact P_of (v_cut0 h n hn e1 _ kk (Or.inr (Or.inl ⟨j, hj, rfl, hk⟩))) (m_cut0 h n hn e2 _ kk (Or.inr (Or.inl ⟨j, hj, rfl, hk2⟩)))
