/-! spreads whole -/
theorem md_dt {h : ia_H} {n G : Nat} {sd : Nat → Bool} {A B : Nat → Nat} (hd : mdOk h n G sd A B) : ∀ w, w < 240 → cst sd w = true → cdt A B w < G ∧ csr A B w < G ∧ w / 2 < n := by
  obtain ⟨hn, hG, eN, eG, hS, hsd⟩ := hd
  intro w hw hs
  have h1 : w / 2 < n := by
    rcases Nat.lt_or_ge (w / 2) n with q | q
    · exact q
    · have : sd (w / 2) = true := hs
      rw [hsd _ q] at this; cases this
  obtain ⟨-, q2, -, q4, -⟩ := hS _ h1
  refine ⟨?_, ?_, h1⟩
  · unfold cdt
    split
    · exact q4
    · exact q2
  · unfold csr
    split
    · exact q2
    · exact q4
theorem l_spr2 (h : ia_H) (n G : Nat) (sd : Nat → Bool) (A B : Nat → Nat) (hd : mdOk h n G sd A B) (e0 : Int32) {Z : Option Value → ia_H → Prop} : ∀ (k i : Nat) (S : bsT), 41 < i + k → i ≤ S.1.length → bsOk G S → (∀ I Q C, irOk G I (bsR (cst sd) (csr A B) (cdt A B) (rmF (h.1 72)) k i S).1 → rwOk Q (bsR (cst sd) (csr A B) (cdt A B) (rmF (h.1 72)) k i S).1 → cbOk C (bsR (cst sd) (csr A B) (cdt A B) (rmF (h.1 72)) k i S).2.2 (bsR (cst sd) (csr A B) (cdt A B) (rmF (h.1 72)) k i S).1 → Z none (hC h I Q C)) → ∀ (I Q C : Nat → Int32) (a4 a5 : Option Value), irOk G I S.1 → rwOk Q S.1 → cbOk C S.2.2 S.1 → R_ ia_k_X8_spreads Z (41, [some (.ref 52), some (.int e0), some (.int (nI S.1.length)), some (.int (nI i)), a4, a5], [], hC h I Q C) := by
  have hG := hd.2.1
  have hdt := fun w h1 h2 => (md_dt hd w h1 h2).1
  intro k
  induction k with
  | zero =>
    intro i S hk hi hok
    have := bsOk_len hok
    omega
  | succ k ih =>
    intro i S hk hi hok hZ I Q C a4 a5 hI hQ hC0
    have lenS := bsOk_len hok
    have hn := hd.1
    by_cases hlt : i < S.1.length
    · have ha : S.1[i] ∈ S.1 := List.getElem_mem hlt
      rw [bsR, dif_pos hlt] at hZ
      obtain ⟨a, hae⟩ : ∃ a, S.1[i] = a := ⟨_, rfl⟩
      rw [hae] at ha hZ
      obtain ⟨ok2, -⟩ := bsW_ok (st := cst sd) (sr := csr A B) (rm := rmF (h.1 72)) hdt hok ha 240 (Nat.le_refl _)
      refine ia_walk (fun pc => Nat.beq pc 49) 80 (fun X hX => ?_)
      conv => whnf
      refine And.intro (fun c => ?_) (fun c => ?_)
      · have l1 := l_spr1 h n G sd A B hd e0 i a S hok hlt hae (Z := Z) (fun I2 Q2 C2 b4 b5 hI2 hQ2 hC2 => by
          refine ia_walk (fun pc => Nat.beq pc 41) 50 (fun X hX => ?_)
          conv => whnf
          rw [nI_1]
          exact hX _ (ih (i + 1) _ (by omega) (Nat.le_trans (by omega) (bsW_len 240)) ok2 hZ I2 Q2 C2 _ _ hI2 hQ2 hC2)) n 0 (by omega) S rfl I Q C a5 hI hQ hC0
        conv => whnf
        exact hX _ (l1)
      · exact absurd (nI_lt hlt (by omega)) c
    · rw [bsR, dif_neg hlt] at hZ
      refine ia_walk (fun pc => Nat.beq pc 41) 80 (fun X hX => ?_)
      conv => whnf
      refine And.intro (fun c => ?_) (fun c => ?_)
      · exact absurd c (nI_nlt (by omega) (by omega))
      · conv => whnf
        exact hZ I Q C hI hQ hC0
theorem l_spr0 (h : ia_H) (G : Nat) (hG : G ≤ 41) (eG : h.1 52 4 = nI G) (e : Int32) {Z : Option Value → ia_H → Prop} (hN : ∀ w : Option Value, R_ ia_k_X8_spreads Z (23, [some (.ref 52), some (.int e), w, none, none, none], [], hsI h 66 (flF (h.1 66) G 0))) : ∀ k g : Nat, g + k = G → R_ ia_k_X8_spreads Z (2, [some (.ref 52), some (.int e), some (.int (nI g)), none, none, none], [], hsI h 66 (flF (h.1 66) g 0)) := by
  intro k
  induction k with
  | zero =>
    intro g hg
    have eg : g = G := by omega
    subst eg
    refine ia_walk (fun pc => Nat.beq pc 23) 50 (fun X hX => ?_)
    conv => whnf
    refine And.intro (fun c => ?_) (fun c => ?_)
    · exact absurd (show nI g < h.1 52 4 from c) (by rw [eG]; exact nI_nlt (Nat.le_refl g) (by omega))
    · conv => whnf
      exact hX _ (hN _)
  | succ k ih =>
    intro g hg
    refine ia_walk (fun pc => Nat.beq pc 2) 50 (fun X hX => ?_)
    conv => whnf
    refine And.intro (fun c => ?_) (fun c => ?_)
    · conv => whnf
      refine Exists.intro _ (And.intro (And.intro rfl (by omega)) ?_)
      conv => whnf
      rw [nI_1]
      have e : hsI (hsI h 66 (flF (h.1 66) g 0)) 66 (upd (flF (h.1 66) g 0) g (vp_nar .boolean 0)) = hsI h 66 (flF (h.1 66) (g + 1) 0) := by rw [nar0, hsI_same, flF_s]
      exact hX _ (e ▸ ih (g + 1) (by omega) : ia_Run _ _ _ _ (2, _, _, hsI (hsI h 66 (flF (h.1 66) g 0)) 66 (upd (flF (h.1 66) g 0) g (vp_nar .boolean 0))))
    · exact absurd (show nI g < h.1 52 4 by rw [eG]; exact nI_lt (by omega) (by omega)) c
theorem v_spreads (h : ia_H) (n G : Nat) (sd : Nat → Bool) (A B : Nat → Nat) (hd : mdOk h n G sd A B) (e : Nat) (he : e < G) : V_ 155 [.ref 52, .int (nI e)] h (fun r h' => r = none ∧ ∃ I Q C, irOk G I (bsF (cst sd) (csr A B) (cdt A B) (rmF (h.1 72)) e bs0).1 ∧ cbOk C (bsF (cst sd) (csr A B) (cdt A B) (rmF (h.1 72)) e bs0).2.2 (bsF (cst sd) (csr A B) (cdt A B) (rmF (h.1 72)) e bs0).1 ∧ h' = hC h I Q C) := by
  have hG := hd.2.1
  have eG := hd.2.2.2.1
  refine ia_V_in ia_k_X8_spreads [some (.ref 52), some (.int (nI e)), none, none, none, none] rfl rfl (Nat.le_of_ble_eq_true rfl) rfl ?_
  refine ia_walk (fun pc => Nat.beq pc 2) 50 (fun X hX => ?_)
  conv => whnf
  have l0 := l_spr0 h G hG eG (nI e) (Z := fun r h' => r = none ∧ ∃ I Q C, irOk G I (bsF (cst sd) (csr A B) (cdt A B) (rmF (h.1 72)) e bs0).1 ∧ cbOk C (bsF (cst sd) (csr A B) (cdt A B) (rmF (h.1 72)) e bs0).2.2 (bsF (cst sd) (csr A B) (cdt A B) (rmF (h.1 72)) e bs0).1 ∧ h' = hC h I Q C) (fun w => by
    refine ia_walk (fun pc => Nat.beq pc 41) 50 (fun X hX => ?_)
    conv => whnf
    refine Exists.intro _ (And.intro (And.intro rfl (by omega)) ?_)
    conv => whnf
    refine Exists.intro (0) (And.intro (And.intro (rfl) (by omega)) ?_)
    conv => whnf
    have l2 := l_spr2 h n G sd A B hd (nI e) (Z := fun r h' => r = none ∧ ∃ I Q C, irOk G I (bsF (cst sd) (csr A B) (cdt A B) (rmF (h.1 72)) e bs0).1 ∧ cbOk C (bsF (cst sd) (csr A B) (cdt A B) (rmF (h.1 72)) e bs0).2.2 (bsF (cst sd) (csr A B) (cdt A B) (rmF (h.1 72)) e bs0).1 ∧ h' = hC h I Q C) 42 0 (bsP e bs0) (by omega) (by omega) (bsP_ok (bs0_ok G) he (by simp [bs0])) (fun I Q C h1 h2 h3 => ⟨rfl, I, Q, C, h1, h3, rfl⟩) (upd (flF (h.1 66) G 0) e 1) (upd (h.1 67) 0 (nI e)) (h.1 73) none none (irOk_put (I := flF (h.1 66) G 0) (q := []) (fun g hg => ⟨fun z => absurd z List.not_mem_nil, fun _ => if_pos hg⟩) e) (rwOk_put (R := h.1 67) (q := []) (fun i hi => absurd hi (Nat.not_lt_zero i)) e) (fun g hg v hv q => by
      have hge : g = e := List.mem_singleton.mp hg
      subst hge
      exact absurd ((show upd bs0.2.2 g (-1) g = -1 from if_pos rfl).symm.trans q) (fun z => nI_nm1 (by omega) z.symm))
    have e5 : hsI (hsI (hsI h 66 (flF (h.1 66) G 0)) 66 (upd (flF (h.1 66) G 0) e (vp_nar .boolean 1))) 67 (upd (h.1 67) 0 (nI e)) = hC h (upd (flF (h.1 66) G 0) e 1) (upd (h.1 67) 0 (nI e)) (h.1 73) := by
      rw [nar1, hsI_same]
      exact (hsI_eta (hsI (hsI h 66 (upd (flF (h.1 66) G 0) e 1)) 67 (upd (h.1 67) 0 (nI e))) 73).symm
    exact hX _ (e5 ▸ l2 : ia_Run _ _ _ _ (41, _, _, hsI (hsI (hsI h 66 (flF (h.1 66) G 0)) 66 (upd (flF (h.1 66) G 0) e (vp_nar .boolean 1))) 67 (upd (h.1 67) 0 (nI e))))) G 0 (by omega)
  rw [flF_0, hsI_eta] at l0
  exact hX _ l0
