def ct_kX8 : List (List ia_E) := [[], [], [], [], [], [], [], [], [], [], [], [], [(202, .aload_n 0, 1, 0, 0, 0, .null, []), (203, .invokevirtual 88, 3, 117, 0, 602, .ref 8, []), (206, .iconst 0, 1, 0, 0, 0, .int 0, []), (207, .istore_n 1, 1, 0, 0, 0, .null, [])], [(208, .iload_n 1, 1, 0, 0, 0, .null, []), (209, .iconst 2, 1, 0, 0, 0, .int 2, []), (210, .if_icmp .ge 16, 3, 226, 0, 0, .null, []), (213, .aload_n 0, 1, 0, 0, 0, .null, []), (214, .getfield 78, 3, 8, 31, 643, .null, []), (217, .iload_n 1, 1, 0, 0, 0, .null, []), (218, .iconst (-1), 1, 0, 0, 0, .int (-1), []), (219, .iastore, 1, 0, 0, 0, .null, []), (220, .iinc 1 1, 3, 0, 0, 0, .int 1, []), (223, .goto (-15), 3, 208, 0, 0, .null, [])], [(226, .iconst 0, 1, 0, 0, 0, .int 0, []), (227, .istore_n 1, 1, 0, 0, 0, .null, []), (228, .iload_n 1, 1, 0, 0, 0, .null, []), (229, .bipush 8, 2, 0, 0, 0, .int 8, []), (231, .if_icmp .ge 17, 3, 248, 0, 0, .null, []), (234, .aload_n 0, 1, 0, 0, 0, .null, []), (235, .getfield 81, 3, 8, 32, 644, .null, []), (238, .iload_n 1, 1, 0, 0, 0, .null, []), (239, .bipush (-2), 2, 0, 0, 0, .int (-2), [])], [(241, .iastore, 1, 0, 0, 0, .null, []), (242, .iinc 1 1, 3, 0, 0, 0, .int 1, []), (245, .goto (-17), 3, 228, 0, 0, .null, [])]]
def ct_mX8 : ia_M := ("OffsetBookModel", ⟨"OffsetBookModel", "<init>", "()V"⟩, prog_10_method_1_code, 2, none, 0, ct_kX8, (0, 0, 0, 0), (2, 54))
theorem ct_okX8 : ∀ ch ∈ ct_mX8.2.2.2.2.2.2.1, ∀ e ∈ ch, ia_okE ia_Ts ia_Ns ia_cl ia_MT ct_mX8 e = true ∧ lw_nr e = true := ct_okk_of (by decide +kernel)
def ct_hX8 : ia_H := (fun x j => bif Nat.beq x 0 then (bif Nat.beq j 4 then 1 else 0) else 0, fun _ _ => 0)
def ct_h8 : ia_H := (ct_cut 52 ct_eX7.1 ct_hX8.1, ct_cut 52 ct_eX7.2 ct_hX8.2)
def t00 : tdT := (1, 0, fun _ => 0, fun _ _ => 0, fun _ => 0, fun _ => 0, fun _ => 0, fun _ => false)
theorem t00_ok : tdOk t00 := ⟨Nat.le_refl 1, Nat.le_of_ble_eq_true rfl, Nat.zero_le _, fun g h1 h2 => absurd h2 (by show ¬ g < 1; omega), fun s hs => absurd hs (Nat.not_lt_zero s)⟩
theorem m00 : mRep ct_h8 t00 := ⟨rfl, rfl, fun g h1 h2 => absurd h2 (by show ¬ g < 1; omega), fun s hs => absurd hs (Nat.not_lt_zero s)⟩
/-- OffsetBookModel(): the rest -/
theorem ct_lX8a {X : ia_S → Prop} (hX : ct_cl ia_Sh ct_kX8 X) (h : ia_H) (hE : X (226, [some (.ref 52), some (.int 2)], [], hsI h 74 (flF (h.1 74) 2 (-1)))) : ∀ k i : Nat, i + k = 2 → X (208, [some (.ref 52), some (.int (nI i))], [], hsI h 74 (flF (h.1 74) i (-1))) := by
  intro k
  induction k with
  | zero =>
    intro i hi
    rw [show i = 2 by omega]
    refine lw_wp_run hX (fun pc => Nat.beq pc 208 || Nat.beq pc 226) 20 ?_
    conv => whnf
    refine And.intro (fun c => ?_) (fun c => ?_)
    · exact absurd c (by decide)
    · conv => whnf
      exact hE
  | succ k ih =>
    intro i hi
    refine lw_wp_run hX (fun pc => Nat.beq pc 208 || Nat.beq pc 226) 20 ?_
    conv => whnf
    refine And.intro (fun c => ?_) (fun c => ?_)
    · conv => whnf
      refine Exists.intro _ (And.intro (And.intro rfl (by omega)) ?_)
      conv => whnf
      have e : hsI (hsI h 74 (flF (h.1 74) i (-1))) 74 (upd (flF (h.1 74) i (-1)) i (-1)) = hsI h 74 (flF (h.1 74) (i + 1) (-1)) := by rw [hsI_same, flF_s]
      have e1 : nI i + 1 = nI (i + 1) := nI_1 i
      show X (208, [some (.ref 52), some (.int (nI i + 1))], [], hsI (hsI h 74 (flF (h.1 74) i (-1))) 74 (upd (flF (h.1 74) i (-1)) i (-1)))
      rw [e, e1]
      exact ih (i + 1) (by omega)
    · exact absurd (show nI i < 2 from nI_lt (b := 2) (by omega) (by omega)) c
theorem ct_lX8b {X : ia_S → Prop} (hX : ct_cl ia_Sh ct_kX8 X) (h : ia_H) (hE : ∀ ls, X (248, ls, [], hsI h 75 (flF (h.1 75) 8 (-2)))) : ∀ k i : Nat, i + k = 8 → X (228, [some (.ref 52), some (.int (nI i))], [], hsI h 75 (flF (h.1 75) i (-2))) := by
  intro k
  induction k with
  | zero =>
    intro i hi
    rw [show i = 8 by omega]
    refine lw_wp_run hX (fun pc => Nat.beq pc 228 || Nat.beq pc 248) 20 ?_
    conv => whnf
    refine And.intro (fun c => ?_) (fun c => ?_)
    · exact absurd c (by decide)
    · conv => whnf
      exact hE _
  | succ k ih =>
    intro i hi
    refine lw_wp_run hX (fun pc => Nat.beq pc 228 || Nat.beq pc 248) 20 ?_
    conv => whnf
    refine And.intro (fun c => ?_) (fun c => ?_)
    · conv => whnf
      refine Exists.intro _ (And.intro (And.intro rfl (by omega)) ?_)
      conv => whnf
      have e : hsI (hsI h 75 (flF (h.1 75) i (-2))) 75 (upd (flF (h.1 75) i (-2)) i (-2)) = hsI h 75 (flF (h.1 75) (i + 1) (-2)) := by rw [hsI_same, flF_s]
      have e1 : nI i + 1 = nI (i + 1) := nI_1 i
      show X (228, [some (.ref 52), some (.int (nI i + 1))], [], hsI (hsI h 75 (flF (h.1 75) i (-2))) 75 (upd (flF (h.1 75) i (-2)) i (-2)))
      rw [e, e1]
      exact ih (i + 1) (by omega)
    · exact absurd (show nI i < 8 from nI_lt (b := 8) (by omega) (by omega)) c
def ct_f8 (h : ia_H) : ia_H := hsI (hsI h 74 (flF (h.1 74) 2 (-1))) 75 (flF (h.1 75) 8 (-2))
theorem ct_wX8 {X : ia_S → Prop} (hX : ct_cl ia_Sh ct_kX8 X) (hE : ∀ ls h1, frN ct_h8 h1 → mJ h1 t00 → X (248, ls, [], ct_f8 h1)) : X (202, [some (.ref 52), none], [], ct_h8) := by
  obtain ⟨r, h1, e1, rfl, hf, hm⟩ := m_anew t00_ok m00
  refine lw_wp_run hX (fun pc => Nat.beq pc 208) 20 ?_
  conv => whnf
  refine ⟨(none, h1), e1, ?_⟩
  conv => whnf
  have l2 := ct_lX8b hX (hsI h1 74 (flF (h1.1 74) 2 (-1))) (fun ls => hE ls h1 hf hm) 8 0 rfl
  rw [flF_0, hsI_eta] at l2
  have l1 := ct_lX8a hX h1 (by
    refine lw_wp_run hX (fun pc => Nat.beq pc 228) 20 ?_
    conv => whnf
    exact l2) 2 0 rfl
  rw [flF_0, hsI_eta] at l1
  exact l1
theorem ct_ff {f : Nat → Bool} (h : ∀ w, f w = false) : ∀ n, ct f n = 0
  | 0 => rfl
  | n + 1 => by
    unfold ct
    simp [h, ct_ff h n]
theorem wcn_ff {st : Nat → Bool} {sr : Nat → Nat} (h : ∀ w, st w = false) (g n : Nat) : wcn st sr g n = 0 := by
  unfold wcn
  exact ct_ff (fun w => by simp [h]) n
theorem wsm_ff {st : Nat → Bool} {sr : Nat → Nat} (h : ∀ w, st w = false) : ∀ j, wsm st sr j = 0
  | 0 => rfl
  | j + 1 => by
    rw [wsm, wsm_ff h j, wcn_ff h]
/-- behind both constructors -/
theorem ct_J {h1 : ia_H} (hf : frN ct_h8 h1) (hm : mJ h1 t00) : Jx (ct_f8 h1) := by
  have f1 : ∀ y, y ≠ 60 → y ≠ 62 → y ≠ 74 → y ≠ 75 → (ct_f8 h1).1 y = ct_h8.1 y := fun y n1 n2 n3 n4 => by
    show (if y = 75 then _ else if y = 74 then _ else h1.1 y) = _
    rw [if_neg n4, if_neg n3]
    exact hf.1 y n1 n2
  have f2 : ∀ y, y ≠ 61 → (ct_f8 h1).2 y = ct_h8.2 y := fun y n1 => hf.2 y n1
  have hc : cRep (ct_f8 h1) 4 t00 := by
    refine ⟨?_, ?_, ?_, fun g h1 h2 => absurd h2 (by show ¬ g < 1; omega), fun s hs => absurd hs (Nat.not_lt_zero s)⟩
    · rw [f1 4 (by decide) (by decide) (by decide) (by decide)]; rfl
    · rw [f1 4 (by decide) (by decide) (by decide) (by decide)]; rfl
    · rw [f1 (4 + 2) (by decide) (by decide) (by decide) (by decide)]; rfl
  have hmr : mRep (ct_f8 h1) t00 := by
    refine ⟨?_, ?_, fun g h1 h2 => absurd h2 (by show ¬ g < 1; omega), fun s hs => absurd hs (Nat.not_lt_zero s)⟩
    · rw [f1 52 (by decide) (by decide) (by decide) (by decide)]; rfl
    · rw [f1 52 (by decide) (by decide) (by decide) (by decide)]; rfl
  have hmj : mJ (ct_f8 h1) t00 := hm
  have hsd : ∀ V s, sdV V (tdN t00) s = false := fun V s => by
    unfold sdV
    rw [show decide (s < tdN t00) = false from decide_eq_false (Nat.not_lt_zero s)]
    rfl
  have hcs : ∀ V w, cst (sdV V (tdN t00)) w = false := fun V w => hsd V _
  have hcj : cJ (ct_f8 h1) t00 := by
    refine ⟨⟨fun _ => 0, fun _ => 0, (ct_f8 h1).1 26, ?_, ?_, rfl⟩, ⟨fun w _ hs => absurd hs (by rw [hcs]; decide), fun j hj => ?_, fun v _ hs => absurd hs (by rw [hcs]; decide)⟩, fun s hs _ => ?_⟩
    · rw [f1 27 (by decide) (by decide) (by decide) (by decide)]; rfl
    · rw [f2 28 (by decide)]
      funext j
      show (0 : Int64) = if j < 41 then 0 else 0
      split <;> rfl
    · rw [f1 32 (by decide) (by decide) (by decide) (by decide), wsm_ff (hcs _)]; rfl
    · rw [f1 30 (by decide) (by decide) (by decide) (by decide)]
      show (if 2 * s < 240 then (-1 : Int32) else _) = -1
      rw [if_pos (by omega)]
  refine ⟨⟨fun _ => t00, 0, 0, t00_ok, hc, hmr, dv_of t00_ok hc hmr hcj hmj, ⟨Nat.zero_le _, Nat.le_of_ble_eq_true rfl, ?_, ?_, fun k hk => absurd hk (Nat.not_lt_zero k)⟩, ⟨Nat.zero_le _, ?_, fun k hk => absurd hk (Nat.not_lt_zero k)⟩, fun j hj => ?_, Or.inl ⟨?_, ?_⟩, Or.inl ⟨?_, ?_⟩⟩, ⟨0, Nat.zero_le _, ?_, ?_, fun j hj => absurd hj (Nat.not_lt_zero j)⟩, fun i hi => ?_, fun i hi => ?_⟩
  · rw [f1 43 (by decide) (by decide) (by decide) (by decide)]; rfl
  · rw [f1 43 (by decide) (by decide) (by decide) (by decide)]; rfl
  · rw [f1 52 (by decide) (by decide) (by decide) (by decide)]; rfl
  · rw [f1 (4 + 1) (by decide) (by decide) (by decide) (by decide)]
    show byR 0
    exact ⟨by decide, by decide⟩
  · rw [f1 51 (by decide) (by decide) (by decide) (by decide)]; rfl
  · rw [f1 65 (by decide) (by decide) (by decide) (by decide)]; rfl
  · rw [f1 51 (by decide) (by decide) (by decide) (by decide)]; rfl
  · rw [f1 65 (by decide) (by decide) (by decide) (by decide)]; rfl
  · rw [f1 2 (by decide) (by decide) (by decide) (by decide)]; rfl
  · rw [f1 52 (by decide) (by decide) (by decide) (by decide)]; rfl
  · rw [f1 48 (by decide) (by decide) (by decide) (by decide)]
    show (if i < 8 then (-2 : Int32) else _) = if i < 8 then (-2 : Int32) else _
    rw [if_pos hi, if_pos hi]
  · rw [f1 49 (by decide) (by decide) (by decide) (by decide)]
    show (if i < 2 then (-1 : Int32) else _) = if i < 2 then (-1 : Int32) else _
    rw [if_pos hi, if_pos hi]
