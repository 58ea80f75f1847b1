/-! blame: the answers -/
theorem blF_kd {sd : Nat → Bool} {A B : Nat → Nat} {kd kd2 f : Nat → Int32} : ∀ {s : Nat}, (∀ j, j < s → kd j = kd2 j) → blF sd A B kd f s = blF sd A B kd2 f s
  | 0, _ => rfl
  | s + 1, h => by rw [blF, blF, blF_kd (fun j hj => h j (by omega)), h s (by omega)]
theorem blF_out {n G : Nat} {h : ia_H} {sd : Nat → Bool} {A B : Nat → Nat} (hd : mdOk h n G sd A B) {kd f : Nat → Int32} : ∀ s, s ≤ n → ∀ j, n ≤ j → blF sd A B kd f s j = f j
  | 0, _, _, _ => rfl
  | s + 1, hs, j, hj => by
    rw [blF]
    have ih := blF_out hd (kd := kd) (f := f) s (by omega) j hj
    split
    · rw [← ih]
      obtain ⟨-, x2, -, x4, -, -⟩ := hd.2.2.2.2.1 s (by omega)
      refine adL_out (fun t ht => ?_) j hj
      by_cases hin : A s ∈ (chS sd A B (B s)).1
      · rw [chO_t hin] at ht
        exact (chL_ok hd.2.1 (fun w h1 h2 => ⟨(md_dt hd w h1 h2).1, (md_dt hd w h1 h2).2.2⟩) x4 hin).2.1 t ht
      · rw [chO_f hin] at ht
        exact absurd ht List.not_mem_nil
    · exact ih
def blA (w : Int32) (f : Nat → Int32) : Option Nat → Int32
  | none => -2
  | some j => if w = 0 then nI j else f j
theorem l_blame (h : ia_H) (n G : Nat) (sd : Nat → Bool) (A B : Nat → Nat) (hw : wOk h n G sd A B) (f : Nat → Int32) (w : Int32) {Z : Option Value → ia_H → Prop} (hZ : ∀ (H : ia_H) (a2 : Option Value), frS h H → H.1 35 = blF sd A B (h.1 26) f n → R_ ia_k_X7_blame Z (75, [some (.ref 0), some (.int w), a2], [], H)) :
    ∀ (k s : Nat) (H : ia_H), s + k = n → frS h H → H.1 35 = blF sd A B (h.1 26) f s → R_ ia_k_X7_blame Z (20, [some (.ref 0), some (.int w), some (.int (nI s))], [], H) := by
  have hn := hw.1.1
  intro k
  induction k with
  | zero =>
    intro s H hs hf hT
    rw [show s = n by omega] at hT ⊢
    have hw2 := wOk_fr hw hf
    refine ia_walk (fun pc => Nat.beq pc 75) 60 (fun X hX => ?_)
    conv => whnf
    refine And.intro (fun c => ?_) (fun c => ?_)
    · exact absurd (show nI n < H.1 4 7 from c) (by rw [hw2.2.1]; exact nI_nlt (by omega) (by omega))
    · conv => whnf
      exact hX _ (hZ H _ hf hT)
  | succ k ih =>
    intro s H hs hf hT
    have ih := ih (s + 1)
    rw [blF] at ih
    have hw2 := wOk_fr hw hf
    obtain ⟨e7, e8, -⟩ := hw2.2.2.2.1 s (by omega)
    obtain ⟨-, x2, -, x4, -, -⟩ := hw.1.2.2.2.2.1 s (by omega)
    have e26 : H.1 26 = h.1 26 := hf.1 26 (by omega)
    refine ia_walk (fun pc => Nat.beq pc 20) 60 (fun X hX => ?_)
    conv => whnf
    refine And.intro (fun c => ?_) (fun c => ?_)
    · conv => whnf
      refine Exists.intro _ (And.intro (And.intro rfl (by omega)) ?_)
      conv => whnf
      refine And.intro (fun c2 => ?_) (fun c2 => ?_)
      · have c2 : h.1 26 s = 2 := by rw [← e26]; exact c2
        rw [if_pos c2] at ih
        conv => whnf
        refine Exists.intro _ (And.intro (And.intro rfl (by omega)) ?_)
        conv => whnf
        refine Exists.intro _ (And.intro (And.intro rfl (by omega)) ?_)
        obtain ⟨r', h2, ev, w1, w2, w3⟩ := v_countChain H n G sd A B hw2 (A s) (B s) x2 x4
        subst w1
        rw [← e7, ← e8] at ev
        conv => whnf
        refine Exists.intro (_, _) (And.intro ev ?_)
        conv => whnf
        rw [nI_1]
        exact hX _ (ih h2 (by omega) (frS_tr hf w2) (by rw [w3, hT]))
      · have c2 : ¬ h.1 26 s = 2 := by rw [← e26]; exact c2
        rw [if_neg c2] at ih
        conv => whnf
        rw [nI_1]
        exact hX _ (ih H (by omega) hf hT)
    · exact absurd (show nI s < H.1 4 7 by rw [hw2.2.1]; exact nI_lt (by omega) (by omega)) c
theorem v_blame1 (h : ia_H) (n G : Nat) (sd : Nat → Bool) (A B : Nat → Nat) (hw : wOk h n G sd A B) (w : Int32) (h01 : w = 0 ∨ w = 1) : V_ 83 [.ref 0, .int w] h (fun r h' => frS h h' ∧ ∃ T, fAg n T (blF sd A B (h.1 26) (fun _ => 0) n) ∧ r = some (.int (blA w T (moR T n)))) := by
  have hn := hw.1.1
  have hb : R_ ia_k_X7_blame (fun r h' => frS h h' ∧ ∃ T, fAg n T (blF sd A B (h.1 26) (fun _ => 0) n) ∧ r = some (.int (blA w T (moR T n)))) (20, [some (.ref 0), some (.int w), some (.int (nI 0))], [], hsI h 35 (flF (h.1 35) 120 0)) := by
    refine l_blame h n G sd A B hw (flF (h.1 35) 120 0) w (fun H a2 hf hT => ?_) n 0 _ (by omega) (frS_I (y := 35) (by omega) _) rfl
    have hag : fAg n (H.1 35) (blF sd A B (h.1 26) (fun _ => 0) n) := by
      rw [hT]
      exact fAg_blF (fun s hs => if_pos (by omega)) n
    have hz : ∀ j, n ≤ j → j < 120 → H.1 35 j = 0 := fun j h1 h2 => by
      rw [hT, blF_out hw.1 n (Nat.le_refl n) j h1]
      exact if_pos h2
    have e := moR_stop hz 120 hn (Nat.le_refl _)
    have hlt := moR_lt (H.1 35) n
    refine ia_walk (fun _ => false) 60 (fun X hX => ?_)
    conv => whnf
    refine Exists.intro (_, _) (And.intro (ia_callE (v_mostOften H)) ?_)
    rw [e]
    cases hm : moR (H.1 35) n with
    | none =>
      conv => whnf
      refine And.intro (fun c => ?_) (fun c => ?_)
      · conv => whnf
        refine ⟨hf, H.1 35, hag, ?_⟩
        rw [hm]
        rfl
      · exact absurd rfl c
    | some j =>
      have hj := hlt j hm
      conv => whnf
      refine And.intro (fun c => ?_) (fun c => ?_)
      · exact absurd (show nI j = -1 from c) (nI_nm1 (by omega))
      · conv => whnf
        refine And.intro (fun c2 => ?_) (fun c2 => ?_)
        · conv => whnf
          refine ⟨hf, H.1 35, hag, ?_⟩
          rw [hm]
          exact congrArg (fun v => some (Value.int v)) (if_pos c2).symm
        · conv => whnf
          refine Exists.intro (j) (And.intro (And.intro (rfl) (by omega)) ?_)
          conv => whnf
          refine ⟨hf, H.1 35, hag, ?_⟩
          rw [hm]
          exact congrArg (fun v => some (Value.int v)) (if_neg c2).symm
  have hcl : V_ 50 [.ref 29] h (fun r h' => r = none ∧ h' = hsI h 35 (flF (h.1 35) 120 0)) := by
    refine ia_V_in ia_k_X6_clearTimes [some (.ref 29)] rfl rfl (Nat.le_of_ble_eq_true rfl) rfl ?_
    refine ia_walk (fun _ => false) 60 (fun X hX => ?_)
    conv => whnf
    refine Exists.intro (_, _) (And.intro (ia_callE (v_fill_times h 0)) ?_)
    conv => whnf
    exact ⟨rfl, rfl⟩
  refine ia_V_in ia_k_X7_blame [some (.ref 0), some (.int w), none] rfl rfl (Nat.le_of_ble_eq_true rfl) rfl ?_
  refine ia_walk (fun pc => Nat.beq pc 20) 60 (fun X hX => ?_)
  conv => whnf
  refine And.intro (fun c => ?_) (fun c => ?_)
  · conv => whnf
    refine Exists.intro (_, _) (And.intro (ia_callE (hcl)) ?_)
    conv => whnf
    exact hX _ hb
  · conv => whnf
    refine And.intro (fun c2 => ?_) (fun c2 => ?_)
    · conv => whnf
      refine Exists.intro (_, _) (And.intro (ia_callE (hcl)) ?_)
      conv => whnf
      exact hX _ hb
    · exact absurd h01 (fun q => q.elim c c2)
theorem l_mbl0 (h : ia_H) (n : Nat) (hn : n ≤ 120) (en : h.1 52 10 = nI n) (w : Int32) {Z : Option Value → ia_H → Prop} (hZ : ∀ a2, R_ ia_k_X8_blame Z (35, [some (.ref 52), some (.int w), a2, none, none], [], hsI h 71 (flF (h.1 71) n 0))) : ∀ k s : Nat, s + k = n → R_ ia_k_X8_blame Z (14, [some (.ref 52), some (.int w), some (.int (nI s)), none, none], [], hsI h 71 (flF (h.1 71) s 0)) := by
  intro k
  induction k with
  | zero =>
    intro s hs
    rw [show s = n by omega]
    refine ia_walk (fun pc => Nat.beq pc 35) 60 (fun X hX => ?_)
    conv => whnf
    refine And.intro (fun c => ?_) (fun c => ?_)
    · exact absurd (show nI n < h.1 52 10 from c) (by rw [en]; exact nI_nlt (by omega) (by omega))
    · conv => whnf
      exact hX _ (hZ _)
  | succ k ih =>
    intro s hs
    have ih := ih (s + 1) (by omega)
    refine ia_walk (fun pc => Nat.beq pc 14) 60 (fun X hX => ?_)
    conv => whnf
    refine And.intro (fun c => ?_) (fun c => ?_)
    · conv => whnf
      refine Exists.intro _ (And.intro (And.intro rfl (by omega)) ?_)
      conv => whnf
      rw [nI_1]
      rw [← flF_s, ← hsI_same h 71 (flF (h.1 71) s 0)] at ih
      exact hX _ ih
    · exact absurd (show nI s < h.1 52 10 by rw [en]; exact nI_lt (by omega) (by omega)) c
theorem l_mbl2 (h : ia_H) (l : List Nat) (hl : l.length ≤ 40) (h120 : ∀ s, s ∈ l → s < 120) (hr : rwOk (h.1 70) l) (w a2 : Int32) {Z : Option Value → ia_H → Prop} (hZ : ∀ a3 a4, R_ ia_k_X8_blame Z (106, [some (.ref 52), some (.int w), some (.int a2), a3, a4], [], hsI h 71 (adL (h.1 71) l))) :
    ∀ k i : Nat, i + k = l.length → R_ ia_k_X8_blame Z (78, [some (.ref 52), some (.int w), some (.int a2), some (.int (nI l.length)), some (.int (nI i))], [], hsI h 71 (adL (h.1 71) (l.take i))) := by
  intro k
  induction k with
  | zero =>
    intro i hi
    rw [show i = l.length by omega, List.take_length]
    refine ia_walk (fun pc => Nat.beq pc 106) 60 (fun X hX => ?_)
    conv => whnf
    refine And.intro (fun c => ?_) (fun c => ?_)
    · exact absurd c (nI_nlt (by omega) (by omega))
    · conv => whnf
      exact hX _ (hZ _ _)
  | succ k ih =>
    intro i hi
    have ih := ih (i + 1) (by omega)
    have hi2 : i < l.length := by omega
    have h1 := hr i hi2
    have h2 := h120 l[i] (List.getElem_mem hi2)
    refine ia_walk (fun pc => Nat.beq pc 78) 60 (fun X hX => ?_)
    conv => whnf
    refine And.intro (fun c => ?_) (fun c => ?_)
    · conv => whnf
      refine Exists.intro _ (And.intro (And.intro rfl (by omega)) ?_)
      conv => whnf
      refine Exists.intro (l[i]) (And.intro (And.intro (h1) (by omega)) ?_)
      conv => whnf
      refine Exists.intro (l[i]) (And.intro (And.intro (h1) (by omega)) ?_)
      conv => whnf
      rw [nI_1]
      rw [adL_s _ l i hi2] at ih
      unfold bmp at ih
      rw [← hsI_same h 71 (adL (h.1 71) (l.take i))] at ih
      exact hX _ ih
    · exact absurd (nI_lt hi2 (by omega)) c
theorem l_mbl1 (h : ia_H) (n G : Nat) (sd : Nat → Bool) (A B : Nat → Nat) (hd : mdOk h n G sd A B) (hc : cnOk h G sd A B) (hmf : ∀ H, frS h H → mdOk H n G sd A B ∧ cnOk H G sd A B) (f : Nat → Int32) (w : Int32) {Z : Option Value → ia_H → Prop} (hZ : ∀ (H : ia_H) (a2 a3 a4 : Option Value), frS h H → H.1 71 = blF sd A B (h.1 62) f n → R_ ia_k_X8_blame Z (112, [some (.ref 52), some (.int w), a2, a3, a4], [], H)) :
    ∀ (k s : Nat) (a3 a4 : Option Value) (H : ia_H), s + k = n → frS h H → H.1 71 = blF sd A B (h.1 62) f s → R_ ia_k_X8_blame Z (37, [some (.ref 52), some (.int w), some (.int (nI s)), a3, a4], [], H) := by
  have hn := hd.1
  intro k
  induction k with
  | zero =>
    intro s a3 a4 H hs hf hT
    rw [show s = n by omega] at hT ⊢
    have hd2 := (hmf H hf).1
    refine ia_walk (fun pc => Nat.beq pc 112) 60 (fun X hX => ?_)
    conv => whnf
    refine And.intro (fun c => ?_) (fun c => ?_)
    · exact absurd (show nI n < H.1 52 10 from c) (by rw [hd2.2.2.1]; exact nI_nlt (by omega) (by omega))
    · conv => whnf
      exact hX _ (hZ H _ _ _ hf hT)
  | succ k ih =>
    intro s a3 a4 H hs hf hT
    have ih := ih (s + 1)
    rw [blF] at ih
    obtain ⟨hd2, hc2⟩ := hmf H hf
    obtain ⟨e7, x2, e8, x4, -, -⟩ := hd2.2.2.2.2.1 s (by omega)
    have e62 : H.1 62 = h.1 62 := hf.1 62 (by omega)
    have hnx : ∀ (a3 a4 : Option Value) (K : ia_H), frS h K → K.1 71 = (if h.1 62 s = 2 then adL (blF sd A B (h.1 62) f s) (chO sd A B (A s) (B s)) else blF sd A B (h.1 62) f s) → R_ ia_k_X8_blame Z (106, [some (.ref 52), some (.int w), some (.int (nI s)), a3, a4], [], K) := by
      intro a3 a4 K k1 k2
      refine ia_walk (fun pc => Nat.beq pc 37) 60 (fun X hX => ?_)
      conv => whnf
      rw [nI_1]
      exact hX _ (ih a3 a4 K (by omega) k1 k2)
    refine ia_walk (fun pc => Nat.beq pc 106 || Nat.beq pc 78) 60 (fun X hX => ?_)
    conv => whnf
    refine And.intro (fun c => ?_) (fun c => ?_)
    · conv => whnf
      refine Exists.intro _ (And.intro (And.intro rfl (by omega)) ?_)
      conv => whnf
      refine And.intro (fun c2 => ?_) (fun c2 => ?_)
      · have c2 : h.1 62 s = 2 := by rw [← e62]; exact c2
        rw [if_pos c2] at hnx
        conv => whnf
        refine Exists.intro _ (And.intro (And.intro rfl (by omega)) ?_)
        conv => whnf
        refine Exists.intro _ (And.intro (And.intro rfl (by omega)) ?_)
        obtain ⟨r', h2, ev, w2, -, w3, w4⟩ := m_lChain H n G sd A B hd2 hc2 (A s) (B s) x2 x4
        rw [← e7, ← e8] at ev
        conv => whnf
        refine Exists.intro (_, _) (And.intro ev ?_)
        rcases w4 with ⟨hin, rfl, hrw⟩ | ⟨hni, rfl⟩
        · obtain ⟨l1, l2, -⟩ := chL_ok hd.2.1 (fun w h1 h2 => ⟨(md_dt hd w h1 h2).1, (md_dt hd w h1 h2).2.2⟩) x4 hin
          conv => whnf
          rw [chO_t hin] at hnx
          have lp := l_mbl2 h2 (chL sd A B (A s) (B s)) l1 (fun t ht => by have := l2 t ht; omega) hrw w (nI s) (Z := Z) (fun b3 b4 => hnx b3 b4 _ (frS_tr (frS_tr hf w2) (frS_I (y := 71) (by omega) _)) (by rw [← hT, ← w3]; rfl)) (chL sd A B (A s) (B s)).length 0 (by omega)
          have e0 : adL (h2.1 71) ((chL sd A B (A s) (B s)).take 0) = h2.1 71 := by rw [List.take_zero]; rfl
          rw [e0, hsI_eta] at lp
          exact hX _ lp
        · conv => whnf
          rw [chO_f hni] at hnx
          refine hX _ ?_
          refine ia_walk (fun pc => Nat.beq pc 106) 60 (fun X hX => ?_)
          conv => whnf
          refine And.intro (fun c => ?_) (fun c => ?_)
          · exact absurd (show (0 : Int32) < -1 from c) (by decide)
          · conv => whnf
            exact hX _ (hnx _ _ h2 (frS_tr hf w2) (by rw [w3, hT]; rfl))
      · have c2 : ¬ h.1 62 s = 2 := by rw [← e62]; exact c2
        rw [if_neg c2] at hnx
        conv => whnf
        exact hX _ (hnx a3 a4 H hf hT)
    · exact absurd (show nI s < H.1 52 10 by rw [hd2.2.2.1]; exact nI_lt (by omega) (by omega)) c
