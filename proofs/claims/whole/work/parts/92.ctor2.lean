theorem ct_Sok (Sh : List ia_C) (key : (Sh.zipIdx.all (fun q => match q.1 with
    | .inr (.inl (ci, ks)) => ks.zipIdx.all (fun k => match k.1 with
      | .inr false => decide (ia_ty ci k.2 = .int)
      | .inr true => decide (ia_ty ci k.2 = .long)
      | _ => true)
    | .inr (.inr (_, l)) => decide (l.length < 2 ^ 31)
    | .inl (_, n) => decide (n < 2 ^ 31))) = true) : ia_Sok Sh ia_ty := by
  have at_mem : ∀ (Sh : List ia_C) (x k0 : Nat) (c : ia_C), ia_at? Sh x = some c → (c, k0 + x) ∈ Sh.zipIdx k0 := by
    intro Sh
    induction Sh with
    | nil => intro x k0 c h; cases h
    | cons d t ih =>
      intro x k0 c h
      rw [List.zipIdx_cons]
      cases x with
      | zero => cases h; exact List.mem_cons_self
      | succ x =>
        have := ih x (k0 + 1) c h
        rw [show k0 + 1 + x = k0 + (x + 1) by omega] at this
        exact List.mem_cons_of_mem _ this
  have kind_mem : ∀ (ks : List (Nat ⊕ Bool)) (x k0 : Nat) (c : Nat ⊕ Bool), ia_kind ks x = some c → (c, k0 + x) ∈ ks.zipIdx k0 := by
    intro Sh
    induction Sh with
    | nil => intro x k0 c h; cases h
    | cons d t ih =>
      intro x k0 c h
      rw [List.zipIdx_cons]
      cases x with
      | zero => cases h; exact List.mem_cons_self
      | succ x =>
        have := ih x (k0 + 1) c h
        rw [show k0 + 1 + x = k0 + (x + 1) by omega] at this
        exact List.mem_cons_of_mem _ this
  rw [List.all_eq_true] at key
  refine ⟨fun x ci ks b hx => ⟨fun hk => ?_, fun hk => ?_⟩, fun x C l hx => ?_, fun x ty n hx => ?_⟩
  · have h1 := key _ (at_mem _ x 0 _ hx)
    simp only [List.all_eq_true] at h1
    have h2 := h1 _ (kind_mem _ b 0 _ hk)
    rw [Nat.zero_add] at h2
    exact of_decide_eq_true h2
  · have h1 := key _ (at_mem _ x 0 _ hx)
    simp only [List.all_eq_true] at h1
    have h2 := h1 _ (kind_mem _ b 0 _ hk)
    rw [Nat.zero_add] at h2
    exact of_decide_eq_true h2
  · exact of_decide_eq_true (key _ (at_mem _ x 0 _ hx))
  · exact of_decide_eq_true (key _ (at_mem _ x 0 _ hx))

/-- from a constructor's place on, by the pure machine: X is 'the JVM comes to the contract's end' -/
theorem ct_R {ad : Nat → Nat} {h0 n : Nat} {ls : Array Slot} (hl : lv_has ls (n + 1) [(0, .ref h0)]) (had : ad 0 = h0) : ia_R ad (n + 1) ls (some (.ref 0) :: List.replicate n none) := by
  refine ia_R_of (by simp) hl (fun q hq => ?_)
  obtain ⟨v, hg, hv⟩ := ia_al_mem.mp hq
  obtain ⟨i, w⟩ := q
  match i, hg with
  | 0, hg =>
    have e : v = .ref 0 := (Option.some.inj hg).symm
    subst e
    have hv : w = .ref (ad 0) := hv
    rw [hv, had]
    exact List.mem_cons_self
  | i + 1, hg =>
    have hg : ia_get (List.replicate n none) i = some v := hg
    rw [ia_get_none] at hg
    cases hg
theorem ct_okk_of {M : ia_M} (h : M.2.2.2.2.2.2.1.all (fun ch => ch.all (fun e => ia_okE ia_Ts ia_Ns ia_cl ia_MT M e && lw_nr e)) = true) : ∀ ch ∈ M.2.2.2.2.2.2.1, ∀ e ∈ ch, ia_okE ia_Ts ia_Ns ia_cl ia_MT M e = true ∧ lw_nr e = true := fun ch hch e he => by
  have q := List.all_eq_true.mp (List.all_eq_true.mp h ch hch) e he
  rw [Bool.and_eq_true] at q
  exact q
def ct_pk {α : Type} (d : α) : List α → Nat → α
  | [], _ => d
  | a :: _, 0 => a
  | _ :: t, k + 1 => ct_pk d t k
abbrev ct_cl (Sh : List ia_C) (K : List (List ia_E)) (X : ia_S → Prop) : Prop := ∀ t, ia_pre (ia_Ev Sh ia_MT) (fun _ _ => False) X (ia_step Sh K t) → X t
def ct_shX4 : List ia_C := [.inr (.inl (4, [.inl 1, .inr false, .inr false])), .inl (.byte, 300)]
theorem ct_sokX4 : ia_Sok ct_shX4 ia_ty := ct_Sok _ (by decide +kernel)
def ct_hX4 : ia_H := (fun _ _ => 0, fun _ _ => 0)
def ct_shX5 : List ia_C := [.inr (.inl (5, [.inl 1, .inl 2, .inl 3, .inl 4, .inl 5, .inl 6, .inr false, .inr false])), .inl (.byte, 246), .inl (.int, 41), .inl (.int, 120), .inl (.int, 120), .inl (.long, 120), .inl (.boolean, 120)]
theorem ct_sokX5 : ia_Sok ct_shX5 ia_ty := ct_Sok _ (by decide +kernel)
def ct_hX5 : ia_H := (fun x j => bif Nat.beq x 0 then (bif Nat.beq j 6 then 1 else 0) else 0, fun _ _ => 0)
def ct_shX0 : List ia_C := [.inr (.inl (0, [.inl 1, .inl 2, .inl 3, .inr false, .inr false])), .inl (.int, 20), .inl (.int, 20), .inl (.int, 20)]
theorem ct_sokX0 : ia_Sok ct_shX0 ia_ty := ct_Sok _ (by decide +kernel)
def ct_hX0 : ia_H := (fun _ _ => 0, fun _ _ => 0)
def ct_shX1 : List ia_C := [.inr (.inl (1, [.inl 1, .inl 2, .inl 3])), .inl (.int, 120), .inl (.int, 41), .inl (.long, 41)]
theorem ct_sokX1 : ia_Sok ct_shX1 ia_ty := ct_Sok _ (by decide +kernel)
def ct_hX1 : ia_H := (fun _ _ => 0, fun _ _ => 0)
def ct_shX2 : List ia_C := [.inr (.inl (2, [.inl 1, .inl 2])), .inl (.int, 8), .inl (.int, 2)]
theorem ct_sokX2 : ia_Sok ct_shX2 ia_ty := ct_Sok _ (by decide +kernel)
def ct_hX2 : ia_H := (fun _ _ => 0, fun _ _ => 0)
def ct_shX6 : List ia_C := [.inr (.inl (6, [.inl 1, .inl 2, .inl 3, .inl 4, .inl 5, .inl 6, .inl 7, .inr false, .inl 8, .inl 9, .inl 10, .inl 11, .inl 12, .inl 13])), .inl (.int, 240), .inl (.int, 240), .inl (.int, 42), .inl (.int, 41), .inl (.int, 120), .inl (.int, 120), .inl (.int, 41), .inl (.int, 41), .inl (.int, 41), .inl (.int, 120), .inl (.boolean, 41), .inl (.int, 41), .inl (.int, 120)]
theorem ct_sokX6 : ia_Sok ct_shX6 ia_ty := ct_Sok _ (by decide +kernel)
def ct_hX6 : ia_H := (fun _ _ => 0, fun _ _ => 0)
def ct_kX1 : List (List ia_E) := [[], [(28, .iconst 0, 1, 0, 0, 0, .int 0, []), (29, .istore_n 1, 1, 0, 0, 0, .null, []), (30, .iload_n 1, 1, 0, 0, 0, .null, []), (31, .bipush 41, 2, 0, 0, 0, .int 41, [])], [(33, .if_icmp .ge 16, 3, 49, 0, 0, .null, []), (36, .aload_n 0, 1, 0, 0, 0, .null, []), (37, .getfield 15, 3, 1, 1, 137, .null, []), (40, .iload_n 1, 1, 0, 0, 0, .null, []), (41, .iload_n 1, 1, 0, 0, 0, .null, []), (42, .iastore, 1, 0, 0, 0, .null, []), (43, .iinc 1 1, 3, 0, 0, 0, .int 1, []), (46, .goto (-16), 3, 30, 0, 0, .null, [])]]
def ct_mX1 : ia_M := ("OffsetBook$Groups", ⟨"OffsetBook$Groups", "<init>", "()V"⟩, prog_3_method_1_code, 2, none, 0, ct_kX1, (0, 0, 0, 0), (1, 12))
theorem ct_okX1 : ∀ ch ∈ ct_mX1.2.2.2.2.2.2.1, ∀ e ∈ ch, ia_okE ia_Ts ia_Ns ia_cl ia_MT ct_mX1 e = true ∧ lw_nr e = true := ct_okk_of (by decide +kernel)
def ct_kX2 : List (List ia_E) := [[], [(19, .aload_n 0, 1, 0, 0, 0, .null, []), (20, .getfield 9, 3, 2, 0, 195, .null, []), (23, .bipush (-2), 2, 0, 0, 0, .int (-2), []), (25, .invokestatic 18, 3, 173, 2, 194, .null, []), (28, .aload_n 0, 1, 0, 0, 0, .null, []), (29, .getfield 15, 3, 2, 1, 196, .null, [])], [(32, .iconst (-1), 1, 0, 0, 0, .int (-1), []), (33, .invokestatic 18, 3, 173, 2, 194, .null, [])]]
def ct_mX2 : ia_M := ("OffsetBook$Pins", ⟨"OffsetBook$Pins", "<init>", "()V"⟩, prog_4_method_1_code, 1, none, 0, ct_kX2, (0, 0, 0, 0), (1, 23))
theorem ct_okX2 : ∀ ch ∈ ct_mX2.2.2.2.2.2.2.1, ∀ e ∈ ch, ia_okE ia_Ts ia_Ns ia_cl ia_MT ct_mX2 e = true ∧ lw_nr e = true := ct_okk_of (by decide +kernel)
def ct_kX6 : List (List ia_E) := [[], [], [], [], [], [], [], [(115, .aload_n 0, 1, 0, 0, 0, .null, []), (116, .getfield 11, 3, 6, 0, 149, .null, []), (119, .iconst (-1), 1, 0, 0, 0, .int (-1), []), (120, .invokestatic 56, 3, 173, 2, 146, .null, [])]]
def ct_mX6 : ia_M := ("OffsetBook$Web", ⟨"OffsetBook$Web", "<init>", "()V"⟩, prog_8_method_1_code, 1, none, 0, ct_kX6, (0, 0, 0, 0), (1, 23))
theorem ct_okX6 : ∀ ch ∈ ct_mX6.2.2.2.2.2.2.1, ∀ e ∈ ch, ia_okE ia_Ts ia_Ns ia_cl ia_MT ct_mX6 e = true ∧ lw_nr e = true := ct_okk_of (by decide +kernel)
theorem l_fill_rooms (h : ia_H) (v : Int32) {Z : Option Value → ia_H → Prop} (hZ : Z none (hsI h 1 (flF (h.1 1) 8 v))) : ∀ k i : Nat, i + k = 8 → ia_Run ct_shX2 ia_k_J7_fill_53178 (ia_Ev ct_shX2 ia_MT) Z (5, [some (.ref 1), some (.int v), some (.int (nI i)), some (.int 8)], [], hsI h 1 (flF (h.1 1) i v)) := by
  intro k
  induction k with
  | zero =>
    intro i hi
    rw [show i = 8 by omega]
    refine ia_walk (fun pc => Nat.beq pc 5) 50 (fun X hX => ?_)
    conv => whnf
    refine And.intro (fun c => ?_) (fun c => ?_)
    · exact absurd c (by decide)
    · conv => whnf
      exact hZ
  | succ k ih =>
    intro i hi
    refine ia_walk (fun pc => Nat.beq pc 5) 50 (fun X hX => ?_)
    conv => whnf
    refine And.intro (fun c => ?_) (fun c => ?_)
    · conv => whnf
      refine Exists.intro _ (And.intro (And.intro rfl (by omega)) ?_)
      conv => whnf
      rw [nI_1]
      have e : hsI (hsI h 1 (flF (h.1 1) i v)) 1 (upd (flF (h.1 1) i v) i v) = hsI h 1 (flF (h.1 1) (i + 1) v) := by rw [hsI_same, flF_s]
      exact hX _ (e ▸ ih (i + 1) (by omega) : ia_Run _ _ _ _ (5, _, _, hsI (hsI h 1 (flF (h.1 1) i v)) 1 (upd (flF (h.1 1) i v) i v)))
    · exact absurd (show nI i < 8 from nI_lt (b := 8) (by omega) (by omega)) c
theorem v_fill_rooms (h : ia_H) (v : Int32) : ia_V ct_shX2 ia_MT 167 [.ref 1, .int v] h (fun r h' => r = none ∧ h' = hsI h 1 (flF (h.1 1) 8 v)) := by
  refine ia_V_in ia_k_J7_fill_53178 [some (.ref 1), some (.int v), none, none] rfl rfl (Nat.le_of_ble_eq_true rfl) rfl ?_
  refine ia_walk (fun pc => Nat.beq pc 5) 50 (fun X hX => ?_)
  conv => whnf
  have lp := l_fill_rooms h v (Z := fun r h' => r = none ∧ h' = hsI h 1 (flF (h.1 1) 8 v)) ⟨rfl, rfl⟩ 8 0 rfl
  rw [flF_0, hsI_eta] at lp
  exact hX _ lp
theorem l_fill_sorts (h : ia_H) (v : Int32) {Z : Option Value → ia_H → Prop} (hZ : Z none (hsI h 2 (flF (h.1 2) 2 v))) : ∀ k i : Nat, i + k = 2 → ia_Run ct_shX2 ia_k_J7_fill_53178 (ia_Ev ct_shX2 ia_MT) Z (5, [some (.ref 2), some (.int v), some (.int (nI i)), some (.int 2)], [], hsI h 2 (flF (h.1 2) i v)) := by
  intro k
  induction k with
  | zero =>
    intro i hi
    rw [show i = 2 by omega]
    refine ia_walk (fun pc => Nat.beq pc 5) 50 (fun X hX => ?_)
    conv => whnf
    refine And.intro (fun c => ?_) (fun c => ?_)
    · exact absurd c (by decide)
    · conv => whnf
      exact hZ
  | succ k ih =>
    intro i hi
    refine ia_walk (fun pc => Nat.beq pc 5) 50 (fun X hX => ?_)
    conv => whnf
    refine And.intro (fun c => ?_) (fun c => ?_)
    · conv => whnf
      refine Exists.intro _ (And.intro (And.intro rfl (by omega)) ?_)
      conv => whnf
      rw [nI_1]
      have e : hsI (hsI h 2 (flF (h.1 2) i v)) 2 (upd (flF (h.1 2) i v) i v) = hsI h 2 (flF (h.1 2) (i + 1) v) := by rw [hsI_same, flF_s]
      exact hX _ (e ▸ ih (i + 1) (by omega) : ia_Run _ _ _ _ (5, _, _, hsI (hsI h 2 (flF (h.1 2) i v)) 2 (upd (flF (h.1 2) i v) i v)))
    · exact absurd (show nI i < 2 from nI_lt (b := 2) (by omega) (by omega)) c
theorem v_fill_sorts (h : ia_H) (v : Int32) : ia_V ct_shX2 ia_MT 167 [.ref 2, .int v] h (fun r h' => r = none ∧ h' = hsI h 2 (flF (h.1 2) 2 v)) := by
  refine ia_V_in ia_k_J7_fill_53178 [some (.ref 2), some (.int v), none, none] rfl rfl (Nat.le_of_ble_eq_true rfl) rfl ?_
  refine ia_walk (fun pc => Nat.beq pc 5) 50 (fun X hX => ?_)
  conv => whnf
  have lp := l_fill_sorts h v (Z := fun r h' => r = none ∧ h' = hsI h 2 (flF (h.1 2) 2 v)) ⟨rfl, rfl⟩ 2 0 rfl
  rw [flF_0, hsI_eta] at lp
  exact hX _ lp
theorem l_fill_web (h : ia_H) (v : Int32) {Z : Option Value → ia_H → Prop} (hZ : Z none (hsI h 1 (flF (h.1 1) 240 v))) : ∀ k i : Nat, i + k = 240 → ia_Run ct_shX6 ia_k_J7_fill_53178 (ia_Ev ct_shX6 ia_MT) Z (5, [some (.ref 1), some (.int v), some (.int (nI i)), some (.int 240)], [], hsI h 1 (flF (h.1 1) i v)) := by
  intro k
  induction k with
  | zero =>
    intro i hi
    rw [show i = 240 by omega]
    refine ia_walk (fun pc => Nat.beq pc 5) 50 (fun X hX => ?_)
    conv => whnf
    refine And.intro (fun c => ?_) (fun c => ?_)
    · exact absurd c (by decide)
    · conv => whnf
      exact hZ
  | succ k ih =>
    intro i hi
    refine ia_walk (fun pc => Nat.beq pc 5) 50 (fun X hX => ?_)
    conv => whnf
    refine And.intro (fun c => ?_) (fun c => ?_)
    · conv => whnf
      refine Exists.intro _ (And.intro (And.intro rfl (by omega)) ?_)
      conv => whnf
      rw [nI_1]
      have e : hsI (hsI h 1 (flF (h.1 1) i v)) 1 (upd (flF (h.1 1) i v) i v) = hsI h 1 (flF (h.1 1) (i + 1) v) := by rw [hsI_same, flF_s]
      exact hX _ (e ▸ ih (i + 1) (by omega) : ia_Run _ _ _ _ (5, _, _, hsI (hsI h 1 (flF (h.1 1) i v)) 1 (upd (flF (h.1 1) i v) i v)))
    · exact absurd (show nI i < 240 from nI_lt (b := 240) (by omega) (by omega)) c
theorem v_fill_web (h : ia_H) (v : Int32) : ia_V ct_shX6 ia_MT 167 [.ref 1, .int v] h (fun r h' => r = none ∧ h' = hsI h 1 (flF (h.1 1) 240 v)) := by
  refine ia_V_in ia_k_J7_fill_53178 [some (.ref 1), some (.int v), none, none] rfl rfl (Nat.le_of_ble_eq_true rfl) rfl ?_
  refine ia_walk (fun pc => Nat.beq pc 5) 50 (fun X hX => ?_)
  conv => whnf
  have lp := l_fill_web h v (Z := fun r h' => r = none ∧ h' = hsI h 1 (flF (h.1 1) 240 v)) ⟨rfl, rfl⟩ 240 0 rfl
  rw [flF_0, hsI_eta] at lp
  exact hX _ lp
/-- Pins(): the rest -/
theorem ct_wX2 {X : ia_S → Prop} (hX : ct_cl ct_shX2 ct_kX2 X) (hE : ∀ ls, X (36, ls, [], hsI (hsI ct_hX2 1 (flF (ct_hX2.1 1) 8 (-2))) 2 (flF (ct_hX2.1 2) 2 (-1)))) : X (19, [some (.ref 0)], [], ct_hX2) := by
  refine lw_wp_run hX (fun pc => Nat.beq pc 36) 20 ?_
  conv => whnf
  obtain ⟨r, h1, e1, rfl, rfl⟩ := v_fill_rooms ct_hX2 (-2)
  refine ⟨(none, _), e1, ?_⟩
  conv => whnf
  obtain ⟨r, h1, e1, rfl, rfl⟩ := v_fill_sorts (hsI ct_hX2 1 (flF (ct_hX2.1 1) 8 (-2))) (-1)
  refine ⟨(none, _), e1, ?_⟩
  conv => whnf
  exact hE _
/-- Web(): the rest -/
theorem ct_wX6 {X : ia_S → Prop} (hX : ct_cl ct_shX6 ct_kX6 X) (hE : ∀ ls, X (123, ls, [], hsI ct_hX6 1 (flF (ct_hX6.1 1) 240 (-1)))) : X (115, [some (.ref 0)], [], ct_hX6) := by
  refine lw_wp_run hX (fun pc => Nat.beq pc 123) 20 ?_
  conv => whnf
  obtain ⟨r, h1, e1, rfl, rfl⟩ := v_fill_web ct_hX6 (-1)
  refine ⟨(none, _), e1, ?_⟩
  conv => whnf
  exact hE _
/-- Groups(): the rest -/
def ct_lst (i : Nat) : Nat → Int32 := fun j => if j < i then nI j else 0
theorem ct_lst_s (i : Nat) : upd (ct_lst i) i (nI i) = ct_lst (i + 1) := by
  funext j
  simp only [upd, ct_lst]
  by_cases hj : j = i
  · subst hj; simp
  · by_cases hl : j < i
    · simp [hj, hl, Nat.lt_succ_of_lt hl]
    · simp [hj, hl, show ¬ j < i + 1 by omega]
theorem ct_lX1 {X : ia_S → Prop} (hX : ct_cl ct_shX1 ct_kX1 X) (hE : ∀ ls, X (49, ls, [], hsI ct_hX1 2 (ct_lst 41))) : ∀ k i : Nat, i + k = 41 → X (30, [some (.ref 0), some (.int (nI i))], [], hsI ct_hX1 2 (ct_lst i)) := by
  intro k
  induction k with
  | zero =>
    intro i hi
    rw [show i = 41 by omega]
    refine lw_wp_run hX (fun pc => Nat.beq pc 30 || Nat.beq pc 49) 20 ?_
    conv => whnf
    refine And.intro (fun c => ?_) (fun c => ?_)
    · exact absurd c (by decide)
    · conv => whnf
      exact hE _
  | succ k ih =>
    intro i hi
    refine lw_wp_run hX (fun pc => Nat.beq pc 30 || Nat.beq pc 49) 20 ?_
    conv => whnf
    refine And.intro (fun c => ?_) (fun c => ?_)
    · conv => whnf
      refine Exists.intro _ (And.intro (And.intro rfl (by omega)) ?_)
      conv => whnf
      have e : hsI (hsI ct_hX1 2 (ct_lst i)) 2 (upd (ct_lst i) i (nI i)) = hsI ct_hX1 2 (ct_lst (i + 1)) := by rw [hsI_same, ct_lst_s]
      have e1 : nI i + 1 = nI (i + 1) := nI_1 i
      show X (30, [some (.ref 0), some (.int (nI i + 1))], [], hsI (hsI ct_hX1 2 (ct_lst i)) 2 (upd (ct_lst i) i (nI i)))
      rw [e, e1]
      exact ih (i + 1) (by omega)
    · exact absurd (show nI i < 41 from nI_lt (b := 41) (by omega) (by omega)) c
theorem ct_wX1 {X : ia_S → Prop} (hX : ct_cl ct_shX1 ct_kX1 X) (hE : ∀ ls, X (49, ls, [], hsI ct_hX1 2 (ct_lst 41))) : X (28, [some (.ref 0), none], [], ct_hX1) := by
  have lp := ct_lX1 hX hE 41 0 rfl
  have e : hsI ct_hX1 2 (ct_lst 0) = ct_hX1 := by
    have : ct_lst 0 = ct_hX1.1 2 := by funext j; simp [ct_lst, ct_hX1]
    rw [this, hsI_eta]
  rw [e] at lp
  refine lw_wp_run hX (fun pc => Nat.beq pc 30) 20 ?_
  conv => whnf
  exact lp
