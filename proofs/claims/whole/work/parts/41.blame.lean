/-! blame, class and reference side by side -/
def bmp (f : Nat → Int32) (s : Nat) : Nat → Int32 := upd f s (f s + 1)
def adL (f : Nat → Int32) (l : List Nat) : Nat → Int32 := l.foldl bmp f
theorem adL_s (f : Nat → Int32) (l : List Nat) (k : Nat) (hk : k < l.length) : adL f (l.take (k + 1)) = bmp (adL f (l.take k)) l[k] := by
  unfold adL
  rw [← List.take_append_getElem hk, List.foldl_append]
  rfl
theorem fAg_bmp {N : Nat} {f g : Nat → Int32} (h : fAg N f g) (s : Nat) : fAg N (bmp f s) (bmp g s) := by
  intro j hj
  unfold bmp
  simp only [upd]
  by_cases e : j = s
  · rw [if_pos e, if_pos e, h s (by omega)]
  · rw [if_neg e, if_neg e]; exact h j hj
theorem fAg_adL {N : Nat} : ∀ {l : List Nat} {f g : Nat → Int32}, fAg N f g → fAg N (adL f l) (adL g l)
  | [], _, _, h => h
  | s :: l, _, _, h => fAg_adL (l := l) (fAg_bmp h s)
theorem adL_out {n : Nat} : ∀ {l : List Nat} {f : Nat → Int32}, (∀ s, s ∈ l → s < n) → ∀ j, n ≤ j → adL f l j = f j
  | [], _, _, _, _ => rfl
  | s :: l, f, h, j, hj => by
    have e := adL_out (l := l) (f := bmp f s) (fun t ht => h t (List.mem_cons_of_mem _ ht)) j hj
    show adL (bmp f s) l j = f j
    rw [e]
    exact if_neg (show ¬ j = s by have := h s List.mem_cons_self; omega)
/-- the chain against a statement, if there is one -/
noncomputable def chO (sd : Nat → Bool) (A B : Nat → Nat) (x o : Nat) : List Nat := @ite _ (x ∈ (chS sd A B o).1) (Classical.propDecidable _) (chL sd A B x o) []
theorem chO_t {sd : Nat → Bool} {A B : Nat → Nat} {x o : Nat} (h : x ∈ (chS sd A B o).1) : chO sd A B x o = chL sd A B x o := if_pos h
theorem chO_f {sd : Nat → Bool} {A B : Nat → Nat} {x o : Nat} (h : ¬ x ∈ (chS sd A B o).1) : chO sd A B x o = [] := if_neg h
theorem l_countChain (h : ia_H) (l : List Nat) (hl : l.length ≤ 40) (h120 : ∀ s, s ∈ l → s < 120) (hr : rwOk (h.1 34) l) (a1 a2 : Int32) {Z : Option Value → ia_H → Prop} (hZ : Z none (hsI h 35 (adL (h.1 35) l))) :
    ∀ k i : Nat, i + k = l.length → R_ ia_k_X6_countChain Z (10, [some (.ref 29), some (.int a1), some (.int a2), some (.int (nI l.length)), some (.int (nI i))], [], hsI h 35 (adL (h.1 35) (l.take i))) := by
  intro k
  induction k with
  | zero =>
    intro i hi
    rw [show i = l.length by omega, List.take_length]
    refine ia_walk (fun pc => Nat.beq pc 10) 60 (fun X hX => ?_)
    conv => whnf
    refine And.intro (fun c => ?_) (fun c => ?_)
    · exact absurd c (nI_nlt (by omega) (by omega))
    · conv => whnf
      exact hZ
  | succ k ih =>
    intro i hi
    have ih := ih (i + 1) (by omega)
    have hi2 : i < l.length := by omega
    have h1 := hr i hi2
    have h2 := h120 l[i] (List.getElem_mem hi2)
    refine ia_walk (fun pc => Nat.beq pc 10) 60 (fun X hX => ?_)
    conv => whnf
    refine And.intro (fun c => ?_) (fun c => ?_)
    · conv => whnf
      refine Exists.intro _ (And.intro (And.intro rfl (by omega)) ?_)
      conv => whnf
      refine Exists.intro (l[i]) (And.intro (And.intro (h1) (by omega)) ?_)
      conv => whnf
      refine Exists.intro (l[i]) (And.intro (And.intro (h1) (by omega)) ?_)
      conv => whnf
      rw [nI_1]
      rw [adL_s _ l i hi2] at ih
      unfold bmp at ih
      rw [← hsI_same h 35 (adL (h.1 35) (l.take i))] at ih
      exact hX _ ih
    · exact absurd (nI_lt hi2 (by omega)) c
theorem v_countChain (h : ia_H) (n G : Nat) (sd : Nat → Bool) (A B : Nat → Nat) (hw : wOk h n G sd A B) (x o : Nat) (hx : x < G) (ho : o < G) : V_ 51 [.ref 29, .int (nI x), .int (nI o)] h (fun r h' => r = none ∧ frS h h' ∧ h'.1 35 = adL (h.1 35) (chO sd A B x o)) := by
  have hn := hw.1.1
  obtain ⟨r', h2, ev, w1, w3, -, w2⟩ := v_fChain h n G sd A B hw x o hx ho
  refine ia_V_in ia_k_X6_countChain [some (.ref 29), some (.int (nI x)), some (.int (nI o)), none, none] rfl rfl (Nat.le_of_ble_eq_true rfl) rfl ?_
  refine ia_walk (fun pc => Nat.beq pc 10) 60 (fun X hX => ?_)
  conv => whnf
  refine Exists.intro (_, _) (And.intro ev ?_)
  rcases w2 with ⟨hin, rfl, hrw⟩ | ⟨hni, rfl⟩
  · obtain ⟨l1, l2, -⟩ := chL_ok hw.1.2.1 (fun w h1 h2 => ⟨(md_dt hw.1 w h1 h2).1, (md_dt hw.1 w h1 h2).2.2⟩) ho hin
    conv => whnf
    have lp := l_countChain h2 (chL sd A B x o) l1 (fun s hs => by have := l2 s hs; omega) hrw (nI x) (nI o) (Z := fun r h' => r = none ∧ frS h h' ∧ h'.1 35 = adL (h.1 35) (chO sd A B x o)) ⟨rfl, frS_tr w1 (frS_I (y := 35) (by omega) _), by rw [chO_t hin, ← w3]; rfl⟩ (chL sd A B x o).length 0 (by omega)
    have e0 : adL (h2.1 35) ((chL sd A B x o).take 0) = h2.1 35 := by rw [List.take_zero]; rfl
    rw [e0, hsI_eta] at lp
    exact hX _ lp
  · conv => whnf
    refine hX _ ?_
    refine ia_walk (fun pc => Nat.beq pc 10) 60 (fun X hX => ?_)
    conv => whnf
    refine And.intro (fun c => ?_) (fun c => ?_)
    · exact absurd (show (0 : Int32) < -1 from c) (by decide)
    · conv => whnf
      exact ⟨rfl, w1, by rw [chO_f hni, w3]; rfl⟩
/-- how often each is in chains, behind s statements -/
noncomputable def blF (sd : Nat → Bool) (A B : Nat → Nat) (kd f : Nat → Int32) : Nat → (Nat → Int32)
  | 0 => f
  | s + 1 => if kd s = 2 then adL (blF sd A B kd f s) (chO sd A B (A s) (B s)) else blF sd A B kd f s
theorem fAg_blF {N : Nat} {sd : Nat → Bool} {A B : Nat → Nat} {kd f g : Nat → Int32} (h : fAg N f g) : ∀ s, fAg N (blF sd A B kd f s) (blF sd A B kd g s)
  | 0 => h
  | s + 1 => by
    rw [blF, blF]
    split
    · exact fAg_adL (fAg_blF h s)
    · exact fAg_blF h s
/-- the first that is in the most -/
def moC (f : Nat → Int32) : Option Nat → Int32
  | none => 0
  | some j => f j
def moR (f : Nat → Int32) : Nat → Option Nat
  | 0 => none
  | s + 1 => if moC f (moR f s) < f s then some s else moR f s
theorem moR_lt (f : Nat → Int32) : ∀ s j, moR f s = some j → j < s
  | 0, _, h => by cases h
  | s + 1, j, h => by
    rw [moR] at h
    split at h
    · injection h with h; omega
    · have := moR_lt f s j h; omega
theorem moC_pos (f : Nat → Int32) : ∀ s, ¬ moC f (moR f s) < 0
  | 0 => by show ¬ (0 : Int32) < 0; decide
  | s + 1 => by
    rw [moR]
    split
    · rename_i q
      show ¬ f s < 0
      intro z
      exact moC_pos f s (Int32.lt_trans q z)
    · exact moC_pos f s
theorem moR_congr {f g : Nat → Int32} : ∀ {s : Nat}, fAg s f g → moR f s = moR g s ∧ moC f (moR f s) = moC g (moR g s)
  | 0, _ => ⟨rfl, rfl⟩
  | s + 1, h => by
    obtain ⟨i1, i2⟩ := moR_congr (s := s) (fun j hj => h j (by omega))
    rw [moR, moR, i2, h s (by omega)]
    split
    · exact ⟨rfl, h s (by omega)⟩
    · exact ⟨i1, i2⟩
theorem moR_stop {f : Nat → Int32} {n : Nat} (hz : ∀ j, n ≤ j → j < 120 → f j = 0) : ∀ s, n ≤ s → s ≤ 120 → moR f s = moR f n
  | 0, h, _ => by rw [show n = 0 by omega]
  | s + 1, h, h2 => by
    by_cases e : n = s + 1
    · rw [e]
    · rw [moR, hz s (by omega) (by omega), if_neg (moC_pos f s)]
      exact moR_stop hz s (by omega) (by omega)
def moI : Option Nat → Int32
  | none => -1
  | some j => nI j
theorem l_most (h : ia_H) {Z : Option Value → ia_H → Prop} (hZ : Z (some (.int (moI (moR (h.1 35) 120)))) h) : ∀ k s : Nat, s + k = 120 → R_ ia_k_X6_mostOften Z (4, [some (.ref 29), some (.int (moI (moR (h.1 35) s))), some (.int (nI s))], [], h) := by
  intro k
  induction k with
  | zero =>
    intro s hs
    rw [show s = 120 by omega]
    refine ia_walk (fun pc => Nat.beq pc 4) 60 (fun X hX => ?_)
    conv => whnf
    refine And.intro (fun c => ?_) (fun c => ?_)
    · exact absurd (show nI 120 < 120 from c) (by decide)
    · conv => whnf
      exact hZ
  | succ k ih =>
    intro s hs
    have ih := ih (s + 1) (by omega)
    rw [moR] at ih
    refine ia_walk (fun pc => Nat.beq pc 4) 60 (fun X hX => ?_)
    cases hm : moR (h.1 35) s with
    | none =>
      rw [hm] at ih
      conv => whnf
      refine And.intro (fun c => ?_) (fun c => ?_)
      · conv => whnf
        refine Exists.intro _ (And.intro (And.intro rfl (by omega)) ?_)
        conv => whnf
        refine And.intro (fun c2 => ?_) (fun c2 => ?_)
        · conv => whnf
          refine And.intro (fun c3 => ?_) (fun c3 => ?_)
          · conv => whnf
            rw [nI_1]
            rw [if_pos (show moC (h.1 35) none < h.1 35 s from c3)] at ih
            exact hX _ ih
          · conv => whnf
            rw [nI_1]
            rw [if_neg (show ¬ moC (h.1 35) none < h.1 35 s from c3)] at ih
            exact hX _ ih
        · exact absurd rfl c2
      · exact absurd ((nI_lt120 (by omega)).mpr (by omega)) c
    | some j =>
      have hj := moR_lt _ _ _ hm
      rw [hm] at ih
      conv => whnf
      refine And.intro (fun c => ?_) (fun c => ?_)
      · conv => whnf
        refine Exists.intro _ (And.intro (And.intro rfl (by omega)) ?_)
        conv => whnf
        refine And.intro (fun c2 => ?_) (fun c2 => ?_)
        · exact absurd (show nI j = -1 from c2) (nI_nm1 (by omega))
        · conv => whnf
          refine Exists.intro (j) (And.intro (And.intro (rfl) (by omega)) ?_)
          conv => whnf
          refine And.intro (fun c3 => ?_) (fun c3 => ?_)
          · conv => whnf
            rw [nI_1]
            rw [if_pos (show moC (h.1 35) (some j) < h.1 35 s from c3)] at ih
            exact hX _ ih
          · conv => whnf
            rw [nI_1]
            rw [if_neg (show ¬ moC (h.1 35) (some j) < h.1 35 s from c3)] at ih
            exact hX _ ih
      · exact absurd ((nI_lt120 (by omega)).mpr (by omega)) c
theorem v_mostOften (h : ia_H) : V_ 52 [.ref 29] h (Z_ (.int (moI (moR (h.1 35) 120))) h) := by
  refine ia_V_in ia_k_X6_mostOften [some (.ref 29), none, none] rfl rfl (Nat.le_of_ble_eq_true rfl) rfl ?_
  refine ia_walk (fun pc => Nat.beq pc 4) 60 (fun X hX => ?_)
  conv => whnf
  exact hX _ (l_most h ⟨rfl, rfl⟩ 120 0 (by omega))
