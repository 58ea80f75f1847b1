/-! what is told: gauges, statements, lengths and letters of names, first and second gauge, amounts, which are out -/
abbrev tdT : Type := Nat × Nat × (Nat → Nat) × (Nat → Nat → Nat) × (Nat → Nat) × (Nat → Nat) × (Nat → Int64) × (Nat → Bool)
abbrev tdG (t : tdT) : Nat := t.1
abbrev tdN (t : tdT) : Nat := t.2.1
abbrev tdL (t : tdT) : Nat → Nat := t.2.2.1
abbrev tdC (t : tdT) : Nat → Nat → Nat := t.2.2.2.1
abbrev tdA (t : tdT) : Nat → Nat := t.2.2.2.2.1
abbrev tdB (t : tdT) : Nat → Nat := t.2.2.2.2.2.1
abbrev tdM (t : tdT) : Nat → Int64 := t.2.2.2.2.2.2.1
abbrev tdO (t : tdT) : Nat → Bool := t.2.2.2.2.2.2.2
def oI (b : Bool) : Int32 := bif b then 1 else 0
def tdOk (t : tdT) : Prop := 1 ≤ tdG t ∧ tdG t ≤ 41 ∧ tdN t ≤ 120 ∧ (∀ g, 1 ≤ g → g < tdG t → 1 ≤ tdL t g ∧ tdL t g ≤ 6 ∧ ∀ k, k < tdL t g → 1 ≤ tdC t g k ∧ tdC t g k ≤ 26) ∧ ∀ s, s < tdN t → tdA t s < tdG t ∧ tdB t s < tdG t ∧ tdA t s ≠ tdB t s ∧ -1000000000000000000 ≤ (tdM t s).toInt ∧ (tdM t s).toInt ≤ 1000000000000000000
/-- the class's rows say what is told -/
def cDat (h : ia_H) (c : Nat) (t : tdT) : Prop := h.1 (c + 2) 0 = 0 ∧ (∀ g, 1 ≤ g → g < tdG t → h.1 (c + 2) g = nI (tdL t g) ∧ ∀ k, k < tdL t g → h.1 (c + 1) (6 * g + k) = nI (96 + tdC t g k)) ∧ ∀ s, s < tdN t → h.1 (c + 3) s = nI (tdA t s) ∧ h.1 (c + 4) s = nI (tdB t s) ∧ h.2 (c + 5) s = tdM t s ∧ h.1 (c + 6) s = oI (tdO t s)
def cRep (h : ia_H) (c : Nat) (t : tdT) : Prop := h.1 c 6 = nI (tdG t) ∧ h.1 c 7 = nI (tdN t) ∧ cDat h c t
/-- the reference's rows say what is told -/
def mDat (h : ia_H) (t : tdT) : Prop := (∀ g, 1 ≤ g → g < tdG t → h.1 54 (7 * g) = nI (tdL t g) ∧ ∀ k, k < tdL t g → h.1 54 (7 * g + 1 + k) = nI (tdC t g k)) ∧ ∀ s, s < tdN t → h.1 56 s = nI (tdA t s) ∧ h.1 57 s = nI (tdB t s) ∧ h.2 58 s = tdM t s ∧ h.1 59 s = oI (tdO t s)
def mRep (h : ia_H) (t : tdT) : Prop := h.1 52 4 = nI (tdG t) ∧ h.1 52 10 = nI (tdN t) ∧ mDat h t
theorem oI_0 {b : Bool} : oI b = 0 ↔ b = false := by cases b <;> simp [oI]
theorem jgR_congr {A A2 B B2 : Nat → Nat} {m m2 : Nat → Int64} {out out2 : Nat → Int32} {t : jgT} : ∀ {n : Nat}, (∀ s, s < n → A s = A2 s ∧ B s = B2 s ∧ m s = m2 s ∧ out s = out2 s) → jgR A B m out t n = jgR A2 B2 m2 out2 t n
  | 0, _ => rfl
  | n + 1, h => by
    obtain ⟨h1, h2, h3, h4⟩ := h n (by omega)
    rw [jgR, jgR, jgR_congr (fun s hs => h s (by omega))]
    unfold jgS
    rw [h1, h2, h3, h4]
theorem mgR_congr {G : Nat} {A A2 B B2 : Nat → Nat} {m m2 : Nat → Int64} {out out2 : Nat → Int32} {t : jgT} : ∀ {n : Nat}, (∀ s, s < n → A s = A2 s ∧ B s = B2 s ∧ m s = m2 s ∧ out s = out2 s) → mgR G A B m out t n = mgR G A2 B2 m2 out2 t n
  | 0, _ => rfl
  | n + 1, h => by
    obtain ⟨h1, h2, h3, h4⟩ := h n (by omega)
    rw [mgR, mgR, mgR_congr (fun s hs => h s (by omega))]
    unfold mgS
    rw [h1, h2, h3, h4]
abbrev tdR (t : tdT) : Nat → Int32 := fun s => oI (tdO t s)
abbrev jgD (t : tdT) (u : jgT) : jgT := jgR (tdA t) (tdB t) (tdM t) (tdR t) u (tdN t)
abbrev mgD (t : tdT) (u : jgT) : jgT := mgR (tdG t) (tdA t) (tdB t) (tdM t) (tdR t) u (tdN t)
theorem jgS_val (A B : Nat → Nat) (m : Nat → Int64) (out : Nat → Int32) (s : Nat) (t : jgT) : (jgS A B m out s t).2.2 s = 0 ∨ (jgS A B m out s t).2.2 s = 1 ∨ (jgS A B m out s t).2.2 s = 2 ∨ (jgS A B m out s t).2.2 s = 3 ∨ (jgS A B m out s t).2.2 s = 4 := by
  unfold jgS
  by_cases h1 : out s = 0
  · rw [if_pos h1]
    by_cases h2 : wgF t.1 t.2.1 (A s) (B s) (m s) = 0
    · rw [if_pos h2]
      exact Or.inl (if_pos rfl)
    · rw [if_neg h2]
      rw [show (t.1, t.2.1, upd t.2.2 s (wgF t.1 t.2.1 (A s) (B s) (m s))).2.2 s = wgF t.1 t.2.1 (A s) (B s) (m s) from if_pos rfl]
      rcases wg_val t.1 t.2.1 (A s) (B s) (m s) with q | q | q | q
      · exact Or.inl q
      · exact Or.inr (Or.inl q)
      · exact Or.inr (Or.inr (Or.inl q))
      · exact Or.inr (Or.inr (Or.inr (Or.inl q)))
  · rw [if_neg h1]
    exact Or.inr (Or.inr (Or.inr (Or.inr (if_pos rfl))))
theorem jg_val {A B : Nat → Nat} {m : Nat → Int64} {out : Nat → Int32} {t : jgT} {n s : Nat} (hs : s < n) : ((jgR A B m out t n).2.2 s = 0 ∨ (jgR A B m out t n).2.2 s = 1) ↔ ¬ (1 : Int32) < (jgR A B m out t n).2.2 s := by
  rw [jgR_keep A B m out t s n hs]
  rw [jgR]
  rcases jgS_val A B m out s (jgR A B m out t s) with q | q | q | q | q <;> rw [q] <;> decide
/-- which statements stand, by their verdicts -/
def sdV (V : Nat → Int32) (n s : Nat) : Bool := decide (s < n) && !decide ((1 : Int32) < V s)
/-- the class has judged what is told -/
def cJ (h : ia_H) (t : tdT) : Prop := (∃ L O V, h.1 27 = (jgD t (jgL L 41, jgO O 41, V)).1 ∧ h.2 28 = (jgD t (jgL L 41, jgO O 41, V)).2.1 ∧ h.1 26 = (jgD t (jgL L 41, jgO O 41, V)).2.2) ∧ wbOk h (cst (sdV (h.1 26) (tdN t))) (csr (tdA t) (tdB t)) (cdt (tdA t) (tdB t)) (tdG t) ∧ ∀ s, s < 120 → sdV (h.1 26) (tdN t) s = false → h.1 30 (2 * s) = -1
def mJ (h : ia_H) (t : tdT) : Prop := ∃ L O V, h.1 60 = (mgD t (jgL L (tdG t), jgO O (tdG t), V)).1 ∧ h.2 61 = (mgD t (jgL L (tdG t), jgO O (tdG t), V)).2.1 ∧ h.1 62 = (mgD t (jgL L (tdG t), jgO O (tdG t), V)).2.2
def frA (h H : ia_H) : Prop := (∀ y, y ≠ 26 → y ≠ 27 → (y < 30 ∨ 33 < y) → H.1 y = h.1 y) ∧ ∀ y, y ≠ 28 → H.2 y = h.2 y
theorem hJ_o (h : ia_H) (L : Nat → Int32) (O : Nat → Int64) (V : Nat → Int32) : (∀ y, y ≠ 26 → y ≠ 27 → (hJ h L O V).1 y = h.1 y) ∧ (∀ y, y ≠ 28 → (hJ h L O V).2 y = h.2 y) ∧ (hJ h L O V).1 27 = L ∧ (hJ h L O V).2 28 = O ∧ (hJ h L O V).1 26 = V := by
  refine ⟨fun y h1 h2 => ?_, fun y h1 => ?_, rfl, rfl, rfl⟩
  · show (if y = 26 then V else if y = 27 then L else h.1 y) = h.1 y
    rw [if_neg h1, if_neg h2]
  · show (if y = 28 then O else h.2 y) = h.2 y
    rw [if_neg h1]
theorem v_anew {h : ia_H} {t : tdT} (ht : tdOk t) (hr : cRep h 4 t) : V_ 91 [.ref 0] h (fun r h' => r = none ∧ frA h h' ∧ cJ h' t) := by
  obtain ⟨o1, o2, o3, o4, o5⟩ := ht
  obtain ⟨r1, r2, r3, r4, r5⟩ := hr
  have hA : ∀ s, s < tdN t → h.1 7 s = nI (tdA t s) ∧ tdA t s < 41 := fun s hs => ⟨(r5 s hs).1, by have := (o5 s hs).1; omega⟩
  have hB : ∀ s, s < tdN t → h.1 8 s = nI (tdB t s) ∧ tdB t s < 41 := fun s hs => ⟨(r5 s hs).2.1, by have := (o5 s hs).2.1; omega⟩
  obtain ⟨ra, h1, ev1, z1, z2⟩ := v_judge h (tdN t) o3 r2 (tdA t) (tdB t) hA hB
  have eW : jgW h (tdA t) (tdB t) (tdN t) = jgD t (jgL (h.1 27) 41, jgO (h.2 28) 41, h.1 26) := jgR_congr (fun s hs => ⟨rfl, rfl, (r5 s hs).2.2.1, (r5 s hs).2.2.2⟩)
  rw [eW] at z2
  obtain ⟨k1, k2, k3, k4, k5⟩ := hJ_o h (jgD t (jgL (h.1 27) 41, jgO (h.2 28) 41, h.1 26)).1 (jgD t (jgL (h.1 27) 41, jgO (h.2 28) 41, h.1 26)).2.1 (jgD t (jgL (h.1 27) 41, jgO (h.2 28) 41, h.1 26)).2.2
  rw [← z2] at k1 k2 k3 k4 k5
  have hval : ∀ s, s < tdN t → ((h1.1 26 s = 0 ∨ h1.1 26 s = 1) ↔ ¬ (1 : Int32) < h1.1 26 s) := fun s hs => by
    rw [k5]
    exact jg_val hs
  have hst : ∀ w, w < 240 → (cst (sdV (h1.1 26) (tdN t)) w = true ↔ (w / 2 < tdN t ∧ (h1.1 26 (w / 2) = 0 ∨ h1.1 26 (w / 2) = 1))) := fun w hw => by
    unfold cst sdV
    rw [Bool.and_eq_true, decide_eq_true_eq, Bool.not_eq_true', decide_eq_false_iff_not]
    constructor
    · intro ⟨q1, q2⟩
      exact ⟨q1, (hval _ q1).mpr q2⟩
    · intro ⟨q1, q2⟩
      exact ⟨q1, (hval _ q1).mp q2⟩
  have h7 : h1.1 7 = h.1 7 := k1 7 (by decide) (by decide)
  have h8 : h1.1 8 = h.1 8 := k1 8 (by decide) (by decide)
  have hlead : ∀ w, w < 240 → cst (sdV (h1.1 26) (tdN t)) w = true → ldF h1 (tdN t) w = nI (cdt (tdA t) (tdB t) w) := fun w hw hc => by
    have q := (hst w hw).mp hc
    unfold ldF wvF
    rw [if_pos hw, if_pos q, h7, h8]
    unfold cdt
    by_cases hp : w % 2 = 0
    · rw [if_pos hp, if_pos hp]; exact (hB _ q.1).1
    · rw [if_neg hp, if_neg hp]; exact (hA _ q.1).1
  have hends : ∀ w, w < 240 → cst (sdV (h1.1 26) (tdN t)) w = true → cdt (tdA t) (tdB t) w < tdG t ∧ csr (tdA t) (tdB t) w < tdG t := fun w hw hc => by
    have q := (hst w hw).mp hc
    obtain ⟨g1, g2, -⟩ := o5 _ q.1
    rcases c_ends (tdA t) (tdB t) w with ⟨-, e2, e3⟩ | ⟨-, e2, e3⟩
    · rw [e2, e3]; exact ⟨g2, g1⟩
    · rw [e2, e3]; exact ⟨g1, g2⟩
  have hno : ∀ w, w < 240 → cst (sdV (h1.1 26) (tdN t)) w = false → ldF h1 (tdN t) w = -1 := fun w hw hc => by
    unfold ldF wvF
    rw [if_pos hw, if_neg (fun q => by rw [(hst w hw).mpr q] at hc; cases hc)]
  have hD : ldOk (ldF h1 (tdN t)) (cst (sdV (h1.1 26) (tdN t))) (csr (tdA t) (tdB t)) := by
    intro w hw
    refine ⟨fun hc => ?_, hno w hw⟩
    obtain ⟨g1, g2⟩ := hends w hw hc
    obtain ⟨c1, c2⟩ := c_xor (sdV (h1.1 26) (tdN t)) (tdA t) (tdB t) hw
    refine ⟨by rw [hlead w hw hc]; exact nI_nm1 (by omega), ?_, by omega⟩
    rw [hlead _ (xor1 w hw).2 (c1.trans hc), c2]
  have e47 : h1.1 4 7 = nI (tdN t) := by rw [k1 4 (by decide) (by decide)]; exact r2
  obtain ⟨rb, h2, ev2, y1, Y, y2, y3⟩ := v_weave h1 (tdN t) o3 e47 _ _ hD
  have w26 : h2.1 26 = h1.1 26 := by rw [y3]; rfl
  have w27 : h2.1 27 = h1.1 27 := by rw [y3]; rfl
  have w28 : h2.2 28 = h1.2 28 := by rw [y3]; rfl
  have w30 : h2.1 30 = ldF h1 (tdN t) := by rw [y3]; rfl
  have w31 : h2.1 31 = Y := by rw [y3]; rfl
  have w32 : h2.1 32 = bgF (cst (sdV (h1.1 26) (tdN t))) (csr (tdA t) (tdB t)) (h1.1 32) := by rw [y3]; rfl
  have hfr : frA h h2 := by
    refine ⟨fun y n1 n2 n3 => ?_, fun y n1 => ?_⟩
    · rw [← k1 y n1 n2, y3]
      show (if y = 31 then _ else if y = 33 then _ else if y = 32 then _ else if y = 30 then _ else h1.1 y) = h1.1 y
      rw [if_neg (by omega), if_neg (by omega), if_neg (by omega), if_neg (by omega)]
    · rw [← k2 y n1, y3]
      rfl
  have hcj : cJ h2 t := by
    refine ⟨⟨h.1 27, h.2 28, h.1 26, by rw [w27, k3], by rw [w28, k4], by rw [w26, k5]⟩, ⟨fun w hw hc => ?_, fun j hj => ?_, ?_⟩, fun s hs hq => ?_⟩
    · rw [w26] at hc
      rw [w30]
      exact ⟨hlead w hw hc, (hends w hw hc).1, (hends w hw hc).2⟩
    · rw [w26, w32]
      exact bgF_at hj
    · rw [w26, w31]
      exact y2
    · rw [w26] at hq
      rw [w30]
      refine hno (2 * s) (by omega) ?_
      rw [(c_even _ (tdA t) (tdB t) s).1]
      exact hq
  refine ia_V_in ia_k_X7_judgeAnew [some (.ref 0)] rfl rfl (Nat.le_of_ble_eq_true rfl) rfl ?_
  refine ia_walk (fun _ => false) 50 (fun X hX => ?_)
  conv => whnf
  subst z1 y1
  refine Exists.intro (_, _) (And.intro ev1 ?_)
  conv => whnf
  refine Exists.intro (_, _) (And.intro ev2 ?_)
  conv => whnf
  exact ⟨rfl, hfr, hcj⟩
def frN (h H : ia_H) : Prop := (∀ y, y ≠ 60 → y ≠ 62 → H.1 y = h.1 y) ∧ ∀ y, y ≠ 61 → H.2 y = h.2 y
theorem m_anew {h : ia_H} {t : tdT} (ht : tdOk t) (hr : mRep h t) : V_ 117 [.ref 52] h (fun r h' => r = none ∧ frN h h' ∧ mJ h' t) := by
  obtain ⟨o1, o2, o3, o4, o5⟩ := ht
  obtain ⟨r1, r2, r4, r5⟩ := hr
  have hA : ∀ s, s < tdN t → h.1 56 s = nI (tdA t s) ∧ tdA t s < tdG t := fun s hs => ⟨(r5 s hs).1, (o5 s hs).1⟩
  have hB : ∀ s, s < tdN t → h.1 57 s = nI (tdB t s) ∧ tdB t s < tdG t := fun s hs => ⟨(r5 s hs).2.1, (o5 s hs).2.1⟩
  obtain ⟨ra, h1, ev1, z1, z2⟩ := v_judges h (tdN t) (tdG t) o3 o2 r2 r1 (tdA t) (tdB t) hA hB
  have eW : mgW h (tdG t) (tdA t) (tdB t) (tdN t) = mgD t (jgL (h.1 60) (tdG t), jgO (h.2 61) (tdG t), h.1 62) := mgR_congr (fun s hs => ⟨rfl, rfl, (r5 s hs).2.2.1, (r5 s hs).2.2.2⟩)
  rw [eW] at z2
  refine ⟨ra, h1, ev1, z1, ⟨fun y n1 n2 => ?_, fun y n1 => ?_⟩, h.1 60, h.2 61, h.1 62, ?_, ?_, ?_⟩
  · rw [z2]
    show (if y = 62 then _ else if y = 60 then _ else h.1 y) = h.1 y
    rw [if_neg n2, if_neg n1]
  · rw [z2]
    show (if y = 61 then _ else h.2 y) = h.2 y
    rw [if_neg n1]
  · rw [z2]; rfl
  · rw [z2]; rfl
  · rw [z2]; rfl
/-- what questions need of what is judged -/
def dvOk (h : ia_H) (t : tdT) : Prop := ∃ sd A B, wOk h (tdN t) (tdG t) sd A B ∧ gpOk h (tdG t) (tdN t) ∧ cnOk h (tdG t) sd A B
theorem wbOk_congr {h : ia_H} {sd sd2 : Nat → Bool} {A A2 B B2 : Nat → Nat} {m : Nat} (hs : ∀ s, s < 120 → sd s = sd2 s) (hab : ∀ s, s < 120 → sd s = true → A s = A2 s ∧ B s = B2 s) (hw : wbOk h (cst sd) (csr A B) (cdt A B) m) : wbOk h (cst sd2) (csr A2 B2) (cdt A2 B2) m := by
  have e1 : ∀ w, w < 240 → cst sd2 w = cst sd w := fun w hw => (hs (w / 2) (by omega)).symm
  have e2 : ∀ w, w < 240 → cst sd w = true → csr A2 B2 w = csr A B w ∧ cdt A2 B2 w = cdt A B w := fun w hw hc => by
    obtain ⟨q1, q2⟩ := hab (w / 2) (by omega) hc
    unfold csr cdt
    rw [q1, q2]
    exact ⟨rfl, rfl⟩
  have e3 : ∀ g w, w ≤ 240 → wcn (cst sd2) (csr A2 B2) g w = wcn (cst sd) (csr A B) g w := by
    intro g w
    induction w with
    | zero => intro _; rfl
    | succ w ih =>
      intro hw
      have ih := ih (by omega)
      by_cases hc : cst sd w = true
      · by_cases hg : csr A B w = g
        · have t1 := wcn_t (st := cst sd) (sr := csr A B) hc
          have t2 := wcn_t (st := cst sd2) (sr := csr A2 B2) ((e1 w (by omega)).trans hc)
          rw [(e2 w (by omega) hc).1] at t2
          rw [hg] at t1 t2
          rw [t1, t2, ih]
        · rw [wcn_o (fun q => hg q.2), wcn_o (st := cst sd2) (sr := csr A2 B2) (fun q => hg ((e2 w (by omega) hc).1 ▸ q.2)), ih]
      · rw [wcn_o (fun q => hc q.1), wcn_o (st := cst sd2) (sr := csr A2 B2) (fun q => hc ((e1 w (by omega)) ▸ q.1)), ih]
  have e4 : ∀ j, wsm (cst sd2) (csr A2 B2) j = wsm (cst sd) (csr A B) j := by
    intro j
    induction j with
    | zero => rfl
    | succ j ih =>
      show wsm (cst sd2) (csr A2 B2) j + wcn (cst sd2) (csr A2 B2) j 240 = wsm (cst sd) (csr A B) j + wcn (cst sd) (csr A B) j 240
      rw [ih, e3 j 240 (Nat.le_refl _)]
  refine ⟨fun w h1 h2 => ?_, fun j hj => ?_, fun v h1 h2 => ?_⟩
  · rw [e1 w h1] at h2
    obtain ⟨q1, q2⟩ := e2 w h1 h2
    rw [q1, q2]
    exact hw.1 w h1 h2
  · rw [e4]; exact hw.2.1 j hj
  · rw [e1 v h1] at h2
    obtain ⟨q1, q2⟩ := e2 v h1 h2
    rw [q1, e4, e3 _ v (by omega)]
    exact hw.2.2 v h1 h2
theorem dv_of {h : ia_H} {t : tdT} (ht : tdOk t) (hc : cRep h 4 t) (hm : mRep h t) (cj : cJ h t) (mj : mJ h t) : dvOk h t := by
  obtain ⟨o1, o2, o3, o4, o5⟩ := ht
  obtain ⟨c1, c2, c3, c4, c5⟩ := hc
  obtain ⟨m1, m2, m4, m5⟩ := hm
  obtain ⟨⟨L, O, V, j1, j2, j3⟩, j4, j5⟩ := cj
  obtain ⟨L2, O2, V2, k1, k2, k3⟩ := mj
  have hE := jgE_n o2 (fun s hs => (o5 s hs).1) (fun s hs => (o5 s hs).2.1) (fun s _ => rfl) (fun s _ => rfl) (m := tdM t) (m2 := tdM t) (out := tdR t) (out2 := tdR t) (fun s hs => (o5 s hs).2.2.2) (jgE_0 (tdG t) o2 L L2 O O2 V V2) (tdN t) (Nat.le_refl _)
  have hgp : gpOk h (tdG t) (tdN t) := by
    unfold gpOk
    have e1 : (h.1 27, h.2 28, h.1 26) = jgD t (jgL L 41, jgO O 41, V) := by rw [j1, j2, j3]
    have e2 : (h.1 60, h.2 61, h.1 62) = mgD t (jgL L2 (tdG t), jgO O2 (tdG t), V2) := by rw [k1, k2, k3]
    rw [e1, e2]
    exact hE
  obtain ⟨l, -, -, -, g4, g5⟩ := hgp
  have g5 : ∀ k, k < tdN t → h.1 62 k = h.1 26 k := g5
  have g4 : ∀ g, g < tdG t → h.1 60 g = h.1 27 g ∧ h.2 61 g = h.2 28 g := g4
  have hgp : gpOk h (tdG t) (tdN t) := by
    unfold gpOk
    have e1 : (h.1 27, h.2 28, h.1 26) = jgD t (jgL L 41, jgO O 41, V) := by rw [j1, j2, j3]
    have e2 : (h.1 60, h.2 61, h.1 62) = mgD t (jgL L2 (tdG t), jgO O2 (tdG t), V2) := by rw [k1, k2, k3]
    rw [e1, e2]
    exact hE
  let A : Nat → Nat := fun s => if s < tdN t then tdA t s else 0
  let B : Nat → Nat := fun s => if s < tdN t then tdB t s else 1
  have eA : ∀ s, s < tdN t → A s = tdA t s := fun s hs => if_pos hs
  have eB : ∀ s, s < tdN t → B s = tdB t s := fun s hs => if_pos hs
  let sd : Nat → Bool := sdV (h.1 26) (tdN t)
  have hlt : ∀ s, sd s = true → s < tdN t := fun s q => by
    have q : (decide (s < tdN t) && !decide ((1 : Int32) < h.1 26 s)) = true := q
    rw [Bool.and_eq_true, decide_eq_true_eq] at q
    exact q.1
  have hsd : ∀ s, s < tdN t → sd s = !decide ((1 : Int32) < h.1 62 s) := fun s hs => by
    show (decide (s < tdN t) && !decide ((1 : Int32) < h.1 26 s)) = _
    rw [decide_eq_true hs, Bool.true_and, g5 s hs]
  have hmd : mdOk h (tdN t) (tdG t) sd A B := by
    refine ⟨o3, o2, m2, m1, fun s hs => ?_, fun s hs => ?_⟩
    · obtain ⟨a1, a2, a3, -⟩ := o5 s hs
      obtain ⟨b1, b2, -⟩ := m5 s hs
      rw [eA s hs, eB s hs]
      exact ⟨b1, a1, b2, a2, a3, hsd s hs⟩
    · show (decide (s < tdN t) && _) = false
      rw [decide_eq_false (by omega), Bool.false_and]
  refine ⟨sd, A, B, ⟨hmd, c2, c1, fun s hs => ?_, ?_, j5, fun s hs => ?_⟩, hgp, cn_ok hmd ?_⟩
  · obtain ⟨b1, b2, -⟩ := c5 s hs
    rw [eA s hs, eB s hs]
    exact ⟨b1, b2, (g5 s hs).symm⟩
  · exact wbOk_congr (fun s _ => rfl) (fun s _ q => ⟨(eA s (hlt s q)).symm, (eB s (hlt s q)).symm⟩) j4
  · by_cases q : s < tdN t
    · rw [eA s q, eB s q]; exact (o5 s q).2.2.1
    · rw [show A s = 0 from if_neg q, show B s = 1 from if_neg q]; decide
  · have hcn := cn_jg (A := A) (B := B) (m := tdM t) (out := tdR t) (t := (jgL L 41, jgO O 41, V)) (G := tdG t) (n := tdN t) o2 (fun s hs => by
      rw [eA s hs, eB s hs]
      exact ⟨(o5 s hs).1, (o5 s hs).2.1⟩) (sd := sd) (fun s hs => by
        rw [jgR_congr (A2 := tdA t) (B2 := tdB t) (m2 := tdM t) (out2 := tdR t) (fun s hs => ⟨eA s hs, eB s hs, rfl, rfl⟩), ← j3, ← g5 s hs]
        exact hsd s hs) (cnL_0 (fun x o hx ho q => by
          have q : (if x < 41 then nI x else L x) = if o < 41 then nI o else L o := q
          rw [if_pos (by omega), if_pos (by omega)] at q
          exact nI_inj (by omega) (by omega) q)) (tdN t) (Nat.le_refl _)
    rw [jgR_congr (A2 := tdA t) (B2 := tdB t) (m2 := tdM t) (out2 := tdR t) (fun s hs => ⟨eA s hs, eB s hs, rfl, rfl⟩), ← j1] at hcn
    intro x o hx ho
    rw [(g4 x hx).1, (g4 o ho).1]
    exact hcn x o hx ho
