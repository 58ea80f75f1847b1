/-! trees of statements that stand; one statement taken away -/
def trs (sd : Nat → Bool) (A B : Nat → Nat) (n G : Nat) (p e tr : Nat → Nat) : Prop := frs p e G ∧ (∀ x, x < G → ¬ e x = 0 → tr x < n ∧ sd (tr x) = true ∧ ((A (tr x) = x ∧ B (tr x) = p x) ∨ (B (tr x) = x ∧ A (tr x) = p x))) ∧ (∀ s, s < n → A s < G ∧ B s < G) ∧ ∀ s, s < n → sd s = true → rto p e (A s) = rto p e (B s)
def sdO (sd : Nat → Bool) (s : Nat) : Nat → Bool := fun t => sd t && !decide (t = s)
theorem sdO_t {sd : Nat → Bool} {s t : Nat} (h : sd t = true) (hs : t ≠ s) : sdO sd s t = true := by simp [sdO, h, hs]
theorem sdO_i {sd : Nat → Bool} {s t : Nat} (h : sdO sd s t = true) : sd t = true ∧ t ≠ s := by
  simp [sdO] at h
  exact h
theorem cnE_sy {sd : Nat → Bool} {A B : Nat → Nat} {n o x : Nat} (h : cnE sd A B n o x) : cnE sd A B n x o := h (fun y => cnE sd A B n y o) cnE_base (fun s h1 h2 q => cnE_tr (cnE_bw s h1 h2 cnE_base) q) (fun s h1 h2 q => cnE_tr (cnE_fw s h1 h2 cnE_base) q)
theorem cnE_O {sd : Nat → Bool} {A B : Nat → Nat} {n o x s : Nat} (h : cnE (sdO sd s) A B n o x) : cnE sd A B n o x := h (fun y => cnE sd A B n o y) cnE_base (fun t h1 h2 q => cnE_fw t h1 (sdO_i h2).1 q) (fun t h1 h2 q => cnE_bw t h1 (sdO_i h2).1 q)
theorem nt_e {sd : Nat → Bool} {A B : Nat → Nat} {n G : Nat} {p e tr : Nat → Nat} (ht : trs sd A B n G p e tr) {x : Nat} (hx : x < G) (he : ¬ e x = 0) : e x = e (p x) + 1 := ((ht.1 x hx).2).elim (fun q => absurd q he) id
theorem tr_inj {sd : Nat → Bool} {A B : Nat → Nat} {n G : Nat} {p e tr : Nat → Nat} (ht : trs sd A B n G p e tr) {x y : Nat} (hx : x < G) (hy : y < G) (ex : ¬ e x = 0) (ey : ¬ e y = 0) (h : tr x = tr y) : x = y := by
  obtain ⟨-, -, h1⟩ := ht.2.1 x hx ex
  obtain ⟨-, -, h2⟩ := ht.2.1 y hy ey
  have d1 := nt_e ht hx ex
  have d2 := nt_e ht hy ey
  rw [h] at h1
  rcases h1 with ⟨a1, a2⟩ | ⟨a1, a2⟩ <;> rcases h2 with ⟨b1, b2⟩ | ⟨b1, b2⟩
  · exact a1.symm.trans b1
  · have q1 : x = p y := a1.symm.trans b2
    have q2 : y = p x := b1.symm.trans a2
    rw [← q2] at d1
    rw [← q1] at d2
    omega
  · have q1 : x = p y := a1.symm.trans b2
    have q2 : y = p x := b1.symm.trans a2
    rw [← q2] at d1
    rw [← q1] at d2
    omega
  · exact a1.symm.trans b1
theorem tr_up {sd : Nat → Bool} {A B : Nat → Nat} {n G : Nat} {p e tr : Nat → Nat} (ht : trs sd A B n G p e tr) {x s : Nat} (hx : x < G) (ex : ¬ e x = 0) (hs : tr x ≠ s) : cnE (sdO sd s) A B n (p x) x := by
  obtain ⟨h1, h2, h3⟩ := ht.2.1 x hx ex
  have h4 := sdO_t h2 hs
  rcases h3 with ⟨q1, q2⟩ | ⟨q1, q2⟩
  · have q := cnE_bw (o := B (tr x)) (A := A) (B := B) (tr x) h1 h4 cnE_base
    rw [q1, q2] at q
    exact q
  · have q := cnE_fw (o := A (tr x)) (A := A) (B := B) (tr x) h1 h4 cnE_base
    rw [q1, q2] at q
    exact q
theorem tr_all {sd : Nat → Bool} {A B : Nat → Nat} {n G : Nat} {p e tr : Nat → Nat} (ht : trs sd A B n G p e tr) {s : Nat} (hs : ∀ y, y < G → ¬ e y = 0 → tr y ≠ s) : ∀ (k x : Nat), x < G → e x = k → cnE (sdO sd s) A B n (rto p e x) x
  | 0, x, hx, hk => by rw [rto_r hk]; exact cnE_base
  | k + 1, x, hx, hk => by
    obtain ⟨h1, h2, h3⟩ := frs_s ht.1 hx hk
    rw [rto_s h2]
    exact cnE_tr (tr_all ht hs k (p x) h1 h3) (tr_up ht hx (by omega) (hs x hx (by omega)))
theorem tr_out {sd : Nat → Bool} {A B : Nat → Nat} {n G : Nat} {p e tr : Nat → Nat} (ht : trs sd A B n G p e tr) {c : Nat} (hc : c < G) (ec : ¬ e c = 0) : ∀ (k x : Nat), x < G → e x = k → sb p e tt c x = false → cnE (sdO sd (tr c)) A B n (rto p e x) x
  | 0, x, hx, hk, _ => by rw [rto_r hk]; exact cnE_base
  | k + 1, x, hx, hk, hq => by
    obtain ⟨h1, h2, h3⟩ := frs_s ht.1 hx hk
    have hxc : x ≠ c := fun q => by rw [q, sb_self] at hq; cases hq
    rw [sb_s h2] at hq
    simp only [hxc, decide_false, Bool.false_or, Bool.true_and] at hq
    rw [rto_s h2]
    exact cnE_tr (tr_out ht hc ec k (p x) h1 h3 hq) (tr_up ht hx (by omega) (fun q => hxc (tr_inj ht hx hc (by omega) ec q)))
theorem tr_in {sd : Nat → Bool} {A B : Nat → Nat} {n G : Nat} {p e tr : Nat → Nat} (ht : trs sd A B n G p e tr) {c : Nat} (hc : c < G) (ec : ¬ e c = 0) : ∀ (k x : Nat), x < G → e x = k → sb p e tt c x = true → cnE (sdO sd (tr c)) A B n c x
  | 0, x, hx, hk, hq => by
    rw [sb_r hk] at hq
    rw [of_decide_eq_true hq]
    exact cnE_base
  | k + 1, x, hx, hk, hq => by
    by_cases hxc : x = c
    · rw [hxc]
      exact cnE_base
    · obtain ⟨h1, h2, h3⟩ := frs_s ht.1 hx hk
      rw [sb_s h2] at hq
      simp only [hxc, decide_false, Bool.false_or, Bool.true_and] at hq
      exact cnE_tr (tr_in ht hc ec k (p x) h1 h3 hq) (tr_up ht hx (by omega) (fun q => hxc (tr_inj ht hx hc (by omega) ec q)))
/-- on no tree -/
def ntr (G : Nat) (e tr : Nat → Nat) (t : Nat) : Prop := ∀ y, y < G → ¬ e y = 0 → tr y ≠ t
theorem br_1 {sd : Nat → Bool} {A B : Nat → Nat} {n G : Nat} {p e tr : Nat → Nat} (ht : trs sd A B n G p e tr) {c a b : Nat} (hc : c < G) (ec : ¬ e c = 0) (ha : a < G) (hb : b < G) (hab : rto p e a = rto p e b) (h1 : sb p e tt c a = true) (h2 : sb p e tt c b = false) (h3 : cnE (sdO sd (tr c)) A B n a b) : cnE (sdO sd (tr c)) A B n c (p c) := by
  have q1 := tr_in ht hc ec _ a ha rfl h1
  have q2 := tr_out ht hc ec _ b hb rfl h2
  have hp := (ht.1 c hc).1
  have q3 := tr_out ht hc ec _ (p c) hp rfl (sb_par ht.1 hc (nt_e ht hc ec))
  rw [← hab, sb_rto ht.1 _ a ha rfl h1, rto_s (nt_e ht hc ec)] at q2
  exact cnE_tr q1 (cnE_tr h3 (cnE_tr (cnE_sy q2) q3))
theorem br_ring {sd : Nat → Bool} {A B : Nat → Nat} {n G : Nat} {p e tr : Nat → Nat} (ht : trs sd A B n G p e tr) {c t : Nat} (hc : c < G) (ec : ¬ e c = 0) (t1 : t < n) (t2 : sd t = true) (t3 : ntr G e tr t) (hx : sb p e tt c (A t) ≠ sb p e tt c (B t)) : cnE (sdO sd (tr c)) A B n c (p c) := by
  obtain ⟨hA, hB⟩ := ht.2.2.1 t t1
  have hr := ht.2.2.2 t t1 t2
  have hne := sdO_t t2 (fun q => t3 c hc ec q.symm : t ≠ tr c)
  cases h1 : sb p e tt c (A t) <;> cases h2 : sb p e tt c (B t)
  · rw [h1, h2] at hx; exact absurd rfl hx
  · exact br_1 ht hc ec hB hA hr.symm h2 h1 (cnE_bw t t1 hne cnE_base)
  · exact br_1 ht hc ec hA hB hr h1 h2 (cnE_fw t t1 hne cnE_base)
  · rw [h1, h2] at hx; exact absurd rfl hx
theorem br_no {sd : Nat → Bool} {A B : Nat → Nat} {n G : Nat} {p e tr : Nat → Nat} (ht : trs sd A B n G p e tr) {c : Nat} (hc : c < G) (ec : ¬ e c = 0) (hno : ∀ t, t < n → sd t = true → ntr G e tr t → sb p e tt c (A t) = sb p e tt c (B t)) {x : Nat} (h : cnE (sdO sd (tr c)) A B n c x) : sb p e tt c x = true := by
  have hall : ∀ t, t < n → sdO sd (tr c) t = true → sb p e tt c (A t) = sb p e tt c (B t) := by
    intro t t1 t2
    obtain ⟨t3, t4⟩ := sdO_i t2
    by_cases hn : ntr G e tr t
    · exact hno t t1 t3 hn
    · obtain ⟨y, hy⟩ := Classical.not_forall.mp hn
      obtain ⟨hyG, hy⟩ := Classical.not_imp.mp hy
      obtain ⟨ey, hy⟩ := Classical.not_imp.mp hy
      have hy := Classical.not_not.mp hy
      have hyc : ¬ y = c := fun q => t4 (by rw [← hy, q])
      have e1 : sb p e tt c y = sb p e tt c (p y) := by
        rw [sb_s (nt_e ht hyG ey)]
        simp [hyc]
      obtain ⟨-, -, h3⟩ := ht.2.1 y hyG ey
      rw [hy] at h3
      rcases h3 with ⟨q1, q2⟩ | ⟨q1, q2⟩
      · rw [q1, q2, e1]
      · rw [q1, q2, e1]
  exact h (fun y => sb p e tt c y = true) (sb_self c) (fun t t1 t2 q => (hall t t1 t2) ▸ q) (fun t t1 t2 q => (hall t t1 t2).symm ▸ q)
theorem cn_split {sd : Nat → Bool} {A B : Nat → Nat} {n s x : Nat} (h : cnE sd A B n (A s) x) : cnE (sdO sd s) A B n (A s) x ∨ cnE (sdO sd s) A B n (B s) x := by
  refine h (fun y => cnE (sdO sd s) A B n (A s) y ∨ cnE (sdO sd s) A B n (B s) y) (Or.inl cnE_base) (fun t t1 t2 q => ?_) (fun t t1 t2 q => ?_)
  · by_cases hts : t = s
    · rw [hts]
      exact Or.inr cnE_base
    · exact q.elim (fun q => Or.inl (cnE_fw t t1 (sdO_t t2 hts) q)) (fun q => Or.inr (cnE_fw t t1 (sdO_t t2 hts) q))
  · by_cases hts : t = s
    · rw [hts]
      exact Or.inl cnE_base
    · exact q.elim (fun q => Or.inl (cnE_bw t t1 (sdO_t t2 hts) q)) (fun q => Or.inr (cnE_bw t t1 (sdO_t t2 hts) q))
theorem len_ct {G : Nat} : ∀ {q : List Nat}, q.Nodup → (∀ g ∈ q, g < G) → q.length = ct (fun x => decide (x ∈ q)) G
  | [], _, _ => (ct_none (fun k _ => by simp)).symm
  | a :: q, hn, h => by
    have hn2 := List.nodup_cons.mp hn
    have ih := len_ct (G := G) hn2.2 (fun g hg => h g (List.mem_cons_of_mem _ hg))
    rw [List.length_cons, ih, ct_congr (p := fun x => decide (x ∈ a :: q)) (q := fun x => decide (x = a) || decide (x ∈ q)) (fun k _ => by simp)]
    rw [ct_or (fun x hx q2 => hn2.1 (by
      have q3 := of_decide_eq_true q2.1
      rw [← q3]
      exact of_decide_eq_true q2.2)), ct_sg (h a List.mem_cons_self), Nat.add_comm]
/-- what the search needs to know -/
def grOk (sd : Nat → Bool) (A B : Nat → Nat) (n G : Nat) : Prop := G ≤ 41 ∧ n ≤ 120 ∧ (∀ s, n ≤ s → sd s = false) ∧ ∀ w, w < 240 → cst sd w = true → cdt A B w < G
theorem grOk_O {sd : Nat → Bool} {A B : Nat → Nat} {n G : Nat} (h : grOk sd A B n G) (s : Nat) : grOk (sdO sd s) A B n G := ⟨h.1, h.2.1, fun t ht => by simp [sdO, h.2.2.1 t ht], fun w hw hc => h.2.2.2 w hw (sdO_i hc).1⟩
theorem ch_in {sd : Nat → Bool} {A B : Nat → Nat} {n G : Nat} (h : grOk sd A B n G) {o : Nat} (ho : o < G) (x : Nat) : x ∈ (chS sd A B o).1 ↔ cnE sd A B n o x := (cn_bfs h.1 h.2.1 h.2.2.1 h.2.2.2 ho x).symm
theorem ch_len {sd : Nat → Bool} {A B : Nat → Nat} {n G : Nat} (h : grOk sd A B n G) {o : Nat} (ho : o < G) : (chS sd A B o).1.length = ct (fun x => decide (x ∈ (chS sd A B o).1)) G := by
  obtain ⟨ok, -⟩ := bsF_all (sr := csr A B) (rm := tt) h.1 h.2.2.2 ho
  exact len_ct ok.1 (fun g hg => (ok.2.1 g hg).1)
theorem ch_le {sd : Nat → Bool} {A B : Nat → Nat} {n G : Nat} (h : grOk sd A B n G) {o : Nat} (ho : o < G) : (chS sd A B o).1.length ≤ G := by
  rw [ch_len h ho]
  exact ct_le _ _
theorem ch_sum {sd : Nat → Bool} {A B : Nat → Nat} {n G : Nat} (h : grOk sd A B n G) {s : Nat} (hs : s < n) (h1 : sd s = true) (hA : A s < G) (hB : B s < G) (hn : ¬ cnE (sdO sd s) A B n (A s) (B s)) : (chS sd A B (A s)).1.length = (chS (sdO sd s) A B (A s)).1.length + (chS (sdO sd s) A B (B s)).1.length := by
  have h2 := grOk_O h s
  rw [ch_len h hA, ch_len h2 hA, ch_len h2 hB, ← ct_or (fun x _ q => hn (cnE_tr ((ch_in h2 hA x).mp (of_decide_eq_true q.1)) (cnE_sy ((ch_in h2 hB x).mp (of_decide_eq_true q.2)))))]
  refine ct_congr (fun x _ => ?_)
  have : x ∈ (chS sd A B (A s)).1 ↔ (x ∈ (chS (sdO sd s) A B (A s)).1 ∨ x ∈ (chS (sdO sd s) A B (B s)).1) := by
    rw [ch_in h hA, ch_in h2 hA, ch_in h2 hB]
    exact ⟨cn_split, fun q => q.elim cnE_O (fun q => cnE_tr (cnE_fw s hs h1 cnE_base) (cnE_O q))⟩
  by_cases q1 : x ∈ (chS (sdO sd s) A B (A s)).1 <;> by_cases q2 : x ∈ (chS (sdO sd s) A B (B s)).1 <;> simp [this, q1, q2]
theorem ch_eqv {sd : Nat → Bool} {A B : Nat → Nat} {n G : Nat} (h : grOk sd A B n G) {a b : Nat} (ha : a < G) (hb : b < G) (hc : cnE sd A B n a b) : (chS sd A B a).1.length = (chS sd A B b).1.length := by
  rw [ch_len h ha, ch_len h hb]
  refine ct_congr (fun x _ => ?_)
  have : x ∈ (chS sd A B a).1 ↔ x ∈ (chS sd A B b).1 := by
    rw [ch_in h ha, ch_in h hb]
    exact ⟨fun q => cnE_tr (cnE_sy hc) q, fun q => cnE_tr hc q⟩
  simp only [this]
/-- what lies below a gauge that is on no ring is what it leads to when its statement is taken away -/
theorem cb_no {sd : Nat → Bool} {A B : Nat → Nat} {n G : Nat} {p e tr : Nat → Nat} (h : grOk sd A B n G) (ht : trs sd A B n G p e tr) {c : Nat} (hc : c < G) (ec : ¬ e c = 0) (hno : ∀ t, t < n → sd t = true → ntr G e tr t → sb p e tt c (A t) = sb p e tt c (B t)) : cb p e G tt c = (chS (sdO sd (tr c)) A B c).1.length := by
  have h2 := grOk_O h (tr c)
  rw [ch_len h2 hc]
  refine ct_congr (fun x hx => ?_)
  have : x ∈ (chS (sdO sd (tr c)) A B c).1 ↔ sb p e tt c x = true := by
    rw [ch_in h2 hc]
    exact ⟨fun q => br_no ht hc ec hno q, fun q => tr_in ht hc ec _ x hx rfl q⟩
  by_cases q : sb p e tt c x = true
  · rw [q, decide_eq_true (this.mpr q)]
  · rw [decide_eq_false (fun z => q (this.mp z))]
    simpa using q
theorem cb_rt {sd : Nat → Bool} {A B : Nat → Nat} {n G : Nat} {p e tr : Nat → Nat} (h : grOk sd A B n G) (ht : trs sd A B n G p e tr) {c : Nat} (hc : c < G) : cb p e G tt (rto p e c) = (chS sd A B c).1.length := by
  obtain ⟨hr, er⟩ := rto_ok ht.1 _ c hc rfl
  have hall : ∀ x, x < G → cnE sd A B n (rto p e x) x := fun x hx => cnE_O (tr_all (s := n) ht (fun y hy ey => by
    have := (ht.2.1 y hy ey).1
    omega) _ x hx rfl)
  rw [← ch_eqv h hr hc (hall c hc), ch_len h hr]
  refine ct_congr (fun x hx => ?_)
  have : x ∈ (chS sd A B (rto p e c)).1 ↔ sb p e tt (rto p e c) x = true := by
    rw [ch_in h hr, sb_rt ht.1 er _ x hx rfl]
    constructor
    · intro q
      refine q (fun y => rto p e y = rto p e c) (rto_r er) (fun t t1 t2 q => ?_) (fun t t1 t2 q => ?_)
      · rw [← ht.2.2.2 t t1 t2]; exact q
      · rw [ht.2.2.2 t t1 t2]; exact q
    · intro q
      rw [← q]
      exact hall x hx
  by_cases q : sb p e tt (rto p e c) x = true
  · rw [q, decide_eq_true (this.mpr q)]
  · rw [decide_eq_false (fun z => q (this.mp z))]
    simpa using q
/-- what the reference says of a statement: how many twos rely on it -/
noncomputable def rlM (sd : Nat → Bool) (A B : Nat → Nat) (s : Nat) : Int32 := if sd s = true then (if B s ∈ (chS (sdO sd s) A B (A s)).1 then 0 else nI (chS (sdO sd s) A B (A s)).1.length * (nI (chS sd A B (A s)).1.length - nI (chS (sdO sd s) A B (A s)).1.length)) else 0
theorem rl_ab (a b : Nat) : nI a * (nI (a + b) - nI a) = nI a * nI b := by
  rw [show nI (a + b) - nI a = nI b by rw [← nI_add, Int32.add_comm, Int32.add_sub_cancel]]
theorem rl_tree {sd : Nat → Bool} {A B : Nat → Nat} {n G : Nat} {p e tr : Nat → Nat} (h : grOk sd A B n G) (ht : trs sd A B n G p e tr) {c : Nat} (hc : c < G) (ec : ¬ e c = 0) (hno : ∀ t, t < n → sd t = true → ntr G e tr t → sb p e tt c (A t) = sb p e tt c (B t)) : rlM sd A B (tr c) = nI (cb p e G tt c) * (nI (cb p e G tt (rto p e c)) - nI (cb p e G tt c)) := by
  obtain ⟨h1, h2, h3⟩ := ht.2.1 c hc ec
  obtain ⟨hA, hB⟩ := ht.2.2.1 _ h1
  have hg2 := grOk_O h (tr c)
  have hp := (ht.1 c hc).1
  have hn : ¬ cnE (sdO sd (tr c)) A B n c (p c) := fun q => by
    have q2 := br_no ht hc ec hno q
    rw [sb_par ht.1 hc (nt_e ht hc ec)] at q2
    cases q2
  have hn2 : ¬ cnE (sdO sd (tr c)) A B n (A (tr c)) (B (tr c)) := by
    rcases h3 with ⟨q1, q2⟩ | ⟨q1, q2⟩
    · rw [q1, q2]; exact hn
    · rw [q1, q2]; exact fun q => hn (cnE_sy q)
  have hsum := ch_sum h h1 h2 hA hB hn2
  unfold rlM
  rw [if_pos h2, if_neg (fun q => hn2 ((ch_in hg2 hA _).mp q)), cb_no h ht hc ec hno, cb_rt h ht hc, hsum, rl_ab]
  have hcomp : (chS sd A B c).1.length = (chS sd A B (A (tr c))).1.length := by
    rcases h3 with ⟨q1, q2⟩ | ⟨q1, q2⟩
    · rw [q1]
    · refine ch_eqv h hc hA ?_
      have := cnE_bw (o := B (tr c)) (A := A) (B := B) (tr c) h1 h2 cnE_base
      rw [q1] at this
      exact this
  rw [hcomp, hsum]
  rcases h3 with ⟨q1, q2⟩ | ⟨q1, q2⟩
  · rw [q1, rl_ab]
  · rw [q1, Nat.add_comm, rl_ab, Int32.mul_comm]
theorem rl_ring {sd : Nat → Bool} {A B : Nat → Nat} {n G : Nat} {p e tr : Nat → Nat} (h : grOk sd A B n G) (ht : trs sd A B n G p e tr) {c t : Nat} (hc : c < G) (ec : ¬ e c = 0) (t1 : t < n) (t2 : sd t = true) (t3 : ntr G e tr t) (hx : sb p e tt c (A t) ≠ sb p e tt c (B t)) : rlM sd A B (tr c) = 0 := by
  obtain ⟨h1, h2, h3⟩ := ht.2.1 c hc ec
  have hA := (ht.2.2.1 _ h1).1
  have hq := br_ring ht hc ec t1 t2 t3 hx
  unfold rlM
  rw [if_pos h2, if_pos ((ch_in (grOk_O h (tr c)) hA _).mpr ?_)]
  rcases h3 with ⟨q1, q2⟩ | ⟨q1, q2⟩
  · rw [q1, q2]; exact hq
  · rw [q1, q2]; exact cnE_sy hq
theorem rl_nt {sd : Nat → Bool} {A B : Nat → Nat} {n G : Nat} {p e tr : Nat → Nat} (h : grOk sd A B n G) (ht : trs sd A B n G p e tr) {s : Nat} (hs : s < n) (hn : ntr G e tr s) : rlM sd A B s = 0 := by
  unfold rlM
  by_cases h1 : sd s = true
  · obtain ⟨hA, hB⟩ := ht.2.2.1 s hs
    have q1 := tr_all ht hn _ (A s) hA rfl
    have q2 := tr_all ht hn _ (B s) hB rfl
    rw [ht.2.2.2 s hs h1] at q1
    rw [if_pos h1, if_pos ((ch_in (grOk_O h s) hA _).mpr (cnE_tr (cnE_sy q1) q2))]
  · rw [if_neg h1]
