/-! forests: parents p, depths e; which gauges lie below one, and how many -/
def sbF (p : Nat → Nat) (D : Nat → Bool) (g : Nat) : Nat → Nat → Bool
  | 0, x => decide (x = g)
  | k + 1, x => decide (x = g) || (D x && sbF p D g k (p x))
/-- g lies at or above x, by gauges of D -/
def sb (p e : Nat → Nat) (D : Nat → Bool) (g x : Nat) : Bool := sbF p D g (e x) x
theorem sb_r {p e : Nat → Nat} {D : Nat → Bool} {g x : Nat} (h : e x = 0) : sb p e D g x = decide (x = g) := by
  unfold sb
  rw [h]
  rfl
theorem sb_s {p e : Nat → Nat} {D : Nat → Bool} {g x : Nat} (h : e x = e (p x) + 1) : sb p e D g x = (decide (x = g) || (D x && sb p e D g (p x))) := by
  unfold sb
  rw [h]
  rfl
def frs (p e : Nat → Nat) (G : Nat) : Prop := ∀ x, x < G → p x < G ∧ (e x = 0 ∨ e x = e (p x) + 1)
theorem frs_s {p e : Nat → Nat} {G x k : Nat} (hf : frs p e G) (hx : x < G) (hk : e x = k + 1) : p x < G ∧ e x = e (p x) + 1 ∧ e (p x) = k := by
  obtain ⟨h1, h2⟩ := hf x hx
  rcases h2 with h2 | h2
  · omega
  · exact ⟨h1, h2, by omega⟩
theorem sb_self {p e : Nat → Nat} {D : Nat → Bool} (g : Nat) : sb p e D g g = true := by
  unfold sb
  cases e g <;> simp [sbF]
theorem sb_out {p e : Nat → Nat} {D : Nat → Bool} {G : Nat} (hf : frs p e G) {g z : Nat} (hz : z < G) (hD : D z = false) : sb p e D g z = decide (z = g) := by
  rcases (hf z hz).2 with h | h
  · exact sb_r h
  · rw [sb_s h, hD]
    simp
theorem sb_dep {p e : Nat → Nat} {D : Nat → Bool} {G : Nat} (hf : frs p e G) {g : Nat} : ∀ (k x : Nat), x < G → e x = k → sb p e D g x = true → x = g ∨ e g < e x
  | 0, x, hx, hk, h => by
    rw [sb_r hk] at h
    exact Or.inl (of_decide_eq_true h)
  | k + 1, x, hx, hk, h => by
    obtain ⟨h1, h2, h3⟩ := frs_s hf hx hk
    rw [sb_s h2] at h
    by_cases hxg : x = g
    · exact Or.inl hxg
    · simp only [hxg, decide_false, Bool.false_or, Bool.and_eq_true] at h
      rcases sb_dep hf k (p x) h1 h3 h.2 with q | q
      · rw [q] at h3
        right
        omega
      · right
        omega
theorem sb_par {p e : Nat → Nat} {D : Nat → Bool} {G : Nat} (hf : frs p e G) {c : Nat} (hc : c < G) (hs : e c = e (p c) + 1) : sb p e D c (p c) = false := by
  cases hq : sb p e D c (p c)
  · rfl
  · rcases sb_dep hf _ (p c) (hf c hc).1 rfl hq with q | q
    · rw [q] at hs
      omega
    · omega
def dpt (D : Nat → Bool) (c : Nat) : Nat → Bool := fun y => decide (y = c) || D y
theorem sb_put {p e : Nat → Nat} {D : Nat → Bool} {G c : Nat} (hf : frs p e G) (hcG : c < G) (hc : e c = e (p c) + 1) (hDc : D c = false) (hDp : D (p c) = false) (x : Nat) : ∀ (k y : Nat), y < G → e y = k → sb p e (dpt D c) x y = (sb p e D x y || (decide (x = p c) && sb p e D c y))
  | 0, y, hy, hk => by
    have hyc : ¬ y = c := fun q => by rw [q] at hk; omega
    rw [sb_r hk, sb_r hk, sb_r hk]
    simp [hyc]
  | k + 1, y, hy, hk => by
    obtain ⟨h1, h2, h3⟩ := frs_s hf hy hk
    have ih := sb_put hf hcG hc hDc hDp x k (p y) h1 h3
    rw [sb_s h2, sb_s (D := D) h2, sb_s (D := D) (g := c) h2, ih]
    by_cases hyc : y = c
    · subst hyc
      have e1 : sb p e D x (p y) = decide (p y = x) := sb_out hf h1 hDp
      have e2 : sb p e D y (p y) = false := sb_par hf hy hc
      rw [e1, e2, hDc]
      have e3 : decide (p y = x) = decide (x = p y) := by
        by_cases q : p y = x
        · simp [q]
        · simp [q, Ne.symm q]
      rw [e3]
      simp [dpt]
    · have e4 : dpt D c y = D y := by simp [dpt, hyc]
      rw [e4, show decide (y = c) = false from decide_eq_false hyc]
      generalize decide (y = x) = b1
      generalize D y = b2
      generalize sb p e D x (p y) = b3
      generalize decide (x = p c) = b4
      generalize sb p e D c (p y) = b5
      cases b1 <;> cases b2 <;> cases b3 <;> cases b4 <;> cases b5 <;> rfl
theorem sb_root {p e : Nat → Nat} {D : Nat → Bool} {G c : Nat} (hf : frs p e G) (hc : e c = 0) (x : Nat) : ∀ (k y : Nat), y < G → e y = k → sb p e (dpt D c) x y = sb p e D x y
  | 0, y, hy, hk => by rw [sb_r hk, sb_r hk]
  | k + 1, y, hy, hk => by
    obtain ⟨h1, h2, h3⟩ := frs_s hf hy hk
    have hyc : ¬ y = c := fun q => by rw [q] at hk; omega
    rw [sb_s h2, sb_s (D := D) h2, sb_root hf hc x k (p y) h1 h3, show dpt D c y = D y by simp [dpt, hyc]]
theorem sb_congr {p e : Nat → Nat} {D D2 : Nat → Bool} {G : Nat} (hf : frs p e G) (hD : ∀ y, y < G → D y = D2 y) (x : Nat) : ∀ (k y : Nat), y < G → e y = k → sb p e D x y = sb p e D2 x y
  | 0, y, hy, hk => by rw [sb_r hk, sb_r hk]
  | k + 1, y, hy, hk => by
    obtain ⟨h1, h2, h3⟩ := frs_s hf hy hk
    rw [sb_s h2, sb_s (D := D2) h2, sb_congr hf hD x k (p y) h1 h3, hD y hy]
theorem sb_dis {p e : Nat → Nat} {D : Nat → Bool} {G c : Nat} (hf : frs p e G) (hcG : c < G) (hc : e c = e (p c) + 1) (hDc : D c = false) (hDp : D (p c) = false) : ∀ (k y : Nat), y < G → e y = k → ¬ (sb p e D (p c) y = true ∧ sb p e D c y = true)
  | 0, y, hy, hk, h => by
    rw [sb_r hk, sb_r hk] at h
    have h2 := of_decide_eq_true h.2
    rw [h2] at hk
    omega
  | k + 1, y, hy, hk, h => by
    obtain ⟨h1, h2, h3⟩ := frs_s hf hy hk
    have hpc : ¬ c = p c := fun q => by rw [← q] at hc; omega
    by_cases hyc : y = c
    · rw [hyc, sb_s hc, hDc] at h
      simp [hpc] at h
    · by_cases hyp : y = p c
      · rw [hyp] at h
        rw [sb_par hf hcG hc] at h
        exact Bool.noConfusion h.2
      · rw [sb_s h2, sb_s (g := c) h2] at h
        simp only [hyc, hyp, decide_false, Bool.false_or, Bool.and_eq_true] at h
        exact sb_dis hf hcG hc hDc hDp k (p y) h1 h3 ⟨h.1.2, h.2.2⟩
theorem ct_or {a b : Nat → Bool} : ∀ {n : Nat}, (∀ x, x < n → ¬ (a x = true ∧ b x = true)) → ct (fun x => a x || b x) n = ct a n + ct b n
  | 0, _ => rfl
  | n + 1, h => by
    have ih := ct_or (a := a) (b := b) (n := n) (fun x hx => h x (by omega))
    have hn := h n (by omega)
    simp only [ct, ih]
    cases ha : a n <;> cases hb : b n <;> simp <;> first | omega | exact absurd ⟨ha, hb⟩ hn
theorem ct_sg {c : Nat} : ∀ {n : Nat}, c < n → ct (fun x => decide (x = c)) n = 1
  | 0, h => by omega
  | n + 1, h => by
    by_cases hc : c = n
    · rw [ct_t (by simp [hc]), ct_none (fun k hk => by simp; omega)]
    · rw [ct_f (by simp; omega), ct_sg (by omega)]
/-- how many lie at or below x, by gauges of D -/
def cb (p e : Nat → Nat) (G : Nat) (D : Nat → Bool) (x : Nat) : Nat := ct (sb p e D x) G
theorem cb_0 {p e : Nat → Nat} {G : Nat} (hf : frs p e G) {x : Nat} (hx : x < G) : cb p e G (fun _ => false) x = 1 := by
  unfold cb
  rw [ct_congr (q := fun y => decide (y = x)) (fun k hk => sb_out hf hk rfl)]
  exact ct_sg hx
theorem cb_put {p e : Nat → Nat} {D : Nat → Bool} {G c : Nat} (hf : frs p e G) (hcG : c < G) (hc : e c = e (p c) + 1) (hDc : D c = false) (hDp : D (p c) = false) (x : Nat) : cb p e G (dpt D c) x = if x = p c then cb p e G D (p c) + cb p e G D c else cb p e G D x := by
  unfold cb
  by_cases hx : x = p c
  · rw [if_pos hx, ct_congr (q := fun y => sb p e D (p c) y || sb p e D c y) (fun y hy => by rw [sb_put hf hcG hc hDc hDp x _ y hy rfl, hx]; simp)]
    exact ct_or (fun y hy => sb_dis hf hcG hc hDc hDp _ y hy rfl)
  · rw [if_neg hx]
    exact ct_congr (fun y hy => by rw [sb_put hf hcG hc hDc hDp x _ y hy rfl]; simp [hx])
theorem cb_root {p e : Nat → Nat} {D : Nat → Bool} {G c : Nat} (hf : frs p e G) (hc : e c = 0) (x : Nat) : cb p e G (dpt D c) x = cb p e G D x := ct_congr (fun y hy => sb_root hf hc x _ y hy rfl)
theorem cb_congr {p e : Nat → Nat} {D D2 : Nat → Bool} {G : Nat} (hf : frs p e G) (hD : ∀ y, y < G → D y = D2 y) (x : Nat) : cb p e G D x = cb p e G D2 x := ct_congr (fun y hy => sb_congr hf hD x _ y hy rfl)
theorem cb_le (p e : Nat → Nat) (G : Nat) (D : Nat → Bool) (x : Nat) : cb p e G D x ≤ G := ct_le _ _
/-! roots -/
def rtF (p : Nat → Nat) : Nat → Nat → Nat
  | 0, x => x
  | k + 1, x => rtF p k (p x)
def rto (p e : Nat → Nat) (x : Nat) : Nat := rtF p (e x) x
theorem rto_r {p e : Nat → Nat} {x : Nat} (h : e x = 0) : rto p e x = x := by
  unfold rto
  rw [h]
  rfl
theorem rto_s {p e : Nat → Nat} {x : Nat} (h : e x = e (p x) + 1) : rto p e x = rto p e (p x) := by
  unfold rto
  rw [h]
  rfl
theorem rto_ok {p e : Nat → Nat} {G : Nat} (hf : frs p e G) : ∀ (k x : Nat), x < G → e x = k → rto p e x < G ∧ e (rto p e x) = 0
  | 0, x, hx, hk => by rw [rto_r hk]; exact ⟨hx, hk⟩
  | k + 1, x, hx, hk => by
    obtain ⟨h1, h2, h3⟩ := frs_s hf hx hk
    rw [rto_s h2]
    exact rto_ok hf k (p x) h1 h3
theorem sb_rt {p e : Nat → Nat} {G g : Nat} (hf : frs p e G) (hg : e g = 0) : ∀ (k x : Nat), x < G → e x = k → (sb p e tt g x = true ↔ rto p e x = g)
  | 0, x, hx, hk => by
    rw [sb_r hk, rto_r hk]
    exact decide_eq_true_iff
  | k + 1, x, hx, hk => by
    obtain ⟨h1, h2, h3⟩ := frs_s hf hx hk
    have hxg : ¬ x = g := fun q => by rw [q] at hk; omega
    rw [rto_s h2, sb_s h2, ← sb_rt hf hg k (p x) h1 h3]
    simp [hxg]
theorem sb_rto {p e : Nat → Nat} {G c : Nat} (hf : frs p e G) : ∀ (k x : Nat), x < G → e x = k → sb p e tt c x = true → rto p e x = rto p e c
  | 0, x, hx, hk, h => by
    rw [sb_r hk] at h
    rw [of_decide_eq_true h]
  | k + 1, x, hx, hk, h => by
    obtain ⟨h1, h2, h3⟩ := frs_s hf hx hk
    rw [sb_s h2] at h
    by_cases hxc : x = c
    · rw [hxc]
    · simp only [hxc, decide_false, Bool.false_or, Bool.true_and] at h
      rw [rto_s h2]
      exact sb_rto hf k (p x) h1 h3 h
