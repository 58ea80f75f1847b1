/-! Connectivity: what one comes to by what stands -/
def cnE (sd : Nat → Bool) (A B : Nat → Nat) (n o x : Nat) : Prop := ∀ P : Nat → Prop, P o → (∀ s, s < n → sd s = true → P (A s) → P (B s)) → (∀ s, s < n → sd s = true → P (B s) → P (A s)) → P x
theorem cnE_base {sd : Nat → Bool} {A B : Nat → Nat} {n o : Nat} : cnE sd A B n o o := fun _ h _ _ => h
theorem cnE_fw {sd : Nat → Bool} {A B : Nat → Nat} {n o : Nat} (s : Nat) (h1 : s < n) (h2 : sd s = true) (h : cnE sd A B n o (A s)) : cnE sd A B n o (B s) := fun P p0 p1 p2 => p1 s h1 h2 (h P p0 p1 p2)
theorem cnE_bw {sd : Nat → Bool} {A B : Nat → Nat} {n o : Nat} (s : Nat) (h1 : s < n) (h2 : sd s = true) (h : cnE sd A B n o (B s)) : cnE sd A B n o (A s) := fun P p0 p1 p2 => p2 s h1 h2 (h P p0 p1 p2)
theorem cnE_mono {sd : Nat → Bool} {A B : Nat → Nat} {n m o x : Nat} (hnm : n ≤ m) (h : cnE sd A B n o x) : cnE sd A B m o x := by
  exact h (cnE sd A B m o) cnE_base (fun s h1 h2 ih => cnE_fw s (by omega) h2 ih) (fun s h1 h2 ih => cnE_bw s (by omega) h2 ih)
theorem cnE_tr {sd : Nat → Bool} {A B : Nat → Nat} {n o y x : Nat} (h1 : cnE sd A B n o y) (h2 : cnE sd A B n y x) : cnE sd A B n o x := by
  exact h2 (cnE sd A B n o) h1 (fun s h1 h2 ih => cnE_fw s h1 h2 ih) (fun s h1 h2 ih => cnE_bw s h1 h2 ih)
/-- labels tell what is connected -/
def cnL (sd : Nat → Bool) (A B : Nat → Nat) (G n : Nat) (L : Nat → Int32) : Prop := ∀ x o, x < G → o < G → (L x = L o ↔ cnE sd A B n o x)
theorem cnE_G {sd : Nat → Bool} {A B : Nat → Nat} {G n o x : Nat} (hA : ∀ s, s < n → A s < G ∧ B s < G) (ho : o < G) (h : cnE sd A B n o x) : x < G := by
  exact h (fun x => x < G) ho (fun s h1 _ _ => (hA s h1).2) (fun s h1 _ _ => (hA s h1).1)
theorem cnL_skip {sd : Nat → Bool} {A B : Nat → Nat} {G n : Nat} {L : Nat → Int32} (h : cnL sd A B G n L) (hs : sd n = false) : cnL sd A B G (n + 1) L := by
  intro x o hx ho
  rw [h x o hx ho]
  refine ⟨cnE_mono (by omega), fun q => ?_⟩
  have lt : ∀ s, s < n + 1 → sd s = true → s < n := fun s h1 h2 => by
    rcases Nat.lt_or_ge s n with z | z
    · exact z
    · have : s = n := by omega
      rw [this, hs] at h2; cases h2
  exact q (cnE sd A B n o) cnE_base (fun s h1 h2 ih => cnE_fw s (lt s h1 h2) h2 ih) (fun s h1 h2 ih => cnE_bw s (lt s h1 h2) h2 ih)
/-- one more that stands: labels that are merged just so -/
theorem cnL_join {sd : Nat → Bool} {A B : Nat → Nat} {G n : Nat} {L L2 : Nat → Int32} (hA : ∀ s, s < n + 1 → A s < G ∧ B s < G) (h : cnL sd A B G n L) (hs : sd n = true) (hm : ∀ x o, x < G → o < G → (L2 x = L2 o ↔ (L x = L o ∨ (L x = L (A n) ∧ L o = L (B n)) ∨ (L x = L (B n) ∧ L o = L (A n))))) : cnL sd A B G (n + 1) L2 := by
  obtain ⟨a1, b1⟩ := hA n (by omega)
  intro x o hx ho
  refine ⟨fun q => ?_, fun q => ?_⟩
  · rcases (hm x o hx ho).mp q with z | ⟨z1, z2⟩ | ⟨z1, z2⟩
    · exact cnE_mono (by omega) ((h x o hx ho).mp z)
    · have c1 := cnE_mono (Nat.le_succ n) ((h (B n) o b1 ho).mp z2.symm)
      have c2 := cnE_mono (Nat.le_succ n) ((h x (A n) hx a1).mp z1)
      exact cnE_tr (cnE_bw n (by omega) hs c1) c2
    · have c1 := cnE_mono (Nat.le_succ n) ((h (A n) o a1 ho).mp z2.symm)
      have c2 := cnE_mono (Nat.le_succ n) ((h x (B n) hx b1).mp z1)
      exact cnE_tr (cnE_fw n (by omega) hs c1) c2
  · have same : ∀ s, s < n + 1 → sd s = true → L2 (A s) = L2 (B s) := by
      intro s h1 h2
      obtain ⟨p1, p2⟩ := hA s h1
      by_cases z : s = n
      · rw [z]
        exact (hm _ _ a1 b1).mpr (Or.inr (Or.inl ⟨rfl, rfl⟩))
      · exact (hm _ _ p1 p2).mpr (Or.inl ((h _ _ p1 p2).mpr (cnE_bw s (by omega) h2 cnE_base)))
    exact q (fun x => L2 x = L2 o) rfl (fun s h1 h2 ih => (same s h1 h2).symm.trans ih) (fun s h1 h2 ih => (same s h1 h2).trans ih)
theorem cnL_known {sd : Nat → Bool} {A B : Nat → Nat} {G n : Nat} {L : Nat → Int32} (hA : ∀ s, s < n + 1 → A s < G ∧ B s < G) (h : cnL sd A B G n L) (hs : sd n = true) (he : L (A n) = L (B n)) : cnL sd A B G (n + 1) L := by
  refine cnL_join hA h hs (fun x o hx ho => ⟨Or.inl, fun q => ?_⟩)
  rcases q with z | ⟨z1, z2⟩ | ⟨z1, z2⟩
  · exact z
  · rw [z1, z2]; exact he
  · rw [z1, z2]; exact he.symm
theorem cnL_0 {sd : Nat → Bool} {A B : Nat → Nat} {G : Nat} {L : Nat → Int32} (hL : ∀ x o, x < G → o < G → L x = L o → x = o) : cnL sd A B G 0 L := by
  intro x o hx ho
  refine ⟨fun q => by rw [hL x o hx ho q]; exact cnE_base, fun q => ?_⟩
  exact q (fun x => L x = L o) rfl (fun s h1 => absurd h1 (Nat.not_lt_zero s)) (fun s h1 => absurd h1 (Nat.not_lt_zero s))
/-- the search finds just what is connected -/
theorem cn_bfs {sd : Nat → Bool} {A B : Nat → Nat} {m n o : Nat} (hm : m ≤ 41) (hn : n ≤ 120) (hsd : ∀ s, n ≤ s → sd s = false) (hd : ∀ w, w < 240 → cst sd w = true → cdt A B w < m) (ho : o < m) (x : Nat) : cnE sd A B n o x ↔ x ∈ (chS sd A B o).1 := by
  obtain ⟨ok, hin, hcl, hB⟩ := bsF_all (sr := csr A B) (rm := tt) hm hd ho
  have ok : bsOk m (chS sd A B o) := ok
  have hl := bsOk_len ok
  refine ⟨fun q => ?_, fun q => ?_⟩
  · refine q (fun x => x ∈ (chS sd A B o).1) hin (fun s h1 h2 ih => ?_) (fun s h1 h2 ih => ?_)
    · have := hcl _ ih (2 * s) (by omega) (by rw [(c_even sd A B s).1]; exact h2) (c_even sd A B s).2.1 rfl
      rw [(c_even sd A B s).2.2] at this
      exact this
    · have := hcl _ ih (2 * s + 1) (by omega) (by rw [(c_odd sd A B s).1]; exact h2) (c_odd sd A B s).2.1 rfl
      rw [(c_odd sd A B s).2.2] at this
      exact this
  · have key : ∀ (k g : Nat), g ∈ (chS sd A B o).1 → (chS sd A B o).2.1 g = nI k → k < 2 ^ 30 → cnE sd A B n o g := by
      intro k
      induction k with
      | zero =>
        intro g hg e _
        have := (ch_0 hm hd ho g hg).mp e
        rw [this]
        exact cnE_base
      | succ k ih =>
        intro g hg e hk
        rcases hB g hg with ⟨-, z⟩ | ⟨w, w1, w2, -, w4, -, w6, w7⟩
        · have z : (chS sd A B o).2.1 g = 0 := z
          rw [z] at e
          have := nI_inj (a := 0) (by omega) (by omega) e
          omega
        · have w7 : (chS sd A B o).2.1 g = (chS sd A B o).2.1 (csr A B w) + 1 := w7
          have e2 : (chS sd A B o).2.1 (csr A B w) = nI k := by
            obtain ⟨-, j, j1, j2⟩ := ok.2.1 _ w6
            rw [j2, e, nI_1] at w7
            have := nI_inj (by omega) (by omega) w7
            rw [j2]
            congr 1
            omega
          have c := ih _ w6 e2 (by omega)
          have hs : sd (w / 2) = true := w2
          have hlt : w / 2 < n := by
            rcases Nat.lt_or_ge (w / 2) n with z | z
            · exact z
            · rw [hsd _ z] at hs; cases hs
          rcases c_ends A B w with ⟨-, p1, p2⟩ | ⟨-, p1, p2⟩
          · rw [p1] at c
            rw [← w4, p2]
            exact cnE_fw _ hlt hs c
          · rw [p1] at c
            rw [← w4, p2]
            exact cnE_bw _ hlt hs c
    obtain ⟨-, k, k1, k2⟩ := ok.2.1 x q
    exact key k x q k2 (by omega)
theorem cn_ok {h : ia_H} {G n : Nat} {sd : Nat → Bool} {A B : Nat → Nat} (hd : mdOk h n G sd A B) (hc : cnL sd A B G n (h.1 60)) : cnOk h G sd A B := by
  intro x o hx ho
  rw [hc x o hx ho]
  exact cn_bfs hd.2.1 hd.1 hd.2.2.2.2.2 (fun w h1 h2 => (md_dt hd w h1 h2).1) ho x
