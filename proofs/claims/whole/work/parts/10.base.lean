/-! small words for the walks -/
theorem nI_lt41 {g : Nat} (h : g < 2 ^ 31) : nI g < 41 ↔ g < 41 := nI_ltI (b := 41) h (by decide)
theorem nI_lt120 {g : Nat} (h : g < 2 ^ 31) : nI g < 120 ↔ g < 120 := nI_ltI (b := 120) h (by decide)
theorem nI_inj {a b : Nat} (ha : a < 2 ^ 31) (hb : b < 2 ^ 31) (h : nI a = nI b) : a = b := (nI_eq ha hb).mp h
/-- how many of the first n -/
def ct (p : Nat → Bool) : Nat → Nat
  | 0 => 0
  | n + 1 => ct p n + (bif p n then 1 else 0)
theorem ct_le (p : Nat → Bool) : ∀ n, ct p n ≤ n
  | 0 => Nat.le_refl 0
  | n + 1 => by
    have := ct_le p n
    simp only [ct]
    cases p n <;> simp <;> omega
theorem ct_t {p : Nat → Bool} {n : Nat} (h : p n = true) : ct p (n + 1) = ct p n + 1 := by simp [ct, h]
theorem ct_f {p : Nat → Bool} {n : Nat} (h : p n = false) : ct p (n + 1) = ct p n := by simp [ct, h]
theorem ct_congr {p q : Nat → Bool} : ∀ {n : Nat}, (∀ k, k < n → p k = q k) → ct p n = ct q n
  | 0, _ => rfl
  | n + 1, h => by rw [ct, ct, ct_congr (fun k hk => h k (by omega)), h n (by omega)]
/-- behind the last one that counts nothing more counts -/
theorem ct_stop {p : Nat → Bool} {m : Nat} : ∀ {n : Nat}, m ≤ n → (∀ k, m ≤ k → k < n → p k = false) → ct p n = ct p m
  | 0, h, _ => by rw [show m = 0 by omega]
  | n + 1, h, hp => by
    by_cases he : m = n + 1
    · rw [he]
    · rw [ct_f (hp n (by omega) (by omega))]
      exact ct_stop (by omega) (fun k h1 h2 => hp k h1 (by omega))
abbrev Z_ (v : Value) (h : ia_H) : Option Value → ia_H → Prop := fun r h' => r = some v ∧ h' = h
/-- a call whose answer and heap are known -/
theorem ia_callE {Sh : List ia_C} {MT : List ia_M} {y : Nat} {as : List Value} {h : ia_H} {r0 : Option Value} {h0 : ia_H} (hV : ia_V Sh MT y as h (fun r h' => r = r0 ∧ h' = h0)) : ia_Ev Sh MT y as h r0 h0 := by
  obtain ⟨r, h', hev, h1, h2⟩ := hV
  rw [← h1, ← h2]
  exact hev
abbrev Zi_ (v : Int32) (h : ia_H) : Option Value → ia_H → Prop := fun r h' => r = some (.int v) ∧ h' = h
abbrev Zl_ (v : Int64) (h : ia_H) : Option Value → ia_H → Prop := fun r h' => r = some (.long v) ∧ h' = h
/-- a call that changes nothing: its answer gets a name -/
theorem ia_callN {α : Type} {f : α → Value} {Sh : List ia_C} {MT : List ia_M} {y : Nat} {as : List Value} {h : ia_H} {x : α} (hV : ia_V Sh MT y as h (fun r h' => r = some (f x) ∧ h' = h)) : ∃ v, v = x ∧ ia_Ev Sh MT y as h (some (f v)) h := by
  obtain ⟨r, h', hev, h1, h2⟩ := hV
  refine ⟨x, rfl, ?_⟩
  rw [h1, h2] at hev
  exact hev
