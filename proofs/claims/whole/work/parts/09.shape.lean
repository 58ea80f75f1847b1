/-- the steady world's cells -/
def ia_Sh : List ia_C := [.inr (.inl (7, [.inl 1, .inl 4, .inl 25, .inl 29, .inl 43, .inl 47, .inl 50, .inl 51])), .inr (.inl (3, [.inl 2, .inr false, .inr false, .inr false])), .inr (.inl (4, [.inl 3, .inr false, .inr false])), .inl (.byte, 300), .inr (.inl (5, [.inl 5, .inl 6, .inl 7, .inl 8, .inl 9, .inl 10, .inr false, .inr false])), .inl (.byte, 246), .inl (.int, 41), .inl (.int, 120), .inl (.int, 120), .inl (.long, 120), .inl (.boolean, 120), .inr (.inl (5, [.inl 12, .inl 13, .inl 14, .inl 15, .inl 16, .inl 17, .inr false, .inr false])), .inl (.byte, 246), .inl (.int, 41), .inl (.int, 120), .inl (.int, 120), .inl (.long, 120), .inl (.boolean, 120), .inr (.inl (5, [.inl 19, .inl 20, .inl 21, .inl 22, .inl 23, .inl 24, .inr false, .inr false])), .inl (.byte, 246), .inl (.int, 41), .inl (.int, 120), .inl (.int, 120), .inl (.long, 120), .inl (.boolean, 120), .inr (.inl (1, [.inl 26, .inl 27, .inl 28])), .inl (.int, 120), .inl (.int, 41), .inl (.long, 41), .inr (.inl (6, [.inl 30, .inl 31, .inl 32, .inl 33, .inl 34, .inl 35, .inl 36, .inr false, .inl 37, .inl 38, .inl 39, .inl 40, .inl 41, .inl 42])), .inl (.int, 240), .inl (.int, 240), .inl (.int, 42), .inl (.int, 41), .inl (.int, 120), .inl (.int, 120), .inl (.int, 41), .inl (.int, 41), .inl (.int, 41), .inl (.int, 120), .inl (.boolean, 41), .inl (.int, 41), .inl (.int, 120), .inr (.inl (0, [.inl 44, .inl 45, .inl 46, .inr false, .inr false])), .inl (.int, 20), .inl (.int, 20), .inl (.int, 20), .inr (.inl (2, [.inl 48, .inl 49])), .inl (.int, 8), .inl (.int, 2), .inr (.inr ("OffsetBook$Told", [11, 18])), .inl (.boolean, 2), .inr (.inl (8, [.inl 53, .inr false, .inr false, .inr false, .inr false, .inl 54, .inr false, .inl 55, .inr false, .inr true, .inr false, .inl 56, .inl 57, .inl 58, .inl 59, .inr false, .inl 60, .inl 61, .inl 62, .inl 63, .inl 64, .inl 65, .inr false, .inl 66, .inl 67, .inl 68, .inl 69, .inl 70, .inl 71, .inl 72, .inl 73, .inl 74, .inl 75])), .inl (.byte, 300), .inl (.int, 287), .inl (.int, 7), .inl (.int, 132), .inl (.int, 132), .inl (.long, 132), .inl (.boolean, 132), .inl (.int, 41), .inl (.long, 41), .inl (.int, 132), .inl (.int, 14278), .inl (.long, 2640), .inl (.boolean, 2), .inl (.boolean, 41), .inl (.int, 41), .inl (.int, 41), .inl (.int, 41), .inl (.int, 41), .inl (.int, 132), .inl (.int, 132), .inl (.int, 41), .inl (.int, 2), .inl (.int, 8)]
theorem ia_Sh_ok : ia_Sok ia_Sh ia_ty := by
  have key : (ia_Sh.zipIdx.all (fun q => match q.1 with
    | .inr (.inl (ci, ks)) => ks.zipIdx.all (fun k => match k.1 with
      | .inr false => decide (ia_ty ci k.2 = .int)
      | .inr true => decide (ia_ty ci k.2 = .long)
      | _ => true)
    | .inr (.inr (_, l)) => decide (l.length < 2 ^ 31)
    | .inl (_, n) => decide (n < 2 ^ 31))) = true := by decide +kernel
  have at_mem : ∀ (Sh : List ia_C) (x k0 : Nat) (c : ia_C), ia_at? Sh x = some c → (c, k0 + x) ∈ Sh.zipIdx k0 := by
    intro Sh
    induction Sh with
    | nil => intro x k0 c h; cases h
    | cons d t ih =>
      intro x k0 c h
      rw [List.zipIdx_cons]
      cases x with
      | zero => cases h; exact List.mem_cons_self
      | succ x =>
        have := ih x (k0 + 1) c h
        rw [show k0 + 1 + x = k0 + (x + 1) by omega] at this
        exact List.mem_cons_of_mem _ this
  have kind_mem : ∀ (ks : List (Nat ⊕ Bool)) (x k0 : Nat) (c : Nat ⊕ Bool), ia_kind ks x = some c → (c, k0 + x) ∈ ks.zipIdx k0 := by
    intro Sh
    induction Sh with
    | nil => intro x k0 c h; cases h
    | cons d t ih =>
      intro x k0 c h
      rw [List.zipIdx_cons]
      cases x with
      | zero => cases h; exact List.mem_cons_self
      | succ x =>
        have := ih x (k0 + 1) c h
        rw [show k0 + 1 + x = k0 + (x + 1) by omega] at this
        exact List.mem_cons_of_mem _ this
  rw [List.all_eq_true] at key
  refine ⟨fun x ci ks b hx => ⟨fun hk => ?_, fun hk => ?_⟩, fun x C l hx => ?_, fun x ty n hx => ?_⟩
  · have h1 := key _ (at_mem _ x 0 _ hx)
    simp only [List.all_eq_true] at h1
    have h2 := h1 _ (kind_mem _ b 0 _ hk)
    rw [Nat.zero_add] at h2
    exact of_decide_eq_true h2
  · have h1 := key _ (at_mem _ x 0 _ hx)
    simp only [List.all_eq_true] at h1
    have h2 := h1 _ (kind_mem _ b 0 _ hk)
    rw [Nat.zero_add] at h2
    exact of_decide_eq_true h2
  · exact of_decide_eq_true (key _ (at_mem _ x 0 _ hx))
  · exact of_decide_eq_true (key _ (at_mem _ x 0 _ hx))
/-- methods over the steady world: y answers, with Z of its answer and the heap behind it -/
abbrev V_ (y : Nat) (as : List Value) (h : ia_H) (Z : Option Value → ia_H → Prop) : Prop := ia_V ia_Sh ia_MT y as h Z
abbrev R_ (K : List (List ia_E)) (Z : Option Value → ia_H → Prop) (s : ia_S) : Prop := ia_Run ia_Sh K (ia_Ev ia_Sh ia_MT) Z s
