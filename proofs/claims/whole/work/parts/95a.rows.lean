/-! rows for a constructor of many fields: what grows has a name -/
section CTN
variable {p : Program} {l : Launch} {e : Env} {R : Room} {s : State} {m : MethodId} {args : Array Value} {below : List Frame} {meth : Method} {c : Code} {Q : State → Prop} {cells slots : Nat} {H H0 : Heap} {locs : List Loc}
variable {bytes : ByteArray} {maxL : Nat} {own : String} {D : va_G} {A : Nat → Prop} {tys : List (ClassId × FieldType)} {pc : Nat} {ls : Array Slot} {rest : List Value} {h0 ci : Nat} {fs : List Value} {wt : va_W} {T : u_T} {N : Nat}
theorem ct_nb (hB : ct_B p s m meth c args bytes maxL own) {atype : ArrayType} {ty : FieldType} (hty : newarray.typeOf atype = ty) (harr : Cond.arrayClass ty ∈ ct_Ts) (hK : va_K D ia_cl tys s) (hP : va_P D ia_cl ((h0, .inr (ci, fs)) :: wt) H) (hD : va_D A ((h0, .inr (ci, fs)) :: wt)) (hS : va_S A H0 H locs) (hA : ∀ q, H0.size ≤ q → A q)
    {n : Int32} {N' : Nat} {a0 : vp_A} (ha : ∀ cA : ClassId, vp_cell cA a0 = arrV cA N' (fun _ => defaultValue ty)) (hn : ¬ n < 0) (hN : n.toNatClampNeg = N') (hbytes : N' * componentBytes ty ≤ 536870912) (hcells : cells + 1 ≤ R.cells) (hslots : slots + N' ≤ R.slots) (d1 : decode bytes pc = .ok (.newarray atype, 2))
    (hc : ia_cl[ci]? = some (own, T, N)) (k : Nat) (hk : k < N) {index : Nat} (hlink : Cond.fieldLink own index (T k).1 (T k).2.1 (T k).2.2.1 ∈ ct_Ts) (hfin : (T k).2.2.2 = true) (hdecl : (T k).1 = own) (hd : parseFieldDescriptor (T k).2.2.1 = some (.array ty)) (hlen : fs.length = N) (d2 : decode bytes (pc + 2) = .ok (.putfield index, 3))
    (kk : ∀ (q : Nat) (cA : ClassId) (fs' : List Value) (wt' : va_W) (tys' : List (ClassId × FieldType)) (H1 : Heap) (locs1 : List Loc), fs' = fs.set k (.ref q) → wt' = wt ++ [(q, .inl (cA, a0))] → tys' = tys ++ [(cA, ty)] → fs'.length = N → va_K D ia_cl tys' s → va_P D ia_cl ((h0, .inr (ci, fs')) :: wt') H1 → va_D A ((h0, .inr (ci, fs')) :: wt') → va_S A H0 H1 locs1 → W p l e R s m args below meth c H1 locs1 (cells + 1) (slots + N') Q (F0 m (pc + 5) ls rest)) : W p l e R s m args below meth c H locs cells slots Q (F0 m pc ls (.int n :: .ref h0 :: rest)) :=
  ct_na hB hty harr hK hP hD hS hA ha hn hN hbytes hcells hslots d1 hc k hk hlink hfin hdecl hd (by rw [hlen]; exact hk) d2 (fun q cA H1 locs1 hK hP hD hS => kk q cA _ _ _ H1 locs1 rfl rfl rfl (by rw [List.length_set]; exact hlen) hK hP hD hS)
theorem ct_pj (hB : ct_B p s m meth c args bytes maxL own) (hK : va_K D ia_cl tys s) (hP : va_P D ia_cl ((h0, .inr (ci, fs)) :: wt) H) (hD : va_D A ((h0, .inr (ci, fs)) :: wt)) (hS : va_S A H0 H locs) (hc : ia_cl[ci]? = some (own, T, N)) (k : Nat) (hk : k < N) {index : Nat} (hlink : Cond.fieldLink own index (T k).1 (T k).2.1 (T k).2.2.1 ∈ ct_Ts) (hfin : (T k).2.2.2 = false) {v : Int32} (hd : parseFieldDescriptor (T k).2.2.1 = some .int) (hlen : fs.length = N) (dg : decode bytes pc = .ok (.putfield index, 3))
    (kk : ∀ (fs' : List Value) (H1 : Heap) (locs1 : List Loc), fs' = fs.set k (.int v) → fs'.length = N → va_P D ia_cl ((h0, .inr (ci, fs')) :: wt) H1 → va_D A ((h0, .inr (ci, fs')) :: wt) → va_S A H0 H1 locs1 → W p l e R s m args below meth c H1 locs1 cells slots Q (F0 m (pc + 3) ls rest)) : W p l e R s m args below meth c H locs cells slots Q (F0 m pc ls (.int v :: .ref h0 :: rest)) :=
  ct_pi hB hK hP hD hS hc k hk hlink hfin hd (by rw [hlen]; exact hk) dg (fun H1 locs1 hP hD hS => kk _ H1 locs1 rfl (by rw [List.length_set]; exact hlen) hP hD hS)
end CTN
/-! a picture of cells depends on its own places alone -/
def ct_small (n : Nat) : ia_C → Bool
  | .inl _ => true
  | .inr (.inl (_, ks)) => ks.all (fun k => match k with
    | .inl y => Nat.blt y n
    | .inr _ => true)
  | .inr (.inr (_, l)) => l.all (fun y => Nat.blt y n)
theorem ct_blt {y n : Nat} (h : Nat.blt y n = true) : y < n := Nat.le_of_ble_eq_true h
theorem ct_slots_a {n : Nat} {a1 a2 : Nat → Nat} (ha : ∀ x, x < n → a1 x = a2 x) {h1 h2 : ia_H} {x : Nat} (e1 : h1.1 x = h2.1 x) (e2 : h1.2 x = h2.2 x) : ∀ (ks : List (Nat ⊕ Bool)) (j : Nat), ks.all (fun k => match k with
    | .inl y => Nat.blt y n
    | .inr _ => true) = true → ia_slots a1 h1 x j ks = ia_slots a2 h2 x j ks
  | [], _, _ => rfl
  | k :: ks, j, hs => by
    rw [List.all_cons, Bool.and_eq_true] at hs
    rw [ia_slots, ia_slots, ct_slots_a ha e1 e2 ks (j + 1) hs.2]
    match k, hs.1 with
    | .inl y, hy => rw [ia_slot, ia_slot, ha y (ct_blt hy)]
    | .inr true, _ => rw [ia_slot, ia_slot, e2]
    | .inr false, _ => rw [ia_slot, ia_slot, e1]
theorem ct_pick_a {n : Nat} {a1 a2 : Nat → Nat} (ha : ∀ x, x < n → a1 x = a2 x) : ∀ (l : List Nat) (j : Nat), l.all (fun y => Nat.blt y n) = true → (ia_pick l j).map a1 = (ia_pick l j).map a2
  | [], _, _ => rfl
  | y :: l, 0, hs => by
    rw [List.all_cons, Bool.and_eq_true] at hs
    show some (a1 y) = some (a2 y)
    rw [ha y (ct_blt hs.1)]
  | y :: l, j + 1, hs => by
    rw [List.all_cons, Bool.and_eq_true] at hs
    exact ct_pick_a ha l j hs.2
theorem ct_cell_a {n : Nat} {a1 a2 : Nat → Nat} (ha : ∀ x, x < n → a1 x = a2 x) {c1 c2 : Nat → ClassId} {h1 h2 : ia_H} {x : Nat} (ec : c1 x = c2 x) (e1 : h1.1 x = h2.1 x) (e2 : h1.2 x = h2.2 x) (c : ia_C) (hs : ct_small n c = true) : ia_cell a1 c1 h1 x c = ia_cell a2 c2 h2 x c := by
  match c, hs with
  | .inl (ty, k), _ => cases ty <;> simp only [ia_cell, ec, e1, e2]
  | .inr (.inl (ci, ks)), hs =>
    show (.inr (ci, ia_slots a1 h1 x 0 ks) : va_E) = .inr (ci, ia_slots a2 h2 x 0 ks)
    rw [ct_slots_a ha e1 e2 ks 0 hs]
  | .inr (.inr (C, l)), hs =>
    show (.inl (c1 x, l.length, .inr (.inr (.inr (.inr (fun j => (ia_pick l j).map a1))))) : va_E) = .inl (c2 x, l.length, .inr (.inr (.inr (.inr (fun j => (ia_pick l j).map a2)))))
    rw [show (fun j => (ia_pick l j).map a1) = fun j => (ia_pick l j).map a2 from funext fun j => ct_pick_a ha l j hs, ec]
theorem ct_w_a {n : Nat} {a1 a2 : Nat → Nat} (ha : ∀ x, x < n → a1 x = a2 x) {c1 c2 : Nat → ClassId} (ec : ∀ x, x < n → c1 x = c2 x) {h1 h2 : ia_H} (e1 : ∀ x, x < n → h1.1 x = h2.1 x) (e2 : ∀ x, x < n → h1.2 x = h2.2 x) : ∀ (Sh : List ia_C) (x : Nat), x + Sh.length ≤ n → Sh.all (ct_small n) = true → ia_w a1 c1 h1 x Sh = ia_w a2 c2 h2 x Sh
  | [], _, _, _ => rfl
  | c :: Sh, x, hl, hs => by
    rw [List.all_cons, Bool.and_eq_true] at hs
    rw [List.length_cons] at hl
    rw [ia_w, ia_w, ha x (by omega), ct_cell_a ha (ec x (by omega)) (e1 x (by omega)) (e2 x (by omega)) c hs.1, ct_w_a ha ec e1 e2 Sh (x + 1) (by omega) hs.2]
theorem ct_w_app (a : Nat → Nat) (c : Nat → ClassId) (h : ia_H) : ∀ (S1 S2 : List ia_C) (x : Nat), ia_w a c h x (S1 ++ S2) = ia_w a c h x S1 ++ ia_w a c h (x + S1.length) S2
  | [], _, _ => rfl
  | d :: S1, S2, x => by
    rw [List.cons_append, ia_w, ia_w, ct_w_app a c h S1 S2 (x + 1), List.length_cons, List.cons_append, show x + 1 + S1.length = x + (S1.length + 1) by omega]
theorem ct_tys_app (c : Nat → ClassId) : ∀ (S1 S2 : List ia_C) (x : Nat), ct_tys c x (S1 ++ S2) = ct_tys c x S1 ++ ct_tys c (x + S1.length) S2
  | [], _, _ => rfl
  | d :: S1, S2, x => by
    have ih := ct_tys_app c S1 S2 (x + 1)
    rw [show x + 1 + S1.length = x + (S1.length + 1) by omega] at ih
    match d with
    | .inl (ty, k) => rw [List.cons_append, ct_tys, ct_tys, ih, List.length_cons, List.cons_append]
    | .inr (.inl q) => rw [List.cons_append, ct_tys, ct_tys, ih, List.length_cons]
    | .inr (.inr (C, l)) => rw [List.cons_append, ct_tys, ct_tys, ih, List.length_cons, List.cons_append]
theorem ct_tys_a {n : Nat} {c1 c2 : Nat → ClassId} (ec : ∀ x, x < n → c1 x = c2 x) : ∀ (S : List ia_C) (x : Nat), x + S.length ≤ n → ct_tys c1 x S = ct_tys c2 x S
  | [], _, _ => rfl
  | d :: S, x, hl => by
    rw [List.length_cons] at hl
    have ih := ct_tys_a ec S (x + 1) (by omega)
    match d with
    | .inl (ty, k) => rw [ct_tys, ct_tys, ih, ec x (by omega)]
    | .inr (.inl q) => rw [ct_tys, ct_tys, ih]
    | .inr (.inr (C, l)) => rw [ct_tys, ct_tys, ih, ec x (by omega)]
theorem ct_cut_lt {α : Type} {n : Nat} {f g : Nat → α} {x : Nat} (hx : x < n) : ct_cut n f g x = f x := by
  unfold ct_cut
  cases hb : Nat.ble n x with
  | false => rfl
  | true => exact absurd (Nat.le_of_ble_eq_true hb) (by omega)
def ct_shX8 : List ia_C := [.inr (.inl (8, [.inl 53, .inr false, .inr false, .inr false, .inr false, .inl 54, .inr false, .inl 55, .inr false, .inr true, .inr false, .inl 56, .inl 57, .inl 58, .inl 59, .inr false, .inl 60, .inl 61, .inl 62, .inl 63, .inl 64, .inl 65, .inr false, .inl 66, .inl 67, .inl 68, .inl 69, .inl 70, .inl 71, .inl 72, .inl 73, .inl 74, .inl 75])), .inl (.byte, 300), .inl (.int, 287), .inl (.int, 7), .inl (.int, 132), .inl (.int, 132), .inl (.long, 132), .inl (.boolean, 132), .inl (.int, 41), .inl (.long, 41), .inl (.int, 132), .inl (.int, 14278), .inl (.long, 2640), .inl (.boolean, 2), .inl (.boolean, 41), .inl (.int, 41), .inl (.int, 41), .inl (.int, 41), .inl (.int, 41), .inl (.int, 132), .inl (.int, 132), .inl (.int, 41), .inl (.int, 2), .inl (.int, 8)]
theorem ct_sh_app : ia_Sh = ct_shX7 ++ ct_shX8 := rfl
theorem ct_w52 (ad a' : Nat → Nat) (ca c' : Nat → ClassId) : ia_w (ct_cut 52 ad a') (ct_cut 52 ca c') ct_h8 0 ia_Sh = ia_w ad ca ct_eX7 0 ct_shX7 ++ ia_w (ct_cut 52 ad a') (ct_cut 52 ca c') ct_h8 52 ct_shX8 := by
  have h := ct_w_a (n := 52) (a1 := ct_cut 52 ad a') (a2 := ad) (c1 := ct_cut 52 ca c') (c2 := ca) (h1 := ct_h8) (h2 := ct_eX7) (fun x hx => ct_cut_lt hx) (fun x hx => ct_cut_lt hx) (fun x hx => ct_cut_lt hx) (fun x hx => ct_cut_lt hx) ct_shX7 0 (by decide +kernel) (by decide +kernel)
  rw [ct_sh_app, ct_w_app, h]
  rfl
theorem ct_t52 (ca c' : Nat → ClassId) : ct_tys (ct_cut 52 ca c') 0 ia_Sh = ct_tys ca 0 ct_shX7 ++ ct_tys (ct_cut 52 ca c') 52 ct_shX8 := by
  have h := ct_tys_a (n := 52) (c1 := ct_cut 52 ca c') (c2 := ca) (fun x hx => ct_cut_lt hx) ct_shX7 0 (by decide +kernel)
  rw [ct_sh_app, ct_tys_app, h]
  rfl
set_option maxRecDepth 20000 in
theorem ct_w8 (ad : Nat → Nat) (ca : Nat → ClassId) (h0 q1 q2 q3 q4 q5 q6 q7 q8 q9 q10 q11 q12 q13 q14 q15 q16 q17 q18 q19 q20 q21 q22 q23 : Nat) (c1 c2 c3 c4 c5 c6 c7 c8 c9 c10 c11 c12 c13 c14 c15 c16 c17 c18 c19 c20 c21 c22 c23 : ClassId) : ia_w (ct_cut 52 ad (ct_pk 0 [h0, q1, q2, q3, q4, q5, q6, q7, q8, q9, q10, q11, q12, q13, q14, q15, q16, q17, q18, q19, q20, q21, q22, q23])) (ct_cut 52 ca (ct_pk 0 [0, c1, c2, c3, c4, c5, c6, c7, c8, c9, c10, c11, c12, c13, c14, c15, c16, c17, c18, c19, c20, c21, c22, c23])) ct_h8 52 ct_shX8 = (h0, .inr (8, [.ref q1, .int 0, .int 0, .int 0, .int 1, .ref q2, .int 0, .ref q3, .int 0, .long 0, .int 0, .ref q4, .ref q5, .ref q6, .ref q7, .int 0, .ref q8, .ref q9, .ref q10, .ref q11, .ref q12, .ref q13, .int 0, .ref q14, .ref q15, .ref q16, .ref q17, .ref q18, .ref q19, .ref q20, .ref q21, .ref q22, .ref q23])) :: [(q1, .inl (c1, 300, .inl (fun _ => 0))), (q2, .inl (c2, 287, .inl (fun _ => 0))), (q3, .inl (c3, 7, .inl (fun _ => 0))), (q4, .inl (c4, 132, .inl (fun _ => 0))), (q5, .inl (c5, 132, .inl (fun _ => 0))), (q6, .inl (c6, 132, .inr (.inl (fun _ => 0)))), (q7, .inl (c7, 132, .inl (fun _ => 0))), (q8, .inl (c8, 41, .inl (fun _ => 0))), (q9, .inl (c9, 41, .inr (.inl (fun _ => 0)))), (q10, .inl (c10, 132, .inl (fun _ => 0))), (q11, .inl (c11, 14278, .inl (fun _ => 0))), (q12, .inl (c12, 2640, .inr (.inl (fun _ => 0)))), (q13, .inl (c13, 2, .inl (fun _ => 0))), (q14, .inl (c14, 41, .inl (fun _ => 0))), (q15, .inl (c15, 41, .inl (fun _ => 0))), (q16, .inl (c16, 41, .inl (fun _ => 0))), (q17, .inl (c17, 41, .inl (fun _ => 0))), (q18, .inl (c18, 41, .inl (fun _ => 0))), (q19, .inl (c19, 132, .inl (fun _ => 0))), (q20, .inl (c20, 132, .inl (fun _ => 0))), (q21, .inl (c21, 41, .inl (fun _ => 0))), (q22, .inl (c22, 2, .inl (fun _ => 0))), (q23, .inl (c23, 8, .inl (fun _ => 0)))] := rfl
set_option maxRecDepth 20000 in
theorem ct_t8 (ca : Nat → ClassId) (c1 c2 c3 c4 c5 c6 c7 c8 c9 c10 c11 c12 c13 c14 c15 c16 c17 c18 c19 c20 c21 c22 c23 : ClassId) : ct_tys (ct_cut 52 ca (ct_pk 0 [0, c1, c2, c3, c4, c5, c6, c7, c8, c9, c10, c11, c12, c13, c14, c15, c16, c17, c18, c19, c20, c21, c22, c23])) 52 ct_shX8 = [(c1, .byte), (c2, .int), (c3, .int), (c4, .int), (c5, .int), (c6, .long), (c7, .boolean), (c8, .int), (c9, .long), (c10, .int), (c11, .int), (c12, .long), (c13, .boolean), (c14, .boolean), (c15, .int), (c16, .int), (c17, .int), (c18, .int), (c19, .int), (c20, .int), (c21, .int), (c22, .int), (c23, .int)] := rfl
