theorem cdX4_0 : decode prog_6_method_1_code 0 = .ok (.aload_n 0, 1) := by decide +kernel
theorem cdX4_1 : decode prog_6_method_1_code 1 = .ok (.invokespecial 3, 3) := by decide +kernel
theorem cdX4_4 : decode prog_6_method_1_code 4 = .ok (.aload_n 0, 1) := by decide +kernel
theorem cdX4_5 : decode prog_6_method_1_code 5 = .ok (.sipush 300, 3) := by decide +kernel
theorem cdX4_8 : decode prog_6_method_1_code 8 = .ok (.newarray .byte, 2) := by decide +kernel
theorem cdX4_10 : decode prog_6_method_1_code 10 = .ok (.putfield 9, 3) := by decide +kernel
theorem cdX4_13 : decode prog_6_method_1_code 13 = .ok (.aload_n 0, 1) := by decide +kernel
theorem cdX4_14 : decode prog_6_method_1_code 14 = .ok (.iconst 0, 1) := by decide +kernel
theorem cdX4_15 : decode prog_6_method_1_code 15 = .ok (.putfield 15, 3) := by decide +kernel
theorem cdX4_18 : decode prog_6_method_1_code 18 = .ok (.aload_n 0, 1) := by decide +kernel
theorem cdX4_19 : decode prog_6_method_1_code 19 = .ok (.iconst 0, 1) := by decide +kernel
theorem cdX4_20 : decode prog_6_method_1_code 20 = .ok (.putfield 19, 3) := by decide +kernel
theorem cdX4_23 : decode prog_6_method_1_code 23 = .ok (.return_, 1) := by decide +kernel
def ct_eX4 : ia_H := ct_hX4
set_option maxHeartbeats 4000000 in
theorem ct_cX4 (l : Launch) (D : va_G) : ct_Met l RX4 prog_6_method_1_code 1 { frames := 1, cells := 1, slots := 300, locals := 12 } D 4 [.null, .int 0, .int 0] [] [] ct_shX4 (fun q u => u.1 0 = q ∧ u.2.2 = ct_eX4) := by
  refine ct_of (by decide) cdX4_0 cdX4_1 (List.mem_of_getElem? (i := 120) (by decide +kernel)) (Nat.le_of_ble_eq_true rfl) (Nat.le_of_ble_eq_true rfl) (Nat.le_of_ble_eq_true rfl) ?_
  intro p e s m h0 below meth c ls A hB hl hP hK hD hA
  obtain ⟨hx, hb, hr, hml, hown, hts, hlocks, hin, hEn⟩ := id hB
  have hS : va_S A s.heap s.heap [] := va_S.rf
  refine lv_aload_n hx hb cdX4_4 rfl (lv_at hl 0 rfl) ?_
  refine lv_sipush (v := 300) hx hb cdX4_5 (by decide) ?_
  refine ct_na (atype := .byte) (ty := .byte) hB rfl (List.mem_of_getElem? (i := 6) (by decide +kernel)) hK hP hD hS hA (N' := 300) (a0 := (300, .inl (fun _ => 0))) (fun cA => rfl) (by decide) (by decide) (Nat.le_of_ble_eq_true rfl) (Nat.le_of_ble_eq_true rfl) (Nat.le_of_ble_eq_true rfl) cdX4_8 (T := TX4) (N := 3) rfl 0 (by decide) (List.mem_of_getElem? (i := 121) (by decide +kernel)) rfl rfl (by decide +kernel) (Nat.le_of_ble_eq_true rfl) cdX4_10 (fun q1 c1 H locs hK hP hD hS => ?_)
  have hK : va_K D ia_cl [(c1, .byte)] s := hK
  have hP : va_P D ia_cl ((h0, .inr (4, [.ref q1, .int 0, .int 0])) :: [(q1, .inl (c1, 300, .inl (fun _ => 0)))]) H := hP
  have hD : va_D A ((h0, .inr (4, [.ref q1, .int 0, .int 0])) :: [(q1, .inl (c1, 300, .inl (fun _ => 0)))]) := hD
  refine W.widen (k := 1) (n := 300) (Nat.le_of_ble_eq_true rfl) (Nat.le_of_ble_eq_true rfl) ?_
  refine lv_aload_n hx hb cdX4_13 rfl (lv_at hl 0 rfl) ?_
  refine lv_iconst (v := 0) hx hb cdX4_14 (by decide) ?_
  refine ct_pi hB hK hP hD hS (T := TX4) (N := 3) rfl 1 (by decide) (List.mem_of_getElem? (i := 122) (by decide +kernel)) rfl (by decide +kernel) (Nat.le_of_ble_eq_true rfl) cdX4_15 (fun H locs hP hD hS => ?_)
  have hP : va_P D ia_cl ((h0, .inr (4, [.ref q1, .int 0, .int 0])) :: [(q1, .inl (c1, 300, .inl (fun _ => 0)))]) H := hP
  have hD : va_D A ((h0, .inr (4, [.ref q1, .int 0, .int 0])) :: [(q1, .inl (c1, 300, .inl (fun _ => 0)))]) := hD
  refine lv_aload_n hx hb cdX4_18 rfl (lv_at hl 0 rfl) ?_
  refine lv_iconst (v := 0) hx hb cdX4_19 (by decide) ?_
  refine ct_pi hB hK hP hD hS (T := TX4) (N := 3) rfl 2 (by decide) (List.mem_of_getElem? (i := 123) (by decide +kernel)) rfl (by decide +kernel) (Nat.le_of_ble_eq_true rfl) cdX4_20 (fun H locs hP hD hS => ?_)
  have hP : va_P D ia_cl ((h0, .inr (4, [.ref q1, .int 0, .int 0])) :: [(q1, .inl (c1, 300, .inl (fun _ => 0)))]) H := hP
  have hD : va_D A ((h0, .inr (4, [.ref q1, .int 0, .int 0])) :: [(q1, .inl (c1, 300, .inl (fun _ => 0)))]) := hD
  have hK9 : va_K D ia_cl (ct_tys (ct_pk 0 [0, c1]) 0 ct_shX4) s := hK
  have hP9 : va_P D ia_cl (ia_w (ct_pk 0 [h0, q1]) (ct_pk 0 [0, c1]) ct_hX4 0 ct_shX4) H := hP
  have hD9 : va_D A (ia_w (ct_pk 0 [h0, q1]) (ct_pk 0 [0, c1]) ct_hX4 0 ct_shX4) := hD
  exact W.vret hx hb hr (fun t ht hW => ⟨⟨(ct_pk 0 [h0, q1], ct_pk 0 [0, c1], ct_eX4), rfl, ⟨rfl, rfl⟩, by rw [ht]; exact hP9, va_K.moved hW.alike hK9, hD9⟩, hS.F ht⟩) hS.2.2 cdX4_23 hlocks
theorem cdX5_0 : decode prog_7_method_1_code 0 = .ok (.aload_n 0, 1) := by decide +kernel
theorem cdX5_1 : decode prog_7_method_1_code 1 = .ok (.invokespecial 3, 3) := by decide +kernel
theorem cdX5_4 : decode prog_7_method_1_code 4 = .ok (.aload_n 0, 1) := by decide +kernel
theorem cdX5_5 : decode prog_7_method_1_code 5 = .ok (.sipush 246, 3) := by decide +kernel
theorem cdX5_8 : decode prog_7_method_1_code 8 = .ok (.newarray .byte, 2) := by decide +kernel
theorem cdX5_10 : decode prog_7_method_1_code 10 = .ok (.putfield 9, 3) := by decide +kernel
theorem cdX5_13 : decode prog_7_method_1_code 13 = .ok (.aload_n 0, 1) := by decide +kernel
theorem cdX5_14 : decode prog_7_method_1_code 14 = .ok (.bipush 41, 2) := by decide +kernel
theorem cdX5_16 : decode prog_7_method_1_code 16 = .ok (.newarray .int, 2) := by decide +kernel
theorem cdX5_18 : decode prog_7_method_1_code 18 = .ok (.putfield 15, 3) := by decide +kernel
theorem cdX5_21 : decode prog_7_method_1_code 21 = .ok (.aload_n 0, 1) := by decide +kernel
theorem cdX5_22 : decode prog_7_method_1_code 22 = .ok (.bipush 120, 2) := by decide +kernel
theorem cdX5_24 : decode prog_7_method_1_code 24 = .ok (.newarray .int, 2) := by decide +kernel
theorem cdX5_26 : decode prog_7_method_1_code 26 = .ok (.putfield 19, 3) := by decide +kernel
theorem cdX5_29 : decode prog_7_method_1_code 29 = .ok (.aload_n 0, 1) := by decide +kernel
theorem cdX5_30 : decode prog_7_method_1_code 30 = .ok (.bipush 120, 2) := by decide +kernel
theorem cdX5_32 : decode prog_7_method_1_code 32 = .ok (.newarray .int, 2) := by decide +kernel
theorem cdX5_34 : decode prog_7_method_1_code 34 = .ok (.putfield 22, 3) := by decide +kernel
theorem cdX5_37 : decode prog_7_method_1_code 37 = .ok (.aload_n 0, 1) := by decide +kernel
theorem cdX5_38 : decode prog_7_method_1_code 38 = .ok (.bipush 120, 2) := by decide +kernel
theorem cdX5_40 : decode prog_7_method_1_code 40 = .ok (.newarray .long, 2) := by decide +kernel
theorem cdX5_42 : decode prog_7_method_1_code 42 = .ok (.putfield 25, 3) := by decide +kernel
theorem cdX5_45 : decode prog_7_method_1_code 45 = .ok (.aload_n 0, 1) := by decide +kernel
theorem cdX5_46 : decode prog_7_method_1_code 46 = .ok (.bipush 120, 2) := by decide +kernel
theorem cdX5_48 : decode prog_7_method_1_code 48 = .ok (.newarray .boolean, 2) := by decide +kernel
theorem cdX5_50 : decode prog_7_method_1_code 50 = .ok (.putfield 29, 3) := by decide +kernel
theorem cdX5_53 : decode prog_7_method_1_code 53 = .ok (.aload_n 0, 1) := by decide +kernel
theorem cdX5_54 : decode prog_7_method_1_code 54 = .ok (.iconst 1, 1) := by decide +kernel
theorem cdX5_55 : decode prog_7_method_1_code 55 = .ok (.putfield 33, 3) := by decide +kernel
theorem cdX5_58 : decode prog_7_method_1_code 58 = .ok (.aload_n 0, 1) := by decide +kernel
theorem cdX5_59 : decode prog_7_method_1_code 59 = .ok (.iconst 0, 1) := by decide +kernel
theorem cdX5_60 : decode prog_7_method_1_code 60 = .ok (.putfield 37, 3) := by decide +kernel
theorem cdX5_63 : decode prog_7_method_1_code 63 = .ok (.return_, 1) := by decide +kernel
def ct_eX5 : ia_H := ct_hX5
set_option maxHeartbeats 4000000 in
theorem ct_cX5 (l : Launch) (D : va_G) : ct_Met l RX5 prog_7_method_1_code 1 { frames := 1, cells := 6, slots := 767, locals := 12 } D 5 [.null, .null, .null, .null, .null, .null, .int 0, .int 0] [] [] ct_shX5 (fun q u => u.1 0 = q ∧ u.2.2 = ct_eX5) := by
  refine ct_of (by decide) cdX5_0 cdX5_1 (List.mem_of_getElem? (i := 137) (by decide +kernel)) (Nat.le_of_ble_eq_true rfl) (Nat.le_of_ble_eq_true rfl) (Nat.le_of_ble_eq_true rfl) ?_
  intro p e s m h0 below meth c ls A hB hl hP hK hD hA
  obtain ⟨hx, hb, hr, hml, hown, hts, hlocks, hin, hEn⟩ := id hB
  have hS : va_S A s.heap s.heap [] := va_S.rf
  refine lv_aload_n hx hb cdX5_4 rfl (lv_at hl 0 rfl) ?_
  refine lv_sipush (v := 246) hx hb cdX5_5 (by decide) ?_
  refine ct_na (atype := .byte) (ty := .byte) hB rfl (List.mem_of_getElem? (i := 6) (by decide +kernel)) hK hP hD hS hA (N' := 246) (a0 := (246, .inl (fun _ => 0))) (fun cA => rfl) (by decide) (by decide) (Nat.le_of_ble_eq_true rfl) (Nat.le_of_ble_eq_true rfl) (Nat.le_of_ble_eq_true rfl) cdX5_8 (T := TX5) (N := 8) rfl 0 (by decide) (List.mem_of_getElem? (i := 138) (by decide +kernel)) rfl rfl (by decide +kernel) (Nat.le_of_ble_eq_true rfl) cdX5_10 (fun q1 c1 H locs hK hP hD hS => ?_)
  have hK : va_K D ia_cl [(c1, .byte)] s := hK
  have hP : va_P D ia_cl ((h0, .inr (5, [.ref q1, .null, .null, .null, .null, .null, .int 0, .int 0])) :: [(q1, .inl (c1, 246, .inl (fun _ => 0)))]) H := hP
  have hD : va_D A ((h0, .inr (5, [.ref q1, .null, .null, .null, .null, .null, .int 0, .int 0])) :: [(q1, .inl (c1, 246, .inl (fun _ => 0)))]) := hD
  refine W.widen (k := 1) (n := 246) (Nat.le_of_ble_eq_true rfl) (Nat.le_of_ble_eq_true rfl) ?_
  refine lv_aload_n hx hb cdX5_13 rfl (lv_at hl 0 rfl) ?_
  refine lv_bipush (v := 41) hx hb cdX5_14 (by decide) ?_
  refine ct_na (atype := .int) (ty := .int) hB rfl (List.mem_of_getElem? (i := 9) (by decide +kernel)) hK hP hD hS hA (N' := 41) (a0 := (41, .inl (fun _ => 0))) (fun cA => rfl) (by decide) (by decide) (Nat.le_of_ble_eq_true rfl) (Nat.le_of_ble_eq_true rfl) (Nat.le_of_ble_eq_true rfl) cdX5_16 (T := TX5) (N := 8) rfl 1 (by decide) (List.mem_of_getElem? (i := 139) (by decide +kernel)) rfl rfl (by decide +kernel) (Nat.le_of_ble_eq_true rfl) cdX5_18 (fun q2 c2 H locs hK hP hD hS => ?_)
  have hK : va_K D ia_cl [(c1, .byte), (c2, .int)] s := hK
  have hP : va_P D ia_cl ((h0, .inr (5, [.ref q1, .ref q2, .null, .null, .null, .null, .int 0, .int 0])) :: [(q1, .inl (c1, 246, .inl (fun _ => 0))), (q2, .inl (c2, 41, .inl (fun _ => 0)))]) H := hP
  have hD : va_D A ((h0, .inr (5, [.ref q1, .ref q2, .null, .null, .null, .null, .int 0, .int 0])) :: [(q1, .inl (c1, 246, .inl (fun _ => 0))), (q2, .inl (c2, 41, .inl (fun _ => 0)))]) := hD
  refine W.widen (k := 2) (n := 287) (Nat.le_of_ble_eq_true rfl) (Nat.le_of_ble_eq_true rfl) ?_
  refine lv_aload_n hx hb cdX5_21 rfl (lv_at hl 0 rfl) ?_
  refine lv_bipush (v := 120) hx hb cdX5_22 (by decide) ?_
  refine ct_na (atype := .int) (ty := .int) hB rfl (List.mem_of_getElem? (i := 9) (by decide +kernel)) hK hP hD hS hA (N' := 120) (a0 := (120, .inl (fun _ => 0))) (fun cA => rfl) (by decide) (by decide) (Nat.le_of_ble_eq_true rfl) (Nat.le_of_ble_eq_true rfl) (Nat.le_of_ble_eq_true rfl) cdX5_24 (T := TX5) (N := 8) rfl 2 (by decide) (List.mem_of_getElem? (i := 140) (by decide +kernel)) rfl rfl (by decide +kernel) (Nat.le_of_ble_eq_true rfl) cdX5_26 (fun q3 c3 H locs hK hP hD hS => ?_)
  have hK : va_K D ia_cl [(c1, .byte), (c2, .int), (c3, .int)] s := hK
  have hP : va_P D ia_cl ((h0, .inr (5, [.ref q1, .ref q2, .ref q3, .null, .null, .null, .int 0, .int 0])) :: [(q1, .inl (c1, 246, .inl (fun _ => 0))), (q2, .inl (c2, 41, .inl (fun _ => 0))), (q3, .inl (c3, 120, .inl (fun _ => 0)))]) H := hP
  have hD : va_D A ((h0, .inr (5, [.ref q1, .ref q2, .ref q3, .null, .null, .null, .int 0, .int 0])) :: [(q1, .inl (c1, 246, .inl (fun _ => 0))), (q2, .inl (c2, 41, .inl (fun _ => 0))), (q3, .inl (c3, 120, .inl (fun _ => 0)))]) := hD
  refine W.widen (k := 3) (n := 407) (Nat.le_of_ble_eq_true rfl) (Nat.le_of_ble_eq_true rfl) ?_
  refine lv_aload_n hx hb cdX5_29 rfl (lv_at hl 0 rfl) ?_
  refine lv_bipush (v := 120) hx hb cdX5_30 (by decide) ?_
  refine ct_na (atype := .int) (ty := .int) hB rfl (List.mem_of_getElem? (i := 9) (by decide +kernel)) hK hP hD hS hA (N' := 120) (a0 := (120, .inl (fun _ => 0))) (fun cA => rfl) (by decide) (by decide) (Nat.le_of_ble_eq_true rfl) (Nat.le_of_ble_eq_true rfl) (Nat.le_of_ble_eq_true rfl) cdX5_32 (T := TX5) (N := 8) rfl 3 (by decide) (List.mem_of_getElem? (i := 141) (by decide +kernel)) rfl rfl (by decide +kernel) (Nat.le_of_ble_eq_true rfl) cdX5_34 (fun q4 c4 H locs hK hP hD hS => ?_)
  have hK : va_K D ia_cl [(c1, .byte), (c2, .int), (c3, .int), (c4, .int)] s := hK
  have hP : va_P D ia_cl ((h0, .inr (5, [.ref q1, .ref q2, .ref q3, .ref q4, .null, .null, .int 0, .int 0])) :: [(q1, .inl (c1, 246, .inl (fun _ => 0))), (q2, .inl (c2, 41, .inl (fun _ => 0))), (q3, .inl (c3, 120, .inl (fun _ => 0))), (q4, .inl (c4, 120, .inl (fun _ => 0)))]) H := hP
  have hD : va_D A ((h0, .inr (5, [.ref q1, .ref q2, .ref q3, .ref q4, .null, .null, .int 0, .int 0])) :: [(q1, .inl (c1, 246, .inl (fun _ => 0))), (q2, .inl (c2, 41, .inl (fun _ => 0))), (q3, .inl (c3, 120, .inl (fun _ => 0))), (q4, .inl (c4, 120, .inl (fun _ => 0)))]) := hD
  refine W.widen (k := 4) (n := 527) (Nat.le_of_ble_eq_true rfl) (Nat.le_of_ble_eq_true rfl) ?_
  refine lv_aload_n hx hb cdX5_37 rfl (lv_at hl 0 rfl) ?_
  refine lv_bipush (v := 120) hx hb cdX5_38 (by decide) ?_
  refine ct_na (atype := .long) (ty := .long) hB rfl (List.mem_of_getElem? (i := 10) (by decide +kernel)) hK hP hD hS hA (N' := 120) (a0 := (120, .inr (.inl (fun _ => 0)))) (fun cA => rfl) (by decide) (by decide) (Nat.le_of_ble_eq_true rfl) (Nat.le_of_ble_eq_true rfl) (Nat.le_of_ble_eq_true rfl) cdX5_40 (T := TX5) (N := 8) rfl 4 (by decide) (List.mem_of_getElem? (i := 142) (by decide +kernel)) rfl rfl (by decide +kernel) (Nat.le_of_ble_eq_true rfl) cdX5_42 (fun q5 c5 H locs hK hP hD hS => ?_)
  have hK : va_K D ia_cl [(c1, .byte), (c2, .int), (c3, .int), (c4, .int), (c5, .long)] s := hK
  have hP : va_P D ia_cl ((h0, .inr (5, [.ref q1, .ref q2, .ref q3, .ref q4, .ref q5, .null, .int 0, .int 0])) :: [(q1, .inl (c1, 246, .inl (fun _ => 0))), (q2, .inl (c2, 41, .inl (fun _ => 0))), (q3, .inl (c3, 120, .inl (fun _ => 0))), (q4, .inl (c4, 120, .inl (fun _ => 0))), (q5, .inl (c5, 120, .inr (.inl (fun _ => 0))))]) H := hP
  have hD : va_D A ((h0, .inr (5, [.ref q1, .ref q2, .ref q3, .ref q4, .ref q5, .null, .int 0, .int 0])) :: [(q1, .inl (c1, 246, .inl (fun _ => 0))), (q2, .inl (c2, 41, .inl (fun _ => 0))), (q3, .inl (c3, 120, .inl (fun _ => 0))), (q4, .inl (c4, 120, .inl (fun _ => 0))), (q5, .inl (c5, 120, .inr (.inl (fun _ => 0))))]) := hD
  refine W.widen (k := 5) (n := 647) (Nat.le_of_ble_eq_true rfl) (Nat.le_of_ble_eq_true rfl) ?_
  refine lv_aload_n hx hb cdX5_45 rfl (lv_at hl 0 rfl) ?_
  refine lv_bipush (v := 120) hx hb cdX5_46 (by decide) ?_
  refine ct_na (atype := .boolean) (ty := .boolean) hB rfl (List.mem_of_getElem? (i := 11) (by decide +kernel)) hK hP hD hS hA (N' := 120) (a0 := (120, .inl (fun _ => 0))) (fun cA => rfl) (by decide) (by decide) (Nat.le_of_ble_eq_true rfl) (Nat.le_of_ble_eq_true rfl) (Nat.le_of_ble_eq_true rfl) cdX5_48 (T := TX5) (N := 8) rfl 5 (by decide) (List.mem_of_getElem? (i := 143) (by decide +kernel)) rfl rfl (by decide +kernel) (Nat.le_of_ble_eq_true rfl) cdX5_50 (fun q6 c6 H locs hK hP hD hS => ?_)
  have hK : va_K D ia_cl [(c1, .byte), (c2, .int), (c3, .int), (c4, .int), (c5, .long), (c6, .boolean)] s := hK
  have hP : va_P D ia_cl ((h0, .inr (5, [.ref q1, .ref q2, .ref q3, .ref q4, .ref q5, .ref q6, .int 0, .int 0])) :: [(q1, .inl (c1, 246, .inl (fun _ => 0))), (q2, .inl (c2, 41, .inl (fun _ => 0))), (q3, .inl (c3, 120, .inl (fun _ => 0))), (q4, .inl (c4, 120, .inl (fun _ => 0))), (q5, .inl (c5, 120, .inr (.inl (fun _ => 0)))), (q6, .inl (c6, 120, .inl (fun _ => 0)))]) H := hP
  have hD : va_D A ((h0, .inr (5, [.ref q1, .ref q2, .ref q3, .ref q4, .ref q5, .ref q6, .int 0, .int 0])) :: [(q1, .inl (c1, 246, .inl (fun _ => 0))), (q2, .inl (c2, 41, .inl (fun _ => 0))), (q3, .inl (c3, 120, .inl (fun _ => 0))), (q4, .inl (c4, 120, .inl (fun _ => 0))), (q5, .inl (c5, 120, .inr (.inl (fun _ => 0)))), (q6, .inl (c6, 120, .inl (fun _ => 0)))]) := hD
  refine W.widen (k := 6) (n := 767) (Nat.le_of_ble_eq_true rfl) (Nat.le_of_ble_eq_true rfl) ?_
  refine lv_aload_n hx hb cdX5_53 rfl (lv_at hl 0 rfl) ?_
  refine lv_iconst (v := 1) hx hb cdX5_54 (by decide) ?_
  refine ct_pi hB hK hP hD hS (T := TX5) (N := 8) rfl 6 (by decide) (List.mem_of_getElem? (i := 144) (by decide +kernel)) rfl (by decide +kernel) (Nat.le_of_ble_eq_true rfl) cdX5_55 (fun H locs hP hD hS => ?_)
  have hP : va_P D ia_cl ((h0, .inr (5, [.ref q1, .ref q2, .ref q3, .ref q4, .ref q5, .ref q6, .int 1, .int 0])) :: [(q1, .inl (c1, 246, .inl (fun _ => 0))), (q2, .inl (c2, 41, .inl (fun _ => 0))), (q3, .inl (c3, 120, .inl (fun _ => 0))), (q4, .inl (c4, 120, .inl (fun _ => 0))), (q5, .inl (c5, 120, .inr (.inl (fun _ => 0)))), (q6, .inl (c6, 120, .inl (fun _ => 0)))]) H := hP
  have hD : va_D A ((h0, .inr (5, [.ref q1, .ref q2, .ref q3, .ref q4, .ref q5, .ref q6, .int 1, .int 0])) :: [(q1, .inl (c1, 246, .inl (fun _ => 0))), (q2, .inl (c2, 41, .inl (fun _ => 0))), (q3, .inl (c3, 120, .inl (fun _ => 0))), (q4, .inl (c4, 120, .inl (fun _ => 0))), (q5, .inl (c5, 120, .inr (.inl (fun _ => 0)))), (q6, .inl (c6, 120, .inl (fun _ => 0)))]) := hD
  refine lv_aload_n hx hb cdX5_58 rfl (lv_at hl 0 rfl) ?_
  refine lv_iconst (v := 0) hx hb cdX5_59 (by decide) ?_
  refine ct_pi hB hK hP hD hS (T := TX5) (N := 8) rfl 7 (by decide) (List.mem_of_getElem? (i := 145) (by decide +kernel)) rfl (by decide +kernel) (Nat.le_of_ble_eq_true rfl) cdX5_60 (fun H locs hP hD hS => ?_)
  have hP : va_P D ia_cl ((h0, .inr (5, [.ref q1, .ref q2, .ref q3, .ref q4, .ref q5, .ref q6, .int 1, .int 0])) :: [(q1, .inl (c1, 246, .inl (fun _ => 0))), (q2, .inl (c2, 41, .inl (fun _ => 0))), (q3, .inl (c3, 120, .inl (fun _ => 0))), (q4, .inl (c4, 120, .inl (fun _ => 0))), (q5, .inl (c5, 120, .inr (.inl (fun _ => 0)))), (q6, .inl (c6, 120, .inl (fun _ => 0)))]) H := hP
  have hD : va_D A ((h0, .inr (5, [.ref q1, .ref q2, .ref q3, .ref q4, .ref q5, .ref q6, .int 1, .int 0])) :: [(q1, .inl (c1, 246, .inl (fun _ => 0))), (q2, .inl (c2, 41, .inl (fun _ => 0))), (q3, .inl (c3, 120, .inl (fun _ => 0))), (q4, .inl (c4, 120, .inl (fun _ => 0))), (q5, .inl (c5, 120, .inr (.inl (fun _ => 0)))), (q6, .inl (c6, 120, .inl (fun _ => 0)))]) := hD
  have hK9 : va_K D ia_cl (ct_tys (ct_pk 0 [0, c1, c2, c3, c4, c5, c6]) 0 ct_shX5) s := hK
  have hP9 : va_P D ia_cl (ia_w (ct_pk 0 [h0, q1, q2, q3, q4, q5, q6]) (ct_pk 0 [0, c1, c2, c3, c4, c5, c6]) ct_hX5 0 ct_shX5) H := hP
  have hD9 : va_D A (ia_w (ct_pk 0 [h0, q1, q2, q3, q4, q5, q6]) (ct_pk 0 [0, c1, c2, c3, c4, c5, c6]) ct_hX5 0 ct_shX5) := hD
  exact W.vret hx hb hr (fun t ht hW => ⟨⟨(ct_pk 0 [h0, q1, q2, q3, q4, q5, q6], ct_pk 0 [0, c1, c2, c3, c4, c5, c6], ct_eX5), rfl, ⟨rfl, rfl⟩, by rw [ht]; exact hP9, va_K.moved hW.alike hK9, hD9⟩, hS.F ht⟩) hS.2.2 cdX5_63 hlocks
theorem cdX0_0 : decode prog_2_method_1_code 0 = .ok (.aload_n 0, 1) := by decide +kernel
theorem cdX0_1 : decode prog_2_method_1_code 1 = .ok (.invokespecial 3, 3) := by decide +kernel
theorem cdX0_4 : decode prog_2_method_1_code 4 = .ok (.aload_n 0, 1) := by decide +kernel
theorem cdX0_5 : decode prog_2_method_1_code 5 = .ok (.bipush 20, 2) := by decide +kernel
theorem cdX0_7 : decode prog_2_method_1_code 7 = .ok (.newarray .int, 2) := by decide +kernel
theorem cdX0_9 : decode prog_2_method_1_code 9 = .ok (.putfield 9, 3) := by decide +kernel
theorem cdX0_12 : decode prog_2_method_1_code 12 = .ok (.aload_n 0, 1) := by decide +kernel
theorem cdX0_13 : decode prog_2_method_1_code 13 = .ok (.bipush 20, 2) := by decide +kernel
theorem cdX0_15 : decode prog_2_method_1_code 15 = .ok (.newarray .int, 2) := by decide +kernel
theorem cdX0_17 : decode prog_2_method_1_code 17 = .ok (.putfield 15, 3) := by decide +kernel
theorem cdX0_20 : decode prog_2_method_1_code 20 = .ok (.aload_n 0, 1) := by decide +kernel
theorem cdX0_21 : decode prog_2_method_1_code 21 = .ok (.bipush 20, 2) := by decide +kernel
theorem cdX0_23 : decode prog_2_method_1_code 23 = .ok (.newarray .int, 2) := by decide +kernel
theorem cdX0_25 : decode prog_2_method_1_code 25 = .ok (.putfield 18, 3) := by decide +kernel
theorem cdX0_28 : decode prog_2_method_1_code 28 = .ok (.aload_n 0, 1) := by decide +kernel
theorem cdX0_29 : decode prog_2_method_1_code 29 = .ok (.iconst 0, 1) := by decide +kernel
theorem cdX0_30 : decode prog_2_method_1_code 30 = .ok (.putfield 21, 3) := by decide +kernel
theorem cdX0_33 : decode prog_2_method_1_code 33 = .ok (.aload_n 0, 1) := by decide +kernel
theorem cdX0_34 : decode prog_2_method_1_code 34 = .ok (.iconst 0, 1) := by decide +kernel
theorem cdX0_35 : decode prog_2_method_1_code 35 = .ok (.putfield 25, 3) := by decide +kernel
theorem cdX0_38 : decode prog_2_method_1_code 38 = .ok (.return_, 1) := by decide +kernel
def ct_eX0 : ia_H := ct_hX0
set_option maxHeartbeats 4000000 in
theorem ct_cX0 (l : Launch) (D : va_G) : ct_Met l RX0 prog_2_method_1_code 1 { frames := 1, cells := 3, slots := 60, locals := 12 } D 0 [.null, .null, .null, .int 0, .int 0] [] [] ct_shX0 (fun q u => u.1 0 = q ∧ u.2.2 = ct_eX0) := by
  refine ct_of (by decide) cdX0_0 cdX0_1 (List.mem_of_getElem? (i := 201) (by decide +kernel)) (Nat.le_of_ble_eq_true rfl) (Nat.le_of_ble_eq_true rfl) (Nat.le_of_ble_eq_true rfl) ?_
  intro p e s m h0 below meth c ls A hB hl hP hK hD hA
  obtain ⟨hx, hb, hr, hml, hown, hts, hlocks, hin, hEn⟩ := id hB
  have hS : va_S A s.heap s.heap [] := va_S.rf
  refine lv_aload_n hx hb cdX0_4 rfl (lv_at hl 0 rfl) ?_
  refine lv_bipush (v := 20) hx hb cdX0_5 (by decide) ?_
  refine ct_na (atype := .int) (ty := .int) hB rfl (List.mem_of_getElem? (i := 9) (by decide +kernel)) hK hP hD hS hA (N' := 20) (a0 := (20, .inl (fun _ => 0))) (fun cA => rfl) (by decide) (by decide) (Nat.le_of_ble_eq_true rfl) (Nat.le_of_ble_eq_true rfl) (Nat.le_of_ble_eq_true rfl) cdX0_7 (T := TX0) (N := 5) rfl 0 (by decide) (List.mem_of_getElem? (i := 202) (by decide +kernel)) rfl rfl (by decide +kernel) (Nat.le_of_ble_eq_true rfl) cdX0_9 (fun q1 c1 H locs hK hP hD hS => ?_)
  have hK : va_K D ia_cl [(c1, .int)] s := hK
  have hP : va_P D ia_cl ((h0, .inr (0, [.ref q1, .null, .null, .int 0, .int 0])) :: [(q1, .inl (c1, 20, .inl (fun _ => 0)))]) H := hP
  have hD : va_D A ((h0, .inr (0, [.ref q1, .null, .null, .int 0, .int 0])) :: [(q1, .inl (c1, 20, .inl (fun _ => 0)))]) := hD
  refine W.widen (k := 1) (n := 20) (Nat.le_of_ble_eq_true rfl) (Nat.le_of_ble_eq_true rfl) ?_
  refine lv_aload_n hx hb cdX0_12 rfl (lv_at hl 0 rfl) ?_
  refine lv_bipush (v := 20) hx hb cdX0_13 (by decide) ?_
  refine ct_na (atype := .int) (ty := .int) hB rfl (List.mem_of_getElem? (i := 9) (by decide +kernel)) hK hP hD hS hA (N' := 20) (a0 := (20, .inl (fun _ => 0))) (fun cA => rfl) (by decide) (by decide) (Nat.le_of_ble_eq_true rfl) (Nat.le_of_ble_eq_true rfl) (Nat.le_of_ble_eq_true rfl) cdX0_15 (T := TX0) (N := 5) rfl 1 (by decide) (List.mem_of_getElem? (i := 203) (by decide +kernel)) rfl rfl (by decide +kernel) (Nat.le_of_ble_eq_true rfl) cdX0_17 (fun q2 c2 H locs hK hP hD hS => ?_)
  have hK : va_K D ia_cl [(c1, .int), (c2, .int)] s := hK
  have hP : va_P D ia_cl ((h0, .inr (0, [.ref q1, .ref q2, .null, .int 0, .int 0])) :: [(q1, .inl (c1, 20, .inl (fun _ => 0))), (q2, .inl (c2, 20, .inl (fun _ => 0)))]) H := hP
  have hD : va_D A ((h0, .inr (0, [.ref q1, .ref q2, .null, .int 0, .int 0])) :: [(q1, .inl (c1, 20, .inl (fun _ => 0))), (q2, .inl (c2, 20, .inl (fun _ => 0)))]) := hD
  refine W.widen (k := 2) (n := 40) (Nat.le_of_ble_eq_true rfl) (Nat.le_of_ble_eq_true rfl) ?_
  refine lv_aload_n hx hb cdX0_20 rfl (lv_at hl 0 rfl) ?_
  refine lv_bipush (v := 20) hx hb cdX0_21 (by decide) ?_
  refine ct_na (atype := .int) (ty := .int) hB rfl (List.mem_of_getElem? (i := 9) (by decide +kernel)) hK hP hD hS hA (N' := 20) (a0 := (20, .inl (fun _ => 0))) (fun cA => rfl) (by decide) (by decide) (Nat.le_of_ble_eq_true rfl) (Nat.le_of_ble_eq_true rfl) (Nat.le_of_ble_eq_true rfl) cdX0_23 (T := TX0) (N := 5) rfl 2 (by decide) (List.mem_of_getElem? (i := 204) (by decide +kernel)) rfl rfl (by decide +kernel) (Nat.le_of_ble_eq_true rfl) cdX0_25 (fun q3 c3 H locs hK hP hD hS => ?_)
  have hK : va_K D ia_cl [(c1, .int), (c2, .int), (c3, .int)] s := hK
  have hP : va_P D ia_cl ((h0, .inr (0, [.ref q1, .ref q2, .ref q3, .int 0, .int 0])) :: [(q1, .inl (c1, 20, .inl (fun _ => 0))), (q2, .inl (c2, 20, .inl (fun _ => 0))), (q3, .inl (c3, 20, .inl (fun _ => 0)))]) H := hP
  have hD : va_D A ((h0, .inr (0, [.ref q1, .ref q2, .ref q3, .int 0, .int 0])) :: [(q1, .inl (c1, 20, .inl (fun _ => 0))), (q2, .inl (c2, 20, .inl (fun _ => 0))), (q3, .inl (c3, 20, .inl (fun _ => 0)))]) := hD
  refine W.widen (k := 3) (n := 60) (Nat.le_of_ble_eq_true rfl) (Nat.le_of_ble_eq_true rfl) ?_
  refine lv_aload_n hx hb cdX0_28 rfl (lv_at hl 0 rfl) ?_
  refine lv_iconst (v := 0) hx hb cdX0_29 (by decide) ?_
  refine ct_pi hB hK hP hD hS (T := TX0) (N := 5) rfl 3 (by decide) (List.mem_of_getElem? (i := 205) (by decide +kernel)) rfl (by decide +kernel) (Nat.le_of_ble_eq_true rfl) cdX0_30 (fun H locs hP hD hS => ?_)
  have hP : va_P D ia_cl ((h0, .inr (0, [.ref q1, .ref q2, .ref q3, .int 0, .int 0])) :: [(q1, .inl (c1, 20, .inl (fun _ => 0))), (q2, .inl (c2, 20, .inl (fun _ => 0))), (q3, .inl (c3, 20, .inl (fun _ => 0)))]) H := hP
  have hD : va_D A ((h0, .inr (0, [.ref q1, .ref q2, .ref q3, .int 0, .int 0])) :: [(q1, .inl (c1, 20, .inl (fun _ => 0))), (q2, .inl (c2, 20, .inl (fun _ => 0))), (q3, .inl (c3, 20, .inl (fun _ => 0)))]) := hD
  refine lv_aload_n hx hb cdX0_33 rfl (lv_at hl 0 rfl) ?_
  refine lv_iconst (v := 0) hx hb cdX0_34 (by decide) ?_
  refine ct_pi hB hK hP hD hS (T := TX0) (N := 5) rfl 4 (by decide) (List.mem_of_getElem? (i := 206) (by decide +kernel)) rfl (by decide +kernel) (Nat.le_of_ble_eq_true rfl) cdX0_35 (fun H locs hP hD hS => ?_)
  have hP : va_P D ia_cl ((h0, .inr (0, [.ref q1, .ref q2, .ref q3, .int 0, .int 0])) :: [(q1, .inl (c1, 20, .inl (fun _ => 0))), (q2, .inl (c2, 20, .inl (fun _ => 0))), (q3, .inl (c3, 20, .inl (fun _ => 0)))]) H := hP
  have hD : va_D A ((h0, .inr (0, [.ref q1, .ref q2, .ref q3, .int 0, .int 0])) :: [(q1, .inl (c1, 20, .inl (fun _ => 0))), (q2, .inl (c2, 20, .inl (fun _ => 0))), (q3, .inl (c3, 20, .inl (fun _ => 0)))]) := hD
  have hK9 : va_K D ia_cl (ct_tys (ct_pk 0 [0, c1, c2, c3]) 0 ct_shX0) s := hK
  have hP9 : va_P D ia_cl (ia_w (ct_pk 0 [h0, q1, q2, q3]) (ct_pk 0 [0, c1, c2, c3]) ct_hX0 0 ct_shX0) H := hP
  have hD9 : va_D A (ia_w (ct_pk 0 [h0, q1, q2, q3]) (ct_pk 0 [0, c1, c2, c3]) ct_hX0 0 ct_shX0) := hD
  exact W.vret hx hb hr (fun t ht hW => ⟨⟨(ct_pk 0 [h0, q1, q2, q3], ct_pk 0 [0, c1, c2, c3], ct_eX0), rfl, ⟨rfl, rfl⟩, by rw [ht]; exact hP9, va_K.moved hW.alike hK9, hD9⟩, hS.F ht⟩) hS.2.2 cdX0_38 hlocks
theorem cdX1_0 : decode prog_3_method_1_code 0 = .ok (.aload_n 0, 1) := by decide +kernel
theorem cdX1_1 : decode prog_3_method_1_code 1 = .ok (.invokespecial 3, 3) := by decide +kernel
theorem cdX1_4 : decode prog_3_method_1_code 4 = .ok (.aload_n 0, 1) := by decide +kernel
theorem cdX1_5 : decode prog_3_method_1_code 5 = .ok (.bipush 120, 2) := by decide +kernel
theorem cdX1_7 : decode prog_3_method_1_code 7 = .ok (.newarray .int, 2) := by decide +kernel
theorem cdX1_9 : decode prog_3_method_1_code 9 = .ok (.putfield 9, 3) := by decide +kernel
theorem cdX1_12 : decode prog_3_method_1_code 12 = .ok (.aload_n 0, 1) := by decide +kernel
theorem cdX1_13 : decode prog_3_method_1_code 13 = .ok (.bipush 41, 2) := by decide +kernel
theorem cdX1_15 : decode prog_3_method_1_code 15 = .ok (.newarray .int, 2) := by decide +kernel
theorem cdX1_17 : decode prog_3_method_1_code 17 = .ok (.putfield 15, 3) := by decide +kernel
theorem cdX1_20 : decode prog_3_method_1_code 20 = .ok (.aload_n 0, 1) := by decide +kernel
theorem cdX1_21 : decode prog_3_method_1_code 21 = .ok (.bipush 41, 2) := by decide +kernel
theorem cdX1_23 : decode prog_3_method_1_code 23 = .ok (.newarray .long, 2) := by decide +kernel
theorem cdX1_25 : decode prog_3_method_1_code 25 = .ok (.putfield 18, 3) := by decide +kernel
theorem cdX1_28 : decode prog_3_method_1_code 28 = .ok (.iconst 0, 1) := by decide +kernel
theorem cdX1_29 : decode prog_3_method_1_code 29 = .ok (.istore_n 1, 1) := by decide +kernel
theorem cdX1_30 : decode prog_3_method_1_code 30 = .ok (.iload_n 1, 1) := by decide +kernel
theorem cdX1_31 : decode prog_3_method_1_code 31 = .ok (.bipush 41, 2) := by decide +kernel
theorem cdX1_33 : decode prog_3_method_1_code 33 = .ok (.if_icmp .ge 16, 3) := by decide +kernel
theorem cdX1_36 : decode prog_3_method_1_code 36 = .ok (.aload_n 0, 1) := by decide +kernel
theorem cdX1_37 : decode prog_3_method_1_code 37 = .ok (.getfield 15, 3) := by decide +kernel
theorem cdX1_40 : decode prog_3_method_1_code 40 = .ok (.iload_n 1, 1) := by decide +kernel
theorem cdX1_41 : decode prog_3_method_1_code 41 = .ok (.iload_n 1, 1) := by decide +kernel
theorem cdX1_42 : decode prog_3_method_1_code 42 = .ok (.iastore, 1) := by decide +kernel
theorem cdX1_43 : decode prog_3_method_1_code 43 = .ok (.iinc 1 1, 3) := by decide +kernel
theorem cdX1_46 : decode prog_3_method_1_code 46 = .ok (.goto (-16), 3) := by decide +kernel
theorem cdX1_49 : decode prog_3_method_1_code 49 = .ok (.return_, 1) := by decide +kernel
def ct_eX1 : ia_H := hsI ct_hX1 2 (ct_lst 41)
set_option maxHeartbeats 4000000 in
theorem ct_cX1 (l : Launch) (D : va_G) : ct_Met l RX1 prog_3_method_1_code 2 { frames := 1, cells := 3, slots := 202, locals := 12 } D 1 [.null, .null, .null] [] [] ct_shX1 (fun q u => u.1 0 = q ∧ u.2.2 = ct_eX1) := by
  refine ct_of (by decide) cdX1_0 cdX1_1 (List.mem_of_getElem? (i := 157) (by decide +kernel)) (Nat.le_of_ble_eq_true rfl) (Nat.le_of_ble_eq_true rfl) (Nat.le_of_ble_eq_true rfl) ?_
  intro p e s m h0 below meth c ls A hB hl hP hK hD hA
  obtain ⟨hx, hb, hr, hml, hown, hts, hlocks, hin, hEn⟩ := id hB
  have hS : va_S A s.heap s.heap [] := va_S.rf
  refine lv_aload_n hx hb cdX1_4 rfl (lv_at hl 0 rfl) ?_
  refine lv_bipush (v := 120) hx hb cdX1_5 (by decide) ?_
  refine ct_na (atype := .int) (ty := .int) hB rfl (List.mem_of_getElem? (i := 9) (by decide +kernel)) hK hP hD hS hA (N' := 120) (a0 := (120, .inl (fun _ => 0))) (fun cA => rfl) (by decide) (by decide) (Nat.le_of_ble_eq_true rfl) (Nat.le_of_ble_eq_true rfl) (Nat.le_of_ble_eq_true rfl) cdX1_7 (T := TX1) (N := 3) rfl 0 (by decide) (List.mem_of_getElem? (i := 158) (by decide +kernel)) rfl rfl (by decide +kernel) (Nat.le_of_ble_eq_true rfl) cdX1_9 (fun q1 c1 H locs hK hP hD hS => ?_)
  have hK : va_K D ia_cl [(c1, .int)] s := hK
  have hP : va_P D ia_cl ((h0, .inr (1, [.ref q1, .null, .null])) :: [(q1, .inl (c1, 120, .inl (fun _ => 0)))]) H := hP
  have hD : va_D A ((h0, .inr (1, [.ref q1, .null, .null])) :: [(q1, .inl (c1, 120, .inl (fun _ => 0)))]) := hD
  refine W.widen (k := 1) (n := 120) (Nat.le_of_ble_eq_true rfl) (Nat.le_of_ble_eq_true rfl) ?_
  refine lv_aload_n hx hb cdX1_12 rfl (lv_at hl 0 rfl) ?_
  refine lv_bipush (v := 41) hx hb cdX1_13 (by decide) ?_
  refine ct_na (atype := .int) (ty := .int) hB rfl (List.mem_of_getElem? (i := 9) (by decide +kernel)) hK hP hD hS hA (N' := 41) (a0 := (41, .inl (fun _ => 0))) (fun cA => rfl) (by decide) (by decide) (Nat.le_of_ble_eq_true rfl) (Nat.le_of_ble_eq_true rfl) (Nat.le_of_ble_eq_true rfl) cdX1_15 (T := TX1) (N := 3) rfl 1 (by decide) (List.mem_of_getElem? (i := 159) (by decide +kernel)) rfl rfl (by decide +kernel) (Nat.le_of_ble_eq_true rfl) cdX1_17 (fun q2 c2 H locs hK hP hD hS => ?_)
  have hK : va_K D ia_cl [(c1, .int), (c2, .int)] s := hK
  have hP : va_P D ia_cl ((h0, .inr (1, [.ref q1, .ref q2, .null])) :: [(q1, .inl (c1, 120, .inl (fun _ => 0))), (q2, .inl (c2, 41, .inl (fun _ => 0)))]) H := hP
  have hD : va_D A ((h0, .inr (1, [.ref q1, .ref q2, .null])) :: [(q1, .inl (c1, 120, .inl (fun _ => 0))), (q2, .inl (c2, 41, .inl (fun _ => 0)))]) := hD
  refine W.widen (k := 2) (n := 161) (Nat.le_of_ble_eq_true rfl) (Nat.le_of_ble_eq_true rfl) ?_
  refine lv_aload_n hx hb cdX1_20 rfl (lv_at hl 0 rfl) ?_
  refine lv_bipush (v := 41) hx hb cdX1_21 (by decide) ?_
  refine ct_na (atype := .long) (ty := .long) hB rfl (List.mem_of_getElem? (i := 10) (by decide +kernel)) hK hP hD hS hA (N' := 41) (a0 := (41, .inr (.inl (fun _ => 0)))) (fun cA => rfl) (by decide) (by decide) (Nat.le_of_ble_eq_true rfl) (Nat.le_of_ble_eq_true rfl) (Nat.le_of_ble_eq_true rfl) cdX1_23 (T := TX1) (N := 3) rfl 2 (by decide) (List.mem_of_getElem? (i := 160) (by decide +kernel)) rfl rfl (by decide +kernel) (Nat.le_of_ble_eq_true rfl) cdX1_25 (fun q3 c3 H locs hK hP hD hS => ?_)
  have hK : va_K D ia_cl [(c1, .int), (c2, .int), (c3, .long)] s := hK
  have hP : va_P D ia_cl ((h0, .inr (1, [.ref q1, .ref q2, .ref q3])) :: [(q1, .inl (c1, 120, .inl (fun _ => 0))), (q2, .inl (c2, 41, .inl (fun _ => 0))), (q3, .inl (c3, 41, .inr (.inl (fun _ => 0))))]) H := hP
  have hD : va_D A ((h0, .inr (1, [.ref q1, .ref q2, .ref q3])) :: [(q1, .inl (c1, 120, .inl (fun _ => 0))), (q2, .inl (c2, 41, .inl (fun _ => 0))), (q3, .inl (c3, 41, .inr (.inl (fun _ => 0))))]) := hD
  refine W.widen (k := 3) (n := 202) (Nat.le_of_ble_eq_true rfl) (Nat.le_of_ble_eq_true rfl) ?_
  have hK9 : va_K D ia_cl (ct_tys (ct_pk 0 [0, c1, c2, c3]) 0 ct_shX1) s := hK
  have hP9 : va_P D ia_cl (ia_w (ct_pk 0 [h0, q1, q2, q3]) (ct_pk 0 [0, c1, c2, c3]) ct_hX1 0 ct_shX1) H := hP
  have hD9 : va_D A (ia_w (ct_pk 0 [h0, q1, q2, q3]) (ct_pk 0 [0, c1, c2, c3]) ct_hX1 0 ct_shX1) := hD
  refine ct_wX1 (X := ia_X p l e { frames := 1, cells := 3, slots := 202, locals := 12 } s m #[Value.ref h0] below meth c _ 3 202 D ia_cl A s.heap ct_shX1 (ct_pk 0 [h0, q1, q2, q3]) (ct_pk 0 [0, c1, c2, c3]) 2) ?_ ?_ H locs ls hP9 hD9 hS (ct_R hl rfl)
  · exact ct_close (M := ct_mX1) ct_okX1 ct_sokX1 (ct_T _ _) hx hb hml (fun w hw => hts w (List.mem_append_right _ hw)) hown hK9 hEn.1 hA ⟨Nat.le_refl _, Nat.le_refl _⟩ ⟨Nat.le_of_ble_eq_true rfl, Nat.le_of_ble_eq_true rfl⟩
  · intro ls2 H locs lc hP hD hS hR
    exact W.vret hx hb hr (fun t ht hW => ⟨⟨(ct_pk 0 [h0, q1, q2, q3], ct_pk 0 [0, c1, c2, c3], ct_eX1), rfl, ⟨rfl, rfl⟩, by rw [ht]; exact hP, va_K.moved hW.alike hK9, hD⟩, hS.F ht⟩) hS.2.2 cdX1_49 hlocks
theorem cdX2_0 : decode prog_4_method_1_code 0 = .ok (.aload_n 0, 1) := by decide +kernel
theorem cdX2_1 : decode prog_4_method_1_code 1 = .ok (.invokespecial 3, 3) := by decide +kernel
theorem cdX2_4 : decode prog_4_method_1_code 4 = .ok (.aload_n 0, 1) := by decide +kernel
theorem cdX2_5 : decode prog_4_method_1_code 5 = .ok (.bipush 8, 2) := by decide +kernel
theorem cdX2_7 : decode prog_4_method_1_code 7 = .ok (.newarray .int, 2) := by decide +kernel
theorem cdX2_9 : decode prog_4_method_1_code 9 = .ok (.putfield 9, 3) := by decide +kernel
theorem cdX2_12 : decode prog_4_method_1_code 12 = .ok (.aload_n 0, 1) := by decide +kernel
theorem cdX2_13 : decode prog_4_method_1_code 13 = .ok (.iconst 2, 1) := by decide +kernel
theorem cdX2_14 : decode prog_4_method_1_code 14 = .ok (.newarray .int, 2) := by decide +kernel
theorem cdX2_16 : decode prog_4_method_1_code 16 = .ok (.putfield 15, 3) := by decide +kernel
theorem cdX2_19 : decode prog_4_method_1_code 19 = .ok (.aload_n 0, 1) := by decide +kernel
theorem cdX2_20 : decode prog_4_method_1_code 20 = .ok (.getfield 9, 3) := by decide +kernel
theorem cdX2_23 : decode prog_4_method_1_code 23 = .ok (.bipush (-2), 2) := by decide +kernel
theorem cdX2_25 : decode prog_4_method_1_code 25 = .ok (.invokestatic 18, 3) := by decide +kernel
theorem cdX2_28 : decode prog_4_method_1_code 28 = .ok (.aload_n 0, 1) := by decide +kernel
theorem cdX2_29 : decode prog_4_method_1_code 29 = .ok (.getfield 15, 3) := by decide +kernel
theorem cdX2_32 : decode prog_4_method_1_code 32 = .ok (.iconst (-1), 1) := by decide +kernel
theorem cdX2_33 : decode prog_4_method_1_code 33 = .ok (.invokestatic 18, 3) := by decide +kernel
theorem cdX2_36 : decode prog_4_method_1_code 36 = .ok (.return_, 1) := by decide +kernel
def ct_eX2 : ia_H := hsI (hsI ct_hX2 1 (flF (ct_hX2.1 1) 8 (-2))) 2 (flF (ct_hX2.1 2) 2 (-1))
set_option maxHeartbeats 4000000 in
theorem ct_cX2 (l : Launch) (D : va_G) : ct_Met l RX2 prog_4_method_1_code 1 { frames := 1, cells := 2, slots := 10, locals := 23 } D 2 [.null, .null] [] [] ct_shX2 (fun q u => u.1 0 = q ∧ u.2.2 = ct_eX2) := by
  refine ct_of (by decide) cdX2_0 cdX2_1 (List.mem_of_getElem? (i := 215) (by decide +kernel)) (Nat.le_of_ble_eq_true rfl) (Nat.le_of_ble_eq_true rfl) (Nat.le_of_ble_eq_true rfl) ?_
  intro p e s m h0 below meth c ls A hB hl hP hK hD hA
  obtain ⟨hx, hb, hr, hml, hown, hts, hlocks, hin, hEn⟩ := id hB
  have hS : va_S A s.heap s.heap [] := va_S.rf
  refine lv_aload_n hx hb cdX2_4 rfl (lv_at hl 0 rfl) ?_
  refine lv_bipush (v := 8) hx hb cdX2_5 (by decide) ?_
  refine ct_na (atype := .int) (ty := .int) hB rfl (List.mem_of_getElem? (i := 9) (by decide +kernel)) hK hP hD hS hA (N' := 8) (a0 := (8, .inl (fun _ => 0))) (fun cA => rfl) (by decide) (by decide) (Nat.le_of_ble_eq_true rfl) (Nat.le_of_ble_eq_true rfl) (Nat.le_of_ble_eq_true rfl) cdX2_7 (T := TX2) (N := 2) rfl 0 (by decide) (List.mem_of_getElem? (i := 217) (by decide +kernel)) rfl rfl (by decide +kernel) (Nat.le_of_ble_eq_true rfl) cdX2_9 (fun q1 c1 H locs hK hP hD hS => ?_)
  have hK : va_K D ia_cl [(c1, .int)] s := hK
  have hP : va_P D ia_cl ((h0, .inr (2, [.ref q1, .null])) :: [(q1, .inl (c1, 8, .inl (fun _ => 0)))]) H := hP
  have hD : va_D A ((h0, .inr (2, [.ref q1, .null])) :: [(q1, .inl (c1, 8, .inl (fun _ => 0)))]) := hD
  refine W.widen (k := 1) (n := 8) (Nat.le_of_ble_eq_true rfl) (Nat.le_of_ble_eq_true rfl) ?_
  refine lv_aload_n hx hb cdX2_12 rfl (lv_at hl 0 rfl) ?_
  refine lv_iconst (v := 2) hx hb cdX2_13 (by decide) ?_
  refine ct_na (atype := .int) (ty := .int) hB rfl (List.mem_of_getElem? (i := 9) (by decide +kernel)) hK hP hD hS hA (N' := 2) (a0 := (2, .inl (fun _ => 0))) (fun cA => rfl) (by decide) (by decide) (Nat.le_of_ble_eq_true rfl) (Nat.le_of_ble_eq_true rfl) (Nat.le_of_ble_eq_true rfl) cdX2_14 (T := TX2) (N := 2) rfl 1 (by decide) (List.mem_of_getElem? (i := 218) (by decide +kernel)) rfl rfl (by decide +kernel) (Nat.le_of_ble_eq_true rfl) cdX2_16 (fun q2 c2 H locs hK hP hD hS => ?_)
  have hK : va_K D ia_cl [(c1, .int), (c2, .int)] s := hK
  have hP : va_P D ia_cl ((h0, .inr (2, [.ref q1, .ref q2])) :: [(q1, .inl (c1, 8, .inl (fun _ => 0))), (q2, .inl (c2, 2, .inl (fun _ => 0)))]) H := hP
  have hD : va_D A ((h0, .inr (2, [.ref q1, .ref q2])) :: [(q1, .inl (c1, 8, .inl (fun _ => 0))), (q2, .inl (c2, 2, .inl (fun _ => 0)))]) := hD
  refine W.widen (k := 2) (n := 10) (Nat.le_of_ble_eq_true rfl) (Nat.le_of_ble_eq_true rfl) ?_
  have hK9 : va_K D ia_cl (ct_tys (ct_pk 0 [0, c1, c2]) 0 ct_shX2) s := hK
  have hP9 : va_P D ia_cl (ia_w (ct_pk 0 [h0, q1, q2]) (ct_pk 0 [0, c1, c2]) ct_hX2 0 ct_shX2) H := hP
  have hD9 : va_D A (ia_w (ct_pk 0 [h0, q1, q2]) (ct_pk 0 [0, c1, c2]) ct_hX2 0 ct_shX2) := hD
  refine ct_wX2 (X := ia_X p l e { frames := 1, cells := 2, slots := 10, locals := 23 } s m #[Value.ref h0] below meth c _ 2 10 D ia_cl A s.heap ct_shX2 (ct_pk 0 [h0, q1, q2]) (ct_pk 0 [0, c1, c2]) 1) ?_ ?_ H locs ls hP9 hD9 hS (ct_R hl rfl)
  · exact ct_close (M := ct_mX2) ct_okX2 ct_sokX2 (ct_T _ _) hx hb hml (fun w hw => hts w (List.mem_append_right _ hw)) hown hK9 hEn.1 hA ⟨Nat.le_refl _, Nat.le_refl _⟩ ⟨Nat.le_of_ble_eq_true rfl, Nat.le_of_ble_eq_true rfl⟩
  · intro ls2 H locs lc hP hD hS hR
    exact W.vret hx hb hr (fun t ht hW => ⟨⟨(ct_pk 0 [h0, q1, q2], ct_pk 0 [0, c1, c2], ct_eX2), rfl, ⟨rfl, rfl⟩, by rw [ht]; exact hP, va_K.moved hW.alike hK9, hD⟩, hS.F ht⟩) hS.2.2 cdX2_36 hlocks
theorem cdX6_0 : decode prog_8_method_1_code 0 = .ok (.aload_n 0, 1) := by decide +kernel
theorem cdX6_1 : decode prog_8_method_1_code 1 = .ok (.invokespecial 3, 3) := by decide +kernel
theorem cdX6_4 : decode prog_8_method_1_code 4 = .ok (.aload_n 0, 1) := by decide +kernel
theorem cdX6_5 : decode prog_8_method_1_code 5 = .ok (.sipush 240, 3) := by decide +kernel
theorem cdX6_8 : decode prog_8_method_1_code 8 = .ok (.newarray .int, 2) := by decide +kernel
theorem cdX6_10 : decode prog_8_method_1_code 10 = .ok (.putfield 11, 3) := by decide +kernel
theorem cdX6_13 : decode prog_8_method_1_code 13 = .ok (.aload_n 0, 1) := by decide +kernel
theorem cdX6_14 : decode prog_8_method_1_code 14 = .ok (.sipush 240, 3) := by decide +kernel
theorem cdX6_17 : decode prog_8_method_1_code 17 = .ok (.newarray .int, 2) := by decide +kernel
theorem cdX6_19 : decode prog_8_method_1_code 19 = .ok (.putfield 15, 3) := by decide +kernel
theorem cdX6_22 : decode prog_8_method_1_code 22 = .ok (.aload_n 0, 1) := by decide +kernel
theorem cdX6_23 : decode prog_8_method_1_code 23 = .ok (.bipush 42, 2) := by decide +kernel
theorem cdX6_25 : decode prog_8_method_1_code 25 = .ok (.newarray .int, 2) := by decide +kernel
theorem cdX6_27 : decode prog_8_method_1_code 27 = .ok (.putfield 18, 3) := by decide +kernel
theorem cdX6_30 : decode prog_8_method_1_code 30 = .ok (.aload_n 0, 1) := by decide +kernel
theorem cdX6_31 : decode prog_8_method_1_code 31 = .ok (.bipush 41, 2) := by decide +kernel
theorem cdX6_33 : decode prog_8_method_1_code 33 = .ok (.newarray .int, 2) := by decide +kernel
theorem cdX6_35 : decode prog_8_method_1_code 35 = .ok (.putfield 21, 3) := by decide +kernel
theorem cdX6_38 : decode prog_8_method_1_code 38 = .ok (.aload_n 0, 1) := by decide +kernel
theorem cdX6_39 : decode prog_8_method_1_code 39 = .ok (.bipush 120, 2) := by decide +kernel
theorem cdX6_41 : decode prog_8_method_1_code 41 = .ok (.newarray .int, 2) := by decide +kernel
theorem cdX6_43 : decode prog_8_method_1_code 43 = .ok (.putfield 24, 3) := by decide +kernel
theorem cdX6_46 : decode prog_8_method_1_code 46 = .ok (.aload_n 0, 1) := by decide +kernel
theorem cdX6_47 : decode prog_8_method_1_code 47 = .ok (.bipush 120, 2) := by decide +kernel
theorem cdX6_49 : decode prog_8_method_1_code 49 = .ok (.newarray .int, 2) := by decide +kernel
theorem cdX6_51 : decode prog_8_method_1_code 51 = .ok (.putfield 27, 3) := by decide +kernel
theorem cdX6_54 : decode prog_8_method_1_code 54 = .ok (.aload_n 0, 1) := by decide +kernel
theorem cdX6_55 : decode prog_8_method_1_code 55 = .ok (.bipush 41, 2) := by decide +kernel
theorem cdX6_57 : decode prog_8_method_1_code 57 = .ok (.newarray .int, 2) := by decide +kernel
theorem cdX6_59 : decode prog_8_method_1_code 59 = .ok (.putfield 30, 3) := by decide +kernel
theorem cdX6_62 : decode prog_8_method_1_code 62 = .ok (.aload_n 0, 1) := by decide +kernel
theorem cdX6_63 : decode prog_8_method_1_code 63 = .ok (.iconst 0, 1) := by decide +kernel
theorem cdX6_64 : decode prog_8_method_1_code 64 = .ok (.putfield 33, 3) := by decide +kernel
theorem cdX6_67 : decode prog_8_method_1_code 67 = .ok (.aload_n 0, 1) := by decide +kernel
theorem cdX6_68 : decode prog_8_method_1_code 68 = .ok (.bipush 41, 2) := by decide +kernel
theorem cdX6_70 : decode prog_8_method_1_code 70 = .ok (.newarray .int, 2) := by decide +kernel
theorem cdX6_72 : decode prog_8_method_1_code 72 = .ok (.putfield 37, 3) := by decide +kernel
theorem cdX6_75 : decode prog_8_method_1_code 75 = .ok (.aload_n 0, 1) := by decide +kernel
theorem cdX6_76 : decode prog_8_method_1_code 76 = .ok (.bipush 41, 2) := by decide +kernel
theorem cdX6_78 : decode prog_8_method_1_code 78 = .ok (.newarray .int, 2) := by decide +kernel
theorem cdX6_80 : decode prog_8_method_1_code 80 = .ok (.putfield 40, 3) := by decide +kernel
theorem cdX6_83 : decode prog_8_method_1_code 83 = .ok (.aload_n 0, 1) := by decide +kernel
theorem cdX6_84 : decode prog_8_method_1_code 84 = .ok (.bipush 120, 2) := by decide +kernel
theorem cdX6_86 : decode prog_8_method_1_code 86 = .ok (.newarray .int, 2) := by decide +kernel
theorem cdX6_88 : decode prog_8_method_1_code 88 = .ok (.putfield 43, 3) := by decide +kernel
theorem cdX6_91 : decode prog_8_method_1_code 91 = .ok (.aload_n 0, 1) := by decide +kernel
theorem cdX6_92 : decode prog_8_method_1_code 92 = .ok (.bipush 41, 2) := by decide +kernel
theorem cdX6_94 : decode prog_8_method_1_code 94 = .ok (.newarray .boolean, 2) := by decide +kernel
theorem cdX6_96 : decode prog_8_method_1_code 96 = .ok (.putfield 46, 3) := by decide +kernel
theorem cdX6_99 : decode prog_8_method_1_code 99 = .ok (.aload_n 0, 1) := by decide +kernel
theorem cdX6_100 : decode prog_8_method_1_code 100 = .ok (.bipush 41, 2) := by decide +kernel
theorem cdX6_102 : decode prog_8_method_1_code 102 = .ok (.newarray .int, 2) := by decide +kernel
theorem cdX6_104 : decode prog_8_method_1_code 104 = .ok (.putfield 50, 3) := by decide +kernel
theorem cdX6_107 : decode prog_8_method_1_code 107 = .ok (.aload_n 0, 1) := by decide +kernel
theorem cdX6_108 : decode prog_8_method_1_code 108 = .ok (.bipush 120, 2) := by decide +kernel
theorem cdX6_110 : decode prog_8_method_1_code 110 = .ok (.newarray .int, 2) := by decide +kernel
theorem cdX6_112 : decode prog_8_method_1_code 112 = .ok (.putfield 53, 3) := by decide +kernel
theorem cdX6_115 : decode prog_8_method_1_code 115 = .ok (.aload_n 0, 1) := by decide +kernel
theorem cdX6_116 : decode prog_8_method_1_code 116 = .ok (.getfield 11, 3) := by decide +kernel
theorem cdX6_119 : decode prog_8_method_1_code 119 = .ok (.iconst (-1), 1) := by decide +kernel
theorem cdX6_120 : decode prog_8_method_1_code 120 = .ok (.invokestatic 56, 3) := by decide +kernel
theorem cdX6_123 : decode prog_8_method_1_code 123 = .ok (.return_, 1) := by decide +kernel
def ct_eX6 : ia_H := hsI ct_hX6 1 (flF (ct_hX6.1 1) 240 (-1))
set_option maxHeartbeats 4000000 in
theorem ct_cX6 (l : Launch) (D : va_G) : ct_Met l RX6 prog_8_method_1_code 1 { frames := 1, cells := 13, slots := 1248, locals := 23 } D 6 [.null, .null, .null, .null, .null, .null, .null, .int 0, .null, .null, .null, .null, .null, .null] [] [] ct_shX6 (fun q u => u.1 0 = q ∧ u.2.2 = ct_eX6) := by
  refine ct_of (by decide) cdX6_0 cdX6_1 (List.mem_of_getElem? (i := 167) (by decide +kernel)) (Nat.le_of_ble_eq_true rfl) (Nat.le_of_ble_eq_true rfl) (Nat.le_of_ble_eq_true rfl) ?_
  intro p e s m h0 below meth c ls A hB hl hP hK hD hA
  obtain ⟨hx, hb, hr, hml, hown, hts, hlocks, hin, hEn⟩ := id hB
  have hS : va_S A s.heap s.heap [] := va_S.rf
  refine lv_aload_n hx hb cdX6_4 rfl (lv_at hl 0 rfl) ?_
  refine lv_sipush (v := 240) hx hb cdX6_5 (by decide) ?_
  refine ct_na (atype := .int) (ty := .int) hB rfl (List.mem_of_getElem? (i := 9) (by decide +kernel)) hK hP hD hS hA (N' := 240) (a0 := (240, .inl (fun _ => 0))) (fun cA => rfl) (by decide) (by decide) (Nat.le_of_ble_eq_true rfl) (Nat.le_of_ble_eq_true rfl) (Nat.le_of_ble_eq_true rfl) cdX6_8 (T := TX6) (N := 14) rfl 0 (by decide) (List.mem_of_getElem? (i := 171) (by decide +kernel)) rfl rfl (by decide +kernel) (Nat.le_of_ble_eq_true rfl) cdX6_10 (fun q1 c1 H locs hK hP hD hS => ?_)
  have hK : va_K D ia_cl [(c1, .int)] s := hK
  have hP : va_P D ia_cl ((h0, .inr (6, [.ref q1, .null, .null, .null, .null, .null, .null, .int 0, .null, .null, .null, .null, .null, .null])) :: [(q1, .inl (c1, 240, .inl (fun _ => 0)))]) H := hP
  have hD : va_D A ((h0, .inr (6, [.ref q1, .null, .null, .null, .null, .null, .null, .int 0, .null, .null, .null, .null, .null, .null])) :: [(q1, .inl (c1, 240, .inl (fun _ => 0)))]) := hD
  refine W.widen (k := 1) (n := 240) (Nat.le_of_ble_eq_true rfl) (Nat.le_of_ble_eq_true rfl) ?_
  refine lv_aload_n hx hb cdX6_13 rfl (lv_at hl 0 rfl) ?_
  refine lv_sipush (v := 240) hx hb cdX6_14 (by decide) ?_
  refine ct_na (atype := .int) (ty := .int) hB rfl (List.mem_of_getElem? (i := 9) (by decide +kernel)) hK hP hD hS hA (N' := 240) (a0 := (240, .inl (fun _ => 0))) (fun cA => rfl) (by decide) (by decide) (Nat.le_of_ble_eq_true rfl) (Nat.le_of_ble_eq_true rfl) (Nat.le_of_ble_eq_true rfl) cdX6_17 (T := TX6) (N := 14) rfl 1 (by decide) (List.mem_of_getElem? (i := 172) (by decide +kernel)) rfl rfl (by decide +kernel) (Nat.le_of_ble_eq_true rfl) cdX6_19 (fun q2 c2 H locs hK hP hD hS => ?_)
  have hK : va_K D ia_cl [(c1, .int), (c2, .int)] s := hK
  have hP : va_P D ia_cl ((h0, .inr (6, [.ref q1, .ref q2, .null, .null, .null, .null, .null, .int 0, .null, .null, .null, .null, .null, .null])) :: [(q1, .inl (c1, 240, .inl (fun _ => 0))), (q2, .inl (c2, 240, .inl (fun _ => 0)))]) H := hP
  have hD : va_D A ((h0, .inr (6, [.ref q1, .ref q2, .null, .null, .null, .null, .null, .int 0, .null, .null, .null, .null, .null, .null])) :: [(q1, .inl (c1, 240, .inl (fun _ => 0))), (q2, .inl (c2, 240, .inl (fun _ => 0)))]) := hD
  refine W.widen (k := 2) (n := 480) (Nat.le_of_ble_eq_true rfl) (Nat.le_of_ble_eq_true rfl) ?_
  refine lv_aload_n hx hb cdX6_22 rfl (lv_at hl 0 rfl) ?_
  refine lv_bipush (v := 42) hx hb cdX6_23 (by decide) ?_
  refine ct_na (atype := .int) (ty := .int) hB rfl (List.mem_of_getElem? (i := 9) (by decide +kernel)) hK hP hD hS hA (N' := 42) (a0 := (42, .inl (fun _ => 0))) (fun cA => rfl) (by decide) (by decide) (Nat.le_of_ble_eq_true rfl) (Nat.le_of_ble_eq_true rfl) (Nat.le_of_ble_eq_true rfl) cdX6_25 (T := TX6) (N := 14) rfl 2 (by decide) (List.mem_of_getElem? (i := 173) (by decide +kernel)) rfl rfl (by decide +kernel) (Nat.le_of_ble_eq_true rfl) cdX6_27 (fun q3 c3 H locs hK hP hD hS => ?_)
  have hK : va_K D ia_cl [(c1, .int), (c2, .int), (c3, .int)] s := hK
  have hP : va_P D ia_cl ((h0, .inr (6, [.ref q1, .ref q2, .ref q3, .null, .null, .null, .null, .int 0, .null, .null, .null, .null, .null, .null])) :: [(q1, .inl (c1, 240, .inl (fun _ => 0))), (q2, .inl (c2, 240, .inl (fun _ => 0))), (q3, .inl (c3, 42, .inl (fun _ => 0)))]) H := hP
  have hD : va_D A ((h0, .inr (6, [.ref q1, .ref q2, .ref q3, .null, .null, .null, .null, .int 0, .null, .null, .null, .null, .null, .null])) :: [(q1, .inl (c1, 240, .inl (fun _ => 0))), (q2, .inl (c2, 240, .inl (fun _ => 0))), (q3, .inl (c3, 42, .inl (fun _ => 0)))]) := hD
  refine W.widen (k := 3) (n := 522) (Nat.le_of_ble_eq_true rfl) (Nat.le_of_ble_eq_true rfl) ?_
  refine lv_aload_n hx hb cdX6_30 rfl (lv_at hl 0 rfl) ?_
  refine lv_bipush (v := 41) hx hb cdX6_31 (by decide) ?_
  refine ct_na (atype := .int) (ty := .int) hB rfl (List.mem_of_getElem? (i := 9) (by decide +kernel)) hK hP hD hS hA (N' := 41) (a0 := (41, .inl (fun _ => 0))) (fun cA => rfl) (by decide) (by decide) (Nat.le_of_ble_eq_true rfl) (Nat.le_of_ble_eq_true rfl) (Nat.le_of_ble_eq_true rfl) cdX6_33 (T := TX6) (N := 14) rfl 3 (by decide) (List.mem_of_getElem? (i := 174) (by decide +kernel)) rfl rfl (by decide +kernel) (Nat.le_of_ble_eq_true rfl) cdX6_35 (fun q4 c4 H locs hK hP hD hS => ?_)
  have hK : va_K D ia_cl [(c1, .int), (c2, .int), (c3, .int), (c4, .int)] s := hK
  have hP : va_P D ia_cl ((h0, .inr (6, [.ref q1, .ref q2, .ref q3, .ref q4, .null, .null, .null, .int 0, .null, .null, .null, .null, .null, .null])) :: [(q1, .inl (c1, 240, .inl (fun _ => 0))), (q2, .inl (c2, 240, .inl (fun _ => 0))), (q3, .inl (c3, 42, .inl (fun _ => 0))), (q4, .inl (c4, 41, .inl (fun _ => 0)))]) H := hP
  have hD : va_D A ((h0, .inr (6, [.ref q1, .ref q2, .ref q3, .ref q4, .null, .null, .null, .int 0, .null, .null, .null, .null, .null, .null])) :: [(q1, .inl (c1, 240, .inl (fun _ => 0))), (q2, .inl (c2, 240, .inl (fun _ => 0))), (q3, .inl (c3, 42, .inl (fun _ => 0))), (q4, .inl (c4, 41, .inl (fun _ => 0)))]) := hD
  refine W.widen (k := 4) (n := 563) (Nat.le_of_ble_eq_true rfl) (Nat.le_of_ble_eq_true rfl) ?_
  refine lv_aload_n hx hb cdX6_38 rfl (lv_at hl 0 rfl) ?_
  refine lv_bipush (v := 120) hx hb cdX6_39 (by decide) ?_
  refine ct_na (atype := .int) (ty := .int) hB rfl (List.mem_of_getElem? (i := 9) (by decide +kernel)) hK hP hD hS hA (N' := 120) (a0 := (120, .inl (fun _ => 0))) (fun cA => rfl) (by decide) (by decide) (Nat.le_of_ble_eq_true rfl) (Nat.le_of_ble_eq_true rfl) (Nat.le_of_ble_eq_true rfl) cdX6_41 (T := TX6) (N := 14) rfl 4 (by decide) (List.mem_of_getElem? (i := 175) (by decide +kernel)) rfl rfl (by decide +kernel) (Nat.le_of_ble_eq_true rfl) cdX6_43 (fun q5 c5 H locs hK hP hD hS => ?_)
  have hK : va_K D ia_cl [(c1, .int), (c2, .int), (c3, .int), (c4, .int), (c5, .int)] s := hK
  have hP : va_P D ia_cl ((h0, .inr (6, [.ref q1, .ref q2, .ref q3, .ref q4, .ref q5, .null, .null, .int 0, .null, .null, .null, .null, .null, .null])) :: [(q1, .inl (c1, 240, .inl (fun _ => 0))), (q2, .inl (c2, 240, .inl (fun _ => 0))), (q3, .inl (c3, 42, .inl (fun _ => 0))), (q4, .inl (c4, 41, .inl (fun _ => 0))), (q5, .inl (c5, 120, .inl (fun _ => 0)))]) H := hP
  have hD : va_D A ((h0, .inr (6, [.ref q1, .ref q2, .ref q3, .ref q4, .ref q5, .null, .null, .int 0, .null, .null, .null, .null, .null, .null])) :: [(q1, .inl (c1, 240, .inl (fun _ => 0))), (q2, .inl (c2, 240, .inl (fun _ => 0))), (q3, .inl (c3, 42, .inl (fun _ => 0))), (q4, .inl (c4, 41, .inl (fun _ => 0))), (q5, .inl (c5, 120, .inl (fun _ => 0)))]) := hD
  refine W.widen (k := 5) (n := 683) (Nat.le_of_ble_eq_true rfl) (Nat.le_of_ble_eq_true rfl) ?_
  refine lv_aload_n hx hb cdX6_46 rfl (lv_at hl 0 rfl) ?_
  refine lv_bipush (v := 120) hx hb cdX6_47 (by decide) ?_
  refine ct_na (atype := .int) (ty := .int) hB rfl (List.mem_of_getElem? (i := 9) (by decide +kernel)) hK hP hD hS hA (N' := 120) (a0 := (120, .inl (fun _ => 0))) (fun cA => rfl) (by decide) (by decide) (Nat.le_of_ble_eq_true rfl) (Nat.le_of_ble_eq_true rfl) (Nat.le_of_ble_eq_true rfl) cdX6_49 (T := TX6) (N := 14) rfl 5 (by decide) (List.mem_of_getElem? (i := 176) (by decide +kernel)) rfl rfl (by decide +kernel) (Nat.le_of_ble_eq_true rfl) cdX6_51 (fun q6 c6 H locs hK hP hD hS => ?_)
  have hK : va_K D ia_cl [(c1, .int), (c2, .int), (c3, .int), (c4, .int), (c5, .int), (c6, .int)] s := hK
  have hP : va_P D ia_cl ((h0, .inr (6, [.ref q1, .ref q2, .ref q3, .ref q4, .ref q5, .ref q6, .null, .int 0, .null, .null, .null, .null, .null, .null])) :: [(q1, .inl (c1, 240, .inl (fun _ => 0))), (q2, .inl (c2, 240, .inl (fun _ => 0))), (q3, .inl (c3, 42, .inl (fun _ => 0))), (q4, .inl (c4, 41, .inl (fun _ => 0))), (q5, .inl (c5, 120, .inl (fun _ => 0))), (q6, .inl (c6, 120, .inl (fun _ => 0)))]) H := hP
  have hD : va_D A ((h0, .inr (6, [.ref q1, .ref q2, .ref q3, .ref q4, .ref q5, .ref q6, .null, .int 0, .null, .null, .null, .null, .null, .null])) :: [(q1, .inl (c1, 240, .inl (fun _ => 0))), (q2, .inl (c2, 240, .inl (fun _ => 0))), (q3, .inl (c3, 42, .inl (fun _ => 0))), (q4, .inl (c4, 41, .inl (fun _ => 0))), (q5, .inl (c5, 120, .inl (fun _ => 0))), (q6, .inl (c6, 120, .inl (fun _ => 0)))]) := hD
  refine W.widen (k := 6) (n := 803) (Nat.le_of_ble_eq_true rfl) (Nat.le_of_ble_eq_true rfl) ?_
  refine lv_aload_n hx hb cdX6_54 rfl (lv_at hl 0 rfl) ?_
  refine lv_bipush (v := 41) hx hb cdX6_55 (by decide) ?_
  refine ct_na (atype := .int) (ty := .int) hB rfl (List.mem_of_getElem? (i := 9) (by decide +kernel)) hK hP hD hS hA (N' := 41) (a0 := (41, .inl (fun _ => 0))) (fun cA => rfl) (by decide) (by decide) (Nat.le_of_ble_eq_true rfl) (Nat.le_of_ble_eq_true rfl) (Nat.le_of_ble_eq_true rfl) cdX6_57 (T := TX6) (N := 14) rfl 6 (by decide) (List.mem_of_getElem? (i := 177) (by decide +kernel)) rfl rfl (by decide +kernel) (Nat.le_of_ble_eq_true rfl) cdX6_59 (fun q7 c7 H locs hK hP hD hS => ?_)
  have hK : va_K D ia_cl [(c1, .int), (c2, .int), (c3, .int), (c4, .int), (c5, .int), (c6, .int), (c7, .int)] s := hK
  have hP : va_P D ia_cl ((h0, .inr (6, [.ref q1, .ref q2, .ref q3, .ref q4, .ref q5, .ref q6, .ref q7, .int 0, .null, .null, .null, .null, .null, .null])) :: [(q1, .inl (c1, 240, .inl (fun _ => 0))), (q2, .inl (c2, 240, .inl (fun _ => 0))), (q3, .inl (c3, 42, .inl (fun _ => 0))), (q4, .inl (c4, 41, .inl (fun _ => 0))), (q5, .inl (c5, 120, .inl (fun _ => 0))), (q6, .inl (c6, 120, .inl (fun _ => 0))), (q7, .inl (c7, 41, .inl (fun _ => 0)))]) H := hP
  have hD : va_D A ((h0, .inr (6, [.ref q1, .ref q2, .ref q3, .ref q4, .ref q5, .ref q6, .ref q7, .int 0, .null, .null, .null, .null, .null, .null])) :: [(q1, .inl (c1, 240, .inl (fun _ => 0))), (q2, .inl (c2, 240, .inl (fun _ => 0))), (q3, .inl (c3, 42, .inl (fun _ => 0))), (q4, .inl (c4, 41, .inl (fun _ => 0))), (q5, .inl (c5, 120, .inl (fun _ => 0))), (q6, .inl (c6, 120, .inl (fun _ => 0))), (q7, .inl (c7, 41, .inl (fun _ => 0)))]) := hD
  refine W.widen (k := 7) (n := 844) (Nat.le_of_ble_eq_true rfl) (Nat.le_of_ble_eq_true rfl) ?_
  refine lv_aload_n hx hb cdX6_62 rfl (lv_at hl 0 rfl) ?_
  refine lv_iconst (v := 0) hx hb cdX6_63 (by decide) ?_
  refine ct_pi hB hK hP hD hS (T := TX6) (N := 14) rfl 7 (by decide) (List.mem_of_getElem? (i := 178) (by decide +kernel)) rfl (by decide +kernel) (Nat.le_of_ble_eq_true rfl) cdX6_64 (fun H locs hP hD hS => ?_)
  have hP : va_P D ia_cl ((h0, .inr (6, [.ref q1, .ref q2, .ref q3, .ref q4, .ref q5, .ref q6, .ref q7, .int 0, .null, .null, .null, .null, .null, .null])) :: [(q1, .inl (c1, 240, .inl (fun _ => 0))), (q2, .inl (c2, 240, .inl (fun _ => 0))), (q3, .inl (c3, 42, .inl (fun _ => 0))), (q4, .inl (c4, 41, .inl (fun _ => 0))), (q5, .inl (c5, 120, .inl (fun _ => 0))), (q6, .inl (c6, 120, .inl (fun _ => 0))), (q7, .inl (c7, 41, .inl (fun _ => 0)))]) H := hP
  have hD : va_D A ((h0, .inr (6, [.ref q1, .ref q2, .ref q3, .ref q4, .ref q5, .ref q6, .ref q7, .int 0, .null, .null, .null, .null, .null, .null])) :: [(q1, .inl (c1, 240, .inl (fun _ => 0))), (q2, .inl (c2, 240, .inl (fun _ => 0))), (q3, .inl (c3, 42, .inl (fun _ => 0))), (q4, .inl (c4, 41, .inl (fun _ => 0))), (q5, .inl (c5, 120, .inl (fun _ => 0))), (q6, .inl (c6, 120, .inl (fun _ => 0))), (q7, .inl (c7, 41, .inl (fun _ => 0)))]) := hD
  refine lv_aload_n hx hb cdX6_67 rfl (lv_at hl 0 rfl) ?_
  refine lv_bipush (v := 41) hx hb cdX6_68 (by decide) ?_
  refine ct_na (atype := .int) (ty := .int) hB rfl (List.mem_of_getElem? (i := 9) (by decide +kernel)) hK hP hD hS hA (N' := 41) (a0 := (41, .inl (fun _ => 0))) (fun cA => rfl) (by decide) (by decide) (Nat.le_of_ble_eq_true rfl) (Nat.le_of_ble_eq_true rfl) (Nat.le_of_ble_eq_true rfl) cdX6_70 (T := TX6) (N := 14) rfl 8 (by decide) (List.mem_of_getElem? (i := 179) (by decide +kernel)) rfl rfl (by decide +kernel) (Nat.le_of_ble_eq_true rfl) cdX6_72 (fun q8 c8 H locs hK hP hD hS => ?_)
  have hK : va_K D ia_cl [(c1, .int), (c2, .int), (c3, .int), (c4, .int), (c5, .int), (c6, .int), (c7, .int), (c8, .int)] s := hK
  have hP : va_P D ia_cl ((h0, .inr (6, [.ref q1, .ref q2, .ref q3, .ref q4, .ref q5, .ref q6, .ref q7, .int 0, .ref q8, .null, .null, .null, .null, .null])) :: [(q1, .inl (c1, 240, .inl (fun _ => 0))), (q2, .inl (c2, 240, .inl (fun _ => 0))), (q3, .inl (c3, 42, .inl (fun _ => 0))), (q4, .inl (c4, 41, .inl (fun _ => 0))), (q5, .inl (c5, 120, .inl (fun _ => 0))), (q6, .inl (c6, 120, .inl (fun _ => 0))), (q7, .inl (c7, 41, .inl (fun _ => 0))), (q8, .inl (c8, 41, .inl (fun _ => 0)))]) H := hP
  have hD : va_D A ((h0, .inr (6, [.ref q1, .ref q2, .ref q3, .ref q4, .ref q5, .ref q6, .ref q7, .int 0, .ref q8, .null, .null, .null, .null, .null])) :: [(q1, .inl (c1, 240, .inl (fun _ => 0))), (q2, .inl (c2, 240, .inl (fun _ => 0))), (q3, .inl (c3, 42, .inl (fun _ => 0))), (q4, .inl (c4, 41, .inl (fun _ => 0))), (q5, .inl (c5, 120, .inl (fun _ => 0))), (q6, .inl (c6, 120, .inl (fun _ => 0))), (q7, .inl (c7, 41, .inl (fun _ => 0))), (q8, .inl (c8, 41, .inl (fun _ => 0)))]) := hD
  refine W.widen (k := 8) (n := 885) (Nat.le_of_ble_eq_true rfl) (Nat.le_of_ble_eq_true rfl) ?_
  refine lv_aload_n hx hb cdX6_75 rfl (lv_at hl 0 rfl) ?_
  refine lv_bipush (v := 41) hx hb cdX6_76 (by decide) ?_
  refine ct_na (atype := .int) (ty := .int) hB rfl (List.mem_of_getElem? (i := 9) (by decide +kernel)) hK hP hD hS hA (N' := 41) (a0 := (41, .inl (fun _ => 0))) (fun cA => rfl) (by decide) (by decide) (Nat.le_of_ble_eq_true rfl) (Nat.le_of_ble_eq_true rfl) (Nat.le_of_ble_eq_true rfl) cdX6_78 (T := TX6) (N := 14) rfl 9 (by decide) (List.mem_of_getElem? (i := 180) (by decide +kernel)) rfl rfl (by decide +kernel) (Nat.le_of_ble_eq_true rfl) cdX6_80 (fun q9 c9 H locs hK hP hD hS => ?_)
  have hK : va_K D ia_cl [(c1, .int), (c2, .int), (c3, .int), (c4, .int), (c5, .int), (c6, .int), (c7, .int), (c8, .int), (c9, .int)] s := hK
  have hP : va_P D ia_cl ((h0, .inr (6, [.ref q1, .ref q2, .ref q3, .ref q4, .ref q5, .ref q6, .ref q7, .int 0, .ref q8, .ref q9, .null, .null, .null, .null])) :: [(q1, .inl (c1, 240, .inl (fun _ => 0))), (q2, .inl (c2, 240, .inl (fun _ => 0))), (q3, .inl (c3, 42, .inl (fun _ => 0))), (q4, .inl (c4, 41, .inl (fun _ => 0))), (q5, .inl (c5, 120, .inl (fun _ => 0))), (q6, .inl (c6, 120, .inl (fun _ => 0))), (q7, .inl (c7, 41, .inl (fun _ => 0))), (q8, .inl (c8, 41, .inl (fun _ => 0))), (q9, .inl (c9, 41, .inl (fun _ => 0)))]) H := hP
  have hD : va_D A ((h0, .inr (6, [.ref q1, .ref q2, .ref q3, .ref q4, .ref q5, .ref q6, .ref q7, .int 0, .ref q8, .ref q9, .null, .null, .null, .null])) :: [(q1, .inl (c1, 240, .inl (fun _ => 0))), (q2, .inl (c2, 240, .inl (fun _ => 0))), (q3, .inl (c3, 42, .inl (fun _ => 0))), (q4, .inl (c4, 41, .inl (fun _ => 0))), (q5, .inl (c5, 120, .inl (fun _ => 0))), (q6, .inl (c6, 120, .inl (fun _ => 0))), (q7, .inl (c7, 41, .inl (fun _ => 0))), (q8, .inl (c8, 41, .inl (fun _ => 0))), (q9, .inl (c9, 41, .inl (fun _ => 0)))]) := hD
  refine W.widen (k := 9) (n := 926) (Nat.le_of_ble_eq_true rfl) (Nat.le_of_ble_eq_true rfl) ?_
  refine lv_aload_n hx hb cdX6_83 rfl (lv_at hl 0 rfl) ?_
  refine lv_bipush (v := 120) hx hb cdX6_84 (by decide) ?_
  refine ct_na (atype := .int) (ty := .int) hB rfl (List.mem_of_getElem? (i := 9) (by decide +kernel)) hK hP hD hS hA (N' := 120) (a0 := (120, .inl (fun _ => 0))) (fun cA => rfl) (by decide) (by decide) (Nat.le_of_ble_eq_true rfl) (Nat.le_of_ble_eq_true rfl) (Nat.le_of_ble_eq_true rfl) cdX6_86 (T := TX6) (N := 14) rfl 10 (by decide) (List.mem_of_getElem? (i := 181) (by decide +kernel)) rfl rfl (by decide +kernel) (Nat.le_of_ble_eq_true rfl) cdX6_88 (fun q10 c10 H locs hK hP hD hS => ?_)
  have hK : va_K D ia_cl [(c1, .int), (c2, .int), (c3, .int), (c4, .int), (c5, .int), (c6, .int), (c7, .int), (c8, .int), (c9, .int), (c10, .int)] s := hK
  have hP : va_P D ia_cl ((h0, .inr (6, [.ref q1, .ref q2, .ref q3, .ref q4, .ref q5, .ref q6, .ref q7, .int 0, .ref q8, .ref q9, .ref q10, .null, .null, .null])) :: [(q1, .inl (c1, 240, .inl (fun _ => 0))), (q2, .inl (c2, 240, .inl (fun _ => 0))), (q3, .inl (c3, 42, .inl (fun _ => 0))), (q4, .inl (c4, 41, .inl (fun _ => 0))), (q5, .inl (c5, 120, .inl (fun _ => 0))), (q6, .inl (c6, 120, .inl (fun _ => 0))), (q7, .inl (c7, 41, .inl (fun _ => 0))), (q8, .inl (c8, 41, .inl (fun _ => 0))), (q9, .inl (c9, 41, .inl (fun _ => 0))), (q10, .inl (c10, 120, .inl (fun _ => 0)))]) H := hP
  have hD : va_D A ((h0, .inr (6, [.ref q1, .ref q2, .ref q3, .ref q4, .ref q5, .ref q6, .ref q7, .int 0, .ref q8, .ref q9, .ref q10, .null, .null, .null])) :: [(q1, .inl (c1, 240, .inl (fun _ => 0))), (q2, .inl (c2, 240, .inl (fun _ => 0))), (q3, .inl (c3, 42, .inl (fun _ => 0))), (q4, .inl (c4, 41, .inl (fun _ => 0))), (q5, .inl (c5, 120, .inl (fun _ => 0))), (q6, .inl (c6, 120, .inl (fun _ => 0))), (q7, .inl (c7, 41, .inl (fun _ => 0))), (q8, .inl (c8, 41, .inl (fun _ => 0))), (q9, .inl (c9, 41, .inl (fun _ => 0))), (q10, .inl (c10, 120, .inl (fun _ => 0)))]) := hD
  refine W.widen (k := 10) (n := 1046) (Nat.le_of_ble_eq_true rfl) (Nat.le_of_ble_eq_true rfl) ?_
  refine lv_aload_n hx hb cdX6_91 rfl (lv_at hl 0 rfl) ?_
  refine lv_bipush (v := 41) hx hb cdX6_92 (by decide) ?_
  refine ct_na (atype := .boolean) (ty := .boolean) hB rfl (List.mem_of_getElem? (i := 11) (by decide +kernel)) hK hP hD hS hA (N' := 41) (a0 := (41, .inl (fun _ => 0))) (fun cA => rfl) (by decide) (by decide) (Nat.le_of_ble_eq_true rfl) (Nat.le_of_ble_eq_true rfl) (Nat.le_of_ble_eq_true rfl) cdX6_94 (T := TX6) (N := 14) rfl 11 (by decide) (List.mem_of_getElem? (i := 182) (by decide +kernel)) rfl rfl (by decide +kernel) (Nat.le_of_ble_eq_true rfl) cdX6_96 (fun q11 c11 H locs hK hP hD hS => ?_)
  have hK : va_K D ia_cl [(c1, .int), (c2, .int), (c3, .int), (c4, .int), (c5, .int), (c6, .int), (c7, .int), (c8, .int), (c9, .int), (c10, .int), (c11, .boolean)] s := hK
  have hP : va_P D ia_cl ((h0, .inr (6, [.ref q1, .ref q2, .ref q3, .ref q4, .ref q5, .ref q6, .ref q7, .int 0, .ref q8, .ref q9, .ref q10, .ref q11, .null, .null])) :: [(q1, .inl (c1, 240, .inl (fun _ => 0))), (q2, .inl (c2, 240, .inl (fun _ => 0))), (q3, .inl (c3, 42, .inl (fun _ => 0))), (q4, .inl (c4, 41, .inl (fun _ => 0))), (q5, .inl (c5, 120, .inl (fun _ => 0))), (q6, .inl (c6, 120, .inl (fun _ => 0))), (q7, .inl (c7, 41, .inl (fun _ => 0))), (q8, .inl (c8, 41, .inl (fun _ => 0))), (q9, .inl (c9, 41, .inl (fun _ => 0))), (q10, .inl (c10, 120, .inl (fun _ => 0))), (q11, .inl (c11, 41, .inl (fun _ => 0)))]) H := hP
  have hD : va_D A ((h0, .inr (6, [.ref q1, .ref q2, .ref q3, .ref q4, .ref q5, .ref q6, .ref q7, .int 0, .ref q8, .ref q9, .ref q10, .ref q11, .null, .null])) :: [(q1, .inl (c1, 240, .inl (fun _ => 0))), (q2, .inl (c2, 240, .inl (fun _ => 0))), (q3, .inl (c3, 42, .inl (fun _ => 0))), (q4, .inl (c4, 41, .inl (fun _ => 0))), (q5, .inl (c5, 120, .inl (fun _ => 0))), (q6, .inl (c6, 120, .inl (fun _ => 0))), (q7, .inl (c7, 41, .inl (fun _ => 0))), (q8, .inl (c8, 41, .inl (fun _ => 0))), (q9, .inl (c9, 41, .inl (fun _ => 0))), (q10, .inl (c10, 120, .inl (fun _ => 0))), (q11, .inl (c11, 41, .inl (fun _ => 0)))]) := hD
  refine W.widen (k := 11) (n := 1087) (Nat.le_of_ble_eq_true rfl) (Nat.le_of_ble_eq_true rfl) ?_
  refine lv_aload_n hx hb cdX6_99 rfl (lv_at hl 0 rfl) ?_
  refine lv_bipush (v := 41) hx hb cdX6_100 (by decide) ?_
  refine ct_na (atype := .int) (ty := .int) hB rfl (List.mem_of_getElem? (i := 9) (by decide +kernel)) hK hP hD hS hA (N' := 41) (a0 := (41, .inl (fun _ => 0))) (fun cA => rfl) (by decide) (by decide) (Nat.le_of_ble_eq_true rfl) (Nat.le_of_ble_eq_true rfl) (Nat.le_of_ble_eq_true rfl) cdX6_102 (T := TX6) (N := 14) rfl 12 (by decide) (List.mem_of_getElem? (i := 183) (by decide +kernel)) rfl rfl (by decide +kernel) (Nat.le_of_ble_eq_true rfl) cdX6_104 (fun q12 c12 H locs hK hP hD hS => ?_)
  have hK : va_K D ia_cl [(c1, .int), (c2, .int), (c3, .int), (c4, .int), (c5, .int), (c6, .int), (c7, .int), (c8, .int), (c9, .int), (c10, .int), (c11, .boolean), (c12, .int)] s := hK
  have hP : va_P D ia_cl ((h0, .inr (6, [.ref q1, .ref q2, .ref q3, .ref q4, .ref q5, .ref q6, .ref q7, .int 0, .ref q8, .ref q9, .ref q10, .ref q11, .ref q12, .null])) :: [(q1, .inl (c1, 240, .inl (fun _ => 0))), (q2, .inl (c2, 240, .inl (fun _ => 0))), (q3, .inl (c3, 42, .inl (fun _ => 0))), (q4, .inl (c4, 41, .inl (fun _ => 0))), (q5, .inl (c5, 120, .inl (fun _ => 0))), (q6, .inl (c6, 120, .inl (fun _ => 0))), (q7, .inl (c7, 41, .inl (fun _ => 0))), (q8, .inl (c8, 41, .inl (fun _ => 0))), (q9, .inl (c9, 41, .inl (fun _ => 0))), (q10, .inl (c10, 120, .inl (fun _ => 0))), (q11, .inl (c11, 41, .inl (fun _ => 0))), (q12, .inl (c12, 41, .inl (fun _ => 0)))]) H := hP
  have hD : va_D A ((h0, .inr (6, [.ref q1, .ref q2, .ref q3, .ref q4, .ref q5, .ref q6, .ref q7, .int 0, .ref q8, .ref q9, .ref q10, .ref q11, .ref q12, .null])) :: [(q1, .inl (c1, 240, .inl (fun _ => 0))), (q2, .inl (c2, 240, .inl (fun _ => 0))), (q3, .inl (c3, 42, .inl (fun _ => 0))), (q4, .inl (c4, 41, .inl (fun _ => 0))), (q5, .inl (c5, 120, .inl (fun _ => 0))), (q6, .inl (c6, 120, .inl (fun _ => 0))), (q7, .inl (c7, 41, .inl (fun _ => 0))), (q8, .inl (c8, 41, .inl (fun _ => 0))), (q9, .inl (c9, 41, .inl (fun _ => 0))), (q10, .inl (c10, 120, .inl (fun _ => 0))), (q11, .inl (c11, 41, .inl (fun _ => 0))), (q12, .inl (c12, 41, .inl (fun _ => 0)))]) := hD
  refine W.widen (k := 12) (n := 1128) (Nat.le_of_ble_eq_true rfl) (Nat.le_of_ble_eq_true rfl) ?_
  refine lv_aload_n hx hb cdX6_107 rfl (lv_at hl 0 rfl) ?_
  refine lv_bipush (v := 120) hx hb cdX6_108 (by decide) ?_
  refine ct_na (atype := .int) (ty := .int) hB rfl (List.mem_of_getElem? (i := 9) (by decide +kernel)) hK hP hD hS hA (N' := 120) (a0 := (120, .inl (fun _ => 0))) (fun cA => rfl) (by decide) (by decide) (Nat.le_of_ble_eq_true rfl) (Nat.le_of_ble_eq_true rfl) (Nat.le_of_ble_eq_true rfl) cdX6_110 (T := TX6) (N := 14) rfl 13 (by decide) (List.mem_of_getElem? (i := 184) (by decide +kernel)) rfl rfl (by decide +kernel) (Nat.le_of_ble_eq_true rfl) cdX6_112 (fun q13 c13 H locs hK hP hD hS => ?_)
  have hK : va_K D ia_cl [(c1, .int), (c2, .int), (c3, .int), (c4, .int), (c5, .int), (c6, .int), (c7, .int), (c8, .int), (c9, .int), (c10, .int), (c11, .boolean), (c12, .int), (c13, .int)] s := hK
  have hP : va_P D ia_cl ((h0, .inr (6, [.ref q1, .ref q2, .ref q3, .ref q4, .ref q5, .ref q6, .ref q7, .int 0, .ref q8, .ref q9, .ref q10, .ref q11, .ref q12, .ref q13])) :: [(q1, .inl (c1, 240, .inl (fun _ => 0))), (q2, .inl (c2, 240, .inl (fun _ => 0))), (q3, .inl (c3, 42, .inl (fun _ => 0))), (q4, .inl (c4, 41, .inl (fun _ => 0))), (q5, .inl (c5, 120, .inl (fun _ => 0))), (q6, .inl (c6, 120, .inl (fun _ => 0))), (q7, .inl (c7, 41, .inl (fun _ => 0))), (q8, .inl (c8, 41, .inl (fun _ => 0))), (q9, .inl (c9, 41, .inl (fun _ => 0))), (q10, .inl (c10, 120, .inl (fun _ => 0))), (q11, .inl (c11, 41, .inl (fun _ => 0))), (q12, .inl (c12, 41, .inl (fun _ => 0))), (q13, .inl (c13, 120, .inl (fun _ => 0)))]) H := hP
  have hD : va_D A ((h0, .inr (6, [.ref q1, .ref q2, .ref q3, .ref q4, .ref q5, .ref q6, .ref q7, .int 0, .ref q8, .ref q9, .ref q10, .ref q11, .ref q12, .ref q13])) :: [(q1, .inl (c1, 240, .inl (fun _ => 0))), (q2, .inl (c2, 240, .inl (fun _ => 0))), (q3, .inl (c3, 42, .inl (fun _ => 0))), (q4, .inl (c4, 41, .inl (fun _ => 0))), (q5, .inl (c5, 120, .inl (fun _ => 0))), (q6, .inl (c6, 120, .inl (fun _ => 0))), (q7, .inl (c7, 41, .inl (fun _ => 0))), (q8, .inl (c8, 41, .inl (fun _ => 0))), (q9, .inl (c9, 41, .inl (fun _ => 0))), (q10, .inl (c10, 120, .inl (fun _ => 0))), (q11, .inl (c11, 41, .inl (fun _ => 0))), (q12, .inl (c12, 41, .inl (fun _ => 0))), (q13, .inl (c13, 120, .inl (fun _ => 0)))]) := hD
  refine W.widen (k := 13) (n := 1248) (Nat.le_of_ble_eq_true rfl) (Nat.le_of_ble_eq_true rfl) ?_
  have hK9 : va_K D ia_cl (ct_tys (ct_pk 0 [0, c1, c2, c3, c4, c5, c6, c7, c8, c9, c10, c11, c12, c13]) 0 ct_shX6) s := hK
  have hP9 : va_P D ia_cl (ia_w (ct_pk 0 [h0, q1, q2, q3, q4, q5, q6, q7, q8, q9, q10, q11, q12, q13]) (ct_pk 0 [0, c1, c2, c3, c4, c5, c6, c7, c8, c9, c10, c11, c12, c13]) ct_hX6 0 ct_shX6) H := hP
  have hD9 : va_D A (ia_w (ct_pk 0 [h0, q1, q2, q3, q4, q5, q6, q7, q8, q9, q10, q11, q12, q13]) (ct_pk 0 [0, c1, c2, c3, c4, c5, c6, c7, c8, c9, c10, c11, c12, c13]) ct_hX6 0 ct_shX6) := hD
  refine ct_wX6 (X := ia_X p l e { frames := 1, cells := 13, slots := 1248, locals := 23 } s m #[Value.ref h0] below meth c _ 13 1248 D ia_cl A s.heap ct_shX6 (ct_pk 0 [h0, q1, q2, q3, q4, q5, q6, q7, q8, q9, q10, q11, q12, q13]) (ct_pk 0 [0, c1, c2, c3, c4, c5, c6, c7, c8, c9, c10, c11, c12, c13]) 1) ?_ ?_ H locs ls hP9 hD9 hS (ct_R hl rfl)
  · exact ct_close (M := ct_mX6) ct_okX6 ct_sokX6 (ct_T _ _) hx hb hml (fun w hw => hts w (List.mem_append_right _ hw)) hown hK9 hEn.1 hA ⟨Nat.le_refl _, Nat.le_refl _⟩ ⟨Nat.le_of_ble_eq_true rfl, Nat.le_of_ble_eq_true rfl⟩
  · intro ls2 H locs lc hP hD hS hR
    exact W.vret hx hb hr (fun t ht hW => ⟨⟨(ct_pk 0 [h0, q1, q2, q3, q4, q5, q6, q7, q8, q9, q10, q11, q12, q13], ct_pk 0 [0, c1, c2, c3, c4, c5, c6, c7, c8, c9, c10, c11, c12, c13], ct_eX6), rfl, ⟨rfl, rfl⟩, by rw [ht]; exact hP, va_K.moved hW.alike hK9, hD⟩, hS.F ht⟩) hS.2.2 cdX6_123 hlocks
