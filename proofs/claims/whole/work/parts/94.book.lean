theorem ct_upd0 (i : Nat) : upd (fun _ => (0 : Int32)) i (vp_nar .boolean 0) = fun _ => 0 := by
  funext j
  simp only [upd]
  split
  · decide
  · rfl
theorem ct_prm {α : Type} (R T G W A P I E F M : List α) : (([] ++ R ++ T ++ G ++ W ++ A ++ P) ++ I ++ E ++ F ++ M).Perm (R ++ (T ++ (E ++ (F ++ (G ++ (W ++ (A ++ (P ++ (I ++ M))))))))) := by
  simp only [List.nil_append, List.append_assoc]
  refine List.Perm.append_left R (List.Perm.append_left T ?_)
  have h := List.perm_append_comm_assoc (G ++ (W ++ (A ++ (P ++ I)))) (E ++ F) M
  simp only [List.append_assoc] at h
  exact h
theorem ct_prmK {α : Type} (R T G W A P I E F M : List α) : (([] ++ R ++ T ++ G ++ W ++ A ++ P) ++ I ++ E ++ F ++ M).Perm (R ++ (T ++ (E ++ (F ++ (G ++ (W ++ (A ++ (P ++ (I ++ M))))))))) := ct_prm R T G W A P I E F M
theorem cdX7_0 : decode prog_1_method_1_code 0 = .ok (.aload_n 0, 1) := by decide +kernel
theorem cdX7_1 : decode prog_1_method_1_code 1 = .ok (.invokespecial 3, 3) := by decide +kernel
theorem cdX7_4 : decode prog_1_method_1_code 4 = .ok (.aload_n 0, 1) := by decide +kernel
theorem cdX7_5 : decode prog_1_method_1_code 5 = .ok (.new 9, 3) := by decide +kernel
theorem cdX7_8 : decode prog_1_method_1_code 8 = .ok (.dup, 1) := by decide +kernel
theorem cdX7_9 : decode prog_1_method_1_code 9 = .ok (.invokespecial 11, 3) := by decide +kernel
theorem cdX7_12 : decode prog_1_method_1_code 12 = .ok (.putfield 12, 3) := by decide +kernel
theorem cdX7_15 : decode prog_1_method_1_code 15 = .ok (.aload_n 0, 1) := by decide +kernel
theorem cdX7_16 : decode prog_1_method_1_code 16 = .ok (.new 18, 3) := by decide +kernel
theorem cdX7_19 : decode prog_1_method_1_code 19 = .ok (.dup, 1) := by decide +kernel
theorem cdX7_20 : decode prog_1_method_1_code 20 = .ok (.invokespecial 20, 3) := by decide +kernel
theorem cdX7_23 : decode prog_1_method_1_code 23 = .ok (.putfield 21, 3) := by decide +kernel
theorem cdX7_26 : decode prog_1_method_1_code 26 = .ok (.aload_n 0, 1) := by decide +kernel
theorem cdX7_27 : decode prog_1_method_1_code 27 = .ok (.new 25, 3) := by decide +kernel
theorem cdX7_30 : decode prog_1_method_1_code 30 = .ok (.dup, 1) := by decide +kernel
theorem cdX7_31 : decode prog_1_method_1_code 31 = .ok (.invokespecial 27, 3) := by decide +kernel
theorem cdX7_34 : decode prog_1_method_1_code 34 = .ok (.putfield 28, 3) := by decide +kernel
theorem cdX7_37 : decode prog_1_method_1_code 37 = .ok (.aload_n 0, 1) := by decide +kernel
theorem cdX7_38 : decode prog_1_method_1_code 38 = .ok (.new 32, 3) := by decide +kernel
theorem cdX7_41 : decode prog_1_method_1_code 41 = .ok (.dup, 1) := by decide +kernel
theorem cdX7_42 : decode prog_1_method_1_code 42 = .ok (.invokespecial 34, 3) := by decide +kernel
theorem cdX7_45 : decode prog_1_method_1_code 45 = .ok (.putfield 35, 3) := by decide +kernel
theorem cdX7_48 : decode prog_1_method_1_code 48 = .ok (.aload_n 0, 1) := by decide +kernel
theorem cdX7_49 : decode prog_1_method_1_code 49 = .ok (.new 39, 3) := by decide +kernel
theorem cdX7_52 : decode prog_1_method_1_code 52 = .ok (.dup, 1) := by decide +kernel
theorem cdX7_53 : decode prog_1_method_1_code 53 = .ok (.invokespecial 41, 3) := by decide +kernel
theorem cdX7_56 : decode prog_1_method_1_code 56 = .ok (.putfield 42, 3) := by decide +kernel
theorem cdX7_59 : decode prog_1_method_1_code 59 = .ok (.aload_n 0, 1) := by decide +kernel
theorem cdX7_60 : decode prog_1_method_1_code 60 = .ok (.new 46, 3) := by decide +kernel
theorem cdX7_63 : decode prog_1_method_1_code 63 = .ok (.dup, 1) := by decide +kernel
theorem cdX7_64 : decode prog_1_method_1_code 64 = .ok (.invokespecial 48, 3) := by decide +kernel
theorem cdX7_67 : decode prog_1_method_1_code 67 = .ok (.putfield 49, 3) := by decide +kernel
theorem cdX7_70 : decode prog_1_method_1_code 70 = .ok (.aload_n 0, 1) := by decide +kernel
theorem cdX7_71 : decode prog_1_method_1_code 71 = .ok (.iconst 2, 1) := by decide +kernel
theorem cdX7_72 : decode prog_1_method_1_code 72 = .ok (.anewarray 18, 3) := by decide +kernel
theorem cdX7_75 : decode prog_1_method_1_code 75 = .ok (.dup, 1) := by decide +kernel
theorem cdX7_76 : decode prog_1_method_1_code 76 = .ok (.iconst 0, 1) := by decide +kernel
theorem cdX7_77 : decode prog_1_method_1_code 77 = .ok (.new 18, 3) := by decide +kernel
theorem cdX7_80 : decode prog_1_method_1_code 80 = .ok (.dup, 1) := by decide +kernel
theorem cdX7_81 : decode prog_1_method_1_code 81 = .ok (.invokespecial 20, 3) := by decide +kernel
theorem cdX7_84 : decode prog_1_method_1_code 84 = .ok (.aastore, 1) := by decide +kernel
theorem cdX7_85 : decode prog_1_method_1_code 85 = .ok (.dup, 1) := by decide +kernel
theorem cdX7_86 : decode prog_1_method_1_code 86 = .ok (.iconst 1, 1) := by decide +kernel
theorem cdX7_87 : decode prog_1_method_1_code 87 = .ok (.new 18, 3) := by decide +kernel
theorem cdX7_90 : decode prog_1_method_1_code 90 = .ok (.dup, 1) := by decide +kernel
theorem cdX7_91 : decode prog_1_method_1_code 91 = .ok (.invokespecial 20, 3) := by decide +kernel
theorem cdX7_94 : decode prog_1_method_1_code 94 = .ok (.aastore, 1) := by decide +kernel
theorem cdX7_95 : decode prog_1_method_1_code 95 = .ok (.putfield 53, 3) := by decide +kernel
theorem cdX7_98 : decode prog_1_method_1_code 98 = .ok (.aload_n 0, 1) := by decide +kernel
theorem cdX7_99 : decode prog_1_method_1_code 99 = .ok (.iconst 2, 1) := by decide +kernel
theorem cdX7_100 : decode prog_1_method_1_code 100 = .ok (.newarray .boolean, 2) := by decide +kernel
theorem cdX7_102 : decode prog_1_method_1_code 102 = .ok (.dup, 1) := by decide +kernel
theorem cdX7_103 : decode prog_1_method_1_code 103 = .ok (.iconst 0, 1) := by decide +kernel
theorem cdX7_104 : decode prog_1_method_1_code 104 = .ok (.iconst 0, 1) := by decide +kernel
theorem cdX7_105 : decode prog_1_method_1_code 105 = .ok (.bastore, 1) := by decide +kernel
theorem cdX7_106 : decode prog_1_method_1_code 106 = .ok (.dup, 1) := by decide +kernel
theorem cdX7_107 : decode prog_1_method_1_code 107 = .ok (.iconst 1, 1) := by decide +kernel
theorem cdX7_108 : decode prog_1_method_1_code 108 = .ok (.iconst 0, 1) := by decide +kernel
theorem cdX7_109 : decode prog_1_method_1_code 109 = .ok (.bastore, 1) := by decide +kernel
theorem cdX7_110 : decode prog_1_method_1_code 110 = .ok (.putfield 57, 3) := by decide +kernel
theorem cdX7_113 : decode prog_1_method_1_code 113 = .ok (.return_, 1) := by decide +kernel
def ct_shX7 : List ia_C := [.inr (.inl (7, [.inl 1, .inl 4, .inl 25, .inl 29, .inl 43, .inl 47, .inl 50, .inl 51])), .inr (.inl (3, [.inl 2, .inr false, .inr false, .inr false])), .inr (.inl (4, [.inl 3, .inr false, .inr false])), .inl (.byte, 300), .inr (.inl (5, [.inl 5, .inl 6, .inl 7, .inl 8, .inl 9, .inl 10, .inr false, .inr false])), .inl (.byte, 246), .inl (.int, 41), .inl (.int, 120), .inl (.int, 120), .inl (.long, 120), .inl (.boolean, 120), .inr (.inl (5, [.inl 12, .inl 13, .inl 14, .inl 15, .inl 16, .inl 17, .inr false, .inr false])), .inl (.byte, 246), .inl (.int, 41), .inl (.int, 120), .inl (.int, 120), .inl (.long, 120), .inl (.boolean, 120), .inr (.inl (5, [.inl 19, .inl 20, .inl 21, .inl 22, .inl 23, .inl 24, .inr false, .inr false])), .inl (.byte, 246), .inl (.int, 41), .inl (.int, 120), .inl (.int, 120), .inl (.long, 120), .inl (.boolean, 120), .inr (.inl (1, [.inl 26, .inl 27, .inl 28])), .inl (.int, 120), .inl (.int, 41), .inl (.long, 41), .inr (.inl (6, [.inl 30, .inl 31, .inl 32, .inl 33, .inl 34, .inl 35, .inl 36, .inr false, .inl 37, .inl 38, .inl 39, .inl 40, .inl 41, .inl 42])), .inl (.int, 240), .inl (.int, 240), .inl (.int, 42), .inl (.int, 41), .inl (.int, 120), .inl (.int, 120), .inl (.int, 41), .inl (.int, 41), .inl (.int, 41), .inl (.int, 120), .inl (.boolean, 41), .inl (.int, 41), .inl (.int, 120), .inr (.inl (0, [.inl 44, .inl 45, .inl 46, .inr false, .inr false])), .inl (.int, 20), .inl (.int, 20), .inl (.int, 20), .inr (.inl (2, [.inl 48, .inl 49])), .inl (.int, 8), .inl (.int, 2), .inr (.inr ("OffsetBook$Told", [11, 18])), .inl (.boolean, 2)]
def ct_eX7 : ia_H := ((ct_cut 1 (fun _ _ => 0) (ct_cut 3 ct_eX3.1 (ct_cut 7 ct_eX5.1 (ct_cut 7 ct_eX5.1 (ct_cut 7 ct_eX5.1 (ct_cut 4 ct_eX1.1 (ct_cut 14 ct_eX6.1 (ct_cut 4 ct_eX0.1 (ct_cut 3 ct_eX2.1 (ct_cut 1 (fun _ _ => 0) (fun _ _ => 0))))))))))), (ct_cut 1 (fun _ _ => 0) (ct_cut 3 ct_eX3.2 (ct_cut 7 ct_eX5.2 (ct_cut 7 ct_eX5.2 (ct_cut 7 ct_eX5.2 (ct_cut 4 ct_eX1.2 (ct_cut 14 ct_eX6.2 (ct_cut 4 ct_eX0.2 (ct_cut 3 ct_eX2.2 (ct_cut 1 (fun _ _ => 0) (fun _ _ => 0))))))))))))
set_option maxHeartbeats 16000000 in
set_option maxRecDepth 20000 in
theorem ct_cX7 (l : Launch) (D : va_G) : ct_Met l RX7 prog_1_method_1_code 1 { frames := 3, cells := 51, slots := 4180, locals := 52 } D 7 [.null, .null, .null, .null, .null, .null, .null, .null] [] [] ct_shX7 (fun q u => u.1 0 = q ∧ u.2.2 = ct_eX7) := by
  refine ct_of (by decide) cdX7_0 cdX7_1 (List.mem_of_getElem? (i := 112) (by decide +kernel)) (Nat.le_of_ble_eq_true rfl) (Nat.le_of_ble_eq_true rfl) (Nat.le_of_ble_eq_true rfl) ?_
  intro p e s m h0 below meth c ls A hB hl hP hK hD hA
  obtain ⟨hx, hb, hr, hml, hown, hts, hlocks, hin, hEn⟩ := id hB
  have hS : va_S A s.heap s.heap [] := va_S.rf
  refine lv_aload_n hx hb cdX7_4 rfl (lv_at hl 0 rfl) ?_
  refine ct_make hB hK hP hD hS hA (ct_cX3 l D) (T := TX3) (N := 4) rfl (fun j hj => by rcases (show j = 0 ∨ j = 1 ∨ j = 2 ∨ j = 3 by omega) with rfl | rfl | rfl | rfl <;> rfl) (List.mem_of_getElem? (i := 2) (by decide +kernel)) (List.mem_of_getElem? (i := 3) (by decide +kernel)) (List.mem_of_getElem? (i := 96) (by decide +kernel)) (List.mem_of_getElem? (i := 116) (by decide +kernel)) (List.mem_of_getElem? (i := 115) (by decide +kernel)) (Or.inr hEn.2.1) ⟨by decide, by decide⟩ ⟨Nat.le_of_ble_eq_true rfl, Nat.le_of_ble_eq_true rfl⟩ (Nat.le_of_ble_eq_true rfl) (Nat.le_of_ble_eq_true rfl) hl.1 (Nat.le_of_ble_eq_true rfl) cdX7_5 cdX7_8 cdX7_9 (fun q1 u1 H locs hu1 hK hP hD hS => ?_)
  obtain ⟨a1, k1, g1⟩ := u1
  obtain ⟨ea, eg⟩ := hu1
  have ea : a1 0 = q1 := ea
  have eg : g1 = ct_eX3 := eg
  subst ea; subst eg
  have hP : va_P D ia_cl ((h0, .inr (7, [.null, .null, .null, .null, .null, .null, .null, .null])) :: (([] : va_W) ++ ia_w a1 k1 ct_eX3 0 ct_shX3)) H := hP
  have hD : va_D A ((h0, .inr (7, [.null, .null, .null, .null, .null, .null, .null, .null])) :: (([] : va_W) ++ ia_w a1 k1 ct_eX3 0 ct_shX3)) := hD
  refine W.widen (k := 3) (n := 307) (Nat.le_of_ble_eq_true rfl) (Nat.le_of_ble_eq_true rfl) ?_
  refine ct_pf hB hK hP hD hS (T := TX7) (N := 8) rfl 0 (by decide) (List.mem_of_getElem? (i := 221) (by decide +kernel)) rfl rfl (ty := .object "OffsetBook$Reader") (by decide +kernel) rfl rfl (Nat.le_of_ble_eq_true rfl) cdX7_12 (fun H locs hP hD hS => ?_)
  have hP : va_P D ia_cl ((h0, .inr (7, [.ref (a1 0), .null, .null, .null, .null, .null, .null, .null])) :: (([] : va_W) ++ ia_w a1 k1 ct_eX3 0 ct_shX3)) H := hP
  have hD : va_D A ((h0, .inr (7, [.ref (a1 0), .null, .null, .null, .null, .null, .null, .null])) :: (([] : va_W) ++ ia_w a1 k1 ct_eX3 0 ct_shX3)) := hD
  refine lv_aload_n hx hb cdX7_15 rfl (lv_at hl 0 rfl) ?_
  refine ct_make hB hK hP hD hS hA (ct_cX5 l D) (T := TX5) (N := 8) rfl (fun j hj => by rcases (show j = 0 ∨ j = 1 ∨ j = 2 ∨ j = 3 ∨ j = 4 ∨ j = 5 ∨ j = 6 ∨ j = 7 by omega) with rfl | rfl | rfl | rfl | rfl | rfl | rfl | rfl <;> rfl) (List.mem_of_getElem? (i := 7) (by decide +kernel)) (List.mem_of_getElem? (i := 8) (by decide +kernel)) (List.mem_of_getElem? (i := 98) (by decide +kernel)) (List.mem_of_getElem? (i := 136) (by decide +kernel)) (List.mem_of_getElem? (i := 135) (by decide +kernel)) (Or.inr hEn.2.2.2.1) ⟨by decide, by decide⟩ ⟨Nat.le_of_ble_eq_true rfl, Nat.le_of_ble_eq_true rfl⟩ (Nat.le_of_ble_eq_true rfl) (Nat.le_of_ble_eq_true rfl) hl.1 (Nat.le_of_ble_eq_true rfl) cdX7_16 cdX7_19 cdX7_20 (fun q2 u2 H locs hu2 hK hP hD hS => ?_)
  obtain ⟨a2, k2, g2⟩ := u2
  obtain ⟨ea, eg⟩ := hu2
  have ea : a2 0 = q2 := ea
  have eg : g2 = ct_eX5 := eg
  subst ea; subst eg
  have hP : va_P D ia_cl ((h0, .inr (7, [.ref (a1 0), .null, .null, .null, .null, .null, .null, .null])) :: ((([] : va_W) ++ ia_w a1 k1 ct_eX3 0 ct_shX3) ++ ia_w a2 k2 ct_eX5 0 ct_shX5)) H := hP
  have hD : va_D A ((h0, .inr (7, [.ref (a1 0), .null, .null, .null, .null, .null, .null, .null])) :: ((([] : va_W) ++ ia_w a1 k1 ct_eX3 0 ct_shX3) ++ ia_w a2 k2 ct_eX5 0 ct_shX5)) := hD
  refine W.widen (k := 10) (n := 1082) (Nat.le_of_ble_eq_true rfl) (Nat.le_of_ble_eq_true rfl) ?_
  refine ct_pf hB hK hP hD hS (T := TX7) (N := 8) rfl 1 (by decide) (List.mem_of_getElem? (i := 222) (by decide +kernel)) rfl rfl (ty := .object "OffsetBook$Told") (by decide +kernel) rfl rfl (Nat.le_of_ble_eq_true rfl) cdX7_23 (fun H locs hP hD hS => ?_)
  have hP : va_P D ia_cl ((h0, .inr (7, [.ref (a1 0), .ref (a2 0), .null, .null, .null, .null, .null, .null])) :: ((([] : va_W) ++ ia_w a1 k1 ct_eX3 0 ct_shX3) ++ ia_w a2 k2 ct_eX5 0 ct_shX5)) H := hP
  have hD : va_D A ((h0, .inr (7, [.ref (a1 0), .ref (a2 0), .null, .null, .null, .null, .null, .null])) :: ((([] : va_W) ++ ia_w a1 k1 ct_eX3 0 ct_shX3) ++ ia_w a2 k2 ct_eX5 0 ct_shX5)) := hD
  refine lv_aload_n hx hb cdX7_26 rfl (lv_at hl 0 rfl) ?_
  refine ct_make hB hK hP hD hS hA (ct_cX1 l D) (T := TX1) (N := 3) rfl (fun j hj => by rcases (show j = 0 ∨ j = 1 ∨ j = 2 by omega) with rfl | rfl | rfl <;> rfl) (List.mem_of_getElem? (i := 12) (by decide +kernel)) (List.mem_of_getElem? (i := 13) (by decide +kernel)) (List.mem_of_getElem? (i := 99) (by decide +kernel)) (List.mem_of_getElem? (i := 156) (by decide +kernel)) (List.mem_of_getElem? (i := 155) (by decide +kernel)) (Or.inl (List.mem_of_getElem? (i := 154) (by decide +kernel))) ⟨by decide, by decide⟩ ⟨Nat.le_of_ble_eq_true rfl, Nat.le_of_ble_eq_true rfl⟩ (Nat.le_of_ble_eq_true rfl) (Nat.le_of_ble_eq_true rfl) hl.1 (Nat.le_of_ble_eq_true rfl) cdX7_27 cdX7_30 cdX7_31 (fun q3 u3 H locs hu3 hK hP hD hS => ?_)
  obtain ⟨a3, k3, g3⟩ := u3
  obtain ⟨ea, eg⟩ := hu3
  have ea : a3 0 = q3 := ea
  have eg : g3 = ct_eX1 := eg
  subst ea; subst eg
  have hP : va_P D ia_cl ((h0, .inr (7, [.ref (a1 0), .ref (a2 0), .null, .null, .null, .null, .null, .null])) :: (((([] : va_W) ++ ia_w a1 k1 ct_eX3 0 ct_shX3) ++ ia_w a2 k2 ct_eX5 0 ct_shX5) ++ ia_w a3 k3 ct_eX1 0 ct_shX1)) H := hP
  have hD : va_D A ((h0, .inr (7, [.ref (a1 0), .ref (a2 0), .null, .null, .null, .null, .null, .null])) :: (((([] : va_W) ++ ia_w a1 k1 ct_eX3 0 ct_shX3) ++ ia_w a2 k2 ct_eX5 0 ct_shX5) ++ ia_w a3 k3 ct_eX1 0 ct_shX1)) := hD
  refine W.widen (k := 14) (n := 1287) (Nat.le_of_ble_eq_true rfl) (Nat.le_of_ble_eq_true rfl) ?_
  refine ct_pf hB hK hP hD hS (T := TX7) (N := 8) rfl 2 (by decide) (List.mem_of_getElem? (i := 223) (by decide +kernel)) rfl rfl (ty := .object "OffsetBook$Groups") (by decide +kernel) rfl rfl (Nat.le_of_ble_eq_true rfl) cdX7_34 (fun H locs hP hD hS => ?_)
  have hP : va_P D ia_cl ((h0, .inr (7, [.ref (a1 0), .ref (a2 0), .ref (a3 0), .null, .null, .null, .null, .null])) :: (((([] : va_W) ++ ia_w a1 k1 ct_eX3 0 ct_shX3) ++ ia_w a2 k2 ct_eX5 0 ct_shX5) ++ ia_w a3 k3 ct_eX1 0 ct_shX1)) H := hP
  have hD : va_D A ((h0, .inr (7, [.ref (a1 0), .ref (a2 0), .ref (a3 0), .null, .null, .null, .null, .null])) :: (((([] : va_W) ++ ia_w a1 k1 ct_eX3 0 ct_shX3) ++ ia_w a2 k2 ct_eX5 0 ct_shX5) ++ ia_w a3 k3 ct_eX1 0 ct_shX1)) := hD
  refine lv_aload_n hx hb cdX7_37 rfl (lv_at hl 0 rfl) ?_
  refine ct_make hB hK hP hD hS hA (ct_cX6 l D) (T := TX6) (N := 14) rfl (fun j hj => by rcases (show j = 0 ∨ j = 1 ∨ j = 2 ∨ j = 3 ∨ j = 4 ∨ j = 5 ∨ j = 6 ∨ j = 7 ∨ j = 8 ∨ j = 9 ∨ j = 10 ∨ j = 11 ∨ j = 12 ∨ j = 13 by omega) with rfl | rfl | rfl | rfl | rfl | rfl | rfl | rfl | rfl | rfl | rfl | rfl | rfl | rfl <;> rfl) (List.mem_of_getElem? (i := 14) (by decide +kernel)) (List.mem_of_getElem? (i := 15) (by decide +kernel)) (List.mem_of_getElem? (i := 100) (by decide +kernel)) (List.mem_of_getElem? (i := 166) (by decide +kernel)) (List.mem_of_getElem? (i := 165) (by decide +kernel)) (Or.inl (List.mem_of_getElem? (i := 164) (by decide +kernel))) ⟨by decide, by decide⟩ ⟨Nat.le_of_ble_eq_true rfl, Nat.le_of_ble_eq_true rfl⟩ (Nat.le_of_ble_eq_true rfl) (Nat.le_of_ble_eq_true rfl) hl.1 (Nat.le_of_ble_eq_true rfl) cdX7_38 cdX7_41 cdX7_42 (fun q4 u4 H locs hu4 hK hP hD hS => ?_)
  obtain ⟨a4, k4, g4⟩ := u4
  obtain ⟨ea, eg⟩ := hu4
  have ea : a4 0 = q4 := ea
  have eg : g4 = ct_eX6 := eg
  subst ea; subst eg
  have hP : va_P D ia_cl ((h0, .inr (7, [.ref (a1 0), .ref (a2 0), .ref (a3 0), .null, .null, .null, .null, .null])) :: ((((([] : va_W) ++ ia_w a1 k1 ct_eX3 0 ct_shX3) ++ ia_w a2 k2 ct_eX5 0 ct_shX5) ++ ia_w a3 k3 ct_eX1 0 ct_shX1) ++ ia_w a4 k4 ct_eX6 0 ct_shX6)) H := hP
  have hD : va_D A ((h0, .inr (7, [.ref (a1 0), .ref (a2 0), .ref (a3 0), .null, .null, .null, .null, .null])) :: ((((([] : va_W) ++ ia_w a1 k1 ct_eX3 0 ct_shX3) ++ ia_w a2 k2 ct_eX5 0 ct_shX5) ++ ia_w a3 k3 ct_eX1 0 ct_shX1) ++ ia_w a4 k4 ct_eX6 0 ct_shX6)) := hD
  refine W.widen (k := 28) (n := 2549) (Nat.le_of_ble_eq_true rfl) (Nat.le_of_ble_eq_true rfl) ?_
  refine ct_pf hB hK hP hD hS (T := TX7) (N := 8) rfl 3 (by decide) (List.mem_of_getElem? (i := 224) (by decide +kernel)) rfl rfl (ty := .object "OffsetBook$Web") (by decide +kernel) rfl rfl (Nat.le_of_ble_eq_true rfl) cdX7_45 (fun H locs hP hD hS => ?_)
  have hP : va_P D ia_cl ((h0, .inr (7, [.ref (a1 0), .ref (a2 0), .ref (a3 0), .ref (a4 0), .null, .null, .null, .null])) :: ((((([] : va_W) ++ ia_w a1 k1 ct_eX3 0 ct_shX3) ++ ia_w a2 k2 ct_eX5 0 ct_shX5) ++ ia_w a3 k3 ct_eX1 0 ct_shX1) ++ ia_w a4 k4 ct_eX6 0 ct_shX6)) H := hP
  have hD : va_D A ((h0, .inr (7, [.ref (a1 0), .ref (a2 0), .ref (a3 0), .ref (a4 0), .null, .null, .null, .null])) :: ((((([] : va_W) ++ ia_w a1 k1 ct_eX3 0 ct_shX3) ++ ia_w a2 k2 ct_eX5 0 ct_shX5) ++ ia_w a3 k3 ct_eX1 0 ct_shX1) ++ ia_w a4 k4 ct_eX6 0 ct_shX6)) := hD
  refine lv_aload_n hx hb cdX7_48 rfl (lv_at hl 0 rfl) ?_
  refine ct_make hB hK hP hD hS hA (ct_cX0 l D) (T := TX0) (N := 5) rfl (fun j hj => by rcases (show j = 0 ∨ j = 1 ∨ j = 2 ∨ j = 3 ∨ j = 4 by omega) with rfl | rfl | rfl | rfl | rfl <;> rfl) (List.mem_of_getElem? (i := 16) (by decide +kernel)) (List.mem_of_getElem? (i := 17) (by decide +kernel)) (List.mem_of_getElem? (i := 102) (by decide +kernel)) (List.mem_of_getElem? (i := 200) (by decide +kernel)) (List.mem_of_getElem? (i := 199) (by decide +kernel)) (Or.inr hEn.2.2.2.2.1) ⟨by decide, by decide⟩ ⟨Nat.le_of_ble_eq_true rfl, Nat.le_of_ble_eq_true rfl⟩ (Nat.le_of_ble_eq_true rfl) (Nat.le_of_ble_eq_true rfl) hl.1 (Nat.le_of_ble_eq_true rfl) cdX7_49 cdX7_52 cdX7_53 (fun q5 u5 H locs hu5 hK hP hD hS => ?_)
  obtain ⟨a5, k5, g5⟩ := u5
  obtain ⟨ea, eg⟩ := hu5
  have ea : a5 0 = q5 := ea
  have eg : g5 = ct_eX0 := eg
  subst ea; subst eg
  have hP : va_P D ia_cl ((h0, .inr (7, [.ref (a1 0), .ref (a2 0), .ref (a3 0), .ref (a4 0), .null, .null, .null, .null])) :: (((((([] : va_W) ++ ia_w a1 k1 ct_eX3 0 ct_shX3) ++ ia_w a2 k2 ct_eX5 0 ct_shX5) ++ ia_w a3 k3 ct_eX1 0 ct_shX1) ++ ia_w a4 k4 ct_eX6 0 ct_shX6) ++ ia_w a5 k5 ct_eX0 0 ct_shX0)) H := hP
  have hD : va_D A ((h0, .inr (7, [.ref (a1 0), .ref (a2 0), .ref (a3 0), .ref (a4 0), .null, .null, .null, .null])) :: (((((([] : va_W) ++ ia_w a1 k1 ct_eX3 0 ct_shX3) ++ ia_w a2 k2 ct_eX5 0 ct_shX5) ++ ia_w a3 k3 ct_eX1 0 ct_shX1) ++ ia_w a4 k4 ct_eX6 0 ct_shX6) ++ ia_w a5 k5 ct_eX0 0 ct_shX0)) := hD
  refine W.widen (k := 32) (n := 2614) (Nat.le_of_ble_eq_true rfl) (Nat.le_of_ble_eq_true rfl) ?_
  refine ct_pf hB hK hP hD hS (T := TX7) (N := 8) rfl 4 (by decide) (List.mem_of_getElem? (i := 225) (by decide +kernel)) rfl rfl (ty := .object "OffsetBook$Acts") (by decide +kernel) rfl rfl (Nat.le_of_ble_eq_true rfl) cdX7_56 (fun H locs hP hD hS => ?_)
  have hP : va_P D ia_cl ((h0, .inr (7, [.ref (a1 0), .ref (a2 0), .ref (a3 0), .ref (a4 0), .ref (a5 0), .null, .null, .null])) :: (((((([] : va_W) ++ ia_w a1 k1 ct_eX3 0 ct_shX3) ++ ia_w a2 k2 ct_eX5 0 ct_shX5) ++ ia_w a3 k3 ct_eX1 0 ct_shX1) ++ ia_w a4 k4 ct_eX6 0 ct_shX6) ++ ia_w a5 k5 ct_eX0 0 ct_shX0)) H := hP
  have hD : va_D A ((h0, .inr (7, [.ref (a1 0), .ref (a2 0), .ref (a3 0), .ref (a4 0), .ref (a5 0), .null, .null, .null])) :: (((((([] : va_W) ++ ia_w a1 k1 ct_eX3 0 ct_shX3) ++ ia_w a2 k2 ct_eX5 0 ct_shX5) ++ ia_w a3 k3 ct_eX1 0 ct_shX1) ++ ia_w a4 k4 ct_eX6 0 ct_shX6) ++ ia_w a5 k5 ct_eX0 0 ct_shX0)) := hD
  refine lv_aload_n hx hb cdX7_59 rfl (lv_at hl 0 rfl) ?_
  refine ct_make hB hK hP hD hS hA (ct_cX2 l D) (T := TX2) (N := 2) rfl (fun j hj => by rcases (show j = 0 ∨ j = 1 by omega) with rfl | rfl <;> rfl) (List.mem_of_getElem? (i := 18) (by decide +kernel)) (List.mem_of_getElem? (i := 19) (by decide +kernel)) (List.mem_of_getElem? (i := 103) (by decide +kernel)) (List.mem_of_getElem? (i := 214) (by decide +kernel)) (List.mem_of_getElem? (i := 213) (by decide +kernel)) (Or.inl (List.mem_of_getElem? (i := 212) (by decide +kernel))) ⟨by decide, by decide⟩ ⟨Nat.le_of_ble_eq_true rfl, Nat.le_of_ble_eq_true rfl⟩ (Nat.le_of_ble_eq_true rfl) (Nat.le_of_ble_eq_true rfl) hl.1 (Nat.le_of_ble_eq_true rfl) cdX7_60 cdX7_63 cdX7_64 (fun q6 u6 H locs hu6 hK hP hD hS => ?_)
  obtain ⟨a6, k6, g6⟩ := u6
  obtain ⟨ea, eg⟩ := hu6
  have ea : a6 0 = q6 := ea
  have eg : g6 = ct_eX2 := eg
  subst ea; subst eg
  have hP : va_P D ia_cl ((h0, .inr (7, [.ref (a1 0), .ref (a2 0), .ref (a3 0), .ref (a4 0), .ref (a5 0), .null, .null, .null])) :: ((((((([] : va_W) ++ ia_w a1 k1 ct_eX3 0 ct_shX3) ++ ia_w a2 k2 ct_eX5 0 ct_shX5) ++ ia_w a3 k3 ct_eX1 0 ct_shX1) ++ ia_w a4 k4 ct_eX6 0 ct_shX6) ++ ia_w a5 k5 ct_eX0 0 ct_shX0) ++ ia_w a6 k6 ct_eX2 0 ct_shX2)) H := hP
  have hD : va_D A ((h0, .inr (7, [.ref (a1 0), .ref (a2 0), .ref (a3 0), .ref (a4 0), .ref (a5 0), .null, .null, .null])) :: ((((((([] : va_W) ++ ia_w a1 k1 ct_eX3 0 ct_shX3) ++ ia_w a2 k2 ct_eX5 0 ct_shX5) ++ ia_w a3 k3 ct_eX1 0 ct_shX1) ++ ia_w a4 k4 ct_eX6 0 ct_shX6) ++ ia_w a5 k5 ct_eX0 0 ct_shX0) ++ ia_w a6 k6 ct_eX2 0 ct_shX2)) := hD
  refine W.widen (k := 35) (n := 2626) (Nat.le_of_ble_eq_true rfl) (Nat.le_of_ble_eq_true rfl) ?_
  refine ct_pf hB hK hP hD hS (T := TX7) (N := 8) rfl 5 (by decide) (List.mem_of_getElem? (i := 226) (by decide +kernel)) rfl rfl (ty := .object "OffsetBook$Pins") (by decide +kernel) rfl rfl (Nat.le_of_ble_eq_true rfl) cdX7_67 (fun H locs hP hD hS => ?_)
  have hP : va_P D ia_cl ((h0, .inr (7, [.ref (a1 0), .ref (a2 0), .ref (a3 0), .ref (a4 0), .ref (a5 0), .ref (a6 0), .null, .null])) :: ((((((([] : va_W) ++ ia_w a1 k1 ct_eX3 0 ct_shX3) ++ ia_w a2 k2 ct_eX5 0 ct_shX5) ++ ia_w a3 k3 ct_eX1 0 ct_shX1) ++ ia_w a4 k4 ct_eX6 0 ct_shX6) ++ ia_w a5 k5 ct_eX0 0 ct_shX0) ++ ia_w a6 k6 ct_eX2 0 ct_shX2)) H := hP
  have hD : va_D A ((h0, .inr (7, [.ref (a1 0), .ref (a2 0), .ref (a3 0), .ref (a4 0), .ref (a5 0), .ref (a6 0), .null, .null])) :: ((((((([] : va_W) ++ ia_w a1 k1 ct_eX3 0 ct_shX3) ++ ia_w a2 k2 ct_eX5 0 ct_shX5) ++ ia_w a3 k3 ct_eX1 0 ct_shX1) ++ ia_w a4 k4 ct_eX6 0 ct_shX6) ++ ia_w a5 k5 ct_eX0 0 ct_shX0) ++ ia_w a6 k6 ct_eX2 0 ct_shX2)) := hD
  refine lv_aload_n hx hb cdX7_70 rfl (lv_at hl 0 rfl) ?_
  refine lv_iconst (v := 2) hx hb cdX7_71 (by decide) ?_
  refine va_newq (C := "OffsetBook$Told") hx hb hown (hts _ (List.mem_of_getElem? (i := 7) (by decide +kernel))) hEn.2.2.2.2.2 hK hP hD hS hA (N' := 2) (by decide) (by decide) (Nat.le_of_ble_eq_true rfl) (Nat.le_of_ble_eq_true rfl) (Nat.le_of_ble_eq_true rfl) cdX7_72 (fun qI cI H hK hP hD hS => ?_)
  have hP : va_P D ia_cl ((h0, .inr (7, [.ref (a1 0), .ref (a2 0), .ref (a3 0), .ref (a4 0), .ref (a5 0), .ref (a6 0), .null, .null])) :: (((((((([] : va_W) ++ ia_w a1 k1 ct_eX3 0 ct_shX3) ++ ia_w a2 k2 ct_eX5 0 ct_shX5) ++ ia_w a3 k3 ct_eX1 0 ct_shX1) ++ ia_w a4 k4 ct_eX6 0 ct_shX6) ++ ia_w a5 k5 ct_eX0 0 ct_shX0) ++ ia_w a6 k6 ct_eX2 0 ct_shX2) ++ [(qI, .inl (cI, 2, .inr (.inr (.inr (.inr (fun _ => none))))))])) H := hP
  have hD : va_D A ((h0, .inr (7, [.ref (a1 0), .ref (a2 0), .ref (a3 0), .ref (a4 0), .ref (a5 0), .ref (a6 0), .null, .null])) :: (((((((([] : va_W) ++ ia_w a1 k1 ct_eX3 0 ct_shX3) ++ ia_w a2 k2 ct_eX5 0 ct_shX5) ++ ia_w a3 k3 ct_eX1 0 ct_shX1) ++ ia_w a4 k4 ct_eX6 0 ct_shX6) ++ ia_w a5 k5 ct_eX0 0 ct_shX0) ++ ia_w a6 k6 ct_eX2 0 ct_shX2) ++ [(qI, .inl (cI, 2, .inr (.inr (.inr (.inr (fun _ => none))))))])) := hD
  refine W.widen (k := 36) (n := 2628) (Nat.le_of_ble_eq_true rfl) (Nat.le_of_ble_eq_true rfl) ?_
  refine lv_dup hx hb cdX7_75 rfl ?_
  refine lv_iconst (v := 0) hx hb cdX7_76 (by decide) ?_
  refine ct_make hB hK hP hD hS hA (ct_cX5 l D) (T := TX5) (N := 8) rfl (fun j hj => by rcases (show j = 0 ∨ j = 1 ∨ j = 2 ∨ j = 3 ∨ j = 4 ∨ j = 5 ∨ j = 6 ∨ j = 7 by omega) with rfl | rfl | rfl | rfl | rfl | rfl | rfl | rfl <;> rfl) (List.mem_of_getElem? (i := 7) (by decide +kernel)) (List.mem_of_getElem? (i := 8) (by decide +kernel)) (List.mem_of_getElem? (i := 98) (by decide +kernel)) (List.mem_of_getElem? (i := 136) (by decide +kernel)) (List.mem_of_getElem? (i := 135) (by decide +kernel)) (Or.inr hEn.2.2.2.1) ⟨by decide, by decide⟩ ⟨Nat.le_of_ble_eq_true rfl, Nat.le_of_ble_eq_true rfl⟩ (Nat.le_of_ble_eq_true rfl) (Nat.le_of_ble_eq_true rfl) hl.1 (Nat.le_of_ble_eq_true rfl) cdX7_77 cdX7_80 cdX7_81 (fun q8 u8 H locs hu8 hK hP hD hS => ?_)
  obtain ⟨a8, k8, g8⟩ := u8
  obtain ⟨ea, eg⟩ := hu8
  have ea : a8 0 = q8 := ea
  have eg : g8 = ct_eX5 := eg
  subst ea; subst eg
  have hP : va_P D ia_cl ((h0, .inr (7, [.ref (a1 0), .ref (a2 0), .ref (a3 0), .ref (a4 0), .ref (a5 0), .ref (a6 0), .null, .null])) :: ((((((((([] : va_W) ++ ia_w a1 k1 ct_eX3 0 ct_shX3) ++ ia_w a2 k2 ct_eX5 0 ct_shX5) ++ ia_w a3 k3 ct_eX1 0 ct_shX1) ++ ia_w a4 k4 ct_eX6 0 ct_shX6) ++ ia_w a5 k5 ct_eX0 0 ct_shX0) ++ ia_w a6 k6 ct_eX2 0 ct_shX2) ++ [(qI, .inl (cI, 2, .inr (.inr (.inr (.inr (fun _ => none))))))]) ++ ia_w a8 k8 ct_eX5 0 ct_shX5)) H := hP
  have hD : va_D A ((h0, .inr (7, [.ref (a1 0), .ref (a2 0), .ref (a3 0), .ref (a4 0), .ref (a5 0), .ref (a6 0), .null, .null])) :: ((((((((([] : va_W) ++ ia_w a1 k1 ct_eX3 0 ct_shX3) ++ ia_w a2 k2 ct_eX5 0 ct_shX5) ++ ia_w a3 k3 ct_eX1 0 ct_shX1) ++ ia_w a4 k4 ct_eX6 0 ct_shX6) ++ ia_w a5 k5 ct_eX0 0 ct_shX0) ++ ia_w a6 k6 ct_eX2 0 ct_shX2) ++ [(qI, .inl (cI, 2, .inr (.inr (.inr (.inr (fun _ => none))))))]) ++ ia_w a8 k8 ct_eX5 0 ct_shX5)) := hD
  refine W.widen (k := 43) (n := 3403) (Nat.le_of_ble_eq_true rfl) (Nat.le_of_ble_eq_true rfl) ?_
  refine va_astq (a := qI) (i := 0) hx hb hK hP hD hS 36 28 37 5 rfl rfl (hv := rfl) rfl (vp_in_iff.mpr ⟨by decide, by decide⟩) cdX7_84 (fun H locs hP hD hS => ?_)
  have hP : va_P D ia_cl ((h0, .inr (7, [.ref (a1 0), .ref (a2 0), .ref (a3 0), .ref (a4 0), .ref (a5 0), .ref (a6 0), .null, .null])) :: (((((((([] : va_W) ++ ia_w a1 k1 ct_eX3 0 ct_shX3) ++ ia_w a2 k2 ct_eX5 0 ct_shX5) ++ ia_w a3 k3 ct_eX1 0 ct_shX1) ++ ia_w a4 k4 ct_eX6 0 ct_shX6) ++ ia_w a5 k5 ct_eX0 0 ct_shX0) ++ ia_w a6 k6 ct_eX2 0 ct_shX2) ++ [(qI, .inl (cI, 2, .inr (.inr (.inr (.inr (va_up (fun _ => none) 0 (some (a8 0))))))))] ++ ia_w a8 k8 ct_eX5 0 ct_shX5)) H := hP
  have hD : va_D A ((h0, .inr (7, [.ref (a1 0), .ref (a2 0), .ref (a3 0), .ref (a4 0), .ref (a5 0), .ref (a6 0), .null, .null])) :: (((((((([] : va_W) ++ ia_w a1 k1 ct_eX3 0 ct_shX3) ++ ia_w a2 k2 ct_eX5 0 ct_shX5) ++ ia_w a3 k3 ct_eX1 0 ct_shX1) ++ ia_w a4 k4 ct_eX6 0 ct_shX6) ++ ia_w a5 k5 ct_eX0 0 ct_shX0) ++ ia_w a6 k6 ct_eX2 0 ct_shX2) ++ [(qI, .inl (cI, 2, .inr (.inr (.inr (.inr (va_up (fun _ => none) 0 (some (a8 0))))))))] ++ ia_w a8 k8 ct_eX5 0 ct_shX5)) := hD
  refine lv_dup hx hb cdX7_85 rfl ?_
  refine lv_iconst (v := 1) hx hb cdX7_86 (by decide) ?_
  refine ct_make hB hK hP hD hS hA (ct_cX5 l D) (T := TX5) (N := 8) rfl (fun j hj => by rcases (show j = 0 ∨ j = 1 ∨ j = 2 ∨ j = 3 ∨ j = 4 ∨ j = 5 ∨ j = 6 ∨ j = 7 by omega) with rfl | rfl | rfl | rfl | rfl | rfl | rfl | rfl <;> rfl) (List.mem_of_getElem? (i := 7) (by decide +kernel)) (List.mem_of_getElem? (i := 8) (by decide +kernel)) (List.mem_of_getElem? (i := 98) (by decide +kernel)) (List.mem_of_getElem? (i := 136) (by decide +kernel)) (List.mem_of_getElem? (i := 135) (by decide +kernel)) (Or.inr hEn.2.2.2.1) ⟨by decide, by decide⟩ ⟨Nat.le_of_ble_eq_true rfl, Nat.le_of_ble_eq_true rfl⟩ (Nat.le_of_ble_eq_true rfl) (Nat.le_of_ble_eq_true rfl) hl.1 (Nat.le_of_ble_eq_true rfl) cdX7_87 cdX7_90 cdX7_91 (fun q9 u9 H locs hu9 hK hP hD hS => ?_)
  obtain ⟨a9, k9, g9⟩ := u9
  obtain ⟨ea, eg⟩ := hu9
  have ea : a9 0 = q9 := ea
  have eg : g9 = ct_eX5 := eg
  subst ea; subst eg
  have hP : va_P D ia_cl ((h0, .inr (7, [.ref (a1 0), .ref (a2 0), .ref (a3 0), .ref (a4 0), .ref (a5 0), .ref (a6 0), .null, .null])) :: ((((((((([] : va_W) ++ ia_w a1 k1 ct_eX3 0 ct_shX3) ++ ia_w a2 k2 ct_eX5 0 ct_shX5) ++ ia_w a3 k3 ct_eX1 0 ct_shX1) ++ ia_w a4 k4 ct_eX6 0 ct_shX6) ++ ia_w a5 k5 ct_eX0 0 ct_shX0) ++ ia_w a6 k6 ct_eX2 0 ct_shX2) ++ [(qI, .inl (cI, 2, .inr (.inr (.inr (.inr (va_up (fun _ => none) 0 (some (a8 0))))))))] ++ ia_w a8 k8 ct_eX5 0 ct_shX5) ++ ia_w a9 k9 ct_eX5 0 ct_shX5)) H := hP
  have hD : va_D A ((h0, .inr (7, [.ref (a1 0), .ref (a2 0), .ref (a3 0), .ref (a4 0), .ref (a5 0), .ref (a6 0), .null, .null])) :: ((((((((([] : va_W) ++ ia_w a1 k1 ct_eX3 0 ct_shX3) ++ ia_w a2 k2 ct_eX5 0 ct_shX5) ++ ia_w a3 k3 ct_eX1 0 ct_shX1) ++ ia_w a4 k4 ct_eX6 0 ct_shX6) ++ ia_w a5 k5 ct_eX0 0 ct_shX0) ++ ia_w a6 k6 ct_eX2 0 ct_shX2) ++ [(qI, .inl (cI, 2, .inr (.inr (.inr (.inr (va_up (fun _ => none) 0 (some (a8 0))))))))] ++ ia_w a8 k8 ct_eX5 0 ct_shX5) ++ ia_w a9 k9 ct_eX5 0 ct_shX5)) := hD
  refine W.widen (k := 50) (n := 4178) (Nat.le_of_ble_eq_true rfl) (Nat.le_of_ble_eq_true rfl) ?_
  refine va_astq (a := qI) (i := 1) hx hb hK hP hD hS 36 28 44 5 rfl rfl (hv := rfl) rfl (vp_in_iff.mpr ⟨by decide, by decide⟩) cdX7_94 (fun H locs hP hD hS => ?_)
  have hP : va_P D ia_cl ((h0, .inr (7, [.ref (a1 0), .ref (a2 0), .ref (a3 0), .ref (a4 0), .ref (a5 0), .ref (a6 0), .null, .null])) :: (((((((([] : va_W) ++ ia_w a1 k1 ct_eX3 0 ct_shX3) ++ ia_w a2 k2 ct_eX5 0 ct_shX5) ++ ia_w a3 k3 ct_eX1 0 ct_shX1) ++ ia_w a4 k4 ct_eX6 0 ct_shX6) ++ ia_w a5 k5 ct_eX0 0 ct_shX0) ++ ia_w a6 k6 ct_eX2 0 ct_shX2) ++ [(qI, .inl (cI, 2, .inr (.inr (.inr (.inr (va_up (va_up (fun _ => none) 0 (some (a8 0))) 1 (some (a9 0))))))))] ++ ia_w a8 k8 ct_eX5 0 ct_shX5 ++ ia_w a9 k9 ct_eX5 0 ct_shX5)) H := hP
  have hD : va_D A ((h0, .inr (7, [.ref (a1 0), .ref (a2 0), .ref (a3 0), .ref (a4 0), .ref (a5 0), .ref (a6 0), .null, .null])) :: (((((((([] : va_W) ++ ia_w a1 k1 ct_eX3 0 ct_shX3) ++ ia_w a2 k2 ct_eX5 0 ct_shX5) ++ ia_w a3 k3 ct_eX1 0 ct_shX1) ++ ia_w a4 k4 ct_eX6 0 ct_shX6) ++ ia_w a5 k5 ct_eX0 0 ct_shX0) ++ ia_w a6 k6 ct_eX2 0 ct_shX2) ++ [(qI, .inl (cI, 2, .inr (.inr (.inr (.inr (va_up (va_up (fun _ => none) 0 (some (a8 0))) 1 (some (a9 0))))))))] ++ ia_w a8 k8 ct_eX5 0 ct_shX5 ++ ia_w a9 k9 ct_eX5 0 ct_shX5)) := hD
  refine ct_pf hB hK hP hD hS (T := TX7) (N := 8) rfl 6 (by decide) (List.mem_of_getElem? (i := 227) (by decide +kernel)) rfl rfl (ty := .array (.object "OffsetBook$Told")) (by decide +kernel) rfl rfl (Nat.le_of_ble_eq_true rfl) cdX7_95 (fun H locs hP hD hS => ?_)
  have hP : va_P D ia_cl ((h0, .inr (7, [.ref (a1 0), .ref (a2 0), .ref (a3 0), .ref (a4 0), .ref (a5 0), .ref (a6 0), .ref qI, .null])) :: (((((((([] : va_W) ++ ia_w a1 k1 ct_eX3 0 ct_shX3) ++ ia_w a2 k2 ct_eX5 0 ct_shX5) ++ ia_w a3 k3 ct_eX1 0 ct_shX1) ++ ia_w a4 k4 ct_eX6 0 ct_shX6) ++ ia_w a5 k5 ct_eX0 0 ct_shX0) ++ ia_w a6 k6 ct_eX2 0 ct_shX2) ++ [(qI, .inl (cI, 2, .inr (.inr (.inr (.inr (va_up (va_up (fun _ => none) 0 (some (a8 0))) 1 (some (a9 0))))))))] ++ ia_w a8 k8 ct_eX5 0 ct_shX5 ++ ia_w a9 k9 ct_eX5 0 ct_shX5)) H := hP
  have hD : va_D A ((h0, .inr (7, [.ref (a1 0), .ref (a2 0), .ref (a3 0), .ref (a4 0), .ref (a5 0), .ref (a6 0), .ref qI, .null])) :: (((((((([] : va_W) ++ ia_w a1 k1 ct_eX3 0 ct_shX3) ++ ia_w a2 k2 ct_eX5 0 ct_shX5) ++ ia_w a3 k3 ct_eX1 0 ct_shX1) ++ ia_w a4 k4 ct_eX6 0 ct_shX6) ++ ia_w a5 k5 ct_eX0 0 ct_shX0) ++ ia_w a6 k6 ct_eX2 0 ct_shX2) ++ [(qI, .inl (cI, 2, .inr (.inr (.inr (.inr (va_up (va_up (fun _ => none) 0 (some (a8 0))) 1 (some (a9 0))))))))] ++ ia_w a8 k8 ct_eX5 0 ct_shX5 ++ ia_w a9 k9 ct_eX5 0 ct_shX5)) := hD
  refine lv_aload_n hx hb cdX7_98 rfl (lv_at hl 0 rfl) ?_
  refine lv_iconst (v := 2) hx hb cdX7_99 (by decide) ?_
  refine va_newa (atype := .boolean) (ty := .boolean) hx hb (hts _ (List.mem_of_getElem? (i := 11) (by decide +kernel))) rfl hK hP hD hS hA (N' := 2) (a0 := (2, .inl (fun _ => 0))) (fun cA => rfl) (by decide) (by decide) (Nat.le_of_ble_eq_true rfl) (Nat.le_of_ble_eq_true rfl) (Nat.le_of_ble_eq_true rfl) cdX7_100 (fun qM cM H hK hP hD hS => ?_)
  have hP : va_P D ia_cl ((h0, .inr (7, [.ref (a1 0), .ref (a2 0), .ref (a3 0), .ref (a4 0), .ref (a5 0), .ref (a6 0), .ref qI, .null])) :: ((((((((([] : va_W) ++ ia_w a1 k1 ct_eX3 0 ct_shX3) ++ ia_w a2 k2 ct_eX5 0 ct_shX5) ++ ia_w a3 k3 ct_eX1 0 ct_shX1) ++ ia_w a4 k4 ct_eX6 0 ct_shX6) ++ ia_w a5 k5 ct_eX0 0 ct_shX0) ++ ia_w a6 k6 ct_eX2 0 ct_shX2) ++ [(qI, .inl (cI, 2, .inr (.inr (.inr (.inr (va_up (va_up (fun _ => none) 0 (some (a8 0))) 1 (some (a9 0))))))))] ++ ia_w a8 k8 ct_eX5 0 ct_shX5 ++ ia_w a9 k9 ct_eX5 0 ct_shX5) ++ [(qM, .inl (cM, 2, .inl (fun _ => 0)))])) H := hP
  have hD : va_D A ((h0, .inr (7, [.ref (a1 0), .ref (a2 0), .ref (a3 0), .ref (a4 0), .ref (a5 0), .ref (a6 0), .ref qI, .null])) :: ((((((((([] : va_W) ++ ia_w a1 k1 ct_eX3 0 ct_shX3) ++ ia_w a2 k2 ct_eX5 0 ct_shX5) ++ ia_w a3 k3 ct_eX1 0 ct_shX1) ++ ia_w a4 k4 ct_eX6 0 ct_shX6) ++ ia_w a5 k5 ct_eX0 0 ct_shX0) ++ ia_w a6 k6 ct_eX2 0 ct_shX2) ++ [(qI, .inl (cI, 2, .inr (.inr (.inr (.inr (va_up (va_up (fun _ => none) 0 (some (a8 0))) 1 (some (a9 0))))))))] ++ ia_w a8 k8 ct_eX5 0 ct_shX5 ++ ia_w a9 k9 ct_eX5 0 ct_shX5) ++ [(qM, .inl (cM, 2, .inl (fun _ => 0)))])) := hD
  refine W.widen (k := 51) (n := 4180) (Nat.le_of_ble_eq_true rfl) (Nat.le_of_ble_eq_true rfl) ?_
  refine lv_dup hx hb cdX7_102 rfl ?_
  refine lv_iconst (v := 0) hx hb cdX7_103 (by decide) ?_
  refine lv_iconst (v := 0) hx hb cdX7_104 (by decide) ?_
  refine va_zast (a := qM) (i := 0) (x := 0) hx hb hK hP hD hS 51 41 rfl rfl (vp_in_iff.mpr ⟨by decide, by decide⟩) cdX7_105 (fun H locs hP hD hS => ?_)
  rw [show upd (fun _ => (0 : Int32)) (0 : Int32).toNatClampNeg (vp_nar .boolean 0) = fun _ => 0 from ct_upd0 _] at hP hD
  have hP : va_P D ia_cl ((h0, .inr (7, [.ref (a1 0), .ref (a2 0), .ref (a3 0), .ref (a4 0), .ref (a5 0), .ref (a6 0), .ref qI, .null])) :: ((((((((([] : va_W) ++ ia_w a1 k1 ct_eX3 0 ct_shX3) ++ ia_w a2 k2 ct_eX5 0 ct_shX5) ++ ia_w a3 k3 ct_eX1 0 ct_shX1) ++ ia_w a4 k4 ct_eX6 0 ct_shX6) ++ ia_w a5 k5 ct_eX0 0 ct_shX0) ++ ia_w a6 k6 ct_eX2 0 ct_shX2) ++ [(qI, .inl (cI, 2, .inr (.inr (.inr (.inr (va_up (va_up (fun _ => none) 0 (some (a8 0))) 1 (some (a9 0))))))))] ++ ia_w a8 k8 ct_eX5 0 ct_shX5 ++ ia_w a9 k9 ct_eX5 0 ct_shX5) ++ [(qM, .inl (cM, 2, .inl (fun _ => 0)))])) H := hP
  have hD : va_D A ((h0, .inr (7, [.ref (a1 0), .ref (a2 0), .ref (a3 0), .ref (a4 0), .ref (a5 0), .ref (a6 0), .ref qI, .null])) :: ((((((((([] : va_W) ++ ia_w a1 k1 ct_eX3 0 ct_shX3) ++ ia_w a2 k2 ct_eX5 0 ct_shX5) ++ ia_w a3 k3 ct_eX1 0 ct_shX1) ++ ia_w a4 k4 ct_eX6 0 ct_shX6) ++ ia_w a5 k5 ct_eX0 0 ct_shX0) ++ ia_w a6 k6 ct_eX2 0 ct_shX2) ++ [(qI, .inl (cI, 2, .inr (.inr (.inr (.inr (va_up (va_up (fun _ => none) 0 (some (a8 0))) 1 (some (a9 0))))))))] ++ ia_w a8 k8 ct_eX5 0 ct_shX5 ++ ia_w a9 k9 ct_eX5 0 ct_shX5) ++ [(qM, .inl (cM, 2, .inl (fun _ => 0)))])) := hD
  refine lv_dup hx hb cdX7_106 rfl ?_
  refine lv_iconst (v := 1) hx hb cdX7_107 (by decide) ?_
  refine lv_iconst (v := 0) hx hb cdX7_108 (by decide) ?_
  refine va_zast (a := qM) (i := 1) (x := 0) hx hb hK hP hD hS 51 41 rfl rfl (vp_in_iff.mpr ⟨by decide, by decide⟩) cdX7_109 (fun H locs hP hD hS => ?_)
  rw [show upd (fun _ => (0 : Int32)) (1 : Int32).toNatClampNeg (vp_nar .boolean 0) = fun _ => 0 from ct_upd0 _] at hP hD
  have hP : va_P D ia_cl ((h0, .inr (7, [.ref (a1 0), .ref (a2 0), .ref (a3 0), .ref (a4 0), .ref (a5 0), .ref (a6 0), .ref qI, .null])) :: ((((((((([] : va_W) ++ ia_w a1 k1 ct_eX3 0 ct_shX3) ++ ia_w a2 k2 ct_eX5 0 ct_shX5) ++ ia_w a3 k3 ct_eX1 0 ct_shX1) ++ ia_w a4 k4 ct_eX6 0 ct_shX6) ++ ia_w a5 k5 ct_eX0 0 ct_shX0) ++ ia_w a6 k6 ct_eX2 0 ct_shX2) ++ [(qI, .inl (cI, 2, .inr (.inr (.inr (.inr (va_up (va_up (fun _ => none) 0 (some (a8 0))) 1 (some (a9 0))))))))] ++ ia_w a8 k8 ct_eX5 0 ct_shX5 ++ ia_w a9 k9 ct_eX5 0 ct_shX5) ++ [(qM, .inl (cM, 2, .inl (fun _ => 0)))])) H := hP
  have hD : va_D A ((h0, .inr (7, [.ref (a1 0), .ref (a2 0), .ref (a3 0), .ref (a4 0), .ref (a5 0), .ref (a6 0), .ref qI, .null])) :: ((((((((([] : va_W) ++ ia_w a1 k1 ct_eX3 0 ct_shX3) ++ ia_w a2 k2 ct_eX5 0 ct_shX5) ++ ia_w a3 k3 ct_eX1 0 ct_shX1) ++ ia_w a4 k4 ct_eX6 0 ct_shX6) ++ ia_w a5 k5 ct_eX0 0 ct_shX0) ++ ia_w a6 k6 ct_eX2 0 ct_shX2) ++ [(qI, .inl (cI, 2, .inr (.inr (.inr (.inr (va_up (va_up (fun _ => none) 0 (some (a8 0))) 1 (some (a9 0))))))))] ++ ia_w a8 k8 ct_eX5 0 ct_shX5 ++ ia_w a9 k9 ct_eX5 0 ct_shX5) ++ [(qM, .inl (cM, 2, .inl (fun _ => 0)))])) := hD
  refine ct_pf hB hK hP hD hS (T := TX7) (N := 8) rfl 7 (by decide) (List.mem_of_getElem? (i := 228) (by decide +kernel)) rfl rfl (ty := .array .boolean) (by decide +kernel) rfl rfl (Nat.le_of_ble_eq_true rfl) cdX7_110 (fun H locs hP hD hS => ?_)
  have hP : va_P D ia_cl ((h0, .inr (7, [.ref (a1 0), .ref (a2 0), .ref (a3 0), .ref (a4 0), .ref (a5 0), .ref (a6 0), .ref qI, .ref qM])) :: ((((((((([] : va_W) ++ ia_w a1 k1 ct_eX3 0 ct_shX3) ++ ia_w a2 k2 ct_eX5 0 ct_shX5) ++ ia_w a3 k3 ct_eX1 0 ct_shX1) ++ ia_w a4 k4 ct_eX6 0 ct_shX6) ++ ia_w a5 k5 ct_eX0 0 ct_shX0) ++ ia_w a6 k6 ct_eX2 0 ct_shX2) ++ [(qI, .inl (cI, 2, .inr (.inr (.inr (.inr (va_up (va_up (fun _ => none) 0 (some (a8 0))) 1 (some (a9 0))))))))] ++ ia_w a8 k8 ct_eX5 0 ct_shX5 ++ ia_w a9 k9 ct_eX5 0 ct_shX5) ++ [(qM, .inl (cM, 2, .inl (fun _ => 0)))])) H := hP
  have hD : va_D A ((h0, .inr (7, [.ref (a1 0), .ref (a2 0), .ref (a3 0), .ref (a4 0), .ref (a5 0), .ref (a6 0), .ref qI, .ref qM])) :: ((((((((([] : va_W) ++ ia_w a1 k1 ct_eX3 0 ct_shX3) ++ ia_w a2 k2 ct_eX5 0 ct_shX5) ++ ia_w a3 k3 ct_eX1 0 ct_shX1) ++ ia_w a4 k4 ct_eX6 0 ct_shX6) ++ ia_w a5 k5 ct_eX0 0 ct_shX0) ++ ia_w a6 k6 ct_eX2 0 ct_shX2) ++ [(qI, .inl (cI, 2, .inr (.inr (.inr (.inr (va_up (va_up (fun _ => none) 0 (some (a8 0))) 1 (some (a9 0))))))))] ++ ia_w a8 k8 ct_eX5 0 ct_shX5 ++ ia_w a9 k9 ct_eX5 0 ct_shX5) ++ [(qM, .inl (cM, 2, .inl (fun _ => 0)))])) := hD
  obtain ⟨hP, hD⟩ := ct_perm (List.Perm.cons _ (ct_prm (ia_w a1 k1 ct_eX3 0 ct_shX3) (ia_w a2 k2 ct_eX5 0 ct_shX5) (ia_w a3 k3 ct_eX1 0 ct_shX1) (ia_w a4 k4 ct_eX6 0 ct_shX6) (ia_w a5 k5 ct_eX0 0 ct_shX0) (ia_w a6 k6 ct_eX2 0 ct_shX2) [(qI, .inl (cI, 2, .inr (.inr (.inr (.inr (va_up (va_up (fun _ => none) 0 (some (a8 0))) 1 (some (a9 0))))))))] (ia_w a8 k8 ct_eX5 0 ct_shX5) (ia_w a9 k9 ct_eX5 0 ct_shX5) [(qM, .inl (cM, 2, .inl (fun _ => 0)))])) hP hD
  rw [show (va_up (va_up (fun _ => none) 0 (some (a8 0))) 1 (some (a9 0))) = fun j => (ia_pick [11, 18] j).map (ct_cut 1 (fun _ => h0) (ct_cut 3 a1 (ct_cut 7 a2 (ct_cut 7 a8 (ct_cut 7 a9 (ct_cut 4 a3 (ct_cut 14 a4 (ct_cut 4 a5 (ct_cut 3 a6 (ct_cut 1 (fun _ => qI) (fun _ => qM))))))))))) from by
    funext j
    match j with
    | 0 => rfl
    | 1 => rfl
    | j + 2 => simp [va_up, ia_pick]] at hP hD
  have hP9 : va_P D ia_cl (ia_w (ct_cut 1 (fun _ => h0) (ct_cut 3 a1 (ct_cut 7 a2 (ct_cut 7 a8 (ct_cut 7 a9 (ct_cut 4 a3 (ct_cut 14 a4 (ct_cut 4 a5 (ct_cut 3 a6 (ct_cut 1 (fun _ => qI) (fun _ => qM))))))))))) (ct_cut 1 (fun _ => 0) (ct_cut 3 k1 (ct_cut 7 k2 (ct_cut 7 k8 (ct_cut 7 k9 (ct_cut 4 k3 (ct_cut 14 k4 (ct_cut 4 k5 (ct_cut 3 k6 (ct_cut 1 (fun _ => cI) (fun _ => cM))))))))))) ct_eX7 0 ct_shX7) H := hP
  have hD9 : va_D A (ia_w (ct_cut 1 (fun _ => h0) (ct_cut 3 a1 (ct_cut 7 a2 (ct_cut 7 a8 (ct_cut 7 a9 (ct_cut 4 a3 (ct_cut 14 a4 (ct_cut 4 a5 (ct_cut 3 a6 (ct_cut 1 (fun _ => qI) (fun _ => qM))))))))))) (ct_cut 1 (fun _ => 0) (ct_cut 3 k1 (ct_cut 7 k2 (ct_cut 7 k8 (ct_cut 7 k9 (ct_cut 4 k3 (ct_cut 14 k4 (ct_cut 4 k5 (ct_cut 3 k6 (ct_cut 1 (fun _ => cI) (fun _ => cM))))))))))) ct_eX7 0 ct_shX7) := hD
  have hK9 : va_K D ia_cl (ct_tys (ct_cut 1 (fun _ => 0) (ct_cut 3 k1 (ct_cut 7 k2 (ct_cut 7 k8 (ct_cut 7 k9 (ct_cut 4 k3 (ct_cut 14 k4 (ct_cut 4 k5 (ct_cut 3 k6 (ct_cut 1 (fun _ => cI) (fun _ => cM))))))))))) 0 ct_shX7) s := ct_Km (fun q hq => (ct_prmK (ct_tys k1 0 ct_shX3) (ct_tys k2 0 ct_shX5) (ct_tys k3 0 ct_shX1) (ct_tys k4 0 ct_shX6) (ct_tys k5 0 ct_shX0) (ct_tys k6 0 ct_shX2) [(cI, .object "OffsetBook$Told")] (ct_tys k8 0 ct_shX5) (ct_tys k9 0 ct_shX5) [(cM, .boolean)]).mem_iff.mpr hq) hK
  exact W.vret hx hb hr (fun t ht hW => ⟨⟨((ct_cut 1 (fun _ => h0) (ct_cut 3 a1 (ct_cut 7 a2 (ct_cut 7 a8 (ct_cut 7 a9 (ct_cut 4 a3 (ct_cut 14 a4 (ct_cut 4 a5 (ct_cut 3 a6 (ct_cut 1 (fun _ => qI) (fun _ => qM))))))))))), (ct_cut 1 (fun _ => 0) (ct_cut 3 k1 (ct_cut 7 k2 (ct_cut 7 k8 (ct_cut 7 k9 (ct_cut 4 k3 (ct_cut 14 k4 (ct_cut 4 k5 (ct_cut 3 k6 (ct_cut 1 (fun _ => cI) (fun _ => cM))))))))))), ct_eX7), rfl, ⟨rfl, rfl⟩, by rw [ht]; exact hP9, va_K.moved hW.alike hK9, hD9⟩, hS.F ht⟩) hS.2.2 cdX7_113 hlocks
