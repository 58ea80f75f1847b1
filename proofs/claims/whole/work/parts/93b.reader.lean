theorem cdX3_0 : decode prog_5_method_1_code 0 = .ok (.aload_n 0, 1) := by decide +kernel
theorem cdX3_1 : decode prog_5_method_1_code 1 = .ok (.invokespecial 3, 3) := by decide +kernel
theorem cdX3_4 : decode prog_5_method_1_code 4 = .ok (.aload_n 0, 1) := by decide +kernel
theorem cdX3_5 : decode prog_5_method_1_code 5 = .ok (.new 9, 3) := by decide +kernel
theorem cdX3_8 : decode prog_5_method_1_code 8 = .ok (.dup, 1) := by decide +kernel
theorem cdX3_9 : decode prog_5_method_1_code 9 = .ok (.invokespecial 11, 3) := by decide +kernel
theorem cdX3_12 : decode prog_5_method_1_code 12 = .ok (.putfield 12, 3) := by decide +kernel
theorem cdX3_15 : decode prog_5_method_1_code 15 = .ok (.aload_n 0, 1) := by decide +kernel
theorem cdX3_16 : decode prog_5_method_1_code 16 = .ok (.iconst 0, 1) := by decide +kernel
theorem cdX3_17 : decode prog_5_method_1_code 17 = .ok (.putfield 18, 3) := by decide +kernel
theorem cdX3_20 : decode prog_5_method_1_code 20 = .ok (.aload_n 0, 1) := by decide +kernel
theorem cdX3_21 : decode prog_5_method_1_code 21 = .ok (.iconst 0, 1) := by decide +kernel
theorem cdX3_22 : decode prog_5_method_1_code 22 = .ok (.putfield 22, 3) := by decide +kernel
theorem cdX3_25 : decode prog_5_method_1_code 25 = .ok (.aload_n 0, 1) := by decide +kernel
theorem cdX3_26 : decode prog_5_method_1_code 26 = .ok (.iconst 0, 1) := by decide +kernel
theorem cdX3_27 : decode prog_5_method_1_code 27 = .ok (.putfield 25, 3) := by decide +kernel
theorem cdX3_30 : decode prog_5_method_1_code 30 = .ok (.return_, 1) := by decide +kernel
def ct_cut {α : Type} (n : Nat) (f g : Nat → α) : Nat → α := fun x => bif Nat.ble n x then g (x - n) else f x
def ct_shX3 : List ia_C := [.inr (.inl (3, [.inl 1, .inr false, .inr false, .inr false])), .inr (.inl (4, [.inl 2, .inr false, .inr false])), .inl (.byte, 300)]
def ct_eX3 : ia_H := (fun _ _ => 0, fun _ _ => 0)
set_option maxHeartbeats 4000000 in
theorem ct_cX3 (l : Launch) (D : va_G) : ct_Met l RX3 prog_5_method_1_code 1 { frames := 2, cells := 2, slots := 303, locals := 32 } D 3 [.null, .int 0, .int 0, .int 0] [] [] ct_shX3 (fun q u => u.1 0 = q ∧ u.2.2 = ct_eX3) := by
  refine ct_of (by decide) cdX3_0 cdX3_1 (List.mem_of_getElem? (i := 117) (by decide +kernel)) (Nat.le_of_ble_eq_true rfl) (Nat.le_of_ble_eq_true rfl) (Nat.le_of_ble_eq_true rfl) ?_
  intro p e s m h0 below meth c ls A hB hl hP hK hD hA
  obtain ⟨hx, hb, hr, hml, hown, hts, hlocks, hin, hEn⟩ := id hB
  have hS : va_S A s.heap s.heap [] := va_S.rf
  refine lv_aload_n hx hb cdX3_4 rfl (lv_at hl 0 rfl) ?_
  refine ct_make hB hK hP hD hS hA (ct_cX4 l D) (T := TX4) (N := 3) rfl (fun j hj => by rcases (show j = 0 ∨ j = 1 ∨ j = 2 by omega) with rfl | rfl | rfl <;> rfl) (List.mem_of_getElem? (i := 4) (by decide +kernel)) (List.mem_of_getElem? (i := 5) (by decide +kernel)) (List.mem_of_getElem? (i := 97) (by decide +kernel)) (List.mem_of_getElem? (i := 119) (by decide +kernel)) (List.mem_of_getElem? (i := 118) (by decide +kernel)) (Or.inr hEn.2.2.1) ⟨by decide, by decide⟩ ⟨Nat.le_of_ble_eq_true rfl, Nat.le_of_ble_eq_true rfl⟩ (Nat.le_of_ble_eq_true rfl) (Nat.le_of_ble_eq_true rfl) hl.1 (Nat.le_of_ble_eq_true rfl) cdX3_5 cdX3_8 cdX3_9 (fun q1 u1 H locs hu1 hK hP hD hS => ?_)
  obtain ⟨a1, k1, g1⟩ := u1
  obtain ⟨ea, eg⟩ := hu1
  have ea : a1 0 = q1 := ea
  have eg : g1 = ct_eX4 := eg
  subst ea; subst eg
  have hP : va_P D ia_cl ((h0, .inr (3, [.null, .int 0, .int 0, .int 0])) :: (ia_w a1 k1 ct_eX4 0 ct_shX4)) H := hP
  have hD : va_D A ((h0, .inr (3, [.null, .int 0, .int 0, .int 0])) :: (ia_w a1 k1 ct_eX4 0 ct_shX4)) := hD
  refine ct_pf hB hK hP hD hS (T := TX3) (N := 4) rfl 0 (by decide) (List.mem_of_getElem? (i := 127) (by decide +kernel)) rfl rfl (ty := .object "OffsetBook$Tape") (by decide +kernel) rfl rfl (Nat.le_of_ble_eq_true rfl) cdX3_12 (fun H locs hP hD hS => ?_)
  have hP : va_P D ia_cl ((h0, .inr (3, [.ref (a1 0), .int 0, .int 0, .int 0])) :: (ia_w a1 k1 ct_eX4 0 ct_shX4)) H := hP
  have hD : va_D A ((h0, .inr (3, [.ref (a1 0), .int 0, .int 0, .int 0])) :: (ia_w a1 k1 ct_eX4 0 ct_shX4)) := hD
  refine lv_aload_n hx hb cdX3_15 rfl (lv_at hl 0 rfl) ?_
  refine lv_iconst (v := 0) hx hb cdX3_16 (by decide) ?_
  refine ct_pi hB hK hP hD hS (T := TX3) (N := 4) rfl 1 (by decide) (List.mem_of_getElem? (i := 128) (by decide +kernel)) rfl (by decide +kernel) (Nat.le_of_ble_eq_true rfl) cdX3_17 (fun H locs hP hD hS => ?_)
  have hP : va_P D ia_cl ((h0, .inr (3, [.ref (a1 0), .int 0, .int 0, .int 0])) :: (ia_w a1 k1 ct_eX4 0 ct_shX4)) H := hP
  have hD : va_D A ((h0, .inr (3, [.ref (a1 0), .int 0, .int 0, .int 0])) :: (ia_w a1 k1 ct_eX4 0 ct_shX4)) := hD
  refine lv_aload_n hx hb cdX3_20 rfl (lv_at hl 0 rfl) ?_
  refine lv_iconst (v := 0) hx hb cdX3_21 (by decide) ?_
  refine ct_pi hB hK hP hD hS (T := TX3) (N := 4) rfl 2 (by decide) (List.mem_of_getElem? (i := 129) (by decide +kernel)) rfl (by decide +kernel) (Nat.le_of_ble_eq_true rfl) cdX3_22 (fun H locs hP hD hS => ?_)
  have hP : va_P D ia_cl ((h0, .inr (3, [.ref (a1 0), .int 0, .int 0, .int 0])) :: (ia_w a1 k1 ct_eX4 0 ct_shX4)) H := hP
  have hD : va_D A ((h0, .inr (3, [.ref (a1 0), .int 0, .int 0, .int 0])) :: (ia_w a1 k1 ct_eX4 0 ct_shX4)) := hD
  refine lv_aload_n hx hb cdX3_25 rfl (lv_at hl 0 rfl) ?_
  refine lv_iconst (v := 0) hx hb cdX3_26 (by decide) ?_
  refine ct_pi hB hK hP hD hS (T := TX3) (N := 4) rfl 3 (by decide) (List.mem_of_getElem? (i := 130) (by decide +kernel)) rfl (by decide +kernel) (Nat.le_of_ble_eq_true rfl) cdX3_27 (fun H locs hP hD hS => ?_)
  have hP : va_P D ia_cl ((h0, .inr (3, [.ref (a1 0), .int 0, .int 0, .int 0])) :: (ia_w a1 k1 ct_eX4 0 ct_shX4)) H := hP
  have hD : va_D A ((h0, .inr (3, [.ref (a1 0), .int 0, .int 0, .int 0])) :: (ia_w a1 k1 ct_eX4 0 ct_shX4)) := hD
  have hK9 : va_K D ia_cl (ct_tys (ct_cut 1 (fun _ => 0) k1) 0 ct_shX3) s := hK
  have hP9 : va_P D ia_cl (ia_w (ct_cut 1 (fun _ => h0) a1) (ct_cut 1 (fun _ => 0) k1) ct_eX3 0 ct_shX3) H := hP
  have hD9 : va_D A (ia_w (ct_cut 1 (fun _ => h0) a1) (ct_cut 1 (fun _ => 0) k1) ct_eX3 0 ct_shX3) := hD
  exact W.vret hx hb hr (fun t ht hW => ⟨⟨((ct_cut 1 (fun _ => h0) a1), (ct_cut 1 (fun _ => 0) k1), ct_eX3), rfl, ⟨rfl, rfl⟩, by rw [ht]; exact hP9, va_K.moved hW.alike hK9, hD9⟩, hS.F ht⟩) hS.2.2 cdX3_30 hlocks
