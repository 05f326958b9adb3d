set_option maxHeartbeats 4000000 in
set_option maxRecDepth 100000 in
theorem c_X0_init {V : iV} : CK V yX0_init cX0_init 1 1 12 2 20 (.inr (0, [.int 0, .null, .null])) (fun h u => u 0 2 = h) (fun u => wX0 V (u 0)) := by
  refine CK_of (by decide) rfl (by decide) (lv := fun h0 => [(0, .ref h0)]) (fun h0 => rfl) (fun h0 Γ hO hI hn hQ => ?_)
  have hO : OkI V (va_A [(h0, .inr (0, [.int 0, .null, .null]))] (gH Γ)) RX0 cX0_init 1 12 2 20 Γ := hO
  generalize hAe : va_A [(h0, .inr (0, [.int 0, .null, .null]))] (gH Γ) = A at hO ⊢
  refine ir_aload_n hO 0 0 rfl dX0_init_0 ?_
  refine ir_objInit hO 1 wO_X0 wO_i wO_c (Nat.le_of_ble_eq_true rfl) (Nat.le_of_ble_eq_true rfl) dX0_init_1 ?_
  refine ir_aload_n hO 4 0 rfl dX0_init_4 ?_
  refine ir_bipush hO 5 (v := 10) (by decide) dX0_init_5 ?_
  refine ir_newi hO 7 (t := 0) (N := 10) (ty := .int) (aty := .int) (n := 10) (kc1 := 1) (ks1 := 10) rfl wA_int rfl (fun _ _ h => h) (fun _ => rfl) (by decide) (by decide) (Nat.le_of_ble_eq_true rfl) rfl rfl (Nat.le_of_ble_eq_true rfl) (Nat.le_of_ble_eq_true rfl) dX0_init_7 (fun q7_1 => ?_)
  refine ir_putF hO hI 9 (C := RX0) (Tb := TX0) (N := 3) (ci := 0) (q0 := 0) (k := 1) (fs := [.int 0, .null, .null]) (v := .ref q7_1) (fty := .array .int) (S' := [(h0, .inr (0, [.int 0, .ref q7_1, .null])), (q7_1, .inl (V.2.1 0, 10, .inl (fun _ => 0)))]) rfl rfl rfl iX0 tyX0 tyX0_ok nmX0 (by decide) wF_X0_9 rfl rfl rfl (by decide +kernel) rfl rfl (Nat.le_of_ble_eq_true rfl) dX0_init_9 ?_
  refine ir_aload_n hO 12 0 rfl dX0_init_12 ?_
  refine ir_bipush hO 13 (v := 10) (by decide) dX0_init_13 ?_
  refine ir_newi hO 15 (t := 0) (N := 10) (ty := .int) (aty := .int) (n := 10) (kc1 := 2) (ks1 := 20) rfl wA_int rfl (fun _ _ h => h) (fun _ => rfl) (by decide) (by decide) (Nat.le_of_ble_eq_true rfl) rfl rfl (Nat.le_of_ble_eq_true rfl) (Nat.le_of_ble_eq_true rfl) dX0_init_15 (fun q15_1 => ?_)
  refine ir_putF hO hI 17 (C := RX0) (Tb := TX0) (N := 3) (ci := 0) (q0 := 0) (k := 2) (fs := [.int 0, .ref q7_1, .null]) (v := .ref q15_1) (fty := .array .int) (S' := [(h0, .inr (0, [.int 0, .ref q7_1, .ref q15_1])), (q7_1, .inl (V.2.1 0, 10, .inl (fun _ => 0))), (q15_1, .inl (V.2.1 0, 10, .inl (fun _ => 0)))]) rfl rfl rfl iX0 tyX0 tyX0_ok nmX0 (by decide) wF_X0_15 rfl rfl rfl (by decide +kernel) rfl rfl (Nat.le_of_ble_eq_true rfl) dX0_init_17 ?_
  subst hAe
  exact ir_vret hO 20 hQ (fun _ κ => if κ = 2 then h0 else if κ = 13 then q7_1 else q15_1) rfl (List.Perm.refl _) dX0_init_20
set_option maxHeartbeats 4000000 in
set_option maxRecDepth 100000 in
theorem c_X3_init {V : iV} : CK V yX3_init cX3_init 1 1 12 3 80 (.inr (3, [.int 0, .null, .null, .null])) (fun h u => u 0 3 = h) (fun u => wX3 V (u 0)) := by
  refine CK_of (by decide) rfl (by decide) (lv := fun h0 => [(0, .ref h0)]) (fun h0 => rfl) (fun h0 Γ hO hI hn hQ => ?_)
  have hO : OkI V (va_A [(h0, .inr (3, [.int 0, .null, .null, .null]))] (gH Γ)) RX3 cX3_init 1 12 3 80 Γ := hO
  generalize hAe : va_A [(h0, .inr (3, [.int 0, .null, .null, .null]))] (gH Γ) = A at hO ⊢
  refine ir_aload_n hO 0 0 rfl dX3_init_0 ?_
  refine ir_objInit hO 1 wO_X3 wO_i wO_c (Nat.le_of_ble_eq_true rfl) (Nat.le_of_ble_eq_true rfl) dX3_init_1 ?_
  refine ir_aload_n hO 4 0 rfl dX3_init_4 ?_
  refine ir_bipush hO 5 (v := 8) (by decide) dX3_init_5 ?_
  refine ir_newi hO 7 (t := 0) (N := 8) (ty := .int) (aty := .int) (n := 8) (kc1 := 1) (ks1 := 8) rfl wA_int rfl (fun _ _ h => h) (fun _ => rfl) (by decide) (by decide) (Nat.le_of_ble_eq_true rfl) rfl rfl (Nat.le_of_ble_eq_true rfl) (Nat.le_of_ble_eq_true rfl) dX3_init_7 (fun q7_1 => ?_)
  refine ir_putF hO hI 9 (C := RX3) (Tb := TX3) (N := 4) (ci := 3) (q0 := 0) (k := 1) (fs := [.int 0, .null, .null, .null]) (v := .ref q7_1) (fty := .array .int) (S' := [(h0, .inr (3, [.int 0, .ref q7_1, .null, .null])), (q7_1, .inl (V.2.1 0, 8, .inl (fun _ => 0)))]) rfl rfl rfl iX3 tyX3 tyX3_ok nmX3 (by decide) wF_X3_9 rfl rfl rfl (by decide +kernel) rfl rfl (Nat.le_of_ble_eq_true rfl) dX3_init_9 ?_
  refine ir_aload_n hO 12 0 rfl dX3_init_12 ?_
  refine ir_bipush hO 13 (v := 8) (by decide) dX3_init_13 ?_
  refine ir_newi hO 15 (t := 0) (N := 8) (ty := .int) (aty := .int) (n := 8) (kc1 := 2) (ks1 := 16) rfl wA_int rfl (fun _ _ h => h) (fun _ => rfl) (by decide) (by decide) (Nat.le_of_ble_eq_true rfl) rfl rfl (Nat.le_of_ble_eq_true rfl) (Nat.le_of_ble_eq_true rfl) dX3_init_15 (fun q15_1 => ?_)
  refine ir_putF hO hI 17 (C := RX3) (Tb := TX3) (N := 4) (ci := 3) (q0 := 0) (k := 2) (fs := [.int 0, .ref q7_1, .null, .null]) (v := .ref q15_1) (fty := .array .int) (S' := [(h0, .inr (3, [.int 0, .ref q7_1, .ref q15_1, .null])), (q7_1, .inl (V.2.1 0, 8, .inl (fun _ => 0))), (q15_1, .inl (V.2.1 0, 8, .inl (fun _ => 0)))]) rfl rfl rfl iX3 tyX3 tyX3_ok nmX3 (by decide) wF_X3_15 rfl rfl rfl (by decide +kernel) rfl rfl (Nat.le_of_ble_eq_true rfl) dX3_init_17 ?_
  refine ir_aload_n hO 20 0 rfl dX3_init_20 ?_
  refine ir_bipush hO 21 (v := 64) (by decide) dX3_init_21 ?_
  refine ir_newi hO 23 (t := 0) (N := 64) (ty := .int) (aty := .int) (n := 64) (kc1 := 3) (ks1 := 80) rfl wA_int rfl (fun _ _ h => h) (fun _ => rfl) (by decide) (by decide) (Nat.le_of_ble_eq_true rfl) rfl rfl (Nat.le_of_ble_eq_true rfl) (Nat.le_of_ble_eq_true rfl) dX3_init_23 (fun q23_1 => ?_)
  refine ir_putF hO hI 25 (C := RX3) (Tb := TX3) (N := 4) (ci := 3) (q0 := 0) (k := 3) (fs := [.int 0, .ref q7_1, .ref q15_1, .null]) (v := .ref q23_1) (fty := .array .int) (S' := [(h0, .inr (3, [.int 0, .ref q7_1, .ref q15_1, .ref q23_1])), (q7_1, .inl (V.2.1 0, 8, .inl (fun _ => 0))), (q15_1, .inl (V.2.1 0, 8, .inl (fun _ => 0))), (q23_1, .inl (V.2.1 0, 64, .inl (fun _ => 0)))]) rfl rfl rfl iX3 tyX3 tyX3_ok nmX3 (by decide) wF_X3_18 rfl rfl rfl (by decide +kernel) rfl rfl (Nat.le_of_ble_eq_true rfl) dX3_init_25 ?_
  subst hAe
  exact ir_vret hO 28 hQ (fun _ κ => if κ = 3 then h0 else if κ = 15 then q7_1 else if κ = 16 then q15_1 else q23_1) rfl (List.Perm.refl _) dX3_init_28
set_option maxHeartbeats 4000000 in
set_option maxRecDepth 100000 in
theorem c_X5_init {V : iV} : CK V yX5_init cX5_init 1 1 12 5 369 (.inr (5, [.int 0, .int 0, .null, .null, .null, .null, .null])) (fun h u => u 0 1 = h) (fun u => wX5 V (u 0)) := by
  refine CK_of (by decide) rfl (by decide) (lv := fun h0 => [(0, .ref h0)]) (fun h0 => rfl) (fun h0 Γ hO hI hn hQ => ?_)
  have hO : OkI V (va_A [(h0, .inr (5, [.int 0, .int 0, .null, .null, .null, .null, .null]))] (gH Γ)) RX5 cX5_init 1 12 5 369 Γ := hO
  generalize hAe : va_A [(h0, .inr (5, [.int 0, .int 0, .null, .null, .null, .null, .null]))] (gH Γ) = A at hO ⊢
  refine ir_aload_n hO 0 0 rfl dX5_init_0 ?_
  refine ir_objInit hO 1 wO_X5 wO_i wO_c (Nat.le_of_ble_eq_true rfl) (Nat.le_of_ble_eq_true rfl) dX5_init_1 ?_
  refine ir_aload_n hO 4 0 rfl dX5_init_4 ?_
  refine ir_bipush hO 5 (v := 30) (by decide) dX5_init_5 ?_
  refine ir_newi hO 7 (t := 0) (N := 30) (ty := .int) (aty := .int) (n := 30) (kc1 := 1) (ks1 := 30) rfl wA_int rfl (fun _ _ h => h) (fun _ => rfl) (by decide) (by decide) (Nat.le_of_ble_eq_true rfl) rfl rfl (Nat.le_of_ble_eq_true rfl) (Nat.le_of_ble_eq_true rfl) dX5_init_7 (fun q7_1 => ?_)
  refine ir_putF hO hI 9 (C := RX5) (Tb := TX5) (N := 7) (ci := 5) (q0 := 0) (k := 2) (fs := [.int 0, .int 0, .null, .null, .null, .null, .null]) (v := .ref q7_1) (fty := .array .int) (S' := [(h0, .inr (5, [.int 0, .int 0, .ref q7_1, .null, .null, .null, .null])), (q7_1, .inl (V.2.1 0, 30, .inl (fun _ => 0)))]) rfl rfl rfl iX5 tyX5 tyX5_ok nmX5 (by decide) wF_X5_9 rfl rfl rfl (by decide +kernel) rfl rfl (Nat.le_of_ble_eq_true rfl) dX5_init_9 ?_
  refine ir_aload_n hO 12 0 rfl dX5_init_12 ?_
  refine ir_bipush hO 13 (v := 30) (by decide) dX5_init_13 ?_
  refine ir_newi hO 15 (t := 0) (N := 30) (ty := .int) (aty := .int) (n := 30) (kc1 := 2) (ks1 := 60) rfl wA_int rfl (fun _ _ h => h) (fun _ => rfl) (by decide) (by decide) (Nat.le_of_ble_eq_true rfl) rfl rfl (Nat.le_of_ble_eq_true rfl) (Nat.le_of_ble_eq_true rfl) dX5_init_15 (fun q15_1 => ?_)
  refine ir_putF hO hI 17 (C := RX5) (Tb := TX5) (N := 7) (ci := 5) (q0 := 0) (k := 3) (fs := [.int 0, .int 0, .ref q7_1, .null, .null, .null, .null]) (v := .ref q15_1) (fty := .array .int) (S' := [(h0, .inr (5, [.int 0, .int 0, .ref q7_1, .ref q15_1, .null, .null, .null])), (q7_1, .inl (V.2.1 0, 30, .inl (fun _ => 0))), (q15_1, .inl (V.2.1 0, 30, .inl (fun _ => 0)))]) rfl rfl rfl iX5 tyX5 tyX5_ok nmX5 (by decide) wF_X5_15 rfl rfl rfl (by decide +kernel) rfl rfl (Nat.le_of_ble_eq_true rfl) dX5_init_17 ?_
  refine ir_aload_n hO 20 0 rfl dX5_init_20 ?_
  refine ir_bipush hO 21 (v := 30) (by decide) dX5_init_21 ?_
  refine ir_newi hO 23 (t := 0) (N := 30) (ty := .int) (aty := .int) (n := 30) (kc1 := 3) (ks1 := 90) rfl wA_int rfl (fun _ _ h => h) (fun _ => rfl) (by decide) (by decide) (Nat.le_of_ble_eq_true rfl) rfl rfl (Nat.le_of_ble_eq_true rfl) (Nat.le_of_ble_eq_true rfl) dX5_init_23 (fun q23_1 => ?_)
  refine ir_putF hO hI 25 (C := RX5) (Tb := TX5) (N := 7) (ci := 5) (q0 := 0) (k := 4) (fs := [.int 0, .int 0, .ref q7_1, .ref q15_1, .null, .null, .null]) (v := .ref q23_1) (fty := .array .int) (S' := [(h0, .inr (5, [.int 0, .int 0, .ref q7_1, .ref q15_1, .ref q23_1, .null, .null])), (q7_1, .inl (V.2.1 0, 30, .inl (fun _ => 0))), (q15_1, .inl (V.2.1 0, 30, .inl (fun _ => 0))), (q23_1, .inl (V.2.1 0, 30, .inl (fun _ => 0)))]) rfl rfl rfl iX5 tyX5 tyX5_ok nmX5 (by decide) wF_X5_18 rfl rfl rfl (by decide +kernel) rfl rfl (Nat.le_of_ble_eq_true rfl) dX5_init_25 ?_
  refine ir_aload_n hO 28 0 rfl dX5_init_28 ?_
  refine ir_bipush hO 29 (v := 9) (by decide) dX5_init_29 ?_
  refine ir_newi hO 31 (t := 0) (N := 9) (ty := .int) (aty := .int) (n := 9) (kc1 := 4) (ks1 := 99) rfl wA_int rfl (fun _ _ h => h) (fun _ => rfl) (by decide) (by decide) (Nat.le_of_ble_eq_true rfl) rfl rfl (Nat.le_of_ble_eq_true rfl) (Nat.le_of_ble_eq_true rfl) dX5_init_31 (fun q31_1 => ?_)
  refine ir_putF hO hI 33 (C := RX5) (Tb := TX5) (N := 7) (ci := 5) (q0 := 0) (k := 5) (fs := [.int 0, .int 0, .ref q7_1, .ref q15_1, .ref q23_1, .null, .null]) (v := .ref q31_1) (fty := .array .int) (S' := [(h0, .inr (5, [.int 0, .int 0, .ref q7_1, .ref q15_1, .ref q23_1, .ref q31_1, .null])), (q7_1, .inl (V.2.1 0, 30, .inl (fun _ => 0))), (q15_1, .inl (V.2.1 0, 30, .inl (fun _ => 0))), (q23_1, .inl (V.2.1 0, 30, .inl (fun _ => 0))), (q31_1, .inl (V.2.1 0, 9, .inl (fun _ => 0)))]) rfl rfl rfl iX5 tyX5 tyX5_ok nmX5 (by decide) wF_X5_21 rfl rfl rfl (by decide +kernel) rfl rfl (Nat.le_of_ble_eq_true rfl) dX5_init_33 ?_
  refine ir_aload_n hO 36 0 rfl dX5_init_36 ?_
  refine ir_sipush hO 37 (v := 270) (by decide) dX5_init_37 ?_
  refine ir_newi hO 40 (t := 0) (N := 270) (ty := .int) (aty := .int) (n := 270) (kc1 := 5) (ks1 := 369) rfl wA_int rfl (fun _ _ h => h) (fun _ => rfl) (by decide) (by decide) (Nat.le_of_ble_eq_true rfl) rfl rfl (Nat.le_of_ble_eq_true rfl) (Nat.le_of_ble_eq_true rfl) dX5_init_40 (fun q40_1 => ?_)
  refine ir_putF hO hI 42 (C := RX5) (Tb := TX5) (N := 7) (ci := 5) (q0 := 0) (k := 6) (fs := [.int 0, .int 0, .ref q7_1, .ref q15_1, .ref q23_1, .ref q31_1, .null]) (v := .ref q40_1) (fty := .array .int) (S' := [(h0, .inr (5, [.int 0, .int 0, .ref q7_1, .ref q15_1, .ref q23_1, .ref q31_1, .ref q40_1])), (q7_1, .inl (V.2.1 0, 30, .inl (fun _ => 0))), (q15_1, .inl (V.2.1 0, 30, .inl (fun _ => 0))), (q23_1, .inl (V.2.1 0, 30, .inl (fun _ => 0))), (q31_1, .inl (V.2.1 0, 9, .inl (fun _ => 0))), (q40_1, .inl (V.2.1 0, 270, .inl (fun _ => 0)))]) rfl rfl rfl iX5 tyX5 tyX5_ok nmX5 (by decide) wF_X5_24 rfl rfl rfl (by decide +kernel) rfl rfl (Nat.le_of_ble_eq_true rfl) dX5_init_42 ?_
  subst hAe
  exact ir_vret hO 45 hQ (fun _ κ => if κ = 1 then h0 else if κ = 8 then q7_1 else if κ = 9 then q15_1 else if κ = 10 then q23_1 else if κ = 11 then q31_1 else q40_1) rfl (List.Perm.refl _) dX5_init_45
set_option maxHeartbeats 4000000 in
set_option maxRecDepth 100000 in
theorem c_X6_init {V : iV} : CK V yX6_init cX6_init 1 2 32 17 513 (.inr (6, [.int 0, .int 0, .int 0, .int 0, .int 0, .int 0, .null, .int 0, .null, .null, .null, .null, .null, .null])) (fun h u => u 0 0 = h) (fun u => wX6 V (u 0)) := by
  refine CK_of (by decide) rfl (by decide) (lv := fun h0 => [(0, .ref h0)]) (fun h0 => rfl) (fun h0 Γ hO hI hn hQ => ?_)
  have hO : OkI V (va_A [(h0, .inr (6, [.int 0, .int 0, .int 0, .int 0, .int 0, .int 0, .null, .int 0, .null, .null, .null, .null, .null, .null]))] (gH Γ)) RX6 cX6_init 2 32 17 513 Γ := hO
  generalize hAe : va_A [(h0, .inr (6, [.int 0, .int 0, .int 0, .int 0, .int 0, .int 0, .null, .int 0, .null, .null, .null, .null, .null, .null]))] (gH Γ) = A at hO ⊢
  refine ir_aload_n hO 0 0 rfl dX6_init_0 ?_
  refine ir_objInit hO 1 wO_X6 wO_i wO_c (Nat.le_of_ble_eq_true rfl) (Nat.le_of_ble_eq_true rfl) dX6_init_1 ?_
  refine ir_aload_n hO 4 0 rfl dX6_init_4 ?_
  refine ir_getsF hO 5 (host := "PickupYard") (by decide +kernel) dX6_init_5 ?_
  refine ir_clone hO 8 (kc1 := 1) (ks1 := 6) wK_1 (Nat.le_of_ble_eq_true rfl) (Nat.le_of_ble_eq_true rfl) (Nat.le_of_ble_eq_true rfl) rfl rfl (Nat.le_of_ble_eq_true rfl) (Nat.le_of_ble_eq_true rfl) dX6_init_8 (fun q8_1 => ?_)
  refine ir_castI hO 11 (q0 := 1) (x := (6, .inl fv)) wL_X6_14 rfl dX6_init_11 ?_
  refine ir_putF hO hI 14 (C := RX6) (Tb := TX6) (N := 14) (ci := 6) (q0 := 0) (k := 6) (fs := [.int 0, .int 0, .int 0, .int 0, .int 0, .int 0, .null, .int 0, .null, .null, .null, .null, .null, .null]) (v := .ref q8_1) (fty := .array .int) (S' := [(h0, .inr (6, [.int 0, .int 0, .int 0, .int 0, .int 0, .int 0, .ref q8_1, .int 0, .null, .null, .null, .null, .null, .null])), (q8_1, .inl (V.2.1 0, 6, .inl fv))]) rfl rfl rfl iX6 tyX6 tyX6_ok nmX6 (by decide) wF_X6_18 rfl rfl rfl (by decide +kernel) rfl rfl (Nat.le_of_ble_eq_true rfl) dX6_init_14 ?_
  refine ir_aload_n hO 17 0 rfl dX6_init_17 ?_
  refine ir_bipush hO 18 (v := 8) (by decide) dX6_init_18 ?_
  refine ir_newi hO 20 (t := 0) (N := 8) (ty := .int) (aty := .int) (n := 8) (kc1 := 2) (ks1 := 14) rfl wA_int rfl (fun _ _ h => h) (fun _ => rfl) (by decide) (by decide) (Nat.le_of_ble_eq_true rfl) rfl rfl (Nat.le_of_ble_eq_true rfl) (Nat.le_of_ble_eq_true rfl) dX6_init_20 (fun q20_1 => ?_)
  refine ir_putF hO hI 22 (C := RX6) (Tb := TX6) (N := 14) (ci := 6) (q0 := 0) (k := 8) (fs := [.int 0, .int 0, .int 0, .int 0, .int 0, .int 0, .ref q8_1, .int 0, .null, .null, .null, .null, .null, .null]) (v := .ref q20_1) (fty := .array .int) (S' := [(h0, .inr (6, [.int 0, .int 0, .int 0, .int 0, .int 0, .int 0, .ref q8_1, .int 0, .ref q20_1, .null, .null, .null, .null, .null])), (q8_1, .inl (V.2.1 0, 6, .inl fv)), (q20_1, .inl (V.2.1 0, 8, .inl (fun _ => 0)))]) rfl rfl rfl iX6 tyX6 tyX6_ok nmX6 (by decide) wF_X6_23 rfl rfl rfl (by decide +kernel) rfl rfl (Nat.le_of_ble_eq_true rfl) dX6_init_22 ?_
  refine ir_aload_n hO 25 0 rfl dX6_init_25 ?_
  refine ir_bipush hO 26 (v := 8) (by decide) dX6_init_26 ?_
  refine ir_newi hO 28 (t := 0) (N := 8) (ty := .int) (aty := .int) (n := 8) (kc1 := 3) (ks1 := 22) rfl wA_int rfl (fun _ _ h => h) (fun _ => rfl) (by decide) (by decide) (Nat.le_of_ble_eq_true rfl) rfl rfl (Nat.le_of_ble_eq_true rfl) (Nat.le_of_ble_eq_true rfl) dX6_init_28 (fun q28_1 => ?_)
  refine ir_putF hO hI 30 (C := RX6) (Tb := TX6) (N := 14) (ci := 6) (q0 := 0) (k := 9) (fs := [.int 0, .int 0, .int 0, .int 0, .int 0, .int 0, .ref q8_1, .int 0, .ref q20_1, .null, .null, .null, .null, .null]) (v := .ref q28_1) (fty := .array .int) (S' := [(h0, .inr (6, [.int 0, .int 0, .int 0, .int 0, .int 0, .int 0, .ref q8_1, .int 0, .ref q20_1, .ref q28_1, .null, .null, .null, .null])), (q8_1, .inl (V.2.1 0, 6, .inl fv)), (q20_1, .inl (V.2.1 0, 8, .inl (fun _ => 0))), (q28_1, .inl (V.2.1 0, 8, .inl (fun _ => 0)))]) rfl rfl rfl iX6 tyX6 tyX6_ok nmX6 (by decide) wF_X6_26 rfl rfl rfl (by decide +kernel) rfl rfl (Nat.le_of_ble_eq_true rfl) dX6_init_30 ?_
  refine ir_aload_n hO 33 0 rfl dX6_init_33 ?_
  refine ir_bipush hO 34 (v := 8) (by decide) dX6_init_34 ?_
  refine ir_newi hO 36 (t := 0) (N := 8) (ty := .int) (aty := .int) (n := 8) (kc1 := 4) (ks1 := 30) rfl wA_int rfl (fun _ _ h => h) (fun _ => rfl) (by decide) (by decide) (Nat.le_of_ble_eq_true rfl) rfl rfl (Nat.le_of_ble_eq_true rfl) (Nat.le_of_ble_eq_true rfl) dX6_init_36 (fun q36_1 => ?_)
  refine ir_putF hO hI 38 (C := RX6) (Tb := TX6) (N := 14) (ci := 6) (q0 := 0) (k := 10) (fs := [.int 0, .int 0, .int 0, .int 0, .int 0, .int 0, .ref q8_1, .int 0, .ref q20_1, .ref q28_1, .null, .null, .null, .null]) (v := .ref q36_1) (fty := .array .int) (S' := [(h0, .inr (6, [.int 0, .int 0, .int 0, .int 0, .int 0, .int 0, .ref q8_1, .int 0, .ref q20_1, .ref q28_1, .ref q36_1, .null, .null, .null])), (q8_1, .inl (V.2.1 0, 6, .inl fv)), (q20_1, .inl (V.2.1 0, 8, .inl (fun _ => 0))), (q28_1, .inl (V.2.1 0, 8, .inl (fun _ => 0))), (q36_1, .inl (V.2.1 0, 8, .inl (fun _ => 0)))]) rfl rfl rfl iX6 tyX6 tyX6_ok nmX6 (by decide) wF_X6_29 rfl rfl rfl (by decide +kernel) rfl rfl (Nat.le_of_ble_eq_true rfl) dX6_init_38 ?_
  refine ir_aload_n hO 41 0 rfl dX6_init_41 ?_
  refine ir_new hO 42 (C := RX5) (Tb := TX5) (N := 7) (ci := 5) (fs := [.int 0, .int 0, .null, .null, .null, .null, .null]) (kc1 := 5) (ks1 := 37) rfl iX5 tyX5 tyX5_ok wL_X6_32 wT_X5 wN_X5 (fun j hj => by rcases (show j = 0 ∨ j = 1 ∨ j = 2 ∨ j = 3 ∨ j = 4 ∨ j = 5 ∨ j = 6 by omega) with rfl | rfl | rfl | rfl | rfl | rfl | rfl <;> rfl) rfl rfl (Nat.le_of_ble_eq_true rfl) (Nat.le_of_ble_eq_true rfl) dX6_init_42 (fun q42_1 => ?_)
  refine ir_dup hO 45 rfl dX6_init_45 ?_
  refine ir_call hO 46 (h := q42_1) (idx := 34) (kc1 := 10) (ks1 := 406) (e := .inr (5, [.int 0, .int 0, .null, .null, .null, .null, .null])) (S1 := [(h0, .inr (6, [.int 0, .int 0, .int 0, .int 0, .int 0, .int 0, .ref q8_1, .int 0, .ref q20_1, .ref q28_1, .ref q36_1, .null, .null, .null])), (q8_1, .inl (V.2.1 0, 6, .inl fv)), (q20_1, .inl (V.2.1 0, 8, .inl (fun _ => 0))), (q28_1, .inl (V.2.1 0, 8, .inl (fun _ => 0))), (q36_1, .inl (V.2.1 0, 8, .inl (fun _ => 0)))]) (S2 := []) (host := "PickupYard") (c_X5_init (V := V)) rfl (Or.inr (by decide +kernel)) wI_X5_init wN_X5 wC_X5_init rfl ⟨by decide, by decide, by decide +kernel⟩ (Nat.le_of_ble_eq_true rfl) (Nat.le_of_ble_eq_true rfl) (Nat.le_of_ble_eq_true rfl) rfl rfl (Nat.le_of_ble_eq_true rfl) (Nat.le_of_ble_eq_true rfl) dX6_init_46 (fun u46_1 hu46_1 => ?_)
  have hu46_1 : u46_1 0 1 = q42_1 := hu46_1
  subst hu46_1
  show ij V A Γ [(h0, .inr (6, [.int 0, .int 0, .int 0, .int 0, .int 0, .int 0, .ref q8_1, .int 0, .ref q20_1, .ref q28_1, .ref q36_1, .null, .null, .null])), (q8_1, .inl (V.2.1 0, 6, .inl fv)), (q20_1, .inl (V.2.1 0, 8, .inl (fun _ => 0))), (q28_1, .inl (V.2.1 0, 8, .inl (fun _ => 0))), (q36_1, .inl (V.2.1 0, 8, .inl (fun _ => 0)))] (wX5 V (u46_1 0) ++ []) 10 406 49 [(0, .ref h0)] [.ref (u46_1 0 1), .ref h0]
  refine ir_putF hO hI 49 (C := RX6) (Tb := TX6) (N := 14) (ci := 6) (q0 := 0) (k := 11) (fs := [.int 0, .int 0, .int 0, .int 0, .int 0, .int 0, .ref q8_1, .int 0, .ref q20_1, .ref q28_1, .ref q36_1, .null, .null, .null]) (v := .ref (u46_1 0 1)) (fty := .object "PickupYard$Wagons") (S' := [(h0, .inr (6, [.int 0, .int 0, .int 0, .int 0, .int 0, .int 0, .ref q8_1, .int 0, .ref q20_1, .ref q28_1, .ref q36_1, .ref (u46_1 0 1), .null, .null])), (q8_1, .inl (V.2.1 0, 6, .inl fv)), (q20_1, .inl (V.2.1 0, 8, .inl (fun _ => 0))), (q28_1, .inl (V.2.1 0, 8, .inl (fun _ => 0))), (q36_1, .inl (V.2.1 0, 8, .inl (fun _ => 0)))]) rfl rfl rfl iX6 tyX6 tyX6_ok nmX6 (by decide) wF_X6_35 rfl rfl rfl (by decide +kernel) rfl rfl (Nat.le_of_ble_eq_true rfl) dX6_init_49 ?_
  refine ir_aload_n hO 52 0 rfl dX6_init_52 ?_
  refine ir_new hO 53 (C := RX0) (Tb := TX0) (N := 3) (ci := 0) (fs := [.int 0, .null, .null]) (kc1 := 11) (ks1 := 409) rfl iX0 tyX0 tyX0_ok wL_X6_39 wT_X0 wN_X0 (fun j hj => by rcases (show j = 0 ∨ j = 1 ∨ j = 2 by omega) with rfl | rfl | rfl <;> rfl) rfl rfl (Nat.le_of_ble_eq_true rfl) (Nat.le_of_ble_eq_true rfl) dX6_init_53 (fun q53_1 => ?_)
  refine ir_dup hO 56 rfl dX6_init_56 ?_
  refine ir_call hO 57 (h := q53_1) (idx := 41) (kc1 := 13) (ks1 := 429) (e := .inr (0, [.int 0, .null, .null])) (S1 := [(h0, .inr (6, [.int 0, .int 0, .int 0, .int 0, .int 0, .int 0, .ref q8_1, .int 0, .ref q20_1, .ref q28_1, .ref q36_1, .ref (u46_1 0 1), .null, .null])), (q8_1, .inl (V.2.1 0, 6, .inl fv)), (q20_1, .inl (V.2.1 0, 8, .inl (fun _ => 0))), (q28_1, .inl (V.2.1 0, 8, .inl (fun _ => 0))), (q36_1, .inl (V.2.1 0, 8, .inl (fun _ => 0)))]) (S2 := []) (host := "PickupYard") (c_X0_init (V := V)) rfl (Or.inr (by decide +kernel)) wI_X0_init wN_X0 wC_X0_init rfl ⟨by decide, by decide, by decide +kernel⟩ (Nat.le_of_ble_eq_true rfl) (Nat.le_of_ble_eq_true rfl) (Nat.le_of_ble_eq_true rfl) rfl rfl (Nat.le_of_ble_eq_true rfl) (Nat.le_of_ble_eq_true rfl) dX6_init_57 (fun u57_1 hu57_1 => ?_)
  have hu57_1 : u57_1 0 2 = q53_1 := hu57_1
  subst hu57_1
  show ij V A Γ [(h0, .inr (6, [.int 0, .int 0, .int 0, .int 0, .int 0, .int 0, .ref q8_1, .int 0, .ref q20_1, .ref q28_1, .ref q36_1, .ref (u46_1 0 1), .null, .null])), (q8_1, .inl (V.2.1 0, 6, .inl fv)), (q20_1, .inl (V.2.1 0, 8, .inl (fun _ => 0))), (q28_1, .inl (V.2.1 0, 8, .inl (fun _ => 0))), (q36_1, .inl (V.2.1 0, 8, .inl (fun _ => 0)))] (wX0 V (u57_1 0) ++ (wX5 V (u46_1 0) ++ [])) 13 429 60 [(0, .ref h0)] [.ref (u57_1 0 2), .ref h0]
  refine ir_putF hO hI 60 (C := RX6) (Tb := TX6) (N := 14) (ci := 6) (q0 := 0) (k := 12) (fs := [.int 0, .int 0, .int 0, .int 0, .int 0, .int 0, .ref q8_1, .int 0, .ref q20_1, .ref q28_1, .ref q36_1, .ref (u46_1 0 1), .null, .null]) (v := .ref (u57_1 0 2)) (fty := .object "PickupYard$Blocks") (S' := [(h0, .inr (6, [.int 0, .int 0, .int 0, .int 0, .int 0, .int 0, .ref q8_1, .int 0, .ref q20_1, .ref q28_1, .ref q36_1, .ref (u46_1 0 1), .ref (u57_1 0 2), .null])), (q8_1, .inl (V.2.1 0, 6, .inl fv)), (q20_1, .inl (V.2.1 0, 8, .inl (fun _ => 0))), (q28_1, .inl (V.2.1 0, 8, .inl (fun _ => 0))), (q36_1, .inl (V.2.1 0, 8, .inl (fun _ => 0)))]) rfl rfl rfl iX6 tyX6 tyX6_ok nmX6 (by decide) wF_X6_42 rfl rfl rfl (by decide +kernel) rfl rfl (Nat.le_of_ble_eq_true rfl) dX6_init_60 ?_
  refine ir_aload_n hO 63 0 rfl dX6_init_63 ?_
  refine ir_new hO 64 (C := RX3) (Tb := TX3) (N := 4) (ci := 3) (fs := [.int 0, .null, .null, .null]) (kc1 := 14) (ks1 := 433) rfl iX3 tyX3 tyX3_ok wL_X6_46 wT_X3 wN_X3 (fun j hj => by rcases (show j = 0 ∨ j = 1 ∨ j = 2 ∨ j = 3 by omega) with rfl | rfl | rfl | rfl <;> rfl) rfl rfl (Nat.le_of_ble_eq_true rfl) (Nat.le_of_ble_eq_true rfl) dX6_init_64 (fun q64_1 => ?_)
  refine ir_dup hO 67 rfl dX6_init_67 ?_
  refine ir_call hO 68 (h := q64_1) (idx := 48) (kc1 := 17) (ks1 := 513) (e := .inr (3, [.int 0, .null, .null, .null])) (S1 := [(h0, .inr (6, [.int 0, .int 0, .int 0, .int 0, .int 0, .int 0, .ref q8_1, .int 0, .ref q20_1, .ref q28_1, .ref q36_1, .ref (u46_1 0 1), .ref (u57_1 0 2), .null])), (q8_1, .inl (V.2.1 0, 6, .inl fv)), (q20_1, .inl (V.2.1 0, 8, .inl (fun _ => 0))), (q28_1, .inl (V.2.1 0, 8, .inl (fun _ => 0))), (q36_1, .inl (V.2.1 0, 8, .inl (fun _ => 0)))]) (S2 := []) (host := "PickupYard") (c_X3_init (V := V)) rfl (Or.inr (by decide +kernel)) wI_X3_init wN_X3 wC_X3_init rfl ⟨by decide, by decide, by decide +kernel⟩ (Nat.le_of_ble_eq_true rfl) (Nat.le_of_ble_eq_true rfl) (Nat.le_of_ble_eq_true rfl) rfl rfl (Nat.le_of_ble_eq_true rfl) (Nat.le_of_ble_eq_true rfl) dX6_init_68 (fun u68_1 hu68_1 => ?_)
  have hu68_1 : u68_1 0 3 = q64_1 := hu68_1
  subst hu68_1
  show ij V A Γ [(h0, .inr (6, [.int 0, .int 0, .int 0, .int 0, .int 0, .int 0, .ref q8_1, .int 0, .ref q20_1, .ref q28_1, .ref q36_1, .ref (u46_1 0 1), .ref (u57_1 0 2), .null])), (q8_1, .inl (V.2.1 0, 6, .inl fv)), (q20_1, .inl (V.2.1 0, 8, .inl (fun _ => 0))), (q28_1, .inl (V.2.1 0, 8, .inl (fun _ => 0))), (q36_1, .inl (V.2.1 0, 8, .inl (fun _ => 0)))] (wX3 V (u68_1 0) ++ (wX0 V (u57_1 0) ++ (wX5 V (u46_1 0) ++ []))) 17 513 71 [(0, .ref h0)] [.ref (u68_1 0 3), .ref h0]
  refine ir_putF hO hI 71 (C := RX6) (Tb := TX6) (N := 14) (ci := 6) (q0 := 0) (k := 13) (fs := [.int 0, .int 0, .int 0, .int 0, .int 0, .int 0, .ref q8_1, .int 0, .ref q20_1, .ref q28_1, .ref q36_1, .ref (u46_1 0 1), .ref (u57_1 0 2), .null]) (v := .ref (u68_1 0 3)) (fty := .object "PickupYard$Trains") (S' := [(h0, .inr (6, [.int 0, .int 0, .int 0, .int 0, .int 0, .int 0, .ref q8_1, .int 0, .ref q20_1, .ref q28_1, .ref q36_1, .ref (u46_1 0 1), .ref (u57_1 0 2), .ref (u68_1 0 3)])), (q8_1, .inl (V.2.1 0, 6, .inl fv)), (q20_1, .inl (V.2.1 0, 8, .inl (fun _ => 0))), (q28_1, .inl (V.2.1 0, 8, .inl (fun _ => 0))), (q36_1, .inl (V.2.1 0, 8, .inl (fun _ => 0)))]) rfl rfl rfl iX6 tyX6 tyX6_ok nmX6 (by decide) wF_X6_49 rfl rfl rfl (by decide +kernel) rfl rfl (Nat.le_of_ble_eq_true rfl) dX6_init_71 ?_
  subst hAe
  exact ir_vret hO 74 hQ (fun _ κ => if κ = 0 then h0 else if κ = 4 then q8_1 else if κ = 5 then q20_1 else if κ = 6 then q28_1 else if κ = 7 then q36_1 else if κ = 1 then u46_1 0 1 else if κ = 8 then u46_1 0 8 else if κ = 9 then u46_1 0 9 else if κ = 10 then u46_1 0 10 else if κ = 11 then u46_1 0 11 else if κ = 12 then u46_1 0 12 else if κ = 2 then u57_1 0 2 else if κ = 13 then u57_1 0 13 else if κ = 14 then u57_1 0 14 else if κ = 3 then u68_1 0 3 else if κ = 15 then u68_1 0 15 else if κ = 16 then u68_1 0 16 else u68_1 0 17) rfl (List.Perm.refl _) dX6_init_74
set_option maxHeartbeats 4000000 in
set_option maxRecDepth 100000 in
theorem c_X2_init {V : iV} : CK V yX2_init cX2_init 1 1 12 1 80 (.inr (2, [.int 0, .null])) (fun h u => u 0 21 = h) (fun u => wX2 V (u 0)) := by
  refine CK_of (by decide) rfl (by decide) (lv := fun h0 => [(0, .ref h0)]) (fun h0 => rfl) (fun h0 Γ hO hI hn hQ => ?_)
  have hO : OkI V (va_A [(h0, .inr (2, [.int 0, .null]))] (gH Γ)) RX2 cX2_init 1 12 1 80 Γ := hO
  generalize hAe : va_A [(h0, .inr (2, [.int 0, .null]))] (gH Γ) = A at hO ⊢
  refine ir_aload_n hO 0 0 rfl dX2_init_0 ?_
  refine ir_objInit hO 1 wO_X2 wO_i wO_c (Nat.le_of_ble_eq_true rfl) (Nat.le_of_ble_eq_true rfl) dX2_init_1 ?_
  refine ir_aload_n hO 4 0 rfl dX2_init_4 ?_
  refine ir_bipush hO 5 (v := 80) (by decide) dX2_init_5 ?_
  refine ir_newi hO 7 (t := 2) (N := 80) (ty := .char) (aty := .char) (n := 80) (kc1 := 1) (ks1 := 80) rfl wA_char rfl (fun _ _ h => h) (fun _ => rfl) (by decide) (by decide) (Nat.le_of_ble_eq_true rfl) rfl rfl (Nat.le_of_ble_eq_true rfl) (Nat.le_of_ble_eq_true rfl) dX2_init_7 (fun q7_1 => ?_)
  refine ir_putF hO hI 9 (C := RX2) (Tb := TX2) (N := 2) (ci := 2) (q0 := 0) (k := 1) (fs := [.int 0, .null]) (v := .ref q7_1) (fty := .array .char) (S' := [(h0, .inr (2, [.int 0, .ref q7_1])), (q7_1, .inl (V.2.1 2, 80, .inl (fun _ => 0)))]) rfl rfl rfl iX2 tyX2 tyX2_ok nmX2 (by decide) wF_X2_9 rfl rfl rfl (by decide +kernel) rfl rfl (Nat.le_of_ble_eq_true rfl) dX2_init_9 ?_
  subst hAe
  exact ir_vret hO 12 hQ (fun _ κ => if κ = 21 then h0 else q7_1) rfl (List.Perm.refl _) dX2_init_12
