set_option maxHeartbeats 40000000 in
set_option maxRecDepth 100000 in
theorem k_X0_init (l : Launch) {D : va_G} {cy : Nat → ClassId} (h0 : Nat) : Kt l 1 1 4 yX0_init cX0_init 1 D cy h0 (.inr (0, [.int 0, .int 0, .int 0, .null])) [] (sM cy) := by
  refine Kt_of (by decide) (Nat.le_of_ble_eq_true rfl) rfl (fun p e s m below meth c ls A hAe hC hin hml hr hlk hP hD hS hA hl => ?_)
  have hx := hC.1
  have hb := hC.2.1
  have hts := hC.2.2.1
  have hown := hC.2.2.2.1
  have hK := hC.2.2.2.2.1
  have hl : lv_has ls 1 [(0, .ref h0)] := hl
  refine lv_aload_n hx hb dX0_init_0 rfl (lv_at hl 0 rfl) ?_
  refine W.objInit hx hb hown (hts _ (tg_at 202 (by decide +kernel) rfl)) (hts _ (tg_at 75 (by decide +kernel) rfl)) (hts _ (tg_at 76 (by decide +kernel) rfl)) rfl (by rw [hml]; exact hl.1) rfl dX0_init_1 (Nat.le_of_ble_eq_true rfl) (Nat.le_of_ble_eq_true rfl) ?_
  refine W.eq (g2 := F0 m 4 ls []) rfl ?_
  refine lv_aload_n hx hb dX0_init_4 rfl (lv_at hl 0 rfl) ?_
  refine lv_bipush (v := -9) hx hb dX0_init_5 (by decide) ?_
  refine va_put (D := D) (ci := 0) (v := .int (-9)) (ty := tyX0 2) (C := RX0) (T := TX0) (N := 4) hx hb hts jX0 tyX0 tyX0_ok nmX0 hown hK hP hD hS 0 rfl rfl 2 (by decide) (hts _ (tg_at 210 (by decide +kernel) rfl)) (fun _ h9 => h9) rfl (tyX0_ok 2 (by decide)) rfl rfl (Nat.le_of_ble_eq_true rfl) dX0_init_7 (fun H locs hP hD hS => ?_)
  have hP : va_P D vwCl ([(h0, .inr (0, [.int 0, .int 0, .int (-9), .null]))]) H := hP
  have hD : va_D A ([(h0, .inr (0, [.int 0, .int 0, .int (-9), .null]))]) := hD
  refine lv_aload_n hx hb dX0_init_10 rfl (lv_at hl 0 rfl) ?_
  refine lv_iconst (v := 4) hx hb dX0_init_11 (by decide) ?_
  refine kt_newI hC hP hD hS hA (N' := 4) (by decide) (by decide) (by decide) (by decide) (by decide) (tg_at 113 (by decide +kernel) rfl) dX0_init_12 (fun q1 H hP hD hS => ?_)
  refine W.widen (k := 1) (n := 4) (by decide) (by decide) ?_
  refine va_putF (D := D) (ci := 0) (v := .ref q1) (ty := tyX0 3) (C := RX0) (T := TX0) (N := 4) hx hb hts jX0 tyX0 tyX0_ok nmX0 hown hK hP hD hS 0 rfl rfl 3 (by decide) (hts _ (tg_at 212 (by decide +kernel) rfl)) (fun _ h9 => h9) rfl hin rfl (tyX0_ok 3 (by decide)) rfl rfl (Nat.le_of_ble_eq_true rfl) dX0_init_14 (fun H locs hP hD hS => ?_)
  have hP : va_P D vwCl ([(h0, .inr (0, [.int 0, .int 0, .int (-9), .ref q1]))] ++ [(q1, .inl (cy 8, 4, .inl (fun _ => 0)))]) H := hP
  have hD : va_D A ([(h0, .inr (0, [.int 0, .int 0, .int (-9), .ref q1]))] ++ [(q1, .inl (cy 8, 4, .inl (fun _ => 0)))]) := hD
  subst hAe
  exact kt_ret (fun i => [h0, q1].getD i 0) hC hr hlk rfl hP hD hS rfl rfl dX0_init_17
set_option maxHeartbeats 40000000 in
set_option maxRecDepth 100000 in
theorem k_X2_init (l : Launch) {D : va_G} {cy : Nat → ClassId} (h0 : Nat) : Kt l 1 2 204 yX2_init cX2_init 1 D cy h0 (.inr (2, [.int 0, .null, .int 0, .int 0, .int 0, .int 0, .int 0, .int 0, .null])) [] (sRd cy) := by
  refine Kt_of (by decide) (Nat.le_of_ble_eq_true rfl) rfl (fun p e s m below meth c ls A hAe hC hin hml hr hlk hP hD hS hA hl => ?_)
  have hx := hC.1
  have hb := hC.2.1
  have hts := hC.2.2.1
  have hown := hC.2.2.2.1
  have hK := hC.2.2.2.2.1
  have hl : lv_has ls 1 [(0, .ref h0)] := hl
  refine lv_aload_n hx hb dX2_init_0 rfl (lv_at hl 0 rfl) ?_
  refine W.objInit hx hb hown (hts _ (tg_at 82 (by decide +kernel) rfl)) (hts _ (tg_at 75 (by decide +kernel) rfl)) (hts _ (tg_at 76 (by decide +kernel) rfl)) rfl (by rw [hml]; exact hl.1) rfl dX2_init_1 (Nat.le_of_ble_eq_true rfl) (Nat.le_of_ble_eq_true rfl) ?_
  refine W.eq (g2 := F0 m 4 ls []) rfl ?_
  refine lv_aload_n hx hb dX2_init_4 rfl (lv_at hl 0 rfl) ?_
  refine lv_sipush (v := 200) hx hb dX2_init_5 (by decide) ?_
  refine kt_newI hC hP hD hS hA (N' := 200) (by decide) (by decide) (by decide) (by decide) (by decide) (tg_at 113 (by decide +kernel) rfl) dX2_init_8 (fun q1 H hP hD hS => ?_)
  refine W.widen (k := 1) (n := 200) (by decide) (by decide) ?_
  refine va_putF (D := D) (ci := 2) (v := .ref q1) (ty := tyX2 1) (C := RX2) (T := TX2) (N := 9) hx hb hts jX2 tyX2 tyX2_ok nmX2 hown hK hP hD hS 0 rfl rfl 1 (by decide) (hts _ (tg_at 85 (by decide +kernel) rfl)) (fun _ h9 => h9) rfl hin rfl (tyX2_ok 1 (by decide)) rfl rfl (Nat.le_of_ble_eq_true rfl) dX2_init_10 (fun H locs hP hD hS => ?_)
  have hP : va_P D vwCl ([(h0, .inr (2, [.int 0, .ref q1, .int 0, .int 0, .int 0, .int 0, .int 0, .int 0, .null]))] ++ [(q1, .inl (cy 8, 200, .inl (fun _ => 0)))]) H := hP
  have hD : va_D A ([(h0, .inr (2, [.int 0, .ref q1, .int 0, .int 0, .int 0, .int 0, .int 0, .int 0, .null]))] ++ [(q1, .inl (cy 8, 200, .inl (fun _ => 0)))]) := hD
  refine lv_aload_n hx hb dX2_init_13 rfl (lv_at hl 0 rfl) ?_
  refine lv_iconst (v := 4) hx hb dX2_init_14 (by decide) ?_
  refine kt_newI hC hP hD hS hA (N' := 4) (by decide) (by decide) (by decide) (by decide) (by decide) (tg_at 113 (by decide +kernel) rfl) dX2_init_15 (fun q2 H hP hD hS => ?_)
  refine W.widen (k := 2) (n := 204) (by decide) (by decide) ?_
  refine va_putF (D := D) (ci := 2) (v := .ref q2) (ty := tyX2 8) (C := RX2) (T := TX2) (N := 9) hx hb hts jX2 tyX2 tyX2_ok nmX2 hown hK hP hD hS 0 rfl rfl 8 (by decide) (hts _ (tg_at 93 (by decide +kernel) rfl)) (fun _ h9 => h9) rfl hin rfl (tyX2_ok 8 (by decide)) rfl rfl (Nat.le_of_ble_eq_true rfl) dX2_init_17 (fun H locs hP hD hS => ?_)
  have hP : va_P D vwCl ([(h0, .inr (2, [.int 0, .ref q1, .int 0, .int 0, .int 0, .int 0, .int 0, .int 0, .ref q2]))] ++ [(q1, .inl (cy 8, 200, .inl (fun _ => 0)))] ++ [(q2, .inl (cy 8, 4, .inl (fun _ => 0)))]) H := hP
  have hD : va_D A ([(h0, .inr (2, [.int 0, .ref q1, .int 0, .int 0, .int 0, .int 0, .int 0, .int 0, .ref q2]))] ++ [(q1, .inl (cy 8, 200, .inl (fun _ => 0)))] ++ [(q2, .inl (cy 8, 4, .inl (fun _ => 0)))]) := hD
  subst hAe
  exact kt_ret (fun i => [h0, q1, q2].getD i 0) hC hr hlk rfl hP hD hS rfl rfl dX2_init_20
set_option maxHeartbeats 40000000 in
set_option maxRecDepth 100000 in
theorem k_X4_init (l : Launch) {D : va_G} {cy : Nat → ClassId} (h0 : Nat) : Kt l 1 9 52 yX4_init cX4_init 1 D cy h0 (.inr (4, [.int 0, .int 0, .int 0, .int 0, .int 0, .null, .null, .null, .null, .null, .null, .null, .null, .null])) [] (sT cy) := by
  refine Kt_of (by decide) (Nat.le_of_ble_eq_true rfl) rfl (fun p e s m below meth c ls A hAe hC hin hml hr hlk hP hD hS hA hl => ?_)
  have hx := hC.1
  have hb := hC.2.1
  have hts := hC.2.2.1
  have hown := hC.2.2.2.1
  have hK := hC.2.2.2.2.1
  have hl : lv_has ls 1 [(0, .ref h0)] := hl
  refine lv_aload_n hx hb dX4_init_0 rfl (lv_at hl 0 rfl) ?_
  refine W.objInit hx hb hown (hts _ (tg_at 119 (by decide +kernel) rfl)) (hts _ (tg_at 75 (by decide +kernel) rfl)) (hts _ (tg_at 76 (by decide +kernel) rfl)) rfl (by rw [hml]; exact hl.1) rfl dX4_init_1 (Nat.le_of_ble_eq_true rfl) (Nat.le_of_ble_eq_true rfl) ?_
  refine W.eq (g2 := F0 m 4 ls []) rfl ?_
  refine lv_aload_n hx hb dX4_init_4 rfl (lv_at hl 0 rfl) ?_
  refine lv_iconst (v := 1) hx hb dX4_init_5 (by decide) ?_
  refine va_put (D := D) (ci := 4) (v := .int 1) (ty := tyX4 2) (C := RX4) (T := TX4) (N := 14) hx hb hts jX4 tyX4 tyX4_ok nmX4 hown hK hP hD hS 0 rfl rfl 2 (by decide) (hts _ (tg_at 130 (by decide +kernel) rfl)) (fun _ h9 => h9) rfl (tyX4_ok 2 (by decide)) rfl rfl (Nat.le_of_ble_eq_true rfl) dX4_init_6 (fun H locs hP hD hS => ?_)
  have hP : va_P D vwCl ([(h0, .inr (4, [.int 0, .int 0, .int 1, .int 0, .int 0, .null, .null, .null, .null, .null, .null, .null, .null, .null]))]) H := hP
  have hD : va_D A ([(h0, .inr (4, [.int 0, .int 0, .int 1, .int 0, .int 0, .null, .null, .null, .null, .null, .null, .null, .null, .null]))]) := hD
  refine lv_aload_n hx hb dX4_init_9 rfl (lv_at hl 0 rfl) ?_
  refine lv_iconst (v := 4) hx hb dX4_init_10 (by decide) ?_
  refine kt_newI hC hP hD hS hA (N' := 4) (by decide) (by decide) (by decide) (by decide) (by decide) (tg_at 113 (by decide +kernel) rfl) dX4_init_11 (fun q1 H hP hD hS => ?_)
  refine W.widen (k := 1) (n := 4) (by decide) (by decide) ?_
  refine va_putF (D := D) (ci := 4) (v := .ref q1) (ty := tyX4 5) (C := RX4) (T := TX4) (N := 14) hx hb hts jX4 tyX4 tyX4_ok nmX4 hown hK hP hD hS 0 rfl rfl 5 (by decide) (hts _ (tg_at 140 (by decide +kernel) rfl)) (fun _ h9 => h9) rfl hin rfl (tyX4_ok 5 (by decide)) rfl rfl (Nat.le_of_ble_eq_true rfl) dX4_init_13 (fun H locs hP hD hS => ?_)
  have hP : va_P D vwCl ([(h0, .inr (4, [.int 0, .int 0, .int 1, .int 0, .int 0, .ref q1, .null, .null, .null, .null, .null, .null, .null, .null]))] ++ [(q1, .inl (cy 8, 4, .inl (fun _ => 0)))]) H := hP
  have hD : va_D A ([(h0, .inr (4, [.int 0, .int 0, .int 1, .int 0, .int 0, .ref q1, .null, .null, .null, .null, .null, .null, .null, .null]))] ++ [(q1, .inl (cy 8, 4, .inl (fun _ => 0)))]) := hD
  refine lv_aload_n hx hb dX4_init_16 rfl (lv_at hl 0 rfl) ?_
  refine lv_iconst (v := 4) hx hb dX4_init_17 (by decide) ?_
  refine kt_newI hC hP hD hS hA (N' := 4) (by decide) (by decide) (by decide) (by decide) (by decide) (tg_at 113 (by decide +kernel) rfl) dX4_init_18 (fun q2 H hP hD hS => ?_)
  refine W.widen (k := 2) (n := 8) (by decide) (by decide) ?_
  refine va_putF (D := D) (ci := 4) (v := .ref q2) (ty := tyX4 6) (C := RX4) (T := TX4) (N := 14) hx hb hts jX4 tyX4 tyX4_ok nmX4 hown hK hP hD hS 0 rfl rfl 6 (by decide) (hts _ (tg_at 142 (by decide +kernel) rfl)) (fun _ h9 => h9) rfl hin rfl (tyX4_ok 6 (by decide)) rfl rfl (Nat.le_of_ble_eq_true rfl) dX4_init_20 (fun H locs hP hD hS => ?_)
  have hP : va_P D vwCl ([(h0, .inr (4, [.int 0, .int 0, .int 1, .int 0, .int 0, .ref q1, .ref q2, .null, .null, .null, .null, .null, .null, .null]))] ++ [(q1, .inl (cy 8, 4, .inl (fun _ => 0)))] ++ [(q2, .inl (cy 8, 4, .inl (fun _ => 0)))]) H := hP
  have hD : va_D A ([(h0, .inr (4, [.int 0, .int 0, .int 1, .int 0, .int 0, .ref q1, .ref q2, .null, .null, .null, .null, .null, .null, .null]))] ++ [(q1, .inl (cy 8, 4, .inl (fun _ => 0)))] ++ [(q2, .inl (cy 8, 4, .inl (fun _ => 0)))]) := hD
  refine lv_aload_n hx hb dX4_init_23 rfl (lv_at hl 0 rfl) ?_
  refine lv_bipush (v := 6) hx hb dX4_init_24 (by decide) ?_
  refine kt_newI hC hP hD hS hA (N' := 6) (by decide) (by decide) (by decide) (by decide) (by decide) (tg_at 113 (by decide +kernel) rfl) dX4_init_26 (fun q3 H hP hD hS => ?_)
  refine W.widen (k := 3) (n := 14) (by decide) (by decide) ?_
  refine va_putF (D := D) (ci := 4) (v := .ref q3) (ty := tyX4 7) (C := RX4) (T := TX4) (N := 14) hx hb hts jX4 tyX4 tyX4_ok nmX4 hown hK hP hD hS 0 rfl rfl 7 (by decide) (hts _ (tg_at 145 (by decide +kernel) rfl)) (fun _ h9 => h9) rfl hin rfl (tyX4_ok 7 (by decide)) rfl rfl (Nat.le_of_ble_eq_true rfl) dX4_init_28 (fun H locs hP hD hS => ?_)
  have hP : va_P D vwCl ([(h0, .inr (4, [.int 0, .int 0, .int 1, .int 0, .int 0, .ref q1, .ref q2, .ref q3, .null, .null, .null, .null, .null, .null]))] ++ [(q1, .inl (cy 8, 4, .inl (fun _ => 0)))] ++ [(q2, .inl (cy 8, 4, .inl (fun _ => 0)))] ++ [(q3, .inl (cy 8, 6, .inl (fun _ => 0)))]) H := hP
  have hD : va_D A ([(h0, .inr (4, [.int 0, .int 0, .int 1, .int 0, .int 0, .ref q1, .ref q2, .ref q3, .null, .null, .null, .null, .null, .null]))] ++ [(q1, .inl (cy 8, 4, .inl (fun _ => 0)))] ++ [(q2, .inl (cy 8, 4, .inl (fun _ => 0)))] ++ [(q3, .inl (cy 8, 6, .inl (fun _ => 0)))]) := hD
  refine lv_aload_n hx hb dX4_init_31 rfl (lv_at hl 0 rfl) ?_
  refine lv_bipush (v := 6) hx hb dX4_init_32 (by decide) ?_
  refine kt_newI hC hP hD hS hA (N' := 6) (by decide) (by decide) (by decide) (by decide) (by decide) (tg_at 113 (by decide +kernel) rfl) dX4_init_34 (fun q4 H hP hD hS => ?_)
  refine W.widen (k := 4) (n := 20) (by decide) (by decide) ?_
  refine va_putF (D := D) (ci := 4) (v := .ref q4) (ty := tyX4 8) (C := RX4) (T := TX4) (N := 14) hx hb hts jX4 tyX4 tyX4_ok nmX4 hown hK hP hD hS 0 rfl rfl 8 (by decide) (hts _ (tg_at 148 (by decide +kernel) rfl)) (fun _ h9 => h9) rfl hin rfl (tyX4_ok 8 (by decide)) rfl rfl (Nat.le_of_ble_eq_true rfl) dX4_init_36 (fun H locs hP hD hS => ?_)
  have hP : va_P D vwCl ([(h0, .inr (4, [.int 0, .int 0, .int 1, .int 0, .int 0, .ref q1, .ref q2, .ref q3, .ref q4, .null, .null, .null, .null, .null]))] ++ [(q1, .inl (cy 8, 4, .inl (fun _ => 0)))] ++ [(q2, .inl (cy 8, 4, .inl (fun _ => 0)))] ++ [(q3, .inl (cy 8, 6, .inl (fun _ => 0)))] ++ [(q4, .inl (cy 8, 6, .inl (fun _ => 0)))]) H := hP
  have hD : va_D A ([(h0, .inr (4, [.int 0, .int 0, .int 1, .int 0, .int 0, .ref q1, .ref q2, .ref q3, .ref q4, .null, .null, .null, .null, .null]))] ++ [(q1, .inl (cy 8, 4, .inl (fun _ => 0)))] ++ [(q2, .inl (cy 8, 4, .inl (fun _ => 0)))] ++ [(q3, .inl (cy 8, 6, .inl (fun _ => 0)))] ++ [(q4, .inl (cy 8, 6, .inl (fun _ => 0)))]) := hD
  refine lv_aload_n hx hb dX4_init_39 rfl (lv_at hl 0 rfl) ?_
  refine lv_bipush (v := 6) hx hb dX4_init_40 (by decide) ?_
  refine kt_newI hC hP hD hS hA (N' := 6) (by decide) (by decide) (by decide) (by decide) (by decide) (tg_at 113 (by decide +kernel) rfl) dX4_init_42 (fun q5 H hP hD hS => ?_)
  refine W.widen (k := 5) (n := 26) (by decide) (by decide) ?_
  refine va_putF (D := D) (ci := 4) (v := .ref q5) (ty := tyX4 9) (C := RX4) (T := TX4) (N := 14) hx hb hts jX4 tyX4 tyX4_ok nmX4 hown hK hP hD hS 0 rfl rfl 9 (by decide) (hts _ (tg_at 150 (by decide +kernel) rfl)) (fun _ h9 => h9) rfl hin rfl (tyX4_ok 9 (by decide)) rfl rfl (Nat.le_of_ble_eq_true rfl) dX4_init_44 (fun H locs hP hD hS => ?_)
  have hP : va_P D vwCl ([(h0, .inr (4, [.int 0, .int 0, .int 1, .int 0, .int 0, .ref q1, .ref q2, .ref q3, .ref q4, .ref q5, .null, .null, .null, .null]))] ++ [(q1, .inl (cy 8, 4, .inl (fun _ => 0)))] ++ [(q2, .inl (cy 8, 4, .inl (fun _ => 0)))] ++ [(q3, .inl (cy 8, 6, .inl (fun _ => 0)))] ++ [(q4, .inl (cy 8, 6, .inl (fun _ => 0)))] ++ [(q5, .inl (cy 8, 6, .inl (fun _ => 0)))]) H := hP
  have hD : va_D A ([(h0, .inr (4, [.int 0, .int 0, .int 1, .int 0, .int 0, .ref q1, .ref q2, .ref q3, .ref q4, .ref q5, .null, .null, .null, .null]))] ++ [(q1, .inl (cy 8, 4, .inl (fun _ => 0)))] ++ [(q2, .inl (cy 8, 4, .inl (fun _ => 0)))] ++ [(q3, .inl (cy 8, 6, .inl (fun _ => 0)))] ++ [(q4, .inl (cy 8, 6, .inl (fun _ => 0)))] ++ [(q5, .inl (cy 8, 6, .inl (fun _ => 0)))]) := hD
  refine lv_aload_n hx hb dX4_init_47 rfl (lv_at hl 0 rfl) ?_
  refine lv_bipush (v := 6) hx hb dX4_init_48 (by decide) ?_
  refine kt_newI hC hP hD hS hA (N' := 6) (by decide) (by decide) (by decide) (by decide) (by decide) (tg_at 113 (by decide +kernel) rfl) dX4_init_50 (fun q6 H hP hD hS => ?_)
  refine W.widen (k := 6) (n := 32) (by decide) (by decide) ?_
  refine va_putF (D := D) (ci := 4) (v := .ref q6) (ty := tyX4 10) (C := RX4) (T := TX4) (N := 14) hx hb hts jX4 tyX4 tyX4_ok nmX4 hown hK hP hD hS 0 rfl rfl 10 (by decide) (hts _ (tg_at 152 (by decide +kernel) rfl)) (fun _ h9 => h9) rfl hin rfl (tyX4_ok 10 (by decide)) rfl rfl (Nat.le_of_ble_eq_true rfl) dX4_init_52 (fun H locs hP hD hS => ?_)
  have hP : va_P D vwCl ([(h0, .inr (4, [.int 0, .int 0, .int 1, .int 0, .int 0, .ref q1, .ref q2, .ref q3, .ref q4, .ref q5, .ref q6, .null, .null, .null]))] ++ [(q1, .inl (cy 8, 4, .inl (fun _ => 0)))] ++ [(q2, .inl (cy 8, 4, .inl (fun _ => 0)))] ++ [(q3, .inl (cy 8, 6, .inl (fun _ => 0)))] ++ [(q4, .inl (cy 8, 6, .inl (fun _ => 0)))] ++ [(q5, .inl (cy 8, 6, .inl (fun _ => 0)))] ++ [(q6, .inl (cy 8, 6, .inl (fun _ => 0)))]) H := hP
  have hD : va_D A ([(h0, .inr (4, [.int 0, .int 0, .int 1, .int 0, .int 0, .ref q1, .ref q2, .ref q3, .ref q4, .ref q5, .ref q6, .null, .null, .null]))] ++ [(q1, .inl (cy 8, 4, .inl (fun _ => 0)))] ++ [(q2, .inl (cy 8, 4, .inl (fun _ => 0)))] ++ [(q3, .inl (cy 8, 6, .inl (fun _ => 0)))] ++ [(q4, .inl (cy 8, 6, .inl (fun _ => 0)))] ++ [(q5, .inl (cy 8, 6, .inl (fun _ => 0)))] ++ [(q6, .inl (cy 8, 6, .inl (fun _ => 0)))]) := hD
  refine lv_aload_n hx hb dX4_init_55 rfl (lv_at hl 0 rfl) ?_
  refine lv_bipush (v := 6) hx hb dX4_init_56 (by decide) ?_
  refine kt_newI hC hP hD hS hA (N' := 6) (by decide) (by decide) (by decide) (by decide) (by decide) (tg_at 113 (by decide +kernel) rfl) dX4_init_58 (fun q7 H hP hD hS => ?_)
  refine W.widen (k := 7) (n := 38) (by decide) (by decide) ?_
  refine va_putF (D := D) (ci := 4) (v := .ref q7) (ty := tyX4 11) (C := RX4) (T := TX4) (N := 14) hx hb hts jX4 tyX4 tyX4_ok nmX4 hown hK hP hD hS 0 rfl rfl 11 (by decide) (hts _ (tg_at 154 (by decide +kernel) rfl)) (fun _ h9 => h9) rfl hin rfl (tyX4_ok 11 (by decide)) rfl rfl (Nat.le_of_ble_eq_true rfl) dX4_init_60 (fun H locs hP hD hS => ?_)
  have hP : va_P D vwCl ([(h0, .inr (4, [.int 0, .int 0, .int 1, .int 0, .int 0, .ref q1, .ref q2, .ref q3, .ref q4, .ref q5, .ref q6, .ref q7, .null, .null]))] ++ [(q1, .inl (cy 8, 4, .inl (fun _ => 0)))] ++ [(q2, .inl (cy 8, 4, .inl (fun _ => 0)))] ++ [(q3, .inl (cy 8, 6, .inl (fun _ => 0)))] ++ [(q4, .inl (cy 8, 6, .inl (fun _ => 0)))] ++ [(q5, .inl (cy 8, 6, .inl (fun _ => 0)))] ++ [(q6, .inl (cy 8, 6, .inl (fun _ => 0)))] ++ [(q7, .inl (cy 8, 6, .inl (fun _ => 0)))]) H := hP
  have hD : va_D A ([(h0, .inr (4, [.int 0, .int 0, .int 1, .int 0, .int 0, .ref q1, .ref q2, .ref q3, .ref q4, .ref q5, .ref q6, .ref q7, .null, .null]))] ++ [(q1, .inl (cy 8, 4, .inl (fun _ => 0)))] ++ [(q2, .inl (cy 8, 4, .inl (fun _ => 0)))] ++ [(q3, .inl (cy 8, 6, .inl (fun _ => 0)))] ++ [(q4, .inl (cy 8, 6, .inl (fun _ => 0)))] ++ [(q5, .inl (cy 8, 6, .inl (fun _ => 0)))] ++ [(q6, .inl (cy 8, 6, .inl (fun _ => 0)))] ++ [(q7, .inl (cy 8, 6, .inl (fun _ => 0)))]) := hD
  refine lv_aload_n hx hb dX4_init_63 rfl (lv_at hl 0 rfl) ?_
  refine lv_bipush (v := 7) hx hb dX4_init_64 (by decide) ?_
  refine kt_newI hC hP hD hS hA (N' := 7) (by decide) (by decide) (by decide) (by decide) (by decide) (tg_at 113 (by decide +kernel) rfl) dX4_init_66 (fun q8 H hP hD hS => ?_)
  refine W.widen (k := 8) (n := 45) (by decide) (by decide) ?_
  refine va_putF (D := D) (ci := 4) (v := .ref q8) (ty := tyX4 12) (C := RX4) (T := TX4) (N := 14) hx hb hts jX4 tyX4 tyX4_ok nmX4 hown hK hP hD hS 0 rfl rfl 12 (by decide) (hts _ (tg_at 157 (by decide +kernel) rfl)) (fun _ h9 => h9) rfl hin rfl (tyX4_ok 12 (by decide)) rfl rfl (Nat.le_of_ble_eq_true rfl) dX4_init_68 (fun H locs hP hD hS => ?_)
  have hP : va_P D vwCl ([(h0, .inr (4, [.int 0, .int 0, .int 1, .int 0, .int 0, .ref q1, .ref q2, .ref q3, .ref q4, .ref q5, .ref q6, .ref q7, .ref q8, .null]))] ++ [(q1, .inl (cy 8, 4, .inl (fun _ => 0)))] ++ [(q2, .inl (cy 8, 4, .inl (fun _ => 0)))] ++ [(q3, .inl (cy 8, 6, .inl (fun _ => 0)))] ++ [(q4, .inl (cy 8, 6, .inl (fun _ => 0)))] ++ [(q5, .inl (cy 8, 6, .inl (fun _ => 0)))] ++ [(q6, .inl (cy 8, 6, .inl (fun _ => 0)))] ++ [(q7, .inl (cy 8, 6, .inl (fun _ => 0)))] ++ [(q8, .inl (cy 8, 7, .inl (fun _ => 0)))]) H := hP
  have hD : va_D A ([(h0, .inr (4, [.int 0, .int 0, .int 1, .int 0, .int 0, .ref q1, .ref q2, .ref q3, .ref q4, .ref q5, .ref q6, .ref q7, .ref q8, .null]))] ++ [(q1, .inl (cy 8, 4, .inl (fun _ => 0)))] ++ [(q2, .inl (cy 8, 4, .inl (fun _ => 0)))] ++ [(q3, .inl (cy 8, 6, .inl (fun _ => 0)))] ++ [(q4, .inl (cy 8, 6, .inl (fun _ => 0)))] ++ [(q5, .inl (cy 8, 6, .inl (fun _ => 0)))] ++ [(q6, .inl (cy 8, 6, .inl (fun _ => 0)))] ++ [(q7, .inl (cy 8, 6, .inl (fun _ => 0)))] ++ [(q8, .inl (cy 8, 7, .inl (fun _ => 0)))]) := hD
  refine lv_aload_n hx hb dX4_init_71 rfl (lv_at hl 0 rfl) ?_
  refine lv_bipush (v := 7) hx hb dX4_init_72 (by decide) ?_
  refine kt_newI hC hP hD hS hA (N' := 7) (by decide) (by decide) (by decide) (by decide) (by decide) (tg_at 113 (by decide +kernel) rfl) dX4_init_74 (fun q9 H hP hD hS => ?_)
  refine W.widen (k := 9) (n := 52) (by decide) (by decide) ?_
  refine va_putF (D := D) (ci := 4) (v := .ref q9) (ty := tyX4 13) (C := RX4) (T := TX4) (N := 14) hx hb hts jX4 tyX4 tyX4_ok nmX4 hown hK hP hD hS 0 rfl rfl 13 (by decide) (hts _ (tg_at 160 (by decide +kernel) rfl)) (fun _ h9 => h9) rfl hin rfl (tyX4_ok 13 (by decide)) rfl rfl (Nat.le_of_ble_eq_true rfl) dX4_init_76 (fun H locs hP hD hS => ?_)
  have hP : va_P D vwCl ([(h0, .inr (4, [.int 0, .int 0, .int 1, .int 0, .int 0, .ref q1, .ref q2, .ref q3, .ref q4, .ref q5, .ref q6, .ref q7, .ref q8, .ref q9]))] ++ [(q1, .inl (cy 8, 4, .inl (fun _ => 0)))] ++ [(q2, .inl (cy 8, 4, .inl (fun _ => 0)))] ++ [(q3, .inl (cy 8, 6, .inl (fun _ => 0)))] ++ [(q4, .inl (cy 8, 6, .inl (fun _ => 0)))] ++ [(q5, .inl (cy 8, 6, .inl (fun _ => 0)))] ++ [(q6, .inl (cy 8, 6, .inl (fun _ => 0)))] ++ [(q7, .inl (cy 8, 6, .inl (fun _ => 0)))] ++ [(q8, .inl (cy 8, 7, .inl (fun _ => 0)))] ++ [(q9, .inl (cy 8, 7, .inl (fun _ => 0)))]) H := hP
  have hD : va_D A ([(h0, .inr (4, [.int 0, .int 0, .int 1, .int 0, .int 0, .ref q1, .ref q2, .ref q3, .ref q4, .ref q5, .ref q6, .ref q7, .ref q8, .ref q9]))] ++ [(q1, .inl (cy 8, 4, .inl (fun _ => 0)))] ++ [(q2, .inl (cy 8, 4, .inl (fun _ => 0)))] ++ [(q3, .inl (cy 8, 6, .inl (fun _ => 0)))] ++ [(q4, .inl (cy 8, 6, .inl (fun _ => 0)))] ++ [(q5, .inl (cy 8, 6, .inl (fun _ => 0)))] ++ [(q6, .inl (cy 8, 6, .inl (fun _ => 0)))] ++ [(q7, .inl (cy 8, 6, .inl (fun _ => 0)))] ++ [(q8, .inl (cy 8, 7, .inl (fun _ => 0)))] ++ [(q9, .inl (cy 8, 7, .inl (fun _ => 0)))]) := hD
  subst hAe
  exact kt_ret (fun i => [h0, q1, q2, q3, q4, q5, q6, q7, q8, q9].getD i 0) hC hr hlk rfl hP hD hS rfl rfl dX4_init_79
set_option maxHeartbeats 40000000 in
set_option maxRecDepth 100000 in
theorem k_X5_init (l : Launch) {D : va_G} {cy : Nat → ClassId} (h0 : Nat) : Kt l 2 23 98 yX5_init cX5_init 2 D cy h0 (.inr (5, [.null, .int 0, .null])) [] (sV cy) := by
  refine Kt_of (by decide) (Nat.le_of_ble_eq_true rfl) rfl (fun p e s m below meth c ls A hAe hC hin hml hr hlk hP hD hS hA hl => ?_)
  have hx := hC.1
  have hb := hC.2.1
  have hts := hC.2.2.1
  have hown := hC.2.2.2.1
  have hK := hC.2.2.2.2.1
  have hl : lv_has ls 2 [(0, .ref h0)] := hl
  refine lv_aload_n hx hb dX5_init_0 rfl (lv_at hl 0 rfl) ?_
  refine W.objInit hx hb hown (hts _ (tg_at 196 (by decide +kernel) rfl)) (hts _ (tg_at 75 (by decide +kernel) rfl)) (hts _ (tg_at 76 (by decide +kernel) rfl)) rfl (by rw [hml]; exact hl.1) rfl dX5_init_1 (Nat.le_of_ble_eq_true rfl) (Nat.le_of_ble_eq_true rfl) ?_
  refine W.eq (g2 := F0 m 4 ls []) rfl ?_
  refine lv_aload_n hx hb dX5_init_4 rfl (lv_at hl 0 rfl) ?_
  refine va_new (D := D) (ci := 0) (fs := [.int 0, .int 0, .int 0, .null]) (C := RX0) (T := TX0) (N := 4) hx hb hts jX0 tyX0 tyX0_ok hown (hts _ (tg_at 197 (by decide +kernel) rfl)) (hts _ (tg_at 198 (by decide +kernel) rfl)) (hts _ (tg_at 64 (by decide +kernel) rfl)) hK hP hD hS hA rfl (fun j hj => by rcases (show j = 0 ∨ j = 1 ∨ j = 2 ∨ j = 3 by omega) with rfl | rfl | rfl | rfl <;> rfl) (by decide) (by decide) dX5_init_5 (fun q1 H hP hD hS => ?_)
  refine W.widen (k := 1) (n := 4) (by decide) (by decide) ?_
  refine lv_dup hx hb dX5_init_8 rfl ?_
  refine kt_callN (As := []) (rst := fun z => [.ref z, .ref h0]) hC hml hP hD hS hA (k_X0_init l q1) ⟨by decide, by decide⟩ ⟨by decide, by decide⟩ (by decide) (by decide +kernel) rfl mi_X0_init hd_X0_init rfl hl.1 (Nat.le_of_ble_eq_true rfl) dX5_init_9 (fun f2 H locs hP hD hS => ?_)
  refine W.widen (k := 2) (n := 8) (by decide) (by decide) ?_
  refine va_putF (D := D) (ci := 5) (v := .ref (f2 0)) (ty := tyX5 0) (C := RX5) (T := TX5) (N := 3) hx hb hts jX5 tyX5 tyX5_ok nmX5 hown hK hP hD hS 0 rfl rfl 0 (by decide) (hts _ (tg_at 224 (by decide +kernel) rfl)) (fun _ h9 => h9) rfl hin rfl (tyX5_ok 0 (by decide)) rfl rfl (Nat.le_of_ble_eq_true rfl) dX5_init_12 (fun H locs hP hD hS => ?_)
  have hP : va_P D vwCl ([(h0, .inr (5, [.ref (f2 0), .int 0, .null]))] ++ sM cy f2) H := hP
  have hD : va_D A ([(h0, .inr (5, [.ref (f2 0), .int 0, .null]))] ++ sM cy f2) := hD
  refine lv_aload_n hx hb dX5_init_15 rfl (lv_at hl 0 rfl) ?_
  refine lv_bipush (v := 10) hx hb dX5_init_16 (by decide) ?_
  refine kt_newM hC hP hD hS hA (N' := 10) (by decide) (by decide) (by decide) (by decide) (by decide) (tg_at 197 (by decide +kernel) rfl) dX5_init_18 (fun q3 H hP hD hS => ?_)
  refine W.widen (k := 3) (n := 18) (by decide) (by decide) ?_
  refine va_putF (D := D) (ci := 5) (v := .ref q3) (ty := tyX5 2) (C := RX5) (T := TX5) (N := 3) hx hb hts jX5 tyX5 tyX5_ok nmX5 hown hK hP hD hS 0 rfl rfl 2 (by decide) (hts _ (tg_at 228 (by decide +kernel) rfl)) (fun _ h9 => h9) rfl hin rfl (tyX5_ok 2 (by decide)) rfl rfl (Nat.le_of_ble_eq_true rfl) dX5_init_21 (fun H locs hP hD hS => ?_)
  have hP : va_P D vwCl ([(h0, .inr (5, [.ref (f2 0), .int 0, .ref q3]))] ++ sM cy f2 ++ [(q3, .inl (cy 10, 10, .inr (.inr (.inr (.inr (fun _ => none))))))]) H := hP
  have hD : va_D A ([(h0, .inr (5, [.ref (f2 0), .int 0, .ref q3]))] ++ sM cy f2 ++ [(q3, .inl (cy 10, 10, .inr (.inr (.inr (.inr (fun _ => none))))))]) := hD
  refine lv_iconst (v := 0) hx hb dX5_init_24 (by decide) ?_
  refine lv_istore_n (lv' := [(1, .int 0), (0, .ref h0)]) hx hb dX5_init_25 rfl hl (by decide) rfl (fun ls hl => ?_)
  refine lv_iload_n hx hb dX5_init_26 rfl (lv_at hl 0 rfl) ?_
  refine lv_bipush (v := 10) hx hb dX5_init_27 (by decide) ?_
  refine lv_icmp_ge (tgt := 51) hx hb dX5_init_29 (by decide) (fun hc => ?_) (fun hc => ?_)
  · exact absurd hc (by decide)
  refine lv_aload_n hx hb dX5_init_32 rfl (lv_at hl 1 rfl) ?_
  refine va_get (D := D) (ci := 5) (v := .ref q3) (C := RX5) (T := TX5) (N := 3) hx hb hts jX5 hown hK hP 0 rfl rfl 2 (by decide) (hts _ (tg_at 228 (by decide +kernel) rfl)) (fun _ h9 => h9) rfl dX5_init_33 ?_
  refine lv_iload_n hx hb dX5_init_36 rfl (lv_at hl 0 rfl) ?_
  refine va_new (D := D) (ci := 0) (fs := [.int 0, .int 0, .int 0, .null]) (C := RX0) (T := TX0) (N := 4) hx hb hts jX0 tyX0 tyX0_ok hown (hts _ (tg_at 197 (by decide +kernel) rfl)) (hts _ (tg_at 198 (by decide +kernel) rfl)) (hts _ (tg_at 64 (by decide +kernel) rfl)) hK hP hD hS hA rfl (fun j hj => by rcases (show j = 0 ∨ j = 1 ∨ j = 2 ∨ j = 3 by omega) with rfl | rfl | rfl | rfl <;> rfl) (by decide) (by decide) dX5_init_37 (fun q4 H hP hD hS => ?_)
  refine W.widen (k := 4) (n := 22) (by decide) (by decide) ?_
  refine lv_dup hx hb dX5_init_40 rfl ?_
  refine kt_callN (As := []) (rst := fun z => [.ref z, .int 0, .ref q3]) hC hml hP hD hS hA (k_X0_init l q4) ⟨by decide, by decide⟩ ⟨by decide, by decide⟩ (by decide) (by decide +kernel) rfl mi_X0_init hd_X0_init rfl hl.1 (Nat.le_of_ble_eq_true rfl) dX5_init_41 (fun f5 H locs hP hD hS => ?_)
  refine W.widen (k := 5) (n := 26) (by decide) (by decide) ?_
  refine va_astq hx hb hK hP hD hS 3 2 4 0 rfl (r := (RX0, TX0, 4)) rfl rfl rfl (bin_in (by decide)) dX5_init_44 (fun H locs hP hD hS => ?_)
  have hP : va_P D vwCl ([(h0, .inr (5, [.ref (f2 0), .int 0, .ref q3]))] ++ sM cy f2 ++ [(q3, .inl (cy 10, 10, .inr (.inr (.inr (.inr (va_up (fun _ => none) (0 : Int32).toNatClampNeg (some (f5 0))))))))] ++ sM cy f5) H := hP
  have hD : va_D A ([(h0, .inr (5, [.ref (f2 0), .int 0, .ref q3]))] ++ sM cy f2 ++ [(q3, .inl (cy 10, 10, .inr (.inr (.inr (.inr (va_up (fun _ => none) (0 : Int32).toNatClampNeg (some (f5 0))))))))] ++ sM cy f5) := hD
  refine lv_iinc (v := 1) (lv' := [(1, .int 1), (0, .ref h0)]) hx hb dX5_init_45 hl (k := 0) rfl (by decide) (by decide) rfl (fun ls hl => ?_)
  refine lv_goto (tgt := 26) hx hb dX5_init_48 (by decide) ?_
  refine lv_iload_n hx hb dX5_init_26 rfl (lv_at hl 0 rfl) ?_
  refine lv_bipush (v := 10) hx hb dX5_init_27 (by decide) ?_
  refine lv_icmp_ge (tgt := 51) hx hb dX5_init_29 (by decide) (fun hc => ?_) (fun hc => ?_)
  · exact absurd hc (by decide)
  refine lv_aload_n hx hb dX5_init_32 rfl (lv_at hl 1 rfl) ?_
  refine va_get (D := D) (ci := 5) (v := .ref q3) (C := RX5) (T := TX5) (N := 3) hx hb hts jX5 hown hK hP 0 rfl rfl 2 (by decide) (hts _ (tg_at 228 (by decide +kernel) rfl)) (fun _ h9 => h9) rfl dX5_init_33 ?_
  refine lv_iload_n hx hb dX5_init_36 rfl (lv_at hl 0 rfl) ?_
  refine va_new (D := D) (ci := 0) (fs := [.int 0, .int 0, .int 0, .null]) (C := RX0) (T := TX0) (N := 4) hx hb hts jX0 tyX0 tyX0_ok hown (hts _ (tg_at 197 (by decide +kernel) rfl)) (hts _ (tg_at 198 (by decide +kernel) rfl)) (hts _ (tg_at 64 (by decide +kernel) rfl)) hK hP hD hS hA rfl (fun j hj => by rcases (show j = 0 ∨ j = 1 ∨ j = 2 ∨ j = 3 by omega) with rfl | rfl | rfl | rfl <;> rfl) (by decide) (by decide) dX5_init_37 (fun q6 H hP hD hS => ?_)
  refine W.widen (k := 6) (n := 30) (by decide) (by decide) ?_
  refine lv_dup hx hb dX5_init_40 rfl ?_
  refine kt_callN (As := []) (rst := fun z => [.ref z, .int 1, .ref q3]) hC hml hP hD hS hA (k_X0_init l q6) ⟨by decide, by decide⟩ ⟨by decide, by decide⟩ (by decide) (by decide +kernel) rfl mi_X0_init hd_X0_init rfl hl.1 (Nat.le_of_ble_eq_true rfl) dX5_init_41 (fun f7 H locs hP hD hS => ?_)
  refine W.widen (k := 7) (n := 34) (by decide) (by decide) ?_
  refine va_astq hx hb hK hP hD hS 3 2 6 0 rfl (r := (RX0, TX0, 4)) rfl rfl rfl (bin_in (by decide)) dX5_init_44 (fun H locs hP hD hS => ?_)
  have hP : va_P D vwCl ([(h0, .inr (5, [.ref (f2 0), .int 0, .ref q3]))] ++ sM cy f2 ++ [(q3, .inl (cy 10, 10, .inr (.inr (.inr (.inr (va_up (va_up (fun _ => none) (0 : Int32).toNatClampNeg (some (f5 0))) (1 : Int32).toNatClampNeg (some (f7 0))))))))] ++ sM cy f5 ++ sM cy f7) H := hP
  have hD : va_D A ([(h0, .inr (5, [.ref (f2 0), .int 0, .ref q3]))] ++ sM cy f2 ++ [(q3, .inl (cy 10, 10, .inr (.inr (.inr (.inr (va_up (va_up (fun _ => none) (0 : Int32).toNatClampNeg (some (f5 0))) (1 : Int32).toNatClampNeg (some (f7 0))))))))] ++ sM cy f5 ++ sM cy f7) := hD
  refine lv_iinc (v := 2) (lv' := [(1, .int 2), (0, .ref h0)]) hx hb dX5_init_45 hl (k := 0) rfl (by decide) (by decide) rfl (fun ls hl => ?_)
  refine lv_goto (tgt := 26) hx hb dX5_init_48 (by decide) ?_
  refine lv_iload_n hx hb dX5_init_26 rfl (lv_at hl 0 rfl) ?_
  refine lv_bipush (v := 10) hx hb dX5_init_27 (by decide) ?_
  refine lv_icmp_ge (tgt := 51) hx hb dX5_init_29 (by decide) (fun hc => ?_) (fun hc => ?_)
  · exact absurd hc (by decide)
  refine lv_aload_n hx hb dX5_init_32 rfl (lv_at hl 1 rfl) ?_
  refine va_get (D := D) (ci := 5) (v := .ref q3) (C := RX5) (T := TX5) (N := 3) hx hb hts jX5 hown hK hP 0 rfl rfl 2 (by decide) (hts _ (tg_at 228 (by decide +kernel) rfl)) (fun _ h9 => h9) rfl dX5_init_33 ?_
  refine lv_iload_n hx hb dX5_init_36 rfl (lv_at hl 0 rfl) ?_
  refine va_new (D := D) (ci := 0) (fs := [.int 0, .int 0, .int 0, .null]) (C := RX0) (T := TX0) (N := 4) hx hb hts jX0 tyX0 tyX0_ok hown (hts _ (tg_at 197 (by decide +kernel) rfl)) (hts _ (tg_at 198 (by decide +kernel) rfl)) (hts _ (tg_at 64 (by decide +kernel) rfl)) hK hP hD hS hA rfl (fun j hj => by rcases (show j = 0 ∨ j = 1 ∨ j = 2 ∨ j = 3 by omega) with rfl | rfl | rfl | rfl <;> rfl) (by decide) (by decide) dX5_init_37 (fun q8 H hP hD hS => ?_)
  refine W.widen (k := 8) (n := 38) (by decide) (by decide) ?_
  refine lv_dup hx hb dX5_init_40 rfl ?_
  refine kt_callN (As := []) (rst := fun z => [.ref z, .int 2, .ref q3]) hC hml hP hD hS hA (k_X0_init l q8) ⟨by decide, by decide⟩ ⟨by decide, by decide⟩ (by decide) (by decide +kernel) rfl mi_X0_init hd_X0_init rfl hl.1 (Nat.le_of_ble_eq_true rfl) dX5_init_41 (fun f9 H locs hP hD hS => ?_)
  refine W.widen (k := 9) (n := 42) (by decide) (by decide) ?_
  refine va_astq hx hb hK hP hD hS 3 2 8 0 rfl (r := (RX0, TX0, 4)) rfl rfl rfl (bin_in (by decide)) dX5_init_44 (fun H locs hP hD hS => ?_)
  have hP : va_P D vwCl ([(h0, .inr (5, [.ref (f2 0), .int 0, .ref q3]))] ++ sM cy f2 ++ [(q3, .inl (cy 10, 10, .inr (.inr (.inr (.inr (va_up (va_up (va_up (fun _ => none) (0 : Int32).toNatClampNeg (some (f5 0))) (1 : Int32).toNatClampNeg (some (f7 0))) (2 : Int32).toNatClampNeg (some (f9 0))))))))] ++ sM cy f5 ++ sM cy f7 ++ sM cy f9) H := hP
  have hD : va_D A ([(h0, .inr (5, [.ref (f2 0), .int 0, .ref q3]))] ++ sM cy f2 ++ [(q3, .inl (cy 10, 10, .inr (.inr (.inr (.inr (va_up (va_up (va_up (fun _ => none) (0 : Int32).toNatClampNeg (some (f5 0))) (1 : Int32).toNatClampNeg (some (f7 0))) (2 : Int32).toNatClampNeg (some (f9 0))))))))] ++ sM cy f5 ++ sM cy f7 ++ sM cy f9) := hD
  refine lv_iinc (v := 3) (lv' := [(1, .int 3), (0, .ref h0)]) hx hb dX5_init_45 hl (k := 0) rfl (by decide) (by decide) rfl (fun ls hl => ?_)
  refine lv_goto (tgt := 26) hx hb dX5_init_48 (by decide) ?_
  refine lv_iload_n hx hb dX5_init_26 rfl (lv_at hl 0 rfl) ?_
  refine lv_bipush (v := 10) hx hb dX5_init_27 (by decide) ?_
  refine lv_icmp_ge (tgt := 51) hx hb dX5_init_29 (by decide) (fun hc => ?_) (fun hc => ?_)
  · exact absurd hc (by decide)
  refine lv_aload_n hx hb dX5_init_32 rfl (lv_at hl 1 rfl) ?_
  refine va_get (D := D) (ci := 5) (v := .ref q3) (C := RX5) (T := TX5) (N := 3) hx hb hts jX5 hown hK hP 0 rfl rfl 2 (by decide) (hts _ (tg_at 228 (by decide +kernel) rfl)) (fun _ h9 => h9) rfl dX5_init_33 ?_
  refine lv_iload_n hx hb dX5_init_36 rfl (lv_at hl 0 rfl) ?_
  refine va_new (D := D) (ci := 0) (fs := [.int 0, .int 0, .int 0, .null]) (C := RX0) (T := TX0) (N := 4) hx hb hts jX0 tyX0 tyX0_ok hown (hts _ (tg_at 197 (by decide +kernel) rfl)) (hts _ (tg_at 198 (by decide +kernel) rfl)) (hts _ (tg_at 64 (by decide +kernel) rfl)) hK hP hD hS hA rfl (fun j hj => by rcases (show j = 0 ∨ j = 1 ∨ j = 2 ∨ j = 3 by omega) with rfl | rfl | rfl | rfl <;> rfl) (by decide) (by decide) dX5_init_37 (fun q10 H hP hD hS => ?_)
  refine W.widen (k := 10) (n := 46) (by decide) (by decide) ?_
  refine lv_dup hx hb dX5_init_40 rfl ?_
  refine kt_callN (As := []) (rst := fun z => [.ref z, .int 3, .ref q3]) hC hml hP hD hS hA (k_X0_init l q10) ⟨by decide, by decide⟩ ⟨by decide, by decide⟩ (by decide) (by decide +kernel) rfl mi_X0_init hd_X0_init rfl hl.1 (Nat.le_of_ble_eq_true rfl) dX5_init_41 (fun f11 H locs hP hD hS => ?_)
  refine W.widen (k := 11) (n := 50) (by decide) (by decide) ?_
  refine va_astq hx hb hK hP hD hS 3 2 10 0 rfl (r := (RX0, TX0, 4)) rfl rfl rfl (bin_in (by decide)) dX5_init_44 (fun H locs hP hD hS => ?_)
  have hP : va_P D vwCl ([(h0, .inr (5, [.ref (f2 0), .int 0, .ref q3]))] ++ sM cy f2 ++ [(q3, .inl (cy 10, 10, .inr (.inr (.inr (.inr (va_up (va_up (va_up (va_up (fun _ => none) (0 : Int32).toNatClampNeg (some (f5 0))) (1 : Int32).toNatClampNeg (some (f7 0))) (2 : Int32).toNatClampNeg (some (f9 0))) (3 : Int32).toNatClampNeg (some (f11 0))))))))] ++ sM cy f5 ++ sM cy f7 ++ sM cy f9 ++ sM cy f11) H := hP
  have hD : va_D A ([(h0, .inr (5, [.ref (f2 0), .int 0, .ref q3]))] ++ sM cy f2 ++ [(q3, .inl (cy 10, 10, .inr (.inr (.inr (.inr (va_up (va_up (va_up (va_up (fun _ => none) (0 : Int32).toNatClampNeg (some (f5 0))) (1 : Int32).toNatClampNeg (some (f7 0))) (2 : Int32).toNatClampNeg (some (f9 0))) (3 : Int32).toNatClampNeg (some (f11 0))))))))] ++ sM cy f5 ++ sM cy f7 ++ sM cy f9 ++ sM cy f11) := hD
  refine lv_iinc (v := 4) (lv' := [(1, .int 4), (0, .ref h0)]) hx hb dX5_init_45 hl (k := 0) rfl (by decide) (by decide) rfl (fun ls hl => ?_)
  refine lv_goto (tgt := 26) hx hb dX5_init_48 (by decide) ?_
  refine lv_iload_n hx hb dX5_init_26 rfl (lv_at hl 0 rfl) ?_
  refine lv_bipush (v := 10) hx hb dX5_init_27 (by decide) ?_
  refine lv_icmp_ge (tgt := 51) hx hb dX5_init_29 (by decide) (fun hc => ?_) (fun hc => ?_)
  · exact absurd hc (by decide)
  refine lv_aload_n hx hb dX5_init_32 rfl (lv_at hl 1 rfl) ?_
  refine va_get (D := D) (ci := 5) (v := .ref q3) (C := RX5) (T := TX5) (N := 3) hx hb hts jX5 hown hK hP 0 rfl rfl 2 (by decide) (hts _ (tg_at 228 (by decide +kernel) rfl)) (fun _ h9 => h9) rfl dX5_init_33 ?_
  refine lv_iload_n hx hb dX5_init_36 rfl (lv_at hl 0 rfl) ?_
  refine va_new (D := D) (ci := 0) (fs := [.int 0, .int 0, .int 0, .null]) (C := RX0) (T := TX0) (N := 4) hx hb hts jX0 tyX0 tyX0_ok hown (hts _ (tg_at 197 (by decide +kernel) rfl)) (hts _ (tg_at 198 (by decide +kernel) rfl)) (hts _ (tg_at 64 (by decide +kernel) rfl)) hK hP hD hS hA rfl (fun j hj => by rcases (show j = 0 ∨ j = 1 ∨ j = 2 ∨ j = 3 by omega) with rfl | rfl | rfl | rfl <;> rfl) (by decide) (by decide) dX5_init_37 (fun q12 H hP hD hS => ?_)
  refine W.widen (k := 12) (n := 54) (by decide) (by decide) ?_
  refine lv_dup hx hb dX5_init_40 rfl ?_
  refine kt_callN (As := []) (rst := fun z => [.ref z, .int 4, .ref q3]) hC hml hP hD hS hA (k_X0_init l q12) ⟨by decide, by decide⟩ ⟨by decide, by decide⟩ (by decide) (by decide +kernel) rfl mi_X0_init hd_X0_init rfl hl.1 (Nat.le_of_ble_eq_true rfl) dX5_init_41 (fun f13 H locs hP hD hS => ?_)
  refine W.widen (k := 13) (n := 58) (by decide) (by decide) ?_
  refine va_astq hx hb hK hP hD hS 3 2 12 0 rfl (r := (RX0, TX0, 4)) rfl rfl rfl (bin_in (by decide)) dX5_init_44 (fun H locs hP hD hS => ?_)
  have hP : va_P D vwCl ([(h0, .inr (5, [.ref (f2 0), .int 0, .ref q3]))] ++ sM cy f2 ++ [(q3, .inl (cy 10, 10, .inr (.inr (.inr (.inr (va_up (va_up (va_up (va_up (va_up (fun _ => none) (0 : Int32).toNatClampNeg (some (f5 0))) (1 : Int32).toNatClampNeg (some (f7 0))) (2 : Int32).toNatClampNeg (some (f9 0))) (3 : Int32).toNatClampNeg (some (f11 0))) (4 : Int32).toNatClampNeg (some (f13 0))))))))] ++ sM cy f5 ++ sM cy f7 ++ sM cy f9 ++ sM cy f11 ++ sM cy f13) H := hP
  have hD : va_D A ([(h0, .inr (5, [.ref (f2 0), .int 0, .ref q3]))] ++ sM cy f2 ++ [(q3, .inl (cy 10, 10, .inr (.inr (.inr (.inr (va_up (va_up (va_up (va_up (va_up (fun _ => none) (0 : Int32).toNatClampNeg (some (f5 0))) (1 : Int32).toNatClampNeg (some (f7 0))) (2 : Int32).toNatClampNeg (some (f9 0))) (3 : Int32).toNatClampNeg (some (f11 0))) (4 : Int32).toNatClampNeg (some (f13 0))))))))] ++ sM cy f5 ++ sM cy f7 ++ sM cy f9 ++ sM cy f11 ++ sM cy f13) := hD
  refine lv_iinc (v := 5) (lv' := [(1, .int 5), (0, .ref h0)]) hx hb dX5_init_45 hl (k := 0) rfl (by decide) (by decide) rfl (fun ls hl => ?_)
  refine lv_goto (tgt := 26) hx hb dX5_init_48 (by decide) ?_
  refine lv_iload_n hx hb dX5_init_26 rfl (lv_at hl 0 rfl) ?_
  refine lv_bipush (v := 10) hx hb dX5_init_27 (by decide) ?_
  refine lv_icmp_ge (tgt := 51) hx hb dX5_init_29 (by decide) (fun hc => ?_) (fun hc => ?_)
  · exact absurd hc (by decide)
  refine lv_aload_n hx hb dX5_init_32 rfl (lv_at hl 1 rfl) ?_
  refine va_get (D := D) (ci := 5) (v := .ref q3) (C := RX5) (T := TX5) (N := 3) hx hb hts jX5 hown hK hP 0 rfl rfl 2 (by decide) (hts _ (tg_at 228 (by decide +kernel) rfl)) (fun _ h9 => h9) rfl dX5_init_33 ?_
  refine lv_iload_n hx hb dX5_init_36 rfl (lv_at hl 0 rfl) ?_
  refine va_new (D := D) (ci := 0) (fs := [.int 0, .int 0, .int 0, .null]) (C := RX0) (T := TX0) (N := 4) hx hb hts jX0 tyX0 tyX0_ok hown (hts _ (tg_at 197 (by decide +kernel) rfl)) (hts _ (tg_at 198 (by decide +kernel) rfl)) (hts _ (tg_at 64 (by decide +kernel) rfl)) hK hP hD hS hA rfl (fun j hj => by rcases (show j = 0 ∨ j = 1 ∨ j = 2 ∨ j = 3 by omega) with rfl | rfl | rfl | rfl <;> rfl) (by decide) (by decide) dX5_init_37 (fun q14 H hP hD hS => ?_)
  refine W.widen (k := 14) (n := 62) (by decide) (by decide) ?_
  refine lv_dup hx hb dX5_init_40 rfl ?_
  refine kt_callN (As := []) (rst := fun z => [.ref z, .int 5, .ref q3]) hC hml hP hD hS hA (k_X0_init l q14) ⟨by decide, by decide⟩ ⟨by decide, by decide⟩ (by decide) (by decide +kernel) rfl mi_X0_init hd_X0_init rfl hl.1 (Nat.le_of_ble_eq_true rfl) dX5_init_41 (fun f15 H locs hP hD hS => ?_)
  refine W.widen (k := 15) (n := 66) (by decide) (by decide) ?_
  refine va_astq hx hb hK hP hD hS 3 2 14 0 rfl (r := (RX0, TX0, 4)) rfl rfl rfl (bin_in (by decide)) dX5_init_44 (fun H locs hP hD hS => ?_)
  have hP : va_P D vwCl ([(h0, .inr (5, [.ref (f2 0), .int 0, .ref q3]))] ++ sM cy f2 ++ [(q3, .inl (cy 10, 10, .inr (.inr (.inr (.inr (va_up (va_up (va_up (va_up (va_up (va_up (fun _ => none) (0 : Int32).toNatClampNeg (some (f5 0))) (1 : Int32).toNatClampNeg (some (f7 0))) (2 : Int32).toNatClampNeg (some (f9 0))) (3 : Int32).toNatClampNeg (some (f11 0))) (4 : Int32).toNatClampNeg (some (f13 0))) (5 : Int32).toNatClampNeg (some (f15 0))))))))] ++ sM cy f5 ++ sM cy f7 ++ sM cy f9 ++ sM cy f11 ++ sM cy f13 ++ sM cy f15) H := hP
  have hD : va_D A ([(h0, .inr (5, [.ref (f2 0), .int 0, .ref q3]))] ++ sM cy f2 ++ [(q3, .inl (cy 10, 10, .inr (.inr (.inr (.inr (va_up (va_up (va_up (va_up (va_up (va_up (fun _ => none) (0 : Int32).toNatClampNeg (some (f5 0))) (1 : Int32).toNatClampNeg (some (f7 0))) (2 : Int32).toNatClampNeg (some (f9 0))) (3 : Int32).toNatClampNeg (some (f11 0))) (4 : Int32).toNatClampNeg (some (f13 0))) (5 : Int32).toNatClampNeg (some (f15 0))))))))] ++ sM cy f5 ++ sM cy f7 ++ sM cy f9 ++ sM cy f11 ++ sM cy f13 ++ sM cy f15) := hD
  refine lv_iinc (v := 6) (lv' := [(1, .int 6), (0, .ref h0)]) hx hb dX5_init_45 hl (k := 0) rfl (by decide) (by decide) rfl (fun ls hl => ?_)
  refine lv_goto (tgt := 26) hx hb dX5_init_48 (by decide) ?_
  refine lv_iload_n hx hb dX5_init_26 rfl (lv_at hl 0 rfl) ?_
  refine lv_bipush (v := 10) hx hb dX5_init_27 (by decide) ?_
  refine lv_icmp_ge (tgt := 51) hx hb dX5_init_29 (by decide) (fun hc => ?_) (fun hc => ?_)
  · exact absurd hc (by decide)
  refine lv_aload_n hx hb dX5_init_32 rfl (lv_at hl 1 rfl) ?_
  refine va_get (D := D) (ci := 5) (v := .ref q3) (C := RX5) (T := TX5) (N := 3) hx hb hts jX5 hown hK hP 0 rfl rfl 2 (by decide) (hts _ (tg_at 228 (by decide +kernel) rfl)) (fun _ h9 => h9) rfl dX5_init_33 ?_
  refine lv_iload_n hx hb dX5_init_36 rfl (lv_at hl 0 rfl) ?_
  refine va_new (D := D) (ci := 0) (fs := [.int 0, .int 0, .int 0, .null]) (C := RX0) (T := TX0) (N := 4) hx hb hts jX0 tyX0 tyX0_ok hown (hts _ (tg_at 197 (by decide +kernel) rfl)) (hts _ (tg_at 198 (by decide +kernel) rfl)) (hts _ (tg_at 64 (by decide +kernel) rfl)) hK hP hD hS hA rfl (fun j hj => by rcases (show j = 0 ∨ j = 1 ∨ j = 2 ∨ j = 3 by omega) with rfl | rfl | rfl | rfl <;> rfl) (by decide) (by decide) dX5_init_37 (fun q16 H hP hD hS => ?_)
  refine W.widen (k := 16) (n := 70) (by decide) (by decide) ?_
  refine lv_dup hx hb dX5_init_40 rfl ?_
  refine kt_callN (As := []) (rst := fun z => [.ref z, .int 6, .ref q3]) hC hml hP hD hS hA (k_X0_init l q16) ⟨by decide, by decide⟩ ⟨by decide, by decide⟩ (by decide) (by decide +kernel) rfl mi_X0_init hd_X0_init rfl hl.1 (Nat.le_of_ble_eq_true rfl) dX5_init_41 (fun f17 H locs hP hD hS => ?_)
  refine W.widen (k := 17) (n := 74) (by decide) (by decide) ?_
  refine va_astq hx hb hK hP hD hS 3 2 16 0 rfl (r := (RX0, TX0, 4)) rfl rfl rfl (bin_in (by decide)) dX5_init_44 (fun H locs hP hD hS => ?_)
  have hP : va_P D vwCl ([(h0, .inr (5, [.ref (f2 0), .int 0, .ref q3]))] ++ sM cy f2 ++ [(q3, .inl (cy 10, 10, .inr (.inr (.inr (.inr (va_up (va_up (va_up (va_up (va_up (va_up (va_up (fun _ => none) (0 : Int32).toNatClampNeg (some (f5 0))) (1 : Int32).toNatClampNeg (some (f7 0))) (2 : Int32).toNatClampNeg (some (f9 0))) (3 : Int32).toNatClampNeg (some (f11 0))) (4 : Int32).toNatClampNeg (some (f13 0))) (5 : Int32).toNatClampNeg (some (f15 0))) (6 : Int32).toNatClampNeg (some (f17 0))))))))] ++ sM cy f5 ++ sM cy f7 ++ sM cy f9 ++ sM cy f11 ++ sM cy f13 ++ sM cy f15 ++ sM cy f17) H := hP
  have hD : va_D A ([(h0, .inr (5, [.ref (f2 0), .int 0, .ref q3]))] ++ sM cy f2 ++ [(q3, .inl (cy 10, 10, .inr (.inr (.inr (.inr (va_up (va_up (va_up (va_up (va_up (va_up (va_up (fun _ => none) (0 : Int32).toNatClampNeg (some (f5 0))) (1 : Int32).toNatClampNeg (some (f7 0))) (2 : Int32).toNatClampNeg (some (f9 0))) (3 : Int32).toNatClampNeg (some (f11 0))) (4 : Int32).toNatClampNeg (some (f13 0))) (5 : Int32).toNatClampNeg (some (f15 0))) (6 : Int32).toNatClampNeg (some (f17 0))))))))] ++ sM cy f5 ++ sM cy f7 ++ sM cy f9 ++ sM cy f11 ++ sM cy f13 ++ sM cy f15 ++ sM cy f17) := hD
  refine lv_iinc (v := 7) (lv' := [(1, .int 7), (0, .ref h0)]) hx hb dX5_init_45 hl (k := 0) rfl (by decide) (by decide) rfl (fun ls hl => ?_)
  refine lv_goto (tgt := 26) hx hb dX5_init_48 (by decide) ?_
  refine lv_iload_n hx hb dX5_init_26 rfl (lv_at hl 0 rfl) ?_
  refine lv_bipush (v := 10) hx hb dX5_init_27 (by decide) ?_
  refine lv_icmp_ge (tgt := 51) hx hb dX5_init_29 (by decide) (fun hc => ?_) (fun hc => ?_)
  · exact absurd hc (by decide)
  refine lv_aload_n hx hb dX5_init_32 rfl (lv_at hl 1 rfl) ?_
  refine va_get (D := D) (ci := 5) (v := .ref q3) (C := RX5) (T := TX5) (N := 3) hx hb hts jX5 hown hK hP 0 rfl rfl 2 (by decide) (hts _ (tg_at 228 (by decide +kernel) rfl)) (fun _ h9 => h9) rfl dX5_init_33 ?_
  refine lv_iload_n hx hb dX5_init_36 rfl (lv_at hl 0 rfl) ?_
  refine va_new (D := D) (ci := 0) (fs := [.int 0, .int 0, .int 0, .null]) (C := RX0) (T := TX0) (N := 4) hx hb hts jX0 tyX0 tyX0_ok hown (hts _ (tg_at 197 (by decide +kernel) rfl)) (hts _ (tg_at 198 (by decide +kernel) rfl)) (hts _ (tg_at 64 (by decide +kernel) rfl)) hK hP hD hS hA rfl (fun j hj => by rcases (show j = 0 ∨ j = 1 ∨ j = 2 ∨ j = 3 by omega) with rfl | rfl | rfl | rfl <;> rfl) (by decide) (by decide) dX5_init_37 (fun q18 H hP hD hS => ?_)
  refine W.widen (k := 18) (n := 78) (by decide) (by decide) ?_
  refine lv_dup hx hb dX5_init_40 rfl ?_
  refine kt_callN (As := []) (rst := fun z => [.ref z, .int 7, .ref q3]) hC hml hP hD hS hA (k_X0_init l q18) ⟨by decide, by decide⟩ ⟨by decide, by decide⟩ (by decide) (by decide +kernel) rfl mi_X0_init hd_X0_init rfl hl.1 (Nat.le_of_ble_eq_true rfl) dX5_init_41 (fun f19 H locs hP hD hS => ?_)
  refine W.widen (k := 19) (n := 82) (by decide) (by decide) ?_
  refine va_astq hx hb hK hP hD hS 3 2 18 0 rfl (r := (RX0, TX0, 4)) rfl rfl rfl (bin_in (by decide)) dX5_init_44 (fun H locs hP hD hS => ?_)
  have hP : va_P D vwCl ([(h0, .inr (5, [.ref (f2 0), .int 0, .ref q3]))] ++ sM cy f2 ++ [(q3, .inl (cy 10, 10, .inr (.inr (.inr (.inr (va_up (va_up (va_up (va_up (va_up (va_up (va_up (va_up (fun _ => none) (0 : Int32).toNatClampNeg (some (f5 0))) (1 : Int32).toNatClampNeg (some (f7 0))) (2 : Int32).toNatClampNeg (some (f9 0))) (3 : Int32).toNatClampNeg (some (f11 0))) (4 : Int32).toNatClampNeg (some (f13 0))) (5 : Int32).toNatClampNeg (some (f15 0))) (6 : Int32).toNatClampNeg (some (f17 0))) (7 : Int32).toNatClampNeg (some (f19 0))))))))] ++ sM cy f5 ++ sM cy f7 ++ sM cy f9 ++ sM cy f11 ++ sM cy f13 ++ sM cy f15 ++ sM cy f17 ++ sM cy f19) H := hP
  have hD : va_D A ([(h0, .inr (5, [.ref (f2 0), .int 0, .ref q3]))] ++ sM cy f2 ++ [(q3, .inl (cy 10, 10, .inr (.inr (.inr (.inr (va_up (va_up (va_up (va_up (va_up (va_up (va_up (va_up (fun _ => none) (0 : Int32).toNatClampNeg (some (f5 0))) (1 : Int32).toNatClampNeg (some (f7 0))) (2 : Int32).toNatClampNeg (some (f9 0))) (3 : Int32).toNatClampNeg (some (f11 0))) (4 : Int32).toNatClampNeg (some (f13 0))) (5 : Int32).toNatClampNeg (some (f15 0))) (6 : Int32).toNatClampNeg (some (f17 0))) (7 : Int32).toNatClampNeg (some (f19 0))))))))] ++ sM cy f5 ++ sM cy f7 ++ sM cy f9 ++ sM cy f11 ++ sM cy f13 ++ sM cy f15 ++ sM cy f17 ++ sM cy f19) := hD
  refine lv_iinc (v := 8) (lv' := [(1, .int 8), (0, .ref h0)]) hx hb dX5_init_45 hl (k := 0) rfl (by decide) (by decide) rfl (fun ls hl => ?_)
  refine lv_goto (tgt := 26) hx hb dX5_init_48 (by decide) ?_
  refine lv_iload_n hx hb dX5_init_26 rfl (lv_at hl 0 rfl) ?_
  refine lv_bipush (v := 10) hx hb dX5_init_27 (by decide) ?_
  refine lv_icmp_ge (tgt := 51) hx hb dX5_init_29 (by decide) (fun hc => ?_) (fun hc => ?_)
  · exact absurd hc (by decide)
  refine lv_aload_n hx hb dX5_init_32 rfl (lv_at hl 1 rfl) ?_
  refine va_get (D := D) (ci := 5) (v := .ref q3) (C := RX5) (T := TX5) (N := 3) hx hb hts jX5 hown hK hP 0 rfl rfl 2 (by decide) (hts _ (tg_at 228 (by decide +kernel) rfl)) (fun _ h9 => h9) rfl dX5_init_33 ?_
  refine lv_iload_n hx hb dX5_init_36 rfl (lv_at hl 0 rfl) ?_
  refine va_new (D := D) (ci := 0) (fs := [.int 0, .int 0, .int 0, .null]) (C := RX0) (T := TX0) (N := 4) hx hb hts jX0 tyX0 tyX0_ok hown (hts _ (tg_at 197 (by decide +kernel) rfl)) (hts _ (tg_at 198 (by decide +kernel) rfl)) (hts _ (tg_at 64 (by decide +kernel) rfl)) hK hP hD hS hA rfl (fun j hj => by rcases (show j = 0 ∨ j = 1 ∨ j = 2 ∨ j = 3 by omega) with rfl | rfl | rfl | rfl <;> rfl) (by decide) (by decide) dX5_init_37 (fun q20 H hP hD hS => ?_)
  refine W.widen (k := 20) (n := 86) (by decide) (by decide) ?_
  refine lv_dup hx hb dX5_init_40 rfl ?_
  refine kt_callN (As := []) (rst := fun z => [.ref z, .int 8, .ref q3]) hC hml hP hD hS hA (k_X0_init l q20) ⟨by decide, by decide⟩ ⟨by decide, by decide⟩ (by decide) (by decide +kernel) rfl mi_X0_init hd_X0_init rfl hl.1 (Nat.le_of_ble_eq_true rfl) dX5_init_41 (fun f21 H locs hP hD hS => ?_)
  refine W.widen (k := 21) (n := 90) (by decide) (by decide) ?_
  refine va_astq hx hb hK hP hD hS 3 2 20 0 rfl (r := (RX0, TX0, 4)) rfl rfl rfl (bin_in (by decide)) dX5_init_44 (fun H locs hP hD hS => ?_)
  have hP : va_P D vwCl ([(h0, .inr (5, [.ref (f2 0), .int 0, .ref q3]))] ++ sM cy f2 ++ [(q3, .inl (cy 10, 10, .inr (.inr (.inr (.inr (va_up (va_up (va_up (va_up (va_up (va_up (va_up (va_up (va_up (fun _ => none) (0 : Int32).toNatClampNeg (some (f5 0))) (1 : Int32).toNatClampNeg (some (f7 0))) (2 : Int32).toNatClampNeg (some (f9 0))) (3 : Int32).toNatClampNeg (some (f11 0))) (4 : Int32).toNatClampNeg (some (f13 0))) (5 : Int32).toNatClampNeg (some (f15 0))) (6 : Int32).toNatClampNeg (some (f17 0))) (7 : Int32).toNatClampNeg (some (f19 0))) (8 : Int32).toNatClampNeg (some (f21 0))))))))] ++ sM cy f5 ++ sM cy f7 ++ sM cy f9 ++ sM cy f11 ++ sM cy f13 ++ sM cy f15 ++ sM cy f17 ++ sM cy f19 ++ sM cy f21) H := hP
  have hD : va_D A ([(h0, .inr (5, [.ref (f2 0), .int 0, .ref q3]))] ++ sM cy f2 ++ [(q3, .inl (cy 10, 10, .inr (.inr (.inr (.inr (va_up (va_up (va_up (va_up (va_up (va_up (va_up (va_up (va_up (fun _ => none) (0 : Int32).toNatClampNeg (some (f5 0))) (1 : Int32).toNatClampNeg (some (f7 0))) (2 : Int32).toNatClampNeg (some (f9 0))) (3 : Int32).toNatClampNeg (some (f11 0))) (4 : Int32).toNatClampNeg (some (f13 0))) (5 : Int32).toNatClampNeg (some (f15 0))) (6 : Int32).toNatClampNeg (some (f17 0))) (7 : Int32).toNatClampNeg (some (f19 0))) (8 : Int32).toNatClampNeg (some (f21 0))))))))] ++ sM cy f5 ++ sM cy f7 ++ sM cy f9 ++ sM cy f11 ++ sM cy f13 ++ sM cy f15 ++ sM cy f17 ++ sM cy f19 ++ sM cy f21) := hD
  refine lv_iinc (v := 9) (lv' := [(1, .int 9), (0, .ref h0)]) hx hb dX5_init_45 hl (k := 0) rfl (by decide) (by decide) rfl (fun ls hl => ?_)
  refine lv_goto (tgt := 26) hx hb dX5_init_48 (by decide) ?_
  refine lv_iload_n hx hb dX5_init_26 rfl (lv_at hl 0 rfl) ?_
  refine lv_bipush (v := 10) hx hb dX5_init_27 (by decide) ?_
  refine lv_icmp_ge (tgt := 51) hx hb dX5_init_29 (by decide) (fun hc => ?_) (fun hc => ?_)
  · exact absurd hc (by decide)
  refine lv_aload_n hx hb dX5_init_32 rfl (lv_at hl 1 rfl) ?_
  refine va_get (D := D) (ci := 5) (v := .ref q3) (C := RX5) (T := TX5) (N := 3) hx hb hts jX5 hown hK hP 0 rfl rfl 2 (by decide) (hts _ (tg_at 228 (by decide +kernel) rfl)) (fun _ h9 => h9) rfl dX5_init_33 ?_
  refine lv_iload_n hx hb dX5_init_36 rfl (lv_at hl 0 rfl) ?_
  refine va_new (D := D) (ci := 0) (fs := [.int 0, .int 0, .int 0, .null]) (C := RX0) (T := TX0) (N := 4) hx hb hts jX0 tyX0 tyX0_ok hown (hts _ (tg_at 197 (by decide +kernel) rfl)) (hts _ (tg_at 198 (by decide +kernel) rfl)) (hts _ (tg_at 64 (by decide +kernel) rfl)) hK hP hD hS hA rfl (fun j hj => by rcases (show j = 0 ∨ j = 1 ∨ j = 2 ∨ j = 3 by omega) with rfl | rfl | rfl | rfl <;> rfl) (by decide) (by decide) dX5_init_37 (fun q22 H hP hD hS => ?_)
  refine W.widen (k := 22) (n := 94) (by decide) (by decide) ?_
  refine lv_dup hx hb dX5_init_40 rfl ?_
  refine kt_callN (As := []) (rst := fun z => [.ref z, .int 9, .ref q3]) hC hml hP hD hS hA (k_X0_init l q22) ⟨by decide, by decide⟩ ⟨by decide, by decide⟩ (by decide) (by decide +kernel) rfl mi_X0_init hd_X0_init rfl hl.1 (Nat.le_of_ble_eq_true rfl) dX5_init_41 (fun f23 H locs hP hD hS => ?_)
  refine W.widen (k := 23) (n := 98) (by decide) (by decide) ?_
  refine va_astq hx hb hK hP hD hS 3 2 22 0 rfl (r := (RX0, TX0, 4)) rfl rfl rfl (bin_in (by decide)) dX5_init_44 (fun H locs hP hD hS => ?_)
  have hP : va_P D vwCl ([(h0, .inr (5, [.ref (f2 0), .int 0, .ref q3]))] ++ sM cy f2 ++ [(q3, .inl (cy 10, 10, .inr (.inr (.inr (.inr (va_up (va_up (va_up (va_up (va_up (va_up (va_up (va_up (va_up (va_up (fun _ => none) (0 : Int32).toNatClampNeg (some (f5 0))) (1 : Int32).toNatClampNeg (some (f7 0))) (2 : Int32).toNatClampNeg (some (f9 0))) (3 : Int32).toNatClampNeg (some (f11 0))) (4 : Int32).toNatClampNeg (some (f13 0))) (5 : Int32).toNatClampNeg (some (f15 0))) (6 : Int32).toNatClampNeg (some (f17 0))) (7 : Int32).toNatClampNeg (some (f19 0))) (8 : Int32).toNatClampNeg (some (f21 0))) (9 : Int32).toNatClampNeg (some (f23 0))))))))] ++ sM cy f5 ++ sM cy f7 ++ sM cy f9 ++ sM cy f11 ++ sM cy f13 ++ sM cy f15 ++ sM cy f17 ++ sM cy f19 ++ sM cy f21 ++ sM cy f23) H := hP
  have hD : va_D A ([(h0, .inr (5, [.ref (f2 0), .int 0, .ref q3]))] ++ sM cy f2 ++ [(q3, .inl (cy 10, 10, .inr (.inr (.inr (.inr (va_up (va_up (va_up (va_up (va_up (va_up (va_up (va_up (va_up (va_up (fun _ => none) (0 : Int32).toNatClampNeg (some (f5 0))) (1 : Int32).toNatClampNeg (some (f7 0))) (2 : Int32).toNatClampNeg (some (f9 0))) (3 : Int32).toNatClampNeg (some (f11 0))) (4 : Int32).toNatClampNeg (some (f13 0))) (5 : Int32).toNatClampNeg (some (f15 0))) (6 : Int32).toNatClampNeg (some (f17 0))) (7 : Int32).toNatClampNeg (some (f19 0))) (8 : Int32).toNatClampNeg (some (f21 0))) (9 : Int32).toNatClampNeg (some (f23 0))))))))] ++ sM cy f5 ++ sM cy f7 ++ sM cy f9 ++ sM cy f11 ++ sM cy f13 ++ sM cy f15 ++ sM cy f17 ++ sM cy f19 ++ sM cy f21 ++ sM cy f23) := hD
  refine lv_iinc (v := 10) (lv' := [(1, .int 10), (0, .ref h0)]) hx hb dX5_init_45 hl (k := 0) rfl (by decide) (by decide) rfl (fun ls hl => ?_)
  refine lv_goto (tgt := 26) hx hb dX5_init_48 (by decide) ?_
  refine lv_iload_n hx hb dX5_init_26 rfl (lv_at hl 0 rfl) ?_
  refine lv_bipush (v := 10) hx hb dX5_init_27 (by decide) ?_
  refine lv_icmp_ge (tgt := 51) hx hb dX5_init_29 (by decide) (fun hc => ?_) (fun hc => ?_)
  rotate_left
  · exact absurd hc (by decide)
  obtain ⟨hP, hD⟩ := kt_arr (k := 3) (g := fun i => some ((fun j => [h0, f2 0, f2 1, q3, f5 0, f5 1, f7 0, f7 1, f9 0, f9 1, f11 0, f11 1, f13 0, f13 1, f15 0, f15 1, f17 0, f17 1, f19 0, f19 1, f21 0, f21 1, f23 0, f23 1].getD j 0) (3 + 1 + 2 * i))) hP hD rfl (fun i hi => by
    rcases (show i = 0 ∨ i = 1 ∨ i = 2 ∨ i = 3 ∨ i = 4 ∨ i = 5 ∨ i = 6 ∨ i = 7 ∨ i = 8 ∨ i = 9 by omega) with rfl | rfl | rfl | rfl | rfl | rfl | rfl | rfl | rfl | rfl <;> rfl)
  subst hAe
  exact kt_ret (fun i => [h0, f2 0, f2 1, q3, f5 0, f5 1, f7 0, f7 1, f9 0, f9 1, f11 0, f11 1, f13 0, f13 1, f15 0, f15 1, f17 0, f17 1, f19 0, f19 1, f21 0, f21 1, f23 0, f23 1].getD i 0) hC hr hlk rfl hP hD hS rfl rfl dX5_init_51
set_option maxHeartbeats 40000000 in
set_option maxRecDepth 100000 in
theorem k_X1_init (l : Launch) {D : va_G} {cy : Nat → ClassId} (h0 : Nat) (w : Int32) (hw : w = 0 ∨ w = 1) : Kt l 2 17 75 yX1_init cX1_init 3 D cy h0 (.inr (1, [.int 0, .int 0, .null, .int 0, .null, .null])) [.int w] (sP cy w) := by
  refine Kt_of (by decide) (Nat.le_of_ble_eq_true rfl) rfl (fun p e s m below meth c ls A hAe hC hin hml hr hlk hP hD hS hA hl => ?_)
  have hx := hC.1
  have hb := hC.2.1
  have hts := hC.2.2.1
  have hown := hC.2.2.2.1
  have hK := hC.2.2.2.2.1
  have hl : lv_has ls 3 [(0, .ref h0), (1, .int w)] := hl
  refine lv_aload_n hx hb dX1_init_0 rfl (lv_at hl 0 rfl) ?_
  refine W.objInit hx hb hown (hts _ (tg_at 290 (by decide +kernel) rfl)) (hts _ (tg_at 75 (by decide +kernel) rfl)) (hts _ (tg_at 76 (by decide +kernel) rfl)) rfl (by rw [hml]; exact hl.1) rfl dX1_init_1 (Nat.le_of_ble_eq_true rfl) (Nat.le_of_ble_eq_true rfl) ?_
  refine W.eq (g2 := F0 m 4 ls []) rfl ?_
  refine lv_aload_n hx hb dX1_init_4 rfl (lv_at hl 0 rfl) ?_
  refine lv_bipush (v := -9) hx hb dX1_init_5 (by decide) ?_
  refine va_put (D := D) (ci := 1) (v := .int (-9)) (ty := tyX1 1) (C := RX1) (T := TX1) (N := 6) hx hb hts jX1 tyX1 tyX1_ok nmX1 hown hK hP hD hS 0 rfl rfl 1 (by decide) (hts _ (tg_at 295 (by decide +kernel) rfl)) (fun _ h9 => h9) rfl (tyX1_ok 1 (by decide)) rfl rfl (Nat.le_of_ble_eq_true rfl) dX1_init_7 (fun H locs hP hD hS => ?_)
  have hP : va_P D vwCl ([(h0, .inr (1, [.int 0, .int (-9), .null, .int 0, .null, .null]))]) H := hP
  have hD : va_D A ([(h0, .inr (1, [.int 0, .int (-9), .null, .int 0, .null, .null]))]) := hD
  refine lv_aload_n hx hb dX1_init_10 rfl (lv_at hl 0 rfl) ?_
  refine lv_bipush (v := 6) hx hb dX1_init_11 (by decide) ?_
  refine kt_newI hC hP hD hS hA (N' := 6) (by decide) (by decide) (by decide) (by decide) (by decide) (tg_at 113 (by decide +kernel) rfl) dX1_init_13 (fun q1 H hP hD hS => ?_)
  refine W.widen (k := 1) (n := 6) (by decide) (by decide) ?_
  refine va_putF (D := D) (ci := 1) (v := .ref q1) (ty := tyX1 2) (C := RX1) (T := TX1) (N := 6) hx hb hts jX1 tyX1 tyX1_ok nmX1 hown hK hP hD hS 0 rfl rfl 2 (by decide) (hts _ (tg_at 297 (by decide +kernel) rfl)) (fun _ h9 => h9) rfl hin rfl (tyX1_ok 2 (by decide)) rfl rfl (Nat.le_of_ble_eq_true rfl) dX1_init_15 (fun H locs hP hD hS => ?_)
  have hP : va_P D vwCl ([(h0, .inr (1, [.int 0, .int (-9), .ref q1, .int 0, .null, .null]))] ++ [(q1, .inl (cy 8, 6, .inl (fun _ => 0)))]) H := hP
  have hD : va_D A ([(h0, .inr (1, [.int 0, .int (-9), .ref q1, .int 0, .null, .null]))] ++ [(q1, .inl (cy 8, 6, .inl (fun _ => 0)))]) := hD
  refine lv_aload_n hx hb dX1_init_18 rfl (lv_at hl 0 rfl) ?_
  refine lv_bipush (v := 6) hx hb dX1_init_19 (by decide) ?_
  refine kt_newI hC hP hD hS hA (N' := 6) (by decide) (by decide) (by decide) (by decide) (by decide) (tg_at 113 (by decide +kernel) rfl) dX1_init_21 (fun q2 H hP hD hS => ?_)
  refine W.widen (k := 2) (n := 12) (by decide) (by decide) ?_
  refine va_putF (D := D) (ci := 1) (v := .ref q2) (ty := tyX1 4) (C := RX1) (T := TX1) (N := 6) hx hb hts jX1 tyX1 tyX1_ok nmX1 hown hK hP hD hS 0 rfl rfl 4 (by decide) (hts _ (tg_at 300 (by decide +kernel) rfl)) (fun _ h9 => h9) rfl hin rfl (tyX1_ok 4 (by decide)) rfl rfl (Nat.le_of_ble_eq_true rfl) dX1_init_23 (fun H locs hP hD hS => ?_)
  have hP : va_P D vwCl ([(h0, .inr (1, [.int 0, .int (-9), .ref q1, .int 0, .ref q2, .null]))] ++ [(q1, .inl (cy 8, 6, .inl (fun _ => 0)))] ++ [(q2, .inl (cy 8, 6, .inl (fun _ => 0)))]) H := hP
  have hD : va_D A ([(h0, .inr (1, [.int 0, .int (-9), .ref q1, .int 0, .ref q2, .null]))] ++ [(q1, .inl (cy 8, 6, .inl (fun _ => 0)))] ++ [(q2, .inl (cy 8, 6, .inl (fun _ => 0)))]) := hD
  refine lv_aload_n hx hb dX1_init_26 rfl (lv_at hl 0 rfl) ?_
  refine lv_bipush (v := 7) hx hb dX1_init_27 (by decide) ?_
  refine kt_newM hC hP hD hS hA (N' := 7) (by decide) (by decide) (by decide) (by decide) (by decide) (tg_at 291 (by decide +kernel) rfl) dX1_init_29 (fun q3 H hP hD hS => ?_)
  refine W.widen (k := 3) (n := 19) (by decide) (by decide) ?_
  refine va_putF (D := D) (ci := 1) (v := .ref q3) (ty := tyX1 5) (C := RX1) (T := TX1) (N := 6) hx hb hts jX1 tyX1 tyX1_ok nmX1 hown hK hP hD hS 0 rfl rfl 5 (by decide) (hts _ (tg_at 301 (by decide +kernel) rfl)) (fun _ h9 => h9) rfl hin rfl (tyX1_ok 5 (by decide)) rfl rfl (Nat.le_of_ble_eq_true rfl) dX1_init_32 (fun H locs hP hD hS => ?_)
  have hP : va_P D vwCl ([(h0, .inr (1, [.int 0, .int (-9), .ref q1, .int 0, .ref q2, .ref q3]))] ++ [(q1, .inl (cy 8, 6, .inl (fun _ => 0)))] ++ [(q2, .inl (cy 8, 6, .inl (fun _ => 0)))] ++ [(q3, .inl (cy 10, 7, .inr (.inr (.inr (.inr (fun _ => none))))))]) H := hP
  have hD : va_D A ([(h0, .inr (1, [.int 0, .int (-9), .ref q1, .int 0, .ref q2, .ref q3]))] ++ [(q1, .inl (cy 8, 6, .inl (fun _ => 0)))] ++ [(q2, .inl (cy 8, 6, .inl (fun _ => 0)))] ++ [(q3, .inl (cy 10, 7, .inr (.inr (.inr (.inr (fun _ => none))))))]) := hD
  refine lv_aload_n hx hb dX1_init_35 rfl (lv_at hl 0 rfl) ?_
  refine lv_iload_n hx hb dX1_init_36 rfl (lv_at hl 1 rfl) ?_
  refine va_putF (D := D) (ci := 1) (v := .int w) (ty := tyX1 3) (C := RX1) (T := TX1) (N := 6) hx hb hts jX1 tyX1 tyX1_ok nmX1 hown hK hP hD hS 0 rfl rfl 3 (by decide) (hts _ (tg_at 299 (by decide +kernel) rfl)) (fun _ h9 => h9) rfl hin rfl (tyX1_ok 3 (by decide)) (by rcases hw with h | h <;> subst h <;> decide) (by rcases hw with h | h <;> subst h <;> decide) (Nat.le_of_ble_eq_true rfl) dX1_init_37 (fun H locs hP hD hS => ?_)
  have hP : va_P D vwCl ([(h0, .inr (1, [.int 0, .int (-9), .ref q1, .int w, .ref q2, .ref q3]))] ++ [(q1, .inl (cy 8, 6, .inl (fun _ => 0)))] ++ [(q2, .inl (cy 8, 6, .inl (fun _ => 0)))] ++ [(q3, .inl (cy 10, 7, .inr (.inr (.inr (.inr (fun _ => none))))))]) H := hP
  have hD : va_D A ([(h0, .inr (1, [.int 0, .int (-9), .ref q1, .int w, .ref q2, .ref q3]))] ++ [(q1, .inl (cy 8, 6, .inl (fun _ => 0)))] ++ [(q2, .inl (cy 8, 6, .inl (fun _ => 0)))] ++ [(q3, .inl (cy 10, 7, .inr (.inr (.inr (.inr (fun _ => none))))))]) := hD
  refine lv_iconst (v := 0) hx hb dX1_init_40 (by decide) ?_
  refine lv_istore_n (lv' := [(2, .int 0), (0, .ref h0), (1, .int w)]) hx hb dX1_init_41 rfl hl (by decide) rfl (fun ls hl => ?_)
  refine lv_iload_n hx hb dX1_init_42 rfl (lv_at hl 0 rfl) ?_
  refine lv_bipush (v := 6) hx hb dX1_init_43 (by decide) ?_
  refine lv_icmp_gt (tgt := 67) hx hb dX1_init_45 (by decide) (fun hc => ?_) (fun hc => ?_)
  · exact absurd hc (by decide)
  refine lv_aload_n hx hb dX1_init_48 rfl (lv_at hl 1 rfl) ?_
  refine va_get (D := D) (ci := 1) (v := .ref q3) (C := RX1) (T := TX1) (N := 6) hx hb hts jX1 hown hK hP 0 rfl rfl 5 (by decide) (hts _ (tg_at 301 (by decide +kernel) rfl)) (fun _ h9 => h9) rfl dX1_init_49 ?_
  refine lv_iload_n hx hb dX1_init_52 rfl (lv_at hl 0 rfl) ?_
  refine va_new (D := D) (ci := 0) (fs := [.int 0, .int 0, .int 0, .null]) (C := RX0) (T := TX0) (N := 4) hx hb hts jX0 tyX0 tyX0_ok hown (hts _ (tg_at 291 (by decide +kernel) rfl)) (hts _ (tg_at 198 (by decide +kernel) rfl)) (hts _ (tg_at 64 (by decide +kernel) rfl)) hK hP hD hS hA rfl (fun j hj => by rcases (show j = 0 ∨ j = 1 ∨ j = 2 ∨ j = 3 by omega) with rfl | rfl | rfl | rfl <;> rfl) (by decide) (by decide) dX1_init_53 (fun q4 H hP hD hS => ?_)
  refine W.widen (k := 4) (n := 23) (by decide) (by decide) ?_
  refine lv_dup hx hb dX1_init_56 rfl ?_
  refine kt_callN (As := []) (rst := fun z => [.ref z, .int 0, .ref q3]) hC hml hP hD hS hA (k_X0_init l q4) ⟨by decide, by decide⟩ ⟨by decide, by decide⟩ (by decide) (by decide +kernel) rfl mi_X0_init hd_X0_init rfl hl.1 (Nat.le_of_ble_eq_true rfl) dX1_init_57 (fun f5 H locs hP hD hS => ?_)
  refine W.widen (k := 5) (n := 27) (by decide) (by decide) ?_
  refine va_astq hx hb hK hP hD hS 3 2 4 0 rfl (r := (RX0, TX0, 4)) rfl rfl rfl (bin_in (by decide)) dX1_init_60 (fun H locs hP hD hS => ?_)
  have hP : va_P D vwCl ([(h0, .inr (1, [.int 0, .int (-9), .ref q1, .int w, .ref q2, .ref q3]))] ++ [(q1, .inl (cy 8, 6, .inl (fun _ => 0)))] ++ [(q2, .inl (cy 8, 6, .inl (fun _ => 0)))] ++ [(q3, .inl (cy 10, 7, .inr (.inr (.inr (.inr (va_up (fun _ => none) (0 : Int32).toNatClampNeg (some (f5 0))))))))] ++ sM cy f5) H := hP
  have hD : va_D A ([(h0, .inr (1, [.int 0, .int (-9), .ref q1, .int w, .ref q2, .ref q3]))] ++ [(q1, .inl (cy 8, 6, .inl (fun _ => 0)))] ++ [(q2, .inl (cy 8, 6, .inl (fun _ => 0)))] ++ [(q3, .inl (cy 10, 7, .inr (.inr (.inr (.inr (va_up (fun _ => none) (0 : Int32).toNatClampNeg (some (f5 0))))))))] ++ sM cy f5) := hD
  refine lv_iinc (v := 1) (lv' := [(2, .int 1), (0, .ref h0), (1, .int w)]) hx hb dX1_init_61 hl (k := 0) rfl (by decide) (by decide) rfl (fun ls hl => ?_)
  refine lv_goto (tgt := 42) hx hb dX1_init_64 (by decide) ?_
  refine lv_iload_n hx hb dX1_init_42 rfl (lv_at hl 0 rfl) ?_
  refine lv_bipush (v := 6) hx hb dX1_init_43 (by decide) ?_
  refine lv_icmp_gt (tgt := 67) hx hb dX1_init_45 (by decide) (fun hc => ?_) (fun hc => ?_)
  · exact absurd hc (by decide)
  refine lv_aload_n hx hb dX1_init_48 rfl (lv_at hl 1 rfl) ?_
  refine va_get (D := D) (ci := 1) (v := .ref q3) (C := RX1) (T := TX1) (N := 6) hx hb hts jX1 hown hK hP 0 rfl rfl 5 (by decide) (hts _ (tg_at 301 (by decide +kernel) rfl)) (fun _ h9 => h9) rfl dX1_init_49 ?_
  refine lv_iload_n hx hb dX1_init_52 rfl (lv_at hl 0 rfl) ?_
  refine va_new (D := D) (ci := 0) (fs := [.int 0, .int 0, .int 0, .null]) (C := RX0) (T := TX0) (N := 4) hx hb hts jX0 tyX0 tyX0_ok hown (hts _ (tg_at 291 (by decide +kernel) rfl)) (hts _ (tg_at 198 (by decide +kernel) rfl)) (hts _ (tg_at 64 (by decide +kernel) rfl)) hK hP hD hS hA rfl (fun j hj => by rcases (show j = 0 ∨ j = 1 ∨ j = 2 ∨ j = 3 by omega) with rfl | rfl | rfl | rfl <;> rfl) (by decide) (by decide) dX1_init_53 (fun q6 H hP hD hS => ?_)
  refine W.widen (k := 6) (n := 31) (by decide) (by decide) ?_
  refine lv_dup hx hb dX1_init_56 rfl ?_
  refine kt_callN (As := []) (rst := fun z => [.ref z, .int 1, .ref q3]) hC hml hP hD hS hA (k_X0_init l q6) ⟨by decide, by decide⟩ ⟨by decide, by decide⟩ (by decide) (by decide +kernel) rfl mi_X0_init hd_X0_init rfl hl.1 (Nat.le_of_ble_eq_true rfl) dX1_init_57 (fun f7 H locs hP hD hS => ?_)
  refine W.widen (k := 7) (n := 35) (by decide) (by decide) ?_
  refine va_astq hx hb hK hP hD hS 3 2 6 0 rfl (r := (RX0, TX0, 4)) rfl rfl rfl (bin_in (by decide)) dX1_init_60 (fun H locs hP hD hS => ?_)
  have hP : va_P D vwCl ([(h0, .inr (1, [.int 0, .int (-9), .ref q1, .int w, .ref q2, .ref q3]))] ++ [(q1, .inl (cy 8, 6, .inl (fun _ => 0)))] ++ [(q2, .inl (cy 8, 6, .inl (fun _ => 0)))] ++ [(q3, .inl (cy 10, 7, .inr (.inr (.inr (.inr (va_up (va_up (fun _ => none) (0 : Int32).toNatClampNeg (some (f5 0))) (1 : Int32).toNatClampNeg (some (f7 0))))))))] ++ sM cy f5 ++ sM cy f7) H := hP
  have hD : va_D A ([(h0, .inr (1, [.int 0, .int (-9), .ref q1, .int w, .ref q2, .ref q3]))] ++ [(q1, .inl (cy 8, 6, .inl (fun _ => 0)))] ++ [(q2, .inl (cy 8, 6, .inl (fun _ => 0)))] ++ [(q3, .inl (cy 10, 7, .inr (.inr (.inr (.inr (va_up (va_up (fun _ => none) (0 : Int32).toNatClampNeg (some (f5 0))) (1 : Int32).toNatClampNeg (some (f7 0))))))))] ++ sM cy f5 ++ sM cy f7) := hD
  refine lv_iinc (v := 2) (lv' := [(2, .int 2), (0, .ref h0), (1, .int w)]) hx hb dX1_init_61 hl (k := 0) rfl (by decide) (by decide) rfl (fun ls hl => ?_)
  refine lv_goto (tgt := 42) hx hb dX1_init_64 (by decide) ?_
  refine lv_iload_n hx hb dX1_init_42 rfl (lv_at hl 0 rfl) ?_
  refine lv_bipush (v := 6) hx hb dX1_init_43 (by decide) ?_
  refine lv_icmp_gt (tgt := 67) hx hb dX1_init_45 (by decide) (fun hc => ?_) (fun hc => ?_)
  · exact absurd hc (by decide)
  refine lv_aload_n hx hb dX1_init_48 rfl (lv_at hl 1 rfl) ?_
  refine va_get (D := D) (ci := 1) (v := .ref q3) (C := RX1) (T := TX1) (N := 6) hx hb hts jX1 hown hK hP 0 rfl rfl 5 (by decide) (hts _ (tg_at 301 (by decide +kernel) rfl)) (fun _ h9 => h9) rfl dX1_init_49 ?_
  refine lv_iload_n hx hb dX1_init_52 rfl (lv_at hl 0 rfl) ?_
  refine va_new (D := D) (ci := 0) (fs := [.int 0, .int 0, .int 0, .null]) (C := RX0) (T := TX0) (N := 4) hx hb hts jX0 tyX0 tyX0_ok hown (hts _ (tg_at 291 (by decide +kernel) rfl)) (hts _ (tg_at 198 (by decide +kernel) rfl)) (hts _ (tg_at 64 (by decide +kernel) rfl)) hK hP hD hS hA rfl (fun j hj => by rcases (show j = 0 ∨ j = 1 ∨ j = 2 ∨ j = 3 by omega) with rfl | rfl | rfl | rfl <;> rfl) (by decide) (by decide) dX1_init_53 (fun q8 H hP hD hS => ?_)
  refine W.widen (k := 8) (n := 39) (by decide) (by decide) ?_
  refine lv_dup hx hb dX1_init_56 rfl ?_
  refine kt_callN (As := []) (rst := fun z => [.ref z, .int 2, .ref q3]) hC hml hP hD hS hA (k_X0_init l q8) ⟨by decide, by decide⟩ ⟨by decide, by decide⟩ (by decide) (by decide +kernel) rfl mi_X0_init hd_X0_init rfl hl.1 (Nat.le_of_ble_eq_true rfl) dX1_init_57 (fun f9 H locs hP hD hS => ?_)
  refine W.widen (k := 9) (n := 43) (by decide) (by decide) ?_
  refine va_astq hx hb hK hP hD hS 3 2 8 0 rfl (r := (RX0, TX0, 4)) rfl rfl rfl (bin_in (by decide)) dX1_init_60 (fun H locs hP hD hS => ?_)
  have hP : va_P D vwCl ([(h0, .inr (1, [.int 0, .int (-9), .ref q1, .int w, .ref q2, .ref q3]))] ++ [(q1, .inl (cy 8, 6, .inl (fun _ => 0)))] ++ [(q2, .inl (cy 8, 6, .inl (fun _ => 0)))] ++ [(q3, .inl (cy 10, 7, .inr (.inr (.inr (.inr (va_up (va_up (va_up (fun _ => none) (0 : Int32).toNatClampNeg (some (f5 0))) (1 : Int32).toNatClampNeg (some (f7 0))) (2 : Int32).toNatClampNeg (some (f9 0))))))))] ++ sM cy f5 ++ sM cy f7 ++ sM cy f9) H := hP
  have hD : va_D A ([(h0, .inr (1, [.int 0, .int (-9), .ref q1, .int w, .ref q2, .ref q3]))] ++ [(q1, .inl (cy 8, 6, .inl (fun _ => 0)))] ++ [(q2, .inl (cy 8, 6, .inl (fun _ => 0)))] ++ [(q3, .inl (cy 10, 7, .inr (.inr (.inr (.inr (va_up (va_up (va_up (fun _ => none) (0 : Int32).toNatClampNeg (some (f5 0))) (1 : Int32).toNatClampNeg (some (f7 0))) (2 : Int32).toNatClampNeg (some (f9 0))))))))] ++ sM cy f5 ++ sM cy f7 ++ sM cy f9) := hD
  refine lv_iinc (v := 3) (lv' := [(2, .int 3), (0, .ref h0), (1, .int w)]) hx hb dX1_init_61 hl (k := 0) rfl (by decide) (by decide) rfl (fun ls hl => ?_)
  refine lv_goto (tgt := 42) hx hb dX1_init_64 (by decide) ?_
  refine lv_iload_n hx hb dX1_init_42 rfl (lv_at hl 0 rfl) ?_
  refine lv_bipush (v := 6) hx hb dX1_init_43 (by decide) ?_
  refine lv_icmp_gt (tgt := 67) hx hb dX1_init_45 (by decide) (fun hc => ?_) (fun hc => ?_)
  · exact absurd hc (by decide)
  refine lv_aload_n hx hb dX1_init_48 rfl (lv_at hl 1 rfl) ?_
  refine va_get (D := D) (ci := 1) (v := .ref q3) (C := RX1) (T := TX1) (N := 6) hx hb hts jX1 hown hK hP 0 rfl rfl 5 (by decide) (hts _ (tg_at 301 (by decide +kernel) rfl)) (fun _ h9 => h9) rfl dX1_init_49 ?_
  refine lv_iload_n hx hb dX1_init_52 rfl (lv_at hl 0 rfl) ?_
  refine va_new (D := D) (ci := 0) (fs := [.int 0, .int 0, .int 0, .null]) (C := RX0) (T := TX0) (N := 4) hx hb hts jX0 tyX0 tyX0_ok hown (hts _ (tg_at 291 (by decide +kernel) rfl)) (hts _ (tg_at 198 (by decide +kernel) rfl)) (hts _ (tg_at 64 (by decide +kernel) rfl)) hK hP hD hS hA rfl (fun j hj => by rcases (show j = 0 ∨ j = 1 ∨ j = 2 ∨ j = 3 by omega) with rfl | rfl | rfl | rfl <;> rfl) (by decide) (by decide) dX1_init_53 (fun q10 H hP hD hS => ?_)
  refine W.widen (k := 10) (n := 47) (by decide) (by decide) ?_
  refine lv_dup hx hb dX1_init_56 rfl ?_
  refine kt_callN (As := []) (rst := fun z => [.ref z, .int 3, .ref q3]) hC hml hP hD hS hA (k_X0_init l q10) ⟨by decide, by decide⟩ ⟨by decide, by decide⟩ (by decide) (by decide +kernel) rfl mi_X0_init hd_X0_init rfl hl.1 (Nat.le_of_ble_eq_true rfl) dX1_init_57 (fun f11 H locs hP hD hS => ?_)
  refine W.widen (k := 11) (n := 51) (by decide) (by decide) ?_
  refine va_astq hx hb hK hP hD hS 3 2 10 0 rfl (r := (RX0, TX0, 4)) rfl rfl rfl (bin_in (by decide)) dX1_init_60 (fun H locs hP hD hS => ?_)
  have hP : va_P D vwCl ([(h0, .inr (1, [.int 0, .int (-9), .ref q1, .int w, .ref q2, .ref q3]))] ++ [(q1, .inl (cy 8, 6, .inl (fun _ => 0)))] ++ [(q2, .inl (cy 8, 6, .inl (fun _ => 0)))] ++ [(q3, .inl (cy 10, 7, .inr (.inr (.inr (.inr (va_up (va_up (va_up (va_up (fun _ => none) (0 : Int32).toNatClampNeg (some (f5 0))) (1 : Int32).toNatClampNeg (some (f7 0))) (2 : Int32).toNatClampNeg (some (f9 0))) (3 : Int32).toNatClampNeg (some (f11 0))))))))] ++ sM cy f5 ++ sM cy f7 ++ sM cy f9 ++ sM cy f11) H := hP
  have hD : va_D A ([(h0, .inr (1, [.int 0, .int (-9), .ref q1, .int w, .ref q2, .ref q3]))] ++ [(q1, .inl (cy 8, 6, .inl (fun _ => 0)))] ++ [(q2, .inl (cy 8, 6, .inl (fun _ => 0)))] ++ [(q3, .inl (cy 10, 7, .inr (.inr (.inr (.inr (va_up (va_up (va_up (va_up (fun _ => none) (0 : Int32).toNatClampNeg (some (f5 0))) (1 : Int32).toNatClampNeg (some (f7 0))) (2 : Int32).toNatClampNeg (some (f9 0))) (3 : Int32).toNatClampNeg (some (f11 0))))))))] ++ sM cy f5 ++ sM cy f7 ++ sM cy f9 ++ sM cy f11) := hD
  refine lv_iinc (v := 4) (lv' := [(2, .int 4), (0, .ref h0), (1, .int w)]) hx hb dX1_init_61 hl (k := 0) rfl (by decide) (by decide) rfl (fun ls hl => ?_)
  refine lv_goto (tgt := 42) hx hb dX1_init_64 (by decide) ?_
  refine lv_iload_n hx hb dX1_init_42 rfl (lv_at hl 0 rfl) ?_
  refine lv_bipush (v := 6) hx hb dX1_init_43 (by decide) ?_
  refine lv_icmp_gt (tgt := 67) hx hb dX1_init_45 (by decide) (fun hc => ?_) (fun hc => ?_)
  · exact absurd hc (by decide)
  refine lv_aload_n hx hb dX1_init_48 rfl (lv_at hl 1 rfl) ?_
  refine va_get (D := D) (ci := 1) (v := .ref q3) (C := RX1) (T := TX1) (N := 6) hx hb hts jX1 hown hK hP 0 rfl rfl 5 (by decide) (hts _ (tg_at 301 (by decide +kernel) rfl)) (fun _ h9 => h9) rfl dX1_init_49 ?_
  refine lv_iload_n hx hb dX1_init_52 rfl (lv_at hl 0 rfl) ?_
  refine va_new (D := D) (ci := 0) (fs := [.int 0, .int 0, .int 0, .null]) (C := RX0) (T := TX0) (N := 4) hx hb hts jX0 tyX0 tyX0_ok hown (hts _ (tg_at 291 (by decide +kernel) rfl)) (hts _ (tg_at 198 (by decide +kernel) rfl)) (hts _ (tg_at 64 (by decide +kernel) rfl)) hK hP hD hS hA rfl (fun j hj => by rcases (show j = 0 ∨ j = 1 ∨ j = 2 ∨ j = 3 by omega) with rfl | rfl | rfl | rfl <;> rfl) (by decide) (by decide) dX1_init_53 (fun q12 H hP hD hS => ?_)
  refine W.widen (k := 12) (n := 55) (by decide) (by decide) ?_
  refine lv_dup hx hb dX1_init_56 rfl ?_
  refine kt_callN (As := []) (rst := fun z => [.ref z, .int 4, .ref q3]) hC hml hP hD hS hA (k_X0_init l q12) ⟨by decide, by decide⟩ ⟨by decide, by decide⟩ (by decide) (by decide +kernel) rfl mi_X0_init hd_X0_init rfl hl.1 (Nat.le_of_ble_eq_true rfl) dX1_init_57 (fun f13 H locs hP hD hS => ?_)
  refine W.widen (k := 13) (n := 59) (by decide) (by decide) ?_
  refine va_astq hx hb hK hP hD hS 3 2 12 0 rfl (r := (RX0, TX0, 4)) rfl rfl rfl (bin_in (by decide)) dX1_init_60 (fun H locs hP hD hS => ?_)
  have hP : va_P D vwCl ([(h0, .inr (1, [.int 0, .int (-9), .ref q1, .int w, .ref q2, .ref q3]))] ++ [(q1, .inl (cy 8, 6, .inl (fun _ => 0)))] ++ [(q2, .inl (cy 8, 6, .inl (fun _ => 0)))] ++ [(q3, .inl (cy 10, 7, .inr (.inr (.inr (.inr (va_up (va_up (va_up (va_up (va_up (fun _ => none) (0 : Int32).toNatClampNeg (some (f5 0))) (1 : Int32).toNatClampNeg (some (f7 0))) (2 : Int32).toNatClampNeg (some (f9 0))) (3 : Int32).toNatClampNeg (some (f11 0))) (4 : Int32).toNatClampNeg (some (f13 0))))))))] ++ sM cy f5 ++ sM cy f7 ++ sM cy f9 ++ sM cy f11 ++ sM cy f13) H := hP
  have hD : va_D A ([(h0, .inr (1, [.int 0, .int (-9), .ref q1, .int w, .ref q2, .ref q3]))] ++ [(q1, .inl (cy 8, 6, .inl (fun _ => 0)))] ++ [(q2, .inl (cy 8, 6, .inl (fun _ => 0)))] ++ [(q3, .inl (cy 10, 7, .inr (.inr (.inr (.inr (va_up (va_up (va_up (va_up (va_up (fun _ => none) (0 : Int32).toNatClampNeg (some (f5 0))) (1 : Int32).toNatClampNeg (some (f7 0))) (2 : Int32).toNatClampNeg (some (f9 0))) (3 : Int32).toNatClampNeg (some (f11 0))) (4 : Int32).toNatClampNeg (some (f13 0))))))))] ++ sM cy f5 ++ sM cy f7 ++ sM cy f9 ++ sM cy f11 ++ sM cy f13) := hD
  refine lv_iinc (v := 5) (lv' := [(2, .int 5), (0, .ref h0), (1, .int w)]) hx hb dX1_init_61 hl (k := 0) rfl (by decide) (by decide) rfl (fun ls hl => ?_)
  refine lv_goto (tgt := 42) hx hb dX1_init_64 (by decide) ?_
  refine lv_iload_n hx hb dX1_init_42 rfl (lv_at hl 0 rfl) ?_
  refine lv_bipush (v := 6) hx hb dX1_init_43 (by decide) ?_
  refine lv_icmp_gt (tgt := 67) hx hb dX1_init_45 (by decide) (fun hc => ?_) (fun hc => ?_)
  · exact absurd hc (by decide)
  refine lv_aload_n hx hb dX1_init_48 rfl (lv_at hl 1 rfl) ?_
  refine va_get (D := D) (ci := 1) (v := .ref q3) (C := RX1) (T := TX1) (N := 6) hx hb hts jX1 hown hK hP 0 rfl rfl 5 (by decide) (hts _ (tg_at 301 (by decide +kernel) rfl)) (fun _ h9 => h9) rfl dX1_init_49 ?_
  refine lv_iload_n hx hb dX1_init_52 rfl (lv_at hl 0 rfl) ?_
  refine va_new (D := D) (ci := 0) (fs := [.int 0, .int 0, .int 0, .null]) (C := RX0) (T := TX0) (N := 4) hx hb hts jX0 tyX0 tyX0_ok hown (hts _ (tg_at 291 (by decide +kernel) rfl)) (hts _ (tg_at 198 (by decide +kernel) rfl)) (hts _ (tg_at 64 (by decide +kernel) rfl)) hK hP hD hS hA rfl (fun j hj => by rcases (show j = 0 ∨ j = 1 ∨ j = 2 ∨ j = 3 by omega) with rfl | rfl | rfl | rfl <;> rfl) (by decide) (by decide) dX1_init_53 (fun q14 H hP hD hS => ?_)
  refine W.widen (k := 14) (n := 63) (by decide) (by decide) ?_
  refine lv_dup hx hb dX1_init_56 rfl ?_
  refine kt_callN (As := []) (rst := fun z => [.ref z, .int 5, .ref q3]) hC hml hP hD hS hA (k_X0_init l q14) ⟨by decide, by decide⟩ ⟨by decide, by decide⟩ (by decide) (by decide +kernel) rfl mi_X0_init hd_X0_init rfl hl.1 (Nat.le_of_ble_eq_true rfl) dX1_init_57 (fun f15 H locs hP hD hS => ?_)
  refine W.widen (k := 15) (n := 67) (by decide) (by decide) ?_
  refine va_astq hx hb hK hP hD hS 3 2 14 0 rfl (r := (RX0, TX0, 4)) rfl rfl rfl (bin_in (by decide)) dX1_init_60 (fun H locs hP hD hS => ?_)
  have hP : va_P D vwCl ([(h0, .inr (1, [.int 0, .int (-9), .ref q1, .int w, .ref q2, .ref q3]))] ++ [(q1, .inl (cy 8, 6, .inl (fun _ => 0)))] ++ [(q2, .inl (cy 8, 6, .inl (fun _ => 0)))] ++ [(q3, .inl (cy 10, 7, .inr (.inr (.inr (.inr (va_up (va_up (va_up (va_up (va_up (va_up (fun _ => none) (0 : Int32).toNatClampNeg (some (f5 0))) (1 : Int32).toNatClampNeg (some (f7 0))) (2 : Int32).toNatClampNeg (some (f9 0))) (3 : Int32).toNatClampNeg (some (f11 0))) (4 : Int32).toNatClampNeg (some (f13 0))) (5 : Int32).toNatClampNeg (some (f15 0))))))))] ++ sM cy f5 ++ sM cy f7 ++ sM cy f9 ++ sM cy f11 ++ sM cy f13 ++ sM cy f15) H := hP
  have hD : va_D A ([(h0, .inr (1, [.int 0, .int (-9), .ref q1, .int w, .ref q2, .ref q3]))] ++ [(q1, .inl (cy 8, 6, .inl (fun _ => 0)))] ++ [(q2, .inl (cy 8, 6, .inl (fun _ => 0)))] ++ [(q3, .inl (cy 10, 7, .inr (.inr (.inr (.inr (va_up (va_up (va_up (va_up (va_up (va_up (fun _ => none) (0 : Int32).toNatClampNeg (some (f5 0))) (1 : Int32).toNatClampNeg (some (f7 0))) (2 : Int32).toNatClampNeg (some (f9 0))) (3 : Int32).toNatClampNeg (some (f11 0))) (4 : Int32).toNatClampNeg (some (f13 0))) (5 : Int32).toNatClampNeg (some (f15 0))))))))] ++ sM cy f5 ++ sM cy f7 ++ sM cy f9 ++ sM cy f11 ++ sM cy f13 ++ sM cy f15) := hD
  refine lv_iinc (v := 6) (lv' := [(2, .int 6), (0, .ref h0), (1, .int w)]) hx hb dX1_init_61 hl (k := 0) rfl (by decide) (by decide) rfl (fun ls hl => ?_)
  refine lv_goto (tgt := 42) hx hb dX1_init_64 (by decide) ?_
  refine lv_iload_n hx hb dX1_init_42 rfl (lv_at hl 0 rfl) ?_
  refine lv_bipush (v := 6) hx hb dX1_init_43 (by decide) ?_
  refine lv_icmp_gt (tgt := 67) hx hb dX1_init_45 (by decide) (fun hc => ?_) (fun hc => ?_)
  · exact absurd hc (by decide)
  refine lv_aload_n hx hb dX1_init_48 rfl (lv_at hl 1 rfl) ?_
  refine va_get (D := D) (ci := 1) (v := .ref q3) (C := RX1) (T := TX1) (N := 6) hx hb hts jX1 hown hK hP 0 rfl rfl 5 (by decide) (hts _ (tg_at 301 (by decide +kernel) rfl)) (fun _ h9 => h9) rfl dX1_init_49 ?_
  refine lv_iload_n hx hb dX1_init_52 rfl (lv_at hl 0 rfl) ?_
  refine va_new (D := D) (ci := 0) (fs := [.int 0, .int 0, .int 0, .null]) (C := RX0) (T := TX0) (N := 4) hx hb hts jX0 tyX0 tyX0_ok hown (hts _ (tg_at 291 (by decide +kernel) rfl)) (hts _ (tg_at 198 (by decide +kernel) rfl)) (hts _ (tg_at 64 (by decide +kernel) rfl)) hK hP hD hS hA rfl (fun j hj => by rcases (show j = 0 ∨ j = 1 ∨ j = 2 ∨ j = 3 by omega) with rfl | rfl | rfl | rfl <;> rfl) (by decide) (by decide) dX1_init_53 (fun q16 H hP hD hS => ?_)
  refine W.widen (k := 16) (n := 71) (by decide) (by decide) ?_
  refine lv_dup hx hb dX1_init_56 rfl ?_
  refine kt_callN (As := []) (rst := fun z => [.ref z, .int 6, .ref q3]) hC hml hP hD hS hA (k_X0_init l q16) ⟨by decide, by decide⟩ ⟨by decide, by decide⟩ (by decide) (by decide +kernel) rfl mi_X0_init hd_X0_init rfl hl.1 (Nat.le_of_ble_eq_true rfl) dX1_init_57 (fun f17 H locs hP hD hS => ?_)
  refine W.widen (k := 17) (n := 75) (by decide) (by decide) ?_
  refine va_astq hx hb hK hP hD hS 3 2 16 0 rfl (r := (RX0, TX0, 4)) rfl rfl rfl (bin_in (by decide)) dX1_init_60 (fun H locs hP hD hS => ?_)
  have hP : va_P D vwCl ([(h0, .inr (1, [.int 0, .int (-9), .ref q1, .int w, .ref q2, .ref q3]))] ++ [(q1, .inl (cy 8, 6, .inl (fun _ => 0)))] ++ [(q2, .inl (cy 8, 6, .inl (fun _ => 0)))] ++ [(q3, .inl (cy 10, 7, .inr (.inr (.inr (.inr (va_up (va_up (va_up (va_up (va_up (va_up (va_up (fun _ => none) (0 : Int32).toNatClampNeg (some (f5 0))) (1 : Int32).toNatClampNeg (some (f7 0))) (2 : Int32).toNatClampNeg (some (f9 0))) (3 : Int32).toNatClampNeg (some (f11 0))) (4 : Int32).toNatClampNeg (some (f13 0))) (5 : Int32).toNatClampNeg (some (f15 0))) (6 : Int32).toNatClampNeg (some (f17 0))))))))] ++ sM cy f5 ++ sM cy f7 ++ sM cy f9 ++ sM cy f11 ++ sM cy f13 ++ sM cy f15 ++ sM cy f17) H := hP
  have hD : va_D A ([(h0, .inr (1, [.int 0, .int (-9), .ref q1, .int w, .ref q2, .ref q3]))] ++ [(q1, .inl (cy 8, 6, .inl (fun _ => 0)))] ++ [(q2, .inl (cy 8, 6, .inl (fun _ => 0)))] ++ [(q3, .inl (cy 10, 7, .inr (.inr (.inr (.inr (va_up (va_up (va_up (va_up (va_up (va_up (va_up (fun _ => none) (0 : Int32).toNatClampNeg (some (f5 0))) (1 : Int32).toNatClampNeg (some (f7 0))) (2 : Int32).toNatClampNeg (some (f9 0))) (3 : Int32).toNatClampNeg (some (f11 0))) (4 : Int32).toNatClampNeg (some (f13 0))) (5 : Int32).toNatClampNeg (some (f15 0))) (6 : Int32).toNatClampNeg (some (f17 0))))))))] ++ sM cy f5 ++ sM cy f7 ++ sM cy f9 ++ sM cy f11 ++ sM cy f13 ++ sM cy f15 ++ sM cy f17) := hD
  refine lv_iinc (v := 7) (lv' := [(2, .int 7), (0, .ref h0), (1, .int w)]) hx hb dX1_init_61 hl (k := 0) rfl (by decide) (by decide) rfl (fun ls hl => ?_)
  refine lv_goto (tgt := 42) hx hb dX1_init_64 (by decide) ?_
  refine lv_iload_n hx hb dX1_init_42 rfl (lv_at hl 0 rfl) ?_
  refine lv_bipush (v := 6) hx hb dX1_init_43 (by decide) ?_
  refine lv_icmp_gt (tgt := 67) hx hb dX1_init_45 (by decide) (fun hc => ?_) (fun hc => ?_)
  rotate_left
  · exact absurd hc (by decide)
  obtain ⟨hP, hD⟩ := kt_arr (k := 3) (g := fun i => some ((fun j => [h0, q1, q2, q3, f5 0, f5 1, f7 0, f7 1, f9 0, f9 1, f11 0, f11 1, f13 0, f13 1, f15 0, f15 1, f17 0, f17 1].getD j 0) (3 + 1 + 2 * i))) hP hD rfl (fun i hi => by
    rcases (show i = 0 ∨ i = 1 ∨ i = 2 ∨ i = 3 ∨ i = 4 ∨ i = 5 ∨ i = 6 by omega) with rfl | rfl | rfl | rfl | rfl | rfl | rfl <;> rfl)
  subst hAe
  exact kt_ret (fun i => [h0, q1, q2, q3, f5 0, f5 1, f7 0, f7 1, f9 0, f9 1, f11 0, f11 1, f13 0, f13 1, f15 0, f15 1, f17 0, f17 1].getD i 0) hC hr hlk rfl hP hD hS rfl rfl dX1_init_67
set_option maxHeartbeats 40000000 in
set_option maxRecDepth 100000 in
theorem k_X3_init (l : Launch) {D : va_G} {cy : Nat → ClassId} (h0 : Nat) : Kt l 2 21 99 yX3_init cX3_init 2 D cy h0 (.inr (3, [.int 0, .int 0, .int 0, .null, .null, .null, .null, .null, .int 0, .null, .null])) [] (sS cy) := by
  refine Kt_of (by decide) (Nat.le_of_ble_eq_true rfl) rfl (fun p e s m below meth c ls A hAe hC hin hml hr hlk hP hD hS hA hl => ?_)
  have hx := hC.1
  have hb := hC.2.1
  have hts := hC.2.2.1
  have hown := hC.2.2.2.1
  have hK := hC.2.2.2.2.1
  have hl : lv_has ls 2 [(0, .ref h0)] := hl
  refine lv_aload_n hx hb dX3_init_0 rfl (lv_at hl 0 rfl) ?_
  refine W.objInit hx hb hown (hts _ (tg_at 242 (by decide +kernel) rfl)) (hts _ (tg_at 75 (by decide +kernel) rfl)) (hts _ (tg_at 76 (by decide +kernel) rfl)) rfl (by rw [hml]; exact hl.1) rfl dX3_init_1 (Nat.le_of_ble_eq_true rfl) (Nat.le_of_ble_eq_true rfl) ?_
  refine W.eq (g2 := F0 m 4 ls []) rfl ?_
  refine lv_aload_n hx hb dX3_init_4 rfl (lv_at hl 0 rfl) ?_
  refine lv_bipush (v := 6) hx hb dX3_init_5 (by decide) ?_
  refine kt_newI hC hP hD hS hA (N' := 6) (by decide) (by decide) (by decide) (by decide) (by decide) (tg_at 113 (by decide +kernel) rfl) dX3_init_7 (fun q1 H hP hD hS => ?_)
  refine W.widen (k := 1) (n := 6) (by decide) (by decide) ?_
  refine va_putF (D := D) (ci := 3) (v := .ref q1) (ty := tyX3 3) (C := RX3) (T := TX3) (N := 11) hx hb hts jX3 tyX3 tyX3_ok nmX3 hown hK hP hD hS 0 rfl rfl 3 (by decide) (hts _ (tg_at 251 (by decide +kernel) rfl)) (fun _ h9 => h9) rfl hin rfl (tyX3_ok 3 (by decide)) rfl rfl (Nat.le_of_ble_eq_true rfl) dX3_init_9 (fun H locs hP hD hS => ?_)
  have hP : va_P D vwCl ([(h0, .inr (3, [.int 0, .int 0, .int 0, .ref q1, .null, .null, .null, .null, .int 0, .null, .null]))] ++ [(q1, .inl (cy 8, 6, .inl (fun _ => 0)))]) H := hP
  have hD : va_D A ([(h0, .inr (3, [.int 0, .int 0, .int 0, .ref q1, .null, .null, .null, .null, .int 0, .null, .null]))] ++ [(q1, .inl (cy 8, 6, .inl (fun _ => 0)))]) := hD
  refine lv_aload_n hx hb dX3_init_12 rfl (lv_at hl 0 rfl) ?_
  refine lv_bipush (v := 6) hx hb dX3_init_13 (by decide) ?_
  refine kt_newI hC hP hD hS hA (N' := 6) (by decide) (by decide) (by decide) (by decide) (by decide) (tg_at 113 (by decide +kernel) rfl) dX3_init_15 (fun q2 H hP hD hS => ?_)
  refine W.widen (k := 2) (n := 12) (by decide) (by decide) ?_
  refine va_putF (D := D) (ci := 3) (v := .ref q2) (ty := tyX3 4) (C := RX3) (T := TX3) (N := 11) hx hb hts jX3 tyX3 tyX3_ok nmX3 hown hK hP hD hS 0 rfl rfl 4 (by decide) (hts _ (tg_at 253 (by decide +kernel) rfl)) (fun _ h9 => h9) rfl hin rfl (tyX3_ok 4 (by decide)) rfl rfl (Nat.le_of_ble_eq_true rfl) dX3_init_17 (fun H locs hP hD hS => ?_)
  have hP : va_P D vwCl ([(h0, .inr (3, [.int 0, .int 0, .int 0, .ref q1, .ref q2, .null, .null, .null, .int 0, .null, .null]))] ++ [(q1, .inl (cy 8, 6, .inl (fun _ => 0)))] ++ [(q2, .inl (cy 8, 6, .inl (fun _ => 0)))]) H := hP
  have hD : va_D A ([(h0, .inr (3, [.int 0, .int 0, .int 0, .ref q1, .ref q2, .null, .null, .null, .int 0, .null, .null]))] ++ [(q1, .inl (cy 8, 6, .inl (fun _ => 0)))] ++ [(q2, .inl (cy 8, 6, .inl (fun _ => 0)))]) := hD
  refine lv_aload_n hx hb dX3_init_20 rfl (lv_at hl 0 rfl) ?_
  refine lv_bipush (v := 6) hx hb dX3_init_21 (by decide) ?_
  refine kt_newI hC hP hD hS hA (N' := 6) (by decide) (by decide) (by decide) (by decide) (by decide) (tg_at 113 (by decide +kernel) rfl) dX3_init_23 (fun q3 H hP hD hS => ?_)
  refine W.widen (k := 3) (n := 18) (by decide) (by decide) ?_
  refine va_putF (D := D) (ci := 3) (v := .ref q3) (ty := tyX3 5) (C := RX3) (T := TX3) (N := 11) hx hb hts jX3 tyX3 tyX3_ok nmX3 hown hK hP hD hS 0 rfl rfl 5 (by decide) (hts _ (tg_at 255 (by decide +kernel) rfl)) (fun _ h9 => h9) rfl hin rfl (tyX3_ok 5 (by decide)) rfl rfl (Nat.le_of_ble_eq_true rfl) dX3_init_25 (fun H locs hP hD hS => ?_)
  have hP : va_P D vwCl ([(h0, .inr (3, [.int 0, .int 0, .int 0, .ref q1, .ref q2, .ref q3, .null, .null, .int 0, .null, .null]))] ++ [(q1, .inl (cy 8, 6, .inl (fun _ => 0)))] ++ [(q2, .inl (cy 8, 6, .inl (fun _ => 0)))] ++ [(q3, .inl (cy 8, 6, .inl (fun _ => 0)))]) H := hP
  have hD : va_D A ([(h0, .inr (3, [.int 0, .int 0, .int 0, .ref q1, .ref q2, .ref q3, .null, .null, .int 0, .null, .null]))] ++ [(q1, .inl (cy 8, 6, .inl (fun _ => 0)))] ++ [(q2, .inl (cy 8, 6, .inl (fun _ => 0)))] ++ [(q3, .inl (cy 8, 6, .inl (fun _ => 0)))]) := hD
  refine lv_aload_n hx hb dX3_init_28 rfl (lv_at hl 0 rfl) ?_
  refine lv_bipush (v := 6) hx hb dX3_init_29 (by decide) ?_
  refine kt_newI hC hP hD hS hA (N' := 6) (by decide) (by decide) (by decide) (by decide) (by decide) (tg_at 113 (by decide +kernel) rfl) dX3_init_31 (fun q4 H hP hD hS => ?_)
  refine W.widen (k := 4) (n := 24) (by decide) (by decide) ?_
  refine va_putF (D := D) (ci := 3) (v := .ref q4) (ty := tyX3 6) (C := RX3) (T := TX3) (N := 11) hx hb hts jX3 tyX3 tyX3_ok nmX3 hown hK hP hD hS 0 rfl rfl 6 (by decide) (hts _ (tg_at 256 (by decide +kernel) rfl)) (fun _ h9 => h9) rfl hin rfl (tyX3_ok 6 (by decide)) rfl rfl (Nat.le_of_ble_eq_true rfl) dX3_init_33 (fun H locs hP hD hS => ?_)
  have hP : va_P D vwCl ([(h0, .inr (3, [.int 0, .int 0, .int 0, .ref q1, .ref q2, .ref q3, .ref q4, .null, .int 0, .null, .null]))] ++ [(q1, .inl (cy 8, 6, .inl (fun _ => 0)))] ++ [(q2, .inl (cy 8, 6, .inl (fun _ => 0)))] ++ [(q3, .inl (cy 8, 6, .inl (fun _ => 0)))] ++ [(q4, .inl (cy 8, 6, .inl (fun _ => 0)))]) H := hP
  have hD : va_D A ([(h0, .inr (3, [.int 0, .int 0, .int 0, .ref q1, .ref q2, .ref q3, .ref q4, .null, .int 0, .null, .null]))] ++ [(q1, .inl (cy 8, 6, .inl (fun _ => 0)))] ++ [(q2, .inl (cy 8, 6, .inl (fun _ => 0)))] ++ [(q3, .inl (cy 8, 6, .inl (fun _ => 0)))] ++ [(q4, .inl (cy 8, 6, .inl (fun _ => 0)))]) := hD
  refine lv_aload_n hx hb dX3_init_36 rfl (lv_at hl 0 rfl) ?_
  refine lv_bipush (v := 6) hx hb dX3_init_37 (by decide) ?_
  refine kt_newI hC hP hD hS hA (N' := 6) (by decide) (by decide) (by decide) (by decide) (by decide) (tg_at 113 (by decide +kernel) rfl) dX3_init_39 (fun q5 H hP hD hS => ?_)
  refine W.widen (k := 5) (n := 30) (by decide) (by decide) ?_
  refine va_putF (D := D) (ci := 3) (v := .ref q5) (ty := tyX3 7) (C := RX3) (T := TX3) (N := 11) hx hb hts jX3 tyX3 tyX3_ok nmX3 hown hK hP hD hS 0 rfl rfl 7 (by decide) (hts _ (tg_at 257 (by decide +kernel) rfl)) (fun _ h9 => h9) rfl hin rfl (tyX3_ok 7 (by decide)) rfl rfl (Nat.le_of_ble_eq_true rfl) dX3_init_41 (fun H locs hP hD hS => ?_)
  have hP : va_P D vwCl ([(h0, .inr (3, [.int 0, .int 0, .int 0, .ref q1, .ref q2, .ref q3, .ref q4, .ref q5, .int 0, .null, .null]))] ++ [(q1, .inl (cy 8, 6, .inl (fun _ => 0)))] ++ [(q2, .inl (cy 8, 6, .inl (fun _ => 0)))] ++ [(q3, .inl (cy 8, 6, .inl (fun _ => 0)))] ++ [(q4, .inl (cy 8, 6, .inl (fun _ => 0)))] ++ [(q5, .inl (cy 8, 6, .inl (fun _ => 0)))]) H := hP
  have hD : va_D A ([(h0, .inr (3, [.int 0, .int 0, .int 0, .ref q1, .ref q2, .ref q3, .ref q4, .ref q5, .int 0, .null, .null]))] ++ [(q1, .inl (cy 8, 6, .inl (fun _ => 0)))] ++ [(q2, .inl (cy 8, 6, .inl (fun _ => 0)))] ++ [(q3, .inl (cy 8, 6, .inl (fun _ => 0)))] ++ [(q4, .inl (cy 8, 6, .inl (fun _ => 0)))] ++ [(q5, .inl (cy 8, 6, .inl (fun _ => 0)))]) := hD
  refine lv_aload_n hx hb dX3_init_44 rfl (lv_at hl 0 rfl) ?_
  refine lv_bipush (v := 6) hx hb dX3_init_45 (by decide) ?_
  refine kt_newI hC hP hD hS hA (N' := 6) (by decide) (by decide) (by decide) (by decide) (by decide) (tg_at 113 (by decide +kernel) rfl) dX3_init_47 (fun q6 H hP hD hS => ?_)
  refine W.widen (k := 6) (n := 36) (by decide) (by decide) ?_
  refine va_putF (D := D) (ci := 3) (v := .ref q6) (ty := tyX3 9) (C := RX3) (T := TX3) (N := 11) hx hb hts jX3 tyX3 tyX3_ok nmX3 hown hK hP hD hS 0 rfl rfl 9 (by decide) (hts _ (tg_at 259 (by decide +kernel) rfl)) (fun _ h9 => h9) rfl hin rfl (tyX3_ok 9 (by decide)) rfl rfl (Nat.le_of_ble_eq_true rfl) dX3_init_49 (fun H locs hP hD hS => ?_)
  have hP : va_P D vwCl ([(h0, .inr (3, [.int 0, .int 0, .int 0, .ref q1, .ref q2, .ref q3, .ref q4, .ref q5, .int 0, .ref q6, .null]))] ++ [(q1, .inl (cy 8, 6, .inl (fun _ => 0)))] ++ [(q2, .inl (cy 8, 6, .inl (fun _ => 0)))] ++ [(q3, .inl (cy 8, 6, .inl (fun _ => 0)))] ++ [(q4, .inl (cy 8, 6, .inl (fun _ => 0)))] ++ [(q5, .inl (cy 8, 6, .inl (fun _ => 0)))] ++ [(q6, .inl (cy 8, 6, .inl (fun _ => 0)))]) H := hP
  have hD : va_D A ([(h0, .inr (3, [.int 0, .int 0, .int 0, .ref q1, .ref q2, .ref q3, .ref q4, .ref q5, .int 0, .ref q6, .null]))] ++ [(q1, .inl (cy 8, 6, .inl (fun _ => 0)))] ++ [(q2, .inl (cy 8, 6, .inl (fun _ => 0)))] ++ [(q3, .inl (cy 8, 6, .inl (fun _ => 0)))] ++ [(q4, .inl (cy 8, 6, .inl (fun _ => 0)))] ++ [(q5, .inl (cy 8, 6, .inl (fun _ => 0)))] ++ [(q6, .inl (cy 8, 6, .inl (fun _ => 0)))]) := hD
  refine lv_aload_n hx hb dX3_init_52 rfl (lv_at hl 0 rfl) ?_
  refine lv_bipush (v := 7) hx hb dX3_init_53 (by decide) ?_
  refine kt_newM hC hP hD hS hA (N' := 7) (by decide) (by decide) (by decide) (by decide) (by decide) (tg_at 243 (by decide +kernel) rfl) dX3_init_55 (fun q7 H hP hD hS => ?_)
  refine W.widen (k := 7) (n := 43) (by decide) (by decide) ?_
  refine va_putF (D := D) (ci := 3) (v := .ref q7) (ty := tyX3 10) (C := RX3) (T := TX3) (N := 11) hx hb hts jX3 tyX3 tyX3_ok nmX3 hown hK hP hD hS 0 rfl rfl 10 (by decide) (hts _ (tg_at 260 (by decide +kernel) rfl)) (fun _ h9 => h9) rfl hin rfl (tyX3_ok 10 (by decide)) rfl rfl (Nat.le_of_ble_eq_true rfl) dX3_init_58 (fun H locs hP hD hS => ?_)
  have hP : va_P D vwCl ([(h0, .inr (3, [.int 0, .int 0, .int 0, .ref q1, .ref q2, .ref q3, .ref q4, .ref q5, .int 0, .ref q6, .ref q7]))] ++ [(q1, .inl (cy 8, 6, .inl (fun _ => 0)))] ++ [(q2, .inl (cy 8, 6, .inl (fun _ => 0)))] ++ [(q3, .inl (cy 8, 6, .inl (fun _ => 0)))] ++ [(q4, .inl (cy 8, 6, .inl (fun _ => 0)))] ++ [(q5, .inl (cy 8, 6, .inl (fun _ => 0)))] ++ [(q6, .inl (cy 8, 6, .inl (fun _ => 0)))] ++ [(q7, .inl (cy 10, 7, .inr (.inr (.inr (.inr (fun _ => none))))))]) H := hP
  have hD : va_D A ([(h0, .inr (3, [.int 0, .int 0, .int 0, .ref q1, .ref q2, .ref q3, .ref q4, .ref q5, .int 0, .ref q6, .ref q7]))] ++ [(q1, .inl (cy 8, 6, .inl (fun _ => 0)))] ++ [(q2, .inl (cy 8, 6, .inl (fun _ => 0)))] ++ [(q3, .inl (cy 8, 6, .inl (fun _ => 0)))] ++ [(q4, .inl (cy 8, 6, .inl (fun _ => 0)))] ++ [(q5, .inl (cy 8, 6, .inl (fun _ => 0)))] ++ [(q6, .inl (cy 8, 6, .inl (fun _ => 0)))] ++ [(q7, .inl (cy 10, 7, .inr (.inr (.inr (.inr (fun _ => none))))))]) := hD
  refine lv_iconst (v := 0) hx hb dX3_init_61 (by decide) ?_
  refine lv_istore_n (lv' := [(1, .int 0), (0, .ref h0)]) hx hb dX3_init_62 rfl hl (by decide) rfl (fun ls hl => ?_)
  refine lv_iload_n hx hb dX3_init_63 rfl (lv_at hl 0 rfl) ?_
  refine lv_bipush (v := 6) hx hb dX3_init_64 (by decide) ?_
  refine lv_icmp_gt (tgt := 88) hx hb dX3_init_66 (by decide) (fun hc => ?_) (fun hc => ?_)
  · exact absurd hc (by decide)
  refine lv_aload_n hx hb dX3_init_69 rfl (lv_at hl 1 rfl) ?_
  refine va_get (D := D) (ci := 3) (v := .ref q7) (C := RX3) (T := TX3) (N := 11) hx hb hts jX3 hown hK hP 0 rfl rfl 10 (by decide) (hts _ (tg_at 260 (by decide +kernel) rfl)) (fun _ h9 => h9) rfl dX3_init_70 ?_
  refine lv_iload_n hx hb dX3_init_73 rfl (lv_at hl 0 rfl) ?_
  refine va_new (D := D) (ci := 0) (fs := [.int 0, .int 0, .int 0, .null]) (C := RX0) (T := TX0) (N := 4) hx hb hts jX0 tyX0 tyX0_ok hown (hts _ (tg_at 243 (by decide +kernel) rfl)) (hts _ (tg_at 198 (by decide +kernel) rfl)) (hts _ (tg_at 64 (by decide +kernel) rfl)) hK hP hD hS hA rfl (fun j hj => by rcases (show j = 0 ∨ j = 1 ∨ j = 2 ∨ j = 3 by omega) with rfl | rfl | rfl | rfl <;> rfl) (by decide) (by decide) dX3_init_74 (fun q8 H hP hD hS => ?_)
  refine W.widen (k := 8) (n := 47) (by decide) (by decide) ?_
  refine lv_dup hx hb dX3_init_77 rfl ?_
  refine kt_callN (As := []) (rst := fun z => [.ref z, .int 0, .ref q7]) hC hml hP hD hS hA (k_X0_init l q8) ⟨by decide, by decide⟩ ⟨by decide, by decide⟩ (by decide) (by decide +kernel) rfl mi_X0_init hd_X0_init rfl hl.1 (Nat.le_of_ble_eq_true rfl) dX3_init_78 (fun f9 H locs hP hD hS => ?_)
  refine W.widen (k := 9) (n := 51) (by decide) (by decide) ?_
  refine va_astq hx hb hK hP hD hS 7 2 8 0 rfl (r := (RX0, TX0, 4)) rfl rfl rfl (bin_in (by decide)) dX3_init_81 (fun H locs hP hD hS => ?_)
  have hP : va_P D vwCl ([(h0, .inr (3, [.int 0, .int 0, .int 0, .ref q1, .ref q2, .ref q3, .ref q4, .ref q5, .int 0, .ref q6, .ref q7]))] ++ [(q1, .inl (cy 8, 6, .inl (fun _ => 0)))] ++ [(q2, .inl (cy 8, 6, .inl (fun _ => 0)))] ++ [(q3, .inl (cy 8, 6, .inl (fun _ => 0)))] ++ [(q4, .inl (cy 8, 6, .inl (fun _ => 0)))] ++ [(q5, .inl (cy 8, 6, .inl (fun _ => 0)))] ++ [(q6, .inl (cy 8, 6, .inl (fun _ => 0)))] ++ [(q7, .inl (cy 10, 7, .inr (.inr (.inr (.inr (va_up (fun _ => none) (0 : Int32).toNatClampNeg (some (f9 0))))))))] ++ sM cy f9) H := hP
  have hD : va_D A ([(h0, .inr (3, [.int 0, .int 0, .int 0, .ref q1, .ref q2, .ref q3, .ref q4, .ref q5, .int 0, .ref q6, .ref q7]))] ++ [(q1, .inl (cy 8, 6, .inl (fun _ => 0)))] ++ [(q2, .inl (cy 8, 6, .inl (fun _ => 0)))] ++ [(q3, .inl (cy 8, 6, .inl (fun _ => 0)))] ++ [(q4, .inl (cy 8, 6, .inl (fun _ => 0)))] ++ [(q5, .inl (cy 8, 6, .inl (fun _ => 0)))] ++ [(q6, .inl (cy 8, 6, .inl (fun _ => 0)))] ++ [(q7, .inl (cy 10, 7, .inr (.inr (.inr (.inr (va_up (fun _ => none) (0 : Int32).toNatClampNeg (some (f9 0))))))))] ++ sM cy f9) := hD
  refine lv_iinc (v := 1) (lv' := [(1, .int 1), (0, .ref h0)]) hx hb dX3_init_82 hl (k := 0) rfl (by decide) (by decide) rfl (fun ls hl => ?_)
  refine lv_goto (tgt := 63) hx hb dX3_init_85 (by decide) ?_
  refine lv_iload_n hx hb dX3_init_63 rfl (lv_at hl 0 rfl) ?_
  refine lv_bipush (v := 6) hx hb dX3_init_64 (by decide) ?_
  refine lv_icmp_gt (tgt := 88) hx hb dX3_init_66 (by decide) (fun hc => ?_) (fun hc => ?_)
  · exact absurd hc (by decide)
  refine lv_aload_n hx hb dX3_init_69 rfl (lv_at hl 1 rfl) ?_
  refine va_get (D := D) (ci := 3) (v := .ref q7) (C := RX3) (T := TX3) (N := 11) hx hb hts jX3 hown hK hP 0 rfl rfl 10 (by decide) (hts _ (tg_at 260 (by decide +kernel) rfl)) (fun _ h9 => h9) rfl dX3_init_70 ?_
  refine lv_iload_n hx hb dX3_init_73 rfl (lv_at hl 0 rfl) ?_
  refine va_new (D := D) (ci := 0) (fs := [.int 0, .int 0, .int 0, .null]) (C := RX0) (T := TX0) (N := 4) hx hb hts jX0 tyX0 tyX0_ok hown (hts _ (tg_at 243 (by decide +kernel) rfl)) (hts _ (tg_at 198 (by decide +kernel) rfl)) (hts _ (tg_at 64 (by decide +kernel) rfl)) hK hP hD hS hA rfl (fun j hj => by rcases (show j = 0 ∨ j = 1 ∨ j = 2 ∨ j = 3 by omega) with rfl | rfl | rfl | rfl <;> rfl) (by decide) (by decide) dX3_init_74 (fun q10 H hP hD hS => ?_)
  refine W.widen (k := 10) (n := 55) (by decide) (by decide) ?_
  refine lv_dup hx hb dX3_init_77 rfl ?_
  refine kt_callN (As := []) (rst := fun z => [.ref z, .int 1, .ref q7]) hC hml hP hD hS hA (k_X0_init l q10) ⟨by decide, by decide⟩ ⟨by decide, by decide⟩ (by decide) (by decide +kernel) rfl mi_X0_init hd_X0_init rfl hl.1 (Nat.le_of_ble_eq_true rfl) dX3_init_78 (fun f11 H locs hP hD hS => ?_)
  refine W.widen (k := 11) (n := 59) (by decide) (by decide) ?_
  refine va_astq hx hb hK hP hD hS 7 2 10 0 rfl (r := (RX0, TX0, 4)) rfl rfl rfl (bin_in (by decide)) dX3_init_81 (fun H locs hP hD hS => ?_)
  have hP : va_P D vwCl ([(h0, .inr (3, [.int 0, .int 0, .int 0, .ref q1, .ref q2, .ref q3, .ref q4, .ref q5, .int 0, .ref q6, .ref q7]))] ++ [(q1, .inl (cy 8, 6, .inl (fun _ => 0)))] ++ [(q2, .inl (cy 8, 6, .inl (fun _ => 0)))] ++ [(q3, .inl (cy 8, 6, .inl (fun _ => 0)))] ++ [(q4, .inl (cy 8, 6, .inl (fun _ => 0)))] ++ [(q5, .inl (cy 8, 6, .inl (fun _ => 0)))] ++ [(q6, .inl (cy 8, 6, .inl (fun _ => 0)))] ++ [(q7, .inl (cy 10, 7, .inr (.inr (.inr (.inr (va_up (va_up (fun _ => none) (0 : Int32).toNatClampNeg (some (f9 0))) (1 : Int32).toNatClampNeg (some (f11 0))))))))] ++ sM cy f9 ++ sM cy f11) H := hP
  have hD : va_D A ([(h0, .inr (3, [.int 0, .int 0, .int 0, .ref q1, .ref q2, .ref q3, .ref q4, .ref q5, .int 0, .ref q6, .ref q7]))] ++ [(q1, .inl (cy 8, 6, .inl (fun _ => 0)))] ++ [(q2, .inl (cy 8, 6, .inl (fun _ => 0)))] ++ [(q3, .inl (cy 8, 6, .inl (fun _ => 0)))] ++ [(q4, .inl (cy 8, 6, .inl (fun _ => 0)))] ++ [(q5, .inl (cy 8, 6, .inl (fun _ => 0)))] ++ [(q6, .inl (cy 8, 6, .inl (fun _ => 0)))] ++ [(q7, .inl (cy 10, 7, .inr (.inr (.inr (.inr (va_up (va_up (fun _ => none) (0 : Int32).toNatClampNeg (some (f9 0))) (1 : Int32).toNatClampNeg (some (f11 0))))))))] ++ sM cy f9 ++ sM cy f11) := hD
  refine lv_iinc (v := 2) (lv' := [(1, .int 2), (0, .ref h0)]) hx hb dX3_init_82 hl (k := 0) rfl (by decide) (by decide) rfl (fun ls hl => ?_)
  refine lv_goto (tgt := 63) hx hb dX3_init_85 (by decide) ?_
  refine lv_iload_n hx hb dX3_init_63 rfl (lv_at hl 0 rfl) ?_
  refine lv_bipush (v := 6) hx hb dX3_init_64 (by decide) ?_
  refine lv_icmp_gt (tgt := 88) hx hb dX3_init_66 (by decide) (fun hc => ?_) (fun hc => ?_)
  · exact absurd hc (by decide)
  refine lv_aload_n hx hb dX3_init_69 rfl (lv_at hl 1 rfl) ?_
  refine va_get (D := D) (ci := 3) (v := .ref q7) (C := RX3) (T := TX3) (N := 11) hx hb hts jX3 hown hK hP 0 rfl rfl 10 (by decide) (hts _ (tg_at 260 (by decide +kernel) rfl)) (fun _ h9 => h9) rfl dX3_init_70 ?_
  refine lv_iload_n hx hb dX3_init_73 rfl (lv_at hl 0 rfl) ?_
  refine va_new (D := D) (ci := 0) (fs := [.int 0, .int 0, .int 0, .null]) (C := RX0) (T := TX0) (N := 4) hx hb hts jX0 tyX0 tyX0_ok hown (hts _ (tg_at 243 (by decide +kernel) rfl)) (hts _ (tg_at 198 (by decide +kernel) rfl)) (hts _ (tg_at 64 (by decide +kernel) rfl)) hK hP hD hS hA rfl (fun j hj => by rcases (show j = 0 ∨ j = 1 ∨ j = 2 ∨ j = 3 by omega) with rfl | rfl | rfl | rfl <;> rfl) (by decide) (by decide) dX3_init_74 (fun q12 H hP hD hS => ?_)
  refine W.widen (k := 12) (n := 63) (by decide) (by decide) ?_
  refine lv_dup hx hb dX3_init_77 rfl ?_
  refine kt_callN (As := []) (rst := fun z => [.ref z, .int 2, .ref q7]) hC hml hP hD hS hA (k_X0_init l q12) ⟨by decide, by decide⟩ ⟨by decide, by decide⟩ (by decide) (by decide +kernel) rfl mi_X0_init hd_X0_init rfl hl.1 (Nat.le_of_ble_eq_true rfl) dX3_init_78 (fun f13 H locs hP hD hS => ?_)
  refine W.widen (k := 13) (n := 67) (by decide) (by decide) ?_
  refine va_astq hx hb hK hP hD hS 7 2 12 0 rfl (r := (RX0, TX0, 4)) rfl rfl rfl (bin_in (by decide)) dX3_init_81 (fun H locs hP hD hS => ?_)
  have hP : va_P D vwCl ([(h0, .inr (3, [.int 0, .int 0, .int 0, .ref q1, .ref q2, .ref q3, .ref q4, .ref q5, .int 0, .ref q6, .ref q7]))] ++ [(q1, .inl (cy 8, 6, .inl (fun _ => 0)))] ++ [(q2, .inl (cy 8, 6, .inl (fun _ => 0)))] ++ [(q3, .inl (cy 8, 6, .inl (fun _ => 0)))] ++ [(q4, .inl (cy 8, 6, .inl (fun _ => 0)))] ++ [(q5, .inl (cy 8, 6, .inl (fun _ => 0)))] ++ [(q6, .inl (cy 8, 6, .inl (fun _ => 0)))] ++ [(q7, .inl (cy 10, 7, .inr (.inr (.inr (.inr (va_up (va_up (va_up (fun _ => none) (0 : Int32).toNatClampNeg (some (f9 0))) (1 : Int32).toNatClampNeg (some (f11 0))) (2 : Int32).toNatClampNeg (some (f13 0))))))))] ++ sM cy f9 ++ sM cy f11 ++ sM cy f13) H := hP
  have hD : va_D A ([(h0, .inr (3, [.int 0, .int 0, .int 0, .ref q1, .ref q2, .ref q3, .ref q4, .ref q5, .int 0, .ref q6, .ref q7]))] ++ [(q1, .inl (cy 8, 6, .inl (fun _ => 0)))] ++ [(q2, .inl (cy 8, 6, .inl (fun _ => 0)))] ++ [(q3, .inl (cy 8, 6, .inl (fun _ => 0)))] ++ [(q4, .inl (cy 8, 6, .inl (fun _ => 0)))] ++ [(q5, .inl (cy 8, 6, .inl (fun _ => 0)))] ++ [(q6, .inl (cy 8, 6, .inl (fun _ => 0)))] ++ [(q7, .inl (cy 10, 7, .inr (.inr (.inr (.inr (va_up (va_up (va_up (fun _ => none) (0 : Int32).toNatClampNeg (some (f9 0))) (1 : Int32).toNatClampNeg (some (f11 0))) (2 : Int32).toNatClampNeg (some (f13 0))))))))] ++ sM cy f9 ++ sM cy f11 ++ sM cy f13) := hD
  refine lv_iinc (v := 3) (lv' := [(1, .int 3), (0, .ref h0)]) hx hb dX3_init_82 hl (k := 0) rfl (by decide) (by decide) rfl (fun ls hl => ?_)
  refine lv_goto (tgt := 63) hx hb dX3_init_85 (by decide) ?_
  refine lv_iload_n hx hb dX3_init_63 rfl (lv_at hl 0 rfl) ?_
  refine lv_bipush (v := 6) hx hb dX3_init_64 (by decide) ?_
  refine lv_icmp_gt (tgt := 88) hx hb dX3_init_66 (by decide) (fun hc => ?_) (fun hc => ?_)
  · exact absurd hc (by decide)
  refine lv_aload_n hx hb dX3_init_69 rfl (lv_at hl 1 rfl) ?_
  refine va_get (D := D) (ci := 3) (v := .ref q7) (C := RX3) (T := TX3) (N := 11) hx hb hts jX3 hown hK hP 0 rfl rfl 10 (by decide) (hts _ (tg_at 260 (by decide +kernel) rfl)) (fun _ h9 => h9) rfl dX3_init_70 ?_
  refine lv_iload_n hx hb dX3_init_73 rfl (lv_at hl 0 rfl) ?_
  refine va_new (D := D) (ci := 0) (fs := [.int 0, .int 0, .int 0, .null]) (C := RX0) (T := TX0) (N := 4) hx hb hts jX0 tyX0 tyX0_ok hown (hts _ (tg_at 243 (by decide +kernel) rfl)) (hts _ (tg_at 198 (by decide +kernel) rfl)) (hts _ (tg_at 64 (by decide +kernel) rfl)) hK hP hD hS hA rfl (fun j hj => by rcases (show j = 0 ∨ j = 1 ∨ j = 2 ∨ j = 3 by omega) with rfl | rfl | rfl | rfl <;> rfl) (by decide) (by decide) dX3_init_74 (fun q14 H hP hD hS => ?_)
  refine W.widen (k := 14) (n := 71) (by decide) (by decide) ?_
  refine lv_dup hx hb dX3_init_77 rfl ?_
  refine kt_callN (As := []) (rst := fun z => [.ref z, .int 3, .ref q7]) hC hml hP hD hS hA (k_X0_init l q14) ⟨by decide, by decide⟩ ⟨by decide, by decide⟩ (by decide) (by decide +kernel) rfl mi_X0_init hd_X0_init rfl hl.1 (Nat.le_of_ble_eq_true rfl) dX3_init_78 (fun f15 H locs hP hD hS => ?_)
  refine W.widen (k := 15) (n := 75) (by decide) (by decide) ?_
  refine va_astq hx hb hK hP hD hS 7 2 14 0 rfl (r := (RX0, TX0, 4)) rfl rfl rfl (bin_in (by decide)) dX3_init_81 (fun H locs hP hD hS => ?_)
  have hP : va_P D vwCl ([(h0, .inr (3, [.int 0, .int 0, .int 0, .ref q1, .ref q2, .ref q3, .ref q4, .ref q5, .int 0, .ref q6, .ref q7]))] ++ [(q1, .inl (cy 8, 6, .inl (fun _ => 0)))] ++ [(q2, .inl (cy 8, 6, .inl (fun _ => 0)))] ++ [(q3, .inl (cy 8, 6, .inl (fun _ => 0)))] ++ [(q4, .inl (cy 8, 6, .inl (fun _ => 0)))] ++ [(q5, .inl (cy 8, 6, .inl (fun _ => 0)))] ++ [(q6, .inl (cy 8, 6, .inl (fun _ => 0)))] ++ [(q7, .inl (cy 10, 7, .inr (.inr (.inr (.inr (va_up (va_up (va_up (va_up (fun _ => none) (0 : Int32).toNatClampNeg (some (f9 0))) (1 : Int32).toNatClampNeg (some (f11 0))) (2 : Int32).toNatClampNeg (some (f13 0))) (3 : Int32).toNatClampNeg (some (f15 0))))))))] ++ sM cy f9 ++ sM cy f11 ++ sM cy f13 ++ sM cy f15) H := hP
  have hD : va_D A ([(h0, .inr (3, [.int 0, .int 0, .int 0, .ref q1, .ref q2, .ref q3, .ref q4, .ref q5, .int 0, .ref q6, .ref q7]))] ++ [(q1, .inl (cy 8, 6, .inl (fun _ => 0)))] ++ [(q2, .inl (cy 8, 6, .inl (fun _ => 0)))] ++ [(q3, .inl (cy 8, 6, .inl (fun _ => 0)))] ++ [(q4, .inl (cy 8, 6, .inl (fun _ => 0)))] ++ [(q5, .inl (cy 8, 6, .inl (fun _ => 0)))] ++ [(q6, .inl (cy 8, 6, .inl (fun _ => 0)))] ++ [(q7, .inl (cy 10, 7, .inr (.inr (.inr (.inr (va_up (va_up (va_up (va_up (fun _ => none) (0 : Int32).toNatClampNeg (some (f9 0))) (1 : Int32).toNatClampNeg (some (f11 0))) (2 : Int32).toNatClampNeg (some (f13 0))) (3 : Int32).toNatClampNeg (some (f15 0))))))))] ++ sM cy f9 ++ sM cy f11 ++ sM cy f13 ++ sM cy f15) := hD
  refine lv_iinc (v := 4) (lv' := [(1, .int 4), (0, .ref h0)]) hx hb dX3_init_82 hl (k := 0) rfl (by decide) (by decide) rfl (fun ls hl => ?_)
  refine lv_goto (tgt := 63) hx hb dX3_init_85 (by decide) ?_
  refine lv_iload_n hx hb dX3_init_63 rfl (lv_at hl 0 rfl) ?_
  refine lv_bipush (v := 6) hx hb dX3_init_64 (by decide) ?_
  refine lv_icmp_gt (tgt := 88) hx hb dX3_init_66 (by decide) (fun hc => ?_) (fun hc => ?_)
  · exact absurd hc (by decide)
  refine lv_aload_n hx hb dX3_init_69 rfl (lv_at hl 1 rfl) ?_
  refine va_get (D := D) (ci := 3) (v := .ref q7) (C := RX3) (T := TX3) (N := 11) hx hb hts jX3 hown hK hP 0 rfl rfl 10 (by decide) (hts _ (tg_at 260 (by decide +kernel) rfl)) (fun _ h9 => h9) rfl dX3_init_70 ?_
  refine lv_iload_n hx hb dX3_init_73 rfl (lv_at hl 0 rfl) ?_
  refine va_new (D := D) (ci := 0) (fs := [.int 0, .int 0, .int 0, .null]) (C := RX0) (T := TX0) (N := 4) hx hb hts jX0 tyX0 tyX0_ok hown (hts _ (tg_at 243 (by decide +kernel) rfl)) (hts _ (tg_at 198 (by decide +kernel) rfl)) (hts _ (tg_at 64 (by decide +kernel) rfl)) hK hP hD hS hA rfl (fun j hj => by rcases (show j = 0 ∨ j = 1 ∨ j = 2 ∨ j = 3 by omega) with rfl | rfl | rfl | rfl <;> rfl) (by decide) (by decide) dX3_init_74 (fun q16 H hP hD hS => ?_)
  refine W.widen (k := 16) (n := 79) (by decide) (by decide) ?_
  refine lv_dup hx hb dX3_init_77 rfl ?_
  refine kt_callN (As := []) (rst := fun z => [.ref z, .int 4, .ref q7]) hC hml hP hD hS hA (k_X0_init l q16) ⟨by decide, by decide⟩ ⟨by decide, by decide⟩ (by decide) (by decide +kernel) rfl mi_X0_init hd_X0_init rfl hl.1 (Nat.le_of_ble_eq_true rfl) dX3_init_78 (fun f17 H locs hP hD hS => ?_)
  refine W.widen (k := 17) (n := 83) (by decide) (by decide) ?_
  refine va_astq hx hb hK hP hD hS 7 2 16 0 rfl (r := (RX0, TX0, 4)) rfl rfl rfl (bin_in (by decide)) dX3_init_81 (fun H locs hP hD hS => ?_)
  have hP : va_P D vwCl ([(h0, .inr (3, [.int 0, .int 0, .int 0, .ref q1, .ref q2, .ref q3, .ref q4, .ref q5, .int 0, .ref q6, .ref q7]))] ++ [(q1, .inl (cy 8, 6, .inl (fun _ => 0)))] ++ [(q2, .inl (cy 8, 6, .inl (fun _ => 0)))] ++ [(q3, .inl (cy 8, 6, .inl (fun _ => 0)))] ++ [(q4, .inl (cy 8, 6, .inl (fun _ => 0)))] ++ [(q5, .inl (cy 8, 6, .inl (fun _ => 0)))] ++ [(q6, .inl (cy 8, 6, .inl (fun _ => 0)))] ++ [(q7, .inl (cy 10, 7, .inr (.inr (.inr (.inr (va_up (va_up (va_up (va_up (va_up (fun _ => none) (0 : Int32).toNatClampNeg (some (f9 0))) (1 : Int32).toNatClampNeg (some (f11 0))) (2 : Int32).toNatClampNeg (some (f13 0))) (3 : Int32).toNatClampNeg (some (f15 0))) (4 : Int32).toNatClampNeg (some (f17 0))))))))] ++ sM cy f9 ++ sM cy f11 ++ sM cy f13 ++ sM cy f15 ++ sM cy f17) H := hP
  have hD : va_D A ([(h0, .inr (3, [.int 0, .int 0, .int 0, .ref q1, .ref q2, .ref q3, .ref q4, .ref q5, .int 0, .ref q6, .ref q7]))] ++ [(q1, .inl (cy 8, 6, .inl (fun _ => 0)))] ++ [(q2, .inl (cy 8, 6, .inl (fun _ => 0)))] ++ [(q3, .inl (cy 8, 6, .inl (fun _ => 0)))] ++ [(q4, .inl (cy 8, 6, .inl (fun _ => 0)))] ++ [(q5, .inl (cy 8, 6, .inl (fun _ => 0)))] ++ [(q6, .inl (cy 8, 6, .inl (fun _ => 0)))] ++ [(q7, .inl (cy 10, 7, .inr (.inr (.inr (.inr (va_up (va_up (va_up (va_up (va_up (fun _ => none) (0 : Int32).toNatClampNeg (some (f9 0))) (1 : Int32).toNatClampNeg (some (f11 0))) (2 : Int32).toNatClampNeg (some (f13 0))) (3 : Int32).toNatClampNeg (some (f15 0))) (4 : Int32).toNatClampNeg (some (f17 0))))))))] ++ sM cy f9 ++ sM cy f11 ++ sM cy f13 ++ sM cy f15 ++ sM cy f17) := hD
  refine lv_iinc (v := 5) (lv' := [(1, .int 5), (0, .ref h0)]) hx hb dX3_init_82 hl (k := 0) rfl (by decide) (by decide) rfl (fun ls hl => ?_)
  refine lv_goto (tgt := 63) hx hb dX3_init_85 (by decide) ?_
  refine lv_iload_n hx hb dX3_init_63 rfl (lv_at hl 0 rfl) ?_
  refine lv_bipush (v := 6) hx hb dX3_init_64 (by decide) ?_
  refine lv_icmp_gt (tgt := 88) hx hb dX3_init_66 (by decide) (fun hc => ?_) (fun hc => ?_)
  · exact absurd hc (by decide)
  refine lv_aload_n hx hb dX3_init_69 rfl (lv_at hl 1 rfl) ?_
  refine va_get (D := D) (ci := 3) (v := .ref q7) (C := RX3) (T := TX3) (N := 11) hx hb hts jX3 hown hK hP 0 rfl rfl 10 (by decide) (hts _ (tg_at 260 (by decide +kernel) rfl)) (fun _ h9 => h9) rfl dX3_init_70 ?_
  refine lv_iload_n hx hb dX3_init_73 rfl (lv_at hl 0 rfl) ?_
  refine va_new (D := D) (ci := 0) (fs := [.int 0, .int 0, .int 0, .null]) (C := RX0) (T := TX0) (N := 4) hx hb hts jX0 tyX0 tyX0_ok hown (hts _ (tg_at 243 (by decide +kernel) rfl)) (hts _ (tg_at 198 (by decide +kernel) rfl)) (hts _ (tg_at 64 (by decide +kernel) rfl)) hK hP hD hS hA rfl (fun j hj => by rcases (show j = 0 ∨ j = 1 ∨ j = 2 ∨ j = 3 by omega) with rfl | rfl | rfl | rfl <;> rfl) (by decide) (by decide) dX3_init_74 (fun q18 H hP hD hS => ?_)
  refine W.widen (k := 18) (n := 87) (by decide) (by decide) ?_
  refine lv_dup hx hb dX3_init_77 rfl ?_
  refine kt_callN (As := []) (rst := fun z => [.ref z, .int 5, .ref q7]) hC hml hP hD hS hA (k_X0_init l q18) ⟨by decide, by decide⟩ ⟨by decide, by decide⟩ (by decide) (by decide +kernel) rfl mi_X0_init hd_X0_init rfl hl.1 (Nat.le_of_ble_eq_true rfl) dX3_init_78 (fun f19 H locs hP hD hS => ?_)
  refine W.widen (k := 19) (n := 91) (by decide) (by decide) ?_
  refine va_astq hx hb hK hP hD hS 7 2 18 0 rfl (r := (RX0, TX0, 4)) rfl rfl rfl (bin_in (by decide)) dX3_init_81 (fun H locs hP hD hS => ?_)
  have hP : va_P D vwCl ([(h0, .inr (3, [.int 0, .int 0, .int 0, .ref q1, .ref q2, .ref q3, .ref q4, .ref q5, .int 0, .ref q6, .ref q7]))] ++ [(q1, .inl (cy 8, 6, .inl (fun _ => 0)))] ++ [(q2, .inl (cy 8, 6, .inl (fun _ => 0)))] ++ [(q3, .inl (cy 8, 6, .inl (fun _ => 0)))] ++ [(q4, .inl (cy 8, 6, .inl (fun _ => 0)))] ++ [(q5, .inl (cy 8, 6, .inl (fun _ => 0)))] ++ [(q6, .inl (cy 8, 6, .inl (fun _ => 0)))] ++ [(q7, .inl (cy 10, 7, .inr (.inr (.inr (.inr (va_up (va_up (va_up (va_up (va_up (va_up (fun _ => none) (0 : Int32).toNatClampNeg (some (f9 0))) (1 : Int32).toNatClampNeg (some (f11 0))) (2 : Int32).toNatClampNeg (some (f13 0))) (3 : Int32).toNatClampNeg (some (f15 0))) (4 : Int32).toNatClampNeg (some (f17 0))) (5 : Int32).toNatClampNeg (some (f19 0))))))))] ++ sM cy f9 ++ sM cy f11 ++ sM cy f13 ++ sM cy f15 ++ sM cy f17 ++ sM cy f19) H := hP
  have hD : va_D A ([(h0, .inr (3, [.int 0, .int 0, .int 0, .ref q1, .ref q2, .ref q3, .ref q4, .ref q5, .int 0, .ref q6, .ref q7]))] ++ [(q1, .inl (cy 8, 6, .inl (fun _ => 0)))] ++ [(q2, .inl (cy 8, 6, .inl (fun _ => 0)))] ++ [(q3, .inl (cy 8, 6, .inl (fun _ => 0)))] ++ [(q4, .inl (cy 8, 6, .inl (fun _ => 0)))] ++ [(q5, .inl (cy 8, 6, .inl (fun _ => 0)))] ++ [(q6, .inl (cy 8, 6, .inl (fun _ => 0)))] ++ [(q7, .inl (cy 10, 7, .inr (.inr (.inr (.inr (va_up (va_up (va_up (va_up (va_up (va_up (fun _ => none) (0 : Int32).toNatClampNeg (some (f9 0))) (1 : Int32).toNatClampNeg (some (f11 0))) (2 : Int32).toNatClampNeg (some (f13 0))) (3 : Int32).toNatClampNeg (some (f15 0))) (4 : Int32).toNatClampNeg (some (f17 0))) (5 : Int32).toNatClampNeg (some (f19 0))))))))] ++ sM cy f9 ++ sM cy f11 ++ sM cy f13 ++ sM cy f15 ++ sM cy f17 ++ sM cy f19) := hD
  refine lv_iinc (v := 6) (lv' := [(1, .int 6), (0, .ref h0)]) hx hb dX3_init_82 hl (k := 0) rfl (by decide) (by decide) rfl (fun ls hl => ?_)
  refine lv_goto (tgt := 63) hx hb dX3_init_85 (by decide) ?_
  refine lv_iload_n hx hb dX3_init_63 rfl (lv_at hl 0 rfl) ?_
  refine lv_bipush (v := 6) hx hb dX3_init_64 (by decide) ?_
  refine lv_icmp_gt (tgt := 88) hx hb dX3_init_66 (by decide) (fun hc => ?_) (fun hc => ?_)
  · exact absurd hc (by decide)
  refine lv_aload_n hx hb dX3_init_69 rfl (lv_at hl 1 rfl) ?_
  refine va_get (D := D) (ci := 3) (v := .ref q7) (C := RX3) (T := TX3) (N := 11) hx hb hts jX3 hown hK hP 0 rfl rfl 10 (by decide) (hts _ (tg_at 260 (by decide +kernel) rfl)) (fun _ h9 => h9) rfl dX3_init_70 ?_
  refine lv_iload_n hx hb dX3_init_73 rfl (lv_at hl 0 rfl) ?_
  refine va_new (D := D) (ci := 0) (fs := [.int 0, .int 0, .int 0, .null]) (C := RX0) (T := TX0) (N := 4) hx hb hts jX0 tyX0 tyX0_ok hown (hts _ (tg_at 243 (by decide +kernel) rfl)) (hts _ (tg_at 198 (by decide +kernel) rfl)) (hts _ (tg_at 64 (by decide +kernel) rfl)) hK hP hD hS hA rfl (fun j hj => by rcases (show j = 0 ∨ j = 1 ∨ j = 2 ∨ j = 3 by omega) with rfl | rfl | rfl | rfl <;> rfl) (by decide) (by decide) dX3_init_74 (fun q20 H hP hD hS => ?_)
  refine W.widen (k := 20) (n := 95) (by decide) (by decide) ?_
  refine lv_dup hx hb dX3_init_77 rfl ?_
  refine kt_callN (As := []) (rst := fun z => [.ref z, .int 6, .ref q7]) hC hml hP hD hS hA (k_X0_init l q20) ⟨by decide, by decide⟩ ⟨by decide, by decide⟩ (by decide) (by decide +kernel) rfl mi_X0_init hd_X0_init rfl hl.1 (Nat.le_of_ble_eq_true rfl) dX3_init_78 (fun f21 H locs hP hD hS => ?_)
  refine W.widen (k := 21) (n := 99) (by decide) (by decide) ?_
  refine va_astq hx hb hK hP hD hS 7 2 20 0 rfl (r := (RX0, TX0, 4)) rfl rfl rfl (bin_in (by decide)) dX3_init_81 (fun H locs hP hD hS => ?_)
  have hP : va_P D vwCl ([(h0, .inr (3, [.int 0, .int 0, .int 0, .ref q1, .ref q2, .ref q3, .ref q4, .ref q5, .int 0, .ref q6, .ref q7]))] ++ [(q1, .inl (cy 8, 6, .inl (fun _ => 0)))] ++ [(q2, .inl (cy 8, 6, .inl (fun _ => 0)))] ++ [(q3, .inl (cy 8, 6, .inl (fun _ => 0)))] ++ [(q4, .inl (cy 8, 6, .inl (fun _ => 0)))] ++ [(q5, .inl (cy 8, 6, .inl (fun _ => 0)))] ++ [(q6, .inl (cy 8, 6, .inl (fun _ => 0)))] ++ [(q7, .inl (cy 10, 7, .inr (.inr (.inr (.inr (va_up (va_up (va_up (va_up (va_up (va_up (va_up (fun _ => none) (0 : Int32).toNatClampNeg (some (f9 0))) (1 : Int32).toNatClampNeg (some (f11 0))) (2 : Int32).toNatClampNeg (some (f13 0))) (3 : Int32).toNatClampNeg (some (f15 0))) (4 : Int32).toNatClampNeg (some (f17 0))) (5 : Int32).toNatClampNeg (some (f19 0))) (6 : Int32).toNatClampNeg (some (f21 0))))))))] ++ sM cy f9 ++ sM cy f11 ++ sM cy f13 ++ sM cy f15 ++ sM cy f17 ++ sM cy f19 ++ sM cy f21) H := hP
  have hD : va_D A ([(h0, .inr (3, [.int 0, .int 0, .int 0, .ref q1, .ref q2, .ref q3, .ref q4, .ref q5, .int 0, .ref q6, .ref q7]))] ++ [(q1, .inl (cy 8, 6, .inl (fun _ => 0)))] ++ [(q2, .inl (cy 8, 6, .inl (fun _ => 0)))] ++ [(q3, .inl (cy 8, 6, .inl (fun _ => 0)))] ++ [(q4, .inl (cy 8, 6, .inl (fun _ => 0)))] ++ [(q5, .inl (cy 8, 6, .inl (fun _ => 0)))] ++ [(q6, .inl (cy 8, 6, .inl (fun _ => 0)))] ++ [(q7, .inl (cy 10, 7, .inr (.inr (.inr (.inr (va_up (va_up (va_up (va_up (va_up (va_up (va_up (fun _ => none) (0 : Int32).toNatClampNeg (some (f9 0))) (1 : Int32).toNatClampNeg (some (f11 0))) (2 : Int32).toNatClampNeg (some (f13 0))) (3 : Int32).toNatClampNeg (some (f15 0))) (4 : Int32).toNatClampNeg (some (f17 0))) (5 : Int32).toNatClampNeg (some (f19 0))) (6 : Int32).toNatClampNeg (some (f21 0))))))))] ++ sM cy f9 ++ sM cy f11 ++ sM cy f13 ++ sM cy f15 ++ sM cy f17 ++ sM cy f19 ++ sM cy f21) := hD
  refine lv_iinc (v := 7) (lv' := [(1, .int 7), (0, .ref h0)]) hx hb dX3_init_82 hl (k := 0) rfl (by decide) (by decide) rfl (fun ls hl => ?_)
  refine lv_goto (tgt := 63) hx hb dX3_init_85 (by decide) ?_
  refine lv_iload_n hx hb dX3_init_63 rfl (lv_at hl 0 rfl) ?_
  refine lv_bipush (v := 6) hx hb dX3_init_64 (by decide) ?_
  refine lv_icmp_gt (tgt := 88) hx hb dX3_init_66 (by decide) (fun hc => ?_) (fun hc => ?_)
  rotate_left
  · exact absurd hc (by decide)
  obtain ⟨hP, hD⟩ := kt_arr (k := 7) (g := fun i => some ((fun j => [h0, q1, q2, q3, q4, q5, q6, q7, f9 0, f9 1, f11 0, f11 1, f13 0, f13 1, f15 0, f15 1, f17 0, f17 1, f19 0, f19 1, f21 0, f21 1].getD j 0) (7 + 1 + 2 * i))) hP hD rfl (fun i hi => by
    rcases (show i = 0 ∨ i = 1 ∨ i = 2 ∨ i = 3 ∨ i = 4 ∨ i = 5 ∨ i = 6 by omega) with rfl | rfl | rfl | rfl | rfl | rfl | rfl <;> rfl)
  subst hAe
  exact kt_ret (fun i => [h0, q1, q2, q3, q4, q5, q6, q7, f9 0, f9 1, f11 0, f11 1, f13 0, f13 1, f15 0, f15 1, f17 0, f17 1, f19 0, f19 1, f21 0, f21 1].getD i 0) hC hr hlk rfl hP hD hS rfl rfl dX3_init_88
