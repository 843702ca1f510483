set_option maxHeartbeats 40000000 in
set_option maxRecDepth 100000 in
theorem k_X6_init (l : Launch) {D : va_G} {cy : Nat → ClassId} (h0 : Nat) : Kt l 3 157 932 yX6_init cX6_init 2 D cy h0 (.inr (6, [.null, .null, .null, .null, .null, .null, .null, .null, .null, .null, .long 0])) [] (subX cy) := by
  refine Kt_of (by decide) (Nat.le_of_ble_eq_true rfl) rfl (fun p e s m below meth c ls A hAe hC hin hml hr hlk hP hD hS hA hl => ?_)
  have hx := hC.1
  have hb := hC.2.1
  have hts := hC.2.2.1
  have hown := hC.2.2.2.1
  have hK := hC.2.2.2.2.1
  have hl : lv_has ls 2 [(0, .ref h0)] := hl
  refine lv_aload_n hx hb dX6_init_0 rfl (lv_at hl 0 rfl) ?_
  refine W.objInit hx hb hown (hts _ (tg_at 74 (by decide +kernel) rfl)) (hts _ (tg_at 75 (by decide +kernel) rfl)) (hts _ (tg_at 76 (by decide +kernel) rfl)) rfl (by rw [hml]; exact hl.1) rfl dX6_init_1 (Nat.le_of_ble_eq_true rfl) (Nat.le_of_ble_eq_true rfl) ?_
  refine W.eq (g2 := F0 m 4 ls []) rfl ?_
  refine lv_aload_n hx hb dX6_init_4 rfl (lv_at hl 0 rfl) ?_
  refine va_new (D := D) (ci := 2) (fs := [.int 0, .null, .int 0, .int 0, .int 0, .int 0, .int 0, .int 0, .null]) (C := RX2) (T := TX2) (N := 9) hx hb hts jX2 tyX2 tyX2_ok hown (hts _ (tg_at 77 (by decide +kernel) rfl)) (hts _ (tg_at 78 (by decide +kernel) rfl)) (hts _ (tg_at 61 (by decide +kernel) rfl)) hK hP hD hS hA rfl (fun j hj => by rcases (show j = 0 ∨ j = 1 ∨ j = 2 ∨ j = 3 ∨ j = 4 ∨ j = 5 ∨ j = 6 ∨ j = 7 ∨ j = 8 by omega) with rfl | rfl | rfl | rfl | rfl | rfl | rfl | rfl | rfl <;> rfl) (by decide) (by decide) dX6_init_5 (fun q1 H hP hD hS => ?_)
  refine W.widen (k := 1) (n := 9) (by decide) (by decide) ?_
  refine lv_dup hx hb dX6_init_8 rfl ?_
  refine kt_callN (As := []) (rst := fun z => [.ref z, .ref h0]) hC hml hP hD hS hA (k_X2_init l q1) ⟨by decide, by decide⟩ ⟨by decide, by decide⟩ (by decide) (by decide +kernel) rfl mi_X2_init hd_X2_init rfl hl.1 (Nat.le_of_ble_eq_true rfl) dX6_init_9 (fun f2 H locs hP hD hS => ?_)
  refine W.widen (k := 3) (n := 213) (by decide) (by decide) ?_
  have hP : va_P D vwCl ((h0, .inr (6, [.null, .null, .null, .null, .null, .null, .null, .null, .null, .null, .long 0])) :: _) H := hP
  have hD : va_D A ((h0, .inr (6, [.null, .null, .null, .null, .null, .null, .null, .null, .null, .null, .long 0])) :: _) := hD
  refine va_putF (D := D) (ci := 6) (v := .ref (f2 0)) (ty := tyX6 0) (C := RX6) (T := TX6) (N := 11) hx hb hts jX6 tyX6 tyX6_ok nmX6 hown hK hP hD hS 0 rfl rfl 0 (by decide) (hts _ (tg_at 317 (by decide +kernel) rfl)) (fun _ h9 => h9) rfl hin rfl (tyX6_ok 0 (by decide)) rfl rfl (Nat.le_of_ble_eq_true rfl) dX6_init_12 (fun H locs hP hD hS => ?_)
  have hP : va_P D vwCl ((h0, .inr (6, [.ref (f2 0), .null, .null, .null, .null, .null, .null, .null, .null, .null, .long 0])) :: _) H := hP
  have hD : va_D A ((h0, .inr (6, [.ref (f2 0), .null, .null, .null, .null, .null, .null, .null, .null, .null, .long 0])) :: _) := hD
  refine lv_aload_n hx hb dX6_init_15 rfl (lv_at hl 0 rfl) ?_
  refine va_new (D := D) (ci := 4) (fs := [.int 0, .int 0, .int 0, .int 0, .int 0, .null, .null, .null, .null, .null, .null, .null, .null, .null]) (C := RX4) (T := TX4) (N := 14) hx hb hts jX4 tyX4 tyX4_ok hown (hts _ (tg_at 114 (by decide +kernel) rfl)) (hts _ (tg_at 115 (by decide +kernel) rfl)) (hts _ (tg_at 62 (by decide +kernel) rfl)) hK hP hD hS hA rfl (fun j hj => by rcases (show j = 0 ∨ j = 1 ∨ j = 2 ∨ j = 3 ∨ j = 4 ∨ j = 5 ∨ j = 6 ∨ j = 7 ∨ j = 8 ∨ j = 9 ∨ j = 10 ∨ j = 11 ∨ j = 12 ∨ j = 13 by omega) with rfl | rfl | rfl | rfl | rfl | rfl | rfl | rfl | rfl | rfl | rfl | rfl | rfl | rfl <;> rfl) (by decide) (by decide) dX6_init_16 (fun q3 H hP hD hS => ?_)
  refine W.widen (k := 4) (n := 227) (by decide) (by decide) ?_
  refine lv_dup hx hb dX6_init_19 rfl ?_
  refine kt_callN (As := []) (rst := fun z => [.ref z, .ref h0]) hC hml hP hD hS hA (k_X4_init l q3) ⟨by decide, by decide⟩ ⟨by decide, by decide⟩ (by decide) (by decide +kernel) rfl mi_X4_init hd_X4_init rfl hl.1 (Nat.le_of_ble_eq_true rfl) dX6_init_20 (fun f4 H locs hP hD hS => ?_)
  refine W.widen (k := 13) (n := 279) (by decide) (by decide) ?_
  have hP : va_P D vwCl ((h0, .inr (6, [.ref (f2 0), .null, .null, .null, .null, .null, .null, .null, .null, .null, .long 0])) :: _) H := hP
  have hD : va_D A ((h0, .inr (6, [.ref (f2 0), .null, .null, .null, .null, .null, .null, .null, .null, .null, .long 0])) :: _) := hD
  refine va_put (D := D) (ci := 6) (v := .ref (f4 0)) (ty := tyX6 1) (C := RX6) (T := TX6) (N := 11) hx hb hts jX6 tyX6 tyX6_ok nmX6 hown hK hP hD hS 0 rfl rfl 1 (by decide) (hts _ (tg_at 318 (by decide +kernel) rfl)) (fun _ h9 => h9) rfl (tyX6_ok 1 (by decide)) rfl rfl (Nat.le_of_ble_eq_true rfl) dX6_init_23 (fun H locs hP hD hS => ?_)
  have hP : va_P D vwCl ((h0, .inr (6, [.ref (f2 0), .ref (f4 0), .null, .null, .null, .null, .null, .null, .null, .null, .long 0])) :: _) H := hP
  have hD : va_D A ((h0, .inr (6, [.ref (f2 0), .ref (f4 0), .null, .null, .null, .null, .null, .null, .null, .null, .long 0])) :: _) := hD
  refine lv_aload_n hx hb dX6_init_26 rfl (lv_at hl 0 rfl) ?_
  refine va_new (D := D) (ci := 4) (fs := [.int 0, .int 0, .int 0, .int 0, .int 0, .null, .null, .null, .null, .null, .null, .null, .null, .null]) (C := RX4) (T := TX4) (N := 14) hx hb hts jX4 tyX4 tyX4_ok hown (hts _ (tg_at 114 (by decide +kernel) rfl)) (hts _ (tg_at 115 (by decide +kernel) rfl)) (hts _ (tg_at 62 (by decide +kernel) rfl)) hK hP hD hS hA rfl (fun j hj => by rcases (show j = 0 ∨ j = 1 ∨ j = 2 ∨ j = 3 ∨ j = 4 ∨ j = 5 ∨ j = 6 ∨ j = 7 ∨ j = 8 ∨ j = 9 ∨ j = 10 ∨ j = 11 ∨ j = 12 ∨ j = 13 by omega) with rfl | rfl | rfl | rfl | rfl | rfl | rfl | rfl | rfl | rfl | rfl | rfl | rfl | rfl <;> rfl) (by decide) (by decide) dX6_init_27 (fun q5 H hP hD hS => ?_)
  refine W.widen (k := 14) (n := 293) (by decide) (by decide) ?_
  refine lv_dup hx hb dX6_init_30 rfl ?_
  refine kt_callN (As := []) (rst := fun z => [.ref z, .ref h0]) hC hml hP hD hS hA (k_X4_init l q5) ⟨by decide, by decide⟩ ⟨by decide, by decide⟩ (by decide) (by decide +kernel) rfl mi_X4_init hd_X4_init rfl hl.1 (Nat.le_of_ble_eq_true rfl) dX6_init_31 (fun f6 H locs hP hD hS => ?_)
  refine W.widen (k := 23) (n := 345) (by decide) (by decide) ?_
  have hP : va_P D vwCl ((h0, .inr (6, [.ref (f2 0), .ref (f4 0), .null, .null, .null, .null, .null, .null, .null, .null, .long 0])) :: _) H := hP
  have hD : va_D A ((h0, .inr (6, [.ref (f2 0), .ref (f4 0), .null, .null, .null, .null, .null, .null, .null, .null, .long 0])) :: _) := hD
  refine va_put (D := D) (ci := 6) (v := .ref (f6 0)) (ty := tyX6 2) (C := RX6) (T := TX6) (N := 11) hx hb hts jX6 tyX6 tyX6_ok nmX6 hown hK hP hD hS 0 rfl rfl 2 (by decide) (hts _ (tg_at 319 (by decide +kernel) rfl)) (fun _ h9 => h9) rfl (tyX6_ok 2 (by decide)) rfl rfl (Nat.le_of_ble_eq_true rfl) dX6_init_34 (fun H locs hP hD hS => ?_)
  have hP : va_P D vwCl ((h0, .inr (6, [.ref (f2 0), .ref (f4 0), .ref (f6 0), .null, .null, .null, .null, .null, .null, .null, .long 0])) :: _) H := hP
  have hD : va_D A ((h0, .inr (6, [.ref (f2 0), .ref (f4 0), .ref (f6 0), .null, .null, .null, .null, .null, .null, .null, .long 0])) :: _) := hD
  refine lv_aload_n hx hb dX6_init_37 rfl (lv_at hl 0 rfl) ?_
  refine va_new (D := D) (ci := 5) (fs := [.null, .int 0, .null]) (C := RX5) (T := TX5) (N := 3) hx hb hts jX5 tyX5 tyX5_ok hown (hts _ (tg_at 191 (by decide +kernel) rfl)) (hts _ (tg_at 192 (by decide +kernel) rfl)) (hts _ (tg_at 63 (by decide +kernel) rfl)) hK hP hD hS hA rfl (fun j hj => by rcases (show j = 0 ∨ j = 1 ∨ j = 2 by omega) with rfl | rfl | rfl <;> rfl) (by decide) (by decide) dX6_init_38 (fun q7 H hP hD hS => ?_)
  refine W.widen (k := 24) (n := 348) (by decide) (by decide) ?_
  refine lv_dup hx hb dX6_init_41 rfl ?_
  refine kt_callI (As := []) (rst := fun z => [.ref z, .ref h0]) hC hml hP hD hS hA (k_X5_init l q7) ⟨by decide, by decide⟩ ⟨by decide, by decide⟩ (by decide) (tg_at 193 (by decide +kernel) rfl) rfl mi_X5_init hd_X5_init rfl hl.1 (Nat.le_of_ble_eq_true rfl) dX6_init_42 (fun f8 H locs hP hD hS => ?_)
  refine W.widen (k := 47) (n := 446) (by decide) (by decide) ?_
  have hP : va_P D vwCl ((h0, .inr (6, [.ref (f2 0), .ref (f4 0), .ref (f6 0), .null, .null, .null, .null, .null, .null, .null, .long 0])) :: _) H := hP
  have hD : va_D A ((h0, .inr (6, [.ref (f2 0), .ref (f4 0), .ref (f6 0), .null, .null, .null, .null, .null, .null, .null, .long 0])) :: _) := hD
  refine va_putF (D := D) (ci := 6) (v := .ref (f8 0)) (ty := tyX6 3) (C := RX6) (T := TX6) (N := 11) hx hb hts jX6 tyX6 tyX6_ok nmX6 hown hK hP hD hS 0 rfl rfl 3 (by decide) (hts _ (tg_at 320 (by decide +kernel) rfl)) (fun _ h9 => h9) rfl hin rfl (tyX6_ok 3 (by decide)) rfl rfl (Nat.le_of_ble_eq_true rfl) dX6_init_45 (fun H locs hP hD hS => ?_)
  have hP : va_P D vwCl ((h0, .inr (6, [.ref (f2 0), .ref (f4 0), .ref (f6 0), .ref (f8 0), .null, .null, .null, .null, .null, .null, .long 0])) :: _) H := hP
  have hD : va_D A ((h0, .inr (6, [.ref (f2 0), .ref (f4 0), .ref (f6 0), .ref (f8 0), .null, .null, .null, .null, .null, .null, .long 0])) :: _) := hD
  refine lv_aload_n hx hb dX6_init_48 rfl (lv_at hl 0 rfl) ?_
  refine lv_iconst (v := 2) hx hb dX6_init_49 (by decide) ?_
  refine kt_newV hC hP hD hS hA (N' := 2) (by decide) (by decide) (by decide) (by decide) (by decide) (tg_at 191 (by decide +kernel) rfl) dX6_init_50 (fun q9 H hP hD hS => ?_)
  refine W.widen (k := 48) (n := 448) (by decide) (by decide) ?_
  have hP : va_P D vwCl ((h0, .inr (6, [.ref (f2 0), .ref (f4 0), .ref (f6 0), .ref (f8 0), .null, .null, .null, .null, .null, .null, .long 0])) :: _) H := hP
  have hD : va_D A ((h0, .inr (6, [.ref (f2 0), .ref (f4 0), .ref (f6 0), .ref (f8 0), .null, .null, .null, .null, .null, .null, .long 0])) :: _) := hD
  refine va_putF (D := D) (ci := 6) (v := .ref q9) (ty := tyX6 4) (C := RX6) (T := TX6) (N := 11) hx hb hts jX6 tyX6 tyX6_ok nmX6 hown hK hP hD hS 0 rfl rfl 4 (by decide) (hts _ (tg_at 321 (by decide +kernel) rfl)) (fun _ h9 => h9) rfl hin rfl (tyX6_ok 4 (by decide)) rfl rfl (Nat.le_of_ble_eq_true rfl) dX6_init_53 (fun H locs hP hD hS => ?_)
  have hP : va_P D vwCl ((h0, .inr (6, [.ref (f2 0), .ref (f4 0), .ref (f6 0), .ref (f8 0), .ref q9, .null, .null, .null, .null, .null, .long 0])) :: _) H := hP
  have hD : va_D A ((h0, .inr (6, [.ref (f2 0), .ref (f4 0), .ref (f6 0), .ref (f8 0), .ref q9, .null, .null, .null, .null, .null, .long 0])) :: _) := hD
  refine lv_aload_n hx hb dX6_init_56 rfl (lv_at hl 0 rfl) ?_
  refine lv_iconst (v := 2) hx hb dX6_init_57 (by decide) ?_
  refine kt_newZ hC hP hD hS hA (N' := 2) (by decide) (by decide) (by decide) (by decide) (by decide) (tg_at 284 (by decide +kernel) rfl) dX6_init_58 (fun q10 H hP hD hS => ?_)
  refine W.widen (k := 49) (n := 450) (by decide) (by decide) ?_
  have hP : va_P D vwCl ((h0, .inr (6, [.ref (f2 0), .ref (f4 0), .ref (f6 0), .ref (f8 0), .ref q9, .null, .null, .null, .null, .null, .long 0])) :: _) H := hP
  have hD : va_D A ((h0, .inr (6, [.ref (f2 0), .ref (f4 0), .ref (f6 0), .ref (f8 0), .ref q9, .null, .null, .null, .null, .null, .long 0])) :: _) := hD
  refine va_putF (D := D) (ci := 6) (v := .ref q10) (ty := tyX6 5) (C := RX6) (T := TX6) (N := 11) hx hb hts jX6 tyX6 tyX6_ok nmX6 hown hK hP hD hS 0 rfl rfl 5 (by decide) (hts _ (tg_at 322 (by decide +kernel) rfl)) (fun _ h9 => h9) rfl hin rfl (tyX6_ok 5 (by decide)) rfl rfl (Nat.le_of_ble_eq_true rfl) dX6_init_60 (fun H locs hP hD hS => ?_)
  have hP : va_P D vwCl ((h0, .inr (6, [.ref (f2 0), .ref (f4 0), .ref (f6 0), .ref (f8 0), .ref q9, .ref q10, .null, .null, .null, .null, .long 0])) :: _) H := hP
  have hD : va_D A ((h0, .inr (6, [.ref (f2 0), .ref (f4 0), .ref (f6 0), .ref (f8 0), .ref q9, .ref q10, .null, .null, .null, .null, .long 0])) :: _) := hD
  refine lv_aload_n hx hb dX6_init_63 rfl (lv_at hl 0 rfl) ?_
  refine va_new (D := D) (ci := 3) (fs := [.int 0, .int 0, .int 0, .null, .null, .null, .null, .null, .int 0, .null, .null]) (C := RX3) (T := TX3) (N := 11) hx hb hts jX3 tyX3 tyX3_ok hown (hts _ (tg_at 237 (by decide +kernel) rfl)) (hts _ (tg_at 238 (by decide +kernel) rfl)) (hts _ (tg_at 65 (by decide +kernel) rfl)) hK hP hD hS hA rfl (fun j hj => by rcases (show j = 0 ∨ j = 1 ∨ j = 2 ∨ j = 3 ∨ j = 4 ∨ j = 5 ∨ j = 6 ∨ j = 7 ∨ j = 8 ∨ j = 9 ∨ j = 10 by omega) with rfl | rfl | rfl | rfl | rfl | rfl | rfl | rfl | rfl | rfl | rfl <;> rfl) (by decide) (by decide) dX6_init_64 (fun q11 H hP hD hS => ?_)
  refine W.widen (k := 50) (n := 461) (by decide) (by decide) ?_
  refine lv_dup hx hb dX6_init_67 rfl ?_
  refine kt_callI (As := []) (rst := fun z => [.ref z, .ref h0]) hC hml hP hD hS hA (k_X3_init l q11) ⟨by decide, by decide⟩ ⟨by decide, by decide⟩ (by decide) (tg_at 239 (by decide +kernel) rfl) rfl mi_X3_init hd_X3_init rfl hl.1 (Nat.le_of_ble_eq_true rfl) dX6_init_68 (fun f12 H locs hP hD hS => ?_)
  refine W.widen (k := 71) (n := 560) (by decide) (by decide) ?_
  have hP : va_P D vwCl ((h0, .inr (6, [.ref (f2 0), .ref (f4 0), .ref (f6 0), .ref (f8 0), .ref q9, .ref q10, .null, .null, .null, .null, .long 0])) :: _) H := hP
  have hD : va_D A ((h0, .inr (6, [.ref (f2 0), .ref (f4 0), .ref (f6 0), .ref (f8 0), .ref q9, .ref q10, .null, .null, .null, .null, .long 0])) :: _) := hD
  refine va_putF (D := D) (ci := 6) (v := .ref (f12 0)) (ty := tyX6 6) (C := RX6) (T := TX6) (N := 11) hx hb hts jX6 tyX6 tyX6_ok nmX6 hown hK hP hD hS 0 rfl rfl 6 (by decide) (hts _ (tg_at 323 (by decide +kernel) rfl)) (fun _ h9 => h9) rfl hin rfl (tyX6_ok 6 (by decide)) rfl rfl (Nat.le_of_ble_eq_true rfl) dX6_init_71 (fun H locs hP hD hS => ?_)
  have hP : va_P D vwCl ((h0, .inr (6, [.ref (f2 0), .ref (f4 0), .ref (f6 0), .ref (f8 0), .ref q9, .ref q10, .ref (f12 0), .null, .null, .null, .long 0])) :: _) H := hP
  have hD : va_D A ((h0, .inr (6, [.ref (f2 0), .ref (f4 0), .ref (f6 0), .ref (f8 0), .ref q9, .ref q10, .ref (f12 0), .null, .null, .null, .long 0])) :: _) := hD
  refine lv_aload_n hx hb dX6_init_74 rfl (lv_at hl 0 rfl) ?_
  refine va_new (D := D) (ci := 1) (fs := [.int 0, .int 0, .null, .int 0, .null, .null]) (C := RX1) (T := TX1) (N := 6) hx hb hts jX1 tyX1 tyX1_ok hown (hts _ (tg_at 285 (by decide +kernel) rfl)) (hts _ (tg_at 286 (by decide +kernel) rfl)) (hts _ (tg_at 66 (by decide +kernel) rfl)) hK hP hD hS hA rfl (fun j hj => by rcases (show j = 0 ∨ j = 1 ∨ j = 2 ∨ j = 3 ∨ j = 4 ∨ j = 5 by omega) with rfl | rfl | rfl | rfl | rfl | rfl <;> rfl) (by decide) (by decide) dX6_init_75 (fun q13 H hP hD hS => ?_)
  refine W.widen (k := 72) (n := 566) (by decide) (by decide) ?_
  refine lv_dup hx hb dX6_init_78 rfl ?_
  refine lv_iconst (v := 0) hx hb dX6_init_79 (by decide) ?_
  refine kt_callI (As := [.int 0]) (rst := fun z => [.ref z, .ref h0]) hC hml hP hD hS hA (k_X1_init l q13 0 (by decide)) ⟨by decide, by decide⟩ ⟨by decide, by decide⟩ (by decide) (tg_at 287 (by decide +kernel) rfl) rfl mi_X1_init hd_X1_init rfl hl.1 (Nat.le_of_ble_eq_true rfl) dX6_init_80 (fun f14 H locs hP hD hS => ?_)
  refine W.widen (k := 89) (n := 641) (by decide) (by decide) ?_
  have hP : va_P D vwCl ((h0, .inr (6, [.ref (f2 0), .ref (f4 0), .ref (f6 0), .ref (f8 0), .ref q9, .ref q10, .ref (f12 0), .null, .null, .null, .long 0])) :: _) H := hP
  have hD : va_D A ((h0, .inr (6, [.ref (f2 0), .ref (f4 0), .ref (f6 0), .ref (f8 0), .ref q9, .ref q10, .ref (f12 0), .null, .null, .null, .long 0])) :: _) := hD
  refine va_putF (D := D) (ci := 6) (v := .ref (f14 0)) (ty := tyX6 7) (C := RX6) (T := TX6) (N := 11) hx hb hts jX6 tyX6 tyX6_ok nmX6 hown hK hP hD hS 0 rfl rfl 7 (by decide) (hts _ (tg_at 324 (by decide +kernel) rfl)) (fun _ h9 => h9) rfl hin rfl (tyX6_ok 7 (by decide)) rfl rfl (Nat.le_of_ble_eq_true rfl) dX6_init_83 (fun H locs hP hD hS => ?_)
  have hP : va_P D vwCl ((h0, .inr (6, [.ref (f2 0), .ref (f4 0), .ref (f6 0), .ref (f8 0), .ref q9, .ref q10, .ref (f12 0), .ref (f14 0), .null, .null, .long 0])) :: _) H := hP
  have hD : va_D A ((h0, .inr (6, [.ref (f2 0), .ref (f4 0), .ref (f6 0), .ref (f8 0), .ref q9, .ref q10, .ref (f12 0), .ref (f14 0), .null, .null, .long 0])) :: _) := hD
  refine lv_aload_n hx hb dX6_init_86 rfl (lv_at hl 0 rfl) ?_
  refine va_new (D := D) (ci := 1) (fs := [.int 0, .int 0, .null, .int 0, .null, .null]) (C := RX1) (T := TX1) (N := 6) hx hb hts jX1 tyX1 tyX1_ok hown (hts _ (tg_at 285 (by decide +kernel) rfl)) (hts _ (tg_at 286 (by decide +kernel) rfl)) (hts _ (tg_at 66 (by decide +kernel) rfl)) hK hP hD hS hA rfl (fun j hj => by rcases (show j = 0 ∨ j = 1 ∨ j = 2 ∨ j = 3 ∨ j = 4 ∨ j = 5 by omega) with rfl | rfl | rfl | rfl | rfl | rfl <;> rfl) (by decide) (by decide) dX6_init_87 (fun q15 H hP hD hS => ?_)
  refine W.widen (k := 90) (n := 647) (by decide) (by decide) ?_
  refine lv_dup hx hb dX6_init_90 rfl ?_
  refine lv_iconst (v := 1) hx hb dX6_init_91 (by decide) ?_
  refine kt_callI (As := [.int 1]) (rst := fun z => [.ref z, .ref h0]) hC hml hP hD hS hA (k_X1_init l q15 1 (by decide)) ⟨by decide, by decide⟩ ⟨by decide, by decide⟩ (by decide) (tg_at 287 (by decide +kernel) rfl) rfl mi_X1_init hd_X1_init rfl hl.1 (Nat.le_of_ble_eq_true rfl) dX6_init_92 (fun f16 H locs hP hD hS => ?_)
  refine W.widen (k := 107) (n := 722) (by decide) (by decide) ?_
  have hP : va_P D vwCl ((h0, .inr (6, [.ref (f2 0), .ref (f4 0), .ref (f6 0), .ref (f8 0), .ref q9, .ref q10, .ref (f12 0), .ref (f14 0), .null, .null, .long 0])) :: _) H := hP
  have hD : va_D A ((h0, .inr (6, [.ref (f2 0), .ref (f4 0), .ref (f6 0), .ref (f8 0), .ref q9, .ref q10, .ref (f12 0), .ref (f14 0), .null, .null, .long 0])) :: _) := hD
  refine va_putF (D := D) (ci := 6) (v := .ref (f16 0)) (ty := tyX6 8) (C := RX6) (T := TX6) (N := 11) hx hb hts jX6 tyX6 tyX6_ok nmX6 hown hK hP hD hS 0 rfl rfl 8 (by decide) (hts _ (tg_at 325 (by decide +kernel) rfl)) (fun _ h9 => h9) rfl hin rfl (tyX6_ok 8 (by decide)) rfl rfl (Nat.le_of_ble_eq_true rfl) dX6_init_95 (fun H locs hP hD hS => ?_)
  have hP : va_P D vwCl ((h0, .inr (6, [.ref (f2 0), .ref (f4 0), .ref (f6 0), .ref (f8 0), .ref q9, .ref q10, .ref (f12 0), .ref (f14 0), .ref (f16 0), .null, .long 0])) :: _) H := hP
  have hD : va_D A ((h0, .inr (6, [.ref (f2 0), .ref (f4 0), .ref (f6 0), .ref (f8 0), .ref q9, .ref q10, .ref (f12 0), .ref (f14 0), .ref (f16 0), .null, .long 0])) :: _) := hD
  refine lv_aload_n hx hb dX6_init_98 rfl (lv_at hl 0 rfl) ?_
  refine va_new (D := D) (ci := 0) (fs := [.int 0, .int 0, .int 0, .null]) (C := RX0) (T := TX0) (N := 4) hx hb hts jX0 tyX0 tyX0_ok hown (hts _ (tg_at 315 (by decide +kernel) rfl)) (hts _ (tg_at 198 (by decide +kernel) rfl)) (hts _ (tg_at 64 (by decide +kernel) rfl)) hK hP hD hS hA rfl (fun j hj => by rcases (show j = 0 ∨ j = 1 ∨ j = 2 ∨ j = 3 by omega) with rfl | rfl | rfl | rfl <;> rfl) (by decide) (by decide) dX6_init_99 (fun q17 H hP hD hS => ?_)
  refine W.widen (k := 108) (n := 726) (by decide) (by decide) ?_
  refine lv_dup hx hb dX6_init_102 rfl ?_
  refine kt_callN (As := []) (rst := fun z => [.ref z, .ref h0]) hC hml hP hD hS hA (k_X0_init l q17) ⟨by decide, by decide⟩ ⟨by decide, by decide⟩ (by decide) (by decide +kernel) rfl mi_X0_init hd_X0_init rfl hl.1 (Nat.le_of_ble_eq_true rfl) dX6_init_103 (fun f18 H locs hP hD hS => ?_)
  refine W.widen (k := 109) (n := 730) (by decide) (by decide) ?_
  have hP : va_P D vwCl ((h0, .inr (6, [.ref (f2 0), .ref (f4 0), .ref (f6 0), .ref (f8 0), .ref q9, .ref q10, .ref (f12 0), .ref (f14 0), .ref (f16 0), .null, .long 0])) :: _) H := hP
  have hD : va_D A ((h0, .inr (6, [.ref (f2 0), .ref (f4 0), .ref (f6 0), .ref (f8 0), .ref q9, .ref q10, .ref (f12 0), .ref (f14 0), .ref (f16 0), .null, .long 0])) :: _) := hD
  refine va_putF (D := D) (ci := 6) (v := .ref (f18 0)) (ty := tyX6 9) (C := RX6) (T := TX6) (N := 11) hx hb hts jX6 tyX6 tyX6_ok nmX6 hown hK hP hD hS 0 rfl rfl 9 (by decide) (hts _ (tg_at 326 (by decide +kernel) rfl)) (fun _ h9 => h9) rfl hin rfl (tyX6_ok 9 (by decide)) rfl rfl (Nat.le_of_ble_eq_true rfl) dX6_init_106 (fun H locs hP hD hS => ?_)
  have hP : va_P D vwCl ((h0, .inr (6, [.ref (f2 0), .ref (f4 0), .ref (f6 0), .ref (f8 0), .ref q9, .ref q10, .ref (f12 0), .ref (f14 0), .ref (f16 0), .ref (f18 0), .long 0])) :: _) H := hP
  have hD : va_D A ((h0, .inr (6, [.ref (f2 0), .ref (f4 0), .ref (f6 0), .ref (f8 0), .ref q9, .ref q10, .ref (f12 0), .ref (f14 0), .ref (f16 0), .ref (f18 0), .long 0])) :: _) := hD
  refine lv_iconst (v := 0) hx hb dX6_init_109 (by decide) ?_
  refine lv_istore_n (lv' := [(1, .int 0), (0, .ref h0)]) hx hb dX6_init_110 rfl hl (by decide) rfl (fun ls hl => ?_)
  refine lv_iload_n hx hb dX6_init_111 rfl (lv_at hl 0 rfl) ?_
  refine lv_iconst (v := 2) hx hb dX6_init_112 (by decide) ?_
  refine lv_icmp_ge (tgt := 135) hx hb dX6_init_113 (by decide) (fun hc => ?_) (fun hc => ?_)
  · exact absurd hc (by decide)
  refine lv_aload_n hx hb dX6_init_116 rfl (lv_at hl 1 rfl) ?_
  refine va_get (D := D) (ci := 6) (v := .ref q9) (C := RX6) (T := TX6) (N := 11) hx hb hts jX6 hown hK hP 0 rfl rfl 4 (by decide) (hts _ (tg_at 321 (by decide +kernel) rfl)) (fun _ h9 => h9) rfl dX6_init_117 ?_
  refine lv_iload_n hx hb dX6_init_120 rfl (lv_at hl 0 rfl) ?_
  refine va_new (D := D) (ci := 5) (fs := [.null, .int 0, .null]) (C := RX5) (T := TX5) (N := 3) hx hb hts jX5 tyX5 tyX5_ok hown (hts _ (tg_at 191 (by decide +kernel) rfl)) (hts _ (tg_at 192 (by decide +kernel) rfl)) (hts _ (tg_at 63 (by decide +kernel) rfl)) hK hP hD hS hA rfl (fun j hj => by rcases (show j = 0 ∨ j = 1 ∨ j = 2 by omega) with rfl | rfl | rfl <;> rfl) (by decide) (by decide) dX6_init_121 (fun q19 H hP hD hS => ?_)
  refine W.widen (k := 110) (n := 733) (by decide) (by decide) ?_
  refine lv_dup hx hb dX6_init_124 rfl ?_
  refine kt_callI (As := []) (rst := fun z => [.ref z, .int 0, .ref q9]) hC hml hP hD hS hA (k_X5_init l q19) ⟨by decide, by decide⟩ ⟨by decide, by decide⟩ (by decide) (tg_at 193 (by decide +kernel) rfl) rfl mi_X5_init hd_X5_init rfl hl.1 (Nat.le_of_ble_eq_true rfl) dX6_init_125 (fun f20 H locs hP hD hS => ?_)
  refine W.widen (k := 133) (n := 831) (by decide) (by decide) ?_
  have hP : va_P D vwCl ((h0, .inr (6, [.ref (f2 0), .ref (f4 0), .ref (f6 0), .ref (f8 0), .ref q9, .ref q10, .ref (f12 0), .ref (f14 0), .ref (f16 0), .ref (f18 0), .long 0])) :: _) H := hP
  have hD : va_D A ((h0, .inr (6, [.ref (f2 0), .ref (f4 0), .ref (f6 0), .ref (f8 0), .ref q9, .ref q10, .ref (f12 0), .ref (f14 0), .ref (f16 0), .ref (f18 0), .long 0])) :: _) := hD
  refine va_astq hx hb hK hP hD hS 48 3 110 5 rfl (r := (RX5, TX5, 3)) rfl rfl rfl (bin_in (by decide)) dX6_init_128 (fun H locs hP hD hS => ?_)
  have hP : va_P D vwCl ((h0, .inr (6, [.ref (f2 0), .ref (f4 0), .ref (f6 0), .ref (f8 0), .ref q9, .ref q10, .ref (f12 0), .ref (f14 0), .ref (f16 0), .ref (f18 0), .long 0])) :: _) H := hP
  have hD : va_D A ((h0, .inr (6, [.ref (f2 0), .ref (f4 0), .ref (f6 0), .ref (f8 0), .ref q9, .ref q10, .ref (f12 0), .ref (f14 0), .ref (f16 0), .ref (f18 0), .long 0])) :: _) := hD
  refine lv_iinc (v := 1) (lv' := [(1, .int 1), (0, .ref h0)]) hx hb dX6_init_129 hl (k := 0) rfl (by decide) (by decide) rfl (fun ls hl => ?_)
  refine lv_goto (tgt := 111) hx hb dX6_init_132 (by decide) ?_
  refine lv_iload_n hx hb dX6_init_111 rfl (lv_at hl 0 rfl) ?_
  refine lv_iconst (v := 2) hx hb dX6_init_112 (by decide) ?_
  refine lv_icmp_ge (tgt := 135) hx hb dX6_init_113 (by decide) (fun hc => ?_) (fun hc => ?_)
  · exact absurd hc (by decide)
  refine lv_aload_n hx hb dX6_init_116 rfl (lv_at hl 1 rfl) ?_
  refine va_get (D := D) (ci := 6) (v := .ref q9) (C := RX6) (T := TX6) (N := 11) hx hb hts jX6 hown hK hP 0 rfl rfl 4 (by decide) (hts _ (tg_at 321 (by decide +kernel) rfl)) (fun _ h9 => h9) rfl dX6_init_117 ?_
  refine lv_iload_n hx hb dX6_init_120 rfl (lv_at hl 0 rfl) ?_
  refine va_new (D := D) (ci := 5) (fs := [.null, .int 0, .null]) (C := RX5) (T := TX5) (N := 3) hx hb hts jX5 tyX5 tyX5_ok hown (hts _ (tg_at 191 (by decide +kernel) rfl)) (hts _ (tg_at 192 (by decide +kernel) rfl)) (hts _ (tg_at 63 (by decide +kernel) rfl)) hK hP hD hS hA rfl (fun j hj => by rcases (show j = 0 ∨ j = 1 ∨ j = 2 by omega) with rfl | rfl | rfl <;> rfl) (by decide) (by decide) dX6_init_121 (fun q21 H hP hD hS => ?_)
  refine W.widen (k := 134) (n := 834) (by decide) (by decide) ?_
  refine lv_dup hx hb dX6_init_124 rfl ?_
  refine kt_callI (As := []) (rst := fun z => [.ref z, .int 1, .ref q9]) hC hml hP hD hS hA (k_X5_init l q21) ⟨by decide, by decide⟩ ⟨by decide, by decide⟩ (by decide) (tg_at 193 (by decide +kernel) rfl) rfl mi_X5_init hd_X5_init rfl hl.1 (Nat.le_of_ble_eq_true rfl) dX6_init_125 (fun f22 H locs hP hD hS => ?_)
  refine W.widen (k := 157) (n := 932) (by decide) (by decide) ?_
  have hP : va_P D vwCl ((h0, .inr (6, [.ref (f2 0), .ref (f4 0), .ref (f6 0), .ref (f8 0), .ref q9, .ref q10, .ref (f12 0), .ref (f14 0), .ref (f16 0), .ref (f18 0), .long 0])) :: _) H := hP
  have hD : va_D A ((h0, .inr (6, [.ref (f2 0), .ref (f4 0), .ref (f6 0), .ref (f8 0), .ref q9, .ref q10, .ref (f12 0), .ref (f14 0), .ref (f16 0), .ref (f18 0), .long 0])) :: _) := hD
  refine va_astq hx hb hK hP hD hS 48 3 134 5 rfl (r := (RX5, TX5, 3)) rfl rfl rfl (bin_in (by decide)) dX6_init_128 (fun H locs hP hD hS => ?_)
  have hP : va_P D vwCl ((h0, .inr (6, [.ref (f2 0), .ref (f4 0), .ref (f6 0), .ref (f8 0), .ref q9, .ref q10, .ref (f12 0), .ref (f14 0), .ref (f16 0), .ref (f18 0), .long 0])) :: _) H := hP
  have hD : va_D A ((h0, .inr (6, [.ref (f2 0), .ref (f4 0), .ref (f6 0), .ref (f8 0), .ref q9, .ref q10, .ref (f12 0), .ref (f14 0), .ref (f16 0), .ref (f18 0), .long 0])) :: _) := hD
  refine lv_iinc (v := 2) (lv' := [(1, .int 2), (0, .ref h0)]) hx hb dX6_init_129 hl (k := 0) rfl (by decide) (by decide) rfl (fun ls hl => ?_)
  refine lv_goto (tgt := 111) hx hb dX6_init_132 (by decide) ?_
  refine lv_iload_n hx hb dX6_init_111 rfl (lv_at hl 0 rfl) ?_
  refine lv_iconst (v := 2) hx hb dX6_init_112 (by decide) ?_
  refine lv_icmp_ge (tgt := 135) hx hb dX6_init_113 (by decide) (fun hc => ?_) (fun hc => ?_)
  rotate_left
  · exact absurd hc (by decide)
  have hP : va_P D vwCl ((h0, .inr (6, [.ref (f2 0), .ref (f4 0), .ref (f6 0), .ref (f8 0), .ref q9, .ref q10, .ref (f12 0), .ref (f14 0), .ref (f16 0), .ref (f18 0), .long 0])) :: (sRd cy f2 ++ sT cy f4 ++ sT cy f6 ++ sV cy f8 ++ [(q9, .inl (cy 11, 2, .inr (.inr (.inr (.inr (va_up (va_up (fun _ => none) (0 : Int32).toNatClampNeg (some (f20 0))) (1 : Int32).toNatClampNeg (some (f22 0))))))))] ++ [(q10, .inl (cy 9, 2, .inl (fun _ => 0)))] ++ sS cy f12 ++ sP cy 0 f14 ++ sP cy 1 f16 ++ sM cy f18 ++ sV cy f20 ++ sV cy f22)) H := hP
  have hD : va_D A ((h0, .inr (6, [.ref (f2 0), .ref (f4 0), .ref (f6 0), .ref (f8 0), .ref q9, .ref q10, .ref (f12 0), .ref (f14 0), .ref (f16 0), .ref (f18 0), .long 0])) :: (sRd cy f2 ++ sT cy f4 ++ sT cy f6 ++ sV cy f8 ++ [(q9, .inl (cy 11, 2, .inr (.inr (.inr (.inr (va_up (va_up (fun _ => none) (0 : Int32).toNatClampNeg (some (f20 0))) (1 : Int32).toNatClampNeg (some (f22 0))))))))] ++ [(q10, .inl (cy 9, 2, .inl (fun _ => 0)))] ++ sS cy f12 ++ sP cy 0 f14 ++ sP cy 1 f16 ++ sM cy f18 ++ sV cy f20 ++ sV cy f22)) := hD
  obtain ⟨F, hF0, hX⟩ := x6_fin hP hD
  exact kt_retA F hC hr hlk hF0 rfl hX.1 hX.2 hS rfl rfl dX6_init_135
