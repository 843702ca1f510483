section GEN
variable {p : Program} {l : Launch} {e : Env} {s : State} {m : MethodId} {args : Array Value} {below : List Frame} {meth : Method} {c : Code} {D : va_G} {cy : Nat → ClassId} {ad tb : Nat → Nat}
def P_X5_restart (N : Nat) (S : PSt) (a0 : Nat) : Option PSt := cal1 (P_X0_begin N S (a0 + 1)) fun S1 => bnd (sI S1 501 a0 (0 : Int32)) fun S3 => some S3
set_option maxHeartbeats 4000000 in
set_option maxRecDepth 100000 in
theorem c_X5_restart (l : Launch) {D : va_G} {cy : Nat → ClassId} {ad tb : Nat → Nat} (hJ : pJ ad) {N : Nat} {S S' : PSt} {a0 : Nat} (hf : P_X5_restart N S a0 = some S') (h_a0 : kd a0 = 5) : Ct l 2 yX5_restart cX5_restart 1 none D cy ad tb S S' [.ref (ad a0)] none := by
  refine Ct_of hJ (by decide) (Nat.le_of_ble_eq_true rfl) (fun p e s m below meth c ls hX hP hS hl => ?_)
  have hl : lv_has ls 1 [(0, .ref (ad a0))] := hl
  have hX0 := hX
  obtain ⟨hC, hml, hr, hlk⟩ := hX0
  have hx := hC.1
  have hb := hC.2.1
  unfold P_X5_restart at hf
  refine lv_aload_n hx hb dX5_restart_0 rfl (lv_at hl 0 rfl) ?_
  refine gf_X5_12 hC hP h_a0 (v := .ref (ad (a0 + 1))) rfl dX5_restart_1 ?_
  obtain ⟨S1, q2, hf⟩ := cal1_some hf
  refine pg_callV (As := []) (rest := []) (st1 := []) (ci := 0) hC hml hP hS (c_X0_begin l hC.2.2.2.2.2.1 q2 (ko_5_1 h_a0)) ⟨by decide, by decide, rfl, rfl⟩ ⟨rfl, rfl⟩ (by decide) rfl (by decide) (ko_5_1 h_a0) rfl rfl ⟨mk_X5_22, mi_X0_begin⟩ hd_X0_begin rfl hl.1 (Nat.le_of_ble_eq_true rfl) dX5_restart_4 (fun H locs hP hS => ?_)
  refine lv_aload_n hx hb dX5_restart_7 rfl (lv_at hl 0 rfl) ?_
  refine lv_iconst (v := 0) hx hb dX5_restart_8 (by decide) ?_
  obtain ⟨S3, eS3, hf⟩ := bnd_some hf
  refine pf_X5_25 hC hP hS h_a0 eS3 dX5_restart_9 (fun H locs hP hS => ?_)
  exact pg_vret hC hr hlk hP hS hf dX5_restart_12
def P_X5_copy_L21 (N : Nat) : Nat → PSt → Nat → Nat → Int32 → Option PSt
  | 0 => fun _ _ _ _ => none
  | n + 1 => fun S a0 a1 x2 => if (gI S 501 a0) ≤ x2 then (some S) else (if (10 : Int32) ≤ x2 then (some S) else (gd (bin x2 (ln (a0 + 3))) <| bnd (gQ S (a0 + 3) x2.toNatClampNeg) fun t4 => gd (isk t4 0) <| gd (bin x2 (ln (a1 + 3))) <| bnd (gQ S (a1 + 3) x2.toNatClampNeg) fun t7 => gd (isk t7 0) <| cal1 (P_X0_copy N S t4 t7) fun S9 => bnd (x2 + (1 : Int32)) fun v11 => P_X5_copy_L21 N n S9 a0 a1 v11))
set_option maxHeartbeats 4000000 in
set_option maxRecDepth 100000 in
theorem w_X5_copy_L21 {N : Nat} {S' : PSt} (hX : Mx p s m args c meth cX5_copy RX5 3 none D cy ad tb) : ∀ (n : Nat), ∀ (S : PSt) (a0 : Nat) (a1 : Nat) (x2 : Int32) (H : Heap) (locs : List Loc) (ls : Array Slot), P_X5_copy_L21 N n S a0 a1 x2 = some S' → kd a0 = 5 → kd a1 = 5 → va_P D vwCl (pW cy ad S) H → va_S (pA ad s.heap.size) s.heap H locs → lv_has ls 3 [(0, .ref (ad a0)), (1, .ref (ad a1)), (2, .int x2)] → W p l e (rmd 2) s m args below meth c H locs 0 0 (Qz D cy ad below args s S' none) (F0 m 21 ls []) := by
  have hX0 := hX
  obtain ⟨hC, hml, hr, hlk⟩ := hX0
  have hx := hC.1
  have hb := hC.2.1
  intro n
  induction n with
  | zero => intro S a0 a1 x2 H locs ls hf; exact absurd hf (by intro h; cases h)
  | succ n ih =>
    intro S a0 a1 x2 H locs ls hf h_a0 h_a1 hP hS hl
    rw [P_X5_copy_L21] at hf
    refine lv_iload_n hx hb dX5_copy_21 rfl (lv_at hl 2 rfl) ?_
    refine lv_aload_n hx hb dX5_copy_22 rfl (lv_at hl 0 rfl) ?_
    refine gf_X5_25 hC hP h_a0 (v := .int (gI S 501 a0)) rfl dX5_copy_23 ?_
    refine lv_icmp_ge (tgt := 56) hx hb dX5_copy_26 (by decide) (fun c1 => ?_) (fun c1 => ?_)
    · replace hf := ite_t c1 hf
      exact pg_vret hC hr hlk hP hS hf dX5_copy_56
    · replace hf := ite_f c1 hf
      refine lv_iload_n hx hb dX5_copy_29 rfl (lv_at hl 2 rfl) ?_
      refine lv_bipush (v := 10) hx hb dX5_copy_30 (by decide) ?_
      refine lv_icmp_ge (tgt := 56) hx hb dX5_copy_32 (by decide) (fun c2 => ?_) (fun c2 => ?_)
      · replace hf := ite_t c2 hf
        exact pg_vret hC hr hlk hP hS hf dX5_copy_56
      · replace hf := ite_f c2 hf
        refine lv_aload_n hx hb dX5_copy_35 rfl (lv_at hl 0 rfl) ?_
        refine gf_X5_18 hC hP h_a0 (v := .ref (ad (a0 + 3))) rfl dX5_copy_36 ?_
        refine lv_iload_n hx hb dX5_copy_39 rfl (lv_at hl 2 rfl) ?_
        obtain ⟨h3, hf⟩ := gd_some hf
        obtain ⟨t4, et4, hf⟩ := bnd_some hf
        obtain ⟨h5, hf⟩ := gd_some hf
        have h_t4 := isk_eq h5
        refine pg_aldM hC hP (ko_5_3 h_a0) (bin_in h3) dX5_copy_40 ?_
        refine pg_topr et4 ?_
        refine lv_aload_n hx hb dX5_copy_41 rfl (lv_at hl 1 rfl) ?_
        refine gf_X5_18 hC hP h_a1 (v := .ref (ad (a1 + 3))) rfl dX5_copy_42 ?_
        refine lv_iload_n hx hb dX5_copy_45 rfl (lv_at hl 2 rfl) ?_
        obtain ⟨h6, hf⟩ := gd_some hf
        obtain ⟨t7, et7, hf⟩ := bnd_some hf
        obtain ⟨h8, hf⟩ := gd_some hf
        have h_t7 := isk_eq h8
        refine pg_aldM hC hP (ko_5_3 h_a1) (bin_in h6) dX5_copy_46 ?_
        refine pg_topr et7 ?_
        obtain ⟨S9, q10, hf⟩ := cal1_some hf
        refine pg_callV (As := [.ref (ad t7)]) (rest := []) (st1 := []) (ci := 0) hC hml hP hS (c_X0_copy l hC.2.2.2.2.2.1 q10 h_t4 h_t7) ⟨by decide, by decide, rfl, rfl⟩ ⟨rfl, rfl⟩ (by decide) rfl (by decide) h_t4 rfl rfl ⟨mk_X5_29, mi_X0_copy⟩ hd_X0_copy rfl hl.1 (Nat.le_of_ble_eq_true rfl) dX5_copy_47 (fun H locs hP hS => ?_)
        obtain ⟨v11, ev11, hf⟩ := bnd_some hf
        refine lv_iinc (v := v11) (lv' := [(2, .int v11), (0, .ref (ad a0)), (1, .ref (ad a1))]) hx hb dX5_copy_50 hl (k := 2) rfl (by rw [ev11]; rfl) (by decide) rfl (fun ls hl => ?_)
        refine lv_goto (tgt := 21) hx hb dX5_copy_53 (by decide) ?_
        exact ih _ _ _ _ _ _ _ hf h_a0 h_a1 hP hS (lv_sub hl [1, 2, 0] rfl)
def P_X5_copy (N : Nat) (S : PSt) (a0 : Nat) (a1 : Nat) : Option PSt := cal1 (P_X0_copy N S (a0 + 1) (a1 + 1)) fun S12 => bnd (sI S12 501 a0 (gI S12 501 a1)) fun S14 => P_X5_copy_L21 N N S14 a0 a1 (0 : Int32)
set_option maxHeartbeats 4000000 in
set_option maxRecDepth 100000 in
theorem c_X5_copy (l : Launch) {D : va_G} {cy : Nat → ClassId} {ad tb : Nat → Nat} (hJ : pJ ad) {N : Nat} {S S' : PSt} {a0 : Nat} {a1 : Nat} (hf : P_X5_copy N S a0 a1 = some S') (h_a0 : kd a0 = 5) (h_a1 : kd a1 = 5) : Ct l 2 yX5_copy cX5_copy 3 none D cy ad tb S S' [.ref (ad a0), .ref (ad a1)] none := by
  refine Ct_of hJ (by decide) (Nat.le_of_ble_eq_true rfl) (fun p e s m below meth c ls hX hP hS hl => ?_)
  have hl : lv_has ls 3 [(0, .ref (ad a0)), (1, .ref (ad a1))] := hl
  have hX0 := hX
  obtain ⟨hC, hml, hr, hlk⟩ := hX0
  have hx := hC.1
  have hb := hC.2.1
  unfold P_X5_copy at hf
  refine lv_aload_n hx hb dX5_copy_0 rfl (lv_at hl 0 rfl) ?_
  refine gf_X5_12 hC hP h_a0 (v := .ref (ad (a0 + 1))) rfl dX5_copy_1 ?_
  refine lv_aload_n hx hb dX5_copy_4 rfl (lv_at hl 1 rfl) ?_
  refine gf_X5_12 hC hP h_a1 (v := .ref (ad (a1 + 1))) rfl dX5_copy_5 ?_
  obtain ⟨S12, q13, hf⟩ := cal1_some hf
  refine pg_callV (As := [.ref (ad (a1 + 1))]) (rest := []) (st1 := []) (ci := 0) hC hml hP hS (c_X0_copy l hC.2.2.2.2.2.1 q13 (ko_5_1 h_a0) (ko_5_1 h_a1)) ⟨by decide, by decide, rfl, rfl⟩ ⟨rfl, rfl⟩ (by decide) rfl (by decide) (ko_5_1 h_a0) rfl rfl ⟨mk_X5_29, mi_X0_copy⟩ hd_X0_copy rfl hl.1 (Nat.le_of_ble_eq_true rfl) dX5_copy_8 (fun H locs hP hS => ?_)
  refine lv_aload_n hx hb dX5_copy_11 rfl (lv_at hl 0 rfl) ?_
  refine lv_aload_n hx hb dX5_copy_12 rfl (lv_at hl 1 rfl) ?_
  refine gf_X5_25 hC hP h_a1 (v := .int (gI S12 501 a1)) rfl dX5_copy_13 ?_
  obtain ⟨S14, eS14, hf⟩ := bnd_some hf
  refine pf_X5_25 hC hP hS h_a0 eS14 dX5_copy_16 (fun H locs hP hS => ?_)
  refine lv_iconst (v := 0) hx hb dX5_copy_19 (by decide) ?_
  refine lv_istore_n (lv' := [(2, .int (0 : Int32)), (0, .ref (ad a0)), (1, .ref (ad a1))]) hx hb dX5_copy_20 rfl hl (by decide) rfl (fun ls hl => ?_)
  exact w_X5_copy_L21 hX _ _ _ _ _ _ _ _ hf h_a0 h_a1 hP hS (lv_sub hl [1, 2, 0] rfl)
def P_X5_loseOldest_L9 (N : Nat) : Nat → PSt → Nat → Nat → Int32 → Option PSt
  | 0 => fun _ _ _ _ => none
  | n + 1 => fun S a0 a1 x2 => if (10 : Int32) ≤ x2 then (gd (bin (9 : Int32) (ln (a0 + 3))) <| bnd (sQ S (a0 + 3) (9 : Int32).toNatClampNeg a1) fun S3 => bnd (sI S3 501 a0 (9 : Int32)) fun S4 => some S4) else (gd (bin x2 (ln (a0 + 3))) <| bnd (gQ S (a0 + 3) x2.toNatClampNeg) fun t6 => gd (isk t6 0) <| gd (bin (x2 - (1 : Int32)) (ln (a0 + 3))) <| bnd (sQ S (a0 + 3) (x2 - (1 : Int32)).toNatClampNeg t6) fun S9 => bnd (x2 + (1 : Int32)) fun v10 => P_X5_loseOldest_L9 N n S9 a0 a1 v10)
set_option maxHeartbeats 4000000 in
set_option maxRecDepth 100000 in
theorem w_X5_loseOldest_L9 {N : Nat} {S' : PSt} (hX : Mx p s m args c meth cX5_loseOldest RX5 3 none D cy ad tb) : ∀ (n : Nat), ∀ (S : PSt) (a0 : Nat) (a1 : Nat) (x2 : Int32) (H : Heap) (locs : List Loc) (ls : Array Slot), P_X5_loseOldest_L9 N n S a0 a1 x2 = some S' → kd a0 = 5 → kd a1 = 0 → va_P D vwCl (pW cy ad S) H → va_S (pA ad s.heap.size) s.heap H locs → lv_has ls 3 [(0, .ref (ad a0)), (1, .ref (ad a1)), (2, .int x2)] → W p l e (rmd 1) s m args below meth c H locs 0 0 (Qz D cy ad below args s S' none) (F0 m 9 ls []) := by
  have hX0 := hX
  obtain ⟨hC, hml, hr, hlk⟩ := hX0
  have hx := hC.1
  have hb := hC.2.1
  intro n
  induction n with
  | zero => intro S a0 a1 x2 H locs ls hf; exact absurd hf (by intro h; cases h)
  | succ n ih =>
    intro S a0 a1 x2 H locs ls hf h_a0 h_a1 hP hS hl
    rw [P_X5_loseOldest_L9] at hf
    refine lv_iload_n hx hb dX5_loseOldest_9 rfl (lv_at hl 2 rfl) ?_
    refine lv_bipush (v := 10) hx hb dX5_loseOldest_10 (by decide) ?_
    refine lv_icmp_ge (tgt := 35) hx hb dX5_loseOldest_12 (by decide) (fun c1 => ?_) (fun c1 => ?_)
    · replace hf := ite_t c1 hf
      refine lv_aload_n hx hb dX5_loseOldest_35 rfl (lv_at hl 0 rfl) ?_
      refine gf_X5_18 hC hP h_a0 (v := .ref (ad (a0 + 3))) rfl dX5_loseOldest_36 ?_
      refine lv_bipush (v := 9) hx hb dX5_loseOldest_39 (by decide) ?_
      refine lv_aload_n hx hb dX5_loseOldest_41 rfl (lv_at hl 1 rfl) ?_
      obtain ⟨h2, hf⟩ := gd_some hf
      obtain ⟨S3, eS3, hf⟩ := bnd_some hf
      refine pg_astM hC hP hS (ko_5_3 h_a0) h_a1 (bin_in h2) dX5_loseOldest_42 (fun H locs hP hS => ?_)
      rw [← eS3] at hP
      refine lv_aload_n hx hb dX5_loseOldest_43 rfl (lv_at hl 0 rfl) ?_
      refine lv_bipush (v := 9) hx hb dX5_loseOldest_44 (by decide) ?_
      obtain ⟨S4, eS4, hf⟩ := bnd_some hf
      refine pf_X5_25 hC hP hS h_a0 eS4 dX5_loseOldest_46 (fun H locs hP hS => ?_)
      exact pg_vret hC hr hlk hP hS hf dX5_loseOldest_49
    · replace hf := ite_f c1 hf
      refine lv_aload_n hx hb dX5_loseOldest_15 rfl (lv_at hl 0 rfl) ?_
      refine gf_X5_18 hC hP h_a0 (v := .ref (ad (a0 + 3))) rfl dX5_loseOldest_16 ?_
      refine lv_iload_n hx hb dX5_loseOldest_19 rfl (lv_at hl 2 rfl) ?_
      refine lv_iconst (v := 1) hx hb dX5_loseOldest_20 (by decide) ?_
      refine lv_isub hx hb dX5_loseOldest_21 ?_
      refine lv_aload_n hx hb dX5_loseOldest_22 rfl (lv_at hl 0 rfl) ?_
      refine gf_X5_18 hC hP h_a0 (v := .ref (ad (a0 + 3))) rfl dX5_loseOldest_23 ?_
      refine lv_iload_n hx hb dX5_loseOldest_26 rfl (lv_at hl 2 rfl) ?_
      obtain ⟨h5, hf⟩ := gd_some hf
      obtain ⟨t6, et6, hf⟩ := bnd_some hf
      obtain ⟨h7, hf⟩ := gd_some hf
      have h_t6 := isk_eq h7
      refine pg_aldM hC hP (ko_5_3 h_a0) (bin_in h5) dX5_loseOldest_27 ?_
      refine pg_topr et6 ?_
      obtain ⟨h8, hf⟩ := gd_some hf
      obtain ⟨S9, eS9, hf⟩ := bnd_some hf
      refine pg_astM hC hP hS (ko_5_3 h_a0) h_t6 (bin_in h8) dX5_loseOldest_28 (fun H locs hP hS => ?_)
      rw [← eS9] at hP
      obtain ⟨v10, ev10, hf⟩ := bnd_some hf
      refine lv_iinc (v := v10) (lv' := [(2, .int v10), (0, .ref (ad a0)), (1, .ref (ad a1))]) hx hb dX5_loseOldest_29 hl (k := 2) rfl (by rw [ev10]; rfl) (by decide) rfl (fun ls hl => ?_)
      refine lv_goto (tgt := 9) hx hb dX5_loseOldest_32 (by decide) ?_
      exact ih _ _ _ _ _ _ _ hf h_a0 h_a1 hP hS (lv_sub hl [1, 2, 0] rfl)
def P_X5_loseOldest (N : Nat) (S : PSt) (a0 : Nat) : Option PSt := gd (bin (0 : Int32) (ln (a0 + 3))) <| bnd (gQ S (a0 + 3) (0 : Int32).toNatClampNeg) fun t12 => gd (isk t12 0) <| P_X5_loseOldest_L9 N N S a0 t12 (1 : Int32)
set_option maxHeartbeats 4000000 in
set_option maxRecDepth 100000 in
theorem c_X5_loseOldest (l : Launch) {D : va_G} {cy : Nat → ClassId} {ad tb : Nat → Nat} (hJ : pJ ad) {N : Nat} {S S' : PSt} {a0 : Nat} (hf : P_X5_loseOldest N S a0 = some S') (h_a0 : kd a0 = 5) : Ct l 1 yX5_loseOldest cX5_loseOldest 3 none D cy ad tb S S' [.ref (ad a0)] none := by
  refine Ct_of hJ (by decide) (Nat.le_of_ble_eq_true rfl) (fun p e s m below meth c ls hX hP hS hl => ?_)
  have hl : lv_has ls 3 [(0, .ref (ad a0))] := hl
  have hX0 := hX
  obtain ⟨hC, hml, hr, hlk⟩ := hX0
  have hx := hC.1
  have hb := hC.2.1
  unfold P_X5_loseOldest at hf
  refine lv_aload_n hx hb dX5_loseOldest_0 rfl (lv_at hl 0 rfl) ?_
  refine gf_X5_18 hC hP h_a0 (v := .ref (ad (a0 + 3))) rfl dX5_loseOldest_1 ?_
  refine lv_iconst (v := 0) hx hb dX5_loseOldest_4 (by decide) ?_
  obtain ⟨h11, hf⟩ := gd_some hf
  obtain ⟨t12, et12, hf⟩ := bnd_some hf
  obtain ⟨h13, hf⟩ := gd_some hf
  have h_t12 := isk_eq h13
  refine pg_aldM hC hP (ko_5_3 h_a0) (bin_in h11) dX5_loseOldest_5 ?_
  refine pg_topr et12 ?_
  refine lv_astore_n (lv' := [(1, .ref (ad t12)), (0, .ref (ad a0))]) hx hb dX5_loseOldest_6 rfl hl (by decide) rfl (fun ls hl => ?_)
  refine lv_iconst (v := 1) hx hb dX5_loseOldest_7 (by decide) ?_
  refine lv_istore_n (lv' := [(2, .int (1 : Int32)), (1, .ref (ad t12)), (0, .ref (ad a0))]) hx hb dX5_loseOldest_8 rfl hl (by decide) rfl (fun ls hl => ?_)
  exact w_X5_loseOldest_L9 hX _ _ _ _ _ _ _ _ hf h_a0 h_t12 hP hS (lv_sub hl [2, 1, 0] rfl)
def P_X5_remember_L13 (N : Nat) (S : PSt) (a0 : Nat) : Option PSt := gd (bin (gI S 501 a0) (ln (a0 + 3))) <| bnd (gQ S (a0 + 3) (gI S 501 a0).toNatClampNeg) fun t2 => gd (isk t2 0) <| cal1 (P_X0_copy N S t2 (a0 + 1)) fun S4 => bnd (sI S4 501 a0 ((gI S4 501 a0) + (1 : Int32))) fun S6 => some S6
set_option maxHeartbeats 4000000 in
set_option maxRecDepth 100000 in
theorem w_X5_remember_L13 {N : Nat} {S' : PSt} (hX : Mx p s m args c meth cX5_remember RX5 1 none D cy ad tb) : ∀ (S : PSt) (a0 : Nat) (H : Heap) (locs : List Loc) (ls : Array Slot), P_X5_remember_L13 N S a0 = some S' → kd a0 = 5 → va_P D vwCl (pW cy ad S) H → va_S (pA ad s.heap.size) s.heap H locs → lv_has ls 1 [(0, .ref (ad a0))] → W p l e (rmd 2) s m args below meth c H locs 0 0 (Qz D cy ad below args s S' none) (F0 m 13 ls []) := by
  have hX0 := hX
  obtain ⟨hC, hml, hr, hlk⟩ := hX0
  have hx := hC.1
  have hb := hC.2.1
  intro S a0 H locs ls hf h_a0 hP hS hl
  unfold P_X5_remember_L13 at hf
  refine lv_aload_n hx hb dX5_remember_13 rfl (lv_at hl 0 rfl) ?_
  refine gf_X5_18 hC hP h_a0 (v := .ref (ad (a0 + 3))) rfl dX5_remember_14 ?_
  refine lv_aload_n hx hb dX5_remember_17 rfl (lv_at hl 0 rfl) ?_
  refine gf_X5_25 hC hP h_a0 (v := .int (gI S 501 a0)) rfl dX5_remember_18 ?_
  obtain ⟨h1, hf⟩ := gd_some hf
  obtain ⟨t2, et2, hf⟩ := bnd_some hf
  obtain ⟨h3, hf⟩ := gd_some hf
  have h_t2 := isk_eq h3
  refine pg_aldM hC hP (ko_5_3 h_a0) (bin_in h1) dX5_remember_21 ?_
  refine pg_topr et2 ?_
  refine lv_aload_n hx hb dX5_remember_22 rfl (lv_at hl 0 rfl) ?_
  refine gf_X5_12 hC hP h_a0 (v := .ref (ad (a0 + 1))) rfl dX5_remember_23 ?_
  obtain ⟨S4, q5, hf⟩ := cal1_some hf
  refine pg_callV (As := [.ref (ad (a0 + 1))]) (rest := []) (st1 := []) (ci := 0) hC hml hP hS (c_X0_copy l hC.2.2.2.2.2.1 q5 h_t2 (ko_5_1 h_a0)) ⟨by decide, by decide, rfl, rfl⟩ ⟨rfl, rfl⟩ (by decide) rfl (by decide) h_t2 rfl rfl ⟨mk_X5_29, mi_X0_copy⟩ hd_X0_copy rfl hl.1 (Nat.le_of_ble_eq_true rfl) dX5_remember_26 (fun H locs hP hS => ?_)
  refine lv_aload_n hx hb dX5_remember_29 rfl (lv_at hl 0 rfl) ?_
  refine lv_dup hx hb dX5_remember_30 rfl ?_
  refine gf_X5_25 hC hP h_a0 (v := .int (gI S4 501 a0)) rfl dX5_remember_31 ?_
  refine lv_iconst (v := 1) hx hb dX5_remember_34 (by decide) ?_
  refine lv_iadd hx hb dX5_remember_35 ?_
  obtain ⟨S6, eS6, hf⟩ := bnd_some hf
  refine pf_X5_25 hC hP hS h_a0 eS6 dX5_remember_36 (fun H locs hP hS => ?_)
  exact pg_vret hC hr hlk hP hS hf dX5_remember_39
def P_X5_remember (N : Nat) (S : PSt) (a0 : Nat) : Option PSt := if (gI S 501 a0) < (10 : Int32) then (P_X5_remember_L13 N S a0) else (cal1 (P_X5_loseOldest N S a0) fun S8 => P_X5_remember_L13 N S8 a0)
set_option maxHeartbeats 4000000 in
set_option maxRecDepth 100000 in
theorem c_X5_remember (l : Launch) {D : va_G} {cy : Nat → ClassId} {ad tb : Nat → Nat} (hJ : pJ ad) {N : Nat} {S S' : PSt} {a0 : Nat} (hf : P_X5_remember N S a0 = some S') (h_a0 : kd a0 = 5) : Ct l 2 yX5_remember cX5_remember 1 none D cy ad tb S S' [.ref (ad a0)] none := by
  refine Ct_of hJ (by decide) (Nat.le_of_ble_eq_true rfl) (fun p e s m below meth c ls hX hP hS hl => ?_)
  have hl : lv_has ls 1 [(0, .ref (ad a0))] := hl
  have hX0 := hX
  obtain ⟨hC, hml, hr, hlk⟩ := hX0
  have hx := hC.1
  have hb := hC.2.1
  unfold P_X5_remember at hf
  refine lv_aload_n hx hb dX5_remember_0 rfl (lv_at hl 0 rfl) ?_
  refine gf_X5_25 hC hP h_a0 (v := .int (gI S 501 a0)) rfl dX5_remember_1 ?_
  refine lv_bipush (v := 10) hx hb dX5_remember_4 (by decide) ?_
  refine lv_icmp_lt (tgt := 13) hx hb dX5_remember_6 (by decide) (fun c7 => ?_) (fun c7 => ?_)
  · replace hf := ite_t c7 hf
    exact w_X5_remember_L13 hX _ _ _ _ _ hf h_a0 hP hS (lv_sub hl [0] rfl)
  · replace hf := ite_f c7 hf
    refine lv_aload_n hx hb dX5_remember_9 rfl (lv_at hl 0 rfl) ?_
    obtain ⟨S8, q9, hf⟩ := cal1_some hf
    refine pg_callV (As := []) (rest := []) (st1 := []) (ci := 5) hC hml hP hS (c_X5_loseOldest l hC.2.2.2.2.2.1 q9 h_a0) ⟨by decide, by decide, rfl, rfl⟩ ⟨rfl, rfl⟩ (by decide) rfl (by decide) h_a0 rfl rfl ⟨mk_X5_33, mi_X5_loseOldest⟩ hd_X5_loseOldest rfl hl.1 (Nat.le_of_ble_eq_true rfl) dX5_remember_10 (fun H locs hP hS => ?_)
    exact w_X5_remember_L13 hX _ _ _ _ _ hf h_a0 hP hS (lv_sub hl [0] rfl)
def P_X5_takeBack (N : Nat) (S : PSt) (a0 : Nat) : Option PSt := if (gI S 501 a0) ≤ (0 : Int32) then (some S) else (bnd (sI S 501 a0 ((gI S 501 a0) - (1 : Int32))) fun S2 => gd (bin (gI S2 501 a0) (ln (a0 + 3))) <| bnd (gQ S2 (a0 + 3) (gI S2 501 a0).toNatClampNeg) fun t4 => gd (isk t4 0) <| cal1 (P_X0_copy N S2 (a0 + 1) t4) fun S6 => some S6)
set_option maxHeartbeats 4000000 in
set_option maxRecDepth 100000 in
theorem c_X5_takeBack (l : Launch) {D : va_G} {cy : Nat → ClassId} {ad tb : Nat → Nat} (hJ : pJ ad) {N : Nat} {S S' : PSt} {a0 : Nat} (hf : P_X5_takeBack N S a0 = some S') (h_a0 : kd a0 = 5) : Ct l 2 yX5_takeBack cX5_takeBack 1 none D cy ad tb S S' [.ref (ad a0)] none := by
  refine Ct_of hJ (by decide) (Nat.le_of_ble_eq_true rfl) (fun p e s m below meth c ls hX hP hS hl => ?_)
  have hl : lv_has ls 1 [(0, .ref (ad a0))] := hl
  have hX0 := hX
  obtain ⟨hC, hml, hr, hlk⟩ := hX0
  have hx := hC.1
  have hb := hC.2.1
  unfold P_X5_takeBack at hf
  refine lv_aload_n hx hb dX5_takeBack_0 rfl (lv_at hl 0 rfl) ?_
  refine gf_X5_25 hC hP h_a0 (v := .int (gI S 501 a0)) rfl dX5_takeBack_1 ?_
  refine lv_if_le (tgt := 33) hx hb dX5_takeBack_4 (by decide) (fun c1 => ?_) (fun c1 => ?_)
  · replace hf := ite_t c1 hf
    exact pg_vret hC hr hlk hP hS hf dX5_takeBack_33
  · replace hf := ite_f c1 hf
    refine lv_aload_n hx hb dX5_takeBack_7 rfl (lv_at hl 0 rfl) ?_
    refine lv_dup hx hb dX5_takeBack_8 rfl ?_
    refine gf_X5_25 hC hP h_a0 (v := .int (gI S 501 a0)) rfl dX5_takeBack_9 ?_
    refine lv_iconst (v := 1) hx hb dX5_takeBack_12 (by decide) ?_
    refine lv_isub hx hb dX5_takeBack_13 ?_
    obtain ⟨S2, eS2, hf⟩ := bnd_some hf
    refine pf_X5_25 hC hP hS h_a0 eS2 dX5_takeBack_14 (fun H locs hP hS => ?_)
    refine lv_aload_n hx hb dX5_takeBack_17 rfl (lv_at hl 0 rfl) ?_
    refine gf_X5_12 hC hP h_a0 (v := .ref (ad (a0 + 1))) rfl dX5_takeBack_18 ?_
    refine lv_aload_n hx hb dX5_takeBack_21 rfl (lv_at hl 0 rfl) ?_
    refine gf_X5_18 hC hP h_a0 (v := .ref (ad (a0 + 3))) rfl dX5_takeBack_22 ?_
    refine lv_aload_n hx hb dX5_takeBack_25 rfl (lv_at hl 0 rfl) ?_
    refine gf_X5_25 hC hP h_a0 (v := .int (gI S2 501 a0)) rfl dX5_takeBack_26 ?_
    obtain ⟨h3, hf⟩ := gd_some hf
    obtain ⟨t4, et4, hf⟩ := bnd_some hf
    obtain ⟨h5, hf⟩ := gd_some hf
    have h_t4 := isk_eq h5
    refine pg_aldM hC hP (ko_5_3 h_a0) (bin_in h3) dX5_takeBack_29 ?_
    refine pg_topr et4 ?_
    obtain ⟨S6, q7, hf⟩ := cal1_some hf
    refine pg_callV (As := [.ref (ad t4)]) (rest := []) (st1 := []) (ci := 0) hC hml hP hS (c_X0_copy l hC.2.2.2.2.2.1 q7 (ko_5_1 h_a0) h_t4) ⟨by decide, by decide, rfl, rfl⟩ ⟨rfl, rfl⟩ (by decide) rfl (by decide) (ko_5_1 h_a0) rfl rfl ⟨mk_X5_29, mi_X0_copy⟩ hd_X0_copy rfl hl.1 (Nat.le_of_ble_eq_true rfl) dX5_takeBack_30 (fun H locs hP hS => ?_)
    exact pg_vret hC hr hlk hP hS hf dX5_takeBack_33
end GEN
