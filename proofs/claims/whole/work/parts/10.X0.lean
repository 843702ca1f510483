section GEN
variable {p : Program} {l : Launch} {e : Env} {s : State} {m : MethodId} {args : Array Value} {below : List Frame} {meth : Method} {c : Code} {D : va_G} {cy : Nat → ClassId} {ad tb : Nat → Nat}
def P_X0_begin_L18 (N : Nat) : Nat → PSt → Nat → Int32 → Option PSt
  | 0 => fun _ _ _ => none
  | n + 1 => fun S a0 x1 => if (4 : Int32) ≤ x1 then (some S) else (gd (bin x1 (ln (a0 + 1))) <| bnd (sA S (a0 + 1) x1.toNatClampNeg (0 : Int32)) fun S3 => bnd (x1 + (1 : Int32)) fun v4 => P_X0_begin_L18 N n S3 a0 v4)
set_option maxHeartbeats 4000000 in
set_option maxRecDepth 100000 in
theorem w_X0_begin_L18 {N : Nat} {S' : PSt} (hX : Mx p s m args c meth cX0_begin RX0 2 none D cy ad tb) : ∀ (n : Nat), ∀ (S : PSt) (a0 : Nat) (x1 : Int32) (H : Heap) (locs : List Loc) (ls : Array Slot), P_X0_begin_L18 N n S a0 x1 = some S' → kd a0 = 0 → va_P D vwCl (pW cy ad S) H → va_S (pA ad s.heap.size) s.heap H locs → lv_has ls 2 [(0, .ref (ad a0)), (1, .int x1)] → W p l e (rmd 1) s m args below meth c H locs 0 0 (Qz D cy ad below args s S' none) (F0 m 18 ls []) := by
  have hX0 := hX
  obtain ⟨hC, hml, hr, hlk⟩ := hX0
  have hx := hC.1
  have hb := hC.2.1
  intro n
  induction n with
  | zero => intro S a0 x1 H locs ls hf; exact absurd hf (by intro h; cases h)
  | succ n ih =>
    intro S a0 x1 H locs ls hf h_a0 hP hS hl
    rw [P_X0_begin_L18] at hf
    refine lv_iload_n hx hb dX0_begin_18 rfl (lv_at hl 1 rfl) ?_
    refine lv_iconst (v := 4) hx hb dX0_begin_19 (by decide) ?_
    refine lv_icmp_ge (tgt := 36) hx hb dX0_begin_20 (by decide) (fun c1 => ?_) (fun c1 => ?_)
    · replace hf := ite_t c1 hf
      exact pg_vret hC hr hlk hP hS hf dX0_begin_36
    · replace hf := ite_f c1 hf
      refine lv_aload_n hx hb dX0_begin_23 rfl (lv_at hl 0 rfl) ?_
      refine gf_X0_15 hC hP h_a0 (v := .ref (ad (a0 + 1))) rfl dX0_begin_24 ?_
      refine lv_iload_n hx hb dX0_begin_27 rfl (lv_at hl 1 rfl) ?_
      refine lv_iconst (v := 0) hx hb dX0_begin_28 (by decide) ?_
      obtain ⟨h2, hf⟩ := gd_some hf
      obtain ⟨S3, eS3, hf⟩ := bnd_some hf
      refine pg_iast hC hP hS (ko_0_1 h_a0) (bin_in h2) dX0_begin_29 (fun H locs hP hS => ?_)
      rw [← eS3] at hP
      obtain ⟨v4, ev4, hf⟩ := bnd_some hf
      refine lv_iinc (v := v4) (lv' := [(1, .int v4), (0, .ref (ad a0))]) hx hb dX0_begin_30 hl (k := 1) rfl (by rw [ev4]; rfl) (by decide) rfl (fun ls hl => ?_)
      refine lv_goto (tgt := 18) hx hb dX0_begin_33 (by decide) ?_
      exact ih _ _ _ _ _ _ hf h_a0 hP hS (lv_sub hl [1, 0] rfl)
def P_X0_begin (N : Nat) (S : PSt) (a0 : Nat) : Option PSt := bnd (sI S 0 a0 (0 : Int32)) fun S5 => bnd (sI S5 1 a0 (0 : Int32)) fun S6 => bnd (sI S6 2 a0 (-9 : Int32)) fun S7 => P_X0_begin_L18 N N S7 a0 (0 : Int32)
set_option maxHeartbeats 4000000 in
set_option maxRecDepth 100000 in
theorem c_X0_begin (l : Launch) {D : va_G} {cy : Nat → ClassId} {ad tb : Nat → Nat} (hJ : pJ ad) {N : Nat} {S S' : PSt} {a0 : Nat} (hf : P_X0_begin N S a0 = some S') (h_a0 : kd a0 = 0) : Ct l 1 yX0_begin cX0_begin 2 none D cy ad tb S S' [.ref (ad a0)] none := by
  refine Ct_of hJ (by decide) (Nat.le_of_ble_eq_true rfl) (fun p e s m below meth c ls hX hP hS hl => ?_)
  have hl : lv_has ls 2 [(0, .ref (ad a0))] := hl
  have hX0 := hX
  obtain ⟨hC, hml, hr, hlk⟩ := hX0
  have hx := hC.1
  have hb := hC.2.1
  unfold P_X0_begin at hf
  refine lv_aload_n hx hb dX0_begin_0 rfl (lv_at hl 0 rfl) ?_
  refine lv_iconst (v := 0) hx hb dX0_begin_1 (by decide) ?_
  obtain ⟨S5, eS5, hf⟩ := bnd_some hf
  refine pf_X0_19 hC hP hS h_a0 eS5 dX0_begin_2 (fun H locs hP hS => ?_)
  refine lv_aload_n hx hb dX0_begin_5 rfl (lv_at hl 0 rfl) ?_
  refine lv_iconst (v := 0) hx hb dX0_begin_6 (by decide) ?_
  obtain ⟨S6, eS6, hf⟩ := bnd_some hf
  refine pf_X0_22 hC hP hS h_a0 eS6 dX0_begin_7 (fun H locs hP hS => ?_)
  refine lv_aload_n hx hb dX0_begin_10 rfl (lv_at hl 0 rfl) ?_
  refine lv_bipush (v := -9) hx hb dX0_begin_11 (by decide) ?_
  obtain ⟨S7, eS7, hf⟩ := bnd_some hf
  refine pf_X0_9 hC hP hS h_a0 eS7 dX0_begin_13 (fun H locs hP hS => ?_)
  refine lv_iconst (v := 0) hx hb dX0_begin_16 (by decide) ?_
  refine lv_istore_n (lv' := [(1, .int (0 : Int32)), (0, .ref (ad a0))]) hx hb dX0_begin_17 rfl hl (by decide) rfl (fun ls hl => ?_)
  exact w_X0_begin_L18 hX _ _ _ _ _ _ _ hf h_a0 hP hS (lv_sub hl [1, 0] rfl)
def P_X0_copy_L26 (N : Nat) : Nat → PSt → Nat → Nat → Int32 → Option PSt
  | 0 => fun _ _ _ _ => none
  | n + 1 => fun S a0 a1 x2 => if (4 : Int32) ≤ x2 then (some S) else (gd (bin x2 (ln (a1 + 1))) <| gd (bin x2 (ln (a0 + 1))) <| bnd (sA S (a0 + 1) x2.toNatClampNeg (gA S (a1 + 1) x2.toNatClampNeg)) fun S4 => bnd (x2 + (1 : Int32)) fun v5 => P_X0_copy_L26 N n S4 a0 a1 v5)
set_option maxHeartbeats 4000000 in
set_option maxRecDepth 100000 in
theorem w_X0_copy_L26 {N : Nat} {S' : PSt} (hX : Mx p s m args c meth cX0_copy RX0 3 none D cy ad tb) : ∀ (n : Nat), ∀ (S : PSt) (a0 : Nat) (a1 : Nat) (x2 : Int32) (H : Heap) (locs : List Loc) (ls : Array Slot), P_X0_copy_L26 N n S a0 a1 x2 = some S' → kd a0 = 0 → kd a1 = 0 → va_P D vwCl (pW cy ad S) H → va_S (pA ad s.heap.size) s.heap H locs → lv_has ls 3 [(0, .ref (ad a0)), (1, .ref (ad a1)), (2, .int x2)] → W p l e (rmd 1) s m args below meth c H locs 0 0 (Qz D cy ad below args s S' none) (F0 m 26 ls []) := by
  have hX0 := hX
  obtain ⟨hC, hml, hr, hlk⟩ := hX0
  have hx := hC.1
  have hb := hC.2.1
  intro n
  induction n with
  | zero => intro S a0 a1 x2 H locs ls hf; exact absurd hf (by intro h; cases h)
  | succ n ih =>
    intro S a0 a1 x2 H locs ls hf h_a0 h_a1 hP hS hl
    rw [P_X0_copy_L26] at hf
    refine lv_iload_n hx hb dX0_copy_26 rfl (lv_at hl 2 rfl) ?_
    refine lv_iconst (v := 4) hx hb dX0_copy_27 (by decide) ?_
    refine lv_icmp_ge (tgt := 49) hx hb dX0_copy_28 (by decide) (fun c1 => ?_) (fun c1 => ?_)
    · replace hf := ite_t c1 hf
      exact pg_vret hC hr hlk hP hS hf dX0_copy_49
    · replace hf := ite_f c1 hf
      refine lv_aload_n hx hb dX0_copy_31 rfl (lv_at hl 0 rfl) ?_
      refine gf_X0_15 hC hP h_a0 (v := .ref (ad (a0 + 1))) rfl dX0_copy_32 ?_
      refine lv_iload_n hx hb dX0_copy_35 rfl (lv_at hl 2 rfl) ?_
      refine lv_aload_n hx hb dX0_copy_36 rfl (lv_at hl 1 rfl) ?_
      refine gf_X0_15 hC hP h_a1 (v := .ref (ad (a1 + 1))) rfl dX0_copy_37 ?_
      refine lv_iload_n hx hb dX0_copy_40 rfl (lv_at hl 2 rfl) ?_
      obtain ⟨h2, hf⟩ := gd_some hf
      refine pg_iald hC hP (ko_0_1 h_a1) (bin_in h2) dX0_copy_41 ?_
      obtain ⟨h3, hf⟩ := gd_some hf
      obtain ⟨S4, eS4, hf⟩ := bnd_some hf
      refine pg_iast hC hP hS (ko_0_1 h_a0) (bin_in h3) dX0_copy_42 (fun H locs hP hS => ?_)
      rw [← eS4] at hP
      obtain ⟨v5, ev5, hf⟩ := bnd_some hf
      refine lv_iinc (v := v5) (lv' := [(2, .int v5), (0, .ref (ad a0)), (1, .ref (ad a1))]) hx hb dX0_copy_43 hl (k := 2) rfl (by rw [ev5]; rfl) (by decide) rfl (fun ls hl => ?_)
      refine lv_goto (tgt := 26) hx hb dX0_copy_46 (by decide) ?_
      exact ih _ _ _ _ _ _ _ hf h_a0 h_a1 hP hS (lv_sub hl [1, 2, 0] rfl)
def P_X0_copy (N : Nat) (S : PSt) (a0 : Nat) (a1 : Nat) : Option PSt := bnd (sI S 0 a0 (gI S 0 a1)) fun S6 => bnd (sI S6 1 a0 (gI S6 1 a1)) fun S7 => bnd (sI S7 2 a0 (gI S7 2 a1)) fun S8 => P_X0_copy_L26 N N S8 a0 a1 (0 : Int32)
set_option maxHeartbeats 4000000 in
set_option maxRecDepth 100000 in
theorem c_X0_copy (l : Launch) {D : va_G} {cy : Nat → ClassId} {ad tb : Nat → Nat} (hJ : pJ ad) {N : Nat} {S S' : PSt} {a0 : Nat} {a1 : Nat} (hf : P_X0_copy N S a0 a1 = some S') (h_a0 : kd a0 = 0) (h_a1 : kd a1 = 0) : Ct l 1 yX0_copy cX0_copy 3 none D cy ad tb S S' [.ref (ad a0), .ref (ad a1)] none := by
  refine Ct_of hJ (by decide) (Nat.le_of_ble_eq_true rfl) (fun p e s m below meth c ls hX hP hS hl => ?_)
  have hl : lv_has ls 3 [(0, .ref (ad a0)), (1, .ref (ad a1))] := hl
  have hX0 := hX
  obtain ⟨hC, hml, hr, hlk⟩ := hX0
  have hx := hC.1
  have hb := hC.2.1
  unfold P_X0_copy at hf
  refine lv_aload_n hx hb dX0_copy_0 rfl (lv_at hl 0 rfl) ?_
  refine lv_aload_n hx hb dX0_copy_1 rfl (lv_at hl 1 rfl) ?_
  refine gf_X0_19 hC hP h_a1 (v := .int (gI S 0 a1)) rfl dX0_copy_2 ?_
  obtain ⟨S6, eS6, hf⟩ := bnd_some hf
  refine pf_X0_19 hC hP hS h_a0 eS6 dX0_copy_5 (fun H locs hP hS => ?_)
  refine lv_aload_n hx hb dX0_copy_8 rfl (lv_at hl 0 rfl) ?_
  refine lv_aload_n hx hb dX0_copy_9 rfl (lv_at hl 1 rfl) ?_
  refine gf_X0_22 hC hP h_a1 (v := .int (gI S6 1 a1)) rfl dX0_copy_10 ?_
  obtain ⟨S7, eS7, hf⟩ := bnd_some hf
  refine pf_X0_22 hC hP hS h_a0 eS7 dX0_copy_13 (fun H locs hP hS => ?_)
  refine lv_aload_n hx hb dX0_copy_16 rfl (lv_at hl 0 rfl) ?_
  refine lv_aload_n hx hb dX0_copy_17 rfl (lv_at hl 1 rfl) ?_
  refine gf_X0_9 hC hP h_a1 (v := .int (gI S7 2 a1)) rfl dX0_copy_18 ?_
  obtain ⟨S8, eS8, hf⟩ := bnd_some hf
  refine pf_X0_9 hC hP hS h_a0 eS8 dX0_copy_21 (fun H locs hP hS => ?_)
  refine lv_iconst (v := 0) hx hb dX0_copy_24 (by decide) ?_
  refine lv_istore_n (lv' := [(2, .int (0 : Int32)), (0, .ref (ad a0)), (1, .ref (ad a1))]) hx hb dX0_copy_25 rfl hl (by decide) rfl (fun ls hl => ?_)
  exact w_X0_copy_L26 hX _ _ _ _ _ _ _ _ hf h_a0 h_a1 hP hS (lv_sub hl [1, 2, 0] rfl)
def P_X0_isWorn (N : Nat) (S : PSt) (a0 : Nat) (a1 : Nat) (x2 : Int32) : Option (Int32 × PSt) := gd (bin x2 (ln (a0 + 1))) <| gd (bin x2 (ln (a1 + 2))) <| if (gA S (a0 + 1) x2.toNatClampNeg) ≤ (gA S (a1 + 2) x2.toNatClampNeg) then (some ((0 : Int32), S)) else (some ((1 : Int32), S))
set_option maxHeartbeats 4000000 in
set_option maxRecDepth 100000 in
theorem c_X0_isWorn (l : Launch) {D : va_G} {cy : Nat → ClassId} {ad tb : Nat → Nat} (hJ : pJ ad) {N : Nat} {S S' : PSt} {a0 : Nat} {a1 : Nat} {x2 : Int32} {r : Int32} (hf : P_X0_isWorn N S a0 a1 x2 = some (r, S')) (h_a0 : kd a0 = 0) (h_a1 : kd a1 = 4) : Ct l 1 yX0_isWorn cX0_isWorn 3 (some .boolean) D cy ad tb S S' [.ref (ad a0), .ref (ad a1), .int x2] (some (.int r)) := by
  refine Ct_of hJ (by decide) (Nat.le_of_ble_eq_true rfl) (fun p e s m below meth c ls hX hP hS hl => ?_)
  have hl : lv_has ls 3 [(0, .ref (ad a0)), (1, .ref (ad a1)), (2, .int x2)] := hl
  have hX0 := hX
  obtain ⟨hC, hml, hr, hlk⟩ := hX0
  have hx := hC.1
  have hb := hC.2.1
  unfold P_X0_isWorn at hf
  refine lv_aload_n hx hb dX0_isWorn_0 rfl (lv_at hl 0 rfl) ?_
  refine gf_X0_15 hC hP h_a0 (v := .ref (ad (a0 + 1))) rfl dX0_isWorn_1 ?_
  refine lv_iload_n hx hb dX0_isWorn_4 rfl (lv_at hl 2 rfl) ?_
  obtain ⟨h1, hf⟩ := gd_some hf
  refine pg_iald hC hP (ko_0_1 h_a0) (bin_in h1) dX0_isWorn_5 ?_
  refine lv_aload_n hx hb dX0_isWorn_6 rfl (lv_at hl 1 rfl) ?_
  refine gf_X0_25 hC hP h_a1 (v := .ref (ad (a1 + 2))) rfl dX0_isWorn_7 ?_
  refine lv_iload_n hx hb dX0_isWorn_10 rfl (lv_at hl 2 rfl) ?_
  obtain ⟨h2, hf⟩ := gd_some hf
  refine pg_iald hC hP (ko_4_2 h_a1) (bin_in h2) dX0_isWorn_11 ?_
  refine lv_icmp_le (tgt := 19) hx hb dX0_isWorn_12 (by decide) (fun c3 => ?_) (fun c3 => ?_)
  · replace hf := ite_t c3 hf
    refine lv_iconst (v := 0) hx hb dX0_isWorn_19 (by decide) ?_
    exact pg_zret hC hr hlk hP hS (by decide) hf dX0_isWorn_20
  · replace hf := ite_f c3 hf
    refine lv_iconst (v := 1) hx hb dX0_isWorn_15 (by decide) ?_
    refine lv_goto (tgt := 20) hx hb dX0_isWorn_16 (by decide) ?_
    exact pg_zret hC hr hlk hP hS (by decide) hf dX0_isWorn_20
def P_X0_wornBits_L4 (N : Nat) : Nat → PSt → Nat → Nat → Int32 → Int32 → Option (Int32 × PSt)
  | 0 => fun _ _ _ _ _ => none
  | n + 1 => fun S a0 a1 x2 x3 => if (gI S 400 a1) ≤ x3 then (some (x2, S)) else (cal2 (P_X0_isWorn N S a0 a1 x3) fun r4 S2 => if r4 = (0 : Int32) then (bnd (x3 + (1 : Int32)) fun v6 => P_X0_wornBits_L4 N n S2 a0 a1 x2 v6) else (bnd (x2 ||| ((1 : Int32) <<< (x3 &&& 31))) fun v7 => bnd (x3 + (1 : Int32)) fun v8 => P_X0_wornBits_L4 N n S2 a0 a1 v7 v8))
set_option maxHeartbeats 4000000 in
set_option maxRecDepth 100000 in
theorem w_X0_wornBits_L4 {N : Nat} {S' : PSt} {r : Int32} (hX : Mx p s m args c meth cX0_wornBits RX0 4 (some .int) D cy ad tb) : ∀ (n : Nat), ∀ (S : PSt) (a0 : Nat) (a1 : Nat) (x2 : Int32) (x3 : Int32) (H : Heap) (locs : List Loc) (ls : Array Slot), P_X0_wornBits_L4 N n S a0 a1 x2 x3 = some (r, S') → kd a0 = 0 → kd a1 = 4 → va_P D vwCl (pW cy ad S) H → va_S (pA ad s.heap.size) s.heap H locs → lv_has ls 4 [(0, .ref (ad a0)), (1, .ref (ad a1)), (2, .int x2), (3, .int x3)] → W p l e (rmd 2) s m args below meth c H locs 0 0 (Qz D cy ad below args s S' (some (.int r))) (F0 m 4 ls []) := by
  have hX0 := hX
  obtain ⟨hC, hml, hr, hlk⟩ := hX0
  have hx := hC.1
  have hb := hC.2.1
  intro n
  induction n with
  | zero => intro S a0 a1 x2 x3 H locs ls hf; exact absurd hf (by intro h; cases h)
  | succ n ih =>
    intro S a0 a1 x2 x3 H locs ls hf h_a0 h_a1 hP hS hl
    rw [P_X0_wornBits_L4] at hf
    refine lv_iload_n hx hb dX0_wornBits_4 rfl (lv_at hl 3 rfl) ?_
    refine lv_aload_n hx hb dX0_wornBits_5 rfl (lv_at hl 1 rfl) ?_
    refine gf_X0_30 hC hP h_a1 (v := .int (gI S 400 a1)) rfl dX0_wornBits_6 ?_
    refine lv_icmp_ge (tgt := 33) hx hb dX0_wornBits_9 (by decide) (fun c1 => ?_) (fun c1 => ?_)
    · replace hf := ite_t c1 hf
      refine lv_iload_n hx hb dX0_wornBits_33 rfl (lv_at hl 2 rfl) ?_
      exact pg_iret hC hr hlk hP hS hf dX0_wornBits_34
    · replace hf := ite_f c1 hf
      refine lv_aload_n hx hb dX0_wornBits_12 rfl (lv_at hl 0 rfl) ?_
      refine lv_aload_n hx hb dX0_wornBits_13 rfl (lv_at hl 1 rfl) ?_
      refine lv_iload_n hx hb dX0_wornBits_14 rfl (lv_at hl 3 rfl) ?_
      obtain ⟨r4, S2, q3, hf⟩ := cal2_some hf
      refine pg_callV (As := [.ref (ad a1), .int x3]) (rest := []) (st1 := [.int r4]) (ci := 0) hC hml hP hS (c_X0_isWorn l hC.2.2.2.2.2.1 q3 h_a0 h_a1) ⟨by decide, by decide, rfl, rfl⟩ ⟨rfl, rfl⟩ (by decide) rfl (by decide) h_a0 rfl rfl ⟨mk_X0_33, mi_X0_isWorn⟩ hd_X0_isWorn rfl hl.1 (Nat.le_of_ble_eq_true rfl) dX0_wornBits_15 (fun H locs hP hS => ?_)
      refine lv_if_eq (tgt := 27) hx hb dX0_wornBits_18 (by decide) (fun c5 => ?_) (fun c5 => ?_)
      · replace hf := ite_t c5 hf
        obtain ⟨v6, ev6, hf⟩ := bnd_some hf
        refine lv_iinc (v := v6) (lv' := [(3, .int v6), (0, .ref (ad a0)), (1, .ref (ad a1)), (2, .int x2)]) hx hb dX0_wornBits_27 hl (k := 3) rfl (by rw [ev6]; rfl) (by decide) rfl (fun ls hl => ?_)
        refine lv_goto (tgt := 4) hx hb dX0_wornBits_30 (by decide) ?_
        exact ih _ _ _ _ _ _ _ _ hf h_a0 h_a1 hP hS (lv_sub hl [1, 2, 3, 0] rfl)
      · replace hf := ite_f c5 hf
        refine lv_iload_n hx hb dX0_wornBits_21 rfl (lv_at hl 2 rfl) ?_
        refine lv_iconst (v := 1) hx hb dX0_wornBits_22 (by decide) ?_
        refine lv_iload_n hx hb dX0_wornBits_23 rfl (lv_at hl 3 rfl) ?_
        refine lv_ishl hx hb dX0_wornBits_24 ?_
        refine lv_ior hx hb dX0_wornBits_25 ?_
        obtain ⟨v7, ev7, hf⟩ := bnd_some hf
        refine pg_top ev7 ?_
        refine lv_istore_n (lv' := [(2, .int v7), (0, .ref (ad a0)), (1, .ref (ad a1)), (3, .int x3)]) hx hb dX0_wornBits_26 rfl hl (by decide) rfl (fun ls hl => ?_)
        obtain ⟨v8, ev8, hf⟩ := bnd_some hf
        refine lv_iinc (v := v8) (lv' := [(3, .int v8), (2, .int v7), (0, .ref (ad a0)), (1, .ref (ad a1))]) hx hb dX0_wornBits_27 hl (k := 3) rfl (by rw [ev8]; rfl) (by decide) rfl (fun ls hl => ?_)
        refine lv_goto (tgt := 4) hx hb dX0_wornBits_30 (by decide) ?_
        exact ih _ _ _ _ _ _ _ _ hf h_a0 h_a1 hP hS (lv_sub hl [2, 3, 1, 0] rfl)
def P_X0_wornBits (N : Nat) (S : PSt) (a0 : Nat) (a1 : Nat) : Option (Int32 × PSt) := P_X0_wornBits_L4 N N S a0 a1 (0 : Int32) (0 : Int32)
set_option maxHeartbeats 4000000 in
set_option maxRecDepth 100000 in
theorem c_X0_wornBits (l : Launch) {D : va_G} {cy : Nat → ClassId} {ad tb : Nat → Nat} (hJ : pJ ad) {N : Nat} {S S' : PSt} {a0 : Nat} {a1 : Nat} {r : Int32} (hf : P_X0_wornBits N S a0 a1 = some (r, S')) (h_a0 : kd a0 = 0) (h_a1 : kd a1 = 4) : Ct l 2 yX0_wornBits cX0_wornBits 4 (some .int) D cy ad tb S S' [.ref (ad a0), .ref (ad a1)] (some (.int r)) := by
  refine Ct_of hJ (by decide) (Nat.le_of_ble_eq_true rfl) (fun p e s m below meth c ls hX hP hS hl => ?_)
  have hl : lv_has ls 4 [(0, .ref (ad a0)), (1, .ref (ad a1))] := hl
  have hX0 := hX
  obtain ⟨hC, hml, hr, hlk⟩ := hX0
  have hx := hC.1
  have hb := hC.2.1
  unfold P_X0_wornBits at hf
  refine lv_iconst (v := 0) hx hb dX0_wornBits_0 (by decide) ?_
  refine lv_istore_n (lv' := [(2, .int (0 : Int32)), (0, .ref (ad a0)), (1, .ref (ad a1))]) hx hb dX0_wornBits_1 rfl hl (by decide) rfl (fun ls hl => ?_)
  refine lv_iconst (v := 0) hx hb dX0_wornBits_2 (by decide) ?_
  refine lv_istore_n (lv' := [(3, .int (0 : Int32)), (2, .int (0 : Int32)), (0, .ref (ad a0)), (1, .ref (ad a1))]) hx hb dX0_wornBits_3 rfl hl (by decide) rfl (fun ls hl => ?_)
  exact w_X0_wornBits_L4 hX _ _ _ _ _ _ _ _ _ hf h_a0 h_a1 hP hS (lv_sub hl [2, 3, 1, 0] rfl)
def P_X0_wornOf_L31 (N : Nat) (S : PSt) (a0 : Nat) (a1 : Nat) (x4 : Int32) (y0 : Int32) : Option (Int32 × PSt) := gd (bin x4 (ln (a0 + 1))) <| gd (bin x4 (ln (a1 + 2))) <| if (gA S (a0 + 1) x4.toNatClampNeg) ≤ (gA S (a1 + 2) x4.toNatClampNeg) then (some ((y0 + (0 : Int32)), S)) else (some ((y0 + (1 : Int32)), S))
set_option maxHeartbeats 4000000 in
set_option maxRecDepth 100000 in
theorem w_X0_wornOf_L31 {N : Nat} {S' : PSt} {r : Int32} (hX : Mx p s m args c meth cX0_wornOf RX0 5 (some .int) D cy ad tb) : ∀ (S : PSt) (a0 : Nat) (a1 : Nat) (x4 : Int32) (y0 : Int32) (H : Heap) (locs : List Loc) (ls : Array Slot), P_X0_wornOf_L31 N S a0 a1 x4 y0 = some (r, S') → kd a0 = 0 → kd a1 = 4 → va_P D vwCl (pW cy ad S) H → va_S (pA ad s.heap.size) s.heap H locs → lv_has ls 5 [(0, .ref (ad a0)), (1, .ref (ad a1)), (4, .int x4)] → W p l e (rmd 1) s m args below meth c H locs 0 0 (Qz D cy ad below args s S' (some (.int r))) (F0 m 31 ls [.int y0]) := by
  have hX0 := hX
  obtain ⟨hC, hml, hr, hlk⟩ := hX0
  have hx := hC.1
  have hb := hC.2.1
  intro S a0 a1 x4 y0 H locs ls hf h_a0 h_a1 hP hS hl
  unfold P_X0_wornOf_L31 at hf
  refine lv_aload_n hx hb dX0_wornOf_31 rfl (lv_at hl 0 rfl) ?_
  refine gf_X0_15 hC hP h_a0 (v := .ref (ad (a0 + 1))) rfl dX0_wornOf_32 ?_
  refine lv_iload hx hb dX0_wornOf_35 (lv_at hl 2 rfl) ?_
  obtain ⟨h1, hf⟩ := gd_some hf
  refine pg_iald hC hP (ko_0_1 h_a0) (bin_in h1) dX0_wornOf_37 ?_
  refine lv_aload_n hx hb dX0_wornOf_38 rfl (lv_at hl 1 rfl) ?_
  refine gf_X0_25 hC hP h_a1 (v := .ref (ad (a1 + 2))) rfl dX0_wornOf_39 ?_
  refine lv_iload hx hb dX0_wornOf_42 (lv_at hl 2 rfl) ?_
  obtain ⟨h2, hf⟩ := gd_some hf
  refine pg_iald hC hP (ko_4_2 h_a1) (bin_in h2) dX0_wornOf_44 ?_
  refine lv_icmp_le (tgt := 52) hx hb dX0_wornOf_45 (by decide) (fun c3 => ?_) (fun c3 => ?_)
  · replace hf := ite_t c3 hf
    refine lv_iconst (v := 0) hx hb dX0_wornOf_52 (by decide) ?_
    refine lv_iadd hx hb dX0_wornOf_53 ?_
    exact pg_iret hC hr hlk hP hS hf dX0_wornOf_54
  · replace hf := ite_f c3 hf
    refine lv_iconst (v := 1) hx hb dX0_wornOf_48 (by decide) ?_
    refine lv_goto (tgt := 53) hx hb dX0_wornOf_49 (by decide) ?_
    refine lv_iadd hx hb dX0_wornOf_53 ?_
    exact pg_iret hC hr hlk hP hS hf dX0_wornOf_54
def P_X0_wornOf (N : Nat) (S : PSt) (a0 : Nat) (a1 : Nat) (x2 : Int32) : Option (Int32 × PSt) := bnd (x2 / (10 : Int32)) fun v4 => bnd (x2 - x2 / (10 : Int32) * (10 : Int32)) fun v5 => gd (bin v4 (ln (a0 + 1))) <| gd (bin v4 (ln (a1 + 2))) <| if (gA S (a0 + 1) v4.toNatClampNeg) ≤ (gA S (a1 + 2) v4.toNatClampNeg) then (P_X0_wornOf_L31 N S a0 a1 v5 (0 : Int32)) else (P_X0_wornOf_L31 N S a0 a1 v5 (1 : Int32))
set_option maxHeartbeats 4000000 in
set_option maxRecDepth 100000 in
theorem c_X0_wornOf (l : Launch) {D : va_G} {cy : Nat → ClassId} {ad tb : Nat → Nat} (hJ : pJ ad) {N : Nat} {S S' : PSt} {a0 : Nat} {a1 : Nat} {x2 : Int32} {r : Int32} (hf : P_X0_wornOf N S a0 a1 x2 = some (r, S')) (h_a0 : kd a0 = 0) (h_a1 : kd a1 = 4) : Ct l 1 yX0_wornOf cX0_wornOf 5 (some .int) D cy ad tb S S' [.ref (ad a0), .ref (ad a1), .int x2] (some (.int r)) := by
  refine Ct_of hJ (by decide) (Nat.le_of_ble_eq_true rfl) (fun p e s m below meth c ls hX hP hS hl => ?_)
  have hl : lv_has ls 5 [(0, .ref (ad a0)), (1, .ref (ad a1)), (2, .int x2)] := hl
  have hX0 := hX
  obtain ⟨hC, hml, hr, hlk⟩ := hX0
  have hx := hC.1
  have hb := hC.2.1
  unfold P_X0_wornOf at hf
  refine lv_iload_n hx hb dX0_wornOf_0 rfl (lv_at hl 2 rfl) ?_
  refine lv_bipush (v := 10) hx hb dX0_wornOf_1 (by decide) ?_
  refine lv_idiv hx hb dX0_wornOf_3 (by decide) ?_
  obtain ⟨v4, ev4, hf⟩ := bnd_some hf
  refine pg_top ev4 ?_
  refine lv_istore_n (lv' := [(3, .int v4), (0, .ref (ad a0)), (1, .ref (ad a1)), (2, .int x2)]) hx hb dX0_wornOf_4 rfl hl (by decide) rfl (fun ls hl => ?_)
  refine lv_iload_n hx hb dX0_wornOf_5 rfl (lv_at hl 3 rfl) ?_
  refine lv_bipush (v := 10) hx hb dX0_wornOf_6 (by decide) ?_
  refine lv_irem hx hb dX0_wornOf_8 (by decide) ?_
  obtain ⟨v5, ev5, hf⟩ := bnd_some hf
  refine pg_top ev5 ?_
  refine lv_istore (lv' := [(4, .int v5), (3, .int v4), (0, .ref (ad a0)), (1, .ref (ad a1)), (2, .int x2)]) hx hb dX0_wornOf_9 hl (by decide) rfl (fun ls hl => ?_)
  refine lv_aload_n hx hb dX0_wornOf_11 rfl (lv_at hl 2 rfl) ?_
  refine gf_X0_15 hC hP h_a0 (v := .ref (ad (a0 + 1))) rfl dX0_wornOf_12 ?_
  refine lv_iload_n hx hb dX0_wornOf_15 rfl (lv_at hl 1 rfl) ?_
  obtain ⟨h6, hf⟩ := gd_some hf
  refine pg_iald hC hP (ko_0_1 h_a0) (bin_in h6) dX0_wornOf_16 ?_
  refine lv_aload_n hx hb dX0_wornOf_17 rfl (lv_at hl 3 rfl) ?_
  refine gf_X0_25 hC hP h_a1 (v := .ref (ad (a1 + 2))) rfl dX0_wornOf_18 ?_
  refine lv_iload_n hx hb dX0_wornOf_21 rfl (lv_at hl 1 rfl) ?_
  obtain ⟨h7, hf⟩ := gd_some hf
  refine pg_iald hC hP (ko_4_2 h_a1) (bin_in h7) dX0_wornOf_22 ?_
  refine lv_icmp_le (tgt := 30) hx hb dX0_wornOf_23 (by decide) (fun c8 => ?_) (fun c8 => ?_)
  · replace hf := ite_t c8 hf
    refine lv_iconst (v := 0) hx hb dX0_wornOf_30 (by decide) ?_
    exact w_X0_wornOf_L31 hX _ _ _ _ _ _ _ _ hf h_a0 h_a1 hP hS (lv_sub hl [2, 3, 0] rfl)
  · replace hf := ite_f c8 hf
    refine lv_iconst (v := 1) hx hb dX0_wornOf_26 (by decide) ?_
    refine lv_goto (tgt := 31) hx hb dX0_wornOf_27 (by decide) ?_
    exact w_X0_wornOf_L31 hX _ _ _ _ _ _ _ _ hf h_a0 h_a1 hP hS (lv_sub hl [2, 3, 0] rfl)
def P_X0_tiredTogether_L4 (N : Nat) : Nat → PSt → Nat → Int32 → Int32 → Option (Int32 × PSt)
  | 0 => fun _ _ _ _ => none
  | n + 1 => fun S a0 x1 x2 => if (4 : Int32) ≤ x2 then (some (x1, S)) else (gd (bin x2 (ln (a0 + 1))) <| bnd (x1 + (gA S (a0 + 1) x2.toNatClampNeg)) fun v3 => bnd (x2 + (1 : Int32)) fun v4 => P_X0_tiredTogether_L4 N n S a0 v3 v4)
set_option maxHeartbeats 4000000 in
set_option maxRecDepth 100000 in
theorem w_X0_tiredTogether_L4 {N : Nat} {S' : PSt} {r : Int32} (hX : Mx p s m args c meth cX0_tiredTogether RX0 3 (some .int) D cy ad tb) : ∀ (n : Nat), ∀ (S : PSt) (a0 : Nat) (x1 : Int32) (x2 : Int32) (H : Heap) (locs : List Loc) (ls : Array Slot), P_X0_tiredTogether_L4 N n S a0 x1 x2 = some (r, S') → kd a0 = 0 → va_P D vwCl (pW cy ad S) H → va_S (pA ad s.heap.size) s.heap H locs → lv_has ls 3 [(0, .ref (ad a0)), (1, .int x1), (2, .int x2)] → W p l e (rmd 1) s m args below meth c H locs 0 0 (Qz D cy ad below args s S' (some (.int r))) (F0 m 4 ls []) := by
  have hX0 := hX
  obtain ⟨hC, hml, hr, hlk⟩ := hX0
  have hx := hC.1
  have hb := hC.2.1
  intro n
  induction n with
  | zero => intro S a0 x1 x2 H locs ls hf; exact absurd hf (by intro h; cases h)
  | succ n ih =>
    intro S a0 x1 x2 H locs ls hf h_a0 hP hS hl
    rw [P_X0_tiredTogether_L4] at hf
    refine lv_iload_n hx hb dX0_tiredTogether_4 rfl (lv_at hl 2 rfl) ?_
    refine lv_iconst (v := 4) hx hb dX0_tiredTogether_5 (by decide) ?_
    refine lv_icmp_ge (tgt := 24) hx hb dX0_tiredTogether_6 (by decide) (fun c1 => ?_) (fun c1 => ?_)
    · replace hf := ite_t c1 hf
      refine lv_iload_n hx hb dX0_tiredTogether_24 rfl (lv_at hl 1 rfl) ?_
      exact pg_iret hC hr hlk hP hS hf dX0_tiredTogether_25
    · replace hf := ite_f c1 hf
      refine lv_iload_n hx hb dX0_tiredTogether_9 rfl (lv_at hl 1 rfl) ?_
      refine lv_aload_n hx hb dX0_tiredTogether_10 rfl (lv_at hl 0 rfl) ?_
      refine gf_X0_15 hC hP h_a0 (v := .ref (ad (a0 + 1))) rfl dX0_tiredTogether_11 ?_
      refine lv_iload_n hx hb dX0_tiredTogether_14 rfl (lv_at hl 2 rfl) ?_
      obtain ⟨h2, hf⟩ := gd_some hf
      refine pg_iald hC hP (ko_0_1 h_a0) (bin_in h2) dX0_tiredTogether_15 ?_
      refine lv_iadd hx hb dX0_tiredTogether_16 ?_
      obtain ⟨v3, ev3, hf⟩ := bnd_some hf
      refine pg_top ev3 ?_
      refine lv_istore_n (lv' := [(1, .int v3), (0, .ref (ad a0)), (2, .int x2)]) hx hb dX0_tiredTogether_17 rfl hl (by decide) rfl (fun ls hl => ?_)
      obtain ⟨v4, ev4, hf⟩ := bnd_some hf
      refine lv_iinc (v := v4) (lv' := [(2, .int v4), (1, .int v3), (0, .ref (ad a0))]) hx hb dX0_tiredTogether_18 hl (k := 2) rfl (by rw [ev4]; rfl) (by decide) rfl (fun ls hl => ?_)
      refine lv_goto (tgt := 4) hx hb dX0_tiredTogether_21 (by decide) ?_
      exact ih _ _ _ _ _ _ _ hf h_a0 hP hS (lv_sub hl [2, 1, 0] rfl)
def P_X0_tiredTogether (N : Nat) (S : PSt) (a0 : Nat) : Option (Int32 × PSt) := P_X0_tiredTogether_L4 N N S a0 (0 : Int32) (0 : Int32)
set_option maxHeartbeats 4000000 in
set_option maxRecDepth 100000 in
theorem c_X0_tiredTogether (l : Launch) {D : va_G} {cy : Nat → ClassId} {ad tb : Nat → Nat} (hJ : pJ ad) {N : Nat} {S S' : PSt} {a0 : Nat} {r : Int32} (hf : P_X0_tiredTogether N S a0 = some (r, S')) (h_a0 : kd a0 = 0) : Ct l 1 yX0_tiredTogether cX0_tiredTogether 3 (some .int) D cy ad tb S S' [.ref (ad a0)] (some (.int r)) := by
  refine Ct_of hJ (by decide) (Nat.le_of_ble_eq_true rfl) (fun p e s m below meth c ls hX hP hS hl => ?_)
  have hl : lv_has ls 3 [(0, .ref (ad a0))] := hl
  have hX0 := hX
  obtain ⟨hC, hml, hr, hlk⟩ := hX0
  have hx := hC.1
  have hb := hC.2.1
  unfold P_X0_tiredTogether at hf
  refine lv_iconst (v := 0) hx hb dX0_tiredTogether_0 (by decide) ?_
  refine lv_istore_n (lv' := [(1, .int (0 : Int32)), (0, .ref (ad a0))]) hx hb dX0_tiredTogether_1 rfl hl (by decide) rfl (fun ls hl => ?_)
  refine lv_iconst (v := 0) hx hb dX0_tiredTogether_2 (by decide) ?_
  refine lv_istore_n (lv' := [(2, .int (0 : Int32)), (1, .int (0 : Int32)), (0, .ref (ad a0))]) hx hb dX0_tiredTogether_3 rfl hl (by decide) rfl (fun ls hl => ?_)
  exact w_X0_tiredTogether_L4 hX _ _ _ _ _ _ _ _ hf h_a0 hP hS (lv_sub hl [2, 1, 0] rfl)
def P_X4_unwornRate_L43 (N : Nat) (S : PSt) (a0 : Nat) (x1 : Int32) (x3 : Int32) (x4 : Int32) : Option (Int32 × PSt) := gd (bin x1 (ln (a0 + 4))) <| if (x3 - (4 : Int32)) ≤ (gA S (a0 + 4) x1.toNatClampNeg) then (some (x4, S)) else (bnd (x4 + (1 : Int32)) fun v3 => some (v3, S))
set_option maxHeartbeats 4000000 in
set_option maxRecDepth 100000 in
theorem w_X4_unwornRate_L43 {N : Nat} {S' : PSt} {r : Int32} (hX : Mx p s m args c meth cX4_unwornRate RX4 5 (some .int) D cy ad tb) : ∀ (S : PSt) (a0 : Nat) (x1 : Int32) (x3 : Int32) (x4 : Int32) (H : Heap) (locs : List Loc) (ls : Array Slot), P_X4_unwornRate_L43 N S a0 x1 x3 x4 = some (r, S') → kd a0 = 4 → va_P D vwCl (pW cy ad S) H → va_S (pA ad s.heap.size) s.heap H locs → lv_has ls 5 [(0, .ref (ad a0)), (1, .int x1), (3, .int x3), (4, .int x4)] → W p l e (rmd 1) s m args below meth c H locs 0 0 (Qz D cy ad below args s S' (some (.int r))) (F0 m 43 ls []) := by
  have hX0 := hX
  obtain ⟨hC, hml, hr, hlk⟩ := hX0
  have hx := hC.1
  have hb := hC.2.1
  intro S a0 x1 x3 x4 H locs ls hf h_a0 hP hS hl
  unfold P_X4_unwornRate_L43 at hf
  refine lv_aload_n hx hb dX4_unwornRate_43 rfl (lv_at hl 0 rfl) ?_
  refine gf_X4_25 hC hP h_a0 (v := .ref (ad (a0 + 4))) rfl dX4_unwornRate_44 ?_
  refine lv_iload_n hx hb dX4_unwornRate_47 rfl (lv_at hl 1 rfl) ?_
  obtain ⟨h1, hf⟩ := gd_some hf
  refine pg_iald hC hP (ko_4_4 h_a0) (bin_in h1) dX4_unwornRate_48 ?_
  refine lv_iload_n hx hb dX4_unwornRate_49 rfl (lv_at hl 2 rfl) ?_
  refine lv_iconst (v := 4) hx hb dX4_unwornRate_50 (by decide) ?_
  refine lv_isub hx hb dX4_unwornRate_51 ?_
  refine lv_icmp_ge (tgt := 58) hx hb dX4_unwornRate_52 (by decide) (fun c2 => ?_) (fun c2 => ?_)
  · replace hf := ite_t c2 hf
    refine lv_iload hx hb dX4_unwornRate_58 (lv_at hl 3 rfl) ?_
    exact pg_iret hC hr hlk hP hS hf dX4_unwornRate_60
  · replace hf := ite_f c2 hf
    obtain ⟨v3, ev3, hf⟩ := bnd_some hf
    refine lv_iinc (v := v3) (lv' := [(4, .int v3), (0, .ref (ad a0)), (1, .int x1), (3, .int x3)]) hx hb dX4_unwornRate_55 hl (k := 3) rfl (by rw [ev3]; rfl) (by decide) rfl (fun ls hl => ?_)
    refine lv_iload hx hb dX4_unwornRate_58 (lv_at hl 0 rfl) ?_
    exact pg_iret hC hr hlk hP hS hf dX4_unwornRate_60
def P_X4_unwornRate (N : Nat) (S : PSt) (a0 : Nat) (x1 : Int32) (x2 : Int32) : Option (Int32 × PSt) := gd (bin (x2 / (10 : Int32)) (ln (a0 + 1))) <| gd (bin (x2 - x2 / (10 : Int32) * (10 : Int32)) (ln (a0 + 1))) <| bnd ((gA S (a0 + 1) (x2 / (10 : Int32)).toNatClampNeg) + (gA S (a0 + 1) (x2 - x2 / (10 : Int32) * (10 : Int32)).toNatClampNeg)) fun v6 => gd (bin x1 (ln (a0 + 5))) <| bnd ((4 : Int32) + (gA S (a0 + 5) x1.toNatClampNeg)) fun v8 => gd (bin x1 (ln (a0 + 4))) <| if (gA S (a0 + 4) x1.toNatClampNeg) ≤ v6 then (P_X4_unwornRate_L43 N S a0 x1 v6 v8) else (bnd (v8 + (2 : Int32)) fun v11 => P_X4_unwornRate_L43 N S a0 x1 v6 v11)
set_option maxHeartbeats 4000000 in
set_option maxRecDepth 100000 in
theorem c_X4_unwornRate (l : Launch) {D : va_G} {cy : Nat → ClassId} {ad tb : Nat → Nat} (hJ : pJ ad) {N : Nat} {S S' : PSt} {a0 : Nat} {x1 : Int32} {x2 : Int32} {r : Int32} (hf : P_X4_unwornRate N S a0 x1 x2 = some (r, S')) (h_a0 : kd a0 = 4) : Ct l 1 yX4_unwornRate cX4_unwornRate 5 (some .int) D cy ad tb S S' [.ref (ad a0), .int x1, .int x2] (some (.int r)) := by
  refine Ct_of hJ (by decide) (Nat.le_of_ble_eq_true rfl) (fun p e s m below meth c ls hX hP hS hl => ?_)
  have hl : lv_has ls 5 [(0, .ref (ad a0)), (1, .int x1), (2, .int x2)] := hl
  have hX0 := hX
  obtain ⟨hC, hml, hr, hlk⟩ := hX0
  have hx := hC.1
  have hb := hC.2.1
  unfold P_X4_unwornRate at hf
  refine lv_aload_n hx hb dX4_unwornRate_0 rfl (lv_at hl 0 rfl) ?_
  refine gf_X4_15 hC hP h_a0 (v := .ref (ad (a0 + 1))) rfl dX4_unwornRate_1 ?_
  refine lv_iload_n hx hb dX4_unwornRate_4 rfl (lv_at hl 2 rfl) ?_
  refine lv_bipush (v := 10) hx hb dX4_unwornRate_5 (by decide) ?_
  refine lv_idiv hx hb dX4_unwornRate_7 (by decide) ?_
  obtain ⟨h4, hf⟩ := gd_some hf
  refine pg_iald hC hP (ko_4_1 h_a0) (bin_in h4) dX4_unwornRate_8 ?_
  refine lv_aload_n hx hb dX4_unwornRate_9 rfl (lv_at hl 0 rfl) ?_
  refine gf_X4_15 hC hP h_a0 (v := .ref (ad (a0 + 1))) rfl dX4_unwornRate_10 ?_
  refine lv_iload_n hx hb dX4_unwornRate_13 rfl (lv_at hl 2 rfl) ?_
  refine lv_bipush (v := 10) hx hb dX4_unwornRate_14 (by decide) ?_
  refine lv_irem hx hb dX4_unwornRate_16 (by decide) ?_
  obtain ⟨h5, hf⟩ := gd_some hf
  refine pg_iald hC hP (ko_4_1 h_a0) (bin_in h5) dX4_unwornRate_17 ?_
  refine lv_iadd hx hb dX4_unwornRate_18 ?_
  obtain ⟨v6, ev6, hf⟩ := bnd_some hf
  refine pg_top ev6 ?_
  refine lv_istore_n (lv' := [(3, .int v6), (0, .ref (ad a0)), (1, .int x1), (2, .int x2)]) hx hb dX4_unwornRate_19 rfl hl (by decide) rfl (fun ls hl => ?_)
  refine lv_iconst (v := 4) hx hb dX4_unwornRate_20 (by decide) ?_
  refine lv_aload_n hx hb dX4_unwornRate_21 rfl (lv_at hl 1 rfl) ?_
  refine gf_X4_28 hC hP h_a0 (v := .ref (ad (a0 + 5))) rfl dX4_unwornRate_22 ?_
  refine lv_iload_n hx hb dX4_unwornRate_25 rfl (lv_at hl 2 rfl) ?_
  obtain ⟨h7, hf⟩ := gd_some hf
  refine pg_iald hC hP (ko_4_5 h_a0) (bin_in h7) dX4_unwornRate_26 ?_
  refine lv_iadd hx hb dX4_unwornRate_27 ?_
  obtain ⟨v8, ev8, hf⟩ := bnd_some hf
  refine pg_top ev8 ?_
  refine lv_istore (lv' := [(4, .int v8), (3, .int v6), (0, .ref (ad a0)), (1, .int x1), (2, .int x2)]) hx hb dX4_unwornRate_28 hl (by decide) rfl (fun ls hl => ?_)
  refine lv_aload_n hx hb dX4_unwornRate_30 rfl (lv_at hl 2 rfl) ?_
  refine gf_X4_25 hC hP h_a0 (v := .ref (ad (a0 + 4))) rfl dX4_unwornRate_31 ?_
  refine lv_iload_n hx hb dX4_unwornRate_34 rfl (lv_at hl 3 rfl) ?_
  obtain ⟨h9, hf⟩ := gd_some hf
  refine pg_iald hC hP (ko_4_4 h_a0) (bin_in h9) dX4_unwornRate_35 ?_
  refine lv_iload_n hx hb dX4_unwornRate_36 rfl (lv_at hl 1 rfl) ?_
  refine lv_icmp_le (tgt := 43) hx hb dX4_unwornRate_37 (by decide) (fun c10 => ?_) (fun c10 => ?_)
  · replace hf := ite_t c10 hf
    exact w_X4_unwornRate_L43 hX _ _ _ _ _ _ _ _ hf h_a0 hP hS (lv_sub hl [2, 3, 1, 0] rfl)
  · replace hf := ite_f c10 hf
    obtain ⟨v11, ev11, hf⟩ := bnd_some hf
    refine lv_iinc (v := v11) (lv' := [(4, .int v11), (3, .int v6), (0, .ref (ad a0)), (1, .int x1), (2, .int x2)]) hx hb dX4_unwornRate_40 hl (k := 0) rfl (by rw [ev11]; rfl) (by decide) rfl (fun ls hl => ?_)
    exact w_X4_unwornRate_L43 hX _ _ _ _ _ _ _ _ hf h_a0 hP hS (lv_sub hl [2, 3, 1, 0] rfl)
def P_X0_minutesOn (N : Nat) (S : PSt) (a0 : Nat) (a1 : Nat) (x2 : Int32) (x3 : Int32) : Option (Int32 × PSt) := gd (bin x2 (ln (a1 + 3))) <| cal2 (P_X4_unwornRate N S a1 x2 x3) fun r4 S2 => cal2 (P_X0_wornOf N S2 a0 a1 x3) fun r7 S5 => some (((gA S (a1 + 3) x2.toNatClampNeg) * (r4 + ((3 : Int32) * r7))), S5)
set_option maxHeartbeats 4000000 in
set_option maxRecDepth 100000 in
theorem c_X0_minutesOn (l : Launch) {D : va_G} {cy : Nat → ClassId} {ad tb : Nat → Nat} (hJ : pJ ad) {N : Nat} {S S' : PSt} {a0 : Nat} {a1 : Nat} {x2 : Int32} {x3 : Int32} {r : Int32} (hf : P_X0_minutesOn N S a0 a1 x2 x3 = some (r, S')) (h_a0 : kd a0 = 0) (h_a1 : kd a1 = 4) : Ct l 2 yX0_minutesOn cX0_minutesOn 4 (some .int) D cy ad tb S S' [.ref (ad a0), .ref (ad a1), .int x2, .int x3] (some (.int r)) := by
  refine Ct_of hJ (by decide) (Nat.le_of_ble_eq_true rfl) (fun p e s m below meth c ls hX hP hS hl => ?_)
  have hl : lv_has ls 4 [(0, .ref (ad a0)), (1, .ref (ad a1)), (2, .int x2), (3, .int x3)] := hl
  have hX0 := hX
  obtain ⟨hC, hml, hr, hlk⟩ := hX0
  have hx := hC.1
  have hb := hC.2.1
  unfold P_X0_minutesOn at hf
  refine lv_aload_n hx hb dX0_minutesOn_0 rfl (lv_at hl 1 rfl) ?_
  refine gf_X0_37 hC hP h_a1 (v := .ref (ad (a1 + 3))) rfl dX0_minutesOn_1 ?_
  refine lv_iload_n hx hb dX0_minutesOn_4 rfl (lv_at hl 2 rfl) ?_
  obtain ⟨h1, hf⟩ := gd_some hf
  refine pg_iald hC hP (ko_4_3 h_a1) (bin_in h1) dX0_minutesOn_5 ?_
  refine lv_aload_n hx hb dX0_minutesOn_6 rfl (lv_at hl 1 rfl) ?_
  refine lv_iload_n hx hb dX0_minutesOn_7 rfl (lv_at hl 2 rfl) ?_
  refine lv_iload_n hx hb dX0_minutesOn_8 rfl (lv_at hl 3 rfl) ?_
  obtain ⟨r4, S2, q3, hf⟩ := cal2_some hf
  refine pg_callV (As := [.int x2, .int x3]) (rest := [.int (gA S (a1 + 3) x2.toNatClampNeg)]) (st1 := [.int r4, .int (gA S (a1 + 3) x2.toNatClampNeg)]) (ci := 4) hC hml hP hS (c_X4_unwornRate l hC.2.2.2.2.2.1 q3 h_a1) ⟨by decide, by decide, rfl, rfl⟩ ⟨rfl, rfl⟩ (by decide) rfl (by decide) h_a1 rfl rfl ⟨mk_X0_40, mi_X4_unwornRate⟩ hd_X4_unwornRate rfl hl.1 (Nat.le_of_ble_eq_true rfl) dX0_minutesOn_9 (fun H locs hP hS => ?_)
  refine lv_iconst (v := 3) hx hb dX0_minutesOn_12 (by decide) ?_
  refine lv_aload_n hx hb dX0_minutesOn_13 rfl (lv_at hl 0 rfl) ?_
  refine lv_aload_n hx hb dX0_minutesOn_14 rfl (lv_at hl 1 rfl) ?_
  refine lv_iload_n hx hb dX0_minutesOn_15 rfl (lv_at hl 3 rfl) ?_
  obtain ⟨r7, S5, q6, hf⟩ := cal2_some hf
  refine pg_callV (As := [.ref (ad a1), .int x3]) (rest := [.int (3 : Int32), .int r4, .int (gA S (a1 + 3) x2.toNatClampNeg)]) (st1 := [.int r7, .int (3 : Int32), .int r4, .int (gA S (a1 + 3) x2.toNatClampNeg)]) (ci := 0) hC hml hP hS (c_X0_wornOf l hC.2.2.2.2.2.1 q6 h_a0 h_a1) ⟨by decide, by decide, rfl, rfl⟩ ⟨rfl, rfl⟩ (by decide) rfl (by decide) h_a0 rfl rfl ⟨mk_X0_44, mi_X0_wornOf⟩ hd_X0_wornOf rfl hl.1 (Nat.le_of_ble_eq_true rfl) dX0_minutesOn_16 (fun H locs hP hS => ?_)
  refine lv_imul hx hb dX0_minutesOn_19 ?_
  refine lv_iadd hx hb dX0_minutesOn_20 ?_
  refine lv_imul hx hb dX0_minutesOn_21 ?_
  exact pg_iret hC hr hlk hP hS hf dX0_minutesOn_22
def P_X0_minutesToWalk (N : Nat) (S : PSt) (a0 : Nat) (a1 : Nat) (x2 : Int32) : Option (Int32 × PSt) := cal2 (P_X0_minutesOn N S a0 a1 (gI S 0 a0) x2) fun r3 S1 => if (gI S1 2 a0) = (-9 : Int32) then (some (r3, S1)) else (if (gI S1 2 a0) = x2 then (some (r3, S1)) else (some ((r3 + (gI S1 402 a1)), S1)))
set_option maxHeartbeats 4000000 in
set_option maxRecDepth 100000 in
theorem c_X0_minutesToWalk (l : Launch) {D : va_G} {cy : Nat → ClassId} {ad tb : Nat → Nat} (hJ : pJ ad) {N : Nat} {S S' : PSt} {a0 : Nat} {a1 : Nat} {x2 : Int32} {r : Int32} (hf : P_X0_minutesToWalk N S a0 a1 x2 = some (r, S')) (h_a0 : kd a0 = 0) (h_a1 : kd a1 = 4) : Ct l 3 yX0_minutesToWalk cX0_minutesToWalk 4 (some .int) D cy ad tb S S' [.ref (ad a0), .ref (ad a1), .int x2] (some (.int r)) := by
  refine Ct_of hJ (by decide) (Nat.le_of_ble_eq_true rfl) (fun p e s m below meth c ls hX hP hS hl => ?_)
  have hl : lv_has ls 4 [(0, .ref (ad a0)), (1, .ref (ad a1)), (2, .int x2)] := hl
  have hX0 := hX
  obtain ⟨hC, hml, hr, hlk⟩ := hX0
  have hx := hC.1
  have hb := hC.2.1
  unfold P_X0_minutesToWalk at hf
  refine lv_aload_n hx hb dX0_minutesToWalk_0 rfl (lv_at hl 0 rfl) ?_
  refine lv_aload_n hx hb dX0_minutesToWalk_1 rfl (lv_at hl 1 rfl) ?_
  refine lv_aload_n hx hb dX0_minutesToWalk_2 rfl (lv_at hl 0 rfl) ?_
  refine gf_X0_19 hC hP h_a0 (v := .int (gI S 0 a0)) rfl dX0_minutesToWalk_3 ?_
  refine lv_iload_n hx hb dX0_minutesToWalk_6 rfl (lv_at hl 2 rfl) ?_
  obtain ⟨r3, S1, q2, hf⟩ := cal2_some hf
  refine pg_callV (As := [.ref (ad a1), .int (gI S 0 a0), .int x2]) (rest := []) (st1 := [.int r3]) (ci := 0) hC hml hP hS (c_X0_minutesOn l hC.2.2.2.2.2.1 q2 h_a0 h_a1) ⟨by decide, by decide, rfl, rfl⟩ ⟨rfl, rfl⟩ (by decide) rfl (by decide) h_a0 rfl rfl ⟨mk_X0_48, mi_X0_minutesOn⟩ hd_X0_minutesOn rfl hl.1 (Nat.le_of_ble_eq_true rfl) dX0_minutesToWalk_7 (fun H locs hP hS => ?_)
  refine lv_istore_n (lv' := [(3, .int r3), (0, .ref (ad a0)), (1, .ref (ad a1)), (2, .int x2)]) hx hb dX0_minutesToWalk_10 rfl hl (by decide) rfl (fun ls hl => ?_)
  refine lv_aload_n hx hb dX0_minutesToWalk_11 rfl (lv_at hl 1 rfl) ?_
  refine gf_X0_9 hC hP h_a0 (v := .int (gI S1 2 a0)) rfl dX0_minutesToWalk_12 ?_
  refine lv_bipush (v := -9) hx hb dX0_minutesToWalk_15 (by decide) ?_
  refine lv_icmp_eq (tgt := 28) hx hb dX0_minutesToWalk_17 (by decide) (fun c4 => ?_) (fun c4 => ?_)
  · replace hf := ite_t c4 hf
    refine lv_iload_n hx hb dX0_minutesToWalk_28 rfl (lv_at hl 0 rfl) ?_
    refine lv_goto (tgt := 38) hx hb dX0_minutesToWalk_29 (by decide) ?_
    exact pg_iret hC hr hlk hP hS hf dX0_minutesToWalk_38
  · replace hf := ite_f c4 hf
    refine lv_aload_n hx hb dX0_minutesToWalk_20 rfl (lv_at hl 1 rfl) ?_
    refine gf_X0_9 hC hP h_a0 (v := .int (gI S1 2 a0)) rfl dX0_minutesToWalk_21 ?_
    refine lv_iload_n hx hb dX0_minutesToWalk_24 rfl (lv_at hl 3 rfl) ?_
    refine lv_icmp_ne (tgt := 32) hx hb dX0_minutesToWalk_25 (by decide) (fun c5 => ?_) (fun c5 => ?_)
    · replace hf := ite_f c5 hf
      refine lv_iload_n hx hb dX0_minutesToWalk_32 rfl (lv_at hl 0 rfl) ?_
      refine lv_aload_n hx hb dX0_minutesToWalk_33 rfl (lv_at hl 2 rfl) ?_
      refine gf_X0_52 hC hP h_a1 (v := .int (gI S1 402 a1)) rfl dX0_minutesToWalk_34 ?_
      refine lv_iadd hx hb dX0_minutesToWalk_37 ?_
      exact pg_iret hC hr hlk hP hS hf dX0_minutesToWalk_38
    · replace hf := ite_t c5 hf
      refine lv_iload_n hx hb dX0_minutesToWalk_28 rfl (lv_at hl 0 rfl) ?_
      refine lv_goto (tgt := 38) hx hb dX0_minutesToWalk_29 (by decide) ?_
      exact pg_iret hC hr hlk hP hS hf dX0_minutesToWalk_38
def P_X0_tire_L23 (k2 : PSt → Nat → Int32 → Int32 → Int32 → Option PSt) (N : Nat) (S : PSt) (a0 : Nat) (x1 : Int32) (x2 : Int32) (x3 : Int32) : Option PSt := gd (bin x3 (ln (a0 + 1))) <| gd (bin x3 (ln (a0 + 1))) <| bnd (sA S (a0 + 1) x3.toNatClampNeg (if (99 : Int32) < ((gA S (a0 + 1) x3.toNatClampNeg) + x2) then (99 : Int32) else ((gA S (a0 + 1) x3.toNatClampNeg) + x2))) fun S3 => bnd (x3 + (1 : Int32)) fun v4 => k2 S3 a0 x1 x2 v4
set_option maxHeartbeats 4000000 in
set_option maxRecDepth 100000 in
theorem w_X0_tire_L23 {N : Nat} {S' : PSt} (hX : Mx p s m args c meth cX0_tire RX0 4 none D cy ad tb) {k2 : PSt → Nat → Int32 → Int32 → Int32 → Option PSt} (hk2 : ∀ (S : PSt) (a0 : Nat) (x1 : Int32) (x2 : Int32) (x3 : Int32) (H : Heap) (locs : List Loc) (ls : Array Slot), k2 S a0 x1 x2 x3 = some S' → kd a0 = 0 → va_P D vwCl (pW cy ad S) H → va_S (pA ad s.heap.size) s.heap H locs → lv_has ls 4 [(0, .ref (ad a0)), (1, .int x1), (2, .int x2), (3, .int x3)] → W p l e (rmd 1) s m args below meth c H locs 0 0 (Qz D cy ad below args s S' none) (F0 m 2 ls [])) : ∀ (S : PSt) (a0 : Nat) (x1 : Int32) (x2 : Int32) (x3 : Int32) (H : Heap) (locs : List Loc) (ls : Array Slot), P_X0_tire_L23 k2 N S a0 x1 x2 x3 = some S' → kd a0 = 0 → va_P D vwCl (pW cy ad S) H → va_S (pA ad s.heap.size) s.heap H locs → lv_has ls 4 [(0, .ref (ad a0)), (1, .int x1), (2, .int x2), (3, .int x3)] → W p l e (rmd 1) s m args below meth c H locs 0 0 (Qz D cy ad below args s S' none) (F0 m 23 ls []) := by
  have hX0 := hX
  obtain ⟨hC, hml, hr, hlk⟩ := hX0
  have hx := hC.1
  have hb := hC.2.1
  intro S a0 x1 x2 x3 H locs ls hf h_a0 hP hS hl
  unfold P_X0_tire_L23 at hf
  refine lv_aload_n hx hb dX0_tire_23 rfl (lv_at hl 0 rfl) ?_
  refine gf_X0_15 hC hP h_a0 (v := .ref (ad (a0 + 1))) rfl dX0_tire_24 ?_
  refine lv_iload_n hx hb dX0_tire_27 rfl (lv_at hl 3 rfl) ?_
  refine lv_aload_n hx hb dX0_tire_28 rfl (lv_at hl 0 rfl) ?_
  refine gf_X0_15 hC hP h_a0 (v := .ref (ad (a0 + 1))) rfl dX0_tire_29 ?_
  refine lv_iload_n hx hb dX0_tire_32 rfl (lv_at hl 3 rfl) ?_
  obtain ⟨h1, hf⟩ := gd_some hf
  refine pg_iald hC hP (ko_0_1 h_a0) (bin_in h1) dX0_tire_33 ?_
  refine lv_iload_n hx hb dX0_tire_34 rfl (lv_at hl 2 rfl) ?_
  refine lv_iadd hx hb dX0_tire_35 ?_
  refine lv_bipush (v := 99) hx hb dX0_tire_36 (by decide) ?_
  refine pg_min hC (hml.trans hl.1.symm) ⟨by decide, by decide, rfl, rfl⟩ ⟨rfl, rfl⟩ kl_X0_62 (Nat.le_of_ble_eq_true rfl) dX0_tire_38 ?_
  obtain ⟨h2, hf⟩ := gd_some hf
  obtain ⟨S3, eS3, hf⟩ := bnd_some hf
  refine pg_iast hC hP hS (ko_0_1 h_a0) (bin_in h2) dX0_tire_41 (fun H locs hP hS => ?_)
  rw [← eS3] at hP
  refine lv_goto (tgt := 63) hx hb dX0_tire_42 (by decide) ?_
  obtain ⟨v4, ev4, hf⟩ := bnd_some hf
  refine lv_iinc (v := v4) (lv' := [(3, .int v4), (0, .ref (ad a0)), (1, .int x1), (2, .int x2)]) hx hb dX0_tire_63 hl (k := 3) rfl (by rw [ev4]; rfl) (by decide) rfl (fun ls hl => ?_)
  refine lv_goto (tgt := 2) hx hb dX0_tire_66 (by decide) ?_
  exact hk2 _ _ _ _ _ _ _ _ hf h_a0 hP hS (lv_sub hl [1, 2, 3, 0] rfl)
def P_X0_tire_L2 (N : Nat) : Nat → PSt → Nat → Int32 → Int32 → Int32 → Option PSt
  | 0 => fun _ _ _ _ _ => none
  | n + 1 => fun S a0 x1 x2 x3 => if (4 : Int32) ≤ x3 then (some S) else (if x3 = (x1 / (10 : Int32)) then (P_X0_tire_L23 (P_X0_tire_L2 N n) N S a0 x1 x2 x3) else (if x3 = (x1 - x1 / (10 : Int32) * (10 : Int32)) then (P_X0_tire_L23 (P_X0_tire_L2 N n) N S a0 x1 x2 x3) else (gd (bin x3 (ln (a0 + 1))) <| gd (bin x3 (ln (a0 + 1))) <| bnd (sA S (a0 + 1) x3.toNatClampNeg (if ((gA S (a0 + 1) x3.toNatClampNeg) - x2) < (0 : Int32) then (0 : Int32) else ((gA S (a0 + 1) x3.toNatClampNeg) - x2))) fun S10 => bnd (x3 + (1 : Int32)) fun v11 => P_X0_tire_L2 N n S10 a0 x1 x2 v11)))
set_option maxHeartbeats 4000000 in
set_option maxRecDepth 100000 in
theorem w_X0_tire_L2 {N : Nat} {S' : PSt} (hX : Mx p s m args c meth cX0_tire RX0 4 none D cy ad tb) : ∀ (n : Nat), ∀ (S : PSt) (a0 : Nat) (x1 : Int32) (x2 : Int32) (x3 : Int32) (H : Heap) (locs : List Loc) (ls : Array Slot), P_X0_tire_L2 N n S a0 x1 x2 x3 = some S' → kd a0 = 0 → va_P D vwCl (pW cy ad S) H → va_S (pA ad s.heap.size) s.heap H locs → lv_has ls 4 [(0, .ref (ad a0)), (1, .int x1), (2, .int x2), (3, .int x3)] → W p l e (rmd 1) s m args below meth c H locs 0 0 (Qz D cy ad below args s S' none) (F0 m 2 ls []) := by
  have hX0 := hX
  obtain ⟨hC, hml, hr, hlk⟩ := hX0
  have hx := hC.1
  have hb := hC.2.1
  intro n
  induction n with
  | zero => intro S a0 x1 x2 x3 H locs ls hf; exact absurd hf (by intro h; cases h)
  | succ n ih =>
    intro S a0 x1 x2 x3 H locs ls hf h_a0 hP hS hl
    rw [P_X0_tire_L2] at hf
    refine lv_iload_n hx hb dX0_tire_2 rfl (lv_at hl 3 rfl) ?_
    refine lv_iconst (v := 4) hx hb dX0_tire_3 (by decide) ?_
    refine lv_icmp_ge (tgt := 69) hx hb dX0_tire_4 (by decide) (fun c5 => ?_) (fun c5 => ?_)
    · replace hf := ite_t c5 hf
      exact pg_vret hC hr hlk hP hS hf dX0_tire_69
    · replace hf := ite_f c5 hf
      refine lv_iload_n hx hb dX0_tire_7 rfl (lv_at hl 3 rfl) ?_
      refine lv_iload_n hx hb dX0_tire_8 rfl (lv_at hl 1 rfl) ?_
      refine lv_bipush (v := 10) hx hb dX0_tire_9 (by decide) ?_
      refine lv_idiv hx hb dX0_tire_11 (by decide) ?_
      refine lv_icmp_eq (tgt := 23) hx hb dX0_tire_12 (by decide) (fun c6 => ?_) (fun c6 => ?_)
      · replace hf := ite_t c6 hf
        exact w_X0_tire_L23 hX ih _ _ _ _ _ _ _ _ hf h_a0 hP hS (lv_sub hl [0, 1, 2, 3] rfl)
      · replace hf := ite_f c6 hf
        refine lv_iload_n hx hb dX0_tire_15 rfl (lv_at hl 3 rfl) ?_
        refine lv_iload_n hx hb dX0_tire_16 rfl (lv_at hl 1 rfl) ?_
        refine lv_bipush (v := 10) hx hb dX0_tire_17 (by decide) ?_
        refine lv_irem hx hb dX0_tire_19 (by decide) ?_
        refine lv_icmp_ne (tgt := 45) hx hb dX0_tire_20 (by decide) (fun c7 => ?_) (fun c7 => ?_)
        · replace hf := ite_f c7 hf
          refine lv_aload_n hx hb dX0_tire_45 rfl (lv_at hl 0 rfl) ?_
          refine gf_X0_15 hC hP h_a0 (v := .ref (ad (a0 + 1))) rfl dX0_tire_46 ?_
          refine lv_iload_n hx hb dX0_tire_49 rfl (lv_at hl 3 rfl) ?_
          refine lv_aload_n hx hb dX0_tire_50 rfl (lv_at hl 0 rfl) ?_
          refine gf_X0_15 hC hP h_a0 (v := .ref (ad (a0 + 1))) rfl dX0_tire_51 ?_
          refine lv_iload_n hx hb dX0_tire_54 rfl (lv_at hl 3 rfl) ?_
          obtain ⟨h8, hf⟩ := gd_some hf
          refine pg_iald hC hP (ko_0_1 h_a0) (bin_in h8) dX0_tire_55 ?_
          refine lv_iload_n hx hb dX0_tire_56 rfl (lv_at hl 2 rfl) ?_
          refine lv_isub hx hb dX0_tire_57 ?_
          refine lv_iconst (v := 0) hx hb dX0_tire_58 (by decide) ?_
          refine pg_max hC (hml.trans hl.1.symm) ⟨by decide, by decide, rfl, rfl⟩ ⟨rfl, rfl⟩ kl_X0_67 (Nat.le_of_ble_eq_true rfl) dX0_tire_59 ?_
          obtain ⟨h9, hf⟩ := gd_some hf
          obtain ⟨S10, eS10, hf⟩ := bnd_some hf
          refine pg_iast hC hP hS (ko_0_1 h_a0) (bin_in h9) dX0_tire_62 (fun H locs hP hS => ?_)
          rw [← eS10] at hP
          obtain ⟨v11, ev11, hf⟩ := bnd_some hf
          refine lv_iinc (v := v11) (lv' := [(3, .int v11), (0, .ref (ad a0)), (1, .int x1), (2, .int x2)]) hx hb dX0_tire_63 hl (k := 3) rfl (by rw [ev11]; rfl) (by decide) rfl (fun ls hl => ?_)
          refine lv_goto (tgt := 2) hx hb dX0_tire_66 (by decide) ?_
          exact ih _ _ _ _ _ _ _ _ hf h_a0 hP hS (lv_sub hl [1, 2, 3, 0] rfl)
        · replace hf := ite_t c7 hf
          exact w_X0_tire_L23 hX ih _ _ _ _ _ _ _ _ hf h_a0 hP hS (lv_sub hl [0, 1, 2, 3] rfl)
def P_X0_tire (N : Nat) (S : PSt) (a0 : Nat) (x1 : Int32) (x2 : Int32) : Option PSt := P_X0_tire_L2 N N S a0 x1 x2 (0 : Int32)
set_option maxHeartbeats 4000000 in
set_option maxRecDepth 100000 in
theorem c_X0_tire (l : Launch) {D : va_G} {cy : Nat → ClassId} {ad tb : Nat → Nat} (hJ : pJ ad) {N : Nat} {S S' : PSt} {a0 : Nat} {x1 : Int32} {x2 : Int32} (hf : P_X0_tire N S a0 x1 x2 = some S') (h_a0 : kd a0 = 0) : Ct l 1 yX0_tire cX0_tire 4 none D cy ad tb S S' [.ref (ad a0), .int x1, .int x2] none := by
  refine Ct_of hJ (by decide) (Nat.le_of_ble_eq_true rfl) (fun p e s m below meth c ls hX hP hS hl => ?_)
  have hl : lv_has ls 4 [(0, .ref (ad a0)), (1, .int x1), (2, .int x2)] := hl
  have hX0 := hX
  obtain ⟨hC, hml, hr, hlk⟩ := hX0
  have hx := hC.1
  have hb := hC.2.1
  unfold P_X0_tire at hf
  refine lv_iconst (v := 0) hx hb dX0_tire_0 (by decide) ?_
  refine lv_istore_n (lv' := [(3, .int (0 : Int32)), (0, .ref (ad a0)), (1, .int x1), (2, .int x2)]) hx hb dX0_tire_1 rfl hl (by decide) rfl (fun ls hl => ?_)
  exact w_X0_tire_L2 hX _ _ _ _ _ _ _ _ _ hf h_a0 hP hS (lv_sub hl [1, 2, 3, 0] rfl)
def P_X0_walkOn (N : Nat) (S : PSt) (a0 : Nat) (a1 : Nat) (x2 : Int32) (x3 : Int32) : Option PSt := if (gI S 401 a1) ≤ (gI S 0 a0) then (some S) else (bnd (sI S 1 a0 x3) fun S2 => gd (bin (gI S2 0 a0) (ln (a1 + 3))) <| cal1 (P_X0_tire N S2 a0 x2 (gA S2 (a1 + 3) (gI S2 0 a0).toNatClampNeg)) fun S4 => bnd (sI S4 2 a0 x2) fun S6 => bnd (sI S6 0 a0 ((gI S6 0 a0) + (1 : Int32))) fun S7 => some S7)
set_option maxHeartbeats 4000000 in
set_option maxRecDepth 100000 in
theorem c_X0_walkOn (l : Launch) {D : va_G} {cy : Nat → ClassId} {ad tb : Nat → Nat} (hJ : pJ ad) {N : Nat} {S S' : PSt} {a0 : Nat} {a1 : Nat} {x2 : Int32} {x3 : Int32} (hf : P_X0_walkOn N S a0 a1 x2 x3 = some S') (h_a0 : kd a0 = 0) (h_a1 : kd a1 = 4) : Ct l 2 yX0_walkOn cX0_walkOn 4 none D cy ad tb S S' [.ref (ad a0), .ref (ad a1), .int x2, .int x3] none := by
  refine Ct_of hJ (by decide) (Nat.le_of_ble_eq_true rfl) (fun p e s m below meth c ls hX hP hS hl => ?_)
  have hl : lv_has ls 4 [(0, .ref (ad a0)), (1, .ref (ad a1)), (2, .int x2), (3, .int x3)] := hl
  have hX0 := hX
  obtain ⟨hC, hml, hr, hlk⟩ := hX0
  have hx := hC.1
  have hb := hC.2.1
  unfold P_X0_walkOn at hf
  refine lv_aload_n hx hb dX0_walkOn_0 rfl (lv_at hl 0 rfl) ?_
  refine gf_X0_19 hC hP h_a0 (v := .int (gI S 0 a0)) rfl dX0_walkOn_1 ?_
  refine lv_aload_n hx hb dX0_walkOn_4 rfl (lv_at hl 1 rfl) ?_
  refine gf_X0_55 hC hP h_a1 (v := .int (gI S 401 a1)) rfl dX0_walkOn_5 ?_
  refine lv_icmp_ge (tgt := 45) hx hb dX0_walkOn_8 (by decide) (fun c1 => ?_) (fun c1 => ?_)
  · replace hf := ite_t c1 hf
    exact pg_vret hC hr hlk hP hS hf dX0_walkOn_45
  · replace hf := ite_f c1 hf
    refine lv_aload_n hx hb dX0_walkOn_11 rfl (lv_at hl 0 rfl) ?_
    refine lv_iload_n hx hb dX0_walkOn_12 rfl (lv_at hl 3 rfl) ?_
    obtain ⟨S2, eS2, hf⟩ := bnd_some hf
    refine pf_X0_22 hC hP hS h_a0 eS2 dX0_walkOn_13 (fun H locs hP hS => ?_)
    refine lv_aload_n hx hb dX0_walkOn_16 rfl (lv_at hl 0 rfl) ?_
    refine lv_iload_n hx hb dX0_walkOn_17 rfl (lv_at hl 2 rfl) ?_
    refine lv_aload_n hx hb dX0_walkOn_18 rfl (lv_at hl 1 rfl) ?_
    refine gf_X0_37 hC hP h_a1 (v := .ref (ad (a1 + 3))) rfl dX0_walkOn_19 ?_
    refine lv_aload_n hx hb dX0_walkOn_22 rfl (lv_at hl 0 rfl) ?_
    refine gf_X0_19 hC hP h_a0 (v := .int (gI S2 0 a0)) rfl dX0_walkOn_23 ?_
    obtain ⟨h3, hf⟩ := gd_some hf
    refine pg_iald hC hP (ko_4_3 h_a1) (bin_in h3) dX0_walkOn_26 ?_
    obtain ⟨S4, q5, hf⟩ := cal1_some hf
    refine pg_callV (As := [.int x2, .int (gA S2 (a1 + 3) (gI S2 0 a0).toNatClampNeg)]) (rest := []) (st1 := []) (ci := 0) hC hml hP hS (c_X0_tire l hC.2.2.2.2.2.1 q5 h_a0) ⟨by decide, by decide, rfl, rfl⟩ ⟨rfl, rfl⟩ (by decide) rfl (by decide) h_a0 rfl rfl ⟨mk_X0_58, mi_X0_tire⟩ hd_X0_tire rfl hl.1 (Nat.le_of_ble_eq_true rfl) dX0_walkOn_27 (fun H locs hP hS => ?_)
    refine lv_aload_n hx hb dX0_walkOn_30 rfl (lv_at hl 0 rfl) ?_
    refine lv_iload_n hx hb dX0_walkOn_31 rfl (lv_at hl 2 rfl) ?_
    obtain ⟨S6, eS6, hf⟩ := bnd_some hf
    refine pf_X0_9 hC hP hS h_a0 eS6 dX0_walkOn_32 (fun H locs hP hS => ?_)
    refine lv_aload_n hx hb dX0_walkOn_35 rfl (lv_at hl 0 rfl) ?_
    refine lv_dup hx hb dX0_walkOn_36 rfl ?_
    refine gf_X0_19 hC hP h_a0 (v := .int (gI S6 0 a0)) rfl dX0_walkOn_37 ?_
    refine lv_iconst (v := 1) hx hb dX0_walkOn_40 (by decide) ?_
    refine lv_iadd hx hb dX0_walkOn_41 ?_
    obtain ⟨S7, eS7, hf⟩ := bnd_some hf
    refine pf_X0_19 hC hP hS h_a0 eS7 dX0_walkOn_42 (fun H locs hP hS => ?_)
    exact pg_vret hC hr hlk hP hS hf dX0_walkOn_45
def P_X0_ease_L2 (N : Nat) : Nat → PSt → Nat → Int32 → Int32 → Option PSt
  | 0 => fun _ _ _ _ => none
  | n + 1 => fun S a0 x1 x2 => if (4 : Int32) ≤ x2 then (some S) else (gd (bin x2 (ln (a0 + 1))) <| gd (bin x2 (ln (a0 + 1))) <| bnd (sA S (a0 + 1) x2.toNatClampNeg (if ((gA S (a0 + 1) x2.toNatClampNeg) - x1) < (0 : Int32) then (0 : Int32) else ((gA S (a0 + 1) x2.toNatClampNeg) - x1))) fun S4 => bnd (x2 + (1 : Int32)) fun v5 => P_X0_ease_L2 N n S4 a0 x1 v5)
set_option maxHeartbeats 4000000 in
set_option maxRecDepth 100000 in
theorem w_X0_ease_L2 {N : Nat} {S' : PSt} (hX : Mx p s m args c meth cX0_ease RX0 3 none D cy ad tb) : ∀ (n : Nat), ∀ (S : PSt) (a0 : Nat) (x1 : Int32) (x2 : Int32) (H : Heap) (locs : List Loc) (ls : Array Slot), P_X0_ease_L2 N n S a0 x1 x2 = some S' → kd a0 = 0 → va_P D vwCl (pW cy ad S) H → va_S (pA ad s.heap.size) s.heap H locs → lv_has ls 3 [(0, .ref (ad a0)), (1, .int x1), (2, .int x2)] → W p l e (rmd 1) s m args below meth c H locs 0 0 (Qz D cy ad below args s S' none) (F0 m 2 ls []) := by
  have hX0 := hX
  obtain ⟨hC, hml, hr, hlk⟩ := hX0
  have hx := hC.1
  have hb := hC.2.1
  intro n
  induction n with
  | zero => intro S a0 x1 x2 H locs ls hf; exact absurd hf (by intro h; cases h)
  | succ n ih =>
    intro S a0 x1 x2 H locs ls hf h_a0 hP hS hl
    rw [P_X0_ease_L2] at hf
    refine lv_iload_n hx hb dX0_ease_2 rfl (lv_at hl 2 rfl) ?_
    refine lv_iconst (v := 4) hx hb dX0_ease_3 (by decide) ?_
    refine lv_icmp_ge (tgt := 31) hx hb dX0_ease_4 (by decide) (fun c1 => ?_) (fun c1 => ?_)
    · replace hf := ite_t c1 hf
      exact pg_vret hC hr hlk hP hS hf dX0_ease_31
    · replace hf := ite_f c1 hf
      refine lv_aload_n hx hb dX0_ease_7 rfl (lv_at hl 0 rfl) ?_
      refine gf_X0_15 hC hP h_a0 (v := .ref (ad (a0 + 1))) rfl dX0_ease_8 ?_
      refine lv_iload_n hx hb dX0_ease_11 rfl (lv_at hl 2 rfl) ?_
      refine lv_aload_n hx hb dX0_ease_12 rfl (lv_at hl 0 rfl) ?_
      refine gf_X0_15 hC hP h_a0 (v := .ref (ad (a0 + 1))) rfl dX0_ease_13 ?_
      refine lv_iload_n hx hb dX0_ease_16 rfl (lv_at hl 2 rfl) ?_
      obtain ⟨h2, hf⟩ := gd_some hf
      refine pg_iald hC hP (ko_0_1 h_a0) (bin_in h2) dX0_ease_17 ?_
      refine lv_iload_n hx hb dX0_ease_18 rfl (lv_at hl 1 rfl) ?_
      refine lv_isub hx hb dX0_ease_19 ?_
      refine lv_iconst (v := 0) hx hb dX0_ease_20 (by decide) ?_
      refine pg_max hC (hml.trans hl.1.symm) ⟨by decide, by decide, rfl, rfl⟩ ⟨rfl, rfl⟩ kl_X0_67 (Nat.le_of_ble_eq_true rfl) dX0_ease_21 ?_
      obtain ⟨h3, hf⟩ := gd_some hf
      obtain ⟨S4, eS4, hf⟩ := bnd_some hf
      refine pg_iast hC hP hS (ko_0_1 h_a0) (bin_in h3) dX0_ease_24 (fun H locs hP hS => ?_)
      rw [← eS4] at hP
      obtain ⟨v5, ev5, hf⟩ := bnd_some hf
      refine lv_iinc (v := v5) (lv' := [(2, .int v5), (0, .ref (ad a0)), (1, .int x1)]) hx hb dX0_ease_25 hl (k := 2) rfl (by rw [ev5]; rfl) (by decide) rfl (fun ls hl => ?_)
      refine lv_goto (tgt := 2) hx hb dX0_ease_28 (by decide) ?_
      exact ih _ _ _ _ _ _ _ hf h_a0 hP hS (lv_sub hl [1, 2, 0] rfl)
def P_X0_ease (N : Nat) (S : PSt) (a0 : Nat) (x1 : Int32) : Option PSt := P_X0_ease_L2 N N S a0 x1 (0 : Int32)
set_option maxHeartbeats 4000000 in
set_option maxRecDepth 100000 in
theorem c_X0_ease (l : Launch) {D : va_G} {cy : Nat → ClassId} {ad tb : Nat → Nat} (hJ : pJ ad) {N : Nat} {S S' : PSt} {a0 : Nat} {x1 : Int32} (hf : P_X0_ease N S a0 x1 = some S') (h_a0 : kd a0 = 0) : Ct l 1 yX0_ease cX0_ease 3 none D cy ad tb S S' [.ref (ad a0), .int x1] none := by
  refine Ct_of hJ (by decide) (Nat.le_of_ble_eq_true rfl) (fun p e s m below meth c ls hX hP hS hl => ?_)
  have hl : lv_has ls 3 [(0, .ref (ad a0)), (1, .int x1)] := hl
  have hX0 := hX
  obtain ⟨hC, hml, hr, hlk⟩ := hX0
  have hx := hC.1
  have hb := hC.2.1
  unfold P_X0_ease at hf
  refine lv_iconst (v := 0) hx hb dX0_ease_0 (by decide) ?_
  refine lv_istore_n (lv' := [(2, .int (0 : Int32)), (0, .ref (ad a0)), (1, .int x1)]) hx hb dX0_ease_1 rfl hl (by decide) rfl (fun ls hl => ?_)
  exact w_X0_ease_L2 hX _ _ _ _ _ _ _ _ hf h_a0 hP hS (lv_sub hl [1, 2, 0] rfl)
end GEN
