section GEN
variable {p : Program} {l : Launch} {e : Env} {s : State} {m : MethodId} {args : Array Value} {below : List Frame} {meth : Method} {c : Code} {D : va_G} {cy : Nat → ClassId} {ad tb : Nat → Nat}
def P_X6_type (N : Nat) (S : PSt) (x1 : Int32) : Option (Int32 × PSt) := if x1 < (0 : Int32) then (some ((-1 : Int32), S)) else (if x1 ≤ (255 : Int32) then (if (gI S 200 1) < (200 : Int32) then (gd (bin (gI S 200 1) (ln 2)) <| bnd (sA S 2 (gI S 200 1).toNatClampNeg x1) fun S5 => bnd (sI S5 200 1 ((gI S5 200 1) + (1 : Int32))) fun S6 => some ((gI S6 200 1), S6)) else (some ((-3 : Int32), S))) else (some ((-1 : Int32), S)))
set_option maxHeartbeats 4000000 in
set_option maxRecDepth 100000 in
theorem c_X6_type (l : Launch) {D : va_G} {cy : Nat → ClassId} {ad tb : Nat → Nat} (hJ : pJ ad) {N : Nat} {S S' : PSt} {x1 : Int32} {r : Int32} (hf : P_X6_type N S x1 = some (r, S')) : Ct l 1 yX6_type cX6_type 2 (some .int) D cy ad tb S S' [.ref (ad 0), .int x1] (some (.int r)) := by
  refine Ct_of hJ (by decide) (Nat.le_of_ble_eq_true rfl) (fun p e s m below meth c ls hX hP hS hl => ?_)
  have hl : lv_has ls 2 [(0, .ref (ad 0)), (1, .int x1)] := hl
  have hX0 := hX
  obtain ⟨hC, hml, hr, hlk⟩ := hX0
  have hx := hC.1
  have hb := hC.2.1
  unfold P_X6_type at hf
  refine lv_iload_n hx hb dX6_type_0 rfl (lv_at hl 1 rfl) ?_
  refine lv_if_lt (tgt := 11) hx hb dX6_type_1 (by decide) (fun c1 => ?_) (fun c1 => ?_)
  · replace hf := ite_t c1 hf
    refine lv_iconst (v := -1) hx hb dX6_type_11 (by decide) ?_
    exact pg_iret hC hr hlk hP hS hf dX6_type_12
  · replace hf := ite_f c1 hf
    refine lv_iload_n hx hb dX6_type_4 rfl (lv_at hl 1 rfl) ?_
    refine lv_sipush (v := 255) hx hb dX6_type_5 (by decide) ?_
    refine lv_icmp_le (tgt := 13) hx hb dX6_type_8 (by decide) (fun c2 => ?_) (fun c2 => ?_)
    · replace hf := ite_t c2 hf
      refine lv_aload_n hx hb dX6_type_13 rfl (lv_at hl 0 rfl) ?_
      refine gf_X6_10 hC hP k_0 (v := .ref (ad 1)) rfl dX6_type_14 ?_
      refine gf_X6_67 hC hP k_1 (v := .int (gI S 200 1)) rfl dX6_type_17 ?_
      refine lv_sipush (v := 200) hx hb dX6_type_20 (by decide) ?_
      refine lv_icmp_lt (tgt := 29) hx hb dX6_type_23 (by decide) (fun c3 => ?_) (fun c3 => ?_)
      · replace hf := ite_t c3 hf
        refine lv_aload_n hx hb dX6_type_29 rfl (lv_at hl 0 rfl) ?_
        refine gf_X6_10 hC hP k_0 (v := .ref (ad 1)) rfl dX6_type_30 ?_
        refine gf_X6_71 hC hP k_1 (v := .ref (ad 2)) rfl dX6_type_33 ?_
        refine lv_aload_n hx hb dX6_type_36 rfl (lv_at hl 0 rfl) ?_
        refine gf_X6_10 hC hP k_0 (v := .ref (ad 1)) rfl dX6_type_37 ?_
        refine gf_X6_67 hC hP k_1 (v := .int (gI S 200 1)) rfl dX6_type_40 ?_
        refine lv_iload_n hx hb dX6_type_43 rfl (lv_at hl 1 rfl) ?_
        obtain ⟨h4, hf⟩ := gd_some hf
        obtain ⟨S5, eS5, hf⟩ := bnd_some hf
        refine pg_iast hC hP hS k_2 (bin_in h4) dX6_type_44 (fun H locs hP hS => ?_)
        rw [← eS5] at hP
        refine lv_aload_n hx hb dX6_type_45 rfl (lv_at hl 0 rfl) ?_
        refine gf_X6_10 hC hP k_0 (v := .ref (ad 1)) rfl dX6_type_46 ?_
        refine lv_dup hx hb dX6_type_49 rfl ?_
        refine gf_X6_67 hC hP k_1 (v := .int (gI S5 200 1)) rfl dX6_type_50 ?_
        refine lv_iconst (v := 1) hx hb dX6_type_53 (by decide) ?_
        refine lv_iadd hx hb dX6_type_54 ?_
        obtain ⟨S6, eS6, hf⟩ := bnd_some hf
        refine pf_X6_67 hC hP hS k_1 eS6 dX6_type_55 (fun H locs hP hS => ?_)
        refine lv_aload_n hx hb dX6_type_58 rfl (lv_at hl 0 rfl) ?_
        refine gf_X6_10 hC hP k_0 (v := .ref (ad 1)) rfl dX6_type_59 ?_
        refine gf_X6_67 hC hP k_1 (v := .int (gI S6 200 1)) rfl dX6_type_62 ?_
        exact pg_iret hC hr hlk hP hS hf dX6_type_65
      · replace hf := ite_f c3 hf
        refine lv_bipush (v := -3) hx hb dX6_type_26 (by decide) ?_
        exact pg_iret hC hr hlk hP hS hf dX6_type_28
    · replace hf := ite_f c2 hf
      refine lv_iconst (v := -1) hx hb dX6_type_11 (by decide) ?_
      exact pg_iret hC hr hlk hP hS hf dX6_type_12
def P_X6_clear (N : Nat) (S : PSt) : Option (Int32 × PSt) := bnd (gI S 200 1) fun v1 => bnd (sI S 200 1 (0 : Int32)) fun S2 => some (v1, S2)
set_option maxHeartbeats 4000000 in
set_option maxRecDepth 100000 in
theorem c_X6_clear (l : Launch) {D : va_G} {cy : Nat → ClassId} {ad tb : Nat → Nat} (hJ : pJ ad) {N : Nat} {S S' : PSt} {r : Int32} (hf : P_X6_clear N S = some (r, S')) : Ct l 1 yX6_clear cX6_clear 2 (some .int) D cy ad tb S S' [.ref (ad 0)] (some (.int r)) := by
  refine Ct_of hJ (by decide) (Nat.le_of_ble_eq_true rfl) (fun p e s m below meth c ls hX hP hS hl => ?_)
  have hl : lv_has ls 2 [(0, .ref (ad 0))] := hl
  have hX0 := hX
  obtain ⟨hC, hml, hr, hlk⟩ := hX0
  have hx := hC.1
  have hb := hC.2.1
  unfold P_X6_clear at hf
  refine lv_aload_n hx hb dX6_clear_0 rfl (lv_at hl 0 rfl) ?_
  refine gf_X6_10 hC hP k_0 (v := .ref (ad 1)) rfl dX6_clear_1 ?_
  refine gf_X6_67 hC hP k_1 (v := .int (gI S 200 1)) rfl dX6_clear_4 ?_
  obtain ⟨v1, ev1, hf⟩ := bnd_some hf
  refine pg_top ev1 ?_
  refine lv_istore_n (lv' := [(1, .int v1), (0, .ref (ad 0))]) hx hb dX6_clear_7 rfl hl (by decide) rfl (fun ls hl => ?_)
  refine lv_aload_n hx hb dX6_clear_8 rfl (lv_at hl 1 rfl) ?_
  refine gf_X6_10 hC hP k_0 (v := .ref (ad 1)) rfl dX6_clear_9 ?_
  refine lv_iconst (v := 0) hx hb dX6_clear_12 (by decide) ?_
  obtain ⟨S2, eS2, hf⟩ := bnd_some hf
  refine pf_X6_67 hC hP hS k_1 eS2 dX6_clear_13 (fun H locs hP hS => ?_)
  refine lv_iload_n hx hb dX6_clear_16 rfl (lv_at hl 0 rfl) ?_
  exact pg_iret hC hr hlk hP hS hf dX6_clear_17
def P_X6_moved (N : Nat) (S : PSt) : Option PSt := bnd (sI S 100 120 (0 : Int32)) fun S1 => bnd (sI S1 100 138 (0 : Int32)) fun S2 => some S2
set_option maxHeartbeats 4000000 in
set_option maxRecDepth 100000 in
theorem c_X6_moved (l : Launch) {D : va_G} {cy : Nat → ClassId} {ad tb : Nat → Nat} (hJ : pJ ad) {N : Nat} {S S' : PSt} (hf : P_X6_moved N S = some S') : Ct l 1 yX6_moved cX6_moved 1 none D cy ad tb S S' [.ref (ad 0)] none := by
  refine Ct_of hJ (by decide) (Nat.le_of_ble_eq_true rfl) (fun p e s m below meth c ls hX hP hS hl => ?_)
  have hl : lv_has ls 1 [(0, .ref (ad 0))] := hl
  have hX0 := hX
  obtain ⟨hC, hml, hr, hlk⟩ := hX0
  have hx := hC.1
  have hb := hC.2.1
  unfold P_X6_moved at hf
  refine lv_aload_n hx hb dX6_moved_0 rfl (lv_at hl 0 rfl) ?_
  refine gf_X6_53 hC hP k_0 (v := .ref (ad 120)) rfl dX6_moved_1 ?_
  refine lv_iconst (v := 0) hx hb dX6_moved_4 (by decide) ?_
  obtain ⟨S1, eS1, hf⟩ := bnd_some hf
  refine pf_X6_179 hC hP hS k_120 (by decide) eS1 dX6_moved_5 (fun H locs hP hS => ?_)
  refine lv_aload_n hx hb dX6_moved_8 rfl (lv_at hl 0 rfl) ?_
  refine gf_X6_57 hC hP k_0 (v := .ref (ad 138)) rfl dX6_moved_9 ?_
  refine lv_iconst (v := 0) hx hb dX6_moved_12 (by decide) ?_
  obtain ⟨S2, eS2, hf⟩ := bnd_some hf
  refine pf_X6_179 hC hP hS k_138 (by decide) eS2 dX6_moved_13 (fun H locs hP hS => ?_)
  exact pg_vret hC hr hlk hP hS hf dX6_moved_16
def P_X6_tunnel_L53 (N : Nat) : Nat → PSt → Int32 → Int32 → Option (Int32 × PSt)
  | 0 => fun _ _ _ => none
  | n + 1 => fun S x1 x3 => if (2 : Int32) ≤ x3 then (bnd (sI S 300 98 (0 : Int32)) fun S2 => bnd (sI S2 301 98 (0 : Int32)) fun S3 => cal1 (P_X6_moved N S3) fun S4 => some (x1, S4)) else (gd (bin x3 (ln 97)) <| bnd (sA S 97 x3.toNatClampNeg (vp_nar .boolean (0 : Int32))) fun S7 => bnd (x3 + (1 : Int32)) fun v8 => P_X6_tunnel_L53 N n S7 x1 v8)
set_option maxHeartbeats 4000000 in
set_option maxRecDepth 100000 in
theorem w_X6_tunnel_L53 {N : Nat} {S' : PSt} {r : Int32} (hX : Mx p s m args c meth cX6_tunnel RX6 4 (some .int) D cy ad tb) : ∀ (n : Nat), ∀ (S : PSt) (x1 : Int32) (x3 : Int32) (H : Heap) (locs : List Loc) (ls : Array Slot), P_X6_tunnel_L53 N n S x1 x3 = some (r, S') → va_P D vwCl (pW cy ad S) H → va_S (pA ad s.heap.size) s.heap H locs → lv_has ls 4 [(0, .ref (ad 0)), (1, .int x1), (3, .int x3)] → W p l e (rmd 7) s m args below meth c H locs 0 0 (Qz D cy ad below args s S' (some (.int r))) (F0 m 53 ls []) := by
  have hX0 := hX
  obtain ⟨hC, hml, hr, hlk⟩ := hX0
  have hx := hC.1
  have hb := hC.2.1
  intro n
  induction n with
  | zero => intro S x1 x3 H locs ls hf; exact absurd hf (by intro h; cases h)
  | succ n ih =>
    intro S x1 x3 H locs ls hf  hP hS hl
    rw [P_X6_tunnel_L53] at hf
    refine lv_iload_n hx hb dX6_tunnel_53 rfl (lv_at hl 2 rfl) ?_
    refine lv_iconst (v := 2) hx hb dX6_tunnel_54 (by decide) ?_
    refine lv_icmp_ge (tgt := 71) hx hb dX6_tunnel_55 (by decide) (fun c1 => ?_) (fun c1 => ?_)
    · replace hf := ite_t c1 hf
      refine lv_aload_n hx hb dX6_tunnel_71 rfl (lv_at hl 0 rfl) ?_
      refine gf_X6_44 hC hP k_0 (v := .ref (ad 98)) rfl dX6_tunnel_72 ?_
      refine lv_iconst (v := 0) hx hb dX6_tunnel_75 (by decide) ?_
      obtain ⟨S2, eS2, hf⟩ := bnd_some hf
      refine pf_X6_82 hC hP hS k_98 eS2 dX6_tunnel_76 (fun H locs hP hS => ?_)
      refine lv_aload_n hx hb dX6_tunnel_79 rfl (lv_at hl 0 rfl) ?_
      refine gf_X6_44 hC hP k_0 (v := .ref (ad 98)) rfl dX6_tunnel_80 ?_
      refine lv_iconst (v := 0) hx hb dX6_tunnel_83 (by decide) ?_
      obtain ⟨S3, eS3, hf⟩ := bnd_some hf
      refine pf_X6_83 hC hP hS k_98 (by decide) eS3 dX6_tunnel_84 (fun H locs hP hS => ?_)
      refine lv_aload_n hx hb dX6_tunnel_87 rfl (lv_at hl 0 rfl) ?_
      obtain ⟨S4, q5, hf⟩ := cal1_some hf
      refine pg_callV (As := []) (rest := []) (st1 := []) (ci := 6) hC hml hP hS (c_X6_moved l hC.2.2.2.2.2.1 q5) ⟨by decide, by decide, rfl, rfl⟩ ⟨rfl, rfl⟩ (by decide) rfl (by decide) k_0 rfl rfl ⟨mk_X6_87, mi_X6_moved⟩ hd_X6_moved rfl hl.1 (Nat.le_of_ble_eq_true rfl) dX6_tunnel_88 (fun H locs hP hS => ?_)
      refine lv_iload_n hx hb dX6_tunnel_91 rfl (lv_at hl 1 rfl) ?_
      exact pg_iret hC hr hlk hP hS hf dX6_tunnel_92
    · replace hf := ite_f c1 hf
      refine lv_aload_n hx hb dX6_tunnel_58 rfl (lv_at hl 0 rfl) ?_
      refine gf_X6_37 hC hP k_0 (v := .ref (ad 97)) rfl dX6_tunnel_59 ?_
      refine lv_iload_n hx hb dX6_tunnel_62 rfl (lv_at hl 2 rfl) ?_
      refine lv_iconst (v := 0) hx hb dX6_tunnel_63 (by decide) ?_
      obtain ⟨h6, hf⟩ := gd_some hf
      obtain ⟨S7, eS7, hf⟩ := bnd_some hf
      refine pg_zast hC hP hS k_97 (bin_in h6) dX6_tunnel_64 (fun H locs hP hS => ?_)
      rw [← eS7] at hP
      obtain ⟨v8, ev8, hf⟩ := bnd_some hf
      refine lv_iinc (v := v8) (lv' := [(3, .int v8), (0, .ref (ad 0)), (1, .int x1)]) hx hb dX6_tunnel_65 hl (k := 2) rfl (by rw [ev8]; rfl) (by decide) rfl (fun ls hl => ?_)
      refine lv_goto (tgt := 53) hx hb dX6_tunnel_68 (by decide) ?_
      exact ih _ _ _ _ _ _ hf  hP hS (lv_sub hl [1, 2, 0] rfl)
def P_X6_tunnel (N : Nat) (S : PSt) : Option (Int32 × PSt) := bnd (gR S 602 0) fun t9 => gd (isk t9 4) <| cal2 (P_X2_readInto N S t9) fun r13 S11 => if (0 : Int32) ≤ r13 then (bnd (gR S11 601 0) fun t15 => gd (isk t15 4) <| bnd (gR S11 602 0) fun t17 => gd (isk t17 4) <| bnd (sR S11 601 0 t17) fun S19 => bnd (sR S19 602 0 t15) fun S20 => bnd (sI S20 200 1 (0 : Int32)) fun S21 => cal1 (P_X5_restart N S21 24) fun S22 => P_X6_tunnel_L53 N N S22 r13 (0 : Int32)) else (some (r13, S11))
set_option maxHeartbeats 4000000 in
set_option maxRecDepth 100000 in
theorem c_X6_tunnel (l : Launch) {D : va_G} {cy : Nat → ClassId} {ad tb : Nat → Nat} (hJ : pJ ad) {N : Nat} {S S' : PSt} {r : Int32} (hf : P_X6_tunnel N S = some (r, S')) : Ct l 7 yX6_tunnel cX6_tunnel 4 (some .int) D cy ad tb S S' [.ref (ad 0)] (some (.int r)) := by
  refine Ct_of hJ (by decide) (Nat.le_of_ble_eq_true rfl) (fun p e s m below meth c ls hX hP hS hl => ?_)
  have hl : lv_has ls 4 [(0, .ref (ad 0))] := hl
  have hX0 := hX
  obtain ⟨hC, hml, hr, hlk⟩ := hX0
  have hx := hC.1
  have hb := hC.2.1
  unfold P_X6_tunnel at hf
  refine lv_aload_n hx hb dX6_tunnel_0 rfl (lv_at hl 0 rfl) ?_
  refine gf_X6_10 hC hP k_0 (v := .ref (ad 1)) rfl dX6_tunnel_1 ?_
  refine lv_aload_n hx hb dX6_tunnel_4 rfl (lv_at hl 0 rfl) ?_
  obtain ⟨t9, et9, hf⟩ := bnd_some hf
  obtain ⟨h10, hf⟩ := gd_some hf
  have h_t9 := isk_eq h10
  refine gf_X6_23 hC hP k_0 (v := .ref (ad t9)) (by rw [et9]) dX6_tunnel_5 ?_
  obtain ⟨r13, S11, q12, hf⟩ := cal2_some hf
  refine pg_callV (As := [.ref (ad t9)]) (rest := []) (st1 := [.int r13]) (ci := 2) hC hml hP hS (c_X2_readInto l hC.2.2.2.2.2.1 q12 h_t9) ⟨by decide, by decide, rfl, rfl⟩ ⟨rfl, rfl⟩ (by decide) rfl (by decide) k_1 rfl rfl ⟨mk_X6_75, mi_X2_readInto⟩ hd_X2_readInto rfl hl.1 (Nat.le_of_ble_eq_true rfl) dX6_tunnel_8 (fun H locs hP hS => ?_)
  refine lv_istore_n (lv' := [(1, .int r13), (0, .ref (ad 0))]) hx hb dX6_tunnel_11 rfl hl (by decide) rfl (fun ls hl => ?_)
  refine lv_iload_n hx hb dX6_tunnel_12 rfl (lv_at hl 0 rfl) ?_
  refine lv_if_ge (tgt := 18) hx hb dX6_tunnel_13 (by decide) (fun c14 => ?_) (fun c14 => ?_)
  · replace hf := ite_t c14 hf
    refine lv_aload_n hx hb dX6_tunnel_18 rfl (lv_at hl 1 rfl) ?_
    obtain ⟨t15, et15, hf⟩ := bnd_some hf
    obtain ⟨h16, hf⟩ := gd_some hf
    have h_t15 := isk_eq h16
    refine gf_X6_19 hC hP k_0 (v := .ref (ad t15)) (by rw [et15]) dX6_tunnel_19 ?_
    refine lv_astore_n (lv' := [(2, .ref (ad t15)), (1, .int r13), (0, .ref (ad 0))]) hx hb dX6_tunnel_22 rfl hl (by decide) rfl (fun ls hl => ?_)
    refine lv_aload_n hx hb dX6_tunnel_23 rfl (lv_at hl 2 rfl) ?_
    refine lv_aload_n hx hb dX6_tunnel_24 rfl (lv_at hl 2 rfl) ?_
    obtain ⟨t17, et17, hf⟩ := bnd_some hf
    obtain ⟨h18, hf⟩ := gd_some hf
    have h_t17 := isk_eq h18
    refine gf_X6_23 hC hP k_0 (v := .ref (ad t17)) (by rw [et17]) dX6_tunnel_25 ?_
    obtain ⟨S19, eS19, hf⟩ := bnd_some hf
    refine pf_X6_19 hC hP hS k_0 eS19 dX6_tunnel_28 (fun H locs hP hS => ?_)
    refine lv_aload_n hx hb dX6_tunnel_31 rfl (lv_at hl 2 rfl) ?_
    refine lv_aload_n hx hb dX6_tunnel_32 rfl (lv_at hl 0 rfl) ?_
    obtain ⟨S20, eS20, hf⟩ := bnd_some hf
    refine pf_X6_23 hC hP hS k_0 eS20 dX6_tunnel_33 (fun H locs hP hS => ?_)
    refine lv_aload_n hx hb dX6_tunnel_36 rfl (lv_at hl 2 rfl) ?_
    refine gf_X6_10 hC hP k_0 (v := .ref (ad 1)) rfl dX6_tunnel_37 ?_
    refine lv_iconst (v := 0) hx hb dX6_tunnel_40 (by decide) ?_
    obtain ⟨S21, eS21, hf⟩ := bnd_some hf
    refine pf_X6_67 hC hP hS k_1 eS21 dX6_tunnel_41 (fun H locs hP hS => ?_)
    refine lv_aload_n hx hb dX6_tunnel_44 rfl (lv_at hl 2 rfl) ?_
    refine gf_X6_29 hC hP k_0 (v := .ref (ad 24)) rfl dX6_tunnel_45 ?_
    obtain ⟨S22, q23, hf⟩ := cal1_some hf
    refine pg_callV (As := []) (rest := []) (st1 := []) (ci := 5) hC hml hP hS (c_X5_restart l hC.2.2.2.2.2.1 q23 k_24) ⟨by decide, by decide, rfl, rfl⟩ ⟨rfl, rfl⟩ (by decide) rfl (by decide) k_24 rfl rfl ⟨mk_X6_79, mi_X5_restart⟩ hd_X5_restart rfl hl.1 (Nat.le_of_ble_eq_true rfl) dX6_tunnel_48 (fun H locs hP hS => ?_)
    refine lv_iconst (v := 0) hx hb dX6_tunnel_51 (by decide) ?_
    refine lv_istore_n (lv' := [(3, .int (0 : Int32)), (2, .ref (ad t15)), (1, .int r13), (0, .ref (ad 0))]) hx hb dX6_tunnel_52 rfl hl (by decide) rfl (fun ls hl => ?_)
    exact w_X6_tunnel_L53 hX _ _ _ _ _ _ _ hf  hP hS (lv_sub hl [3, 2, 0] rfl)
  · replace hf := ite_f c14 hf
    refine lv_iload_n hx hb dX6_tunnel_16 rfl (lv_at hl 0 rfl) ?_
    exact pg_iret hC hr hlk hP hS hf dX6_tunnel_17
def P_X6_walker (N : Nat) (S : PSt) (x1 : Int32) (x2 : Int32) : Option (Int32 × PSt) := if x1 < (0 : Int32) then (some ((-1 : Int32), S)) else (bnd (gR S 601 0) fun t2 => gd (isk t2 4) <| if x1 < (gI S 400 t2) then (if x2 = (0 : Int32) then (bnd (gR S 601 0) fun t6 => gd (isk t6 4) <| gd (bin x1 (ln (t6 + 1))) <| some ((gA S (t6 + 1) x1.toNatClampNeg), S)) else (if x2 = (1 : Int32) then (bnd (gR S 601 0) fun t10 => gd (isk t10 4) <| gd (bin x1 (ln (t10 + 2))) <| some ((gA S (t10 + 2) x1.toNatClampNeg), S)) else (if x2 = (2 : Int32) then (gd (bin x1 (ln 26)) <| some ((gA S 26 x1.toNatClampNeg), S)) else (if x2 = (3 : Int32) then (bnd (gR S 601 0) fun t16 => gd (isk t16 4) <| cal2 (P_X0_isWorn N S 25 t16 x1) fun r20 S18 => if r20 = (0 : Int32) then (some ((0 : Int32), S18)) else (some ((1 : Int32), S18))) else (some ((-1 : Int32), S)))))) else (some ((-1 : Int32), S)))
set_option maxHeartbeats 4000000 in
set_option maxRecDepth 100000 in
theorem c_X6_walker (l : Launch) {D : va_G} {cy : Nat → ClassId} {ad tb : Nat → Nat} (hJ : pJ ad) {N : Nat} {S S' : PSt} {x1 : Int32} {x2 : Int32} {r : Int32} (hf : P_X6_walker N S x1 x2 = some (r, S')) : Ct l 2 yX6_walker cX6_walker 3 (some .int) D cy ad tb S S' [.ref (ad 0), .int x1, .int x2] (some (.int r)) := by
  refine Ct_of hJ (by decide) (Nat.le_of_ble_eq_true rfl) (fun p e s m below meth c ls hX hP hS hl => ?_)
  have hl : lv_has ls 3 [(0, .ref (ad 0)), (1, .int x1), (2, .int x2)] := hl
  have hX0 := hX
  obtain ⟨hC, hml, hr, hlk⟩ := hX0
  have hx := hC.1
  have hb := hC.2.1
  unfold P_X6_walker at hf
  refine lv_iload_n hx hb dX6_walker_0 rfl (lv_at hl 1 rfl) ?_
  refine lv_if_lt (tgt := 15) hx hb dX6_walker_1 (by decide) (fun c1 => ?_) (fun c1 => ?_)
  · replace hf := ite_t c1 hf
    refine lv_iconst (v := -1) hx hb dX6_walker_15 (by decide) ?_
    exact pg_iret hC hr hlk hP hS hf dX6_walker_16
  · replace hf := ite_f c1 hf
    refine lv_iload_n hx hb dX6_walker_4 rfl (lv_at hl 1 rfl) ?_
    refine lv_aload_n hx hb dX6_walker_5 rfl (lv_at hl 0 rfl) ?_
    obtain ⟨t2, et2, hf⟩ := bnd_some hf
    obtain ⟨h3, hf⟩ := gd_some hf
    have h_t2 := isk_eq h3
    refine gf_X6_19 hC hP k_0 (v := .ref (ad t2)) (by rw [et2]) dX6_walker_6 ?_
    refine gf_X6_90 hC hP h_t2 (v := .int (gI S 400 t2)) rfl dX6_walker_9 ?_
    refine lv_icmp_lt (tgt := 17) hx hb dX6_walker_12 (by decide) (fun c4 => ?_) (fun c4 => ?_)
    · replace hf := ite_t c4 hf
      refine lv_iload_n hx hb dX6_walker_17 rfl (lv_at hl 2 rfl) ?_
      by_cases c5 : x2 = (0 : Int32)
      · replace hf := ite_t c5 hf
        refine lv_tableIn (off := 30) (tgt := 48) hx hb dX6_walker_18 (by rw [c5]; decide) (by rw [c5]; decide) (by rw [c5]; decide) (by decide) ?_
        refine lv_aload_n hx hb dX6_walker_48 rfl (lv_at hl 0 rfl) ?_
        obtain ⟨t6, et6, hf⟩ := bnd_some hf
        obtain ⟨h7, hf⟩ := gd_some hf
        have h_t6 := isk_eq h7
        refine gf_X6_19 hC hP k_0 (v := .ref (ad t6)) (by rw [et6]) dX6_walker_49 ?_
        refine gf_X6_93 hC hP h_t6 (v := .ref (ad (t6 + 1))) rfl dX6_walker_52 ?_
        refine lv_iload_n hx hb dX6_walker_55 rfl (lv_at hl 1 rfl) ?_
        obtain ⟨h8, hf⟩ := gd_some hf
        refine pg_iald hC hP (ko_4_1 h_t6) (bin_in h8) dX6_walker_56 ?_
        exact pg_iret hC hr hlk hP hS hf dX6_walker_57
      · replace hf := ite_f c5 hf
        by_cases c9 : x2 = (1 : Int32)
        · replace hf := ite_t c9 hf
          refine lv_tableIn (off := 40) (tgt := 58) hx hb dX6_walker_18 (by rw [c9]; decide) (by rw [c9]; decide) (by rw [c9]; decide) (by decide) ?_
          refine lv_aload_n hx hb dX6_walker_58 rfl (lv_at hl 0 rfl) ?_
          obtain ⟨t10, et10, hf⟩ := bnd_some hf
          obtain ⟨h11, hf⟩ := gd_some hf
          have h_t10 := isk_eq h11
          refine gf_X6_19 hC hP k_0 (v := .ref (ad t10)) (by rw [et10]) dX6_walker_59 ?_
          refine gf_X6_96 hC hP h_t10 (v := .ref (ad (t10 + 2))) rfl dX6_walker_62 ?_
          refine lv_iload_n hx hb dX6_walker_65 rfl (lv_at hl 1 rfl) ?_
          obtain ⟨h12, hf⟩ := gd_some hf
          refine pg_iald hC hP (ko_4_2 h_t10) (bin_in h12) dX6_walker_66 ?_
          exact pg_iret hC hr hlk hP hS hf dX6_walker_67
        · replace hf := ite_f c9 hf
          by_cases c13 : x2 = (2 : Int32)
          · replace hf := ite_t c13 hf
            refine lv_tableIn (off := 50) (tgt := 68) hx hb dX6_walker_18 (by rw [c13]; decide) (by rw [c13]; decide) (by rw [c13]; decide) (by decide) ?_
            refine lv_aload_n hx hb dX6_walker_68 rfl (lv_at hl 0 rfl) ?_
            refine gf_X6_29 hC hP k_0 (v := .ref (ad 24)) rfl dX6_walker_69 ?_
            refine gf_X6_99 hC hP k_24 (v := .ref (ad 25)) rfl dX6_walker_72 ?_
            refine gf_X6_102 hC hP k_25 (v := .ref (ad 26)) rfl dX6_walker_75 ?_
            refine lv_iload_n hx hb dX6_walker_78 rfl (lv_at hl 1 rfl) ?_
            obtain ⟨h14, hf⟩ := gd_some hf
            refine pg_iald hC hP k_26 (bin_in h14) dX6_walker_79 ?_
            exact pg_iret hC hr hlk hP hS hf dX6_walker_80
          · replace hf := ite_f c13 hf
            by_cases c15 : x2 = (3 : Int32)
            · replace hf := ite_t c15 hf
              refine lv_tableIn (off := 63) (tgt := 81) hx hb dX6_walker_18 (by rw [c15]; decide) (by rw [c15]; decide) (by rw [c15]; decide) (by decide) ?_
              refine lv_aload_n hx hb dX6_walker_81 rfl (lv_at hl 0 rfl) ?_
              refine gf_X6_29 hC hP k_0 (v := .ref (ad 24)) rfl dX6_walker_82 ?_
              refine gf_X6_99 hC hP k_24 (v := .ref (ad 25)) rfl dX6_walker_85 ?_
              refine lv_aload_n hx hb dX6_walker_88 rfl (lv_at hl 0 rfl) ?_
              obtain ⟨t16, et16, hf⟩ := bnd_some hf
              obtain ⟨h17, hf⟩ := gd_some hf
              have h_t16 := isk_eq h17
              refine gf_X6_19 hC hP k_0 (v := .ref (ad t16)) (by rw [et16]) dX6_walker_89 ?_
              refine lv_iload_n hx hb dX6_walker_92 rfl (lv_at hl 1 rfl) ?_
              obtain ⟨r20, S18, q19, hf⟩ := cal2_some hf
              refine pg_callV (As := [.ref (ad t16), .int x1]) (rest := []) (st1 := [.int r20]) (ci := 0) hC hml hP hS (c_X0_isWorn l hC.2.2.2.2.2.1 q19 k_25 h_t16) ⟨by decide, by decide, rfl, rfl⟩ ⟨rfl, rfl⟩ (by decide) rfl (by decide) k_25 rfl rfl ⟨mk_X6_105, mi_X0_isWorn⟩ hd_X0_isWorn rfl hl.1 (Nat.le_of_ble_eq_true rfl) dX6_walker_93 (fun H locs hP hS => ?_)
              refine lv_if_eq (tgt := 103) hx hb dX6_walker_96 (by decide) (fun c21 => ?_) (fun c21 => ?_)
              · replace hf := ite_t c21 hf
                refine lv_iconst (v := 0) hx hb dX6_walker_103 (by decide) ?_
                exact pg_iret hC hr hlk hP hS hf dX6_walker_104
              · replace hf := ite_f c21 hf
                refine lv_iconst (v := 1) hx hb dX6_walker_99 (by decide) ?_
                refine lv_goto (tgt := 104) hx hb dX6_walker_100 (by decide) ?_
                exact pg_iret hC hr hlk hP hS hf dX6_walker_104
            · replace hf := ite_f c15 hf
              refine lv_tableOut (tgt := 105) hx hb dX6_walker_18 (sw_out 0 3 (fun k h1 h2 hk => by
                rcases (show k = 0 ∨ k = 1 ∨ k = 2 ∨ k = 3 by omega) with h | h | h | h
                · subst h; exact c5 (hk.trans (by decide))
                · subst h; exact c9 (hk.trans (by decide))
                · subst h; exact c13 (hk.trans (by decide))
                · subst h; exact c15 (hk.trans (by decide)))) (by decide) ?_
              refine lv_iconst (v := -1) hx hb dX6_walker_105 (by decide) ?_
              exact pg_iret hC hr hlk hP hS hf dX6_walker_106
    · replace hf := ite_f c4 hf
      refine lv_iconst (v := -1) hx hb dX6_walker_15 (by decide) ?_
      exact pg_iret hC hr hlk hP hS hf dX6_walker_16
def P_X6_stretch (N : Nat) (S : PSt) (x1 : Int32) (x2 : Int32) : Option (Int32 × PSt) := bnd (gR S 601 0) fun t1 => gd (isk t1 4) <| cal2 (P_X4_hasStretch N S t1 x1) fun r5 S3 => if r5 = (0 : Int32) then (some ((-1 : Int32), S3)) else (if x2 = (0 : Int32) then (bnd (gR S3 601 0) fun t8 => gd (isk t8 4) <| gd (bin x1 (ln (t8 + 3))) <| some ((gA S3 (t8 + 3) x1.toNatClampNeg), S3)) else (if x2 = (1 : Int32) then (bnd (gR S3 601 0) fun t12 => gd (isk t12 4) <| gd (bin x1 (ln (t12 + 4))) <| some ((gA S3 (t12 + 4) x1.toNatClampNeg), S3)) else (if x2 = (2 : Int32) then (bnd (gR S3 601 0) fun t16 => gd (isk t16 4) <| gd (bin x1 (ln (t16 + 5))) <| some ((gA S3 (t16 + 5) x1.toNatClampNeg), S3)) else (if x2 = (3 : Int32) then (bnd (gR S3 601 0) fun t20 => gd (isk t20 4) <| gd (bin x1 (ln (t20 + 6))) <| some ((gA S3 (t20 + 6) x1.toNatClampNeg), S3)) else (some ((-1 : Int32), S3))))))
set_option maxHeartbeats 4000000 in
set_option maxRecDepth 100000 in
theorem c_X6_stretch (l : Launch) {D : va_G} {cy : Nat → ClassId} {ad tb : Nat → Nat} (hJ : pJ ad) {N : Nat} {S S' : PSt} {x1 : Int32} {x2 : Int32} {r : Int32} (hf : P_X6_stretch N S x1 x2 = some (r, S')) : Ct l 2 yX6_stretch cX6_stretch 3 (some .int) D cy ad tb S S' [.ref (ad 0), .int x1, .int x2] (some (.int r)) := by
  refine Ct_of hJ (by decide) (Nat.le_of_ble_eq_true rfl) (fun p e s m below meth c ls hX hP hS hl => ?_)
  have hl : lv_has ls 3 [(0, .ref (ad 0)), (1, .int x1), (2, .int x2)] := hl
  have hX0 := hX
  obtain ⟨hC, hml, hr, hlk⟩ := hX0
  have hx := hC.1
  have hb := hC.2.1
  unfold P_X6_stretch at hf
  refine lv_aload_n hx hb dX6_stretch_0 rfl (lv_at hl 0 rfl) ?_
  obtain ⟨t1, et1, hf⟩ := bnd_some hf
  obtain ⟨h2, hf⟩ := gd_some hf
  have h_t1 := isk_eq h2
  refine gf_X6_19 hC hP k_0 (v := .ref (ad t1)) (by rw [et1]) dX6_stretch_1 ?_
  refine lv_iload_n hx hb dX6_stretch_4 rfl (lv_at hl 1 rfl) ?_
  obtain ⟨r5, S3, q4, hf⟩ := cal2_some hf
  refine pg_callV (As := [.int x1]) (rest := []) (st1 := [.int r5]) (ci := 4) hC hml hP hS (c_X4_hasStretch l hC.2.2.2.2.2.1 q4 h_t1) ⟨by decide, by decide, rfl, rfl⟩ ⟨rfl, rfl⟩ (by decide) rfl (by decide) h_t1 rfl rfl ⟨mk_X6_109, mi_X4_hasStretch⟩ hd_X4_hasStretch rfl hl.1 (Nat.le_of_ble_eq_true rfl) dX6_stretch_5 (fun H locs hP hS => ?_)
  refine lv_if_ne (tgt := 13) hx hb dX6_stretch_8 (by decide) (fun c6 => ?_) (fun c6 => ?_)
  · replace hf := ite_f c6 hf
    refine lv_iload_n hx hb dX6_stretch_13 rfl (lv_at hl 2 rfl) ?_
    by_cases c7 : x2 = (0 : Int32)
    · replace hf := ite_t c7 hf
      refine lv_tableIn (off := 30) (tgt := 44) hx hb dX6_stretch_14 (by rw [c7]; decide) (by rw [c7]; decide) (by rw [c7]; decide) (by decide) ?_
      refine lv_aload_n hx hb dX6_stretch_44 rfl (lv_at hl 0 rfl) ?_
      obtain ⟨t8, et8, hf⟩ := bnd_some hf
      obtain ⟨h9, hf⟩ := gd_some hf
      have h_t8 := isk_eq h9
      refine gf_X6_19 hC hP k_0 (v := .ref (ad t8)) (by rw [et8]) dX6_stretch_45 ?_
      refine gf_X6_113 hC hP h_t8 (v := .ref (ad (t8 + 3))) rfl dX6_stretch_48 ?_
      refine lv_iload_n hx hb dX6_stretch_51 rfl (lv_at hl 1 rfl) ?_
      obtain ⟨h10, hf⟩ := gd_some hf
      refine pg_iald hC hP (ko_4_3 h_t8) (bin_in h10) dX6_stretch_52 ?_
      exact pg_iret hC hr hlk hP hS hf dX6_stretch_53
    · replace hf := ite_f c7 hf
      by_cases c11 : x2 = (1 : Int32)
      · replace hf := ite_t c11 hf
        refine lv_tableIn (off := 40) (tgt := 54) hx hb dX6_stretch_14 (by rw [c11]; decide) (by rw [c11]; decide) (by rw [c11]; decide) (by decide) ?_
        refine lv_aload_n hx hb dX6_stretch_54 rfl (lv_at hl 0 rfl) ?_
        obtain ⟨t12, et12, hf⟩ := bnd_some hf
        obtain ⟨h13, hf⟩ := gd_some hf
        have h_t12 := isk_eq h13
        refine gf_X6_19 hC hP k_0 (v := .ref (ad t12)) (by rw [et12]) dX6_stretch_55 ?_
        refine gf_X6_116 hC hP h_t12 (v := .ref (ad (t12 + 4))) rfl dX6_stretch_58 ?_
        refine lv_iload_n hx hb dX6_stretch_61 rfl (lv_at hl 1 rfl) ?_
        obtain ⟨h14, hf⟩ := gd_some hf
        refine pg_iald hC hP (ko_4_4 h_t12) (bin_in h14) dX6_stretch_62 ?_
        exact pg_iret hC hr hlk hP hS hf dX6_stretch_63
      · replace hf := ite_f c11 hf
        by_cases c15 : x2 = (2 : Int32)
        · replace hf := ite_t c15 hf
          refine lv_tableIn (off := 50) (tgt := 64) hx hb dX6_stretch_14 (by rw [c15]; decide) (by rw [c15]; decide) (by rw [c15]; decide) (by decide) ?_
          refine lv_aload_n hx hb dX6_stretch_64 rfl (lv_at hl 0 rfl) ?_
          obtain ⟨t16, et16, hf⟩ := bnd_some hf
          obtain ⟨h17, hf⟩ := gd_some hf
          have h_t16 := isk_eq h17
          refine gf_X6_19 hC hP k_0 (v := .ref (ad t16)) (by rw [et16]) dX6_stretch_65 ?_
          refine gf_X6_119 hC hP h_t16 (v := .ref (ad (t16 + 5))) rfl dX6_stretch_68 ?_
          refine lv_iload_n hx hb dX6_stretch_71 rfl (lv_at hl 1 rfl) ?_
          obtain ⟨h18, hf⟩ := gd_some hf
          refine pg_iald hC hP (ko_4_5 h_t16) (bin_in h18) dX6_stretch_72 ?_
          exact pg_iret hC hr hlk hP hS hf dX6_stretch_73
        · replace hf := ite_f c15 hf
          by_cases c19 : x2 = (3 : Int32)
          · replace hf := ite_t c19 hf
            refine lv_tableIn (off := 60) (tgt := 74) hx hb dX6_stretch_14 (by rw [c19]; decide) (by rw [c19]; decide) (by rw [c19]; decide) (by decide) ?_
            refine lv_aload_n hx hb dX6_stretch_74 rfl (lv_at hl 0 rfl) ?_
            obtain ⟨t20, et20, hf⟩ := bnd_some hf
            obtain ⟨h21, hf⟩ := gd_some hf
            have h_t20 := isk_eq h21
            refine gf_X6_19 hC hP k_0 (v := .ref (ad t20)) (by rw [et20]) dX6_stretch_75 ?_
            refine gf_X6_122 hC hP h_t20 (v := .ref (ad (t20 + 6))) rfl dX6_stretch_78 ?_
            refine lv_iload_n hx hb dX6_stretch_81 rfl (lv_at hl 1 rfl) ?_
            obtain ⟨h22, hf⟩ := gd_some hf
            refine pg_iald hC hP (ko_4_6 h_t20) (bin_in h22) dX6_stretch_82 ?_
            exact pg_iret hC hr hlk hP hS hf dX6_stretch_83
          · replace hf := ite_f c19 hf
            refine lv_tableOut (tgt := 84) hx hb dX6_stretch_14 (sw_out 0 3 (fun k h1 h2 hk => by
              rcases (show k = 0 ∨ k = 1 ∨ k = 2 ∨ k = 3 by omega) with h | h | h | h
              · subst h; exact c7 (hk.trans (by decide))
              · subst h; exact c11 (hk.trans (by decide))
              · subst h; exact c15 (hk.trans (by decide))
              · subst h; exact c19 (hk.trans (by decide)))) (by decide) ?_
            refine lv_iconst (v := -1) hx hb dX6_stretch_84 (by decide) ?_
            exact pg_iret hC hr hlk hP hS hf dX6_stretch_85
  · replace hf := ite_t c6 hf
    refine lv_iconst (v := -1) hx hb dX6_stretch_11 (by decide) ?_
    exact pg_iret hC hr hlk hP hS hf dX6_stretch_12
def P_X6_takes (N : Nat) (S : PSt) (x1 : Int32) (x2 : Int32) : Option (Int32 × PSt) := bnd (gR S 601 0) fun t1 => gd (isk t1 4) <| cal2 (P_X4_hasStretch N S t1 x1) fun r5 S3 => if r5 = (0 : Int32) then (some ((-1 : Int32), S3)) else (bnd (gR S3 601 0) fun t7 => gd (isk t7 4) <| cal2 (P_X4_hasPair N S3 t7 x2) fun r11 S9 => if r11 = (0 : Int32) then (some ((-1 : Int32), S9)) else (bnd (gR S9 601 0) fun t13 => gd (isk t13 4) <| cal2 (P_X0_minutesOn N S9 25 t13 x1 x2) fun r17 S15 => some (r17, S15)))
set_option maxHeartbeats 4000000 in
set_option maxRecDepth 100000 in
theorem c_X6_takes (l : Launch) {D : va_G} {cy : Nat → ClassId} {ad tb : Nat → Nat} (hJ : pJ ad) {N : Nat} {S S' : PSt} {x1 : Int32} {x2 : Int32} {r : Int32} (hf : P_X6_takes N S x1 x2 = some (r, S')) : Ct l 3 yX6_takes cX6_takes 3 (some .int) D cy ad tb S S' [.ref (ad 0), .int x1, .int x2] (some (.int r)) := by
  refine Ct_of hJ (by decide) (Nat.le_of_ble_eq_true rfl) (fun p e s m below meth c ls hX hP hS hl => ?_)
  have hl : lv_has ls 3 [(0, .ref (ad 0)), (1, .int x1), (2, .int x2)] := hl
  have hX0 := hX
  obtain ⟨hC, hml, hr, hlk⟩ := hX0
  have hx := hC.1
  have hb := hC.2.1
  unfold P_X6_takes at hf
  refine lv_aload_n hx hb dX6_takes_0 rfl (lv_at hl 0 rfl) ?_
  obtain ⟨t1, et1, hf⟩ := bnd_some hf
  obtain ⟨h2, hf⟩ := gd_some hf
  have h_t1 := isk_eq h2
  refine gf_X6_19 hC hP k_0 (v := .ref (ad t1)) (by rw [et1]) dX6_takes_1 ?_
  refine lv_iload_n hx hb dX6_takes_4 rfl (lv_at hl 1 rfl) ?_
  obtain ⟨r5, S3, q4, hf⟩ := cal2_some hf
  refine pg_callV (As := [.int x1]) (rest := []) (st1 := [.int r5]) (ci := 4) hC hml hP hS (c_X4_hasStretch l hC.2.2.2.2.2.1 q4 h_t1) ⟨by decide, by decide, rfl, rfl⟩ ⟨rfl, rfl⟩ (by decide) rfl (by decide) h_t1 rfl rfl ⟨mk_X6_109, mi_X4_hasStretch⟩ hd_X4_hasStretch rfl hl.1 (Nat.le_of_ble_eq_true rfl) dX6_takes_5 (fun H locs hP hS => ?_)
  refine lv_if_eq (tgt := 22) hx hb dX6_takes_8 (by decide) (fun c6 => ?_) (fun c6 => ?_)
  · replace hf := ite_t c6 hf
    refine lv_iconst (v := -1) hx hb dX6_takes_22 (by decide) ?_
    exact pg_iret hC hr hlk hP hS hf dX6_takes_23
  · replace hf := ite_f c6 hf
    refine lv_aload_n hx hb dX6_takes_11 rfl (lv_at hl 0 rfl) ?_
    obtain ⟨t7, et7, hf⟩ := bnd_some hf
    obtain ⟨h8, hf⟩ := gd_some hf
    have h_t7 := isk_eq h8
    refine gf_X6_19 hC hP k_0 (v := .ref (ad t7)) (by rw [et7]) dX6_takes_12 ?_
    refine lv_iload_n hx hb dX6_takes_15 rfl (lv_at hl 2 rfl) ?_
    obtain ⟨r11, S9, q10, hf⟩ := cal2_some hf
    refine pg_callV (As := [.int x2]) (rest := []) (st1 := [.int r11]) (ci := 4) hC hml hP hS (c_X4_hasPair l hC.2.2.2.2.2.1 q10 h_t7) ⟨by decide, by decide, rfl, rfl⟩ ⟨rfl, rfl⟩ (by decide) rfl (by decide) h_t7 rfl rfl ⟨mk_X6_125, mi_X4_hasPair⟩ hd_X4_hasPair rfl hl.1 (Nat.le_of_ble_eq_true rfl) dX6_takes_16 (fun H locs hP hS => ?_)
    refine lv_if_ne (tgt := 24) hx hb dX6_takes_19 (by decide) (fun c12 => ?_) (fun c12 => ?_)
    · replace hf := ite_f c12 hf
      refine lv_aload_n hx hb dX6_takes_24 rfl (lv_at hl 0 rfl) ?_
      refine gf_X6_29 hC hP k_0 (v := .ref (ad 24)) rfl dX6_takes_25 ?_
      refine gf_X6_99 hC hP k_24 (v := .ref (ad 25)) rfl dX6_takes_28 ?_
      refine lv_aload_n hx hb dX6_takes_31 rfl (lv_at hl 0 rfl) ?_
      obtain ⟨t13, et13, hf⟩ := bnd_some hf
      obtain ⟨h14, hf⟩ := gd_some hf
      have h_t13 := isk_eq h14
      refine gf_X6_19 hC hP k_0 (v := .ref (ad t13)) (by rw [et13]) dX6_takes_32 ?_
      refine lv_iload_n hx hb dX6_takes_35 rfl (lv_at hl 1 rfl) ?_
      refine lv_iload_n hx hb dX6_takes_36 rfl (lv_at hl 2 rfl) ?_
      obtain ⟨r17, S15, q16, hf⟩ := cal2_some hf
      refine pg_callV (As := [.ref (ad t13), .int x1, .int x2]) (rest := []) (st1 := [.int r17]) (ci := 0) hC hml hP hS (c_X0_minutesOn l hC.2.2.2.2.2.1 q16 k_25 h_t13) ⟨by decide, by decide, rfl, rfl⟩ ⟨rfl, rfl⟩ (by decide) rfl (by decide) k_25 rfl rfl ⟨mk_X6_128, mi_X0_minutesOn⟩ hd_X0_minutesOn rfl hl.1 (Nat.le_of_ble_eq_true rfl) dX6_takes_37 (fun H locs hP hS => ?_)
      exact pg_iret hC hr hlk hP hS hf dX6_takes_40
    · replace hf := ite_t c12 hf
      refine lv_iconst (v := -1) hx hb dX6_takes_22 (by decide) ?_
      exact pg_iret hC hr hlk hP hS hf dX6_takes_23
def P_X6_walks (N : Nat) (S : PSt) (x1 : Int32) : Option (Int32 × PSt) := bnd (gR S 601 0) fun t1 => gd (isk t1 4) <| cal2 (P_X4_hasPair N S t1 x1) fun r5 S3 => if r5 = (0 : Int32) then (some ((-1 : Int32), S3)) else (bnd (gR S3 601 0) fun t7 => gd (isk t7 4) <| if (gI S3 0 25) < (gI S3 401 t7) then (bnd (gR S3 601 0) fun t10 => gd (isk t10 4) <| cal2 (P_X0_minutesToWalk N S3 25 t10 x1) fun r14 S12 => bnd ((gI S12 1 25) + r14) fun v15 => if v15 ≤ (9999 : Int32) then (cal1 (P_X5_remember N S12 24) fun S17 => bnd (gR S17 601 0) fun t19 => gd (isk t19 4) <| cal1 (P_X0_walkOn N S17 25 t19 x1 v15) fun S21 => cal1 (P_X6_moved N S21) fun S23 => some (r14, S23)) else (some ((-2 : Int32), S12))) else (some ((-2 : Int32), S3)))
set_option maxHeartbeats 4000000 in
set_option maxRecDepth 100000 in
theorem c_X6_walks (l : Launch) {D : va_G} {cy : Nat → ClassId} {ad tb : Nat → Nat} (hJ : pJ ad) {N : Nat} {S S' : PSt} {x1 : Int32} {r : Int32} (hf : P_X6_walks N S x1 = some (r, S')) : Ct l 4 yX6_walks cX6_walks 4 (some .int) D cy ad tb S S' [.ref (ad 0), .int x1] (some (.int r)) := by
  refine Ct_of hJ (by decide) (Nat.le_of_ble_eq_true rfl) (fun p e s m below meth c ls hX hP hS hl => ?_)
  have hl : lv_has ls 4 [(0, .ref (ad 0)), (1, .int x1)] := hl
  have hX0 := hX
  obtain ⟨hC, hml, hr, hlk⟩ := hX0
  have hx := hC.1
  have hb := hC.2.1
  unfold P_X6_walks at hf
  refine lv_aload_n hx hb dX6_walks_0 rfl (lv_at hl 0 rfl) ?_
  obtain ⟨t1, et1, hf⟩ := bnd_some hf
  obtain ⟨h2, hf⟩ := gd_some hf
  have h_t1 := isk_eq h2
  refine gf_X6_19 hC hP k_0 (v := .ref (ad t1)) (by rw [et1]) dX6_walks_1 ?_
  refine lv_iload_n hx hb dX6_walks_4 rfl (lv_at hl 1 rfl) ?_
  obtain ⟨r5, S3, q4, hf⟩ := cal2_some hf
  refine pg_callV (As := [.int x1]) (rest := []) (st1 := [.int r5]) (ci := 4) hC hml hP hS (c_X4_hasPair l hC.2.2.2.2.2.1 q4 h_t1) ⟨by decide, by decide, rfl, rfl⟩ ⟨rfl, rfl⟩ (by decide) rfl (by decide) h_t1 rfl rfl ⟨mk_X6_125, mi_X4_hasPair⟩ hd_X4_hasPair rfl hl.1 (Nat.le_of_ble_eq_true rfl) dX6_walks_5 (fun H locs hP hS => ?_)
  refine lv_if_ne (tgt := 13) hx hb dX6_walks_8 (by decide) (fun c6 => ?_) (fun c6 => ?_)
  · replace hf := ite_f c6 hf
    refine lv_aload_n hx hb dX6_walks_13 rfl (lv_at hl 0 rfl) ?_
    refine gf_X6_29 hC hP k_0 (v := .ref (ad 24)) rfl dX6_walks_14 ?_
    refine gf_X6_99 hC hP k_24 (v := .ref (ad 25)) rfl dX6_walks_17 ?_
    refine gf_X6_132 hC hP k_25 (v := .int (gI S3 0 25)) rfl dX6_walks_20 ?_
    refine lv_aload_n hx hb dX6_walks_23 rfl (lv_at hl 0 rfl) ?_
    obtain ⟨t7, et7, hf⟩ := bnd_some hf
    obtain ⟨h8, hf⟩ := gd_some hf
    have h_t7 := isk_eq h8
    refine gf_X6_19 hC hP k_0 (v := .ref (ad t7)) (by rw [et7]) dX6_walks_24 ?_
    refine gf_X6_135 hC hP h_t7 (v := .int (gI S3 401 t7)) rfl dX6_walks_27 ?_
    refine lv_icmp_lt (tgt := 36) hx hb dX6_walks_30 (by decide) (fun c9 => ?_) (fun c9 => ?_)
    · replace hf := ite_t c9 hf
      refine lv_aload_n hx hb dX6_walks_36 rfl (lv_at hl 0 rfl) ?_
      refine gf_X6_29 hC hP k_0 (v := .ref (ad 24)) rfl dX6_walks_37 ?_
      refine gf_X6_99 hC hP k_24 (v := .ref (ad 25)) rfl dX6_walks_40 ?_
      refine lv_aload_n hx hb dX6_walks_43 rfl (lv_at hl 0 rfl) ?_
      obtain ⟨t10, et10, hf⟩ := bnd_some hf
      obtain ⟨h11, hf⟩ := gd_some hf
      have h_t10 := isk_eq h11
      refine gf_X6_19 hC hP k_0 (v := .ref (ad t10)) (by rw [et10]) dX6_walks_44 ?_
      refine lv_iload_n hx hb dX6_walks_47 rfl (lv_at hl 1 rfl) ?_
      obtain ⟨r14, S12, q13, hf⟩ := cal2_some hf
      refine pg_callV (As := [.ref (ad t10), .int x1]) (rest := []) (st1 := [.int r14]) (ci := 0) hC hml hP hS (c_X0_minutesToWalk l hC.2.2.2.2.2.1 q13 k_25 h_t10) ⟨by decide, by decide, rfl, rfl⟩ ⟨rfl, rfl⟩ (by decide) rfl (by decide) k_25 rfl rfl ⟨mk_X6_138, mi_X0_minutesToWalk⟩ hd_X0_minutesToWalk rfl hl.1 (Nat.le_of_ble_eq_true rfl) dX6_walks_48 (fun H locs hP hS => ?_)
      refine lv_istore_n (lv' := [(2, .int r14), (0, .ref (ad 0)), (1, .int x1)]) hx hb dX6_walks_51 rfl hl (by decide) rfl (fun ls hl => ?_)
      refine lv_aload_n hx hb dX6_walks_52 rfl (lv_at hl 1 rfl) ?_
      refine gf_X6_29 hC hP k_0 (v := .ref (ad 24)) rfl dX6_walks_53 ?_
      refine gf_X6_99 hC hP k_24 (v := .ref (ad 25)) rfl dX6_walks_56 ?_
      refine gf_X6_142 hC hP k_25 (v := .int (gI S12 1 25)) rfl dX6_walks_59 ?_
      refine lv_iload_n hx hb dX6_walks_62 rfl (lv_at hl 0 rfl) ?_
      refine lv_iadd hx hb dX6_walks_63 ?_
      obtain ⟨v15, ev15, hf⟩ := bnd_some hf
      refine pg_top ev15 ?_
      refine lv_istore_n (lv' := [(3, .int v15), (2, .int r14), (0, .ref (ad 0)), (1, .int x1)]) hx hb dX6_walks_64 rfl hl (by decide) rfl (fun ls hl => ?_)
      refine lv_iload_n hx hb dX6_walks_65 rfl (lv_at hl 0 rfl) ?_
      refine lv_sipush (v := 9999) hx hb dX6_walks_66 (by decide) ?_
      refine lv_icmp_le (tgt := 75) hx hb dX6_walks_69 (by decide) (fun c16 => ?_) (fun c16 => ?_)
      · replace hf := ite_t c16 hf
        refine lv_aload_n hx hb dX6_walks_75 rfl (lv_at hl 2 rfl) ?_
        refine gf_X6_29 hC hP k_0 (v := .ref (ad 24)) rfl dX6_walks_76 ?_
        obtain ⟨S17, q18, hf⟩ := cal1_some hf
        refine pg_callV (As := []) (rest := []) (st1 := []) (ci := 5) hC hml hP hS (c_X5_remember l hC.2.2.2.2.2.1 q18 k_24) ⟨by decide, by decide, rfl, rfl⟩ ⟨rfl, rfl⟩ (by decide) rfl (by decide) k_24 rfl rfl ⟨mk_X6_145, mi_X5_remember⟩ hd_X5_remember rfl hl.1 (Nat.le_of_ble_eq_true rfl) dX6_walks_79 (fun H locs hP hS => ?_)
        refine lv_aload_n hx hb dX6_walks_82 rfl (lv_at hl 2 rfl) ?_
        refine gf_X6_29 hC hP k_0 (v := .ref (ad 24)) rfl dX6_walks_83 ?_
        refine gf_X6_99 hC hP k_24 (v := .ref (ad 25)) rfl dX6_walks_86 ?_
        refine lv_aload_n hx hb dX6_walks_89 rfl (lv_at hl 2 rfl) ?_
        obtain ⟨t19, et19, hf⟩ := bnd_some hf
        obtain ⟨h20, hf⟩ := gd_some hf
        have h_t19 := isk_eq h20
        refine gf_X6_19 hC hP k_0 (v := .ref (ad t19)) (by rw [et19]) dX6_walks_90 ?_
        refine lv_iload_n hx hb dX6_walks_93 rfl (lv_at hl 3 rfl) ?_
        refine lv_iload_n hx hb dX6_walks_94 rfl (lv_at hl 0 rfl) ?_
        obtain ⟨S21, q22, hf⟩ := cal1_some hf
        refine pg_callV (As := [.ref (ad t19), .int x1, .int v15]) (rest := []) (st1 := []) (ci := 0) hC hml hP hS (c_X0_walkOn l hC.2.2.2.2.2.1 q22 k_25 h_t19) ⟨by decide, by decide, rfl, rfl⟩ ⟨rfl, rfl⟩ (by decide) rfl (by decide) k_25 rfl rfl ⟨mk_X6_148, mi_X0_walkOn⟩ hd_X0_walkOn rfl hl.1 (Nat.le_of_ble_eq_true rfl) dX6_walks_95 (fun H locs hP hS => ?_)
        refine lv_aload_n hx hb dX6_walks_98 rfl (lv_at hl 2 rfl) ?_
        obtain ⟨S23, q24, hf⟩ := cal1_some hf
        refine pg_callV (As := []) (rest := []) (st1 := []) (ci := 6) hC hml hP hS (c_X6_moved l hC.2.2.2.2.2.1 q24) ⟨by decide, by decide, rfl, rfl⟩ ⟨rfl, rfl⟩ (by decide) rfl (by decide) k_0 rfl rfl ⟨mk_X6_87, mi_X6_moved⟩ hd_X6_moved rfl hl.1 (Nat.le_of_ble_eq_true rfl) dX6_walks_99 (fun H locs hP hS => ?_)
        refine lv_iload_n hx hb dX6_walks_102 rfl (lv_at hl 1 rfl) ?_
        exact pg_iret hC hr hlk hP hS hf dX6_walks_103
      · replace hf := ite_f c16 hf
        refine lv_bipush (v := -2) hx hb dX6_walks_72 (by decide) ?_
        exact pg_iret hC hr hlk hP hS hf dX6_walks_74
    · replace hf := ite_f c9 hf
      refine lv_bipush (v := -2) hx hb dX6_walks_33 (by decide) ?_
      exact pg_iret hC hr hlk hP hS hf dX6_walks_35
  · replace hf := ite_t c6 hf
    refine lv_iconst (v := -1) hx hb dX6_walks_11 (by decide) ?_
    exact pg_iret hC hr hlk hP hS hf dX6_walks_12
def P_X6_backs (N : Nat) (S : PSt) : Option (Int32 × PSt) := if (gI S 0 25) < (1 : Int32) then (some ((-2 : Int32), S)) else (bnd (gR S 601 0) fun t2 => gd (isk t2 4) <| cal2 (P_X4_hasStretch N S t2 ((gI S 0 25) - (1 : Int32))) fun r6 S4 => if r6 = (0 : Int32) then (some ((-2 : Int32), S4)) else (bnd (gR S4 601 0) fun t8 => gd (isk t8 4) <| cal2 (P_X4_hasPair N S4 t8 (gI S4 2 25)) fun r12 S10 => if r12 = (0 : Int32) then (some ((-2 : Int32), S10)) else (bnd ((gI S10 0 25) - (1 : Int32)) fun v14 => bnd (gR S10 601 0) fun t15 => gd (isk t15 4) <| cal2 (P_X0_minutesOn N S10 25 t15 v14 (gI S10 2 25)) fun r19 S17 => bnd ((2 : Int32) * r19) fun v20 => if ((gI S17 1 25) + v20) ≤ (9999 : Int32) then (cal1 (P_X5_remember N S17 24) fun S22 => bnd (sI S22 0 25 v14) fun S24 => bnd (sI S24 1 25 ((gI S24 1 25) + v20)) fun S25 => bnd (gR S25 601 0) fun t26 => gd (isk t26 4) <| gd (bin v14 (ln (t26 + 3))) <| cal1 (P_X0_tire N S25 25 (gI S25 2 25) (gA S25 (t26 + 3) v14.toNatClampNeg)) fun S29 => cal1 (P_X6_moved N S29) fun S31 => some (v20, S31)) else (some ((-2 : Int32), S17)))))
set_option maxHeartbeats 4000000 in
set_option maxRecDepth 100000 in
theorem c_X6_backs (l : Launch) {D : va_G} {cy : Nat → ClassId} {ad tb : Nat → Nat} (hJ : pJ ad) {N : Nat} {S S' : PSt} {r : Int32} (hf : P_X6_backs N S = some (r, S')) : Ct l 3 yX6_backs cX6_backs 4 (some .int) D cy ad tb S S' [.ref (ad 0)] (some (.int r)) := by
  refine Ct_of hJ (by decide) (Nat.le_of_ble_eq_true rfl) (fun p e s m below meth c ls hX hP hS hl => ?_)
  have hl : lv_has ls 4 [(0, .ref (ad 0))] := hl
  have hX0 := hX
  obtain ⟨hC, hml, hr, hlk⟩ := hX0
  have hx := hC.1
  have hb := hC.2.1
  unfold P_X6_backs at hf
  refine lv_aload_n hx hb dX6_backs_0 rfl (lv_at hl 0 rfl) ?_
  refine gf_X6_29 hC hP k_0 (v := .ref (ad 24)) rfl dX6_backs_1 ?_
  refine gf_X6_99 hC hP k_24 (v := .ref (ad 25)) rfl dX6_backs_4 ?_
  refine lv_astore_n (lv' := [(1, .ref (ad 25)), (0, .ref (ad 0))]) hx hb dX6_backs_7 rfl hl (by decide) rfl (fun ls hl => ?_)
  refine lv_aload_n hx hb dX6_backs_8 rfl (lv_at hl 0 rfl) ?_
  refine gf_X6_132 hC hP k_25 (v := .int (gI S 0 25)) rfl dX6_backs_9 ?_
  refine lv_iconst (v := 1) hx hb dX6_backs_12 (by decide) ?_
  refine lv_icmp_lt (tgt := 46) hx hb dX6_backs_13 (by decide) (fun c1 => ?_) (fun c1 => ?_)
  · replace hf := ite_t c1 hf
    refine lv_bipush (v := -2) hx hb dX6_backs_46 (by decide) ?_
    exact pg_iret hC hr hlk hP hS hf dX6_backs_48
  · replace hf := ite_f c1 hf
    refine lv_aload_n hx hb dX6_backs_16 rfl (lv_at hl 1 rfl) ?_
    obtain ⟨t2, et2, hf⟩ := bnd_some hf
    obtain ⟨h3, hf⟩ := gd_some hf
    have h_t2 := isk_eq h3
    refine gf_X6_19 hC hP k_0 (v := .ref (ad t2)) (by rw [et2]) dX6_backs_17 ?_
    refine lv_aload_n hx hb dX6_backs_20 rfl (lv_at hl 0 rfl) ?_
    refine gf_X6_132 hC hP k_25 (v := .int (gI S 0 25)) rfl dX6_backs_21 ?_
    refine lv_iconst (v := 1) hx hb dX6_backs_24 (by decide) ?_
    refine lv_isub hx hb dX6_backs_25 ?_
    obtain ⟨r6, S4, q5, hf⟩ := cal2_some hf
    refine pg_callV (As := [.int ((gI S 0 25) - (1 : Int32))]) (rest := []) (st1 := [.int r6]) (ci := 4) hC hml hP hS (c_X4_hasStretch l hC.2.2.2.2.2.1 q5 h_t2) ⟨by decide, by decide, rfl, rfl⟩ ⟨rfl, rfl⟩ (by decide) rfl (by decide) h_t2 rfl rfl ⟨mk_X6_109, mi_X4_hasStretch⟩ hd_X4_hasStretch rfl hl.1 (Nat.le_of_ble_eq_true rfl) dX6_backs_26 (fun H locs hP hS => ?_)
    refine lv_if_eq (tgt := 46) hx hb dX6_backs_29 (by decide) (fun c7 => ?_) (fun c7 => ?_)
    · replace hf := ite_t c7 hf
      refine lv_bipush (v := -2) hx hb dX6_backs_46 (by decide) ?_
      exact pg_iret hC hr hlk hP hS hf dX6_backs_48
    · replace hf := ite_f c7 hf
      refine lv_aload_n hx hb dX6_backs_32 rfl (lv_at hl 1 rfl) ?_
      obtain ⟨t8, et8, hf⟩ := bnd_some hf
      obtain ⟨h9, hf⟩ := gd_some hf
      have h_t8 := isk_eq h9
      refine gf_X6_19 hC hP k_0 (v := .ref (ad t8)) (by rw [et8]) dX6_backs_33 ?_
      refine lv_aload_n hx hb dX6_backs_36 rfl (lv_at hl 0 rfl) ?_
      refine gf_X6_152 hC hP k_25 (v := .int (gI S4 2 25)) rfl dX6_backs_37 ?_
      obtain ⟨r12, S10, q11, hf⟩ := cal2_some hf
      refine pg_callV (As := [.int (gI S4 2 25)]) (rest := []) (st1 := [.int r12]) (ci := 4) hC hml hP hS (c_X4_hasPair l hC.2.2.2.2.2.1 q11 h_t8) ⟨by decide, by decide, rfl, rfl⟩ ⟨rfl, rfl⟩ (by decide) rfl (by decide) h_t8 rfl rfl ⟨mk_X6_125, mi_X4_hasPair⟩ hd_X4_hasPair rfl hl.1 (Nat.le_of_ble_eq_true rfl) dX6_backs_40 (fun H locs hP hS => ?_)
      refine lv_if_ne (tgt := 49) hx hb dX6_backs_43 (by decide) (fun c13 => ?_) (fun c13 => ?_)
      · replace hf := ite_f c13 hf
        refine lv_aload_n hx hb dX6_backs_49 rfl (lv_at hl 0 rfl) ?_
        refine gf_X6_132 hC hP k_25 (v := .int (gI S10 0 25)) rfl dX6_backs_50 ?_
        refine lv_iconst (v := 1) hx hb dX6_backs_53 (by decide) ?_
        refine lv_isub hx hb dX6_backs_54 ?_
        obtain ⟨v14, ev14, hf⟩ := bnd_some hf
        refine pg_top ev14 ?_
        refine lv_istore_n (lv' := [(2, .int v14), (1, .ref (ad 25)), (0, .ref (ad 0))]) hx hb dX6_backs_55 rfl hl (by decide) rfl (fun ls hl => ?_)
        refine lv_iconst (v := 2) hx hb dX6_backs_56 (by decide) ?_
        refine lv_aload_n hx hb dX6_backs_57 rfl (lv_at hl 1 rfl) ?_
        refine lv_aload_n hx hb dX6_backs_58 rfl (lv_at hl 2 rfl) ?_
        obtain ⟨t15, et15, hf⟩ := bnd_some hf
        obtain ⟨h16, hf⟩ := gd_some hf
        have h_t15 := isk_eq h16
        refine gf_X6_19 hC hP k_0 (v := .ref (ad t15)) (by rw [et15]) dX6_backs_59 ?_
        refine lv_iload_n hx hb dX6_backs_62 rfl (lv_at hl 0 rfl) ?_
        refine lv_aload_n hx hb dX6_backs_63 rfl (lv_at hl 1 rfl) ?_
        refine gf_X6_152 hC hP k_25 (v := .int (gI S10 2 25)) rfl dX6_backs_64 ?_
        obtain ⟨r19, S17, q18, hf⟩ := cal2_some hf
        refine pg_callV (As := [.ref (ad t15), .int v14, .int (gI S10 2 25)]) (rest := [.int (2 : Int32)]) (st1 := [.int r19, .int (2 : Int32)]) (ci := 0) hC hml hP hS (c_X0_minutesOn l hC.2.2.2.2.2.1 q18 k_25 h_t15) ⟨by decide, by decide, rfl, rfl⟩ ⟨rfl, rfl⟩ (by decide) rfl (by decide) k_25 rfl rfl ⟨mk_X6_128, mi_X0_minutesOn⟩ hd_X0_minutesOn rfl hl.1 (Nat.le_of_ble_eq_true rfl) dX6_backs_67 (fun H locs hP hS => ?_)
        refine lv_imul hx hb dX6_backs_70 ?_
        obtain ⟨v20, ev20, hf⟩ := bnd_some hf
        refine pg_top ev20 ?_
        refine lv_istore_n (lv' := [(3, .int v20), (2, .int v14), (1, .ref (ad 25)), (0, .ref (ad 0))]) hx hb dX6_backs_71 rfl hl (by decide) rfl (fun ls hl => ?_)
        refine lv_aload_n hx hb dX6_backs_72 rfl (lv_at hl 2 rfl) ?_
        refine gf_X6_142 hC hP k_25 (v := .int (gI S17 1 25)) rfl dX6_backs_73 ?_
        refine lv_iload_n hx hb dX6_backs_76 rfl (lv_at hl 0 rfl) ?_
        refine lv_iadd hx hb dX6_backs_77 ?_
        refine lv_sipush (v := 9999) hx hb dX6_backs_78 (by decide) ?_
        refine lv_icmp_le (tgt := 87) hx hb dX6_backs_81 (by decide) (fun c21 => ?_) (fun c21 => ?_)
        · replace hf := ite_t c21 hf
          refine lv_aload_n hx hb dX6_backs_87 rfl (lv_at hl 3 rfl) ?_
          refine gf_X6_29 hC hP k_0 (v := .ref (ad 24)) rfl dX6_backs_88 ?_
          obtain ⟨S22, q23, hf⟩ := cal1_some hf
          refine pg_callV (As := []) (rest := []) (st1 := []) (ci := 5) hC hml hP hS (c_X5_remember l hC.2.2.2.2.2.1 q23 k_24) ⟨by decide, by decide, rfl, rfl⟩ ⟨rfl, rfl⟩ (by decide) rfl (by decide) k_24 rfl rfl ⟨mk_X6_145, mi_X5_remember⟩ hd_X5_remember rfl hl.1 (Nat.le_of_ble_eq_true rfl) dX6_backs_91 (fun H locs hP hS => ?_)
          refine lv_aload_n hx hb dX6_backs_94 rfl (lv_at hl 2 rfl) ?_
          refine lv_iload_n hx hb dX6_backs_95 rfl (lv_at hl 1 rfl) ?_
          obtain ⟨S24, eS24, hf⟩ := bnd_some hf
          refine pf_X6_132 hC hP hS k_25 eS24 dX6_backs_96 (fun H locs hP hS => ?_)
          refine lv_aload_n hx hb dX6_backs_99 rfl (lv_at hl 2 rfl) ?_
          refine lv_dup hx hb dX6_backs_100 rfl ?_
          refine gf_X6_142 hC hP k_25 (v := .int (gI S24 1 25)) rfl dX6_backs_101 ?_
          refine lv_iload_n hx hb dX6_backs_104 rfl (lv_at hl 0 rfl) ?_
          refine lv_iadd hx hb dX6_backs_105 ?_
          obtain ⟨S25, eS25, hf⟩ := bnd_some hf
          refine pf_X6_142 hC hP hS k_25 eS25 dX6_backs_106 (fun H locs hP hS => ?_)
          refine lv_aload_n hx hb dX6_backs_109 rfl (lv_at hl 2 rfl) ?_
          refine lv_aload_n hx hb dX6_backs_110 rfl (lv_at hl 2 rfl) ?_
          refine gf_X6_152 hC hP k_25 (v := .int (gI S25 2 25)) rfl dX6_backs_111 ?_
          refine lv_aload_n hx hb dX6_backs_114 rfl (lv_at hl 3 rfl) ?_
          obtain ⟨t26, et26, hf⟩ := bnd_some hf
          obtain ⟨h27, hf⟩ := gd_some hf
          have h_t26 := isk_eq h27
          refine gf_X6_19 hC hP k_0 (v := .ref (ad t26)) (by rw [et26]) dX6_backs_115 ?_
          refine gf_X6_113 hC hP h_t26 (v := .ref (ad (t26 + 3))) rfl dX6_backs_118 ?_
          refine lv_iload_n hx hb dX6_backs_121 rfl (lv_at hl 1 rfl) ?_
          obtain ⟨h28, hf⟩ := gd_some hf
          refine pg_iald hC hP (ko_4_3 h_t26) (bin_in h28) dX6_backs_122 ?_
          obtain ⟨S29, q30, hf⟩ := cal1_some hf
          refine pg_callV (As := [.int (gI S25 2 25), .int (gA S25 (t26 + 3) v14.toNatClampNeg)]) (rest := []) (st1 := []) (ci := 0) hC hml hP hS (c_X0_tire l hC.2.2.2.2.2.1 q30 k_25) ⟨by decide, by decide, rfl, rfl⟩ ⟨rfl, rfl⟩ (by decide) rfl (by decide) k_25 rfl rfl ⟨mk_X6_155, mi_X0_tire⟩ hd_X0_tire rfl hl.1 (Nat.le_of_ble_eq_true rfl) dX6_backs_123 (fun H locs hP hS => ?_)
          refine lv_aload_n hx hb dX6_backs_126 rfl (lv_at hl 3 rfl) ?_
          obtain ⟨S31, q32, hf⟩ := cal1_some hf
          refine pg_callV (As := []) (rest := []) (st1 := []) (ci := 6) hC hml hP hS (c_X6_moved l hC.2.2.2.2.2.1 q32) ⟨by decide, by decide, rfl, rfl⟩ ⟨rfl, rfl⟩ (by decide) rfl (by decide) k_0 rfl rfl ⟨mk_X6_87, mi_X6_moved⟩ hd_X6_moved rfl hl.1 (Nat.le_of_ble_eq_true rfl) dX6_backs_127 (fun H locs hP hS => ?_)
          refine lv_iload_n hx hb dX6_backs_130 rfl (lv_at hl 0 rfl) ?_
          exact pg_iret hC hr hlk hP hS hf dX6_backs_131
        · replace hf := ite_f c21 hf
          refine lv_bipush (v := -2) hx hb dX6_backs_84 (by decide) ?_
          exact pg_iret hC hr hlk hP hS hf dX6_backs_86
      · replace hf := ite_t c13 hf
        refine lv_bipush (v := -2) hx hb dX6_backs_46 (by decide) ?_
        exact pg_iret hC hr hlk hP hS hf dX6_backs_48
def P_X6_rests (N : Nat) (S : PSt) (x1 : Int32) : Option (Int32 × PSt) := if x1 < (1 : Int32) then (some ((-1 : Int32), S)) else (if x1 ≤ (99 : Int32) then (if ((gI S 1 25) + x1) ≤ (9999 : Int32) then (cal1 (P_X5_remember N S 24) fun S4 => bnd (sI S4 1 25 ((gI S4 1 25) + x1)) fun S6 => cal1 (P_X0_ease N S6 25 x1) fun S7 => cal1 (P_X6_moved N S7) fun S9 => some ((gI S9 1 25), S9)) else (some ((-2 : Int32), S))) else (some ((-1 : Int32), S)))
set_option maxHeartbeats 4000000 in
set_option maxRecDepth 100000 in
theorem c_X6_rests (l : Launch) {D : va_G} {cy : Nat → ClassId} {ad tb : Nat → Nat} (hJ : pJ ad) {N : Nat} {S S' : PSt} {x1 : Int32} {r : Int32} (hf : P_X6_rests N S x1 = some (r, S')) : Ct l 3 yX6_rests cX6_rests 2 (some .int) D cy ad tb S S' [.ref (ad 0), .int x1] (some (.int r)) := by
  refine Ct_of hJ (by decide) (Nat.le_of_ble_eq_true rfl) (fun p e s m below meth c ls hX hP hS hl => ?_)
  have hl : lv_has ls 2 [(0, .ref (ad 0)), (1, .int x1)] := hl
  have hX0 := hX
  obtain ⟨hC, hml, hr, hlk⟩ := hX0
  have hx := hC.1
  have hb := hC.2.1
  unfold P_X6_rests at hf
  refine lv_iload_n hx hb dX6_rests_0 rfl (lv_at hl 1 rfl) ?_
  refine lv_iconst (v := 1) hx hb dX6_rests_1 (by decide) ?_
  refine lv_icmp_lt (tgt := 11) hx hb dX6_rests_2 (by decide) (fun c1 => ?_) (fun c1 => ?_)
  · replace hf := ite_t c1 hf
    refine lv_iconst (v := -1) hx hb dX6_rests_11 (by decide) ?_
    exact pg_iret hC hr hlk hP hS hf dX6_rests_12
  · replace hf := ite_f c1 hf
    refine lv_iload_n hx hb dX6_rests_5 rfl (lv_at hl 1 rfl) ?_
    refine lv_bipush (v := 99) hx hb dX6_rests_6 (by decide) ?_
    refine lv_icmp_le (tgt := 13) hx hb dX6_rests_8 (by decide) (fun c2 => ?_) (fun c2 => ?_)
    · replace hf := ite_t c2 hf
      refine lv_aload_n hx hb dX6_rests_13 rfl (lv_at hl 0 rfl) ?_
      refine gf_X6_29 hC hP k_0 (v := .ref (ad 24)) rfl dX6_rests_14 ?_
      refine gf_X6_99 hC hP k_24 (v := .ref (ad 25)) rfl dX6_rests_17 ?_
      refine gf_X6_142 hC hP k_25 (v := .int (gI S 1 25)) rfl dX6_rests_20 ?_
      refine lv_iload_n hx hb dX6_rests_23 rfl (lv_at hl 1 rfl) ?_
      refine lv_iadd hx hb dX6_rests_24 ?_
      refine lv_sipush (v := 9999) hx hb dX6_rests_25 (by decide) ?_
      refine lv_icmp_le (tgt := 34) hx hb dX6_rests_28 (by decide) (fun c3 => ?_) (fun c3 => ?_)
      · replace hf := ite_t c3 hf
        refine lv_aload_n hx hb dX6_rests_34 rfl (lv_at hl 0 rfl) ?_
        refine gf_X6_29 hC hP k_0 (v := .ref (ad 24)) rfl dX6_rests_35 ?_
        obtain ⟨S4, q5, hf⟩ := cal1_some hf
        refine pg_callV (As := []) (rest := []) (st1 := []) (ci := 5) hC hml hP hS (c_X5_remember l hC.2.2.2.2.2.1 q5 k_24) ⟨by decide, by decide, rfl, rfl⟩ ⟨rfl, rfl⟩ (by decide) rfl (by decide) k_24 rfl rfl ⟨mk_X6_145, mi_X5_remember⟩ hd_X5_remember rfl hl.1 (Nat.le_of_ble_eq_true rfl) dX6_rests_38 (fun H locs hP hS => ?_)
        refine lv_aload_n hx hb dX6_rests_41 rfl (lv_at hl 0 rfl) ?_
        refine gf_X6_29 hC hP k_0 (v := .ref (ad 24)) rfl dX6_rests_42 ?_
        refine gf_X6_99 hC hP k_24 (v := .ref (ad 25)) rfl dX6_rests_45 ?_
        refine lv_dup hx hb dX6_rests_48 rfl ?_
        refine gf_X6_142 hC hP k_25 (v := .int (gI S4 1 25)) rfl dX6_rests_49 ?_
        refine lv_iload_n hx hb dX6_rests_52 rfl (lv_at hl 1 rfl) ?_
        refine lv_iadd hx hb dX6_rests_53 ?_
        obtain ⟨S6, eS6, hf⟩ := bnd_some hf
        refine pf_X6_142 hC hP hS k_25 eS6 dX6_rests_54 (fun H locs hP hS => ?_)
        refine lv_aload_n hx hb dX6_rests_57 rfl (lv_at hl 0 rfl) ?_
        refine gf_X6_29 hC hP k_0 (v := .ref (ad 24)) rfl dX6_rests_58 ?_
        refine gf_X6_99 hC hP k_24 (v := .ref (ad 25)) rfl dX6_rests_61 ?_
        refine lv_iload_n hx hb dX6_rests_64 rfl (lv_at hl 1 rfl) ?_
        obtain ⟨S7, q8, hf⟩ := cal1_some hf
        refine pg_callV (As := [.int x1]) (rest := []) (st1 := []) (ci := 0) hC hml hP hS (c_X0_ease l hC.2.2.2.2.2.1 q8 k_25) ⟨by decide, by decide, rfl, rfl⟩ ⟨rfl, rfl⟩ (by decide) rfl (by decide) k_25 rfl rfl ⟨mk_X6_159, mi_X0_ease⟩ hd_X0_ease rfl hl.1 (Nat.le_of_ble_eq_true rfl) dX6_rests_65 (fun H locs hP hS => ?_)
        refine lv_aload_n hx hb dX6_rests_68 rfl (lv_at hl 0 rfl) ?_
        obtain ⟨S9, q10, hf⟩ := cal1_some hf
        refine pg_callV (As := []) (rest := []) (st1 := []) (ci := 6) hC hml hP hS (c_X6_moved l hC.2.2.2.2.2.1 q10) ⟨by decide, by decide, rfl, rfl⟩ ⟨rfl, rfl⟩ (by decide) rfl (by decide) k_0 rfl rfl ⟨mk_X6_87, mi_X6_moved⟩ hd_X6_moved rfl hl.1 (Nat.le_of_ble_eq_true rfl) dX6_rests_69 (fun H locs hP hS => ?_)
        refine lv_aload_n hx hb dX6_rests_72 rfl (lv_at hl 0 rfl) ?_
        refine gf_X6_29 hC hP k_0 (v := .ref (ad 24)) rfl dX6_rests_73 ?_
        refine gf_X6_99 hC hP k_24 (v := .ref (ad 25)) rfl dX6_rests_76 ?_
        refine gf_X6_142 hC hP k_25 (v := .int (gI S9 1 25)) rfl dX6_rests_79 ?_
        exact pg_iret hC hr hlk hP hS hf dX6_rests_82
      · replace hf := ite_f c3 hf
        refine lv_bipush (v := -2) hx hb dX6_rests_31 (by decide) ?_
        exact pg_iret hC hr hlk hP hS hf dX6_rests_33
    · replace hf := ite_f c2 hf
      refine lv_iconst (v := -1) hx hb dX6_rests_11 (by decide) ?_
      exact pg_iret hC hr hlk hP hS hf dX6_rests_12
def P_X6_undo (N : Nat) (S : PSt) : Option (Int32 × PSt) := if (1 : Int32) ≤ (gI S 501 24) then (cal1 (P_X5_takeBack N S 24) fun S2 => cal1 (P_X6_moved N S2) fun S4 => some ((gI S4 501 24), S4)) else (some ((-2 : Int32), S))
set_option maxHeartbeats 4000000 in
set_option maxRecDepth 100000 in
theorem c_X6_undo (l : Launch) {D : va_G} {cy : Nat → ClassId} {ad tb : Nat → Nat} (hJ : pJ ad) {N : Nat} {S S' : PSt} {r : Int32} (hf : P_X6_undo N S = some (r, S')) : Ct l 3 yX6_undo cX6_undo 1 (some .int) D cy ad tb S S' [.ref (ad 0)] (some (.int r)) := by
  refine Ct_of hJ (by decide) (Nat.le_of_ble_eq_true rfl) (fun p e s m below meth c ls hX hP hS hl => ?_)
  have hl : lv_has ls 1 [(0, .ref (ad 0))] := hl
  have hX0 := hX
  obtain ⟨hC, hml, hr, hlk⟩ := hX0
  have hx := hC.1
  have hb := hC.2.1
  unfold P_X6_undo at hf
  refine lv_aload_n hx hb dX6_undo_0 rfl (lv_at hl 0 rfl) ?_
  refine gf_X6_29 hC hP k_0 (v := .ref (ad 24)) rfl dX6_undo_1 ?_
  refine gf_X6_163 hC hP k_24 (v := .int (gI S 501 24)) rfl dX6_undo_4 ?_
  refine lv_iconst (v := 1) hx hb dX6_undo_7 (by decide) ?_
  refine lv_icmp_ge (tgt := 14) hx hb dX6_undo_8 (by decide) (fun c1 => ?_) (fun c1 => ?_)
  · replace hf := ite_t c1 hf
    refine lv_aload_n hx hb dX6_undo_14 rfl (lv_at hl 0 rfl) ?_
    refine gf_X6_29 hC hP k_0 (v := .ref (ad 24)) rfl dX6_undo_15 ?_
    obtain ⟨S2, q3, hf⟩ := cal1_some hf
    refine pg_callV (As := []) (rest := []) (st1 := []) (ci := 5) hC hml hP hS (c_X5_takeBack l hC.2.2.2.2.2.1 q3 k_24) ⟨by decide, by decide, rfl, rfl⟩ ⟨rfl, rfl⟩ (by decide) rfl (by decide) k_24 rfl rfl ⟨mk_X6_166, mi_X5_takeBack⟩ hd_X5_takeBack rfl hl.1 (Nat.le_of_ble_eq_true rfl) dX6_undo_18 (fun H locs hP hS => ?_)
    refine lv_aload_n hx hb dX6_undo_21 rfl (lv_at hl 0 rfl) ?_
    obtain ⟨S4, q5, hf⟩ := cal1_some hf
    refine pg_callV (As := []) (rest := []) (st1 := []) (ci := 6) hC hml hP hS (c_X6_moved l hC.2.2.2.2.2.1 q5) ⟨by decide, by decide, rfl, rfl⟩ ⟨rfl, rfl⟩ (by decide) rfl (by decide) k_0 rfl rfl ⟨mk_X6_87, mi_X6_moved⟩ hd_X6_moved rfl hl.1 (Nat.le_of_ble_eq_true rfl) dX6_undo_22 (fun H locs hP hS => ?_)
    refine lv_aload_n hx hb dX6_undo_25 rfl (lv_at hl 0 rfl) ?_
    refine gf_X6_29 hC hP k_0 (v := .ref (ad 24)) rfl dX6_undo_26 ?_
    refine gf_X6_163 hC hP k_24 (v := .int (gI S4 501 24)) rfl dX6_undo_29 ?_
    exact pg_iret hC hr hlk hP hS hf dX6_undo_32
  · replace hf := ite_f c1 hf
    refine lv_bipush (v := -2) hx hb dX6_undo_11 (by decide) ?_
    exact pg_iret hC hr hlk hP hS hf dX6_undo_13
def P_X6_now (N : Nat) (S : PSt) (x1 : Int32) : Option (Int32 × PSt) := if x1 = (0 : Int32) then (some ((gI S 0 25), S)) else (if x1 = (1 : Int32) then (some ((gI S 1 25), S)) else (if x1 = (2 : Int32) then (some ((gI S 2 25), S)) else (if x1 = (3 : Int32) then (bnd (gR S 601 0) fun t5 => gd (isk t5 4) <| cal2 (P_X0_wornBits N S 25 t5) fun r9 S7 => some (r9, S7)) else (if x1 = (4 : Int32) then (bnd (gR S 601 0) fun t11 => gd (isk t11 4) <| cal2 (P_X4_isFree N S t11 (gI S 1 25)) fun r15 S13 => if r15 = (0 : Int32) then (some ((0 : Int32), S13)) else (some ((1 : Int32), S13))) else (if x1 = (5 : Int32) then (bnd (gR S 601 0) fun t18 => gd (isk t18 4) <| bnd (gR S 601 0) fun t20 => gd (isk t20 4) <| cal2 (P_X4_furlongs N S t18 (gI S 0 25) (gI S 401 t20)) fun r24 S22 => some (r24, S22)) else (if x1 = (6 : Int32) then (bnd (gR S 601 0) fun t26 => gd (isk t26 4) <| if (gI S 0 25) < (gI S 401 t26) then (some ((0 : Int32), S)) else (some ((1 : Int32), S))) else (some ((-1 : Int32), S))))))))
set_option maxHeartbeats 4000000 in
set_option maxRecDepth 100000 in
theorem c_X6_now (l : Launch) {D : va_G} {cy : Nat → ClassId} {ad tb : Nat → Nat} (hJ : pJ ad) {N : Nat} {S S' : PSt} {x1 : Int32} {r : Int32} (hf : P_X6_now N S x1 = some (r, S')) : Ct l 3 yX6_now cX6_now 3 (some .int) D cy ad tb S S' [.ref (ad 0), .int x1] (some (.int r)) := by
  refine Ct_of hJ (by decide) (Nat.le_of_ble_eq_true rfl) (fun p e s m below meth c ls hX hP hS hl => ?_)
  have hl : lv_has ls 3 [(0, .ref (ad 0)), (1, .int x1)] := hl
  have hX0 := hX
  obtain ⟨hC, hml, hr, hlk⟩ := hX0
  have hx := hC.1
  have hb := hC.2.1
  unfold P_X6_now at hf
  refine lv_aload_n hx hb dX6_now_0 rfl (lv_at hl 0 rfl) ?_
  refine gf_X6_29 hC hP k_0 (v := .ref (ad 24)) rfl dX6_now_1 ?_
  refine gf_X6_99 hC hP k_24 (v := .ref (ad 25)) rfl dX6_now_4 ?_
  refine lv_astore_n (lv' := [(2, .ref (ad 25)), (0, .ref (ad 0)), (1, .int x1)]) hx hb dX6_now_7 rfl hl (by decide) rfl (fun ls hl => ?_)
  refine lv_iload_n hx hb dX6_now_8 rfl (lv_at hl 2 rfl) ?_
  by_cases c1 : x1 = (0 : Int32)
  · replace hf := ite_t c1 hf
    refine lv_tableIn (off := 43) (tgt := 52) hx hb dX6_now_9 (by rw [c1]; decide) (by rw [c1]; decide) (by rw [c1]; decide) (by decide) ?_
    refine lv_aload_n hx hb dX6_now_52 rfl (lv_at hl 0 rfl) ?_
    refine gf_X6_132 hC hP k_25 (v := .int (gI S 0 25)) rfl dX6_now_53 ?_
    exact pg_iret hC hr hlk hP hS hf dX6_now_56
  · replace hf := ite_f c1 hf
    by_cases c2 : x1 = (1 : Int32)
    · replace hf := ite_t c2 hf
      refine lv_tableIn (off := 48) (tgt := 57) hx hb dX6_now_9 (by rw [c2]; decide) (by rw [c2]; decide) (by rw [c2]; decide) (by decide) ?_
      refine lv_aload_n hx hb dX6_now_57 rfl (lv_at hl 0 rfl) ?_
      refine gf_X6_142 hC hP k_25 (v := .int (gI S 1 25)) rfl dX6_now_58 ?_
      exact pg_iret hC hr hlk hP hS hf dX6_now_61
    · replace hf := ite_f c2 hf
      by_cases c3 : x1 = (2 : Int32)
      · replace hf := ite_t c3 hf
        refine lv_tableIn (off := 53) (tgt := 62) hx hb dX6_now_9 (by rw [c3]; decide) (by rw [c3]; decide) (by rw [c3]; decide) (by decide) ?_
        refine lv_aload_n hx hb dX6_now_62 rfl (lv_at hl 0 rfl) ?_
        refine gf_X6_152 hC hP k_25 (v := .int (gI S 2 25)) rfl dX6_now_63 ?_
        exact pg_iret hC hr hlk hP hS hf dX6_now_66
      · replace hf := ite_f c3 hf
        by_cases c4 : x1 = (3 : Int32)
        · replace hf := ite_t c4 hf
          refine lv_tableIn (off := 58) (tgt := 67) hx hb dX6_now_9 (by rw [c4]; decide) (by rw [c4]; decide) (by rw [c4]; decide) (by decide) ?_
          refine lv_aload_n hx hb dX6_now_67 rfl (lv_at hl 0 rfl) ?_
          refine lv_aload_n hx hb dX6_now_68 rfl (lv_at hl 1 rfl) ?_
          obtain ⟨t5, et5, hf⟩ := bnd_some hf
          obtain ⟨h6, hf⟩ := gd_some hf
          have h_t5 := isk_eq h6
          refine gf_X6_19 hC hP k_0 (v := .ref (ad t5)) (by rw [et5]) dX6_now_69 ?_
          obtain ⟨r9, S7, q8, hf⟩ := cal2_some hf
          refine pg_callV (As := [.ref (ad t5)]) (rest := []) (st1 := [.int r9]) (ci := 0) hC hml hP hS (c_X0_wornBits l hC.2.2.2.2.2.1 q8 k_25 h_t5) ⟨by decide, by decide, rfl, rfl⟩ ⟨rfl, rfl⟩ (by decide) rfl (by decide) k_25 rfl rfl ⟨mk_X6_169, mi_X0_wornBits⟩ hd_X0_wornBits rfl hl.1 (Nat.le_of_ble_eq_true rfl) dX6_now_72 (fun H locs hP hS => ?_)
          exact pg_iret hC hr hlk hP hS hf dX6_now_75
        · replace hf := ite_f c4 hf
          by_cases c10 : x1 = (4 : Int32)
          · replace hf := ite_t c10 hf
            refine lv_tableIn (off := 67) (tgt := 76) hx hb dX6_now_9 (by rw [c10]; decide) (by rw [c10]; decide) (by rw [c10]; decide) (by decide) ?_
            refine lv_aload_n hx hb dX6_now_76 rfl (lv_at hl 1 rfl) ?_
            obtain ⟨t11, et11, hf⟩ := bnd_some hf
            obtain ⟨h12, hf⟩ := gd_some hf
            have h_t11 := isk_eq h12
            refine gf_X6_19 hC hP k_0 (v := .ref (ad t11)) (by rw [et11]) dX6_now_77 ?_
            refine lv_aload_n hx hb dX6_now_80 rfl (lv_at hl 0 rfl) ?_
            refine gf_X6_142 hC hP k_25 (v := .int (gI S 1 25)) rfl dX6_now_81 ?_
            obtain ⟨r15, S13, q14, hf⟩ := cal2_some hf
            refine pg_callV (As := [.int (gI S 1 25)]) (rest := []) (st1 := [.int r15]) (ci := 4) hC hml hP hS (c_X4_isFree l hC.2.2.2.2.2.1 q14 h_t11) ⟨by decide, by decide, rfl, rfl⟩ ⟨rfl, rfl⟩ (by decide) rfl (by decide) h_t11 rfl rfl ⟨mk_X6_172, mi_X4_isFree⟩ hd_X4_isFree rfl hl.1 (Nat.le_of_ble_eq_true rfl) dX6_now_84 (fun H locs hP hS => ?_)
            refine lv_if_eq (tgt := 94) hx hb dX6_now_87 (by decide) (fun c16 => ?_) (fun c16 => ?_)
            · replace hf := ite_t c16 hf
              refine lv_iconst (v := 0) hx hb dX6_now_94 (by decide) ?_
              exact pg_iret hC hr hlk hP hS hf dX6_now_95
            · replace hf := ite_f c16 hf
              refine lv_iconst (v := 1) hx hb dX6_now_90 (by decide) ?_
              refine lv_goto (tgt := 95) hx hb dX6_now_91 (by decide) ?_
              exact pg_iret hC hr hlk hP hS hf dX6_now_95
          · replace hf := ite_f c10 hf
            by_cases c17 : x1 = (5 : Int32)
            · replace hf := ite_t c17 hf
              refine lv_tableIn (off := 87) (tgt := 96) hx hb dX6_now_9 (by rw [c17]; decide) (by rw [c17]; decide) (by rw [c17]; decide) (by decide) ?_
              refine lv_aload_n hx hb dX6_now_96 rfl (lv_at hl 1 rfl) ?_
              obtain ⟨t18, et18, hf⟩ := bnd_some hf
              obtain ⟨h19, hf⟩ := gd_some hf
              have h_t18 := isk_eq h19
              refine gf_X6_19 hC hP k_0 (v := .ref (ad t18)) (by rw [et18]) dX6_now_97 ?_
              refine lv_aload_n hx hb dX6_now_100 rfl (lv_at hl 0 rfl) ?_
              refine gf_X6_132 hC hP k_25 (v := .int (gI S 0 25)) rfl dX6_now_101 ?_
              refine lv_aload_n hx hb dX6_now_104 rfl (lv_at hl 1 rfl) ?_
              obtain ⟨t20, et20, hf⟩ := bnd_some hf
              obtain ⟨h21, hf⟩ := gd_some hf
              have h_t20 := isk_eq h21
              refine gf_X6_19 hC hP k_0 (v := .ref (ad t20)) (by rw [et20]) dX6_now_105 ?_
              refine gf_X6_135 hC hP h_t20 (v := .int (gI S 401 t20)) rfl dX6_now_108 ?_
              obtain ⟨r24, S22, q23, hf⟩ := cal2_some hf
              refine pg_callV (As := [.int (gI S 0 25), .int (gI S 401 t20)]) (rest := []) (st1 := [.int r24]) (ci := 4) hC hml hP hS (c_X4_furlongs l hC.2.2.2.2.2.1 q23 h_t18) ⟨by decide, by decide, rfl, rfl⟩ ⟨rfl, rfl⟩ (by decide) rfl (by decide) h_t18 rfl rfl ⟨mk_X6_175, mi_X4_furlongs⟩ hd_X4_furlongs rfl hl.1 (Nat.le_of_ble_eq_true rfl) dX6_now_111 (fun H locs hP hS => ?_)
              exact pg_iret hC hr hlk hP hS hf dX6_now_114
            · replace hf := ite_f c17 hf
              by_cases c25 : x1 = (6 : Int32)
              · replace hf := ite_t c25 hf
                refine lv_tableIn (off := 106) (tgt := 115) hx hb dX6_now_9 (by rw [c25]; decide) (by rw [c25]; decide) (by rw [c25]; decide) (by decide) ?_
                refine lv_aload_n hx hb dX6_now_115 rfl (lv_at hl 0 rfl) ?_
                refine gf_X6_132 hC hP k_25 (v := .int (gI S 0 25)) rfl dX6_now_116 ?_
                refine lv_aload_n hx hb dX6_now_119 rfl (lv_at hl 1 rfl) ?_
                obtain ⟨t26, et26, hf⟩ := bnd_some hf
                obtain ⟨h27, hf⟩ := gd_some hf
                have h_t26 := isk_eq h27
                refine gf_X6_19 hC hP k_0 (v := .ref (ad t26)) (by rw [et26]) dX6_now_120 ?_
                refine gf_X6_135 hC hP h_t26 (v := .int (gI S 401 t26)) rfl dX6_now_123 ?_
                refine lv_icmp_lt (tgt := 133) hx hb dX6_now_126 (by decide) (fun c28 => ?_) (fun c28 => ?_)
                · replace hf := ite_t c28 hf
                  refine lv_iconst (v := 0) hx hb dX6_now_133 (by decide) ?_
                  exact pg_iret hC hr hlk hP hS hf dX6_now_134
                · replace hf := ite_f c28 hf
                  refine lv_iconst (v := 1) hx hb dX6_now_129 (by decide) ?_
                  refine lv_goto (tgt := 134) hx hb dX6_now_130 (by decide) ?_
                  exact pg_iret hC hr hlk hP hS hf dX6_now_134
              · replace hf := ite_f c25 hf
                refine lv_tableOut (tgt := 135) hx hb dX6_now_9 (sw_out 0 6 (fun k h1 h2 hk => by
                  rcases (show k = 0 ∨ k = 1 ∨ k = 2 ∨ k = 3 ∨ k = 4 ∨ k = 5 ∨ k = 6 by omega) with h | h | h | h | h | h | h
                  · subst h; exact c1 (hk.trans (by decide))
                  · subst h; exact c2 (hk.trans (by decide))
                  · subst h; exact c3 (hk.trans (by decide))
                  · subst h; exact c4 (hk.trans (by decide))
                  · subst h; exact c10 (hk.trans (by decide))
                  · subst h; exact c17 (hk.trans (by decide))
                  · subst h; exact c25 (hk.trans (by decide)))) (by decide) ?_
                refine lv_iconst (v := -1) hx hb dX6_now_135 (by decide) ?_
                exact pg_iret hC hr hlk hP hS hf dX6_now_136
def P_X6_planned_L35 (N : Nat) (S : PSt) (a1 : Nat) (x2 : Int32) : Option (Int32 × PSt) := if (0 : Int32) ≤ x2 then (gd (bin x2 (ln (a1 + 1))) <| some ((gA S (a1 + 1) x2.toNatClampNeg), S)) else (some ((gI S 101 a1), S))
set_option maxHeartbeats 4000000 in
set_option maxRecDepth 100000 in
theorem w_X6_planned_L35 {N : Nat} {S' : PSt} {r : Int32} (hX : Mx p s m args c meth cX6_planned RX6 3 (some .int) D cy ad tb) : ∀ (S : PSt) (a1 : Nat) (x2 : Int32) (H : Heap) (locs : List Loc) (ls : Array Slot), P_X6_planned_L35 N S a1 x2 = some (r, S') → kd a1 = 1 → va_P D vwCl (pW cy ad S) H → va_S (pA ad s.heap.size) s.heap H locs → lv_has ls 3 [(1, .ref (ad a1)), (2, .int x2)] → W p l e (rmd 14) s m args below meth c H locs 0 0 (Qz D cy ad below args s S' (some (.int r))) (F0 m 35 ls []) := by
  have hX0 := hX
  obtain ⟨hC, hml, hr, hlk⟩ := hX0
  have hx := hC.1
  have hb := hC.2.1
  intro S a1 x2 H locs ls hf h_a1 hP hS hl
  unfold P_X6_planned_L35 at hf
  refine lv_iload_n hx hb dX6_planned_35 rfl (lv_at hl 1 rfl) ?_
  refine lv_if_ge (tgt := 46) hx hb dX6_planned_36 (by decide) (fun c1 => ?_) (fun c1 => ?_)
  · replace hf := ite_t c1 hf
    refine lv_aload_n hx hb dX6_planned_46 rfl (lv_at hl 0 rfl) ?_
    refine gf_X6_192 hC hP h_a1 (v := .ref (ad (a1 + 1))) rfl dX6_planned_47 ?_
    refine lv_iload_n hx hb dX6_planned_50 rfl (lv_at hl 1 rfl) ?_
    obtain ⟨h2, hf⟩ := gd_some hf
    refine pg_iald hC hP (ko_1_1 h_a1) (bin_in h2) dX6_planned_51 ?_
    exact pg_iret hC hr hlk hP hS hf dX6_planned_52
  · replace hf := ite_f c1 hf
    refine lv_aload_n hx hb dX6_planned_39 rfl (lv_at hl 0 rfl) ?_
    refine gf_X6_189 hC hP h_a1 (v := .int (gI S 101 a1)) rfl dX6_planned_40 ?_
    refine lv_goto (tgt := 52) hx hb dX6_planned_43 (by decide) ?_
    exact pg_iret hC hr hlk hP hS hf dX6_planned_52
def P_X6_planned (N : Nat) (S : PSt) (a1 : Nat) (x2 : Int32) : Option (Int32 × PSt) := if x2 < (-1 : Int32) then (some ((-1 : Int32), S)) else (if x2 < (6 : Int32) then (if (gI S 100 a1) = (0 : Int32) then (bnd (gR S 601 0) fun t6 => gd (isk t6 4) <| cal1 (P_X1_plan N S a1 t6 25) fun S8 => P_X6_planned_L35 N S8 a1 x2) else (P_X6_planned_L35 N S a1 x2)) else (some ((-1 : Int32), S)))
set_option maxHeartbeats 4000000 in
set_option maxRecDepth 100000 in
theorem c_X6_planned (l : Launch) {D : va_G} {cy : Nat → ClassId} {ad tb : Nat → Nat} (hJ : pJ ad) {N : Nat} {S S' : PSt} {a1 : Nat} {x2 : Int32} {r : Int32} (hf : P_X6_planned N S a1 x2 = some (r, S')) (h_a1 : kd a1 = 1) : Ct l 14 yX6_planned cX6_planned 3 (some .int) D cy ad tb S S' [.ref (ad 0), .ref (ad a1), .int x2] (some (.int r)) := by
  refine Ct_of hJ (by decide) (Nat.le_of_ble_eq_true rfl) (fun p e s m below meth c ls hX hP hS hl => ?_)
  have hl : lv_has ls 3 [(0, .ref (ad 0)), (1, .ref (ad a1)), (2, .int x2)] := hl
  have hX0 := hX
  obtain ⟨hC, hml, hr, hlk⟩ := hX0
  have hx := hC.1
  have hb := hC.2.1
  unfold P_X6_planned at hf
  refine lv_iload_n hx hb dX6_planned_0 rfl (lv_at hl 2 rfl) ?_
  refine lv_iconst (v := -1) hx hb dX6_planned_1 (by decide) ?_
  refine lv_icmp_lt (tgt := 11) hx hb dX6_planned_2 (by decide) (fun c3 => ?_) (fun c3 => ?_)
  · replace hf := ite_t c3 hf
    refine lv_iconst (v := -1) hx hb dX6_planned_11 (by decide) ?_
    exact pg_iret hC hr hlk hP hS hf dX6_planned_12
  · replace hf := ite_f c3 hf
    refine lv_iload_n hx hb dX6_planned_5 rfl (lv_at hl 2 rfl) ?_
    refine lv_bipush (v := 6) hx hb dX6_planned_6 (by decide) ?_
    refine lv_icmp_lt (tgt := 13) hx hb dX6_planned_8 (by decide) (fun c4 => ?_) (fun c4 => ?_)
    · replace hf := ite_t c4 hf
      refine lv_aload_n hx hb dX6_planned_13 rfl (lv_at hl 1 rfl) ?_
      refine gf_X6_179 hC hP h_a1 (v := .int (gI S 100 a1)) rfl dX6_planned_14 ?_
      refine lv_if_ne (tgt := 35) hx hb dX6_planned_17 (by decide) (fun c5 => ?_) (fun c5 => ?_)
      · replace hf := ite_f c5 hf
        exact w_X6_planned_L35 hX _ _ _ _ _ _ hf h_a1 hP hS (lv_sub hl [1, 2] rfl)
      · replace hf := ite_t c5 hf
        refine lv_aload_n hx hb dX6_planned_20 rfl (lv_at hl 1 rfl) ?_
        refine lv_aload_n hx hb dX6_planned_21 rfl (lv_at hl 0 rfl) ?_
        obtain ⟨t6, et6, hf⟩ := bnd_some hf
        obtain ⟨h7, hf⟩ := gd_some hf
        have h_t6 := isk_eq h7
        refine gf_X6_19 hC hP k_0 (v := .ref (ad t6)) (by rw [et6]) dX6_planned_22 ?_
        refine lv_aload_n hx hb dX6_planned_25 rfl (lv_at hl 0 rfl) ?_
        refine gf_X6_29 hC hP k_0 (v := .ref (ad 24)) rfl dX6_planned_26 ?_
        refine gf_X6_99 hC hP k_24 (v := .ref (ad 25)) rfl dX6_planned_29 ?_
        obtain ⟨S8, q9, hf⟩ := cal1_some hf
        refine pg_callV (As := [.ref (ad t6), .ref (ad 25)]) (rest := []) (st1 := []) (ci := 1) hC hml hP hS (c_X1_plan l hC.2.2.2.2.2.1 q9 h_a1 h_t6 k_25) ⟨by decide, by decide, rfl, rfl⟩ ⟨rfl, rfl⟩ (by decide) rfl (by decide) h_a1 rfl rfl ⟨mk_X6_185, mi_X1_plan⟩ hd_X1_plan rfl hl.1 (Nat.le_of_ble_eq_true rfl) dX6_planned_32 (fun H locs hP hS => ?_)
        exact w_X6_planned_L35 hX _ _ _ _ _ _ hf h_a1 hP hS (lv_sub hl [1, 2] rfl)
    · replace hf := ite_f c4 hf
      refine lv_iconst (v := -1) hx hb dX6_planned_11 (by decide) ?_
      exact pg_iret hC hr hlk hP hS hf dX6_planned_12
def P_X6_best (N : Nat) (S : PSt) (x1 : Int32) : Option (Int32 × PSt) := cal2 (P_X6_planned N S 120 x1) fun r3 S1 => some (r3, S1)
set_option maxHeartbeats 4000000 in
set_option maxRecDepth 100000 in
theorem c_X6_best (l : Launch) {D : va_G} {cy : Nat → ClassId} {ad tb : Nat → Nat} (hJ : pJ ad) {N : Nat} {S S' : PSt} {x1 : Int32} {r : Int32} (hf : P_X6_best N S x1 = some (r, S')) : Ct l 15 yX6_best cX6_best 2 (some .int) D cy ad tb S S' [.ref (ad 0), .int x1] (some (.int r)) := by
  refine Ct_of hJ (by decide) (Nat.le_of_ble_eq_true rfl) (fun p e s m below meth c ls hX hP hS hl => ?_)
  have hl : lv_has ls 2 [(0, .ref (ad 0)), (1, .int x1)] := hl
  have hX0 := hX
  obtain ⟨hC, hml, hr, hlk⟩ := hX0
  have hx := hC.1
  have hb := hC.2.1
  unfold P_X6_best at hf
  refine lv_aload_n hx hb dX6_best_0 rfl (lv_at hl 0 rfl) ?_
  refine lv_aload_n hx hb dX6_best_1 rfl (lv_at hl 0 rfl) ?_
  refine gf_X6_53 hC hP k_0 (v := .ref (ad 120)) rfl dX6_best_2 ?_
  refine lv_iload_n hx hb dX6_best_5 rfl (lv_at hl 1 rfl) ?_
  obtain ⟨r3, S1, q2, hf⟩ := cal2_some hf
  refine pg_callV (As := [.ref (ad 120), .int x1]) (rest := []) (st1 := [.int r3]) (ci := 6) hC hml hP hS (c_X6_planned l hC.2.2.2.2.2.1 q2 k_120) ⟨by decide, by decide, rfl, rfl⟩ ⟨rfl, rfl⟩ (by decide) rfl (by decide) k_0 rfl rfl ⟨mk_X6_182, mi_X6_planned⟩ hd_X6_planned rfl hl.1 (Nat.le_of_ble_eq_true rfl) dX6_best_6 (fun H locs hP hS => ?_)
  exact pg_iret hC hr hlk hP hS hf dX6_best_9
def P_X6_fresh (N : Nat) (S : PSt) (x1 : Int32) : Option (Int32 × PSt) := cal2 (P_X6_planned N S 138 x1) fun r3 S1 => some (r3, S1)
set_option maxHeartbeats 4000000 in
set_option maxRecDepth 100000 in
theorem c_X6_fresh (l : Launch) {D : va_G} {cy : Nat → ClassId} {ad tb : Nat → Nat} (hJ : pJ ad) {N : Nat} {S S' : PSt} {x1 : Int32} {r : Int32} (hf : P_X6_fresh N S x1 = some (r, S')) : Ct l 15 yX6_fresh cX6_fresh 2 (some .int) D cy ad tb S S' [.ref (ad 0), .int x1] (some (.int r)) := by
  refine Ct_of hJ (by decide) (Nat.le_of_ble_eq_true rfl) (fun p e s m below meth c ls hX hP hS hl => ?_)
  have hl : lv_has ls 2 [(0, .ref (ad 0)), (1, .int x1)] := hl
  have hX0 := hX
  obtain ⟨hC, hml, hr, hlk⟩ := hX0
  have hx := hC.1
  have hb := hC.2.1
  unfold P_X6_fresh at hf
  refine lv_aload_n hx hb dX6_fresh_0 rfl (lv_at hl 0 rfl) ?_
  refine lv_aload_n hx hb dX6_fresh_1 rfl (lv_at hl 0 rfl) ?_
  refine gf_X6_57 hC hP k_0 (v := .ref (ad 138)) rfl dX6_fresh_2 ?_
  refine lv_iload_n hx hb dX6_fresh_5 rfl (lv_at hl 1 rfl) ?_
  obtain ⟨r3, S1, q2, hf⟩ := cal2_some hf
  refine pg_callV (As := [.ref (ad 138), .int x1]) (rest := []) (st1 := [.int r3]) (ci := 6) hC hml hP hS (c_X6_planned l hC.2.2.2.2.2.1 q2 k_138) ⟨by decide, by decide, rfl, rfl⟩ ⟨rfl, rfl⟩ (by decide) rfl (by decide) k_0 rfl rfl ⟨mk_X6_182, mi_X6_planned⟩ hd_X6_planned rfl hl.1 (Nat.le_of_ble_eq_true rfl) dX6_fresh_6 (fun H locs hP hS => ?_)
  exact pg_iret hC hr hlk hP hS hf dX6_fresh_9
def P_X6_minutesWithHired_L28 (N : Nat) : Nat → PSt → Int32 → Int32 → Int32 → Int32 → Option (Int32 × PSt)
  | 0 => fun _ _ _ _ _ => none
  | n + 1 => fun S x1 x2 x3 x4 => bnd (gR S 601 0) fun t1 => gd (isk t1 4) <| if (gI S 401 t1) ≤ x4 then (some (x3, S)) else (if ((x2 >>> (x4 &&& 31)) &&& (1 : Int32)) = (1 : Int32) then (bnd (gR S 601 0) fun t17 => gd (isk t17 4) <| gd (bin x4 (ln (t17 + 3))) <| bnd (x3 + ((3 : Int32) * (gA S (t17 + 3) x4.toNatClampNeg))) fun v20 => bnd (gR S 601 0) fun t21 => gd (isk t21 4) <| gd (bin x4 (ln (t21 + 3))) <| cal1 (P_X0_ease N S 156 (gA S (t21 + 3) x4.toNatClampNeg)) fun S24 => bnd (x4 + (1 : Int32)) fun v26 => P_X6_minutesWithHired_L28 N n S24 x1 x2 v20 v26) else (bnd (gR S 601 0) fun t5 => gd (isk t5 4) <| cal2 (P_X0_minutesOn N S 156 t5 x4 x1) fun r9 S7 => bnd (x3 + r9) fun v10 => bnd (gR S7 601 0) fun t11 => gd (isk t11 4) <| gd (bin x4 (ln (t11 + 3))) <| cal1 (P_X0_tire N S7 156 x1 (gA S7 (t11 + 3) x4.toNatClampNeg)) fun S14 => bnd (x4 + (1 : Int32)) fun v16 => P_X6_minutesWithHired_L28 N n S14 x1 x2 v10 v16))
set_option maxHeartbeats 4000000 in
set_option maxRecDepth 100000 in
theorem w_X6_minutesWithHired_L28 {N : Nat} {S' : PSt} {r : Int32} (hX : Mx p s m args c meth cX6_minutesWithHired RX6 5 (some .int) D cy ad tb) : ∀ (n : Nat), ∀ (S : PSt) (x1 : Int32) (x2 : Int32) (x3 : Int32) (x4 : Int32) (H : Heap) (locs : List Loc) (ls : Array Slot), P_X6_minutesWithHired_L28 N n S x1 x2 x3 x4 = some (r, S') → va_P D vwCl (pW cy ad S) H → va_S (pA ad s.heap.size) s.heap H locs → lv_has ls 5 [(0, .ref (ad 0)), (1, .int x1), (2, .int x2), (3, .int x3), (4, .int x4)] → W p l e (rmd 3) s m args below meth c H locs 0 0 (Qz D cy ad below args s S' (some (.int r))) (F0 m 28 ls []) := by
  have hX0 := hX
  obtain ⟨hC, hml, hr, hlk⟩ := hX0
  have hx := hC.1
  have hb := hC.2.1
  intro n
  induction n with
  | zero => intro S x1 x2 x3 x4 H locs ls hf; exact absurd hf (by intro h; cases h)
  | succ n ih =>
    intro S x1 x2 x3 x4 H locs ls hf  hP hS hl
    rw [P_X6_minutesWithHired_L28] at hf
    refine lv_iload hx hb dX6_minutesWithHired_28 (lv_at hl 4 rfl) ?_
    refine lv_aload_n hx hb dX6_minutesWithHired_30 rfl (lv_at hl 0 rfl) ?_
    obtain ⟨t1, et1, hf⟩ := bnd_some hf
    obtain ⟨h2, hf⟩ := gd_some hf
    have h_t1 := isk_eq h2
    refine gf_X6_19 hC hP k_0 (v := .ref (ad t1)) (by rw [et1]) dX6_minutesWithHired_31 ?_
    refine gf_X6_135 hC hP h_t1 (v := .int (gI S 401 t1)) rfl dX6_minutesWithHired_34 ?_
    refine lv_icmp_ge (tgt := 126) hx hb dX6_minutesWithHired_37 (by decide) (fun c3 => ?_) (fun c3 => ?_)
    · replace hf := ite_t c3 hf
      refine lv_iload_n hx hb dX6_minutesWithHired_126 rfl (lv_at hl 3 rfl) ?_
      exact pg_iret hC hr hlk hP hS hf dX6_minutesWithHired_127
    · replace hf := ite_f c3 hf
      refine lv_iload_n hx hb dX6_minutesWithHired_40 rfl (lv_at hl 2 rfl) ?_
      refine lv_iload hx hb dX6_minutesWithHired_41 (lv_at hl 4 rfl) ?_
      refine lv_ishr hx hb dX6_minutesWithHired_43 ?_
      refine lv_iconst (v := 1) hx hb dX6_minutesWithHired_44 (by decide) ?_
      refine lv_iand hx hb dX6_minutesWithHired_45 ?_
      refine lv_iconst (v := 1) hx hb dX6_minutesWithHired_46 (by decide) ?_
      refine lv_icmp_ne (tgt := 85) hx hb dX6_minutesWithHired_47 (by decide) (fun c4 => ?_) (fun c4 => ?_)
      · replace hf := ite_f c4 hf
        refine lv_iload_n hx hb dX6_minutesWithHired_85 rfl (lv_at hl 3 rfl) ?_
        refine lv_aload_n hx hb dX6_minutesWithHired_86 rfl (lv_at hl 0 rfl) ?_
        refine gf_X6_63 hC hP k_0 (v := .ref (ad 156)) rfl dX6_minutesWithHired_87 ?_
        refine lv_aload_n hx hb dX6_minutesWithHired_90 rfl (lv_at hl 0 rfl) ?_
        obtain ⟨t5, et5, hf⟩ := bnd_some hf
        obtain ⟨h6, hf⟩ := gd_some hf
        have h_t5 := isk_eq h6
        refine gf_X6_19 hC hP k_0 (v := .ref (ad t5)) (by rw [et5]) dX6_minutesWithHired_91 ?_
        refine lv_iload hx hb dX6_minutesWithHired_94 (lv_at hl 4 rfl) ?_
        refine lv_iload_n hx hb dX6_minutesWithHired_96 rfl (lv_at hl 1 rfl) ?_
        obtain ⟨r9, S7, q8, hf⟩ := cal2_some hf
        refine pg_callV (As := [.ref (ad t5), .int x4, .int x1]) (rest := [.int x3]) (st1 := [.int r9, .int x3]) (ci := 0) hC hml hP hS (c_X0_minutesOn l hC.2.2.2.2.2.1 q8 k_156 h_t5) ⟨by decide, by decide, rfl, rfl⟩ ⟨rfl, rfl⟩ (by decide) rfl (by decide) k_156 rfl rfl ⟨mk_X6_128, mi_X0_minutesOn⟩ hd_X0_minutesOn rfl hl.1 (Nat.le_of_ble_eq_true rfl) dX6_minutesWithHired_97 (fun H locs hP hS => ?_)
        refine lv_iadd hx hb dX6_minutesWithHired_100 ?_
        obtain ⟨v10, ev10, hf⟩ := bnd_some hf
        refine pg_top ev10 ?_
        refine lv_istore_n (lv' := [(3, .int v10), (0, .ref (ad 0)), (1, .int x1), (2, .int x2), (4, .int x4)]) hx hb dX6_minutesWithHired_101 rfl hl (by decide) rfl (fun ls hl => ?_)
        refine lv_aload_n hx hb dX6_minutesWithHired_102 rfl (lv_at hl 1 rfl) ?_
        refine gf_X6_63 hC hP k_0 (v := .ref (ad 156)) rfl dX6_minutesWithHired_103 ?_
        refine lv_iload_n hx hb dX6_minutesWithHired_106 rfl (lv_at hl 2 rfl) ?_
        refine lv_aload_n hx hb dX6_minutesWithHired_107 rfl (lv_at hl 1 rfl) ?_
        obtain ⟨t11, et11, hf⟩ := bnd_some hf
        obtain ⟨h12, hf⟩ := gd_some hf
        have h_t11 := isk_eq h12
        refine gf_X6_19 hC hP k_0 (v := .ref (ad t11)) (by rw [et11]) dX6_minutesWithHired_108 ?_
        refine gf_X6_113 hC hP h_t11 (v := .ref (ad (t11 + 3))) rfl dX6_minutesWithHired_111 ?_
        refine lv_iload hx hb dX6_minutesWithHired_114 (lv_at hl 4 rfl) ?_
        obtain ⟨h13, hf⟩ := gd_some hf
        refine pg_iald hC hP (ko_4_3 h_t11) (bin_in h13) dX6_minutesWithHired_116 ?_
        obtain ⟨S14, q15, hf⟩ := cal1_some hf
        refine pg_callV (As := [.int x1, .int (gA S7 (t11 + 3) x4.toNatClampNeg)]) (rest := []) (st1 := []) (ci := 0) hC hml hP hS (c_X0_tire l hC.2.2.2.2.2.1 q15 k_156) ⟨by decide, by decide, rfl, rfl⟩ ⟨rfl, rfl⟩ (by decide) rfl (by decide) k_156 rfl rfl ⟨mk_X6_155, mi_X0_tire⟩ hd_X0_tire rfl hl.1 (Nat.le_of_ble_eq_true rfl) dX6_minutesWithHired_117 (fun H locs hP hS => ?_)
        obtain ⟨v16, ev16, hf⟩ := bnd_some hf
        refine lv_iinc (v := v16) (lv' := [(4, .int v16), (3, .int v10), (0, .ref (ad 0)), (1, .int x1), (2, .int x2)]) hx hb dX6_minutesWithHired_120 hl (k := 4) rfl (by rw [ev16]; rfl) (by decide) rfl (fun ls hl => ?_)
        refine lv_goto (tgt := 28) hx hb dX6_minutesWithHired_123 (by decide) ?_
        exact ih _ _ _ _ _ _ _ _ hf  hP hS (lv_sub hl [2, 3, 4, 1, 0] rfl)
      · replace hf := ite_t c4 hf
        refine lv_iload_n hx hb dX6_minutesWithHired_50 rfl (lv_at hl 3 rfl) ?_
        refine lv_iconst (v := 3) hx hb dX6_minutesWithHired_51 (by decide) ?_
        refine lv_aload_n hx hb dX6_minutesWithHired_52 rfl (lv_at hl 0 rfl) ?_
        obtain ⟨t17, et17, hf⟩ := bnd_some hf
        obtain ⟨h18, hf⟩ := gd_some hf
        have h_t17 := isk_eq h18
        refine gf_X6_19 hC hP k_0 (v := .ref (ad t17)) (by rw [et17]) dX6_minutesWithHired_53 ?_
        refine gf_X6_113 hC hP h_t17 (v := .ref (ad (t17 + 3))) rfl dX6_minutesWithHired_56 ?_
        refine lv_iload hx hb dX6_minutesWithHired_59 (lv_at hl 4 rfl) ?_
        obtain ⟨h19, hf⟩ := gd_some hf
        refine pg_iald hC hP (ko_4_3 h_t17) (bin_in h19) dX6_minutesWithHired_61 ?_
        refine lv_imul hx hb dX6_minutesWithHired_62 ?_
        refine lv_iadd hx hb dX6_minutesWithHired_63 ?_
        obtain ⟨v20, ev20, hf⟩ := bnd_some hf
        refine pg_top ev20 ?_
        refine lv_istore_n (lv' := [(3, .int v20), (0, .ref (ad 0)), (1, .int x1), (2, .int x2), (4, .int x4)]) hx hb dX6_minutesWithHired_64 rfl hl (by decide) rfl (fun ls hl => ?_)
        refine lv_aload_n hx hb dX6_minutesWithHired_65 rfl (lv_at hl 1 rfl) ?_
        refine gf_X6_63 hC hP k_0 (v := .ref (ad 156)) rfl dX6_minutesWithHired_66 ?_
        refine lv_aload_n hx hb dX6_minutesWithHired_69 rfl (lv_at hl 1 rfl) ?_
        obtain ⟨t21, et21, hf⟩ := bnd_some hf
        obtain ⟨h22, hf⟩ := gd_some hf
        have h_t21 := isk_eq h22
        refine gf_X6_19 hC hP k_0 (v := .ref (ad t21)) (by rw [et21]) dX6_minutesWithHired_70 ?_
        refine gf_X6_113 hC hP h_t21 (v := .ref (ad (t21 + 3))) rfl dX6_minutesWithHired_73 ?_
        refine lv_iload hx hb dX6_minutesWithHired_76 (lv_at hl 4 rfl) ?_
        obtain ⟨h23, hf⟩ := gd_some hf
        refine pg_iald hC hP (ko_4_3 h_t21) (bin_in h23) dX6_minutesWithHired_78 ?_
        obtain ⟨S24, q25, hf⟩ := cal1_some hf
        refine pg_callV (As := [.int (gA S (t21 + 3) x4.toNatClampNeg)]) (rest := []) (st1 := []) (ci := 0) hC hml hP hS (c_X0_ease l hC.2.2.2.2.2.1 q25 k_156) ⟨by decide, by decide, rfl, rfl⟩ ⟨rfl, rfl⟩ (by decide) rfl (by decide) k_156 rfl rfl ⟨mk_X6_159, mi_X0_ease⟩ hd_X0_ease rfl hl.1 (Nat.le_of_ble_eq_true rfl) dX6_minutesWithHired_79 (fun H locs hP hS => ?_)
        refine lv_goto (tgt := 120) hx hb dX6_minutesWithHired_82 (by decide) ?_
        obtain ⟨v26, ev26, hf⟩ := bnd_some hf
        refine lv_iinc (v := v26) (lv' := [(4, .int v26), (3, .int v20), (0, .ref (ad 0)), (1, .int x1), (2, .int x2)]) hx hb dX6_minutesWithHired_120 hl (k := 4) rfl (by rw [ev26]; rfl) (by decide) rfl (fun ls hl => ?_)
        refine lv_goto (tgt := 28) hx hb dX6_minutesWithHired_123 (by decide) ?_
        exact ih _ _ _ _ _ _ _ _ hf  hP hS (lv_sub hl [2, 3, 4, 1, 0] rfl)
def P_X6_minutesWithHired (N : Nat) (S : PSt) (x1 : Int32) (x2 : Int32) : Option (Int32 × PSt) := cal1 (P_X0_copy N S 156 25) fun S27 => bnd (gI S27 0 25) fun v29 => P_X6_minutesWithHired_L28 N N S27 x1 x2 (0 : Int32) v29
set_option maxHeartbeats 4000000 in
set_option maxRecDepth 100000 in
theorem c_X6_minutesWithHired (l : Launch) {D : va_G} {cy : Nat → ClassId} {ad tb : Nat → Nat} (hJ : pJ ad) {N : Nat} {S S' : PSt} {x1 : Int32} {x2 : Int32} {r : Int32} (hf : P_X6_minutesWithHired N S x1 x2 = some (r, S')) : Ct l 3 yX6_minutesWithHired cX6_minutesWithHired 5 (some .int) D cy ad tb S S' [.ref (ad 0), .int x1, .int x2] (some (.int r)) := by
  refine Ct_of hJ (by decide) (Nat.le_of_ble_eq_true rfl) (fun p e s m below meth c ls hX hP hS hl => ?_)
  have hl : lv_has ls 5 [(0, .ref (ad 0)), (1, .int x1), (2, .int x2)] := hl
  have hX0 := hX
  obtain ⟨hC, hml, hr, hlk⟩ := hX0
  have hx := hC.1
  have hb := hC.2.1
  unfold P_X6_minutesWithHired at hf
  refine lv_aload_n hx hb dX6_minutesWithHired_0 rfl (lv_at hl 0 rfl) ?_
  refine gf_X6_63 hC hP k_0 (v := .ref (ad 156)) rfl dX6_minutesWithHired_1 ?_
  refine lv_aload_n hx hb dX6_minutesWithHired_4 rfl (lv_at hl 0 rfl) ?_
  refine gf_X6_29 hC hP k_0 (v := .ref (ad 24)) rfl dX6_minutesWithHired_5 ?_
  refine gf_X6_99 hC hP k_24 (v := .ref (ad 25)) rfl dX6_minutesWithHired_8 ?_
  obtain ⟨S27, q28, hf⟩ := cal1_some hf
  refine pg_callV (As := [.ref (ad 25)]) (rest := []) (st1 := []) (ci := 0) hC hml hP hS (c_X0_copy l hC.2.2.2.2.2.1 q28 k_156 k_25) ⟨by decide, by decide, rfl, rfl⟩ ⟨rfl, rfl⟩ (by decide) rfl (by decide) k_156 rfl rfl ⟨mk_X6_202, mi_X0_copy⟩ hd_X0_copy rfl hl.1 (Nat.le_of_ble_eq_true rfl) dX6_minutesWithHired_11 (fun H locs hP hS => ?_)
  refine lv_iconst (v := 0) hx hb dX6_minutesWithHired_14 (by decide) ?_
  refine lv_istore_n (lv' := [(3, .int (0 : Int32)), (0, .ref (ad 0)), (1, .int x1), (2, .int x2)]) hx hb dX6_minutesWithHired_15 rfl hl (by decide) rfl (fun ls hl => ?_)
  refine lv_aload_n hx hb dX6_minutesWithHired_16 rfl (lv_at hl 1 rfl) ?_
  refine gf_X6_29 hC hP k_0 (v := .ref (ad 24)) rfl dX6_minutesWithHired_17 ?_
  refine gf_X6_99 hC hP k_24 (v := .ref (ad 25)) rfl dX6_minutesWithHired_20 ?_
  refine gf_X6_132 hC hP k_25 (v := .int (gI S27 0 25)) rfl dX6_minutesWithHired_23 ?_
  obtain ⟨v29, ev29, hf⟩ := bnd_some hf
  refine pg_top ev29 ?_
  refine lv_istore (lv' := [(4, .int v29), (3, .int (0 : Int32)), (0, .ref (ad 0)), (1, .int x1), (2, .int x2)]) hx hb dX6_minutesWithHired_26 hl (by decide) rfl (fun ls hl => ?_)
  exact w_X6_minutesWithHired_L28 hX _ _ _ _ _ _ _ _ _ hf  hP hS (lv_sub hl [2, 3, 4, 1, 0] rfl)
def P_X6_hired_L143 (k78 : PSt → Int32 → Int32 → Int32 → Int32 → Int32 → Int32 → Int32 → Int32 → Int32 → Option (Int32 × PSt)) (N : Nat) (S : PSt) (x1 : Int32) (x2 : Int32) (x3 : Int32) (x4 : Int32) (x5 : Int32) (x9 : Int32) (x10 : Int32) (x11 : Int32) : Option (Int32 × PSt) := bnd (x9 + (1 : Int32)) fun v1 => k78 S x1 x2 x3 x4 x5 x9 x10 x11 v1
set_option maxHeartbeats 4000000 in
set_option maxRecDepth 100000 in
theorem w_X6_hired_L143 {N : Nat} {S' : PSt} {r : Int32} (hX : Mx p s m args c meth cX6_hired RX6 12 (some .int) D cy ad tb) {k78 : PSt → Int32 → Int32 → Int32 → Int32 → Int32 → Int32 → Int32 → Int32 → Int32 → Option (Int32 × PSt)} (hk78 : ∀ (S : PSt) (x1 : Int32) (x2 : Int32) (x3 : Int32) (x4 : Int32) (x5 : Int32) (x6 : Int32) (x7 : Int32) (x8 : Int32) (x9 : Int32) (H : Heap) (locs : List Loc) (ls : Array Slot), k78 S x1 x2 x3 x4 x5 x6 x7 x8 x9 = some (r, S') → va_P D vwCl (pW cy ad S) H → va_S (pA ad s.heap.size) s.heap H locs → lv_has ls 12 [(0, .ref (ad 0)), (1, .int x1), (2, .int x2), (3, .int x3), (4, .int x4), (5, .int x5), (6, .int x6), (7, .int x7), (8, .int x8), (9, .int x9)] → W p l e (rmd 4) s m args below meth c H locs 0 0 (Qz D cy ad below args s S' (some (.int r))) (F0 m 78 ls [])) : ∀ (S : PSt) (x1 : Int32) (x2 : Int32) (x3 : Int32) (x4 : Int32) (x5 : Int32) (x9 : Int32) (x10 : Int32) (x11 : Int32) (H : Heap) (locs : List Loc) (ls : Array Slot), P_X6_hired_L143 k78 N S x1 x2 x3 x4 x5 x9 x10 x11 = some (r, S') → va_P D vwCl (pW cy ad S) H → va_S (pA ad s.heap.size) s.heap H locs → lv_has ls 12 [(0, .ref (ad 0)), (1, .int x1), (2, .int x2), (3, .int x3), (4, .int x4), (5, .int x5), (9, .int x9), (10, .int x10), (11, .int x11)] → W p l e (rmd 4) s m args below meth c H locs 0 0 (Qz D cy ad below args s S' (some (.int r))) (F0 m 143 ls []) := by
  have hX0 := hX
  obtain ⟨hC, hml, hr, hlk⟩ := hX0
  have hx := hC.1
  have hb := hC.2.1
  intro S x1 x2 x3 x4 x5 x9 x10 x11 H locs ls hf  hP hS hl
  unfold P_X6_hired_L143 at hf
  refine lv_iload hx hb dX6_hired_143 (lv_at hl 6 rfl) ?_
  refine lv_istore (lv' := [(6, .int x9), (0, .ref (ad 0)), (1, .int x1), (2, .int x2), (3, .int x3), (4, .int x4), (5, .int x5), (9, .int x9), (10, .int x10), (11, .int x11)]) hx hb dX6_hired_145 hl (by decide) rfl (fun ls hl => ?_)
  refine lv_iload hx hb dX6_hired_147 (lv_at hl 8 rfl) ?_
  refine lv_istore (lv' := [(7, .int x10), (6, .int x9), (0, .ref (ad 0)), (1, .int x1), (2, .int x2), (3, .int x3), (4, .int x4), (5, .int x5), (9, .int x9), (10, .int x10), (11, .int x11)]) hx hb dX6_hired_149 hl (by decide) rfl (fun ls hl => ?_)
  refine lv_iload hx hb dX6_hired_151 (lv_at hl 10 rfl) ?_
  refine lv_istore (lv' := [(8, .int x11), (7, .int x10), (6, .int x9), (0, .ref (ad 0)), (1, .int x1), (2, .int x2), (3, .int x3), (4, .int x4), (5, .int x5), (9, .int x9), (10, .int x10), (11, .int x11)]) hx hb dX6_hired_153 hl (by decide) rfl (fun ls hl => ?_)
  obtain ⟨v1, ev1, hf⟩ := bnd_some hf
  refine lv_iinc (v := v1) (lv' := [(9, .int v1), (8, .int x11), (7, .int x10), (6, .int x9), (0, .ref (ad 0)), (1, .int x1), (2, .int x2), (3, .int x3), (4, .int x4), (5, .int x5), (10, .int x10), (11, .int x11)]) hx hb dX6_hired_155 hl (k := 9) rfl (by rw [ev1]; rfl) (by decide) rfl (fun ls hl => ?_)
  refine lv_goto (tgt := 78) hx hb dX6_hired_158 (by decide) ?_
  exact hk78 _ _ _ _ _ _ _ _ _ _ _ _ _ hf  hP hS (lv_sub hl [4, 5, 6, 7, 8, 9, 3, 2, 1, 0] rfl)
def P_X6_hired_L78 (N : Nat) : Nat → PSt → Int32 → Int32 → Int32 → Int32 → Int32 → Int32 → Int32 → Int32 → Int32 → Option (Int32 × PSt)
  | 0 => fun _ _ _ _ _ _ _ _ _ _ => none
  | n + 1 => fun S x1 x2 x3 x4 x5 x6 x7 x8 x9 => if x4 < x9 then (if x3 = (0 : Int32) then (some (x6, S)) else (some (x8, S))) else (bnd (gR S 601 0) fun t4 => gd (isk t4 4) <| cal2 (P_X4_furlongsOf N S t4 x9) fun r8 S6 => if (x9 &&& x5) = (0 : Int32) then (if r8 ≤ x2 then (cal2 (P_X6_minutesWithHired N S6 x1 x9) fun r14 S12 => if r14 < x8 then (P_X6_hired_L143 (P_X6_hired_L78 N n) N S12 x1 x2 x3 x4 x5 x9 r8 r14) else (if r14 = x8 then (if x7 ≤ r8 then (bnd (x9 + (1 : Int32)) fun v19 => P_X6_hired_L78 N n S12 x1 x2 x3 x4 x5 x6 x7 x8 v19) else (P_X6_hired_L143 (P_X6_hired_L78 N n) N S12 x1 x2 x3 x4 x5 x9 r8 r14)) else (bnd (x9 + (1 : Int32)) fun v17 => P_X6_hired_L78 N n S12 x1 x2 x3 x4 x5 x6 x7 x8 v17))) else (bnd (x9 + (1 : Int32)) fun v20 => P_X6_hired_L78 N n S6 x1 x2 x3 x4 x5 x6 x7 x8 v20)) else (bnd (x9 + (1 : Int32)) fun v10 => P_X6_hired_L78 N n S6 x1 x2 x3 x4 x5 x6 x7 x8 v10))
set_option maxHeartbeats 4000000 in
set_option maxRecDepth 100000 in
theorem w_X6_hired_L78 {N : Nat} {S' : PSt} {r : Int32} (hX : Mx p s m args c meth cX6_hired RX6 12 (some .int) D cy ad tb) : ∀ (n : Nat), ∀ (S : PSt) (x1 : Int32) (x2 : Int32) (x3 : Int32) (x4 : Int32) (x5 : Int32) (x6 : Int32) (x7 : Int32) (x8 : Int32) (x9 : Int32) (H : Heap) (locs : List Loc) (ls : Array Slot), P_X6_hired_L78 N n S x1 x2 x3 x4 x5 x6 x7 x8 x9 = some (r, S') → va_P D vwCl (pW cy ad S) H → va_S (pA ad s.heap.size) s.heap H locs → lv_has ls 12 [(0, .ref (ad 0)), (1, .int x1), (2, .int x2), (3, .int x3), (4, .int x4), (5, .int x5), (6, .int x6), (7, .int x7), (8, .int x8), (9, .int x9)] → W p l e (rmd 4) s m args below meth c H locs 0 0 (Qz D cy ad below args s S' (some (.int r))) (F0 m 78 ls []) := by
  have hX0 := hX
  obtain ⟨hC, hml, hr, hlk⟩ := hX0
  have hx := hC.1
  have hb := hC.2.1
  intro n
  induction n with
  | zero => intro S x1 x2 x3 x4 x5 x6 x7 x8 x9 H locs ls hf; exact absurd hf (by intro h; cases h)
  | succ n ih =>
    intro S x1 x2 x3 x4 x5 x6 x7 x8 x9 H locs ls hf  hP hS hl
    rw [P_X6_hired_L78] at hf
    refine lv_iload hx hb dX6_hired_78 (lv_at hl 9 rfl) ?_
    refine lv_iload hx hb dX6_hired_80 (lv_at hl 4 rfl) ?_
    refine lv_icmp_gt (tgt := 161) hx hb dX6_hired_82 (by decide) (fun c2 => ?_) (fun c2 => ?_)
    · replace hf := ite_t c2 hf
      refine lv_iload_n hx hb dX6_hired_161 rfl (lv_at hl 3 rfl) ?_
      refine lv_if_ne (tgt := 170) hx hb dX6_hired_162 (by decide) (fun c3 => ?_) (fun c3 => ?_)
      · replace hf := ite_f c3 hf
        refine lv_iload hx hb dX6_hired_170 (lv_at hl 8 rfl) ?_
        exact pg_iret hC hr hlk hP hS hf dX6_hired_172
      · replace hf := ite_t c3 hf
        refine lv_iload hx hb dX6_hired_165 (lv_at hl 6 rfl) ?_
        refine lv_goto (tgt := 172) hx hb dX6_hired_167 (by decide) ?_
        exact pg_iret hC hr hlk hP hS hf dX6_hired_172
    · replace hf := ite_f c2 hf
      refine lv_aload_n hx hb dX6_hired_85 rfl (lv_at hl 0 rfl) ?_
      obtain ⟨t4, et4, hf⟩ := bnd_some hf
      obtain ⟨h5, hf⟩ := gd_some hf
      have h_t4 := isk_eq h5
      refine gf_X6_19 hC hP k_0 (v := .ref (ad t4)) (by rw [et4]) dX6_hired_86 ?_
      refine lv_iload hx hb dX6_hired_89 (lv_at hl 9 rfl) ?_
      obtain ⟨r8, S6, q7, hf⟩ := cal2_some hf
      refine pg_callV (As := [.int x9]) (rest := []) (st1 := [.int r8]) (ci := 4) hC hml hP hS (c_X4_furlongsOf l hC.2.2.2.2.2.1 q7 h_t4) ⟨by decide, by decide, rfl, rfl⟩ ⟨rfl, rfl⟩ (by decide) rfl (by decide) h_t4 rfl rfl ⟨mk_X6_198, mi_X4_furlongsOf⟩ hd_X4_furlongsOf rfl hl.1 (Nat.le_of_ble_eq_true rfl) dX6_hired_91 (fun H locs hP hS => ?_)
      refine lv_istore (lv' := [(10, .int r8), (0, .ref (ad 0)), (1, .int x1), (2, .int x2), (3, .int x3), (4, .int x4), (5, .int x5), (6, .int x6), (7, .int x7), (8, .int x8), (9, .int x9)]) hx hb dX6_hired_94 hl (by decide) rfl (fun ls hl => ?_)
      refine lv_iload hx hb dX6_hired_96 (lv_at hl 10 rfl) ?_
      refine lv_iload hx hb dX6_hired_98 (lv_at hl 6 rfl) ?_
      refine lv_iand hx hb dX6_hired_100 ?_
      refine lv_if_ne (tgt := 155) hx hb dX6_hired_101 (by decide) (fun c9 => ?_) (fun c9 => ?_)
      · replace hf := ite_f c9 hf
        obtain ⟨v10, ev10, hf⟩ := bnd_some hf
        refine lv_iinc (v := v10) (lv' := [(9, .int v10), (10, .int r8), (0, .ref (ad 0)), (1, .int x1), (2, .int x2), (3, .int x3), (4, .int x4), (5, .int x5), (6, .int x6), (7, .int x7), (8, .int x8)]) hx hb dX6_hired_155 hl (k := 10) rfl (by rw [ev10]; rfl) (by decide) rfl (fun ls hl => ?_)
        refine lv_goto (tgt := 78) hx hb dX6_hired_158 (by decide) ?_
        exact ih _ _ _ _ _ _ _ _ _ _ _ _ _ hf  hP hS (lv_sub hl [2, 3, 4, 5, 6, 7, 8, 9, 10, 0] rfl)
      · replace hf := ite_t c9 hf
        refine lv_iload hx hb dX6_hired_104 (lv_at hl 0 rfl) ?_
        refine lv_iload_n hx hb dX6_hired_106 rfl (lv_at hl 3 rfl) ?_
        refine lv_icmp_le (tgt := 113) hx hb dX6_hired_107 (by decide) (fun c11 => ?_) (fun c11 => ?_)
        · replace hf := ite_t c11 hf
          refine lv_aload_n hx hb dX6_hired_113 rfl (lv_at hl 1 rfl) ?_
          refine lv_iload_n hx hb dX6_hired_114 rfl (lv_at hl 2 rfl) ?_
          refine lv_iload hx hb dX6_hired_115 (lv_at hl 10 rfl) ?_
          obtain ⟨r14, S12, q13, hf⟩ := cal2_some hf
          refine pg_callV (As := [.int x1, .int x9]) (rest := []) (st1 := [.int r14]) (ci := 6) hC hml hP hS (c_X6_minutesWithHired l hC.2.2.2.2.2.1 q13) ⟨by decide, by decide, rfl, rfl⟩ ⟨rfl, rfl⟩ (by decide) rfl (by decide) k_0 rfl rfl ⟨mk_X6_195, mi_X6_minutesWithHired⟩ hd_X6_minutesWithHired rfl hl.1 (Nat.le_of_ble_eq_true rfl) dX6_hired_117 (fun H locs hP hS => ?_)
          refine lv_istore (lv' := [(11, .int r14), (10, .int r8), (0, .ref (ad 0)), (1, .int x1), (2, .int x2), (3, .int x3), (4, .int x4), (5, .int x5), (6, .int x6), (7, .int x7), (8, .int x8), (9, .int x9)]) hx hb dX6_hired_120 hl (by decide) rfl (fun ls hl => ?_)
          refine lv_iload hx hb dX6_hired_122 (lv_at hl 0 rfl) ?_
          refine lv_iload hx hb dX6_hired_124 (lv_at hl 10 rfl) ?_
          refine lv_icmp_lt (tgt := 143) hx hb dX6_hired_126 (by decide) (fun c15 => ?_) (fun c15 => ?_)
          · replace hf := ite_t c15 hf
            exact w_X6_hired_L143 hX ih _ _ _ _ _ _ _ _ _ _ _ _ hf  hP hS (lv_sub hl [2, 3, 4, 5, 6, 7, 11, 1, 0] rfl)
          · replace hf := ite_f c15 hf
            refine lv_iload hx hb dX6_hired_129 (lv_at hl 0 rfl) ?_
            refine lv_iload hx hb dX6_hired_131 (lv_at hl 10 rfl) ?_
            refine lv_icmp_ne (tgt := 155) hx hb dX6_hired_133 (by decide) (fun c16 => ?_) (fun c16 => ?_)
            · replace hf := ite_f c16 hf
              obtain ⟨v17, ev17, hf⟩ := bnd_some hf
              refine lv_iinc (v := v17) (lv' := [(9, .int v17), (11, .int r14), (10, .int r8), (0, .ref (ad 0)), (1, .int x1), (2, .int x2), (3, .int x3), (4, .int x4), (5, .int x5), (6, .int x6), (7, .int x7), (8, .int x8)]) hx hb dX6_hired_155 hl (k := 11) rfl (by rw [ev17]; rfl) (by decide) rfl (fun ls hl => ?_)
              refine lv_goto (tgt := 78) hx hb dX6_hired_158 (by decide) ?_
              exact ih _ _ _ _ _ _ _ _ _ _ _ _ _ hf  hP hS (lv_sub hl [3, 4, 5, 6, 7, 8, 9, 10, 11, 0] rfl)
            · replace hf := ite_t c16 hf
              refine lv_iload hx hb dX6_hired_136 (lv_at hl 1 rfl) ?_
              refine lv_iload hx hb dX6_hired_138 (lv_at hl 9 rfl) ?_
              refine lv_icmp_ge (tgt := 155) hx hb dX6_hired_140 (by decide) (fun c18 => ?_) (fun c18 => ?_)
              · replace hf := ite_t c18 hf
                obtain ⟨v19, ev19, hf⟩ := bnd_some hf
                refine lv_iinc (v := v19) (lv' := [(9, .int v19), (11, .int r14), (10, .int r8), (0, .ref (ad 0)), (1, .int x1), (2, .int x2), (3, .int x3), (4, .int x4), (5, .int x5), (6, .int x6), (7, .int x7), (8, .int x8)]) hx hb dX6_hired_155 hl (k := 11) rfl (by rw [ev19]; rfl) (by decide) rfl (fun ls hl => ?_)
                refine lv_goto (tgt := 78) hx hb dX6_hired_158 (by decide) ?_
                exact ih _ _ _ _ _ _ _ _ _ _ _ _ _ hf  hP hS (lv_sub hl [3, 4, 5, 6, 7, 8, 9, 10, 11, 0] rfl)
              · replace hf := ite_f c18 hf
                exact w_X6_hired_L143 hX ih _ _ _ _ _ _ _ _ _ _ _ _ hf  hP hS (lv_sub hl [2, 3, 4, 5, 6, 7, 11, 1, 0] rfl)
        · replace hf := ite_f c11 hf
          refine lv_goto (tgt := 155) hx hb dX6_hired_110 (by decide) ?_
          obtain ⟨v20, ev20, hf⟩ := bnd_some hf
          refine lv_iinc (v := v20) (lv' := [(9, .int v20), (10, .int r8), (0, .ref (ad 0)), (1, .int x1), (2, .int x2), (3, .int x3), (4, .int x4), (5, .int x5), (6, .int x6), (7, .int x7), (8, .int x8)]) hx hb dX6_hired_155 hl (k := 10) rfl (by rw [ev20]; rfl) (by decide) rfl (fun ls hl => ?_)
          refine lv_goto (tgt := 78) hx hb dX6_hired_158 (by decide) ?_
          exact ih _ _ _ _ _ _ _ _ _ _ _ _ _ hf  hP hS (lv_sub hl [2, 3, 4, 5, 6, 7, 8, 9, 10, 0] rfl)
def P_X6_hired (N : Nat) (S : PSt) (x1 : Int32) (x2 : Int32) (x3 : Int32) : Option (Int32 × PSt) := bnd (gR S 601 0) fun t21 => gd (isk t21 4) <| cal2 (P_X4_hasPair N S t21 x1) fun r25 S23 => if r25 = (0 : Int32) then (some ((-1 : Int32), S23)) else (if x2 < (0 : Int32) then (some ((-1 : Int32), S23)) else (if (99 : Int32) < x2 then (some ((-1 : Int32), S23)) else (if x3 < (0 : Int32) then (some ((-1 : Int32), S23)) else (if x3 ≤ (1 : Int32) then (bnd (gR S23 601 0) fun t31 => gd (isk t31 4) <| bnd (((1 : Int32) <<< ((gI S23 401 t31) &&& 31)) - (1 : Int32)) fun v33 => bnd (((1 : Int32) <<< ((gI S23 0 25) &&& 31)) - (1 : Int32)) fun v34 => cal2 (P_X6_minutesWithHired N S23 x1 (0 : Int32)) fun r37 S35 => P_X6_hired_L78 N N S35 x1 x2 x3 v33 v34 (0 : Int32) (0 : Int32) r37 (1 : Int32)) else (some ((-1 : Int32), S23))))))
set_option maxHeartbeats 4000000 in
set_option maxRecDepth 100000 in
theorem c_X6_hired (l : Launch) {D : va_G} {cy : Nat → ClassId} {ad tb : Nat → Nat} (hJ : pJ ad) {N : Nat} {S S' : PSt} {x1 : Int32} {x2 : Int32} {x3 : Int32} {r : Int32} (hf : P_X6_hired N S x1 x2 x3 = some (r, S')) : Ct l 4 yX6_hired cX6_hired 12 (some .int) D cy ad tb S S' [.ref (ad 0), .int x1, .int x2, .int x3] (some (.int r)) := by
  refine Ct_of hJ (by decide) (Nat.le_of_ble_eq_true rfl) (fun p e s m below meth c ls hX hP hS hl => ?_)
  have hl : lv_has ls 12 [(0, .ref (ad 0)), (1, .int x1), (2, .int x2), (3, .int x3)] := hl
  have hX0 := hX
  obtain ⟨hC, hml, hr, hlk⟩ := hX0
  have hx := hC.1
  have hb := hC.2.1
  unfold P_X6_hired at hf
  refine lv_aload_n hx hb dX6_hired_0 rfl (lv_at hl 0 rfl) ?_
  obtain ⟨t21, et21, hf⟩ := bnd_some hf
  obtain ⟨h22, hf⟩ := gd_some hf
  have h_t21 := isk_eq h22
  refine gf_X6_19 hC hP k_0 (v := .ref (ad t21)) (by rw [et21]) dX6_hired_1 ?_
  refine lv_iload_n hx hb dX6_hired_4 rfl (lv_at hl 1 rfl) ?_
  obtain ⟨r25, S23, q24, hf⟩ := cal2_some hf
  refine pg_callV (As := [.int x1]) (rest := []) (st1 := [.int r25]) (ci := 4) hC hml hP hS (c_X4_hasPair l hC.2.2.2.2.2.1 q24 h_t21) ⟨by decide, by decide, rfl, rfl⟩ ⟨rfl, rfl⟩ (by decide) rfl (by decide) h_t21 rfl rfl ⟨mk_X6_125, mi_X4_hasPair⟩ hd_X4_hasPair rfl hl.1 (Nat.le_of_ble_eq_true rfl) dX6_hired_5 (fun H locs hP hS => ?_)
  refine lv_if_eq (tgt := 30) hx hb dX6_hired_8 (by decide) (fun c26 => ?_) (fun c26 => ?_)
  · replace hf := ite_t c26 hf
    refine lv_iconst (v := -1) hx hb dX6_hired_30 (by decide) ?_
    exact pg_iret hC hr hlk hP hS hf dX6_hired_31
  · replace hf := ite_f c26 hf
    refine lv_iload_n hx hb dX6_hired_11 rfl (lv_at hl 2 rfl) ?_
    refine lv_if_lt (tgt := 30) hx hb dX6_hired_12 (by decide) (fun c27 => ?_) (fun c27 => ?_)
    · replace hf := ite_t c27 hf
      refine lv_iconst (v := -1) hx hb dX6_hired_30 (by decide) ?_
      exact pg_iret hC hr hlk hP hS hf dX6_hired_31
    · replace hf := ite_f c27 hf
      refine lv_iload_n hx hb dX6_hired_15 rfl (lv_at hl 2 rfl) ?_
      refine lv_bipush (v := 99) hx hb dX6_hired_16 (by decide) ?_
      refine lv_icmp_gt (tgt := 30) hx hb dX6_hired_18 (by decide) (fun c28 => ?_) (fun c28 => ?_)
      · replace hf := ite_t c28 hf
        refine lv_iconst (v := -1) hx hb dX6_hired_30 (by decide) ?_
        exact pg_iret hC hr hlk hP hS hf dX6_hired_31
      · replace hf := ite_f c28 hf
        refine lv_iload_n hx hb dX6_hired_21 rfl (lv_at hl 3 rfl) ?_
        refine lv_if_lt (tgt := 30) hx hb dX6_hired_22 (by decide) (fun c29 => ?_) (fun c29 => ?_)
        · replace hf := ite_t c29 hf
          refine lv_iconst (v := -1) hx hb dX6_hired_30 (by decide) ?_
          exact pg_iret hC hr hlk hP hS hf dX6_hired_31
        · replace hf := ite_f c29 hf
          refine lv_iload_n hx hb dX6_hired_25 rfl (lv_at hl 3 rfl) ?_
          refine lv_iconst (v := 1) hx hb dX6_hired_26 (by decide) ?_
          refine lv_icmp_le (tgt := 32) hx hb dX6_hired_27 (by decide) (fun c30 => ?_) (fun c30 => ?_)
          · replace hf := ite_t c30 hf
            refine lv_iconst (v := 1) hx hb dX6_hired_32 (by decide) ?_
            refine lv_aload_n hx hb dX6_hired_33 rfl (lv_at hl 0 rfl) ?_
            obtain ⟨t31, et31, hf⟩ := bnd_some hf
            obtain ⟨h32, hf⟩ := gd_some hf
            have h_t31 := isk_eq h32
            refine gf_X6_19 hC hP k_0 (v := .ref (ad t31)) (by rw [et31]) dX6_hired_34 ?_
            refine gf_X6_135 hC hP h_t31 (v := .int (gI S23 401 t31)) rfl dX6_hired_37 ?_
            refine lv_ishl hx hb dX6_hired_40 ?_
            refine lv_iconst (v := 1) hx hb dX6_hired_41 (by decide) ?_
            refine lv_isub hx hb dX6_hired_42 ?_
            obtain ⟨v33, ev33, hf⟩ := bnd_some hf
            refine pg_top ev33 ?_
            refine lv_istore (lv' := [(4, .int v33), (0, .ref (ad 0)), (1, .int x1), (2, .int x2), (3, .int x3)]) hx hb dX6_hired_43 hl (by decide) rfl (fun ls hl => ?_)
            refine lv_iconst (v := 1) hx hb dX6_hired_45 (by decide) ?_
            refine lv_aload_n hx hb dX6_hired_46 rfl (lv_at hl 1 rfl) ?_
            refine gf_X6_29 hC hP k_0 (v := .ref (ad 24)) rfl dX6_hired_47 ?_
            refine gf_X6_99 hC hP k_24 (v := .ref (ad 25)) rfl dX6_hired_50 ?_
            refine gf_X6_132 hC hP k_25 (v := .int (gI S23 0 25)) rfl dX6_hired_53 ?_
            refine lv_ishl hx hb dX6_hired_56 ?_
            refine lv_iconst (v := 1) hx hb dX6_hired_57 (by decide) ?_
            refine lv_isub hx hb dX6_hired_58 ?_
            obtain ⟨v34, ev34, hf⟩ := bnd_some hf
            refine pg_top ev34 ?_
            refine lv_istore (lv' := [(5, .int v34), (4, .int v33), (0, .ref (ad 0)), (1, .int x1), (2, .int x2), (3, .int x3)]) hx hb dX6_hired_59 hl (by decide) rfl (fun ls hl => ?_)
            refine lv_iconst (v := 0) hx hb dX6_hired_61 (by decide) ?_
            refine lv_istore (lv' := [(6, .int (0 : Int32)), (5, .int v34), (4, .int v33), (0, .ref (ad 0)), (1, .int x1), (2, .int x2), (3, .int x3)]) hx hb dX6_hired_62 hl (by decide) rfl (fun ls hl => ?_)
            refine lv_iconst (v := 0) hx hb dX6_hired_64 (by decide) ?_
            refine lv_istore (lv' := [(7, .int (0 : Int32)), (6, .int (0 : Int32)), (5, .int v34), (4, .int v33), (0, .ref (ad 0)), (1, .int x1), (2, .int x2), (3, .int x3)]) hx hb dX6_hired_65 hl (by decide) rfl (fun ls hl => ?_)
            refine lv_aload_n hx hb dX6_hired_67 rfl (lv_at hl 4 rfl) ?_
            refine lv_iload_n hx hb dX6_hired_68 rfl (lv_at hl 5 rfl) ?_
            refine lv_iconst (v := 0) hx hb dX6_hired_69 (by decide) ?_
            obtain ⟨r37, S35, q36, hf⟩ := cal2_some hf
            refine pg_callV (As := [.int x1, .int (0 : Int32)]) (rest := []) (st1 := [.int r37]) (ci := 6) hC hml hP hS (c_X6_minutesWithHired l hC.2.2.2.2.2.1 q36) ⟨by decide, by decide, rfl, rfl⟩ ⟨rfl, rfl⟩ (by decide) rfl (by decide) k_0 rfl rfl ⟨mk_X6_195, mi_X6_minutesWithHired⟩ hd_X6_minutesWithHired rfl hl.1 (Nat.le_of_ble_eq_true rfl) dX6_hired_70 (fun H locs hP hS => ?_)
            refine lv_istore (lv' := [(8, .int r37), (7, .int (0 : Int32)), (6, .int (0 : Int32)), (5, .int v34), (4, .int v33), (0, .ref (ad 0)), (1, .int x1), (2, .int x2), (3, .int x3)]) hx hb dX6_hired_73 hl (by decide) rfl (fun ls hl => ?_)
            refine lv_iconst (v := 1) hx hb dX6_hired_75 (by decide) ?_
            refine lv_istore (lv' := [(9, .int (1 : Int32)), (8, .int r37), (7, .int (0 : Int32)), (6, .int (0 : Int32)), (5, .int v34), (4, .int v33), (0, .ref (ad 0)), (1, .int x1), (2, .int x2), (3, .int x3)]) hx hb dX6_hired_76 hl (by decide) rfl (fun ls hl => ?_)
            exact w_X6_hired_L78 hX _ _ _ _ _ _ _ _ _ _ _ _ _ _ hf  hP hS (lv_sub hl [6, 7, 8, 9, 5, 4, 3, 2, 1, 0] rfl)
          · replace hf := ite_f c30 hf
            refine lv_iconst (v := -1) hx hb dX6_hired_30 (by decide) ?_
            exact pg_iret hC hr hlk hP hS hf dX6_hired_31
def P_X6_minutesThrough_L33 (N : Nat) : Nat → PSt → Int32 → Int32 → Option (Int32 × PSt)
  | 0 => fun _ _ _ => none
  | n + 1 => fun S x1 x2 => bnd (gR S 601 0) fun t1 => gd (isk t1 4) <| if (gI S 401 t1) ≤ x2 then (some ((gI S 1 156), S)) else (bnd (gR S 601 0) fun t4 => gd (isk t4 4) <| bnd (gR S 601 0) fun t6 => gd (isk t6 4) <| cal2 (P_X0_minutesToWalk N S 156 t6 x1) fun r10 S8 => cal1 (P_X0_walkOn N S8 156 t4 x1 ((gI S 1 156) + r10)) fun S11 => bnd (x2 + (1 : Int32)) fun v13 => P_X6_minutesThrough_L33 N n S11 x1 v13)
set_option maxHeartbeats 4000000 in
set_option maxRecDepth 100000 in
theorem w_X6_minutesThrough_L33 {N : Nat} {S' : PSt} {r : Int32} (hX : Mx p s m args c meth cX6_minutesThrough RX6 3 (some .int) D cy ad tb) : ∀ (n : Nat), ∀ (S : PSt) (x1 : Int32) (x2 : Int32) (H : Heap) (locs : List Loc) (ls : Array Slot), P_X6_minutesThrough_L33 N n S x1 x2 = some (r, S') → va_P D vwCl (pW cy ad S) H → va_S (pA ad s.heap.size) s.heap H locs → lv_has ls 3 [(0, .ref (ad 0)), (1, .int x1), (2, .int x2)] → W p l e (rmd 4) s m args below meth c H locs 0 0 (Qz D cy ad below args s S' (some (.int r))) (F0 m 33 ls []) := by
  have hX0 := hX
  obtain ⟨hC, hml, hr, hlk⟩ := hX0
  have hx := hC.1
  have hb := hC.2.1
  intro n
  induction n with
  | zero => intro S x1 x2 H locs ls hf; exact absurd hf (by intro h; cases h)
  | succ n ih =>
    intro S x1 x2 H locs ls hf  hP hS hl
    rw [P_X6_minutesThrough_L33] at hf
    refine lv_iload_n hx hb dX6_minutesThrough_33 rfl (lv_at hl 2 rfl) ?_
    refine lv_aload_n hx hb dX6_minutesThrough_34 rfl (lv_at hl 0 rfl) ?_
    obtain ⟨t1, et1, hf⟩ := bnd_some hf
    obtain ⟨h2, hf⟩ := gd_some hf
    have h_t1 := isk_eq h2
    refine gf_X6_19 hC hP k_0 (v := .ref (ad t1)) (by rw [et1]) dX6_minutesThrough_35 ?_
    refine gf_X6_135 hC hP h_t1 (v := .int (gI S 401 t1)) rfl dX6_minutesThrough_38 ?_
    refine lv_icmp_ge (tgt := 82) hx hb dX6_minutesThrough_41 (by decide) (fun c3 => ?_) (fun c3 => ?_)
    · replace hf := ite_t c3 hf
      refine lv_aload_n hx hb dX6_minutesThrough_82 rfl (lv_at hl 0 rfl) ?_
      refine gf_X6_63 hC hP k_0 (v := .ref (ad 156)) rfl dX6_minutesThrough_83 ?_
      refine gf_X6_142 hC hP k_156 (v := .int (gI S 1 156)) rfl dX6_minutesThrough_86 ?_
      exact pg_iret hC hr hlk hP hS hf dX6_minutesThrough_89
    · replace hf := ite_f c3 hf
      refine lv_aload_n hx hb dX6_minutesThrough_44 rfl (lv_at hl 0 rfl) ?_
      refine gf_X6_63 hC hP k_0 (v := .ref (ad 156)) rfl dX6_minutesThrough_45 ?_
      refine lv_aload_n hx hb dX6_minutesThrough_48 rfl (lv_at hl 0 rfl) ?_
      obtain ⟨t4, et4, hf⟩ := bnd_some hf
      obtain ⟨h5, hf⟩ := gd_some hf
      have h_t4 := isk_eq h5
      refine gf_X6_19 hC hP k_0 (v := .ref (ad t4)) (by rw [et4]) dX6_minutesThrough_49 ?_
      refine lv_iload_n hx hb dX6_minutesThrough_52 rfl (lv_at hl 1 rfl) ?_
      refine lv_aload_n hx hb dX6_minutesThrough_53 rfl (lv_at hl 0 rfl) ?_
      refine gf_X6_63 hC hP k_0 (v := .ref (ad 156)) rfl dX6_minutesThrough_54 ?_
      refine gf_X6_142 hC hP k_156 (v := .int (gI S 1 156)) rfl dX6_minutesThrough_57 ?_
      refine lv_aload_n hx hb dX6_minutesThrough_60 rfl (lv_at hl 0 rfl) ?_
      refine gf_X6_63 hC hP k_0 (v := .ref (ad 156)) rfl dX6_minutesThrough_61 ?_
      refine lv_aload_n hx hb dX6_minutesThrough_64 rfl (lv_at hl 0 rfl) ?_
      obtain ⟨t6, et6, hf⟩ := bnd_some hf
      obtain ⟨h7, hf⟩ := gd_some hf
      have h_t6 := isk_eq h7
      refine gf_X6_19 hC hP k_0 (v := .ref (ad t6)) (by rw [et6]) dX6_minutesThrough_65 ?_
      refine lv_iload_n hx hb dX6_minutesThrough_68 rfl (lv_at hl 1 rfl) ?_
      obtain ⟨r10, S8, q9, hf⟩ := cal2_some hf
      refine pg_callV (As := [.ref (ad t6), .int x1]) (rest := [.int (gI S 1 156), .int x1, .ref (ad t4), .ref (ad 156)]) (st1 := [.int r10, .int (gI S 1 156), .int x1, .ref (ad t4), .ref (ad 156)]) (ci := 0) hC hml hP hS (c_X0_minutesToWalk l hC.2.2.2.2.2.1 q9 k_156 h_t6) ⟨by decide, by decide, rfl, rfl⟩ ⟨rfl, rfl⟩ (by decide) rfl (by decide) k_156 rfl rfl ⟨mk_X6_138, mi_X0_minutesToWalk⟩ hd_X0_minutesToWalk rfl hl.1 (Nat.le_of_ble_eq_true rfl) dX6_minutesThrough_69 (fun H locs hP hS => ?_)
      refine lv_iadd hx hb dX6_minutesThrough_72 ?_
      obtain ⟨S11, q12, hf⟩ := cal1_some hf
      refine pg_callV (As := [.ref (ad t4), .int x1, .int ((gI S 1 156) + r10)]) (rest := []) (st1 := []) (ci := 0) hC hml hP hS (c_X0_walkOn l hC.2.2.2.2.2.1 q12 k_156 h_t4) ⟨by decide, by decide, rfl, rfl⟩ ⟨rfl, rfl⟩ (by decide) rfl (by decide) k_156 rfl rfl ⟨mk_X6_148, mi_X0_walkOn⟩ hd_X0_walkOn rfl hl.1 (Nat.le_of_ble_eq_true rfl) dX6_minutesThrough_73 (fun H locs hP hS => ?_)
      obtain ⟨v13, ev13, hf⟩ := bnd_some hf
      refine lv_iinc (v := v13) (lv' := [(2, .int v13), (0, .ref (ad 0)), (1, .int x1)]) hx hb dX6_minutesThrough_76 hl (k := 2) rfl (by rw [ev13]; rfl) (by decide) rfl (fun ls hl => ?_)
      refine lv_goto (tgt := 33) hx hb dX6_minutesThrough_79 (by decide) ?_
      exact ih _ _ _ _ _ _ hf  hP hS (lv_sub hl [1, 2, 0] rfl)
def P_X6_minutesThrough (N : Nat) (S : PSt) (x1 : Int32) : Option (Int32 × PSt) := cal1 (P_X0_copy N S 156 25) fun S14 => bnd (sI S14 1 156 (0 : Int32)) fun S16 => bnd (gI S16 0 25) fun v17 => P_X6_minutesThrough_L33 N N S16 x1 v17
set_option maxHeartbeats 4000000 in
set_option maxRecDepth 100000 in
theorem c_X6_minutesThrough (l : Launch) {D : va_G} {cy : Nat → ClassId} {ad tb : Nat → Nat} (hJ : pJ ad) {N : Nat} {S S' : PSt} {x1 : Int32} {r : Int32} (hf : P_X6_minutesThrough N S x1 = some (r, S')) : Ct l 4 yX6_minutesThrough cX6_minutesThrough 3 (some .int) D cy ad tb S S' [.ref (ad 0), .int x1] (some (.int r)) := by
  refine Ct_of hJ (by decide) (Nat.le_of_ble_eq_true rfl) (fun p e s m below meth c ls hX hP hS hl => ?_)
  have hl : lv_has ls 3 [(0, .ref (ad 0)), (1, .int x1)] := hl
  have hX0 := hX
  obtain ⟨hC, hml, hr, hlk⟩ := hX0
  have hx := hC.1
  have hb := hC.2.1
  unfold P_X6_minutesThrough at hf
  refine lv_aload_n hx hb dX6_minutesThrough_0 rfl (lv_at hl 0 rfl) ?_
  refine gf_X6_63 hC hP k_0 (v := .ref (ad 156)) rfl dX6_minutesThrough_1 ?_
  refine lv_aload_n hx hb dX6_minutesThrough_4 rfl (lv_at hl 0 rfl) ?_
  refine gf_X6_29 hC hP k_0 (v := .ref (ad 24)) rfl dX6_minutesThrough_5 ?_
  refine gf_X6_99 hC hP k_24 (v := .ref (ad 25)) rfl dX6_minutesThrough_8 ?_
  obtain ⟨S14, q15, hf⟩ := cal1_some hf
  refine pg_callV (As := [.ref (ad 25)]) (rest := []) (st1 := []) (ci := 0) hC hml hP hS (c_X0_copy l hC.2.2.2.2.2.1 q15 k_156 k_25) ⟨by decide, by decide, rfl, rfl⟩ ⟨rfl, rfl⟩ (by decide) rfl (by decide) k_156 rfl rfl ⟨mk_X6_202, mi_X0_copy⟩ hd_X0_copy rfl hl.1 (Nat.le_of_ble_eq_true rfl) dX6_minutesThrough_11 (fun H locs hP hS => ?_)
  refine lv_aload_n hx hb dX6_minutesThrough_14 rfl (lv_at hl 0 rfl) ?_
  refine gf_X6_63 hC hP k_0 (v := .ref (ad 156)) rfl dX6_minutesThrough_15 ?_
  refine lv_iconst (v := 0) hx hb dX6_minutesThrough_18 (by decide) ?_
  obtain ⟨S16, eS16, hf⟩ := bnd_some hf
  refine pf_X6_142 hC hP hS k_156 eS16 dX6_minutesThrough_19 (fun H locs hP hS => ?_)
  refine lv_aload_n hx hb dX6_minutesThrough_22 rfl (lv_at hl 0 rfl) ?_
  refine gf_X6_29 hC hP k_0 (v := .ref (ad 24)) rfl dX6_minutesThrough_23 ?_
  refine gf_X6_99 hC hP k_24 (v := .ref (ad 25)) rfl dX6_minutesThrough_26 ?_
  refine gf_X6_132 hC hP k_25 (v := .int (gI S16 0 25)) rfl dX6_minutesThrough_29 ?_
  obtain ⟨v17, ev17, hf⟩ := bnd_some hf
  refine pg_top ev17 ?_
  refine lv_istore_n (lv' := [(2, .int v17), (0, .ref (ad 0)), (1, .int x1)]) hx hb dX6_minutesThrough_32 rfl hl (by decide) rfl (fun ls hl => ?_)
  exact w_X6_minutesThrough_L33 hX _ _ _ _ _ _ _ hf  hP hS (lv_sub hl [1, 2, 0] rfl)
def P_X6_goIn_L33 (N : Nat) : Nat → PSt → Int32 → Int32 → Option (Int32 × PSt)
  | 0 => fun _ _ _ => none
  | n + 1 => fun S x2 x3 => if (200 : Int32) < x3 then (some ((-9 : Int32), S)) else (bnd ((gI S 1 25) + x3) fun v2 => bnd (gR S 601 0) fun t3 => gd (isk t3 4) <| cal2 (P_X4_isFree N S t3 v2) fun r7 S5 => if r7 = (0 : Int32) then (bnd (x3 + (1 : Int32)) fun v9 => P_X6_goIn_L33 N n S5 x2 v9) else (bnd (gR S5 601 0) fun t10 => gd (isk t10 4) <| cal2 (P_X4_freeMinutesLeft N S5 t10 v2) fun r14 S12 => if r14 < x2 then (bnd (x3 + (1 : Int32)) fun v16 => P_X6_goIn_L33 N n S12 x2 v16) else (some (x3, S12))))
set_option maxHeartbeats 4000000 in
set_option maxRecDepth 100000 in
theorem w_X6_goIn_L33 {N : Nat} {S' : PSt} {r : Int32} (hX : Mx p s m args c meth cX6_goIn RX6 5 (some .int) D cy ad tb) : ∀ (n : Nat), ∀ (S : PSt) (x2 : Int32) (x3 : Int32) (H : Heap) (locs : List Loc) (ls : Array Slot), P_X6_goIn_L33 N n S x2 x3 = some (r, S') → va_P D vwCl (pW cy ad S) H → va_S (pA ad s.heap.size) s.heap H locs → lv_has ls 5 [(0, .ref (ad 0)), (2, .int x2), (3, .int x3)] → W p l e (rmd 5) s m args below meth c H locs 0 0 (Qz D cy ad below args s S' (some (.int r))) (F0 m 33 ls []) := by
  have hX0 := hX
  obtain ⟨hC, hml, hr, hlk⟩ := hX0
  have hx := hC.1
  have hb := hC.2.1
  intro n
  induction n with
  | zero => intro S x2 x3 H locs ls hf; exact absurd hf (by intro h; cases h)
  | succ n ih =>
    intro S x2 x3 H locs ls hf  hP hS hl
    rw [P_X6_goIn_L33] at hf
    refine lv_iload_n hx hb dX6_goIn_33 rfl (lv_at hl 2 rfl) ?_
    refine lv_sipush (v := 200) hx hb dX6_goIn_34 (by decide) ?_
    refine lv_icmp_gt (tgt := 87) hx hb dX6_goIn_37 (by decide) (fun c1 => ?_) (fun c1 => ?_)
    · replace hf := ite_t c1 hf
      refine lv_bipush (v := -9) hx hb dX6_goIn_87 (by decide) ?_
      exact pg_iret hC hr hlk hP hS hf dX6_goIn_89
    · replace hf := ite_f c1 hf
      refine lv_aload_n hx hb dX6_goIn_40 rfl (lv_at hl 0 rfl) ?_
      refine gf_X6_29 hC hP k_0 (v := .ref (ad 24)) rfl dX6_goIn_41 ?_
      refine gf_X6_99 hC hP k_24 (v := .ref (ad 25)) rfl dX6_goIn_44 ?_
      refine gf_X6_142 hC hP k_25 (v := .int (gI S 1 25)) rfl dX6_goIn_47 ?_
      refine lv_iload_n hx hb dX6_goIn_50 rfl (lv_at hl 2 rfl) ?_
      refine lv_iadd hx hb dX6_goIn_51 ?_
      obtain ⟨v2, ev2, hf⟩ := bnd_some hf
      refine pg_top ev2 ?_
      refine lv_istore (lv' := [(4, .int v2), (0, .ref (ad 0)), (2, .int x2), (3, .int x3)]) hx hb dX6_goIn_52 hl (by decide) rfl (fun ls hl => ?_)
      refine lv_aload_n hx hb dX6_goIn_54 rfl (lv_at hl 1 rfl) ?_
      obtain ⟨t3, et3, hf⟩ := bnd_some hf
      obtain ⟨h4, hf⟩ := gd_some hf
      have h_t3 := isk_eq h4
      refine gf_X6_19 hC hP k_0 (v := .ref (ad t3)) (by rw [et3]) dX6_goIn_55 ?_
      refine lv_iload hx hb dX6_goIn_58 (lv_at hl 0 rfl) ?_
      obtain ⟨r7, S5, q6, hf⟩ := cal2_some hf
      refine pg_callV (As := [.int v2]) (rest := []) (st1 := [.int r7]) (ci := 4) hC hml hP hS (c_X4_isFree l hC.2.2.2.2.2.1 q6 h_t3) ⟨by decide, by decide, rfl, rfl⟩ ⟨rfl, rfl⟩ (by decide) rfl (by decide) h_t3 rfl rfl ⟨mk_X6_172, mi_X4_isFree⟩ hd_X4_isFree rfl hl.1 (Nat.le_of_ble_eq_true rfl) dX6_goIn_60 (fun H locs hP hS => ?_)
      refine lv_if_eq (tgt := 81) hx hb dX6_goIn_63 (by decide) (fun c8 => ?_) (fun c8 => ?_)
      · replace hf := ite_t c8 hf
        obtain ⟨v9, ev9, hf⟩ := bnd_some hf
        refine lv_iinc (v := v9) (lv' := [(3, .int v9), (4, .int v2), (0, .ref (ad 0)), (2, .int x2)]) hx hb dX6_goIn_81 hl (k := 3) rfl (by rw [ev9]; rfl) (by decide) rfl (fun ls hl => ?_)
        refine lv_goto (tgt := 33) hx hb dX6_goIn_84 (by decide) ?_
        exact ih _ _ _ _ _ _ hf  hP hS (lv_sub hl [2, 3, 0] rfl)
      · replace hf := ite_f c8 hf
        refine lv_iload_n hx hb dX6_goIn_66 rfl (lv_at hl 2 rfl) ?_
        refine lv_aload_n hx hb dX6_goIn_67 rfl (lv_at hl 1 rfl) ?_
        obtain ⟨t10, et10, hf⟩ := bnd_some hf
        obtain ⟨h11, hf⟩ := gd_some hf
        have h_t10 := isk_eq h11
        refine gf_X6_19 hC hP k_0 (v := .ref (ad t10)) (by rw [et10]) dX6_goIn_68 ?_
        refine lv_iload hx hb dX6_goIn_71 (lv_at hl 0 rfl) ?_
        obtain ⟨r14, S12, q13, hf⟩ := cal2_some hf
        refine pg_callV (As := [.int v2]) (rest := [.int x2]) (st1 := [.int r14, .int x2]) (ci := 4) hC hml hP hS (c_X4_freeMinutesLeft l hC.2.2.2.2.2.1 q13 h_t10) ⟨by decide, by decide, rfl, rfl⟩ ⟨rfl, rfl⟩ (by decide) rfl (by decide) h_t10 rfl rfl ⟨mk_X6_212, mi_X4_freeMinutesLeft⟩ hd_X4_freeMinutesLeft rfl hl.1 (Nat.le_of_ble_eq_true rfl) dX6_goIn_73 (fun H locs hP hS => ?_)
        refine lv_icmp_gt (tgt := 81) hx hb dX6_goIn_76 (by decide) (fun c15 => ?_) (fun c15 => ?_)
        · replace hf := ite_t c15 hf
          obtain ⟨v16, ev16, hf⟩ := bnd_some hf
          refine lv_iinc (v := v16) (lv' := [(3, .int v16), (4, .int v2), (0, .ref (ad 0)), (2, .int x2)]) hx hb dX6_goIn_81 hl (k := 3) rfl (by rw [ev16]; rfl) (by decide) rfl (fun ls hl => ?_)
          refine lv_goto (tgt := 33) hx hb dX6_goIn_84 (by decide) ?_
          exact ih _ _ _ _ _ _ hf  hP hS (lv_sub hl [2, 3, 0] rfl)
        · replace hf := ite_f c15 hf
          refine lv_iload_n hx hb dX6_goIn_79 rfl (lv_at hl 3 rfl) ?_
          exact pg_iret hC hr hlk hP hS hf dX6_goIn_80
def P_X6_goIn (N : Nat) (S : PSt) (x1 : Int32) : Option (Int32 × PSt) := bnd (gR S 601 0) fun t17 => gd (isk t17 4) <| cal2 (P_X4_hasPair N S t17 x1) fun r21 S19 => if r21 = (0 : Int32) then (some ((-1 : Int32), S19)) else (bnd (gR S19 601 0) fun t23 => gd (isk t23 4) <| if (gI S19 403 t23) = (0 : Int32) then (some ((0 : Int32), S19)) else (cal2 (P_X6_minutesThrough N S19 x1) fun r28 S26 => P_X6_goIn_L33 N N S26 r28 (0 : Int32)))
set_option maxHeartbeats 4000000 in
set_option maxRecDepth 100000 in
theorem c_X6_goIn (l : Launch) {D : va_G} {cy : Nat → ClassId} {ad tb : Nat → Nat} (hJ : pJ ad) {N : Nat} {S S' : PSt} {x1 : Int32} {r : Int32} (hf : P_X6_goIn N S x1 = some (r, S')) : Ct l 5 yX6_goIn cX6_goIn 5 (some .int) D cy ad tb S S' [.ref (ad 0), .int x1] (some (.int r)) := by
  refine Ct_of hJ (by decide) (Nat.le_of_ble_eq_true rfl) (fun p e s m below meth c ls hX hP hS hl => ?_)
  have hl : lv_has ls 5 [(0, .ref (ad 0)), (1, .int x1)] := hl
  have hX0 := hX
  obtain ⟨hC, hml, hr, hlk⟩ := hX0
  have hx := hC.1
  have hb := hC.2.1
  unfold P_X6_goIn at hf
  refine lv_aload_n hx hb dX6_goIn_0 rfl (lv_at hl 0 rfl) ?_
  obtain ⟨t17, et17, hf⟩ := bnd_some hf
  obtain ⟨h18, hf⟩ := gd_some hf
  have h_t17 := isk_eq h18
  refine gf_X6_19 hC hP k_0 (v := .ref (ad t17)) (by rw [et17]) dX6_goIn_1 ?_
  refine lv_iload_n hx hb dX6_goIn_4 rfl (lv_at hl 1 rfl) ?_
  obtain ⟨r21, S19, q20, hf⟩ := cal2_some hf
  refine pg_callV (As := [.int x1]) (rest := []) (st1 := [.int r21]) (ci := 4) hC hml hP hS (c_X4_hasPair l hC.2.2.2.2.2.1 q20 h_t17) ⟨by decide, by decide, rfl, rfl⟩ ⟨rfl, rfl⟩ (by decide) rfl (by decide) h_t17 rfl rfl ⟨mk_X6_125, mi_X4_hasPair⟩ hd_X4_hasPair rfl hl.1 (Nat.le_of_ble_eq_true rfl) dX6_goIn_5 (fun H locs hP hS => ?_)
  refine lv_if_ne (tgt := 13) hx hb dX6_goIn_8 (by decide) (fun c22 => ?_) (fun c22 => ?_)
  · replace hf := ite_f c22 hf
    refine lv_aload_n hx hb dX6_goIn_13 rfl (lv_at hl 0 rfl) ?_
    obtain ⟨t23, et23, hf⟩ := bnd_some hf
    obtain ⟨h24, hf⟩ := gd_some hf
    have h_t23 := isk_eq h24
    refine gf_X6_19 hC hP k_0 (v := .ref (ad t23)) (by rw [et23]) dX6_goIn_14 ?_
    refine gf_X6_206 hC hP h_t23 (v := .int (gI S19 403 t23)) rfl dX6_goIn_17 ?_
    refine lv_if_ne (tgt := 25) hx hb dX6_goIn_20 (by decide) (fun c25 => ?_) (fun c25 => ?_)
    · replace hf := ite_f c25 hf
      refine lv_aload_n hx hb dX6_goIn_25 rfl (lv_at hl 0 rfl) ?_
      refine lv_iload_n hx hb dX6_goIn_26 rfl (lv_at hl 1 rfl) ?_
      obtain ⟨r28, S26, q27, hf⟩ := cal2_some hf
      refine pg_callV (As := [.int x1]) (rest := []) (st1 := [.int r28]) (ci := 6) hC hml hP hS (c_X6_minutesThrough l hC.2.2.2.2.2.1 q27) ⟨by decide, by decide, rfl, rfl⟩ ⟨rfl, rfl⟩ (by decide) rfl (by decide) k_0 rfl rfl ⟨mk_X6_209, mi_X6_minutesThrough⟩ hd_X6_minutesThrough rfl hl.1 (Nat.le_of_ble_eq_true rfl) dX6_goIn_27 (fun H locs hP hS => ?_)
      refine lv_istore_n (lv' := [(2, .int r28), (0, .ref (ad 0)), (1, .int x1)]) hx hb dX6_goIn_30 rfl hl (by decide) rfl (fun ls hl => ?_)
      refine lv_iconst (v := 0) hx hb dX6_goIn_31 (by decide) ?_
      refine lv_istore_n (lv' := [(3, .int (0 : Int32)), (2, .int r28), (0, .ref (ad 0)), (1, .int x1)]) hx hb dX6_goIn_32 rfl hl (by decide) rfl (fun ls hl => ?_)
      exact w_X6_goIn_L33 hX _ _ _ _ _ _ _ hf  hP hS (lv_sub hl [2, 1, 0] rfl)
    · replace hf := ite_t c25 hf
      refine lv_iconst (v := 0) hx hb dX6_goIn_23 (by decide) ?_
      exact pg_iret hC hr hlk hP hS hf dX6_goIn_24
  · replace hf := ite_t c22 hf
    refine lv_iconst (v := -1) hx hb dX6_goIn_11 (by decide) ?_
    exact pg_iret hC hr hlk hP hS hf dX6_goIn_12
def P_X6_meetingStretch_L34 (N : Nat) : Nat → PSt → Int32 → Int32 → Int32 → Int32 → Option (Int32 × PSt)
  | 0 => fun _ _ _ _ _ => none
  | n + 1 => fun S x1 x2 x3 x4 => bnd (gR S 601 0) fun t1 => gd (isk t1 4) <| if (gI S 401 t1) ≤ x4 then (some ((-9 : Int32), S)) else (bnd (gI S 1 156) fun v4 => bnd (gR S 601 0) fun t5 => gd (isk t5 4) <| cal2 (P_X0_minutesToWalk N S 156 t5 x1) fun r9 S7 => bnd (v4 + r9) fun v10 => bnd (gR S7 601 0) fun t11 => gd (isk t11 4) <| cal1 (P_X0_walkOn N S7 156 t11 x1 v10) fun S13 => bnd (gR S13 601 0) fun t15 => gd (isk t15 4) <| bnd (gR S13 601 0) fun t17 => gd (isk t17 4) <| cal2 (P_X4_furlongs N S13 t15 (x4 + (1 : Int32)) (gI S13 401 t17)) fun r21 S19 => bnd (x2 + (x3 * r21)) fun v22 => bnd (gR S19 601 0) fun t23 => gd (isk t23 4) <| gd (bin x4 (ln (t23 + 3))) <| bnd (v22 + (x3 * (gA S19 (t23 + 3) x4.toNatClampNeg))) fun v26 => if v26 < v4 then (bnd (x4 + (1 : Int32)) fun v28 => P_X6_meetingStretch_L34 N n S19 x1 x2 x3 v28) else (if v10 < v22 then (bnd (x4 + (1 : Int32)) fun v30 => P_X6_meetingStretch_L34 N n S19 x1 x2 x3 v30) else (some (x4, S19))))
set_option maxHeartbeats 4000000 in
set_option maxRecDepth 100000 in
theorem w_X6_meetingStretch_L34 {N : Nat} {S' : PSt} {r : Int32} (hX : Mx p s m args c meth cX6_meetingStretch RX6 9 (some .int) D cy ad tb) : ∀ (n : Nat), ∀ (S : PSt) (x1 : Int32) (x2 : Int32) (x3 : Int32) (x4 : Int32) (H : Heap) (locs : List Loc) (ls : Array Slot), P_X6_meetingStretch_L34 N n S x1 x2 x3 x4 = some (r, S') → va_P D vwCl (pW cy ad S) H → va_S (pA ad s.heap.size) s.heap H locs → lv_has ls 9 [(0, .ref (ad 0)), (1, .int x1), (2, .int x2), (3, .int x3), (4, .int x4)] → W p l e (rmd 4) s m args below meth c H locs 0 0 (Qz D cy ad below args s S' (some (.int r))) (F0 m 34 ls []) := by
  have hX0 := hX
  obtain ⟨hC, hml, hr, hlk⟩ := hX0
  have hx := hC.1
  have hb := hC.2.1
  intro n
  induction n with
  | zero => intro S x1 x2 x3 x4 H locs ls hf; exact absurd hf (by intro h; cases h)
  | succ n ih =>
    intro S x1 x2 x3 x4 H locs ls hf  hP hS hl
    rw [P_X6_meetingStretch_L34] at hf
    refine lv_iload hx hb dX6_meetingStretch_34 (lv_at hl 4 rfl) ?_
    refine lv_aload_n hx hb dX6_meetingStretch_36 rfl (lv_at hl 0 rfl) ?_
    obtain ⟨t1, et1, hf⟩ := bnd_some hf
    obtain ⟨h2, hf⟩ := gd_some hf
    have h_t1 := isk_eq h2
    refine gf_X6_19 hC hP k_0 (v := .ref (ad t1)) (by rw [et1]) dX6_meetingStretch_37 ?_
    refine gf_X6_135 hC hP h_t1 (v := .int (gI S 401 t1)) rfl dX6_meetingStretch_40 ?_
    refine lv_icmp_ge (tgt := 150) hx hb dX6_meetingStretch_43 (by decide) (fun c3 => ?_) (fun c3 => ?_)
    · replace hf := ite_t c3 hf
      refine lv_bipush (v := -9) hx hb dX6_meetingStretch_150 (by decide) ?_
      exact pg_iret hC hr hlk hP hS hf dX6_meetingStretch_152
    · replace hf := ite_f c3 hf
      refine lv_aload_n hx hb dX6_meetingStretch_46 rfl (lv_at hl 0 rfl) ?_
      refine gf_X6_63 hC hP k_0 (v := .ref (ad 156)) rfl dX6_meetingStretch_47 ?_
      refine gf_X6_142 hC hP k_156 (v := .int (gI S 1 156)) rfl dX6_meetingStretch_50 ?_
      obtain ⟨v4, ev4, hf⟩ := bnd_some hf
      refine pg_top ev4 ?_
      refine lv_istore (lv' := [(5, .int v4), (0, .ref (ad 0)), (1, .int x1), (2, .int x2), (3, .int x3), (4, .int x4)]) hx hb dX6_meetingStretch_53 hl (by decide) rfl (fun ls hl => ?_)
      refine lv_iload hx hb dX6_meetingStretch_55 (lv_at hl 0 rfl) ?_
      refine lv_aload_n hx hb dX6_meetingStretch_57 rfl (lv_at hl 1 rfl) ?_
      refine gf_X6_63 hC hP k_0 (v := .ref (ad 156)) rfl dX6_meetingStretch_58 ?_
      refine lv_aload_n hx hb dX6_meetingStretch_61 rfl (lv_at hl 1 rfl) ?_
      obtain ⟨t5, et5, hf⟩ := bnd_some hf
      obtain ⟨h6, hf⟩ := gd_some hf
      have h_t5 := isk_eq h6
      refine gf_X6_19 hC hP k_0 (v := .ref (ad t5)) (by rw [et5]) dX6_meetingStretch_62 ?_
      refine lv_iload_n hx hb dX6_meetingStretch_65 rfl (lv_at hl 2 rfl) ?_
      obtain ⟨r9, S7, q8, hf⟩ := cal2_some hf
      refine pg_callV (As := [.ref (ad t5), .int x1]) (rest := [.int v4]) (st1 := [.int r9, .int v4]) (ci := 0) hC hml hP hS (c_X0_minutesToWalk l hC.2.2.2.2.2.1 q8 k_156 h_t5) ⟨by decide, by decide, rfl, rfl⟩ ⟨rfl, rfl⟩ (by decide) rfl (by decide) k_156 rfl rfl ⟨mk_X6_138, mi_X0_minutesToWalk⟩ hd_X0_minutesToWalk rfl hl.1 (Nat.le_of_ble_eq_true rfl) dX6_meetingStretch_66 (fun H locs hP hS => ?_)
      refine lv_iadd hx hb dX6_meetingStretch_69 ?_
      obtain ⟨v10, ev10, hf⟩ := bnd_some hf
      refine pg_top ev10 ?_
      refine lv_istore (lv' := [(6, .int v10), (5, .int v4), (0, .ref (ad 0)), (1, .int x1), (2, .int x2), (3, .int x3), (4, .int x4)]) hx hb dX6_meetingStretch_70 hl (by decide) rfl (fun ls hl => ?_)
      refine lv_aload_n hx hb dX6_meetingStretch_72 rfl (lv_at hl 2 rfl) ?_
      refine gf_X6_63 hC hP k_0 (v := .ref (ad 156)) rfl dX6_meetingStretch_73 ?_
      refine lv_aload_n hx hb dX6_meetingStretch_76 rfl (lv_at hl 2 rfl) ?_
      obtain ⟨t11, et11, hf⟩ := bnd_some hf
      obtain ⟨h12, hf⟩ := gd_some hf
      have h_t11 := isk_eq h12
      refine gf_X6_19 hC hP k_0 (v := .ref (ad t11)) (by rw [et11]) dX6_meetingStretch_77 ?_
      refine lv_iload_n hx hb dX6_meetingStretch_80 rfl (lv_at hl 3 rfl) ?_
      refine lv_iload hx hb dX6_meetingStretch_81 (lv_at hl 0 rfl) ?_
      obtain ⟨S13, q14, hf⟩ := cal1_some hf
      refine pg_callV (As := [.ref (ad t11), .int x1, .int v10]) (rest := []) (st1 := []) (ci := 0) hC hml hP hS (c_X0_walkOn l hC.2.2.2.2.2.1 q14 k_156 h_t11) ⟨by decide, by decide, rfl, rfl⟩ ⟨rfl, rfl⟩ (by decide) rfl (by decide) k_156 rfl rfl ⟨mk_X6_148, mi_X0_walkOn⟩ hd_X0_walkOn rfl hl.1 (Nat.le_of_ble_eq_true rfl) dX6_meetingStretch_83 (fun H locs hP hS => ?_)
      refine lv_iload_n hx hb dX6_meetingStretch_86 rfl (lv_at hl 4 rfl) ?_
      refine lv_iload_n hx hb dX6_meetingStretch_87 rfl (lv_at hl 5 rfl) ?_
      refine lv_aload_n hx hb dX6_meetingStretch_88 rfl (lv_at hl 2 rfl) ?_
      obtain ⟨t15, et15, hf⟩ := bnd_some hf
      obtain ⟨h16, hf⟩ := gd_some hf
      have h_t15 := isk_eq h16
      refine gf_X6_19 hC hP k_0 (v := .ref (ad t15)) (by rw [et15]) dX6_meetingStretch_89 ?_
      refine lv_iload hx hb dX6_meetingStretch_92 (lv_at hl 6 rfl) ?_
      refine lv_iconst (v := 1) hx hb dX6_meetingStretch_94 (by decide) ?_
      refine lv_iadd hx hb dX6_meetingStretch_95 ?_
      refine lv_aload_n hx hb dX6_meetingStretch_96 rfl (lv_at hl 2 rfl) ?_
      obtain ⟨t17, et17, hf⟩ := bnd_some hf
      obtain ⟨h18, hf⟩ := gd_some hf
      have h_t17 := isk_eq h18
      refine gf_X6_19 hC hP k_0 (v := .ref (ad t17)) (by rw [et17]) dX6_meetingStretch_97 ?_
      refine gf_X6_135 hC hP h_t17 (v := .int (gI S13 401 t17)) rfl dX6_meetingStretch_100 ?_
      obtain ⟨r21, S19, q20, hf⟩ := cal2_some hf
      refine pg_callV (As := [.int (x4 + (1 : Int32)), .int (gI S13 401 t17)]) (rest := [.int x3, .int x2]) (st1 := [.int r21, .int x3, .int x2]) (ci := 4) hC hml hP hS (c_X4_furlongs l hC.2.2.2.2.2.1 q20 h_t15) ⟨by decide, by decide, rfl, rfl⟩ ⟨rfl, rfl⟩ (by decide) rfl (by decide) h_t15 rfl rfl ⟨mk_X6_175, mi_X4_furlongs⟩ hd_X4_furlongs rfl hl.1 (Nat.le_of_ble_eq_true rfl) dX6_meetingStretch_103 (fun H locs hP hS => ?_)
      refine lv_imul hx hb dX6_meetingStretch_106 ?_
      refine lv_iadd hx hb dX6_meetingStretch_107 ?_
      obtain ⟨v22, ev22, hf⟩ := bnd_some hf
      refine pg_top ev22 ?_
      refine lv_istore (lv' := [(7, .int v22), (6, .int v10), (5, .int v4), (0, .ref (ad 0)), (1, .int x1), (2, .int x2), (3, .int x3), (4, .int x4)]) hx hb dX6_meetingStretch_108 hl (by decide) rfl (fun ls hl => ?_)
      refine lv_iload hx hb dX6_meetingStretch_110 (lv_at hl 0 rfl) ?_
      refine lv_iload_n hx hb dX6_meetingStretch_112 rfl (lv_at hl 6 rfl) ?_
      refine lv_aload_n hx hb dX6_meetingStretch_113 rfl (lv_at hl 3 rfl) ?_
      obtain ⟨t23, et23, hf⟩ := bnd_some hf
      obtain ⟨h24, hf⟩ := gd_some hf
      have h_t23 := isk_eq h24
      refine gf_X6_19 hC hP k_0 (v := .ref (ad t23)) (by rw [et23]) dX6_meetingStretch_114 ?_
      refine gf_X6_113 hC hP h_t23 (v := .ref (ad (t23 + 3))) rfl dX6_meetingStretch_117 ?_
      refine lv_iload hx hb dX6_meetingStretch_120 (lv_at hl 7 rfl) ?_
      obtain ⟨h25, hf⟩ := gd_some hf
      refine pg_iald hC hP (ko_4_3 h_t23) (bin_in h25) dX6_meetingStretch_122 ?_
      refine lv_imul hx hb dX6_meetingStretch_123 ?_
      refine lv_iadd hx hb dX6_meetingStretch_124 ?_
      obtain ⟨v26, ev26, hf⟩ := bnd_some hf
      refine pg_top ev26 ?_
      refine lv_istore (lv' := [(8, .int v26), (7, .int v22), (6, .int v10), (5, .int v4), (0, .ref (ad 0)), (1, .int x1), (2, .int x2), (3, .int x3), (4, .int x4)]) hx hb dX6_meetingStretch_125 hl (by decide) rfl (fun ls hl => ?_)
      refine lv_iload hx hb dX6_meetingStretch_127 (lv_at hl 3 rfl) ?_
      refine lv_iload hx hb dX6_meetingStretch_129 (lv_at hl 0 rfl) ?_
      refine lv_icmp_gt (tgt := 144) hx hb dX6_meetingStretch_131 (by decide) (fun c27 => ?_) (fun c27 => ?_)
      · replace hf := ite_t c27 hf
        obtain ⟨v28, ev28, hf⟩ := bnd_some hf
        refine lv_iinc (v := v28) (lv' := [(4, .int v28), (8, .int v26), (7, .int v22), (6, .int v10), (5, .int v4), (0, .ref (ad 0)), (1, .int x1), (2, .int x2), (3, .int x3)]) hx hb dX6_meetingStretch_144 hl (k := 8) rfl (by rw [ev28]; rfl) (by decide) rfl (fun ls hl => ?_)
        refine lv_goto (tgt := 34) hx hb dX6_meetingStretch_147 (by decide) ?_
        exact ih _ _ _ _ _ _ _ _ hf  hP hS (lv_sub hl [5, 6, 7, 8, 0] rfl)
      · replace hf := ite_f c27 hf
        refine lv_iload hx hb dX6_meetingStretch_134 (lv_at hl 1 rfl) ?_
        refine lv_iload hx hb dX6_meetingStretch_136 (lv_at hl 2 rfl) ?_
        refine lv_icmp_gt (tgt := 144) hx hb dX6_meetingStretch_138 (by decide) (fun c29 => ?_) (fun c29 => ?_)
        · replace hf := ite_t c29 hf
          obtain ⟨v30, ev30, hf⟩ := bnd_some hf
          refine lv_iinc (v := v30) (lv' := [(4, .int v30), (8, .int v26), (7, .int v22), (6, .int v10), (5, .int v4), (0, .ref (ad 0)), (1, .int x1), (2, .int x2), (3, .int x3)]) hx hb dX6_meetingStretch_144 hl (k := 8) rfl (by rw [ev30]; rfl) (by decide) rfl (fun ls hl => ?_)
          refine lv_goto (tgt := 34) hx hb dX6_meetingStretch_147 (by decide) ?_
          exact ih _ _ _ _ _ _ _ _ hf  hP hS (lv_sub hl [5, 6, 7, 8, 0] rfl)
        · replace hf := ite_f c29 hf
          refine lv_iload hx hb dX6_meetingStretch_141 (lv_at hl 8 rfl) ?_
          exact pg_iret hC hr hlk hP hS hf dX6_meetingStretch_143
def P_X6_meetingStretch (N : Nat) (S : PSt) (x1 : Int32) (x2 : Int32) (x3 : Int32) : Option (Int32 × PSt) := cal1 (P_X0_copy N S 156 25) fun S31 => bnd (sI S31 1 156 (0 : Int32)) fun S33 => bnd (gI S33 0 25) fun v34 => P_X6_meetingStretch_L34 N N S33 x1 x2 x3 v34
set_option maxHeartbeats 4000000 in
set_option maxRecDepth 100000 in
theorem c_X6_meetingStretch (l : Launch) {D : va_G} {cy : Nat → ClassId} {ad tb : Nat → Nat} (hJ : pJ ad) {N : Nat} {S S' : PSt} {x1 : Int32} {x2 : Int32} {x3 : Int32} {r : Int32} (hf : P_X6_meetingStretch N S x1 x2 x3 = some (r, S')) : Ct l 4 yX6_meetingStretch cX6_meetingStretch 9 (some .int) D cy ad tb S S' [.ref (ad 0), .int x1, .int x2, .int x3] (some (.int r)) := by
  refine Ct_of hJ (by decide) (Nat.le_of_ble_eq_true rfl) (fun p e s m below meth c ls hX hP hS hl => ?_)
  have hl : lv_has ls 9 [(0, .ref (ad 0)), (1, .int x1), (2, .int x2), (3, .int x3)] := hl
  have hX0 := hX
  obtain ⟨hC, hml, hr, hlk⟩ := hX0
  have hx := hC.1
  have hb := hC.2.1
  unfold P_X6_meetingStretch at hf
  refine lv_aload_n hx hb dX6_meetingStretch_0 rfl (lv_at hl 0 rfl) ?_
  refine gf_X6_63 hC hP k_0 (v := .ref (ad 156)) rfl dX6_meetingStretch_1 ?_
  refine lv_aload_n hx hb dX6_meetingStretch_4 rfl (lv_at hl 0 rfl) ?_
  refine gf_X6_29 hC hP k_0 (v := .ref (ad 24)) rfl dX6_meetingStretch_5 ?_
  refine gf_X6_99 hC hP k_24 (v := .ref (ad 25)) rfl dX6_meetingStretch_8 ?_
  obtain ⟨S31, q32, hf⟩ := cal1_some hf
  refine pg_callV (As := [.ref (ad 25)]) (rest := []) (st1 := []) (ci := 0) hC hml hP hS (c_X0_copy l hC.2.2.2.2.2.1 q32 k_156 k_25) ⟨by decide, by decide, rfl, rfl⟩ ⟨rfl, rfl⟩ (by decide) rfl (by decide) k_156 rfl rfl ⟨mk_X6_202, mi_X0_copy⟩ hd_X0_copy rfl hl.1 (Nat.le_of_ble_eq_true rfl) dX6_meetingStretch_11 (fun H locs hP hS => ?_)
  refine lv_aload_n hx hb dX6_meetingStretch_14 rfl (lv_at hl 0 rfl) ?_
  refine gf_X6_63 hC hP k_0 (v := .ref (ad 156)) rfl dX6_meetingStretch_15 ?_
  refine lv_iconst (v := 0) hx hb dX6_meetingStretch_18 (by decide) ?_
  obtain ⟨S33, eS33, hf⟩ := bnd_some hf
  refine pf_X6_142 hC hP hS k_156 eS33 dX6_meetingStretch_19 (fun H locs hP hS => ?_)
  refine lv_aload_n hx hb dX6_meetingStretch_22 rfl (lv_at hl 0 rfl) ?_
  refine gf_X6_29 hC hP k_0 (v := .ref (ad 24)) rfl dX6_meetingStretch_23 ?_
  refine gf_X6_99 hC hP k_24 (v := .ref (ad 25)) rfl dX6_meetingStretch_26 ?_
  refine gf_X6_132 hC hP k_25 (v := .int (gI S33 0 25)) rfl dX6_meetingStretch_29 ?_
  obtain ⟨v34, ev34, hf⟩ := bnd_some hf
  refine pg_top ev34 ?_
  refine lv_istore (lv' := [(4, .int v34), (0, .ref (ad 0)), (1, .int x1), (2, .int x2), (3, .int x3)]) hx hb dX6_meetingStretch_32 hl (by decide) rfl (fun ls hl => ?_)
  exact w_X6_meetingStretch_L34 hX _ _ _ _ _ _ _ _ _ hf  hP hS (lv_sub hl [1, 2, 3, 4, 0] rfl)
def P_X6_meets (N : Nat) (S : PSt) (x1 : Int32) (x2 : Int32) (x3 : Int32) (x4 : Int32) : Option (Int32 × PSt) := bnd (gR S 601 0) fun t1 => gd (isk t1 4) <| cal2 (P_X4_hasPair N S t1 x1) fun r5 S3 => if r5 = (0 : Int32) then (some ((-1 : Int32), S3)) else (if x2 < (0 : Int32) then (some ((-1 : Int32), S3)) else (if (200 : Int32) < x2 then (some ((-1 : Int32), S3)) else (if x3 < (1 : Int32) then (some ((-1 : Int32), S3)) else (if (9 : Int32) < x3 then (some ((-1 : Int32), S3)) else (if x4 < (0 : Int32) then (some ((-1 : Int32), S3)) else (if x4 ≤ (1 : Int32) then (cal2 (P_X6_meetingStretch N S3 x1 x2 x3) fun r15 S13 => if r15 = (-9 : Int32) then (some (r15, S13)) else (if x4 = (0 : Int32) then (some (r15, S13)) else (bnd (gR S13 601 0) fun t18 => gd (isk t18 4) <| cal2 (P_X4_furlongs N S13 t18 (gI S13 0 25) r15) fun r22 S20 => bnd (gR S20 601 0) fun t23 => gd (isk t23 4) <| bnd (gR S20 601 0) fun t25 => gd (isk t25 4) <| cal2 (P_X4_furlongs N S20 t23 (r15 + (1 : Int32)) (gI S20 401 t25)) fun r29 S27 => if r29 ≤ r22 then (some ((1 : Int32), S27)) else (some ((0 : Int32), S27))))) else (some ((-1 : Int32), S3))))))))
set_option maxHeartbeats 4000000 in
set_option maxRecDepth 100000 in
theorem c_X6_meets (l : Launch) {D : va_G} {cy : Nat → ClassId} {ad tb : Nat → Nat} (hJ : pJ ad) {N : Nat} {S S' : PSt} {x1 : Int32} {x2 : Int32} {x3 : Int32} {x4 : Int32} {r : Int32} (hf : P_X6_meets N S x1 x2 x3 x4 = some (r, S')) : Ct l 5 yX6_meets cX6_meets 8 (some .int) D cy ad tb S S' [.ref (ad 0), .int x1, .int x2, .int x3, .int x4] (some (.int r)) := by
  refine Ct_of hJ (by decide) (Nat.le_of_ble_eq_true rfl) (fun p e s m below meth c ls hX hP hS hl => ?_)
  have hl : lv_has ls 8 [(0, .ref (ad 0)), (1, .int x1), (2, .int x2), (3, .int x3), (4, .int x4)] := hl
  have hX0 := hX
  obtain ⟨hC, hml, hr, hlk⟩ := hX0
  have hx := hC.1
  have hb := hC.2.1
  unfold P_X6_meets at hf
  refine lv_aload_n hx hb dX6_meets_0 rfl (lv_at hl 0 rfl) ?_
  obtain ⟨t1, et1, hf⟩ := bnd_some hf
  obtain ⟨h2, hf⟩ := gd_some hf
  have h_t1 := isk_eq h2
  refine gf_X6_19 hC hP k_0 (v := .ref (ad t1)) (by rw [et1]) dX6_meets_1 ?_
  refine lv_iload_n hx hb dX6_meets_4 rfl (lv_at hl 1 rfl) ?_
  obtain ⟨r5, S3, q4, hf⟩ := cal2_some hf
  refine pg_callV (As := [.int x1]) (rest := []) (st1 := [.int r5]) (ci := 4) hC hml hP hS (c_X4_hasPair l hC.2.2.2.2.2.1 q4 h_t1) ⟨by decide, by decide, rfl, rfl⟩ ⟨rfl, rfl⟩ (by decide) rfl (by decide) h_t1 rfl rfl ⟨mk_X6_125, mi_X4_hasPair⟩ hd_X4_hasPair rfl hl.1 (Nat.le_of_ble_eq_true rfl) dX6_meets_5 (fun H locs hP hS => ?_)
  refine lv_if_eq (tgt := 44) hx hb dX6_meets_8 (by decide) (fun c6 => ?_) (fun c6 => ?_)
  · replace hf := ite_t c6 hf
    refine lv_iconst (v := -1) hx hb dX6_meets_44 (by decide) ?_
    exact pg_iret hC hr hlk hP hS hf dX6_meets_45
  · replace hf := ite_f c6 hf
    refine lv_iload_n hx hb dX6_meets_11 rfl (lv_at hl 2 rfl) ?_
    refine lv_if_lt (tgt := 44) hx hb dX6_meets_12 (by decide) (fun c7 => ?_) (fun c7 => ?_)
    · replace hf := ite_t c7 hf
      refine lv_iconst (v := -1) hx hb dX6_meets_44 (by decide) ?_
      exact pg_iret hC hr hlk hP hS hf dX6_meets_45
    · replace hf := ite_f c7 hf
      refine lv_iload_n hx hb dX6_meets_15 rfl (lv_at hl 2 rfl) ?_
      refine lv_sipush (v := 200) hx hb dX6_meets_16 (by decide) ?_
      refine lv_icmp_gt (tgt := 44) hx hb dX6_meets_19 (by decide) (fun c8 => ?_) (fun c8 => ?_)
      · replace hf := ite_t c8 hf
        refine lv_iconst (v := -1) hx hb dX6_meets_44 (by decide) ?_
        exact pg_iret hC hr hlk hP hS hf dX6_meets_45
      · replace hf := ite_f c8 hf
        refine lv_iload_n hx hb dX6_meets_22 rfl (lv_at hl 3 rfl) ?_
        refine lv_iconst (v := 1) hx hb dX6_meets_23 (by decide) ?_
        refine lv_icmp_lt (tgt := 44) hx hb dX6_meets_24 (by decide) (fun c9 => ?_) (fun c9 => ?_)
        · replace hf := ite_t c9 hf
          refine lv_iconst (v := -1) hx hb dX6_meets_44 (by decide) ?_
          exact pg_iret hC hr hlk hP hS hf dX6_meets_45
        · replace hf := ite_f c9 hf
          refine lv_iload_n hx hb dX6_meets_27 rfl (lv_at hl 3 rfl) ?_
          refine lv_bipush (v := 9) hx hb dX6_meets_28 (by decide) ?_
          refine lv_icmp_gt (tgt := 44) hx hb dX6_meets_30 (by decide) (fun c10 => ?_) (fun c10 => ?_)
          · replace hf := ite_t c10 hf
            refine lv_iconst (v := -1) hx hb dX6_meets_44 (by decide) ?_
            exact pg_iret hC hr hlk hP hS hf dX6_meets_45
          · replace hf := ite_f c10 hf
            refine lv_iload hx hb dX6_meets_33 (lv_at hl 4 rfl) ?_
            refine lv_if_lt (tgt := 44) hx hb dX6_meets_35 (by decide) (fun c11 => ?_) (fun c11 => ?_)
            · replace hf := ite_t c11 hf
              refine lv_iconst (v := -1) hx hb dX6_meets_44 (by decide) ?_
              exact pg_iret hC hr hlk hP hS hf dX6_meets_45
            · replace hf := ite_f c11 hf
              refine lv_iload hx hb dX6_meets_38 (lv_at hl 4 rfl) ?_
              refine lv_iconst (v := 1) hx hb dX6_meets_40 (by decide) ?_
              refine lv_icmp_le (tgt := 46) hx hb dX6_meets_41 (by decide) (fun c12 => ?_) (fun c12 => ?_)
              · replace hf := ite_t c12 hf
                refine lv_aload_n hx hb dX6_meets_46 rfl (lv_at hl 0 rfl) ?_
                refine lv_iload_n hx hb dX6_meets_47 rfl (lv_at hl 1 rfl) ?_
                refine lv_iload_n hx hb dX6_meets_48 rfl (lv_at hl 2 rfl) ?_
                refine lv_iload_n hx hb dX6_meets_49 rfl (lv_at hl 3 rfl) ?_
                obtain ⟨r15, S13, q14, hf⟩ := cal2_some hf
                refine pg_callV (As := [.int x1, .int x2, .int x3]) (rest := []) (st1 := [.int r15]) (ci := 6) hC hml hP hS (c_X6_meetingStretch l hC.2.2.2.2.2.1 q14) ⟨by decide, by decide, rfl, rfl⟩ ⟨rfl, rfl⟩ (by decide) rfl (by decide) k_0 rfl rfl ⟨mk_X6_215, mi_X6_meetingStretch⟩ hd_X6_meetingStretch rfl hl.1 (Nat.le_of_ble_eq_true rfl) dX6_meets_50 (fun H locs hP hS => ?_)
                refine lv_istore (lv' := [(5, .int r15), (0, .ref (ad 0)), (1, .int x1), (2, .int x2), (3, .int x3), (4, .int x4)]) hx hb dX6_meets_53 hl (by decide) rfl (fun ls hl => ?_)
                refine lv_iload hx hb dX6_meets_55 (lv_at hl 0 rfl) ?_
                refine lv_bipush (v := -9) hx hb dX6_meets_57 (by decide) ?_
                refine lv_icmp_eq (tgt := 67) hx hb dX6_meets_59 (by decide) (fun c16 => ?_) (fun c16 => ?_)
                · replace hf := ite_t c16 hf
                  refine lv_iload hx hb dX6_meets_67 (lv_at hl 0 rfl) ?_
                  exact pg_iret hC hr hlk hP hS hf dX6_meets_69
                · replace hf := ite_f c16 hf
                  refine lv_iload hx hb dX6_meets_62 (lv_at hl 5 rfl) ?_
                  refine lv_if_ne (tgt := 70) hx hb dX6_meets_64 (by decide) (fun c17 => ?_) (fun c17 => ?_)
                  · replace hf := ite_f c17 hf
                    refine lv_aload_n hx hb dX6_meets_70 rfl (lv_at hl 1 rfl) ?_
                    obtain ⟨t18, et18, hf⟩ := bnd_some hf
                    obtain ⟨h19, hf⟩ := gd_some hf
                    have h_t18 := isk_eq h19
                    refine gf_X6_19 hC hP k_0 (v := .ref (ad t18)) (by rw [et18]) dX6_meets_71 ?_
                    refine lv_aload_n hx hb dX6_meets_74 rfl (lv_at hl 1 rfl) ?_
                    refine gf_X6_29 hC hP k_0 (v := .ref (ad 24)) rfl dX6_meets_75 ?_
                    refine gf_X6_99 hC hP k_24 (v := .ref (ad 25)) rfl dX6_meets_78 ?_
                    refine gf_X6_132 hC hP k_25 (v := .int (gI S13 0 25)) rfl dX6_meets_81 ?_
                    refine lv_iload hx hb dX6_meets_84 (lv_at hl 0 rfl) ?_
                    obtain ⟨r22, S20, q21, hf⟩ := cal2_some hf
                    refine pg_callV (As := [.int (gI S13 0 25), .int r15]) (rest := []) (st1 := [.int r22]) (ci := 4) hC hml hP hS (c_X4_furlongs l hC.2.2.2.2.2.1 q21 h_t18) ⟨by decide, by decide, rfl, rfl⟩ ⟨rfl, rfl⟩ (by decide) rfl (by decide) h_t18 rfl rfl ⟨mk_X6_175, mi_X4_furlongs⟩ hd_X4_furlongs rfl hl.1 (Nat.le_of_ble_eq_true rfl) dX6_meets_86 (fun H locs hP hS => ?_)
                    refine lv_istore (lv' := [(6, .int r22), (5, .int r15), (0, .ref (ad 0)), (1, .int x1), (2, .int x2), (3, .int x3), (4, .int x4)]) hx hb dX6_meets_89 hl (by decide) rfl (fun ls hl => ?_)
                    refine lv_aload_n hx hb dX6_meets_91 rfl (lv_at hl 2 rfl) ?_
                    obtain ⟨t23, et23, hf⟩ := bnd_some hf
                    obtain ⟨h24, hf⟩ := gd_some hf
                    have h_t23 := isk_eq h24
                    refine gf_X6_19 hC hP k_0 (v := .ref (ad t23)) (by rw [et23]) dX6_meets_92 ?_
                    refine lv_iload hx hb dX6_meets_95 (lv_at hl 1 rfl) ?_
                    refine lv_iconst (v := 1) hx hb dX6_meets_97 (by decide) ?_
                    refine lv_iadd hx hb dX6_meets_98 ?_
                    refine lv_aload_n hx hb dX6_meets_99 rfl (lv_at hl 2 rfl) ?_
                    obtain ⟨t25, et25, hf⟩ := bnd_some hf
                    obtain ⟨h26, hf⟩ := gd_some hf
                    have h_t25 := isk_eq h26
                    refine gf_X6_19 hC hP k_0 (v := .ref (ad t25)) (by rw [et25]) dX6_meets_100 ?_
                    refine gf_X6_135 hC hP h_t25 (v := .int (gI S20 401 t25)) rfl dX6_meets_103 ?_
                    obtain ⟨r29, S27, q28, hf⟩ := cal2_some hf
                    refine pg_callV (As := [.int (r15 + (1 : Int32)), .int (gI S20 401 t25)]) (rest := []) (st1 := [.int r29]) (ci := 4) hC hml hP hS (c_X4_furlongs l hC.2.2.2.2.2.1 q28 h_t23) ⟨by decide, by decide, rfl, rfl⟩ ⟨rfl, rfl⟩ (by decide) rfl (by decide) h_t23 rfl rfl ⟨mk_X6_175, mi_X4_furlongs⟩ hd_X4_furlongs rfl hl.1 (Nat.le_of_ble_eq_true rfl) dX6_meets_106 (fun H locs hP hS => ?_)
                    refine lv_istore (lv' := [(7, .int r29), (6, .int r22), (5, .int r15), (0, .ref (ad 0)), (1, .int x1), (2, .int x2), (3, .int x3), (4, .int x4)]) hx hb dX6_meets_109 hl (by decide) rfl (fun ls hl => ?_)
                    refine lv_iload hx hb dX6_meets_111 (lv_at hl 1 rfl) ?_
                    refine lv_iload hx hb dX6_meets_113 (lv_at hl 0 rfl) ?_
                    refine lv_icmp_ge (tgt := 122) hx hb dX6_meets_115 (by decide) (fun c30 => ?_) (fun c30 => ?_)
                    · replace hf := ite_t c30 hf
                      refine lv_iconst (v := 1) hx hb dX6_meets_122 (by decide) ?_
                      exact pg_iret hC hr hlk hP hS hf dX6_meets_123
                    · replace hf := ite_f c30 hf
                      refine lv_iconst (v := 0) hx hb dX6_meets_118 (by decide) ?_
                      refine lv_goto (tgt := 123) hx hb dX6_meets_119 (by decide) ?_
                      exact pg_iret hC hr hlk hP hS hf dX6_meets_123
                  · replace hf := ite_t c17 hf
                    refine lv_iload hx hb dX6_meets_67 (lv_at hl 0 rfl) ?_
                    exact pg_iret hC hr hlk hP hS hf dX6_meets_69
              · replace hf := ite_f c12 hf
                refine lv_iconst (v := -1) hx hb dX6_meets_44 (by decide) ?_
                exact pg_iret hC hr hlk hP hS hf dX6_meets_45
def P_X6_commonDivisor_L34 (N : Nat) (S : PSt) (x2 : Int32) : Option (Int32 × PSt) := some ((if x2 < (1 : Int32) then (1 : Int32) else x2), S)
set_option maxHeartbeats 4000000 in
set_option maxRecDepth 100000 in
theorem w_X6_commonDivisor_L34 {N : Nat} {S' : PSt} {r : Int32} (hX : Mx p s m args c meth cX6_commonDivisor RX6 6 (some .int) D cy ad tb) : ∀ (S : PSt) (x2 : Int32) (H : Heap) (locs : List Loc) (ls : Array Slot), P_X6_commonDivisor_L34 N S x2 = some (r, S') → va_P D vwCl (pW cy ad S) H → va_S (pA ad s.heap.size) s.heap H locs → lv_has ls 6 [(2, .int x2)] → W p l e (rmd 1) s m args below meth c H locs 0 0 (Qz D cy ad below args s S' (some (.int r))) (F0 m 34 ls []) := by
  have hX0 := hX
  obtain ⟨hC, hml, hr, hlk⟩ := hX0
  have hx := hC.1
  have hb := hC.2.1
  intro S x2 H locs ls hf  hP hS hl
  unfold P_X6_commonDivisor_L34 at hf
  refine lv_iload_n hx hb dX6_commonDivisor_34 rfl (lv_at hl 0 rfl) ?_
  refine lv_iconst (v := 1) hx hb dX6_commonDivisor_35 (by decide) ?_
  refine pg_max hC (hml.trans hl.1.symm) ⟨by decide, by decide, rfl, rfl⟩ ⟨rfl, rfl⟩ kl_X6_228 (Nat.le_of_ble_eq_true rfl) dX6_commonDivisor_36 ?_
  exact pg_iret hC hr hlk hP hS hf dX6_commonDivisor_39
def P_X6_commonDivisor_L7 (N : Nat) : Nat → PSt → Int32 → Int32 → Int32 → Option (Int32 × PSt)
  | 0 => fun _ _ _ _ => none
  | n + 1 => fun S x2 x3 x4 => if (64 : Int32) ≤ x4 then (P_X6_commonDivisor_L34 N S x2) else (if x3 = (0 : Int32) then (P_X6_commonDivisor_L34 N S x2) else (gd (nz x3) <| bnd (x2 - x2 / x3 * x3) fun v4 => bnd (x4 + (1 : Int32)) fun v5 => P_X6_commonDivisor_L7 N n S x3 v4 v5))
set_option maxHeartbeats 4000000 in
set_option maxRecDepth 100000 in
theorem w_X6_commonDivisor_L7 {N : Nat} {S' : PSt} {r : Int32} (hX : Mx p s m args c meth cX6_commonDivisor RX6 6 (some .int) D cy ad tb) : ∀ (n : Nat), ∀ (S : PSt) (x2 : Int32) (x3 : Int32) (x4 : Int32) (H : Heap) (locs : List Loc) (ls : Array Slot), P_X6_commonDivisor_L7 N n S x2 x3 x4 = some (r, S') → va_P D vwCl (pW cy ad S) H → va_S (pA ad s.heap.size) s.heap H locs → lv_has ls 6 [(2, .int x2), (3, .int x3), (4, .int x4)] → W p l e (rmd 1) s m args below meth c H locs 0 0 (Qz D cy ad below args s S' (some (.int r))) (F0 m 7 ls []) := by
  have hX0 := hX
  obtain ⟨hC, hml, hr, hlk⟩ := hX0
  have hx := hC.1
  have hb := hC.2.1
  intro n
  induction n with
  | zero => intro S x2 x3 x4 H locs ls hf; exact absurd hf (by intro h; cases h)
  | succ n ih =>
    intro S x2 x3 x4 H locs ls hf  hP hS hl
    rw [P_X6_commonDivisor_L7] at hf
    refine lv_iload hx hb dX6_commonDivisor_7 (lv_at hl 2 rfl) ?_
    refine lv_bipush (v := 64) hx hb dX6_commonDivisor_9 (by decide) ?_
    refine lv_icmp_ge (tgt := 34) hx hb dX6_commonDivisor_11 (by decide) (fun c1 => ?_) (fun c1 => ?_)
    · replace hf := ite_t c1 hf
      exact w_X6_commonDivisor_L34 hX _ _ _ _ _ hf  hP hS (lv_sub hl [0] rfl)
    · replace hf := ite_f c1 hf
      refine lv_iload_n hx hb dX6_commonDivisor_14 rfl (lv_at hl 1 rfl) ?_
      refine lv_if_eq (tgt := 34) hx hb dX6_commonDivisor_15 (by decide) (fun c2 => ?_) (fun c2 => ?_)
      · replace hf := ite_t c2 hf
        exact w_X6_commonDivisor_L34 hX _ _ _ _ _ hf  hP hS (lv_sub hl [0] rfl)
      · replace hf := ite_f c2 hf
        refine lv_iload_n hx hb dX6_commonDivisor_18 rfl (lv_at hl 0 rfl) ?_
        refine lv_iload_n hx hb dX6_commonDivisor_19 rfl (lv_at hl 1 rfl) ?_
        obtain ⟨h3, hf⟩ := gd_some hf
        refine lv_irem hx hb dX6_commonDivisor_20 (nz_ne h3) ?_
        obtain ⟨v4, ev4, hf⟩ := bnd_some hf
        refine pg_top ev4 ?_
        refine lv_istore (lv' := [(5, .int v4), (2, .int x2), (3, .int x3), (4, .int x4)]) hx hb dX6_commonDivisor_21 hl (by decide) rfl (fun ls hl => ?_)
        refine lv_iload_n hx hb dX6_commonDivisor_23 rfl (lv_at hl 2 rfl) ?_
        refine lv_istore_n (lv' := [(2, .int x3), (5, .int v4), (3, .int x3), (4, .int x4)]) hx hb dX6_commonDivisor_24 rfl hl (by decide) rfl (fun ls hl => ?_)
        refine lv_iload hx hb dX6_commonDivisor_25 (lv_at hl 1 rfl) ?_
        refine lv_istore_n (lv' := [(3, .int v4), (2, .int x3), (5, .int v4), (4, .int x4)]) hx hb dX6_commonDivisor_27 rfl hl (by decide) rfl (fun ls hl => ?_)
        obtain ⟨v5, ev5, hf⟩ := bnd_some hf
        refine lv_iinc (v := v5) (lv' := [(4, .int v5), (3, .int v4), (2, .int x3), (5, .int v4)]) hx hb dX6_commonDivisor_28 hl (k := 3) rfl (by rw [ev5]; rfl) (by decide) rfl (fun ls hl => ?_)
        refine lv_goto (tgt := 7) hx hb dX6_commonDivisor_31 (by decide) ?_
        exact ih _ _ _ _ _ _ _ hf  hP hS (lv_sub hl [2, 1, 0] rfl)
def P_X6_commonDivisor (N : Nat) (S : PSt) (x0 : Int32) (x1 : Int32) : Option (Int32 × PSt) := P_X6_commonDivisor_L7 N N S x0 x1 (0 : Int32)
set_option maxHeartbeats 4000000 in
set_option maxRecDepth 100000 in
theorem c_X6_commonDivisor (l : Launch) {D : va_G} {cy : Nat → ClassId} {ad tb : Nat → Nat} (hJ : pJ ad) {N : Nat} {S S' : PSt} {x0 : Int32} {x1 : Int32} {r : Int32} (hf : P_X6_commonDivisor N S x0 x1 = some (r, S')) : Ct l 1 yX6_commonDivisor cX6_commonDivisor 6 (some .int) D cy ad tb S S' [.int x0, .int x1] (some (.int r)) := by
  refine Ct_of hJ (by decide) (Nat.le_of_ble_eq_true rfl) (fun p e s m below meth c ls hX hP hS hl => ?_)
  have hl : lv_has ls 6 [(0, .int x0), (1, .int x1)] := hl
  have hX0 := hX
  obtain ⟨hC, hml, hr, hlk⟩ := hX0
  have hx := hC.1
  have hb := hC.2.1
  unfold P_X6_commonDivisor at hf
  refine lv_iload_n hx hb dX6_commonDivisor_0 rfl (lv_at hl 0 rfl) ?_
  refine lv_istore_n (lv' := [(2, .int x0), (0, .int x0), (1, .int x1)]) hx hb dX6_commonDivisor_1 rfl hl (by decide) rfl (fun ls hl => ?_)
  refine lv_iload_n hx hb dX6_commonDivisor_2 rfl (lv_at hl 2 rfl) ?_
  refine lv_istore_n (lv' := [(3, .int x1), (2, .int x0), (0, .int x0), (1, .int x1)]) hx hb dX6_commonDivisor_3 rfl hl (by decide) rfl (fun ls hl => ?_)
  refine lv_iconst (v := 0) hx hb dX6_commonDivisor_4 (by decide) ?_
  refine lv_istore (lv' := [(4, .int (0 : Int32)), (3, .int x1), (2, .int x0), (0, .int x0), (1, .int x1)]) hx hb dX6_commonDivisor_5 hl (by decide) rfl (fun ls hl => ?_)
  exact w_X6_commonDivisor_L7 hX _ _ _ _ _ _ _ _ hf  hP hS (lv_sub hl [2, 1, 0] rfl)
def P_X6_odds_L125 (k80 : PSt → Int32 → Int32 → Int32 → Int32 → Int32 → Int32 → Int32 → Int32 → Option (Int32 × PSt)) (N : Nat) (S : PSt) (x2 : Int32) (x3 : Int32) (x4 : Int32) (x5 : Int32) (x6 : Int32) (x7 : Int32) (x8 : Int32) (x9 : Int32) : Option (Int32 × PSt) := gd (nz (x9 + (1 : Int32))) <| bnd ((x8 * (x6 - x9)) / (x9 + (1 : Int32))) fun v2 => bnd (x9 + (1 : Int32)) fun v3 => k80 S x2 x3 x4 x5 x6 x7 v2 v3
set_option maxHeartbeats 4000000 in
set_option maxRecDepth 100000 in
theorem w_X6_odds_L125 {N : Nat} {S' : PSt} {r : Int32} (hX : Mx p s m args c meth cX6_odds RX6 11 (some .int) D cy ad tb) {k80 : PSt → Int32 → Int32 → Int32 → Int32 → Int32 → Int32 → Int32 → Int32 → Option (Int32 × PSt)} (hk80 : ∀ (S : PSt) (x2 : Int32) (x3 : Int32) (x4 : Int32) (x5 : Int32) (x6 : Int32) (x7 : Int32) (x8 : Int32) (x9 : Int32) (H : Heap) (locs : List Loc) (ls : Array Slot), k80 S x2 x3 x4 x5 x6 x7 x8 x9 = some (r, S') → va_P D vwCl (pW cy ad S) H → va_S (pA ad s.heap.size) s.heap H locs → lv_has ls 11 [(2, .int x2), (3, .int x3), (4, .int x4), (5, .int x5), (6, .int x6), (7, .int x7), (8, .int x8), (9, .int x9)] → W p l e (rmd 5) s m args below meth c H locs 0 0 (Qz D cy ad below args s S' (some (.int r))) (F0 m 80 ls [])) : ∀ (S : PSt) (x2 : Int32) (x3 : Int32) (x4 : Int32) (x5 : Int32) (x6 : Int32) (x7 : Int32) (x8 : Int32) (x9 : Int32) (H : Heap) (locs : List Loc) (ls : Array Slot), P_X6_odds_L125 k80 N S x2 x3 x4 x5 x6 x7 x8 x9 = some (r, S') → va_P D vwCl (pW cy ad S) H → va_S (pA ad s.heap.size) s.heap H locs → lv_has ls 11 [(2, .int x2), (3, .int x3), (4, .int x4), (5, .int x5), (6, .int x6), (7, .int x7), (8, .int x8), (9, .int x9)] → W p l e (rmd 5) s m args below meth c H locs 0 0 (Qz D cy ad below args s S' (some (.int r))) (F0 m 125 ls []) := by
  have hX0 := hX
  obtain ⟨hC, hml, hr, hlk⟩ := hX0
  have hx := hC.1
  have hb := hC.2.1
  intro S x2 x3 x4 x5 x6 x7 x8 x9 H locs ls hf  hP hS hl
  unfold P_X6_odds_L125 at hf
  refine lv_iload hx hb dX6_odds_125 (lv_at hl 6 rfl) ?_
  refine lv_iload hx hb dX6_odds_127 (lv_at hl 4 rfl) ?_
  refine lv_iload hx hb dX6_odds_129 (lv_at hl 7 rfl) ?_
  refine lv_isub hx hb dX6_odds_131 ?_
  refine lv_imul hx hb dX6_odds_132 ?_
  refine lv_iload hx hb dX6_odds_133 (lv_at hl 7 rfl) ?_
  refine lv_iconst (v := 1) hx hb dX6_odds_135 (by decide) ?_
  refine lv_iadd hx hb dX6_odds_136 ?_
  obtain ⟨h1, hf⟩ := gd_some hf
  refine lv_idiv hx hb dX6_odds_137 (nz_ne h1) ?_
  obtain ⟨v2, ev2, hf⟩ := bnd_some hf
  refine pg_top ev2 ?_
  refine lv_istore (lv' := [(8, .int v2), (2, .int x2), (3, .int x3), (4, .int x4), (5, .int x5), (6, .int x6), (7, .int x7), (9, .int x9)]) hx hb dX6_odds_138 hl (by decide) rfl (fun ls hl => ?_)
  obtain ⟨v3, ev3, hf⟩ := bnd_some hf
  refine lv_iinc (v := v3) (lv' := [(9, .int v3), (8, .int v2), (2, .int x2), (3, .int x3), (4, .int x4), (5, .int x5), (6, .int x6), (7, .int x7)]) hx hb dX6_odds_140 hl (k := 7) rfl (by rw [ev3]; rfl) (by decide) rfl (fun ls hl => ?_)
  refine lv_goto (tgt := 80) hx hb dX6_odds_143 (by decide) ?_
  exact hk80 _ _ _ _ _ _ _ _ _ _ _ _ hf  hP hS (lv_sub hl [2, 3, 4, 5, 6, 7, 1, 0] rfl)
def P_X6_odds_L80 (N : Nat) : Nat → PSt → Int32 → Int32 → Int32 → Int32 → Int32 → Int32 → Int32 → Int32 → Option (Int32 × PSt)
  | 0 => fun _ _ _ _ _ _ _ _ _ => none
  | n + 1 => fun S x2 x3 x4 x5 x6 x7 x8 x9 => if x6 < x9 then (cal2 (P_X6_power N S (10 : Int32) x6) fun r7 S5 => cal2 (P_X6_commonDivisor N S5 x7 r7) fun r10 S8 => if x4 = (0 : Int32) then (gd (nz r10) <| some ((x7 / r10), S8)) else (gd (nz r10) <| some ((r7 / r10), S8))) else (if x3 < (x5 + ((5 : Int32) * x9)) then (P_X6_odds_L125 (P_X6_odds_L80 N n) N S x2 x3 x4 x5 x6 x7 x8 x9) else (cal2 (P_X6_power N S x2 x9) fun r17 S15 => cal2 (P_X6_power N S15 ((10 : Int32) - x2) (x6 - x9)) fun r20 S18 => bnd (x7 + ((x8 * r17) * r20)) fun v21 => P_X6_odds_L125 (P_X6_odds_L80 N n) N S18 x2 x3 x4 x5 x6 v21 x8 x9))
set_option maxHeartbeats 4000000 in
set_option maxRecDepth 100000 in
theorem w_X6_odds_L80 {N : Nat} {S' : PSt} {r : Int32} (hX : Mx p s m args c meth cX6_odds RX6 11 (some .int) D cy ad tb) : ∀ (n : Nat), ∀ (S : PSt) (x2 : Int32) (x3 : Int32) (x4 : Int32) (x5 : Int32) (x6 : Int32) (x7 : Int32) (x8 : Int32) (x9 : Int32) (H : Heap) (locs : List Loc) (ls : Array Slot), P_X6_odds_L80 N n S x2 x3 x4 x5 x6 x7 x8 x9 = some (r, S') → va_P D vwCl (pW cy ad S) H → va_S (pA ad s.heap.size) s.heap H locs → lv_has ls 11 [(2, .int x2), (3, .int x3), (4, .int x4), (5, .int x5), (6, .int x6), (7, .int x7), (8, .int x8), (9, .int x9)] → W p l e (rmd 5) s m args below meth c H locs 0 0 (Qz D cy ad below args s S' (some (.int r))) (F0 m 80 ls []) := by
  have hX0 := hX
  obtain ⟨hC, hml, hr, hlk⟩ := hX0
  have hx := hC.1
  have hb := hC.2.1
  intro n
  induction n with
  | zero => intro S x2 x3 x4 x5 x6 x7 x8 x9 H locs ls hf; exact absurd hf (by intro h; cases h)
  | succ n ih =>
    intro S x2 x3 x4 x5 x6 x7 x8 x9 H locs ls hf  hP hS hl
    rw [P_X6_odds_L80] at hf
    refine lv_iload hx hb dX6_odds_80 (lv_at hl 7 rfl) ?_
    refine lv_iload hx hb dX6_odds_82 (lv_at hl 4 rfl) ?_
    refine lv_icmp_gt (tgt := 146) hx hb dX6_odds_84 (by decide) (fun c4 => ?_) (fun c4 => ?_)
    · replace hf := ite_t c4 hf
      refine lv_bipush (v := 10) hx hb dX6_odds_146 (by decide) ?_
      refine lv_iload hx hb dX6_odds_148 (lv_at hl 4 rfl) ?_
      obtain ⟨r7, S5, q6, hf⟩ := cal2_some hf
      refine pg_callS (As := [.int (10 : Int32), .int x6]) (rest := []) (st1 := [.int r7]) hC hml hP hS (c_X6_power l hC.2.2.2.2.2.1 q6) ⟨by decide, by decide, rfl, rfl⟩ ⟨rfl, rfl⟩ (by decide) rfl rfl ⟨mk_X6_222, mi_X6_power⟩ hd_X6_power rfl hl.1 (Nat.le_of_ble_eq_true rfl) dX6_odds_150 (fun H locs hP hS => ?_)
      refine lv_istore (lv' := [(9, .int r7), (2, .int x2), (3, .int x3), (4, .int x4), (5, .int x5), (6, .int x6), (7, .int x7), (8, .int x8)]) hx hb dX6_odds_153 hl (by decide) rfl (fun ls hl => ?_)
      refine lv_iload hx hb dX6_odds_155 (lv_at hl 6 rfl) ?_
      refine lv_iload hx hb dX6_odds_157 (lv_at hl 0 rfl) ?_
      obtain ⟨r10, S8, q9, hf⟩ := cal2_some hf
      refine pg_callS (As := [.int x7, .int r7]) (rest := []) (st1 := [.int r10]) hC hml hP hS (c_X6_commonDivisor l hC.2.2.2.2.2.1 q9) ⟨by decide, by decide, rfl, rfl⟩ ⟨rfl, rfl⟩ (by decide) rfl rfl ⟨mk_X6_225, mi_X6_commonDivisor⟩ hd_X6_commonDivisor rfl hl.1 (Nat.le_of_ble_eq_true rfl) dX6_odds_159 (fun H locs hP hS => ?_)
      refine lv_istore (lv' := [(10, .int r10), (9, .int r7), (2, .int x2), (3, .int x3), (4, .int x4), (5, .int x5), (6, .int x6), (7, .int x7), (8, .int x8)]) hx hb dX6_odds_162 hl (by decide) rfl (fun ls hl => ?_)
      refine lv_iload hx hb dX6_odds_164 (lv_at hl 4 rfl) ?_
      refine lv_if_ne (tgt := 174) hx hb dX6_odds_166 (by decide) (fun c11 => ?_) (fun c11 => ?_)
      · replace hf := ite_f c11 hf
        refine lv_iload hx hb dX6_odds_174 (lv_at hl 1 rfl) ?_
        refine lv_iload hx hb dX6_odds_176 (lv_at hl 0 rfl) ?_
        obtain ⟨h12, hf⟩ := gd_some hf
        refine lv_idiv hx hb dX6_odds_178 (nz_ne h12) ?_
        exact pg_iret hC hr hlk hP hS hf dX6_odds_179
      · replace hf := ite_t c11 hf
        refine lv_iload hx hb dX6_odds_169 (lv_at hl 7 rfl) ?_
        refine lv_goto (tgt := 176) hx hb dX6_odds_171 (by decide) ?_
        refine lv_iload hx hb dX6_odds_176 (lv_at hl 0 rfl) ?_
        obtain ⟨h13, hf⟩ := gd_some hf
        refine lv_idiv hx hb dX6_odds_178 (nz_ne h13) ?_
        exact pg_iret hC hr hlk hP hS hf dX6_odds_179
    · replace hf := ite_f c4 hf
      refine lv_iload hx hb dX6_odds_87 (lv_at hl 3 rfl) ?_
      refine lv_iconst (v := 5) hx hb dX6_odds_89 (by decide) ?_
      refine lv_iload hx hb dX6_odds_90 (lv_at hl 7 rfl) ?_
      refine lv_imul hx hb dX6_odds_92 ?_
      refine lv_iadd hx hb dX6_odds_93 ?_
      refine lv_iload_n hx hb dX6_odds_94 rfl (lv_at hl 1 rfl) ?_
      refine lv_icmp_gt (tgt := 125) hx hb dX6_odds_95 (by decide) (fun c14 => ?_) (fun c14 => ?_)
      · replace hf := ite_t c14 hf
        exact w_X6_odds_L125 hX ih _ _ _ _ _ _ _ _ _ _ _ _ hf  hP hS (lv_sub hl [0, 1, 2, 3, 4, 5, 6, 7] rfl)
      · replace hf := ite_f c14 hf
        refine lv_iload hx hb dX6_odds_98 (lv_at hl 5 rfl) ?_
        refine lv_iload hx hb dX6_odds_100 (lv_at hl 6 rfl) ?_
        refine lv_iload_n hx hb dX6_odds_102 rfl (lv_at hl 0 rfl) ?_
        refine lv_iload hx hb dX6_odds_103 (lv_at hl 7 rfl) ?_
        obtain ⟨r17, S15, q16, hf⟩ := cal2_some hf
        refine pg_callS (As := [.int x2, .int x9]) (rest := [.int x8, .int x7]) (st1 := [.int r17, .int x8, .int x7]) hC hml hP hS (c_X6_power l hC.2.2.2.2.2.1 q16) ⟨by decide, by decide, rfl, rfl⟩ ⟨rfl, rfl⟩ (by decide) rfl rfl ⟨mk_X6_222, mi_X6_power⟩ hd_X6_power rfl hl.1 (Nat.le_of_ble_eq_true rfl) dX6_odds_105 (fun H locs hP hS => ?_)
        refine lv_imul hx hb dX6_odds_108 ?_
        refine lv_bipush (v := 10) hx hb dX6_odds_109 (by decide) ?_
        refine lv_iload_n hx hb dX6_odds_111 rfl (lv_at hl 0 rfl) ?_
        refine lv_isub hx hb dX6_odds_112 ?_
        refine lv_iload hx hb dX6_odds_113 (lv_at hl 4 rfl) ?_
        refine lv_iload hx hb dX6_odds_115 (lv_at hl 7 rfl) ?_
        refine lv_isub hx hb dX6_odds_117 ?_
        obtain ⟨r20, S18, q19, hf⟩ := cal2_some hf
        refine pg_callS (As := [.int ((10 : Int32) - x2), .int (x6 - x9)]) (rest := [.int (x8 * r17), .int x7]) (st1 := [.int r20, .int (x8 * r17), .int x7]) hC hml hP hS (c_X6_power l hC.2.2.2.2.2.1 q19) ⟨by decide, by decide, rfl, rfl⟩ ⟨rfl, rfl⟩ (by decide) rfl rfl ⟨mk_X6_222, mi_X6_power⟩ hd_X6_power rfl hl.1 (Nat.le_of_ble_eq_true rfl) dX6_odds_118 (fun H locs hP hS => ?_)
        refine lv_imul hx hb dX6_odds_121 ?_
        refine lv_iadd hx hb dX6_odds_122 ?_
        obtain ⟨v21, ev21, hf⟩ := bnd_some hf
        refine pg_top ev21 ?_
        refine lv_istore (lv' := [(7, .int v21), (2, .int x2), (3, .int x3), (4, .int x4), (5, .int x5), (6, .int x6), (8, .int x8), (9, .int x9)]) hx hb dX6_odds_123 hl (by decide) rfl (fun ls hl => ?_)
        exact w_X6_odds_L125 hX ih _ _ _ _ _ _ _ _ _ _ _ _ hf  hP hS (lv_sub hl [1, 2, 3, 4, 5, 0, 6, 7] rfl)
def P_X6_odds (N : Nat) (S : PSt) (x1 : Int32) (x2 : Int32) (x3 : Int32) (x4 : Int32) : Option (Int32 × PSt) := bnd (gR S 601 0) fun t22 => gd (isk t22 4) <| cal2 (P_X4_hasPair N S t22 x1) fun r26 S24 => if r26 = (0 : Int32) then (some ((-1 : Int32), S24)) else (if x2 < (0 : Int32) then (some ((-1 : Int32), S24)) else (if (10 : Int32) < x2 then (some ((-1 : Int32), S24)) else (if x3 < (0 : Int32) then (some ((-1 : Int32), S24)) else (if (9999 : Int32) < x3 then (some ((-1 : Int32), S24)) else (if x4 < (0 : Int32) then (some ((-1 : Int32), S24)) else (if x4 ≤ (1 : Int32) then (cal2 (P_X6_minutesThrough N S24 x1) fun r36 S34 => bnd (gR S34 601 0) fun t37 => gd (isk t37 4) <| cal2 (P_X4_slimyFrom N S34 t37 (gI S34 0 25)) fun r41 S39 => P_X6_odds_L80 N N S39 x2 x3 x4 r36 r41 (0 : Int32) (1 : Int32) (0 : Int32)) else (some ((-1 : Int32), S24))))))))
set_option maxHeartbeats 4000000 in
set_option maxRecDepth 100000 in
theorem c_X6_odds (l : Launch) {D : va_G} {cy : Nat → ClassId} {ad tb : Nat → Nat} (hJ : pJ ad) {N : Nat} {S S' : PSt} {x1 : Int32} {x2 : Int32} {x3 : Int32} {x4 : Int32} {r : Int32} (hf : P_X6_odds N S x1 x2 x3 x4 = some (r, S')) : Ct l 5 yX6_odds cX6_odds 11 (some .int) D cy ad tb S S' [.ref (ad 0), .int x1, .int x2, .int x3, .int x4] (some (.int r)) := by
  refine Ct_of hJ (by decide) (Nat.le_of_ble_eq_true rfl) (fun p e s m below meth c ls hX hP hS hl => ?_)
  have hl : lv_has ls 11 [(0, .ref (ad 0)), (1, .int x1), (2, .int x2), (3, .int x3), (4, .int x4)] := hl
  have hX0 := hX
  obtain ⟨hC, hml, hr, hlk⟩ := hX0
  have hx := hC.1
  have hb := hC.2.1
  unfold P_X6_odds at hf
  refine lv_aload_n hx hb dX6_odds_0 rfl (lv_at hl 0 rfl) ?_
  obtain ⟨t22, et22, hf⟩ := bnd_some hf
  obtain ⟨h23, hf⟩ := gd_some hf
  have h_t22 := isk_eq h23
  refine gf_X6_19 hC hP k_0 (v := .ref (ad t22)) (by rw [et22]) dX6_odds_1 ?_
  refine lv_iload_n hx hb dX6_odds_4 rfl (lv_at hl 1 rfl) ?_
  obtain ⟨r26, S24, q25, hf⟩ := cal2_some hf
  refine pg_callV (As := [.int x1]) (rest := []) (st1 := [.int r26]) (ci := 4) hC hml hP hS (c_X4_hasPair l hC.2.2.2.2.2.1 q25 h_t22) ⟨by decide, by decide, rfl, rfl⟩ ⟨rfl, rfl⟩ (by decide) rfl (by decide) h_t22 rfl rfl ⟨mk_X6_125, mi_X4_hasPair⟩ hd_X4_hasPair rfl hl.1 (Nat.le_of_ble_eq_true rfl) dX6_odds_5 (fun H locs hP hS => ?_)
  refine lv_if_eq (tgt := 43) hx hb dX6_odds_8 (by decide) (fun c27 => ?_) (fun c27 => ?_)
  · replace hf := ite_t c27 hf
    refine lv_iconst (v := -1) hx hb dX6_odds_43 (by decide) ?_
    exact pg_iret hC hr hlk hP hS hf dX6_odds_44
  · replace hf := ite_f c27 hf
    refine lv_iload_n hx hb dX6_odds_11 rfl (lv_at hl 2 rfl) ?_
    refine lv_if_lt (tgt := 43) hx hb dX6_odds_12 (by decide) (fun c28 => ?_) (fun c28 => ?_)
    · replace hf := ite_t c28 hf
      refine lv_iconst (v := -1) hx hb dX6_odds_43 (by decide) ?_
      exact pg_iret hC hr hlk hP hS hf dX6_odds_44
    · replace hf := ite_f c28 hf
      refine lv_iload_n hx hb dX6_odds_15 rfl (lv_at hl 2 rfl) ?_
      refine lv_bipush (v := 10) hx hb dX6_odds_16 (by decide) ?_
      refine lv_icmp_gt (tgt := 43) hx hb dX6_odds_18 (by decide) (fun c29 => ?_) (fun c29 => ?_)
      · replace hf := ite_t c29 hf
        refine lv_iconst (v := -1) hx hb dX6_odds_43 (by decide) ?_
        exact pg_iret hC hr hlk hP hS hf dX6_odds_44
      · replace hf := ite_f c29 hf
        refine lv_iload_n hx hb dX6_odds_21 rfl (lv_at hl 3 rfl) ?_
        refine lv_if_lt (tgt := 43) hx hb dX6_odds_22 (by decide) (fun c30 => ?_) (fun c30 => ?_)
        · replace hf := ite_t c30 hf
          refine lv_iconst (v := -1) hx hb dX6_odds_43 (by decide) ?_
          exact pg_iret hC hr hlk hP hS hf dX6_odds_44
        · replace hf := ite_f c30 hf
          refine lv_iload_n hx hb dX6_odds_25 rfl (lv_at hl 3 rfl) ?_
          refine lv_sipush (v := 9999) hx hb dX6_odds_26 (by decide) ?_
          refine lv_icmp_gt (tgt := 43) hx hb dX6_odds_29 (by decide) (fun c31 => ?_) (fun c31 => ?_)
          · replace hf := ite_t c31 hf
            refine lv_iconst (v := -1) hx hb dX6_odds_43 (by decide) ?_
            exact pg_iret hC hr hlk hP hS hf dX6_odds_44
          · replace hf := ite_f c31 hf
            refine lv_iload hx hb dX6_odds_32 (lv_at hl 4 rfl) ?_
            refine lv_if_lt (tgt := 43) hx hb dX6_odds_34 (by decide) (fun c32 => ?_) (fun c32 => ?_)
            · replace hf := ite_t c32 hf
              refine lv_iconst (v := -1) hx hb dX6_odds_43 (by decide) ?_
              exact pg_iret hC hr hlk hP hS hf dX6_odds_44
            · replace hf := ite_f c32 hf
              refine lv_iload hx hb dX6_odds_37 (lv_at hl 4 rfl) ?_
              refine lv_iconst (v := 1) hx hb dX6_odds_39 (by decide) ?_
              refine lv_icmp_le (tgt := 45) hx hb dX6_odds_40 (by decide) (fun c33 => ?_) (fun c33 => ?_)
              · replace hf := ite_t c33 hf
                refine lv_aload_n hx hb dX6_odds_45 rfl (lv_at hl 0 rfl) ?_
                refine lv_iload_n hx hb dX6_odds_46 rfl (lv_at hl 1 rfl) ?_
                obtain ⟨r36, S34, q35, hf⟩ := cal2_some hf
                refine pg_callV (As := [.int x1]) (rest := []) (st1 := [.int r36]) (ci := 6) hC hml hP hS (c_X6_minutesThrough l hC.2.2.2.2.2.1 q35) ⟨by decide, by decide, rfl, rfl⟩ ⟨rfl, rfl⟩ (by decide) rfl (by decide) k_0 rfl rfl ⟨mk_X6_209, mi_X6_minutesThrough⟩ hd_X6_minutesThrough rfl hl.1 (Nat.le_of_ble_eq_true rfl) dX6_odds_47 (fun H locs hP hS => ?_)
                refine lv_istore (lv' := [(5, .int r36), (0, .ref (ad 0)), (1, .int x1), (2, .int x2), (3, .int x3), (4, .int x4)]) hx hb dX6_odds_50 hl (by decide) rfl (fun ls hl => ?_)
                refine lv_aload_n hx hb dX6_odds_52 rfl (lv_at hl 1 rfl) ?_
                obtain ⟨t37, et37, hf⟩ := bnd_some hf
                obtain ⟨h38, hf⟩ := gd_some hf
                have h_t37 := isk_eq h38
                refine gf_X6_19 hC hP k_0 (v := .ref (ad t37)) (by rw [et37]) dX6_odds_53 ?_
                refine lv_aload_n hx hb dX6_odds_56 rfl (lv_at hl 1 rfl) ?_
                refine gf_X6_29 hC hP k_0 (v := .ref (ad 24)) rfl dX6_odds_57 ?_
                refine gf_X6_99 hC hP k_24 (v := .ref (ad 25)) rfl dX6_odds_60 ?_
                refine gf_X6_132 hC hP k_25 (v := .int (gI S34 0 25)) rfl dX6_odds_63 ?_
                obtain ⟨r41, S39, q40, hf⟩ := cal2_some hf
                refine pg_callV (As := [.int (gI S34 0 25)]) (rest := []) (st1 := [.int r41]) (ci := 4) hC hml hP hS (c_X4_slimyFrom l hC.2.2.2.2.2.1 q40 h_t37) ⟨by decide, by decide, rfl, rfl⟩ ⟨rfl, rfl⟩ (by decide) rfl (by decide) h_t37 rfl rfl ⟨mk_X6_219, mi_X4_slimyFrom⟩ hd_X4_slimyFrom rfl hl.1 (Nat.le_of_ble_eq_true rfl) dX6_odds_66 (fun H locs hP hS => ?_)
                refine lv_istore (lv' := [(6, .int r41), (5, .int r36), (0, .ref (ad 0)), (1, .int x1), (2, .int x2), (3, .int x3), (4, .int x4)]) hx hb dX6_odds_69 hl (by decide) rfl (fun ls hl => ?_)
                refine lv_iconst (v := 0) hx hb dX6_odds_71 (by decide) ?_
                refine lv_istore (lv' := [(7, .int (0 : Int32)), (6, .int r41), (5, .int r36), (0, .ref (ad 0)), (1, .int x1), (2, .int x2), (3, .int x3), (4, .int x4)]) hx hb dX6_odds_72 hl (by decide) rfl (fun ls hl => ?_)
                refine lv_iconst (v := 1) hx hb dX6_odds_74 (by decide) ?_
                refine lv_istore (lv' := [(8, .int (1 : Int32)), (7, .int (0 : Int32)), (6, .int r41), (5, .int r36), (0, .ref (ad 0)), (1, .int x1), (2, .int x2), (3, .int x3), (4, .int x4)]) hx hb dX6_odds_75 hl (by decide) rfl (fun ls hl => ?_)
                refine lv_iconst (v := 0) hx hb dX6_odds_77 (by decide) ?_
                refine lv_istore (lv' := [(9, .int (0 : Int32)), (8, .int (1 : Int32)), (7, .int (0 : Int32)), (6, .int r41), (5, .int r36), (0, .ref (ad 0)), (1, .int x1), (2, .int x2), (3, .int x3), (4, .int x4)]) hx hb dX6_odds_78 hl (by decide) rfl (fun ls hl => ?_)
                exact w_X6_odds_L80 hX _ _ _ _ _ _ _ _ _ _ _ _ _ hf  hP hS (lv_sub hl [7, 8, 9, 4, 3, 2, 1, 0] rfl)
              · replace hf := ite_f c33 hf
                refine lv_iconst (v := -1) hx hb dX6_odds_43 (by decide) ?_
                exact pg_iret hC hr hlk hP hS hf dX6_odds_44
def P_X6_saw (N : Nat) (S : PSt) (x1 : Int32) (x2 : Int32) : Option (Int32 × PSt) := bnd (gR S 601 0) fun t1 => gd (isk t1 4) <| cal2 (P_X4_hasStretch N S t1 x1) fun r5 S3 => if r5 = (0 : Int32) then (some ((-1 : Int32), S3)) else (bnd (gR S3 601 0) fun t7 => gd (isk t7 4) <| gd (bin x1 (ln (t7 + 6))) <| if (gA S3 (t7 + 6) x1.toNatClampNeg) = (0 : Int32) then (some ((-1 : Int32), S3)) else (if x2 < (0 : Int32) then (some ((-1 : Int32), S3)) else (if x2 ≤ (9999 : Int32) then (if (gI S3 300 98) < (6 : Int32) then (cal1 (P_X3_add N S3 x1 x2) fun S14 => some ((gI S14 300 98), S14)) else (some ((-3 : Int32), S3))) else (some ((-1 : Int32), S3)))))
set_option maxHeartbeats 4000000 in
set_option maxRecDepth 100000 in
theorem c_X6_saw (l : Launch) {D : va_G} {cy : Nat → ClassId} {ad tb : Nat → Nat} (hJ : pJ ad) {N : Nat} {S S' : PSt} {x1 : Int32} {x2 : Int32} {r : Int32} (hf : P_X6_saw N S x1 x2 = some (r, S')) : Ct l 2 yX6_saw cX6_saw 3 (some .int) D cy ad tb S S' [.ref (ad 0), .int x1, .int x2] (some (.int r)) := by
  refine Ct_of hJ (by decide) (Nat.le_of_ble_eq_true rfl) (fun p e s m below meth c ls hX hP hS hl => ?_)
  have hl : lv_has ls 3 [(0, .ref (ad 0)), (1, .int x1), (2, .int x2)] := hl
  have hX0 := hX
  obtain ⟨hC, hml, hr, hlk⟩ := hX0
  have hx := hC.1
  have hb := hC.2.1
  unfold P_X6_saw at hf
  refine lv_aload_n hx hb dX6_saw_0 rfl (lv_at hl 0 rfl) ?_
  obtain ⟨t1, et1, hf⟩ := bnd_some hf
  obtain ⟨h2, hf⟩ := gd_some hf
  have h_t1 := isk_eq h2
  refine gf_X6_19 hC hP k_0 (v := .ref (ad t1)) (by rw [et1]) dX6_saw_1 ?_
  refine lv_iload_n hx hb dX6_saw_4 rfl (lv_at hl 1 rfl) ?_
  obtain ⟨r5, S3, q4, hf⟩ := cal2_some hf
  refine pg_callV (As := [.int x1]) (rest := []) (st1 := [.int r5]) (ci := 4) hC hml hP hS (c_X4_hasStretch l hC.2.2.2.2.2.1 q4 h_t1) ⟨by decide, by decide, rfl, rfl⟩ ⟨rfl, rfl⟩ (by decide) rfl (by decide) h_t1 rfl rfl ⟨mk_X6_109, mi_X4_hasStretch⟩ hd_X4_hasStretch rfl hl.1 (Nat.le_of_ble_eq_true rfl) dX6_saw_5 (fun H locs hP hS => ?_)
  refine lv_if_eq (tgt := 34) hx hb dX6_saw_8 (by decide) (fun c6 => ?_) (fun c6 => ?_)
  · replace hf := ite_t c6 hf
    refine lv_iconst (v := -1) hx hb dX6_saw_34 (by decide) ?_
    exact pg_iret hC hr hlk hP hS hf dX6_saw_35
  · replace hf := ite_f c6 hf
    refine lv_aload_n hx hb dX6_saw_11 rfl (lv_at hl 0 rfl) ?_
    obtain ⟨t7, et7, hf⟩ := bnd_some hf
    obtain ⟨h8, hf⟩ := gd_some hf
    have h_t7 := isk_eq h8
    refine gf_X6_19 hC hP k_0 (v := .ref (ad t7)) (by rw [et7]) dX6_saw_12 ?_
    refine gf_X6_122 hC hP h_t7 (v := .ref (ad (t7 + 6))) rfl dX6_saw_15 ?_
    refine lv_iload_n hx hb dX6_saw_18 rfl (lv_at hl 1 rfl) ?_
    obtain ⟨h9, hf⟩ := gd_some hf
    refine pg_iald hC hP (ko_4_6 h_t7) (bin_in h9) dX6_saw_19 ?_
    refine lv_if_eq (tgt := 34) hx hb dX6_saw_20 (by decide) (fun c10 => ?_) (fun c10 => ?_)
    · replace hf := ite_t c10 hf
      refine lv_iconst (v := -1) hx hb dX6_saw_34 (by decide) ?_
      exact pg_iret hC hr hlk hP hS hf dX6_saw_35
    · replace hf := ite_f c10 hf
      refine lv_iload_n hx hb dX6_saw_23 rfl (lv_at hl 2 rfl) ?_
      refine lv_if_lt (tgt := 34) hx hb dX6_saw_24 (by decide) (fun c11 => ?_) (fun c11 => ?_)
      · replace hf := ite_t c11 hf
        refine lv_iconst (v := -1) hx hb dX6_saw_34 (by decide) ?_
        exact pg_iret hC hr hlk hP hS hf dX6_saw_35
      · replace hf := ite_f c11 hf
        refine lv_iload_n hx hb dX6_saw_27 rfl (lv_at hl 2 rfl) ?_
        refine lv_sipush (v := 9999) hx hb dX6_saw_28 (by decide) ?_
        refine lv_icmp_le (tgt := 36) hx hb dX6_saw_31 (by decide) (fun c12 => ?_) (fun c12 => ?_)
        · replace hf := ite_t c12 hf
          refine lv_aload_n hx hb dX6_saw_36 rfl (lv_at hl 0 rfl) ?_
          refine gf_X6_44 hC hP k_0 (v := .ref (ad 98)) rfl dX6_saw_37 ?_
          refine gf_X6_82 hC hP k_98 (v := .int (gI S3 300 98)) rfl dX6_saw_40 ?_
          refine lv_bipush (v := 6) hx hb dX6_saw_43 (by decide) ?_
          refine lv_icmp_lt (tgt := 51) hx hb dX6_saw_45 (by decide) (fun c13 => ?_) (fun c13 => ?_)
          · replace hf := ite_t c13 hf
            refine lv_aload_n hx hb dX6_saw_51 rfl (lv_at hl 0 rfl) ?_
            refine gf_X6_44 hC hP k_0 (v := .ref (ad 98)) rfl dX6_saw_52 ?_
            refine lv_iload_n hx hb dX6_saw_55 rfl (lv_at hl 1 rfl) ?_
            refine lv_iload_n hx hb dX6_saw_56 rfl (lv_at hl 2 rfl) ?_
            obtain ⟨S14, q15, hf⟩ := cal1_some hf
            refine pg_callV (As := [.int x1, .int x2]) (rest := []) (st1 := []) (ci := 3) hC hml hP hS (c_X3_add l hC.2.2.2.2.2.1 q15) ⟨by decide, by decide, rfl, rfl⟩ ⟨rfl, rfl⟩ (by decide) rfl (by decide) k_98 rfl rfl ⟨mk_X6_233, mi_X3_add⟩ hd_X3_add rfl hl.1 (Nat.le_of_ble_eq_true rfl) dX6_saw_57 (fun H locs hP hS => ?_)
            refine lv_aload_n hx hb dX6_saw_60 rfl (lv_at hl 0 rfl) ?_
            refine gf_X6_44 hC hP k_0 (v := .ref (ad 98)) rfl dX6_saw_61 ?_
            refine gf_X6_82 hC hP k_98 (v := .int (gI S14 300 98)) rfl dX6_saw_64 ?_
            exact pg_iret hC hr hlk hP hS hf dX6_saw_67
          · replace hf := ite_f c13 hf
            refine lv_bipush (v := -3) hx hb dX6_saw_48 (by decide) ?_
            exact pg_iret hC hr hlk hP hS hf dX6_saw_50
        · replace hf := ite_f c12 hf
          refine lv_iconst (v := -1) hx hb dX6_saw_34 (by decide) ?_
          exact pg_iret hC hr hlk hP hS hf dX6_saw_35
def P_X6_forget (N : Nat) (S : PSt) : Option (Int32 × PSt) := bnd (gI S 300 98) fun v1 => bnd (sI S 300 98 (0 : Int32)) fun S2 => bnd (sI S2 301 98 (0 : Int32)) fun S3 => some (v1, S3)
set_option maxHeartbeats 4000000 in
set_option maxRecDepth 100000 in
theorem c_X6_forget (l : Launch) {D : va_G} {cy : Nat → ClassId} {ad tb : Nat → Nat} (hJ : pJ ad) {N : Nat} {S S' : PSt} {r : Int32} (hf : P_X6_forget N S = some (r, S')) : Ct l 1 yX6_forget cX6_forget 2 (some .int) D cy ad tb S S' [.ref (ad 0)] (some (.int r)) := by
  refine Ct_of hJ (by decide) (Nat.le_of_ble_eq_true rfl) (fun p e s m below meth c ls hX hP hS hl => ?_)
  have hl : lv_has ls 2 [(0, .ref (ad 0))] := hl
  have hX0 := hX
  obtain ⟨hC, hml, hr, hlk⟩ := hX0
  have hx := hC.1
  have hb := hC.2.1
  unfold P_X6_forget at hf
  refine lv_aload_n hx hb dX6_forget_0 rfl (lv_at hl 0 rfl) ?_
  refine gf_X6_44 hC hP k_0 (v := .ref (ad 98)) rfl dX6_forget_1 ?_
  refine gf_X6_82 hC hP k_98 (v := .int (gI S 300 98)) rfl dX6_forget_4 ?_
  obtain ⟨v1, ev1, hf⟩ := bnd_some hf
  refine pg_top ev1 ?_
  refine lv_istore_n (lv' := [(1, .int v1), (0, .ref (ad 0))]) hx hb dX6_forget_7 rfl hl (by decide) rfl (fun ls hl => ?_)
  refine lv_aload_n hx hb dX6_forget_8 rfl (lv_at hl 1 rfl) ?_
  refine gf_X6_44 hC hP k_0 (v := .ref (ad 98)) rfl dX6_forget_9 ?_
  refine lv_iconst (v := 0) hx hb dX6_forget_12 (by decide) ?_
  obtain ⟨S2, eS2, hf⟩ := bnd_some hf
  refine pf_X6_82 hC hP hS k_98 eS2 dX6_forget_13 (fun H locs hP hS => ?_)
  refine lv_aload_n hx hb dX6_forget_16 rfl (lv_at hl 1 rfl) ?_
  refine gf_X6_44 hC hP k_0 (v := .ref (ad 98)) rfl dX6_forget_17 ?_
  refine lv_iconst (v := 0) hx hb dX6_forget_20 (by decide) ?_
  obtain ⟨S3, eS3, hf⟩ := bnd_some hf
  refine pf_X6_83 hC hP hS k_98 (by decide) eS3 dX6_forget_21 (fun H locs hP hS => ?_)
  refine lv_iload_n hx hb dX6_forget_24 rfl (lv_at hl 0 rfl) ?_
  exact pg_iret hC hr hlk hP hS hf dX6_forget_25
def P_X6_fits_L18 (N : Nat) (S : PSt) (x1 : Int32) : Option (Int32 × PSt) := bnd (gR S 601 0) fun t1 => gd (isk t1 4) <| cal1 (P_X3_look N S t1) fun S3 => if x1 = (-1 : Int32) then (some ((gI S3 302 98), S3)) else (if (gI S3 302 98) = (0 : Int32) then (some ((-9 : Int32), S3)) else (gd (bin x1 (ln 99)) <| some ((gA S3 99 x1.toNatClampNeg), S3)))
set_option maxHeartbeats 4000000 in
set_option maxRecDepth 100000 in
theorem w_X6_fits_L18 {N : Nat} {S' : PSt} {r : Int32} (hX : Mx p s m args c meth cX6_fits RX6 2 (some .int) D cy ad tb) : ∀ (S : PSt) (x1 : Int32) (H : Heap) (locs : List Loc) (ls : Array Slot), P_X6_fits_L18 N S x1 = some (r, S') → va_P D vwCl (pW cy ad S) H → va_S (pA ad s.heap.size) s.heap H locs → lv_has ls 2 [(0, .ref (ad 0)), (1, .int x1)] → W p l e (rmd 14) s m args below meth c H locs 0 0 (Qz D cy ad below args s S' (some (.int r))) (F0 m 18 ls []) := by
  have hX0 := hX
  obtain ⟨hC, hml, hr, hlk⟩ := hX0
  have hx := hC.1
  have hb := hC.2.1
  intro S x1 H locs ls hf  hP hS hl
  unfold P_X6_fits_L18 at hf
  refine lv_aload_n hx hb dX6_fits_18 rfl (lv_at hl 0 rfl) ?_
  refine gf_X6_44 hC hP k_0 (v := .ref (ad 98)) rfl dX6_fits_19 ?_
  refine lv_aload_n hx hb dX6_fits_22 rfl (lv_at hl 0 rfl) ?_
  obtain ⟨t1, et1, hf⟩ := bnd_some hf
  obtain ⟨h2, hf⟩ := gd_some hf
  have h_t1 := isk_eq h2
  refine gf_X6_19 hC hP k_0 (v := .ref (ad t1)) (by rw [et1]) dX6_fits_23 ?_
  obtain ⟨S3, q4, hf⟩ := cal1_some hf
  refine pg_callV (As := [.ref (ad t1)]) (rest := []) (st1 := []) (ci := 3) hC hml hP hS (c_X3_look l hC.2.2.2.2.2.1 q4 h_t1) ⟨by decide, by decide, rfl, rfl⟩ ⟨rfl, rfl⟩ (by decide) rfl (by decide) k_98 rfl rfl ⟨mk_X6_236, mi_X3_look⟩ hd_X3_look rfl hl.1 (Nat.le_of_ble_eq_true rfl) dX6_fits_26 (fun H locs hP hS => ?_)
  refine lv_iload_n hx hb dX6_fits_29 rfl (lv_at hl 1 rfl) ?_
  refine lv_iconst (v := -1) hx hb dX6_fits_30 (by decide) ?_
  refine lv_icmp_ne (tgt := 42) hx hb dX6_fits_31 (by decide) (fun c5 => ?_) (fun c5 => ?_)
  · replace hf := ite_f c5 hf
    refine lv_aload_n hx hb dX6_fits_42 rfl (lv_at hl 0 rfl) ?_
    refine gf_X6_44 hC hP k_0 (v := .ref (ad 98)) rfl dX6_fits_43 ?_
    refine gf_X6_240 hC hP k_98 (v := .int (gI S3 302 98)) rfl dX6_fits_46 ?_
    refine lv_if_ne (tgt := 57) hx hb dX6_fits_49 (by decide) (fun c6 => ?_) (fun c6 => ?_)
    · replace hf := ite_f c6 hf
      refine lv_aload_n hx hb dX6_fits_57 rfl (lv_at hl 0 rfl) ?_
      refine gf_X6_44 hC hP k_0 (v := .ref (ad 98)) rfl dX6_fits_58 ?_
      refine gf_X6_243 hC hP k_98 (v := .ref (ad 99)) rfl dX6_fits_61 ?_
      refine lv_iload_n hx hb dX6_fits_64 rfl (lv_at hl 1 rfl) ?_
      obtain ⟨h7, hf⟩ := gd_some hf
      refine pg_iald hC hP k_99 (bin_in h7) dX6_fits_65 ?_
      exact pg_iret hC hr hlk hP hS hf dX6_fits_66
    · replace hf := ite_t c6 hf
      refine lv_bipush (v := -9) hx hb dX6_fits_52 (by decide) ?_
      refine lv_goto (tgt := 66) hx hb dX6_fits_54 (by decide) ?_
      exact pg_iret hC hr hlk hP hS hf dX6_fits_66
  · replace hf := ite_t c5 hf
    refine lv_aload_n hx hb dX6_fits_34 rfl (lv_at hl 0 rfl) ?_
    refine gf_X6_44 hC hP k_0 (v := .ref (ad 98)) rfl dX6_fits_35 ?_
    refine gf_X6_240 hC hP k_98 (v := .int (gI S3 302 98)) rfl dX6_fits_38 ?_
    exact pg_iret hC hr hlk hP hS hf dX6_fits_41
def P_X6_fits (N : Nat) (S : PSt) (x1 : Int32) : Option (Int32 × PSt) := if x1 = (-1 : Int32) then (P_X6_fits_L18 N S x1) else (bnd (gR S 601 0) fun t9 => gd (isk t9 4) <| cal2 (P_X4_hasStretch N S t9 x1) fun r13 S11 => if r13 = (0 : Int32) then (some ((-1 : Int32), S11)) else (P_X6_fits_L18 N S11 x1))
set_option maxHeartbeats 4000000 in
set_option maxRecDepth 100000 in
theorem c_X6_fits (l : Launch) {D : va_G} {cy : Nat → ClassId} {ad tb : Nat → Nat} (hJ : pJ ad) {N : Nat} {S S' : PSt} {x1 : Int32} {r : Int32} (hf : P_X6_fits N S x1 = some (r, S')) : Ct l 14 yX6_fits cX6_fits 2 (some .int) D cy ad tb S S' [.ref (ad 0), .int x1] (some (.int r)) := by
  refine Ct_of hJ (by decide) (Nat.le_of_ble_eq_true rfl) (fun p e s m below meth c ls hX hP hS hl => ?_)
  have hl : lv_has ls 2 [(0, .ref (ad 0)), (1, .int x1)] := hl
  have hX0 := hX
  obtain ⟨hC, hml, hr, hlk⟩ := hX0
  have hx := hC.1
  have hb := hC.2.1
  unfold P_X6_fits at hf
  refine lv_iload_n hx hb dX6_fits_0 rfl (lv_at hl 1 rfl) ?_
  refine lv_iconst (v := -1) hx hb dX6_fits_1 (by decide) ?_
  refine lv_icmp_eq (tgt := 18) hx hb dX6_fits_2 (by decide) (fun c8 => ?_) (fun c8 => ?_)
  · replace hf := ite_t c8 hf
    exact w_X6_fits_L18 hX _ _ _ _ _ hf  hP hS (lv_sub hl [0, 1] rfl)
  · replace hf := ite_f c8 hf
    refine lv_aload_n hx hb dX6_fits_5 rfl (lv_at hl 0 rfl) ?_
    obtain ⟨t9, et9, hf⟩ := bnd_some hf
    obtain ⟨h10, hf⟩ := gd_some hf
    have h_t9 := isk_eq h10
    refine gf_X6_19 hC hP k_0 (v := .ref (ad t9)) (by rw [et9]) dX6_fits_6 ?_
    refine lv_iload_n hx hb dX6_fits_9 rfl (lv_at hl 1 rfl) ?_
    obtain ⟨r13, S11, q12, hf⟩ := cal2_some hf
    refine pg_callV (As := [.int x1]) (rest := []) (st1 := [.int r13]) (ci := 4) hC hml hP hS (c_X4_hasStretch l hC.2.2.2.2.2.1 q12 h_t9) ⟨by decide, by decide, rfl, rfl⟩ ⟨rfl, rfl⟩ (by decide) rfl (by decide) h_t9 rfl rfl ⟨mk_X6_109, mi_X4_hasStretch⟩ hd_X4_hasStretch rfl hl.1 (Nat.le_of_ble_eq_true rfl) dX6_fits_10 (fun H locs hP hS => ?_)
    refine lv_if_ne (tgt := 18) hx hb dX6_fits_13 (by decide) (fun c14 => ?_) (fun c14 => ?_)
    · replace hf := ite_f c14 hf
      exact w_X6_fits_L18 hX _ _ _ _ _ hf  hP hS (lv_sub hl [0, 1] rfl)
    · replace hf := ite_t c14 hf
      refine lv_iconst (v := -1) hx hb dX6_fits_16 (by decide) ?_
      exact pg_iret hC hr hlk hP hS hf dX6_fits_17
def P_X6_surely (N : Nat) (S : PSt) (x1 : Int32) : Option (Int32 × PSt) := bnd (gR S 601 0) fun t1 => gd (isk t1 4) <| cal2 (P_X4_hasStretch N S t1 x1) fun r5 S3 => if r5 = (0 : Int32) then (some ((-1 : Int32), S3)) else (bnd (gR S3 601 0) fun t7 => gd (isk t7 4) <| cal1 (P_X3_look N S3 t7) fun S9 => if (gI S9 302 98) = (0 : Int32) then (some ((0 : Int32), S9)) else (gd (bin x1 (ln 100)) <| some ((gA S9 100 x1.toNatClampNeg), S9)))
set_option maxHeartbeats 4000000 in
set_option maxRecDepth 100000 in
theorem c_X6_surely (l : Launch) {D : va_G} {cy : Nat → ClassId} {ad tb : Nat → Nat} (hJ : pJ ad) {N : Nat} {S S' : PSt} {x1 : Int32} {r : Int32} (hf : P_X6_surely N S x1 = some (r, S')) : Ct l 14 yX6_surely cX6_surely 2 (some .int) D cy ad tb S S' [.ref (ad 0), .int x1] (some (.int r)) := by
  refine Ct_of hJ (by decide) (Nat.le_of_ble_eq_true rfl) (fun p e s m below meth c ls hX hP hS hl => ?_)
  have hl : lv_has ls 2 [(0, .ref (ad 0)), (1, .int x1)] := hl
  have hX0 := hX
  obtain ⟨hC, hml, hr, hlk⟩ := hX0
  have hx := hC.1
  have hb := hC.2.1
  unfold P_X6_surely at hf
  refine lv_aload_n hx hb dX6_surely_0 rfl (lv_at hl 0 rfl) ?_
  obtain ⟨t1, et1, hf⟩ := bnd_some hf
  obtain ⟨h2, hf⟩ := gd_some hf
  have h_t1 := isk_eq h2
  refine gf_X6_19 hC hP k_0 (v := .ref (ad t1)) (by rw [et1]) dX6_surely_1 ?_
  refine lv_iload_n hx hb dX6_surely_4 rfl (lv_at hl 1 rfl) ?_
  obtain ⟨r5, S3, q4, hf⟩ := cal2_some hf
  refine pg_callV (As := [.int x1]) (rest := []) (st1 := [.int r5]) (ci := 4) hC hml hP hS (c_X4_hasStretch l hC.2.2.2.2.2.1 q4 h_t1) ⟨by decide, by decide, rfl, rfl⟩ ⟨rfl, rfl⟩ (by decide) rfl (by decide) h_t1 rfl rfl ⟨mk_X6_109, mi_X4_hasStretch⟩ hd_X4_hasStretch rfl hl.1 (Nat.le_of_ble_eq_true rfl) dX6_surely_5 (fun H locs hP hS => ?_)
  refine lv_if_ne (tgt := 13) hx hb dX6_surely_8 (by decide) (fun c6 => ?_) (fun c6 => ?_)
  · replace hf := ite_f c6 hf
    refine lv_aload_n hx hb dX6_surely_13 rfl (lv_at hl 0 rfl) ?_
    refine gf_X6_44 hC hP k_0 (v := .ref (ad 98)) rfl dX6_surely_14 ?_
    refine lv_aload_n hx hb dX6_surely_17 rfl (lv_at hl 0 rfl) ?_
    obtain ⟨t7, et7, hf⟩ := bnd_some hf
    obtain ⟨h8, hf⟩ := gd_some hf
    have h_t7 := isk_eq h8
    refine gf_X6_19 hC hP k_0 (v := .ref (ad t7)) (by rw [et7]) dX6_surely_18 ?_
    obtain ⟨S9, q10, hf⟩ := cal1_some hf
    refine pg_callV (As := [.ref (ad t7)]) (rest := []) (st1 := []) (ci := 3) hC hml hP hS (c_X3_look l hC.2.2.2.2.2.1 q10 h_t7) ⟨by decide, by decide, rfl, rfl⟩ ⟨rfl, rfl⟩ (by decide) rfl (by decide) k_98 rfl rfl ⟨mk_X6_236, mi_X3_look⟩ hd_X3_look rfl hl.1 (Nat.le_of_ble_eq_true rfl) dX6_surely_21 (fun H locs hP hS => ?_)
    refine lv_aload_n hx hb dX6_surely_24 rfl (lv_at hl 0 rfl) ?_
    refine gf_X6_44 hC hP k_0 (v := .ref (ad 98)) rfl dX6_surely_25 ?_
    refine gf_X6_240 hC hP k_98 (v := .int (gI S9 302 98)) rfl dX6_surely_28 ?_
    refine lv_if_ne (tgt := 38) hx hb dX6_surely_31 (by decide) (fun c11 => ?_) (fun c11 => ?_)
    · replace hf := ite_f c11 hf
      refine lv_aload_n hx hb dX6_surely_38 rfl (lv_at hl 0 rfl) ?_
      refine gf_X6_44 hC hP k_0 (v := .ref (ad 98)) rfl dX6_surely_39 ?_
      refine gf_X6_246 hC hP k_98 (v := .ref (ad 100)) rfl dX6_surely_42 ?_
      refine lv_iload_n hx hb dX6_surely_45 rfl (lv_at hl 1 rfl) ?_
      obtain ⟨h12, hf⟩ := gd_some hf
      refine pg_iald hC hP k_100 (bin_in h12) dX6_surely_46 ?_
      exact pg_iret hC hr hlk hP hS hf dX6_surely_47
    · replace hf := ite_t c11 hf
      refine lv_iconst (v := 0) hx hb dX6_surely_34 (by decide) ?_
      refine lv_goto (tgt := 47) hx hb dX6_surely_35 (by decide) ?_
      exact pg_iret hC hr hlk hP hS hf dX6_surely_47
  · replace hf := ite_t c6 hf
    refine lv_iconst (v := -1) hx hb dX6_surely_11 (by decide) ?_
    exact pg_iret hC hr hlk hP hS hf dX6_surely_12
def P_X6_asStep (N : Nat) (S : PSt) (x1 : Int32) : Option (Int32 × PSt) := bnd (sJ S 610 0 ((gJ S 610 0) + (1 : Int64))) fun S1 => bnd (gR S1 601 0) fun t2 => gd (isk t2 4) <| gd (bin x1 (ln (t2 + 3))) <| some ((gA S1 (t2 + 3) x1.toNatClampNeg), S1)
set_option maxHeartbeats 4000000 in
set_option maxRecDepth 100000 in
theorem c_X6_asStep (l : Launch) {D : va_G} {cy : Nat → ClassId} {ad tb : Nat → Nat} (hJ : pJ ad) {N : Nat} {S S' : PSt} {x1 : Int32} {r : Int32} (hf : P_X6_asStep N S x1 = some (r, S')) : Ct l 1 yX6_asStep cX6_asStep 2 (some .int) D cy ad tb S S' [.ref (ad 0), .int x1] (some (.int r)) := by
  refine Ct_of hJ (by decide) (Nat.le_of_ble_eq_true rfl) (fun p e s m below meth c ls hX hP hS hl => ?_)
  have hl : lv_has ls 2 [(0, .ref (ad 0)), (1, .int x1)] := hl
  have hX0 := hX
  obtain ⟨hC, hml, hr, hlk⟩ := hX0
  have hx := hC.1
  have hb := hC.2.1
  unfold P_X6_asStep at hf
  refine lv_aload_n hx hb dX6_asStep_0 rfl (lv_at hl 0 rfl) ?_
  refine lv_dup hx hb dX6_asStep_1 rfl ?_
  refine gf_X6_268 hC hP k_0 (v := .long (gJ S 610 0)) rfl dX6_asStep_2 ?_
  refine lv_lconst (v := 1) hx hb dX6_asStep_5 (by decide) ?_
  refine lv_ladd hx hb dX6_asStep_6 ?_
  obtain ⟨S1, eS1, hf⟩ := bnd_some hf
  refine pf_X6_268 hC hP hS k_0 eS1 dX6_asStep_7 (fun H locs hP hS => ?_)
  refine lv_aload_n hx hb dX6_asStep_10 rfl (lv_at hl 0 rfl) ?_
  obtain ⟨t2, et2, hf⟩ := bnd_some hf
  obtain ⟨h3, hf⟩ := gd_some hf
  have h_t2 := isk_eq h3
  refine gf_X6_19 hC hP k_0 (v := .ref (ad t2)) (by rw [et2]) dX6_asStep_11 ?_
  refine gf_X6_113 hC hP h_t2 (v := .ref (ad (t2 + 3))) rfl dX6_asStep_14 ?_
  refine lv_iload_n hx hb dX6_asStep_17 rfl (lv_at hl 1 rfl) ?_
  obtain ⟨h4, hf⟩ := gd_some hf
  refine pg_iald hC hP (ko_4_3 h_t2) (bin_in h4) dX6_asStep_18 ?_
  exact pg_iret hC hr hlk hP hS hf dX6_asStep_19
def P_X6_asBlind (N : Nat) (S : PSt) (x1 : Int32) : Option (Int32 × PSt) := bnd (sJ S 610 0 ((gJ S 610 0) + (100000 : Int64))) fun S1 => cal2 (P_X6_asStep N S1 x1) fun r4 S2 => some ((r4 + (gI S2 1 25)), S2)
set_option maxHeartbeats 4000000 in
set_option maxRecDepth 100000 in
theorem c_X6_asBlind (l : Launch) {D : va_G} {cy : Nat → ClassId} {ad tb : Nat → Nat} (hJ : pJ ad) {N : Nat} {S S' : PSt} {x1 : Int32} {r : Int32} (hf : P_X6_asBlind N S x1 = some (r, S')) : Ct l 2 yX6_asBlind cX6_asBlind 2 (some .int) D cy ad tb S S' [.ref (ad 0), .int x1] (some (.int r)) := by
  refine Ct_of hJ (by decide) (Nat.le_of_ble_eq_true rfl) (fun p e s m below meth c ls hX hP hS hl => ?_)
  have hl : lv_has ls 2 [(0, .ref (ad 0)), (1, .int x1)] := hl
  have hX0 := hX
  obtain ⟨hC, hml, hr, hlk⟩ := hX0
  have hx := hC.1
  have hb := hC.2.1
  unfold P_X6_asBlind at hf
  refine lv_aload_n hx hb dX6_asBlind_0 rfl (lv_at hl 0 rfl) ?_
  refine lv_dup hx hb dX6_asBlind_1 rfl ?_
  refine gf_X6_268 hC hP k_0 (v := .long (gJ S 610 0)) rfl dX6_asBlind_2 ?_
  refine lv_ldc2 (v := 100000) hx hb hC.2.2.2.1 (hC.2.2.1 _ kc_X6_287) dX6_asBlind_5 ?_
  refine lv_ladd hx hb dX6_asBlind_8 ?_
  obtain ⟨S1, eS1, hf⟩ := bnd_some hf
  refine pf_X6_268 hC hP hS k_0 eS1 dX6_asBlind_9 (fun H locs hP hS => ?_)
  refine lv_aload_n hx hb dX6_asBlind_12 rfl (lv_at hl 0 rfl) ?_
  refine lv_iload_n hx hb dX6_asBlind_13 rfl (lv_at hl 1 rfl) ?_
  obtain ⟨r4, S2, q3, hf⟩ := cal2_some hf
  refine pg_callV (As := [.int x1]) (rest := []) (st1 := [.int r4]) (ci := 6) hC hml hP hS (c_X6_asStep l hC.2.2.2.2.2.1 q3) ⟨by decide, by decide, rfl, rfl⟩ ⟨rfl, rfl⟩ (by decide) rfl (by decide) k_0 rfl rfl ⟨mk_X6_250, mi_X6_asStep⟩ hd_X6_asStep rfl hl.1 (Nat.le_of_ble_eq_true rfl) dX6_asBlind_14 (fun H locs hP hS => ?_)
  refine lv_aload_n hx hb dX6_asBlind_17 rfl (lv_at hl 0 rfl) ?_
  refine gf_X6_29 hC hP k_0 (v := .ref (ad 24)) rfl dX6_asBlind_18 ?_
  refine gf_X6_99 hC hP k_24 (v := .ref (ad 25)) rfl dX6_asBlind_21 ?_
  refine gf_X6_142 hC hP k_25 (v := .int (gI S2 1 25)) rfl dX6_asBlind_24 ?_
  refine lv_iadd hx hb dX6_asBlind_27 ?_
  exact pg_iret hC hr hlk hP hS hf dX6_asBlind_28
def P_X6_asSlimy (N : Nat) (S : PSt) (x1 : Int32) : Option (Int32 × PSt) := bnd (sJ S 610 0 ((gJ S 610 0) + (100 : Int64))) fun S1 => cal2 (P_X6_asStep N S1 x1) fun r4 S2 => cal2 (P_X0_tiredTogether N S2 25) fun r7 S5 => some ((r4 - r7), S5)
set_option maxHeartbeats 4000000 in
set_option maxRecDepth 100000 in
theorem c_X6_asSlimy (l : Launch) {D : va_G} {cy : Nat → ClassId} {ad tb : Nat → Nat} (hJ : pJ ad) {N : Nat} {S S' : PSt} {x1 : Int32} {r : Int32} (hf : P_X6_asSlimy N S x1 = some (r, S')) : Ct l 2 yX6_asSlimy cX6_asSlimy 2 (some .int) D cy ad tb S S' [.ref (ad 0), .int x1] (some (.int r)) := by
  refine Ct_of hJ (by decide) (Nat.le_of_ble_eq_true rfl) (fun p e s m below meth c ls hX hP hS hl => ?_)
  have hl : lv_has ls 2 [(0, .ref (ad 0)), (1, .int x1)] := hl
  have hX0 := hX
  obtain ⟨hC, hml, hr, hlk⟩ := hX0
  have hx := hC.1
  have hb := hC.2.1
  unfold P_X6_asSlimy at hf
  refine lv_aload_n hx hb dX6_asSlimy_0 rfl (lv_at hl 0 rfl) ?_
  refine lv_dup hx hb dX6_asSlimy_1 rfl ?_
  refine gf_X6_268 hC hP k_0 (v := .long (gJ S 610 0)) rfl dX6_asSlimy_2 ?_
  refine lv_ldc2 (v := 100) hx hb hC.2.2.2.1 (hC.2.2.1 _ kc_X6_274) dX6_asSlimy_5 ?_
  refine lv_ladd hx hb dX6_asSlimy_8 ?_
  obtain ⟨S1, eS1, hf⟩ := bnd_some hf
  refine pf_X6_268 hC hP hS k_0 eS1 dX6_asSlimy_9 (fun H locs hP hS => ?_)
  refine lv_aload_n hx hb dX6_asSlimy_12 rfl (lv_at hl 0 rfl) ?_
  refine lv_iload_n hx hb dX6_asSlimy_13 rfl (lv_at hl 1 rfl) ?_
  obtain ⟨r4, S2, q3, hf⟩ := cal2_some hf
  refine pg_callV (As := [.int x1]) (rest := []) (st1 := [.int r4]) (ci := 6) hC hml hP hS (c_X6_asStep l hC.2.2.2.2.2.1 q3) ⟨by decide, by decide, rfl, rfl⟩ ⟨rfl, rfl⟩ (by decide) rfl (by decide) k_0 rfl rfl ⟨mk_X6_250, mi_X6_asStep⟩ hd_X6_asStep rfl hl.1 (Nat.le_of_ble_eq_true rfl) dX6_asSlimy_14 (fun H locs hP hS => ?_)
  refine lv_aload_n hx hb dX6_asSlimy_17 rfl (lv_at hl 0 rfl) ?_
  refine gf_X6_29 hC hP k_0 (v := .ref (ad 24)) rfl dX6_asSlimy_18 ?_
  refine gf_X6_99 hC hP k_24 (v := .ref (ad 25)) rfl dX6_asSlimy_21 ?_
  obtain ⟨r7, S5, q6, hf⟩ := cal2_some hf
  refine pg_callV (As := []) (rest := [.int r4]) (st1 := [.int r7, .int r4]) (ci := 0) hC hml hP hS (c_X0_tiredTogether l hC.2.2.2.2.2.1 q6 k_25) ⟨by decide, by decide, rfl, rfl⟩ ⟨rfl, rfl⟩ (by decide) rfl (by decide) k_25 rfl rfl ⟨mk_X6_276, mi_X0_tiredTogether⟩ hd_X0_tiredTogether rfl hl.1 (Nat.le_of_ble_eq_true rfl) dX6_asSlimy_24 (fun H locs hP hS => ?_)
  refine lv_isub hx hb dX6_asSlimy_27 ?_
  exact pg_iret hC hr hlk hP hS hf dX6_asSlimy_28
def P_X6_asCramped (N : Nat) (S : PSt) (x1 : Int32) : Option (Int32 × PSt) := bnd (sJ S 610 0 ((gJ S 610 0) + (10000 : Int64))) fun S1 => cal2 (P_X6_asSlimy N S1 x1) fun r4 S2 => bnd (gR S2 601 0) fun t5 => gd (isk t5 4) <| cal2 (P_X4_shafts N S2 t5) fun r9 S7 => some ((r4 + r9), S7)
set_option maxHeartbeats 4000000 in
set_option maxRecDepth 100000 in
theorem c_X6_asCramped (l : Launch) {D : va_G} {cy : Nat → ClassId} {ad tb : Nat → Nat} (hJ : pJ ad) {N : Nat} {S S' : PSt} {x1 : Int32} {r : Int32} (hf : P_X6_asCramped N S x1 = some (r, S')) : Ct l 3 yX6_asCramped cX6_asCramped 2 (some .int) D cy ad tb S S' [.ref (ad 0), .int x1] (some (.int r)) := by
  refine Ct_of hJ (by decide) (Nat.le_of_ble_eq_true rfl) (fun p e s m below meth c ls hX hP hS hl => ?_)
  have hl : lv_has ls 2 [(0, .ref (ad 0)), (1, .int x1)] := hl
  have hX0 := hX
  obtain ⟨hC, hml, hr, hlk⟩ := hX0
  have hx := hC.1
  have hb := hC.2.1
  unfold P_X6_asCramped at hf
  refine lv_aload_n hx hb dX6_asCramped_0 rfl (lv_at hl 0 rfl) ?_
  refine lv_dup hx hb dX6_asCramped_1 rfl ?_
  refine gf_X6_268 hC hP k_0 (v := .long (gJ S 610 0)) rfl dX6_asCramped_2 ?_
  refine lv_ldc2 (v := 10000) hx hb hC.2.2.2.1 (hC.2.2.1 _ kc_X6_282) dX6_asCramped_5 ?_
  refine lv_ladd hx hb dX6_asCramped_8 ?_
  obtain ⟨S1, eS1, hf⟩ := bnd_some hf
  refine pf_X6_268 hC hP hS k_0 eS1 dX6_asCramped_9 (fun H locs hP hS => ?_)
  refine lv_aload_n hx hb dX6_asCramped_12 rfl (lv_at hl 0 rfl) ?_
  refine lv_iload_n hx hb dX6_asCramped_13 rfl (lv_at hl 1 rfl) ?_
  obtain ⟨r4, S2, q3, hf⟩ := cal2_some hf
  refine pg_callV (As := [.int x1]) (rest := []) (st1 := [.int r4]) (ci := 6) hC hml hP hS (c_X6_asSlimy l hC.2.2.2.2.2.1 q3) ⟨by decide, by decide, rfl, rfl⟩ ⟨rfl, rfl⟩ (by decide) rfl (by decide) k_0 rfl rfl ⟨mk_X6_256, mi_X6_asSlimy⟩ hd_X6_asSlimy rfl hl.1 (Nat.le_of_ble_eq_true rfl) dX6_asCramped_14 (fun H locs hP hS => ?_)
  refine lv_aload_n hx hb dX6_asCramped_17 rfl (lv_at hl 0 rfl) ?_
  obtain ⟨t5, et5, hf⟩ := bnd_some hf
  obtain ⟨h6, hf⟩ := gd_some hf
  have h_t5 := isk_eq h6
  refine gf_X6_19 hC hP k_0 (v := .ref (ad t5)) (by rw [et5]) dX6_asCramped_18 ?_
  obtain ⟨r9, S7, q8, hf⟩ := cal2_some hf
  refine pg_callV (As := []) (rest := [.int r4]) (st1 := [.int r9, .int r4]) (ci := 4) hC hml hP hS (c_X4_shafts l hC.2.2.2.2.2.1 q8 h_t5) ⟨by decide, by decide, rfl, rfl⟩ ⟨rfl, rfl⟩ (by decide) rfl (by decide) h_t5 rfl rfl ⟨mk_X6_284, mi_X4_shafts⟩ hd_X4_shafts rfl hl.1 (Nat.le_of_ble_eq_true rfl) dX6_asCramped_21 (fun H locs hP hS => ?_)
  refine lv_iadd hx hb dX6_asCramped_24 ?_
  exact pg_iret hC hr hlk hP hS hf dX6_asCramped_25
def P_X6_asFirm (N : Nat) (S : PSt) (x1 : Int32) : Option (Int32 × PSt) := bnd (sJ S 610 0 ((gJ S 610 0) + (10 : Int64))) fun S1 => cal2 (P_X6_asStep N S1 x1) fun r4 S2 => bnd (gR S2 601 0) fun t5 => gd (isk t5 4) <| gd (bin x1 (ln (t5 + 4))) <| some ((r4 + (gA S2 (t5 + 4) x1.toNatClampNeg)), S2)
set_option maxHeartbeats 4000000 in
set_option maxRecDepth 100000 in
theorem c_X6_asFirm (l : Launch) {D : va_G} {cy : Nat → ClassId} {ad tb : Nat → Nat} (hJ : pJ ad) {N : Nat} {S S' : PSt} {x1 : Int32} {r : Int32} (hf : P_X6_asFirm N S x1 = some (r, S')) : Ct l 2 yX6_asFirm cX6_asFirm 2 (some .int) D cy ad tb S S' [.ref (ad 0), .int x1] (some (.int r)) := by
  refine Ct_of hJ (by decide) (Nat.le_of_ble_eq_true rfl) (fun p e s m below meth c ls hX hP hS hl => ?_)
  have hl : lv_has ls 2 [(0, .ref (ad 0)), (1, .int x1)] := hl
  have hX0 := hX
  obtain ⟨hC, hml, hr, hlk⟩ := hX0
  have hx := hC.1
  have hb := hC.2.1
  unfold P_X6_asFirm at hf
  refine lv_aload_n hx hb dX6_asFirm_0 rfl (lv_at hl 0 rfl) ?_
  refine lv_dup hx hb dX6_asFirm_1 rfl ?_
  refine gf_X6_268 hC hP k_0 (v := .long (gJ S 610 0)) rfl dX6_asFirm_2 ?_
  refine lv_ldc2 (v := 10) hx hb hC.2.2.2.1 (hC.2.2.1 _ kc_X6_272) dX6_asFirm_5 ?_
  refine lv_ladd hx hb dX6_asFirm_8 ?_
  obtain ⟨S1, eS1, hf⟩ := bnd_some hf
  refine pf_X6_268 hC hP hS k_0 eS1 dX6_asFirm_9 (fun H locs hP hS => ?_)
  refine lv_aload_n hx hb dX6_asFirm_12 rfl (lv_at hl 0 rfl) ?_
  refine lv_iload_n hx hb dX6_asFirm_13 rfl (lv_at hl 1 rfl) ?_
  obtain ⟨r4, S2, q3, hf⟩ := cal2_some hf
  refine pg_callV (As := [.int x1]) (rest := []) (st1 := [.int r4]) (ci := 6) hC hml hP hS (c_X6_asStep l hC.2.2.2.2.2.1 q3) ⟨by decide, by decide, rfl, rfl⟩ ⟨rfl, rfl⟩ (by decide) rfl (by decide) k_0 rfl rfl ⟨mk_X6_250, mi_X6_asStep⟩ hd_X6_asStep rfl hl.1 (Nat.le_of_ble_eq_true rfl) dX6_asFirm_14 (fun H locs hP hS => ?_)
  refine lv_aload_n hx hb dX6_asFirm_17 rfl (lv_at hl 0 rfl) ?_
  obtain ⟨t5, et5, hf⟩ := bnd_some hf
  obtain ⟨h6, hf⟩ := gd_some hf
  have h_t5 := isk_eq h6
  refine gf_X6_19 hC hP k_0 (v := .ref (ad t5)) (by rw [et5]) dX6_asFirm_18 ?_
  refine gf_X6_116 hC hP h_t5 (v := .ref (ad (t5 + 4))) rfl dX6_asFirm_21 ?_
  refine lv_iload_n hx hb dX6_asFirm_24 rfl (lv_at hl 1 rfl) ?_
  obtain ⟨h7, hf⟩ := gd_some hf
  refine pg_iald hC hP (ko_4_4 h_t5) (bin_in h7) dX6_asFirm_25 ?_
  refine lv_iadd hx hb dX6_asFirm_26 ?_
  exact pg_iret hC hr hlk hP hS hf dX6_asFirm_27
def P_X6_asStretched (N : Nat) (S : PSt) (x1 : Int32) : Option (Int32 × PSt) := bnd (sJ S 610 0 ((gJ S 610 0) + (1000 : Int64))) fun S1 => cal2 (P_X6_asFirm N S1 x1) fun r4 S2 => some ((r4 * (2 : Int32)), S2)
set_option maxHeartbeats 4000000 in
set_option maxRecDepth 100000 in
theorem c_X6_asStretched (l : Launch) {D : va_G} {cy : Nat → ClassId} {ad tb : Nat → Nat} (hJ : pJ ad) {N : Nat} {S S' : PSt} {x1 : Int32} {r : Int32} (hf : P_X6_asStretched N S x1 = some (r, S')) : Ct l 3 yX6_asStretched cX6_asStretched 2 (some .int) D cy ad tb S S' [.ref (ad 0), .int x1] (some (.int r)) := by
  refine Ct_of hJ (by decide) (Nat.le_of_ble_eq_true rfl) (fun p e s m below meth c ls hX hP hS hl => ?_)
  have hl : lv_has ls 2 [(0, .ref (ad 0)), (1, .int x1)] := hl
  have hX0 := hX
  obtain ⟨hC, hml, hr, hlk⟩ := hX0
  have hx := hC.1
  have hb := hC.2.1
  unfold P_X6_asStretched at hf
  refine lv_aload_n hx hb dX6_asStretched_0 rfl (lv_at hl 0 rfl) ?_
  refine lv_dup hx hb dX6_asStretched_1 rfl ?_
  refine gf_X6_268 hC hP k_0 (v := .long (gJ S 610 0)) rfl dX6_asStretched_2 ?_
  refine lv_ldc2 (v := 1000) hx hb hC.2.2.2.1 (hC.2.2.1 _ kc_X6_280) dX6_asStretched_5 ?_
  refine lv_ladd hx hb dX6_asStretched_8 ?_
  obtain ⟨S1, eS1, hf⟩ := bnd_some hf
  refine pf_X6_268 hC hP hS k_0 eS1 dX6_asStretched_9 (fun H locs hP hS => ?_)
  refine lv_aload_n hx hb dX6_asStretched_12 rfl (lv_at hl 0 rfl) ?_
  refine lv_iload_n hx hb dX6_asStretched_13 rfl (lv_at hl 1 rfl) ?_
  obtain ⟨r4, S2, q3, hf⟩ := cal2_some hf
  refine pg_callV (As := [.int x1]) (rest := []) (st1 := [.int r4]) (ci := 6) hC hml hP hS (c_X6_asFirm l hC.2.2.2.2.2.1 q3) ⟨by decide, by decide, rfl, rfl⟩ ⟨rfl, rfl⟩ (by decide) rfl (by decide) k_0 rfl rfl ⟨mk_X6_253, mi_X6_asFirm⟩ hd_X6_asFirm rfl hl.1 (Nat.le_of_ble_eq_true rfl) dX6_asStretched_14 (fun H locs hP hS => ?_)
  refine lv_iconst (v := 2) hx hb dX6_asStretched_17 (by decide) ?_
  refine lv_imul hx hb dX6_asStretched_18 ?_
  exact pg_iret hC hr hlk hP hS hf dX6_asStretched_19
def P_X6_mark (N : Nat) (S : PSt) (x1 : Int32) (x2 : Int32) : Option (Int32 × PSt) := bnd (gR S 601 0) fun t1 => gd (isk t1 4) <| cal2 (P_X4_hasStretch N S t1 x2) fun r5 S3 => if r5 = (0 : Int32) then (some ((-1000000 : Int32), S3)) else (if x1 = (0 : Int32) then (cal2 (P_X6_asStep N S3 x2) fun r10 S8 => some (r10, S8)) else (if x1 = (1 : Int32) then (cal2 (P_X6_asFirm N S3 x2) fun r14 S12 => some (r14, S12)) else (if x1 = (2 : Int32) then (cal2 (P_X6_asSlimy N S3 x2) fun r18 S16 => some (r18, S16)) else (if x1 = (3 : Int32) then (cal2 (P_X6_asStretched N S3 x2) fun r22 S20 => some (r22, S20)) else (if x1 = (4 : Int32) then (cal2 (P_X6_asCramped N S3 x2) fun r26 S24 => some (r26, S24)) else (if x1 = (5 : Int32) then (cal2 (P_X6_asBlind N S3 x2) fun r30 S28 => some (r30, S28)) else (some ((-1000000 : Int32), S3))))))))
set_option maxHeartbeats 4000000 in
set_option maxRecDepth 100000 in
theorem c_X6_mark (l : Launch) {D : va_G} {cy : Nat → ClassId} {ad tb : Nat → Nat} (hJ : pJ ad) {N : Nat} {S S' : PSt} {x1 : Int32} {x2 : Int32} {r : Int32} (hf : P_X6_mark N S x1 x2 = some (r, S')) : Ct l 4 yX6_mark cX6_mark 3 (some .int) D cy ad tb S S' [.ref (ad 0), .int x1, .int x2] (some (.int r)) := by
  refine Ct_of hJ (by decide) (Nat.le_of_ble_eq_true rfl) (fun p e s m below meth c ls hX hP hS hl => ?_)
  have hl : lv_has ls 3 [(0, .ref (ad 0)), (1, .int x1), (2, .int x2)] := hl
  have hX0 := hX
  obtain ⟨hC, hml, hr, hlk⟩ := hX0
  have hx := hC.1
  have hb := hC.2.1
  unfold P_X6_mark at hf
  refine lv_aload_n hx hb dX6_mark_0 rfl (lv_at hl 0 rfl) ?_
  obtain ⟨t1, et1, hf⟩ := bnd_some hf
  obtain ⟨h2, hf⟩ := gd_some hf
  have h_t1 := isk_eq h2
  refine gf_X6_19 hC hP k_0 (v := .ref (ad t1)) (by rw [et1]) dX6_mark_1 ?_
  refine lv_iload_n hx hb dX6_mark_4 rfl (lv_at hl 2 rfl) ?_
  obtain ⟨r5, S3, q4, hf⟩ := cal2_some hf
  refine pg_callV (As := [.int x2]) (rest := []) (st1 := [.int r5]) (ci := 4) hC hml hP hS (c_X4_hasStretch l hC.2.2.2.2.2.1 q4 h_t1) ⟨by decide, by decide, rfl, rfl⟩ ⟨rfl, rfl⟩ (by decide) rfl (by decide) h_t1 rfl rfl ⟨mk_X6_109, mi_X4_hasStretch⟩ hd_X4_hasStretch rfl hl.1 (Nat.le_of_ble_eq_true rfl) dX6_mark_5 (fun H locs hP hS => ?_)
  refine lv_if_ne (tgt := 14) hx hb dX6_mark_8 (by decide) (fun c6 => ?_) (fun c6 => ?_)
  · replace hf := ite_f c6 hf
    refine lv_iload_n hx hb dX6_mark_14 rfl (lv_at hl 1 rfl) ?_
    by_cases c7 : x1 = (0 : Int32)
    · replace hf := ite_t c7 hf
      refine lv_tableIn (off := 37) (tgt := 52) hx hb dX6_mark_15 (by rw [c7]; decide) (by rw [c7]; decide) (by rw [c7]; decide) (by decide) ?_
      refine lv_aload_n hx hb dX6_mark_52 rfl (lv_at hl 0 rfl) ?_
      refine lv_iload_n hx hb dX6_mark_53 rfl (lv_at hl 2 rfl) ?_
      obtain ⟨r10, S8, q9, hf⟩ := cal2_some hf
      refine pg_callV (As := [.int x2]) (rest := []) (st1 := [.int r10]) (ci := 6) hC hml hP hS (c_X6_asStep l hC.2.2.2.2.2.1 q9) ⟨by decide, by decide, rfl, rfl⟩ ⟨rfl, rfl⟩ (by decide) rfl (by decide) k_0 rfl rfl ⟨mk_X6_250, mi_X6_asStep⟩ hd_X6_asStep rfl hl.1 (Nat.le_of_ble_eq_true rfl) dX6_mark_54 (fun H locs hP hS => ?_)
      exact pg_iret hC hr hlk hP hS hf dX6_mark_57
    · replace hf := ite_f c7 hf
      by_cases c11 : x1 = (1 : Int32)
      · replace hf := ite_t c11 hf
        refine lv_tableIn (off := 43) (tgt := 58) hx hb dX6_mark_15 (by rw [c11]; decide) (by rw [c11]; decide) (by rw [c11]; decide) (by decide) ?_
        refine lv_aload_n hx hb dX6_mark_58 rfl (lv_at hl 0 rfl) ?_
        refine lv_iload_n hx hb dX6_mark_59 rfl (lv_at hl 2 rfl) ?_
        obtain ⟨r14, S12, q13, hf⟩ := cal2_some hf
        refine pg_callV (As := [.int x2]) (rest := []) (st1 := [.int r14]) (ci := 6) hC hml hP hS (c_X6_asFirm l hC.2.2.2.2.2.1 q13) ⟨by decide, by decide, rfl, rfl⟩ ⟨rfl, rfl⟩ (by decide) rfl (by decide) k_0 rfl rfl ⟨mk_X6_253, mi_X6_asFirm⟩ hd_X6_asFirm rfl hl.1 (Nat.le_of_ble_eq_true rfl) dX6_mark_60 (fun H locs hP hS => ?_)
        exact pg_iret hC hr hlk hP hS hf dX6_mark_63
      · replace hf := ite_f c11 hf
        by_cases c15 : x1 = (2 : Int32)
        · replace hf := ite_t c15 hf
          refine lv_tableIn (off := 49) (tgt := 64) hx hb dX6_mark_15 (by rw [c15]; decide) (by rw [c15]; decide) (by rw [c15]; decide) (by decide) ?_
          refine lv_aload_n hx hb dX6_mark_64 rfl (lv_at hl 0 rfl) ?_
          refine lv_iload_n hx hb dX6_mark_65 rfl (lv_at hl 2 rfl) ?_
          obtain ⟨r18, S16, q17, hf⟩ := cal2_some hf
          refine pg_callV (As := [.int x2]) (rest := []) (st1 := [.int r18]) (ci := 6) hC hml hP hS (c_X6_asSlimy l hC.2.2.2.2.2.1 q17) ⟨by decide, by decide, rfl, rfl⟩ ⟨rfl, rfl⟩ (by decide) rfl (by decide) k_0 rfl rfl ⟨mk_X6_256, mi_X6_asSlimy⟩ hd_X6_asSlimy rfl hl.1 (Nat.le_of_ble_eq_true rfl) dX6_mark_66 (fun H locs hP hS => ?_)
          exact pg_iret hC hr hlk hP hS hf dX6_mark_69
        · replace hf := ite_f c15 hf
          by_cases c19 : x1 = (3 : Int32)
          · replace hf := ite_t c19 hf
            refine lv_tableIn (off := 55) (tgt := 70) hx hb dX6_mark_15 (by rw [c19]; decide) (by rw [c19]; decide) (by rw [c19]; decide) (by decide) ?_
            refine lv_aload_n hx hb dX6_mark_70 rfl (lv_at hl 0 rfl) ?_
            refine lv_iload_n hx hb dX6_mark_71 rfl (lv_at hl 2 rfl) ?_
            obtain ⟨r22, S20, q21, hf⟩ := cal2_some hf
            refine pg_callV (As := [.int x2]) (rest := []) (st1 := [.int r22]) (ci := 6) hC hml hP hS (c_X6_asStretched l hC.2.2.2.2.2.1 q21) ⟨by decide, by decide, rfl, rfl⟩ ⟨rfl, rfl⟩ (by decide) rfl (by decide) k_0 rfl rfl ⟨mk_X6_259, mi_X6_asStretched⟩ hd_X6_asStretched rfl hl.1 (Nat.le_of_ble_eq_true rfl) dX6_mark_72 (fun H locs hP hS => ?_)
            exact pg_iret hC hr hlk hP hS hf dX6_mark_75
          · replace hf := ite_f c19 hf
            by_cases c23 : x1 = (4 : Int32)
            · replace hf := ite_t c23 hf
              refine lv_tableIn (off := 61) (tgt := 76) hx hb dX6_mark_15 (by rw [c23]; decide) (by rw [c23]; decide) (by rw [c23]; decide) (by decide) ?_
              refine lv_aload_n hx hb dX6_mark_76 rfl (lv_at hl 0 rfl) ?_
              refine lv_iload_n hx hb dX6_mark_77 rfl (lv_at hl 2 rfl) ?_
              obtain ⟨r26, S24, q25, hf⟩ := cal2_some hf
              refine pg_callV (As := [.int x2]) (rest := []) (st1 := [.int r26]) (ci := 6) hC hml hP hS (c_X6_asCramped l hC.2.2.2.2.2.1 q25) ⟨by decide, by decide, rfl, rfl⟩ ⟨rfl, rfl⟩ (by decide) rfl (by decide) k_0 rfl rfl ⟨mk_X6_262, mi_X6_asCramped⟩ hd_X6_asCramped rfl hl.1 (Nat.le_of_ble_eq_true rfl) dX6_mark_78 (fun H locs hP hS => ?_)
              exact pg_iret hC hr hlk hP hS hf dX6_mark_81
            · replace hf := ite_f c23 hf
              by_cases c27 : x1 = (5 : Int32)
              · replace hf := ite_t c27 hf
                refine lv_tableIn (off := 67) (tgt := 82) hx hb dX6_mark_15 (by rw [c27]; decide) (by rw [c27]; decide) (by rw [c27]; decide) (by decide) ?_
                refine lv_aload_n hx hb dX6_mark_82 rfl (lv_at hl 0 rfl) ?_
                refine lv_iload_n hx hb dX6_mark_83 rfl (lv_at hl 2 rfl) ?_
                obtain ⟨r30, S28, q29, hf⟩ := cal2_some hf
                refine pg_callV (As := [.int x2]) (rest := []) (st1 := [.int r30]) (ci := 6) hC hml hP hS (c_X6_asBlind l hC.2.2.2.2.2.1 q29) ⟨by decide, by decide, rfl, rfl⟩ ⟨rfl, rfl⟩ (by decide) rfl (by decide) k_0 rfl rfl ⟨mk_X6_265, mi_X6_asBlind⟩ hd_X6_asBlind rfl hl.1 (Nat.le_of_ble_eq_true rfl) dX6_mark_84 (fun H locs hP hS => ?_)
                exact pg_iret hC hr hlk hP hS hf dX6_mark_87
              · replace hf := ite_f c27 hf
                refine lv_tableOut (tgt := 88) hx hb dX6_mark_15 (sw_out 0 5 (fun k h1 h2 hk => by
                  rcases (show k = 0 ∨ k = 1 ∨ k = 2 ∨ k = 3 ∨ k = 4 ∨ k = 5 by omega) with h | h | h | h | h | h
                  · subst h; exact c7 (hk.trans (by decide))
                  · subst h; exact c11 (hk.trans (by decide))
                  · subst h; exact c15 (hk.trans (by decide))
                  · subst h; exact c19 (hk.trans (by decide))
                  · subst h; exact c23 (hk.trans (by decide))
                  · subst h; exact c27 (hk.trans (by decide)))) (by decide) ?_
                refine lv_ldc (v := -1000000) hx hb hC.2.2.2.1 (hC.2.2.1 _ kc_X6_249) dX6_mark_88 ?_
                exact pg_iret hC hr hlk hP hS hf dX6_mark_90
  · replace hf := ite_t c6 hf
    refine lv_ldc (v := -1000000) hx hb hC.2.2.2.1 (hC.2.2.1 _ kc_X6_249) dX6_mark_11 ?_
    exact pg_iret hC hr hlk hP hS hf dX6_mark_13
def P_X6_keep (N : Nat) (S : PSt) (x1 : Int32) : Option (Int32 × PSt) := if x1 < (0 : Int32) then (some ((-1 : Int32), S)) else (if x1 < (2 : Int32) then (gd (bin x1 (ln 48)) <| bnd (gQ S 48 x1.toNatClampNeg) fun t4 => gd (isk t4 5) <| cal1 (P_X5_copy N S t4 24) fun S6 => gd (bin x1 (ln 97)) <| bnd (sA S6 97 x1.toNatClampNeg (vp_nar .boolean (1 : Int32))) fun S9 => some ((gI S9 1 25), S9)) else (some ((-1 : Int32), S)))
set_option maxHeartbeats 4000000 in
set_option maxRecDepth 100000 in
theorem c_X6_keep (l : Launch) {D : va_G} {cy : Nat → ClassId} {ad tb : Nat → Nat} (hJ : pJ ad) {N : Nat} {S S' : PSt} {x1 : Int32} {r : Int32} (hf : P_X6_keep N S x1 = some (r, S')) : Ct l 3 yX6_keep cX6_keep 2 (some .int) D cy ad tb S S' [.ref (ad 0), .int x1] (some (.int r)) := by
  refine Ct_of hJ (by decide) (Nat.le_of_ble_eq_true rfl) (fun p e s m below meth c ls hX hP hS hl => ?_)
  have hl : lv_has ls 2 [(0, .ref (ad 0)), (1, .int x1)] := hl
  have hX0 := hX
  obtain ⟨hC, hml, hr, hlk⟩ := hX0
  have hx := hC.1
  have hb := hC.2.1
  unfold P_X6_keep at hf
  refine lv_iload_n hx hb dX6_keep_0 rfl (lv_at hl 1 rfl) ?_
  refine lv_if_lt (tgt := 9) hx hb dX6_keep_1 (by decide) (fun c1 => ?_) (fun c1 => ?_)
  · replace hf := ite_t c1 hf
    refine lv_iconst (v := -1) hx hb dX6_keep_9 (by decide) ?_
    exact pg_iret hC hr hlk hP hS hf dX6_keep_10
  · replace hf := ite_f c1 hf
    refine lv_iload_n hx hb dX6_keep_4 rfl (lv_at hl 1 rfl) ?_
    refine lv_iconst (v := 2) hx hb dX6_keep_5 (by decide) ?_
    refine lv_icmp_lt (tgt := 11) hx hb dX6_keep_6 (by decide) (fun c2 => ?_) (fun c2 => ?_)
    · replace hf := ite_t c2 hf
      refine lv_aload_n hx hb dX6_keep_11 rfl (lv_at hl 0 rfl) ?_
      refine gf_X6_33 hC hP k_0 (v := .ref (ad 48)) rfl dX6_keep_12 ?_
      refine lv_iload_n hx hb dX6_keep_15 rfl (lv_at hl 1 rfl) ?_
      obtain ⟨h3, hf⟩ := gd_some hf
      obtain ⟨t4, et4, hf⟩ := bnd_some hf
      obtain ⟨h5, hf⟩ := gd_some hf
      have h_t4 := isk_eq h5
      refine pg_aldV hC hP k_48 (bin_in h3) dX6_keep_16 ?_
      refine pg_topr et4 ?_
      refine lv_aload_n hx hb dX6_keep_17 rfl (lv_at hl 0 rfl) ?_
      refine gf_X6_29 hC hP k_0 (v := .ref (ad 24)) rfl dX6_keep_18 ?_
      obtain ⟨S6, q7, hf⟩ := cal1_some hf
      refine pg_callV (As := [.ref (ad 24)]) (rest := []) (st1 := []) (ci := 5) hC hml hP hS (c_X5_copy l hC.2.2.2.2.2.1 q7 h_t4 k_24) ⟨by decide, by decide, rfl, rfl⟩ ⟨rfl, rfl⟩ (by decide) rfl (by decide) h_t4 rfl rfl ⟨mk_X6_289, mi_X5_copy⟩ hd_X5_copy rfl hl.1 (Nat.le_of_ble_eq_true rfl) dX6_keep_21 (fun H locs hP hS => ?_)
      refine lv_aload_n hx hb dX6_keep_24 rfl (lv_at hl 0 rfl) ?_
      refine gf_X6_37 hC hP k_0 (v := .ref (ad 97)) rfl dX6_keep_25 ?_
      refine lv_iload_n hx hb dX6_keep_28 rfl (lv_at hl 1 rfl) ?_
      refine lv_iconst (v := 1) hx hb dX6_keep_29 (by decide) ?_
      obtain ⟨h8, hf⟩ := gd_some hf
      obtain ⟨S9, eS9, hf⟩ := bnd_some hf
      refine pg_zast hC hP hS k_97 (bin_in h8) dX6_keep_30 (fun H locs hP hS => ?_)
      rw [← eS9] at hP
      refine lv_aload_n hx hb dX6_keep_31 rfl (lv_at hl 0 rfl) ?_
      refine gf_X6_29 hC hP k_0 (v := .ref (ad 24)) rfl dX6_keep_32 ?_
      refine gf_X6_99 hC hP k_24 (v := .ref (ad 25)) rfl dX6_keep_35 ?_
      refine gf_X6_142 hC hP k_25 (v := .int (gI S9 1 25)) rfl dX6_keep_38 ?_
      exact pg_iret hC hr hlk hP hS hf dX6_keep_41
    · replace hf := ite_f c2 hf
      refine lv_iconst (v := -1) hx hb dX6_keep_9 (by decide) ?_
      exact pg_iret hC hr hlk hP hS hf dX6_keep_10
def P_X6_back (N : Nat) (S : PSt) (x1 : Int32) : Option (Int32 × PSt) := if x1 < (0 : Int32) then (some ((-1 : Int32), S)) else (if x1 < (2 : Int32) then (gd (bin x1 (ln 97)) <| if (gA S 97 x1.toNatClampNeg) = (0 : Int32) then (some ((-2 : Int32), S)) else (gd (bin x1 (ln 48)) <| bnd (gQ S 48 x1.toNatClampNeg) fun t6 => gd (isk t6 5) <| cal1 (P_X5_copy N S 24 t6) fun S8 => cal1 (P_X6_moved N S8) fun S10 => some ((gI S10 1 25), S10))) else (some ((-1 : Int32), S)))
set_option maxHeartbeats 4000000 in
set_option maxRecDepth 100000 in
theorem c_X6_back (l : Launch) {D : va_G} {cy : Nat → ClassId} {ad tb : Nat → Nat} (hJ : pJ ad) {N : Nat} {S S' : PSt} {x1 : Int32} {r : Int32} (hf : P_X6_back N S x1 = some (r, S')) : Ct l 3 yX6_back cX6_back 2 (some .int) D cy ad tb S S' [.ref (ad 0), .int x1] (some (.int r)) := by
  refine Ct_of hJ (by decide) (Nat.le_of_ble_eq_true rfl) (fun p e s m below meth c ls hX hP hS hl => ?_)
  have hl : lv_has ls 2 [(0, .ref (ad 0)), (1, .int x1)] := hl
  have hX0 := hX
  obtain ⟨hC, hml, hr, hlk⟩ := hX0
  have hx := hC.1
  have hb := hC.2.1
  unfold P_X6_back at hf
  refine lv_iload_n hx hb dX6_back_0 rfl (lv_at hl 1 rfl) ?_
  refine lv_if_lt (tgt := 9) hx hb dX6_back_1 (by decide) (fun c1 => ?_) (fun c1 => ?_)
  · replace hf := ite_t c1 hf
    refine lv_iconst (v := -1) hx hb dX6_back_9 (by decide) ?_
    exact pg_iret hC hr hlk hP hS hf dX6_back_10
  · replace hf := ite_f c1 hf
    refine lv_iload_n hx hb dX6_back_4 rfl (lv_at hl 1 rfl) ?_
    refine lv_iconst (v := 2) hx hb dX6_back_5 (by decide) ?_
    refine lv_icmp_lt (tgt := 11) hx hb dX6_back_6 (by decide) (fun c2 => ?_) (fun c2 => ?_)
    · replace hf := ite_t c2 hf
      refine lv_aload_n hx hb dX6_back_11 rfl (lv_at hl 0 rfl) ?_
      refine gf_X6_37 hC hP k_0 (v := .ref (ad 97)) rfl dX6_back_12 ?_
      refine lv_iload_n hx hb dX6_back_15 rfl (lv_at hl 1 rfl) ?_
      obtain ⟨h3, hf⟩ := gd_some hf
      refine pg_zald hC hP k_97 (bin_in h3) dX6_back_16 ?_
      refine lv_if_ne (tgt := 23) hx hb dX6_back_17 (by decide) (fun c4 => ?_) (fun c4 => ?_)
      · replace hf := ite_f c4 hf
        refine lv_aload_n hx hb dX6_back_23 rfl (lv_at hl 0 rfl) ?_
        refine gf_X6_29 hC hP k_0 (v := .ref (ad 24)) rfl dX6_back_24 ?_
        refine lv_aload_n hx hb dX6_back_27 rfl (lv_at hl 0 rfl) ?_
        refine gf_X6_33 hC hP k_0 (v := .ref (ad 48)) rfl dX6_back_28 ?_
        refine lv_iload_n hx hb dX6_back_31 rfl (lv_at hl 1 rfl) ?_
        obtain ⟨h5, hf⟩ := gd_some hf
        obtain ⟨t6, et6, hf⟩ := bnd_some hf
        obtain ⟨h7, hf⟩ := gd_some hf
        have h_t6 := isk_eq h7
        refine pg_aldV hC hP k_48 (bin_in h5) dX6_back_32 ?_
        refine pg_topr et6 ?_
        obtain ⟨S8, q9, hf⟩ := cal1_some hf
        refine pg_callV (As := [.ref (ad t6)]) (rest := []) (st1 := []) (ci := 5) hC hml hP hS (c_X5_copy l hC.2.2.2.2.2.1 q9 k_24 h_t6) ⟨by decide, by decide, rfl, rfl⟩ ⟨rfl, rfl⟩ (by decide) rfl (by decide) k_24 rfl rfl ⟨mk_X6_289, mi_X5_copy⟩ hd_X5_copy rfl hl.1 (Nat.le_of_ble_eq_true rfl) dX6_back_33 (fun H locs hP hS => ?_)
        refine lv_aload_n hx hb dX6_back_36 rfl (lv_at hl 0 rfl) ?_
        obtain ⟨S10, q11, hf⟩ := cal1_some hf
        refine pg_callV (As := []) (rest := []) (st1 := []) (ci := 6) hC hml hP hS (c_X6_moved l hC.2.2.2.2.2.1 q11) ⟨by decide, by decide, rfl, rfl⟩ ⟨rfl, rfl⟩ (by decide) rfl (by decide) k_0 rfl rfl ⟨mk_X6_87, mi_X6_moved⟩ hd_X6_moved rfl hl.1 (Nat.le_of_ble_eq_true rfl) dX6_back_37 (fun H locs hP hS => ?_)
        refine lv_aload_n hx hb dX6_back_40 rfl (lv_at hl 0 rfl) ?_
        refine gf_X6_29 hC hP k_0 (v := .ref (ad 24)) rfl dX6_back_41 ?_
        refine gf_X6_99 hC hP k_24 (v := .ref (ad 25)) rfl dX6_back_44 ?_
        refine gf_X6_142 hC hP k_25 (v := .int (gI S10 1 25)) rfl dX6_back_47 ?_
        exact pg_iret hC hr hlk hP hS hf dX6_back_50
      · replace hf := ite_t c4 hf
        refine lv_bipush (v := -2) hx hb dX6_back_20 (by decide) ?_
        exact pg_iret hC hr hlk hP hS hf dX6_back_22
    · replace hf := ite_f c2 hf
      refine lv_iconst (v := -1) hx hb dX6_back_9 (by decide) ?_
      exact pg_iret hC hr hlk hP hS hf dX6_back_10
def P_X6_count (N : Nat) (S : PSt) (x1 : Int32) : Option (Int32 × PSt) := if x1 = (0 : Int32) then (bnd (gR S 601 0) fun t2 => gd (isk t2 4) <| some ((gI S 400 t2), S)) else (if x1 = (1 : Int32) then (bnd (gR S 601 0) fun t5 => gd (isk t5 4) <| some ((gI S 401 t5), S)) else (if x1 = (2 : Int32) then (bnd (gR S 601 0) fun t8 => gd (isk t8 4) <| some ((gI S 402 t8), S)) else (if x1 = (3 : Int32) then (bnd (gR S 601 0) fun t11 => gd (isk t11 4) <| some ((gI S 403 t11), S)) else (if x1 = (4 : Int32) then (some ((gI S 300 98), S)) else (if x1 = (5 : Int32) then (some ((gI S 501 24), S)) else (if x1 = (6 : Int32) then (some ((gI S 200 1), S)) else (some ((-1 : Int32), S))))))))
set_option maxHeartbeats 4000000 in
set_option maxRecDepth 100000 in
theorem c_X6_count (l : Launch) {D : va_G} {cy : Nat → ClassId} {ad tb : Nat → Nat} (hJ : pJ ad) {N : Nat} {S S' : PSt} {x1 : Int32} {r : Int32} (hf : P_X6_count N S x1 = some (r, S')) : Ct l 1 yX6_count cX6_count 2 (some .int) D cy ad tb S S' [.ref (ad 0), .int x1] (some (.int r)) := by
  refine Ct_of hJ (by decide) (Nat.le_of_ble_eq_true rfl) (fun p e s m below meth c ls hX hP hS hl => ?_)
  have hl : lv_has ls 2 [(0, .ref (ad 0)), (1, .int x1)] := hl
  have hX0 := hX
  obtain ⟨hC, hml, hr, hlk⟩ := hX0
  have hx := hC.1
  have hb := hC.2.1
  unfold P_X6_count at hf
  refine lv_iload_n hx hb dX6_count_0 rfl (lv_at hl 1 rfl) ?_
  by_cases c1 : x1 = (0 : Int32)
  · replace hf := ite_t c1 hf
    refine lv_tableIn (off := 43) (tgt := 44) hx hb dX6_count_1 (by rw [c1]; decide) (by rw [c1]; decide) (by rw [c1]; decide) (by decide) ?_
    refine lv_aload_n hx hb dX6_count_44 rfl (lv_at hl 0 rfl) ?_
    obtain ⟨t2, et2, hf⟩ := bnd_some hf
    obtain ⟨h3, hf⟩ := gd_some hf
    have h_t2 := isk_eq h3
    refine gf_X6_19 hC hP k_0 (v := .ref (ad t2)) (by rw [et2]) dX6_count_45 ?_
    refine gf_X6_90 hC hP h_t2 (v := .int (gI S 400 t2)) rfl dX6_count_48 ?_
    exact pg_iret hC hr hlk hP hS hf dX6_count_51
  · replace hf := ite_f c1 hf
    by_cases c4 : x1 = (1 : Int32)
    · replace hf := ite_t c4 hf
      refine lv_tableIn (off := 51) (tgt := 52) hx hb dX6_count_1 (by rw [c4]; decide) (by rw [c4]; decide) (by rw [c4]; decide) (by decide) ?_
      refine lv_aload_n hx hb dX6_count_52 rfl (lv_at hl 0 rfl) ?_
      obtain ⟨t5, et5, hf⟩ := bnd_some hf
      obtain ⟨h6, hf⟩ := gd_some hf
      have h_t5 := isk_eq h6
      refine gf_X6_19 hC hP k_0 (v := .ref (ad t5)) (by rw [et5]) dX6_count_53 ?_
      refine gf_X6_135 hC hP h_t5 (v := .int (gI S 401 t5)) rfl dX6_count_56 ?_
      exact pg_iret hC hr hlk hP hS hf dX6_count_59
    · replace hf := ite_f c4 hf
      by_cases c7 : x1 = (2 : Int32)
      · replace hf := ite_t c7 hf
        refine lv_tableIn (off := 59) (tgt := 60) hx hb dX6_count_1 (by rw [c7]; decide) (by rw [c7]; decide) (by rw [c7]; decide) (by decide) ?_
        refine lv_aload_n hx hb dX6_count_60 rfl (lv_at hl 0 rfl) ?_
        obtain ⟨t8, et8, hf⟩ := bnd_some hf
        obtain ⟨h9, hf⟩ := gd_some hf
        have h_t8 := isk_eq h9
        refine gf_X6_19 hC hP k_0 (v := .ref (ad t8)) (by rw [et8]) dX6_count_61 ?_
        refine gf_X6_292 hC hP h_t8 (v := .int (gI S 402 t8)) rfl dX6_count_64 ?_
        exact pg_iret hC hr hlk hP hS hf dX6_count_67
      · replace hf := ite_f c7 hf
        by_cases c10 : x1 = (3 : Int32)
        · replace hf := ite_t c10 hf
          refine lv_tableIn (off := 67) (tgt := 68) hx hb dX6_count_1 (by rw [c10]; decide) (by rw [c10]; decide) (by rw [c10]; decide) (by decide) ?_
          refine lv_aload_n hx hb dX6_count_68 rfl (lv_at hl 0 rfl) ?_
          obtain ⟨t11, et11, hf⟩ := bnd_some hf
          obtain ⟨h12, hf⟩ := gd_some hf
          have h_t11 := isk_eq h12
          refine gf_X6_19 hC hP k_0 (v := .ref (ad t11)) (by rw [et11]) dX6_count_69 ?_
          refine gf_X6_206 hC hP h_t11 (v := .int (gI S 403 t11)) rfl dX6_count_72 ?_
          exact pg_iret hC hr hlk hP hS hf dX6_count_75
        · replace hf := ite_f c10 hf
          by_cases c13 : x1 = (4 : Int32)
          · replace hf := ite_t c13 hf
            refine lv_tableIn (off := 75) (tgt := 76) hx hb dX6_count_1 (by rw [c13]; decide) (by rw [c13]; decide) (by rw [c13]; decide) (by decide) ?_
            refine lv_aload_n hx hb dX6_count_76 rfl (lv_at hl 0 rfl) ?_
            refine gf_X6_44 hC hP k_0 (v := .ref (ad 98)) rfl dX6_count_77 ?_
            refine gf_X6_82 hC hP k_98 (v := .int (gI S 300 98)) rfl dX6_count_80 ?_
            exact pg_iret hC hr hlk hP hS hf dX6_count_83
          · replace hf := ite_f c13 hf
            by_cases c14 : x1 = (5 : Int32)
            · replace hf := ite_t c14 hf
              refine lv_tableIn (off := 83) (tgt := 84) hx hb dX6_count_1 (by rw [c14]; decide) (by rw [c14]; decide) (by rw [c14]; decide) (by decide) ?_
              refine lv_aload_n hx hb dX6_count_84 rfl (lv_at hl 0 rfl) ?_
              refine gf_X6_29 hC hP k_0 (v := .ref (ad 24)) rfl dX6_count_85 ?_
              refine gf_X6_163 hC hP k_24 (v := .int (gI S 501 24)) rfl dX6_count_88 ?_
              exact pg_iret hC hr hlk hP hS hf dX6_count_91
            · replace hf := ite_f c14 hf
              by_cases c15 : x1 = (6 : Int32)
              · replace hf := ite_t c15 hf
                refine lv_tableIn (off := 91) (tgt := 92) hx hb dX6_count_1 (by rw [c15]; decide) (by rw [c15]; decide) (by rw [c15]; decide) (by decide) ?_
                refine lv_aload_n hx hb dX6_count_92 rfl (lv_at hl 0 rfl) ?_
                refine gf_X6_10 hC hP k_0 (v := .ref (ad 1)) rfl dX6_count_93 ?_
                refine gf_X6_67 hC hP k_1 (v := .int (gI S 200 1)) rfl dX6_count_96 ?_
                exact pg_iret hC hr hlk hP hS hf dX6_count_99
              · replace hf := ite_f c15 hf
                refine lv_tableOut (tgt := 100) hx hb dX6_count_1 (sw_out 0 6 (fun k h1 h2 hk => by
                  rcases (show k = 0 ∨ k = 1 ∨ k = 2 ∨ k = 3 ∨ k = 4 ∨ k = 5 ∨ k = 6 by omega) with h | h | h | h | h | h | h
                  · subst h; exact c1 (hk.trans (by decide))
                  · subst h; exact c4 (hk.trans (by decide))
                  · subst h; exact c7 (hk.trans (by decide))
                  · subst h; exact c10 (hk.trans (by decide))
                  · subst h; exact c13 (hk.trans (by decide))
                  · subst h; exact c14 (hk.trans (by decide))
                  · subst h; exact c15 (hk.trans (by decide)))) (by decide) ?_
                refine lv_iconst (v := -1) hx hb dX6_count_100 (by decide) ?_
                exact pg_iret hC hr hlk hP hS hf dX6_count_101
def P_X6_trace (N : Nat) (S : PSt) : Option (Int64 × PSt) := some ((gJ S 610 0), S)
set_option maxHeartbeats 4000000 in
set_option maxRecDepth 100000 in
theorem c_X6_trace (l : Launch) {D : va_G} {cy : Nat → ClassId} {ad tb : Nat → Nat} (hJ : pJ ad) {N : Nat} {S S' : PSt} {r : Int64} (hf : P_X6_trace N S = some (r, S')) : Ct l 1 yX6_trace cX6_trace 1 (some .long) D cy ad tb S S' [.ref (ad 0)] (some (.long r)) := by
  refine Ct_of hJ (by decide) (Nat.le_of_ble_eq_true rfl) (fun p e s m below meth c ls hX hP hS hl => ?_)
  have hl : lv_has ls 1 [(0, .ref (ad 0))] := hl
  have hX0 := hX
  obtain ⟨hC, hml, hr, hlk⟩ := hX0
  have hx := hC.1
  have hb := hC.2.1
  unfold P_X6_trace at hf
  refine lv_aload_n hx hb dX6_trace_0 rfl (lv_at hl 0 rfl) ?_
  refine gf_X6_268 hC hP k_0 (v := .long (gJ S 610 0)) rfl dX6_trace_1 ?_
  exact pg_lret hC hr hlk hP hS hf dX6_trace_4
end GEN
