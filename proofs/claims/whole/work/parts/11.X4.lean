section GEN
variable {p : Program} {l : Launch} {e : Env} {s : State} {m : MethodId} {args : Array Value} {below : List Frame} {meth : Method} {c : Code} {D : va_G} {cy : Nat → ClassId} {ad tb : Nat → Nat}
def P_X4_addStretch (N : Nat) (S : PSt) (a0 : Nat) (x1 : Int32) (x2 : Int32) (x3 : Int32) (x4 : Int32) : Option PSt := if (6 : Int32) ≤ (gI S 401 a0) then (some S) else (gd (bin (gI S 401 a0) (ln (a0 + 3))) <| bnd (sA S (a0 + 3) (gI S 401 a0).toNatClampNeg x1) fun S3 => gd (bin (gI S3 401 a0) (ln (a0 + 4))) <| bnd (sA S3 (a0 + 4) (gI S3 401 a0).toNatClampNeg x2) fun S5 => gd (bin (gI S5 401 a0) (ln (a0 + 5))) <| bnd (sA S5 (a0 + 5) (gI S5 401 a0).toNatClampNeg x3) fun S7 => gd (bin (gI S7 401 a0) (ln (a0 + 6))) <| bnd (sA S7 (a0 + 6) (gI S7 401 a0).toNatClampNeg x4) fun S9 => bnd (sI S9 401 a0 ((gI S9 401 a0) + (1 : Int32))) fun S10 => some S10)
set_option maxHeartbeats 4000000 in
set_option maxRecDepth 100000 in
theorem c_X4_addStretch (l : Launch) {D : va_G} {cy : Nat → ClassId} {ad tb : Nat → Nat} (hJ : pJ ad) {N : Nat} {S S' : PSt} {a0 : Nat} {x1 : Int32} {x2 : Int32} {x3 : Int32} {x4 : Int32} (hf : P_X4_addStretch N S a0 x1 x2 x3 x4 = some S') (h_a0 : kd a0 = 4) : Ct l 1 yX4_addStretch cX4_addStretch 5 none D cy ad tb S S' [.ref (ad a0), .int x1, .int x2, .int x3, .int x4] none := by
  refine Ct_of hJ (by decide) (Nat.le_of_ble_eq_true rfl) (fun p e s m below meth c ls hX hP hS hl => ?_)
  have hl : lv_has ls 5 [(0, .ref (ad a0)), (1, .int x1), (2, .int x2), (3, .int x3), (4, .int x4)] := hl
  have hX0 := hX
  obtain ⟨hC, hml, hr, hlk⟩ := hX0
  have hx := hC.1
  have hb := hC.2.1
  unfold P_X4_addStretch at hf
  refine lv_aload_n hx hb dX4_addStretch_0 rfl (lv_at hl 0 rfl) ?_
  refine gf_X4_46 hC hP h_a0 (v := .int (gI S 401 a0)) rfl dX4_addStretch_1 ?_
  refine lv_bipush (v := 6) hx hb dX4_addStretch_4 (by decide) ?_
  refine lv_icmp_ge (tgt := 60) hx hb dX4_addStretch_6 (by decide) (fun c1 => ?_) (fun c1 => ?_)
  · replace hf := ite_t c1 hf
    exact pg_vret hC hr hlk hP hS hf dX4_addStretch_60
  · replace hf := ite_f c1 hf
    refine lv_aload_n hx hb dX4_addStretch_9 rfl (lv_at hl 0 rfl) ?_
    refine gf_X4_22 hC hP h_a0 (v := .ref (ad (a0 + 3))) rfl dX4_addStretch_10 ?_
    refine lv_aload_n hx hb dX4_addStretch_13 rfl (lv_at hl 0 rfl) ?_
    refine gf_X4_46 hC hP h_a0 (v := .int (gI S 401 a0)) rfl dX4_addStretch_14 ?_
    refine lv_iload_n hx hb dX4_addStretch_17 rfl (lv_at hl 1 rfl) ?_
    obtain ⟨h2, hf⟩ := gd_some hf
    obtain ⟨S3, eS3, hf⟩ := bnd_some hf
    refine pg_iast hC hP hS (ko_4_3 h_a0) (bin_in h2) dX4_addStretch_18 (fun H locs hP hS => ?_)
    rw [← eS3] at hP
    refine lv_aload_n hx hb dX4_addStretch_19 rfl (lv_at hl 0 rfl) ?_
    refine gf_X4_25 hC hP h_a0 (v := .ref (ad (a0 + 4))) rfl dX4_addStretch_20 ?_
    refine lv_aload_n hx hb dX4_addStretch_23 rfl (lv_at hl 0 rfl) ?_
    refine gf_X4_46 hC hP h_a0 (v := .int (gI S3 401 a0)) rfl dX4_addStretch_24 ?_
    refine lv_iload_n hx hb dX4_addStretch_27 rfl (lv_at hl 2 rfl) ?_
    obtain ⟨h4, hf⟩ := gd_some hf
    obtain ⟨S5, eS5, hf⟩ := bnd_some hf
    refine pg_iast hC hP hS (ko_4_4 h_a0) (bin_in h4) dX4_addStretch_28 (fun H locs hP hS => ?_)
    rw [← eS5] at hP
    refine lv_aload_n hx hb dX4_addStretch_29 rfl (lv_at hl 0 rfl) ?_
    refine gf_X4_28 hC hP h_a0 (v := .ref (ad (a0 + 5))) rfl dX4_addStretch_30 ?_
    refine lv_aload_n hx hb dX4_addStretch_33 rfl (lv_at hl 0 rfl) ?_
    refine gf_X4_46 hC hP h_a0 (v := .int (gI S5 401 a0)) rfl dX4_addStretch_34 ?_
    refine lv_iload_n hx hb dX4_addStretch_37 rfl (lv_at hl 3 rfl) ?_
    obtain ⟨h6, hf⟩ := gd_some hf
    obtain ⟨S7, eS7, hf⟩ := bnd_some hf
    refine pg_iast hC hP hS (ko_4_5 h_a0) (bin_in h6) dX4_addStretch_38 (fun H locs hP hS => ?_)
    rw [← eS7] at hP
    refine lv_aload_n hx hb dX4_addStretch_39 rfl (lv_at hl 0 rfl) ?_
    refine gf_X4_31 hC hP h_a0 (v := .ref (ad (a0 + 6))) rfl dX4_addStretch_40 ?_
    refine lv_aload_n hx hb dX4_addStretch_43 rfl (lv_at hl 0 rfl) ?_
    refine gf_X4_46 hC hP h_a0 (v := .int (gI S7 401 a0)) rfl dX4_addStretch_44 ?_
    refine lv_iload hx hb dX4_addStretch_47 (lv_at hl 4 rfl) ?_
    obtain ⟨h8, hf⟩ := gd_some hf
    obtain ⟨S9, eS9, hf⟩ := bnd_some hf
    refine pg_iast hC hP hS (ko_4_6 h_a0) (bin_in h8) dX4_addStretch_49 (fun H locs hP hS => ?_)
    rw [← eS9] at hP
    refine lv_aload_n hx hb dX4_addStretch_50 rfl (lv_at hl 0 rfl) ?_
    refine lv_dup hx hb dX4_addStretch_51 rfl ?_
    refine gf_X4_46 hC hP h_a0 (v := .int (gI S9 401 a0)) rfl dX4_addStretch_52 ?_
    refine lv_iconst (v := 1) hx hb dX4_addStretch_55 (by decide) ?_
    refine lv_iadd hx hb dX4_addStretch_56 ?_
    obtain ⟨S10, eS10, hf⟩ := bnd_some hf
    refine pf_X4_46 hC hP hS h_a0 eS10 dX4_addStretch_57 (fun H locs hP hS => ?_)
    exact pg_vret hC hr hlk hP hS hf dX4_addStretch_60
def P_X4_addWalker (N : Nat) (S : PSt) (a0 : Nat) (x1 : Int32) (x2 : Int32) : Option PSt := if (4 : Int32) ≤ (gI S 400 a0) then (some S) else (gd (bin (gI S 400 a0) (ln (a0 + 1))) <| bnd (sA S (a0 + 1) (gI S 400 a0).toNatClampNeg x1) fun S3 => gd (bin (gI S3 400 a0) (ln (a0 + 2))) <| bnd (sA S3 (a0 + 2) (gI S3 400 a0).toNatClampNeg x2) fun S5 => bnd (sI S5 400 a0 ((gI S5 400 a0) + (1 : Int32))) fun S6 => some S6)
set_option maxHeartbeats 4000000 in
set_option maxRecDepth 100000 in
theorem c_X4_addWalker (l : Launch) {D : va_G} {cy : Nat → ClassId} {ad tb : Nat → Nat} (hJ : pJ ad) {N : Nat} {S S' : PSt} {a0 : Nat} {x1 : Int32} {x2 : Int32} (hf : P_X4_addWalker N S a0 x1 x2 = some S') (h_a0 : kd a0 = 4) : Ct l 1 yX4_addWalker cX4_addWalker 3 none D cy ad tb S S' [.ref (ad a0), .int x1, .int x2] none := by
  refine Ct_of hJ (by decide) (Nat.le_of_ble_eq_true rfl) (fun p e s m below meth c ls hX hP hS hl => ?_)
  have hl : lv_has ls 3 [(0, .ref (ad a0)), (1, .int x1), (2, .int x2)] := hl
  have hX0 := hX
  obtain ⟨hC, hml, hr, hlk⟩ := hX0
  have hx := hC.1
  have hb := hC.2.1
  unfold P_X4_addWalker at hf
  refine lv_aload_n hx hb dX4_addWalker_0 rfl (lv_at hl 0 rfl) ?_
  refine gf_X4_43 hC hP h_a0 (v := .int (gI S 400 a0)) rfl dX4_addWalker_1 ?_
  refine lv_iconst (v := 4) hx hb dX4_addWalker_4 (by decide) ?_
  refine lv_icmp_ge (tgt := 38) hx hb dX4_addWalker_5 (by decide) (fun c1 => ?_) (fun c1 => ?_)
  · replace hf := ite_t c1 hf
    exact pg_vret hC hr hlk hP hS hf dX4_addWalker_38
  · replace hf := ite_f c1 hf
    refine lv_aload_n hx hb dX4_addWalker_8 rfl (lv_at hl 0 rfl) ?_
    refine gf_X4_15 hC hP h_a0 (v := .ref (ad (a0 + 1))) rfl dX4_addWalker_9 ?_
    refine lv_aload_n hx hb dX4_addWalker_12 rfl (lv_at hl 0 rfl) ?_
    refine gf_X4_43 hC hP h_a0 (v := .int (gI S 400 a0)) rfl dX4_addWalker_13 ?_
    refine lv_iload_n hx hb dX4_addWalker_16 rfl (lv_at hl 1 rfl) ?_
    obtain ⟨h2, hf⟩ := gd_some hf
    obtain ⟨S3, eS3, hf⟩ := bnd_some hf
    refine pg_iast hC hP hS (ko_4_1 h_a0) (bin_in h2) dX4_addWalker_17 (fun H locs hP hS => ?_)
    rw [← eS3] at hP
    refine lv_aload_n hx hb dX4_addWalker_18 rfl (lv_at hl 0 rfl) ?_
    refine gf_X4_19 hC hP h_a0 (v := .ref (ad (a0 + 2))) rfl dX4_addWalker_19 ?_
    refine lv_aload_n hx hb dX4_addWalker_22 rfl (lv_at hl 0 rfl) ?_
    refine gf_X4_43 hC hP h_a0 (v := .int (gI S3 400 a0)) rfl dX4_addWalker_23 ?_
    refine lv_iload_n hx hb dX4_addWalker_26 rfl (lv_at hl 2 rfl) ?_
    obtain ⟨h4, hf⟩ := gd_some hf
    obtain ⟨S5, eS5, hf⟩ := bnd_some hf
    refine pg_iast hC hP hS (ko_4_2 h_a0) (bin_in h4) dX4_addWalker_27 (fun H locs hP hS => ?_)
    rw [← eS5] at hP
    refine lv_aload_n hx hb dX4_addWalker_28 rfl (lv_at hl 0 rfl) ?_
    refine lv_dup hx hb dX4_addWalker_29 rfl ?_
    refine gf_X4_43 hC hP h_a0 (v := .int (gI S5 400 a0)) rfl dX4_addWalker_30 ?_
    refine lv_iconst (v := 1) hx hb dX4_addWalker_33 (by decide) ?_
    refine lv_iadd hx hb dX4_addWalker_34 ?_
    obtain ⟨S6, eS6, hf⟩ := bnd_some hf
    refine pf_X4_43 hC hP hS h_a0 eS6 dX4_addWalker_35 (fun H locs hP hS => ?_)
    exact pg_vret hC hr hlk hP hS hf dX4_addWalker_38
def P_X4_empty (N : Nat) (S : PSt) (a0 : Nat) : Option PSt := bnd (sI S 400 a0 (0 : Int32)) fun S1 => bnd (sI S1 401 a0 (0 : Int32)) fun S2 => bnd (sI S2 402 a0 (1 : Int32)) fun S3 => bnd (sI S3 403 a0 (0 : Int32)) fun S4 => some S4
set_option maxHeartbeats 4000000 in
set_option maxRecDepth 100000 in
theorem c_X4_empty (l : Launch) {D : va_G} {cy : Nat → ClassId} {ad tb : Nat → Nat} (hJ : pJ ad) {N : Nat} {S S' : PSt} {a0 : Nat} (hf : P_X4_empty N S a0 = some S') (h_a0 : kd a0 = 4) : Ct l 1 yX4_empty cX4_empty 1 none D cy ad tb S S' [.ref (ad a0)] none := by
  refine Ct_of hJ (by decide) (Nat.le_of_ble_eq_true rfl) (fun p e s m below meth c ls hX hP hS hl => ?_)
  have hl : lv_has ls 1 [(0, .ref (ad a0))] := hl
  have hX0 := hX
  obtain ⟨hC, hml, hr, hlk⟩ := hX0
  have hx := hC.1
  have hb := hC.2.1
  unfold P_X4_empty at hf
  refine lv_aload_n hx hb dX4_empty_0 rfl (lv_at hl 0 rfl) ?_
  refine lv_iconst (v := 0) hx hb dX4_empty_1 (by decide) ?_
  obtain ⟨S1, eS1, hf⟩ := bnd_some hf
  refine pf_X4_43 hC hP hS h_a0 eS1 dX4_empty_2 (fun H locs hP hS => ?_)
  refine lv_aload_n hx hb dX4_empty_5 rfl (lv_at hl 0 rfl) ?_
  refine lv_iconst (v := 0) hx hb dX4_empty_6 (by decide) ?_
  obtain ⟨S2, eS2, hf⟩ := bnd_some hf
  refine pf_X4_46 hC hP hS h_a0 eS2 dX4_empty_7 (fun H locs hP hS => ?_)
  refine lv_aload_n hx hb dX4_empty_10 rfl (lv_at hl 0 rfl) ?_
  refine lv_iconst (v := 1) hx hb dX4_empty_11 (by decide) ?_
  obtain ⟨S3, eS3, hf⟩ := bnd_some hf
  refine pf_X4_9 hC hP hS h_a0 eS3 dX4_empty_12 (fun H locs hP hS => ?_)
  refine lv_aload_n hx hb dX4_empty_15 rfl (lv_at hl 0 rfl) ?_
  refine lv_iconst (v := 0) hx hb dX4_empty_16 (by decide) ?_
  obtain ⟨S4, eS4, hf⟩ := bnd_some hf
  refine pf_X4_49 hC hP hS h_a0 eS4 dX4_empty_17 (fun H locs hP hS => ?_)
  exact pg_vret hC hr hlk hP hS hf dX4_empty_20
def P_X4_boundMinutes_L46 (k7 : PSt → Nat → Int32 → Int32 → Int32 → Int32 → Option PSt) (N : Nat) (S : PSt) (a0 : Nat) (x1 : Int32) (x3 : Int32) (x4 : Int32) (x5 : Int32) (y0 : Int32) : Option PSt := bnd (if x3 < (x5 + (6 : Int32)) then (x5 + (6 : Int32)) else x3) fun v1 => bnd (x4 + (1 : Int32)) fun v2 => k7 S a0 x1 y0 v1 v2
set_option maxHeartbeats 4000000 in
set_option maxRecDepth 100000 in
theorem w_X4_boundMinutes_L46 {N : Nat} {S' : PSt} (hX : Mx p s m args c meth cX4_boundMinutes RX4 6 none D cy ad tb) {k7 : PSt → Nat → Int32 → Int32 → Int32 → Int32 → Option PSt} (hk7 : ∀ (S : PSt) (a0 : Nat) (x1 : Int32) (x2 : Int32) (x3 : Int32) (x4 : Int32) (H : Heap) (locs : List Loc) (ls : Array Slot), k7 S a0 x1 x2 x3 x4 = some S' → kd a0 = 4 → va_P D vwCl (pW cy ad S) H → va_S (pA ad s.heap.size) s.heap H locs → lv_has ls 6 [(0, .ref (ad a0)), (1, .int x1), (2, .int x2), (3, .int x3), (4, .int x4)] → W p l e (rmd 2) s m args below meth c H locs 0 0 (Qz D cy ad below args s S' none) (F0 m 7 ls [])) : ∀ (S : PSt) (a0 : Nat) (x1 : Int32) (x3 : Int32) (x4 : Int32) (x5 : Int32) (y0 : Int32) (H : Heap) (locs : List Loc) (ls : Array Slot), P_X4_boundMinutes_L46 k7 N S a0 x1 x3 x4 x5 y0 = some S' → kd a0 = 4 → va_P D vwCl (pW cy ad S) H → va_S (pA ad s.heap.size) s.heap H locs → lv_has ls 6 [(0, .ref (ad a0)), (1, .int x1), (3, .int x3), (4, .int x4), (5, .int x5)] → W p l e (rmd 2) s m args below meth c H locs 0 0 (Qz D cy ad below args s S' none) (F0 m 46 ls [.int y0]) := by
  have hX0 := hX
  obtain ⟨hC, hml, hr, hlk⟩ := hX0
  have hx := hC.1
  have hb := hC.2.1
  intro S a0 x1 x3 x4 x5 y0 H locs ls hf h_a0 hP hS hl
  unfold P_X4_boundMinutes_L46 at hf
  refine lv_istore_n (lv' := [(2, .int y0), (0, .ref (ad a0)), (1, .int x1), (3, .int x3), (4, .int x4), (5, .int x5)]) hx hb dX4_boundMinutes_46 rfl hl (by decide) rfl (fun ls hl => ?_)
  refine lv_iload_n hx hb dX4_boundMinutes_47 rfl (lv_at hl 3 rfl) ?_
  refine lv_iload hx hb dX4_boundMinutes_48 (lv_at hl 5 rfl) ?_
  refine lv_bipush (v := 6) hx hb dX4_boundMinutes_50 (by decide) ?_
  refine lv_iadd hx hb dX4_boundMinutes_52 ?_
  refine pg_max hC (hml.trans hl.1.symm) ⟨by decide, by decide, rfl, rfl⟩ ⟨rfl, rfl⟩ kl_X4_68 (Nat.le_of_ble_eq_true rfl) dX4_boundMinutes_53 ?_
  obtain ⟨v1, ev1, hf⟩ := bnd_some hf
  refine pg_top ev1 ?_
  refine lv_istore_n (lv' := [(3, .int v1), (2, .int y0), (0, .ref (ad a0)), (1, .int x1), (4, .int x4), (5, .int x5)]) hx hb dX4_boundMinutes_56 rfl hl (by decide) rfl (fun ls hl => ?_)
  obtain ⟨v2, ev2, hf⟩ := bnd_some hf
  refine lv_iinc (v := v2) (lv' := [(4, .int v2), (3, .int v1), (2, .int y0), (0, .ref (ad a0)), (1, .int x1), (5, .int x5)]) hx hb dX4_boundMinutes_57 hl (k := 4) rfl (by rw [ev2]; rfl) (by decide) rfl (fun ls hl => ?_)
  refine lv_goto (tgt := 7) hx hb dX4_boundMinutes_60 (by decide) ?_
  exact hk7 _ _ _ _ _ _ _ _ _ hf h_a0 hP hS (lv_sub hl [3, 4, 2, 1, 0] rfl)
def P_X4_boundMinutes_L7 (N : Nat) : Nat → PSt → Nat → Int32 → Int32 → Int32 → Int32 → Option PSt
  | 0 => fun _ _ _ _ _ _ => none
  | n + 1 => fun S a0 x1 x2 x3 x4 => if (gI S 404 a0) ≤ x4 then (gd (bin x1 (ln (a0 + 8))) <| gd (bin x1 (ln (a0 + 3))) <| gd (bin (x1 + (1 : Int32)) (ln (a0 + 8))) <| bnd (sA S (a0 + 8) (x1 + (1 : Int32)).toNatClampNeg ((gA S (a0 + 8) x1.toNatClampNeg) + (x2 * (gA S (a0 + 3) x1.toNatClampNeg)))) fun S7 => gd (bin x1 (ln (a0 + 9))) <| gd (bin x1 (ln (a0 + 3))) <| gd (bin (x1 + (1 : Int32)) (ln (a0 + 9))) <| bnd (sA S7 (a0 + 9) (x1 + (1 : Int32)).toNatClampNeg (((gA S7 (a0 + 9) x1.toNatClampNeg) + (x3 * (gA S7 (a0 + 3) x1.toNatClampNeg))) + (gI S7 402 a0))) fun S11 => some S11) else (gd (bin x4 (ln (a0 + 7))) <| cal2 (P_X4_unwornRate N S a0 x1 (gA S (a0 + 7) x4.toNatClampNeg)) fun r15 S13 => if x4 = (0 : Int32) then (P_X4_boundMinutes_L46 (P_X4_boundMinutes_L7 N n) N S13 a0 x1 x3 x4 r15 r15) else (P_X4_boundMinutes_L46 (P_X4_boundMinutes_L7 N n) N S13 a0 x1 x3 x4 r15 (if r15 < x2 then r15 else x2)))
set_option maxHeartbeats 4000000 in
set_option maxRecDepth 100000 in
theorem w_X4_boundMinutes_L7 {N : Nat} {S' : PSt} (hX : Mx p s m args c meth cX4_boundMinutes RX4 6 none D cy ad tb) : ∀ (n : Nat), ∀ (S : PSt) (a0 : Nat) (x1 : Int32) (x2 : Int32) (x3 : Int32) (x4 : Int32) (H : Heap) (locs : List Loc) (ls : Array Slot), P_X4_boundMinutes_L7 N n S a0 x1 x2 x3 x4 = some S' → kd a0 = 4 → va_P D vwCl (pW cy ad S) H → va_S (pA ad s.heap.size) s.heap H locs → lv_has ls 6 [(0, .ref (ad a0)), (1, .int x1), (2, .int x2), (3, .int x3), (4, .int x4)] → W p l e (rmd 2) s m args below meth c H locs 0 0 (Qz D cy ad below args s S' none) (F0 m 7 ls []) := by
  have hX0 := hX
  obtain ⟨hC, hml, hr, hlk⟩ := hX0
  have hx := hC.1
  have hb := hC.2.1
  intro n
  induction n with
  | zero => intro S a0 x1 x2 x3 x4 H locs ls hf; exact absurd hf (by intro h; cases h)
  | succ n ih =>
    intro S a0 x1 x2 x3 x4 H locs ls hf h_a0 hP hS hl
    rw [P_X4_boundMinutes_L7] at hf
    refine lv_iload hx hb dX4_boundMinutes_7 (lv_at hl 4 rfl) ?_
    refine lv_aload_n hx hb dX4_boundMinutes_9 rfl (lv_at hl 0 rfl) ?_
    refine gf_X4_52 hC hP h_a0 (v := .int (gI S 404 a0)) rfl dX4_boundMinutes_10 ?_
    refine lv_icmp_ge (tgt := 63) hx hb dX4_boundMinutes_13 (by decide) (fun c3 => ?_) (fun c3 => ?_)
    · replace hf := ite_t c3 hf
      refine lv_aload_n hx hb dX4_boundMinutes_63 rfl (lv_at hl 0 rfl) ?_
      refine gf_X4_37 hC hP h_a0 (v := .ref (ad (a0 + 8))) rfl dX4_boundMinutes_64 ?_
      refine lv_iload_n hx hb dX4_boundMinutes_67 rfl (lv_at hl 1 rfl) ?_
      refine lv_iconst (v := 1) hx hb dX4_boundMinutes_68 (by decide) ?_
      refine lv_iadd hx hb dX4_boundMinutes_69 ?_
      refine lv_aload_n hx hb dX4_boundMinutes_70 rfl (lv_at hl 0 rfl) ?_
      refine gf_X4_37 hC hP h_a0 (v := .ref (ad (a0 + 8))) rfl dX4_boundMinutes_71 ?_
      refine lv_iload_n hx hb dX4_boundMinutes_74 rfl (lv_at hl 1 rfl) ?_
      obtain ⟨h4, hf⟩ := gd_some hf
      refine pg_iald hC hP (ko_4_8 h_a0) (bin_in h4) dX4_boundMinutes_75 ?_
      refine lv_iload_n hx hb dX4_boundMinutes_76 rfl (lv_at hl 2 rfl) ?_
      refine lv_aload_n hx hb dX4_boundMinutes_77 rfl (lv_at hl 0 rfl) ?_
      refine gf_X4_22 hC hP h_a0 (v := .ref (ad (a0 + 3))) rfl dX4_boundMinutes_78 ?_
      refine lv_iload_n hx hb dX4_boundMinutes_81 rfl (lv_at hl 1 rfl) ?_
      obtain ⟨h5, hf⟩ := gd_some hf
      refine pg_iald hC hP (ko_4_3 h_a0) (bin_in h5) dX4_boundMinutes_82 ?_
      refine lv_imul hx hb dX4_boundMinutes_83 ?_
      refine lv_iadd hx hb dX4_boundMinutes_84 ?_
      obtain ⟨h6, hf⟩ := gd_some hf
      obtain ⟨S7, eS7, hf⟩ := bnd_some hf
      refine pg_iast hC hP hS (ko_4_8 h_a0) (bin_in h6) dX4_boundMinutes_85 (fun H locs hP hS => ?_)
      rw [← eS7] at hP
      refine lv_aload_n hx hb dX4_boundMinutes_86 rfl (lv_at hl 0 rfl) ?_
      refine gf_X4_40 hC hP h_a0 (v := .ref (ad (a0 + 9))) rfl dX4_boundMinutes_87 ?_
      refine lv_iload_n hx hb dX4_boundMinutes_90 rfl (lv_at hl 1 rfl) ?_
      refine lv_iconst (v := 1) hx hb dX4_boundMinutes_91 (by decide) ?_
      refine lv_iadd hx hb dX4_boundMinutes_92 ?_
      refine lv_aload_n hx hb dX4_boundMinutes_93 rfl (lv_at hl 0 rfl) ?_
      refine gf_X4_40 hC hP h_a0 (v := .ref (ad (a0 + 9))) rfl dX4_boundMinutes_94 ?_
      refine lv_iload_n hx hb dX4_boundMinutes_97 rfl (lv_at hl 1 rfl) ?_
      obtain ⟨h8, hf⟩ := gd_some hf
      refine pg_iald hC hP (ko_4_9 h_a0) (bin_in h8) dX4_boundMinutes_98 ?_
      refine lv_iload_n hx hb dX4_boundMinutes_99 rfl (lv_at hl 3 rfl) ?_
      refine lv_aload_n hx hb dX4_boundMinutes_100 rfl (lv_at hl 0 rfl) ?_
      refine gf_X4_22 hC hP h_a0 (v := .ref (ad (a0 + 3))) rfl dX4_boundMinutes_101 ?_
      refine lv_iload_n hx hb dX4_boundMinutes_104 rfl (lv_at hl 1 rfl) ?_
      obtain ⟨h9, hf⟩ := gd_some hf
      refine pg_iald hC hP (ko_4_3 h_a0) (bin_in h9) dX4_boundMinutes_105 ?_
      refine lv_imul hx hb dX4_boundMinutes_106 ?_
      refine lv_iadd hx hb dX4_boundMinutes_107 ?_
      refine lv_aload_n hx hb dX4_boundMinutes_108 rfl (lv_at hl 0 rfl) ?_
      refine gf_X4_9 hC hP h_a0 (v := .int (gI S7 402 a0)) rfl dX4_boundMinutes_109 ?_
      refine lv_iadd hx hb dX4_boundMinutes_112 ?_
      obtain ⟨h10, hf⟩ := gd_some hf
      obtain ⟨S11, eS11, hf⟩ := bnd_some hf
      refine pg_iast hC hP hS (ko_4_9 h_a0) (bin_in h10) dX4_boundMinutes_113 (fun H locs hP hS => ?_)
      rw [← eS11] at hP
      exact pg_vret hC hr hlk hP hS hf dX4_boundMinutes_114
    · replace hf := ite_f c3 hf
      refine lv_aload_n hx hb dX4_boundMinutes_16 rfl (lv_at hl 0 rfl) ?_
      refine lv_iload_n hx hb dX4_boundMinutes_17 rfl (lv_at hl 1 rfl) ?_
      refine lv_aload_n hx hb dX4_boundMinutes_18 rfl (lv_at hl 0 rfl) ?_
      refine gf_X4_34 hC hP h_a0 (v := .ref (ad (a0 + 7))) rfl dX4_boundMinutes_19 ?_
      refine lv_iload hx hb dX4_boundMinutes_22 (lv_at hl 4 rfl) ?_
      obtain ⟨h12, hf⟩ := gd_some hf
      refine pg_iald hC hP (ko_4_7 h_a0) (bin_in h12) dX4_boundMinutes_24 ?_
      obtain ⟨r15, S13, q14, hf⟩ := cal2_some hf
      refine pg_callV (As := [.int x1, .int (gA S (a0 + 7) x4.toNatClampNeg)]) (rest := []) (st1 := [.int r15]) (ci := 4) hC hml hP hS (c_X4_unwornRate l hC.2.2.2.2.2.1 q14 h_a0) ⟨by decide, by decide, rfl, rfl⟩ ⟨rfl, rfl⟩ (by decide) rfl (by decide) h_a0 rfl rfl ⟨mk_X4_59, mi_X4_unwornRate⟩ hd_X4_unwornRate rfl hl.1 (Nat.le_of_ble_eq_true rfl) dX4_boundMinutes_25 (fun H locs hP hS => ?_)
      refine lv_istore (lv' := [(5, .int r15), (0, .ref (ad a0)), (1, .int x1), (2, .int x2), (3, .int x3), (4, .int x4)]) hx hb dX4_boundMinutes_28 hl (by decide) rfl (fun ls hl => ?_)
      refine lv_iload hx hb dX4_boundMinutes_30 (lv_at hl 5 rfl) ?_
      refine lv_if_ne (tgt := 40) hx hb dX4_boundMinutes_32 (by decide) (fun c16 => ?_) (fun c16 => ?_)
      · replace hf := ite_f c16 hf
        refine lv_iload_n hx hb dX4_boundMinutes_40 rfl (lv_at hl 3 rfl) ?_
        refine lv_iload hx hb dX4_boundMinutes_41 (lv_at hl 0 rfl) ?_
        refine pg_min hC (hml.trans hl.1.symm) ⟨by decide, by decide, rfl, rfl⟩ ⟨rfl, rfl⟩ kl_X4_63 (Nat.le_of_ble_eq_true rfl) dX4_boundMinutes_43 ?_
        exact w_X4_boundMinutes_L46 hX ih _ _ _ _ _ _ _ _ _ _ hf h_a0 hP hS (lv_sub hl [1, 2, 4, 5, 0] rfl)
      · replace hf := ite_t c16 hf
        refine lv_iload hx hb dX4_boundMinutes_35 (lv_at hl 0 rfl) ?_
        refine lv_goto (tgt := 46) hx hb dX4_boundMinutes_37 (by decide) ?_
        exact w_X4_boundMinutes_L46 hX ih _ _ _ _ _ _ _ _ _ _ hf h_a0 hP hS (lv_sub hl [1, 2, 4, 5, 0] rfl)
def P_X4_boundMinutes (N : Nat) (S : PSt) (a0 : Nat) (x1 : Int32) : Option PSt := P_X4_boundMinutes_L7 N N S a0 x1 (0 : Int32) (0 : Int32) (0 : Int32)
set_option maxHeartbeats 4000000 in
set_option maxRecDepth 100000 in
theorem c_X4_boundMinutes (l : Launch) {D : va_G} {cy : Nat → ClassId} {ad tb : Nat → Nat} (hJ : pJ ad) {N : Nat} {S S' : PSt} {a0 : Nat} {x1 : Int32} (hf : P_X4_boundMinutes N S a0 x1 = some S') (h_a0 : kd a0 = 4) : Ct l 2 yX4_boundMinutes cX4_boundMinutes 6 none D cy ad tb S S' [.ref (ad a0), .int x1] none := by
  refine Ct_of hJ (by decide) (Nat.le_of_ble_eq_true rfl) (fun p e s m below meth c ls hX hP hS hl => ?_)
  have hl : lv_has ls 6 [(0, .ref (ad a0)), (1, .int x1)] := hl
  have hX0 := hX
  obtain ⟨hC, hml, hr, hlk⟩ := hX0
  have hx := hC.1
  have hb := hC.2.1
  unfold P_X4_boundMinutes at hf
  refine lv_iconst (v := 0) hx hb dX4_boundMinutes_0 (by decide) ?_
  refine lv_istore_n (lv' := [(2, .int (0 : Int32)), (0, .ref (ad a0)), (1, .int x1)]) hx hb dX4_boundMinutes_1 rfl hl (by decide) rfl (fun ls hl => ?_)
  refine lv_iconst (v := 0) hx hb dX4_boundMinutes_2 (by decide) ?_
  refine lv_istore_n (lv' := [(3, .int (0 : Int32)), (2, .int (0 : Int32)), (0, .ref (ad a0)), (1, .int x1)]) hx hb dX4_boundMinutes_3 rfl hl (by decide) rfl (fun ls hl => ?_)
  refine lv_iconst (v := 0) hx hb dX4_boundMinutes_4 (by decide) ?_
  refine lv_istore (lv' := [(4, .int (0 : Int32)), (3, .int (0 : Int32)), (2, .int (0 : Int32)), (0, .ref (ad a0)), (1, .int x1)]) hx hb dX4_boundMinutes_5 hl (by decide) rfl (fun ls hl => ?_)
  exact w_X4_boundMinutes_L7 hX _ _ _ _ _ _ _ _ _ _ hf h_a0 hP hS (lv_sub hl [3, 4, 2, 1, 0] rfl)
def P_X4_prepare_L75 (N : Nat) : Nat → PSt → Nat → Int32 → Option PSt
  | 0 => fun _ _ _ => none
  | n + 1 => fun S a0 x1 => if (gI S 401 a0) ≤ x1 then (some S) else (cal1 (P_X4_boundMinutes N S a0 x1) fun S2 => bnd (x1 + (1 : Int32)) fun v4 => P_X4_prepare_L75 N n S2 a0 v4)
set_option maxHeartbeats 4000000 in
set_option maxRecDepth 100000 in
theorem w_X4_prepare_L75 {N : Nat} {S' : PSt} (hX : Mx p s m args c meth cX4_prepare RX4 3 none D cy ad tb) : ∀ (n : Nat), ∀ (S : PSt) (a0 : Nat) (x1 : Int32) (H : Heap) (locs : List Loc) (ls : Array Slot), P_X4_prepare_L75 N n S a0 x1 = some S' → kd a0 = 4 → va_P D vwCl (pW cy ad S) H → va_S (pA ad s.heap.size) s.heap H locs → lv_has ls 3 [(0, .ref (ad a0)), (1, .int x1)] → W p l e (rmd 3) s m args below meth c H locs 0 0 (Qz D cy ad below args s S' none) (F0 m 75 ls []) := by
  have hX0 := hX
  obtain ⟨hC, hml, hr, hlk⟩ := hX0
  have hx := hC.1
  have hb := hC.2.1
  intro n
  induction n with
  | zero => intro S a0 x1 H locs ls hf; exact absurd hf (by intro h; cases h)
  | succ n ih =>
    intro S a0 x1 H locs ls hf h_a0 hP hS hl
    rw [P_X4_prepare_L75] at hf
    refine lv_iload_n hx hb dX4_prepare_75 rfl (lv_at hl 1 rfl) ?_
    refine lv_aload_n hx hb dX4_prepare_76 rfl (lv_at hl 0 rfl) ?_
    refine gf_X4_46 hC hP h_a0 (v := .int (gI S 401 a0)) rfl dX4_prepare_77 ?_
    refine lv_icmp_ge (tgt := 94) hx hb dX4_prepare_80 (by decide) (fun c1 => ?_) (fun c1 => ?_)
    · replace hf := ite_t c1 hf
      exact pg_vret hC hr hlk hP hS hf dX4_prepare_94
    · replace hf := ite_f c1 hf
      refine lv_aload_n hx hb dX4_prepare_83 rfl (lv_at hl 0 rfl) ?_
      refine lv_iload_n hx hb dX4_prepare_84 rfl (lv_at hl 1 rfl) ?_
      obtain ⟨S2, q3, hf⟩ := cal1_some hf
      refine pg_callV (As := [.int x1]) (rest := []) (st1 := []) (ci := 4) hC hml hP hS (c_X4_boundMinutes l hC.2.2.2.2.2.1 q3 h_a0) ⟨by decide, by decide, rfl, rfl⟩ ⟨rfl, rfl⟩ (by decide) rfl (by decide) h_a0 rfl rfl ⟨mk_X4_55, mi_X4_boundMinutes⟩ hd_X4_boundMinutes rfl hl.1 (Nat.le_of_ble_eq_true rfl) dX4_prepare_85 (fun H locs hP hS => ?_)
      obtain ⟨v4, ev4, hf⟩ := bnd_some hf
      refine lv_iinc (v := v4) (lv' := [(1, .int v4), (0, .ref (ad a0))]) hx hb dX4_prepare_88 hl (k := 1) rfl (by rw [ev4]; rfl) (by decide) rfl (fun ls hl => ?_)
      refine lv_goto (tgt := 75) hx hb dX4_prepare_91 (by decide) ?_
      exact ih _ _ _ _ _ _ hf h_a0 hP hS (lv_sub hl [1, 0] rfl)
def P_X4_prepare_L19 (k7 : PSt → Nat → Int32 → Option PSt) (N : Nat) : Nat → PSt → Nat → Int32 → Int32 → Option PSt
  | 0 => fun _ _ _ _ => none
  | n + 1 => fun S a0 x1 x2 => if (gI S 400 a0) ≤ x2 then (bnd (x1 + (1 : Int32)) fun v6 => k7 S a0 v6) else (if (6 : Int32) ≤ (gI S 404 a0) then (bnd (x1 + (1 : Int32)) fun v8 => k7 S a0 v8) else (gd (bin (gI S 404 a0) (ln (a0 + 7))) <| bnd (sA S (a0 + 7) (gI S 404 a0).toNatClampNeg (((10 : Int32) * x1) + x2)) fun S10 => bnd (sI S10 404 a0 ((gI S10 404 a0) + (1 : Int32))) fun S11 => bnd (x2 + (1 : Int32)) fun v12 => P_X4_prepare_L19 k7 N n S11 a0 x1 v12))
set_option maxHeartbeats 4000000 in
set_option maxRecDepth 100000 in
theorem w_X4_prepare_L19 {N : Nat} {S' : PSt} (hX : Mx p s m args c meth cX4_prepare RX4 3 none D cy ad tb) {k7 : PSt → Nat → Int32 → Option PSt} (hk7 : ∀ (S : PSt) (a0 : Nat) (x1 : Int32) (H : Heap) (locs : List Loc) (ls : Array Slot), k7 S a0 x1 = some S' → kd a0 = 4 → va_P D vwCl (pW cy ad S) H → va_S (pA ad s.heap.size) s.heap H locs → lv_has ls 3 [(0, .ref (ad a0)), (1, .int x1)] → W p l e (rmd 3) s m args below meth c H locs 0 0 (Qz D cy ad below args s S' none) (F0 m 7 ls [])) : ∀ (n : Nat), ∀ (S : PSt) (a0 : Nat) (x1 : Int32) (x2 : Int32) (H : Heap) (locs : List Loc) (ls : Array Slot), P_X4_prepare_L19 k7 N n S a0 x1 x2 = some S' → kd a0 = 4 → va_P D vwCl (pW cy ad S) H → va_S (pA ad s.heap.size) s.heap H locs → lv_has ls 3 [(0, .ref (ad a0)), (1, .int x1), (2, .int x2)] → W p l e (rmd 3) s m args below meth c H locs 0 0 (Qz D cy ad below args s S' none) (F0 m 19 ls []) := by
  have hX0 := hX
  obtain ⟨hC, hml, hr, hlk⟩ := hX0
  have hx := hC.1
  have hb := hC.2.1
  intro n
  induction n with
  | zero => intro S a0 x1 x2 H locs ls hf; exact absurd hf (by intro h; cases h)
  | succ n ih =>
    intro S a0 x1 x2 H locs ls hf h_a0 hP hS hl
    rw [P_X4_prepare_L19] at hf
    refine lv_iload_n hx hb dX4_prepare_19 rfl (lv_at hl 2 rfl) ?_
    refine lv_aload_n hx hb dX4_prepare_20 rfl (lv_at hl 0 rfl) ?_
    refine gf_X4_43 hC hP h_a0 (v := .int (gI S 400 a0)) rfl dX4_prepare_21 ?_
    refine lv_icmp_ge (tgt := 67) hx hb dX4_prepare_24 (by decide) (fun c5 => ?_) (fun c5 => ?_)
    · replace hf := ite_t c5 hf
      obtain ⟨v6, ev6, hf⟩ := bnd_some hf
      refine lv_iinc (v := v6) (lv' := [(1, .int v6), (0, .ref (ad a0)), (2, .int x2)]) hx hb dX4_prepare_67 hl (k := 1) rfl (by rw [ev6]; rfl) (by decide) rfl (fun ls hl => ?_)
      refine lv_goto (tgt := 7) hx hb dX4_prepare_70 (by decide) ?_
      exact hk7 _ _ _ _ _ _ hf h_a0 hP hS (lv_sub hl [1, 0] rfl)
    · replace hf := ite_f c5 hf
      refine lv_aload_n hx hb dX4_prepare_27 rfl (lv_at hl 0 rfl) ?_
      refine gf_X4_52 hC hP h_a0 (v := .int (gI S 404 a0)) rfl dX4_prepare_28 ?_
      refine lv_bipush (v := 6) hx hb dX4_prepare_31 (by decide) ?_
      refine lv_icmp_ge (tgt := 67) hx hb dX4_prepare_33 (by decide) (fun c7 => ?_) (fun c7 => ?_)
      · replace hf := ite_t c7 hf
        obtain ⟨v8, ev8, hf⟩ := bnd_some hf
        refine lv_iinc (v := v8) (lv' := [(1, .int v8), (0, .ref (ad a0)), (2, .int x2)]) hx hb dX4_prepare_67 hl (k := 1) rfl (by rw [ev8]; rfl) (by decide) rfl (fun ls hl => ?_)
        refine lv_goto (tgt := 7) hx hb dX4_prepare_70 (by decide) ?_
        exact hk7 _ _ _ _ _ _ hf h_a0 hP hS (lv_sub hl [1, 0] rfl)
      · replace hf := ite_f c7 hf
        refine lv_aload_n hx hb dX4_prepare_36 rfl (lv_at hl 0 rfl) ?_
        refine gf_X4_34 hC hP h_a0 (v := .ref (ad (a0 + 7))) rfl dX4_prepare_37 ?_
        refine lv_aload_n hx hb dX4_prepare_40 rfl (lv_at hl 0 rfl) ?_
        refine gf_X4_52 hC hP h_a0 (v := .int (gI S 404 a0)) rfl dX4_prepare_41 ?_
        refine lv_bipush (v := 10) hx hb dX4_prepare_44 (by decide) ?_
        refine lv_iload_n hx hb dX4_prepare_46 rfl (lv_at hl 1 rfl) ?_
        refine lv_imul hx hb dX4_prepare_47 ?_
        refine lv_iload_n hx hb dX4_prepare_48 rfl (lv_at hl 2 rfl) ?_
        refine lv_iadd hx hb dX4_prepare_49 ?_
        obtain ⟨h9, hf⟩ := gd_some hf
        obtain ⟨S10, eS10, hf⟩ := bnd_some hf
        refine pg_iast hC hP hS (ko_4_7 h_a0) (bin_in h9) dX4_prepare_50 (fun H locs hP hS => ?_)
        rw [← eS10] at hP
        refine lv_aload_n hx hb dX4_prepare_51 rfl (lv_at hl 0 rfl) ?_
        refine lv_dup hx hb dX4_prepare_52 rfl ?_
        refine gf_X4_52 hC hP h_a0 (v := .int (gI S10 404 a0)) rfl dX4_prepare_53 ?_
        refine lv_iconst (v := 1) hx hb dX4_prepare_56 (by decide) ?_
        refine lv_iadd hx hb dX4_prepare_57 ?_
        obtain ⟨S11, eS11, hf⟩ := bnd_some hf
        refine pf_X4_52 hC hP hS h_a0 eS11 dX4_prepare_58 (fun H locs hP hS => ?_)
        obtain ⟨v12, ev12, hf⟩ := bnd_some hf
        refine lv_iinc (v := v12) (lv' := [(2, .int v12), (0, .ref (ad a0)), (1, .int x1)]) hx hb dX4_prepare_61 hl (k := 2) rfl (by rw [ev12]; rfl) (by decide) rfl (fun ls hl => ?_)
        refine lv_goto (tgt := 19) hx hb dX4_prepare_64 (by decide) ?_
        exact ih _ _ _ _ _ _ _ hf h_a0 hP hS (lv_sub hl [1, 2, 0] rfl)
def P_X4_prepare_L7 (N : Nat) : Nat → PSt → Nat → Int32 → Option PSt
  | 0 => fun _ _ _ => none
  | n + 1 => fun S a0 x1 => if (gI S 400 a0) ≤ x1 then (P_X4_prepare_L75 N N S a0 (0 : Int32)) else (bnd (x1 + (1 : Int32)) fun v14 => P_X4_prepare_L19 (P_X4_prepare_L7 N n) N N S a0 x1 v14)
set_option maxHeartbeats 4000000 in
set_option maxRecDepth 100000 in
theorem w_X4_prepare_L7 {N : Nat} {S' : PSt} (hX : Mx p s m args c meth cX4_prepare RX4 3 none D cy ad tb) : ∀ (n : Nat), ∀ (S : PSt) (a0 : Nat) (x1 : Int32) (H : Heap) (locs : List Loc) (ls : Array Slot), P_X4_prepare_L7 N n S a0 x1 = some S' → kd a0 = 4 → va_P D vwCl (pW cy ad S) H → va_S (pA ad s.heap.size) s.heap H locs → lv_has ls 3 [(0, .ref (ad a0)), (1, .int x1)] → W p l e (rmd 3) s m args below meth c H locs 0 0 (Qz D cy ad below args s S' none) (F0 m 7 ls []) := by
  have hX0 := hX
  obtain ⟨hC, hml, hr, hlk⟩ := hX0
  have hx := hC.1
  have hb := hC.2.1
  intro n
  induction n with
  | zero => intro S a0 x1 H locs ls hf; exact absurd hf (by intro h; cases h)
  | succ n ih =>
    intro S a0 x1 H locs ls hf h_a0 hP hS hl
    rw [P_X4_prepare_L7] at hf
    refine lv_iload_n hx hb dX4_prepare_7 rfl (lv_at hl 1 rfl) ?_
    refine lv_aload_n hx hb dX4_prepare_8 rfl (lv_at hl 0 rfl) ?_
    refine gf_X4_43 hC hP h_a0 (v := .int (gI S 400 a0)) rfl dX4_prepare_9 ?_
    refine lv_icmp_ge (tgt := 73) hx hb dX4_prepare_12 (by decide) (fun c13 => ?_) (fun c13 => ?_)
    · replace hf := ite_t c13 hf
      refine lv_iconst (v := 0) hx hb dX4_prepare_73 (by decide) ?_
      refine lv_istore_n (lv' := [(1, .int (0 : Int32)), (0, .ref (ad a0))]) hx hb dX4_prepare_74 rfl hl (by decide) rfl (fun ls hl => ?_)
      exact w_X4_prepare_L75 hX _ _ _ _ _ _ _ hf h_a0 hP hS (lv_sub hl [1, 0] rfl)
    · replace hf := ite_f c13 hf
      refine lv_iload_n hx hb dX4_prepare_15 rfl (lv_at hl 1 rfl) ?_
      refine lv_iconst (v := 1) hx hb dX4_prepare_16 (by decide) ?_
      refine lv_iadd hx hb dX4_prepare_17 ?_
      obtain ⟨v14, ev14, hf⟩ := bnd_some hf
      refine pg_top ev14 ?_
      refine lv_istore_n (lv' := [(2, .int v14), (0, .ref (ad a0)), (1, .int x1)]) hx hb dX4_prepare_18 rfl hl (by decide) rfl (fun ls hl => ?_)
      exact w_X4_prepare_L19 hX ih _ _ _ _ _ _ _ _ hf h_a0 hP hS (lv_sub hl [1, 2, 0] rfl)
def P_X4_prepare (N : Nat) (S : PSt) (a0 : Nat) : Option PSt := bnd (sI S 404 a0 (0 : Int32)) fun S15 => P_X4_prepare_L7 N N S15 a0 (0 : Int32)
set_option maxHeartbeats 4000000 in
set_option maxRecDepth 100000 in
theorem c_X4_prepare (l : Launch) {D : va_G} {cy : Nat → ClassId} {ad tb : Nat → Nat} (hJ : pJ ad) {N : Nat} {S S' : PSt} {a0 : Nat} (hf : P_X4_prepare N S a0 = some S') (h_a0 : kd a0 = 4) : Ct l 3 yX4_prepare cX4_prepare 3 none D cy ad tb S S' [.ref (ad a0)] none := by
  refine Ct_of hJ (by decide) (Nat.le_of_ble_eq_true rfl) (fun p e s m below meth c ls hX hP hS hl => ?_)
  have hl : lv_has ls 3 [(0, .ref (ad a0))] := hl
  have hX0 := hX
  obtain ⟨hC, hml, hr, hlk⟩ := hX0
  have hx := hC.1
  have hb := hC.2.1
  unfold P_X4_prepare at hf
  refine lv_aload_n hx hb dX4_prepare_0 rfl (lv_at hl 0 rfl) ?_
  refine lv_iconst (v := 0) hx hb dX4_prepare_1 (by decide) ?_
  obtain ⟨S15, eS15, hf⟩ := bnd_some hf
  refine pf_X4_52 hC hP hS h_a0 eS15 dX4_prepare_2 (fun H locs hP hS => ?_)
  refine lv_iconst (v := 0) hx hb dX4_prepare_5 (by decide) ?_
  refine lv_istore_n (lv' := [(1, .int (0 : Int32)), (0, .ref (ad a0))]) hx hb dX4_prepare_6 rfl hl (by decide) rfl (fun ls hl => ?_)
  exact w_X4_prepare_L7 hX _ _ _ _ _ _ _ hf h_a0 hP hS (lv_sub hl [1, 0] rfl)
def P_X4_hasStretch (N : Nat) (S : PSt) (a0 : Nat) (x1 : Int32) : Option (Int32 × PSt) := if x1 < (0 : Int32) then (some ((0 : Int32), S)) else (if (gI S 401 a0) ≤ x1 then (some ((0 : Int32), S)) else (some ((1 : Int32), S)))
set_option maxHeartbeats 4000000 in
set_option maxRecDepth 100000 in
theorem c_X4_hasStretch (l : Launch) {D : va_G} {cy : Nat → ClassId} {ad tb : Nat → Nat} (hJ : pJ ad) {N : Nat} {S S' : PSt} {a0 : Nat} {x1 : Int32} {r : Int32} (hf : P_X4_hasStretch N S a0 x1 = some (r, S')) (h_a0 : kd a0 = 4) : Ct l 1 yX4_hasStretch cX4_hasStretch 2 (some .boolean) D cy ad tb S S' [.ref (ad a0), .int x1] (some (.int r)) := by
  refine Ct_of hJ (by decide) (Nat.le_of_ble_eq_true rfl) (fun p e s m below meth c ls hX hP hS hl => ?_)
  have hl : lv_has ls 2 [(0, .ref (ad a0)), (1, .int x1)] := hl
  have hX0 := hX
  obtain ⟨hC, hml, hr, hlk⟩ := hX0
  have hx := hC.1
  have hb := hC.2.1
  unfold P_X4_hasStretch at hf
  refine lv_iload_n hx hb dX4_hasStretch_0 rfl (lv_at hl 1 rfl) ?_
  refine lv_if_lt (tgt := 16) hx hb dX4_hasStretch_1 (by decide) (fun c1 => ?_) (fun c1 => ?_)
  · replace hf := ite_t c1 hf
    refine lv_iconst (v := 0) hx hb dX4_hasStretch_16 (by decide) ?_
    exact pg_zret hC hr hlk hP hS (by decide) hf dX4_hasStretch_17
  · replace hf := ite_f c1 hf
    refine lv_iload_n hx hb dX4_hasStretch_4 rfl (lv_at hl 1 rfl) ?_
    refine lv_aload_n hx hb dX4_hasStretch_5 rfl (lv_at hl 0 rfl) ?_
    refine gf_X4_46 hC hP h_a0 (v := .int (gI S 401 a0)) rfl dX4_hasStretch_6 ?_
    refine lv_icmp_ge (tgt := 16) hx hb dX4_hasStretch_9 (by decide) (fun c2 => ?_) (fun c2 => ?_)
    · replace hf := ite_t c2 hf
      refine lv_iconst (v := 0) hx hb dX4_hasStretch_16 (by decide) ?_
      exact pg_zret hC hr hlk hP hS (by decide) hf dX4_hasStretch_17
    · replace hf := ite_f c2 hf
      refine lv_iconst (v := 1) hx hb dX4_hasStretch_12 (by decide) ?_
      refine lv_goto (tgt := 17) hx hb dX4_hasStretch_13 (by decide) ?_
      exact pg_zret hC hr hlk hP hS (by decide) hf dX4_hasStretch_17
def P_X4_hasPair (N : Nat) (S : PSt) (a0 : Nat) (x1 : Int32) : Option (Int32 × PSt) := if x1 < (0 : Int32) then (some ((0 : Int32), S)) else (if (x1 - x1 / (10 : Int32) * (10 : Int32)) ≤ (x1 / (10 : Int32)) then (some ((0 : Int32), S)) else (if (gI S 400 a0) ≤ (x1 - x1 / (10 : Int32) * (10 : Int32)) then (some ((0 : Int32), S)) else (some ((1 : Int32), S))))
set_option maxHeartbeats 4000000 in
set_option maxRecDepth 100000 in
theorem c_X4_hasPair (l : Launch) {D : va_G} {cy : Nat → ClassId} {ad tb : Nat → Nat} (hJ : pJ ad) {N : Nat} {S S' : PSt} {a0 : Nat} {x1 : Int32} {r : Int32} (hf : P_X4_hasPair N S a0 x1 = some (r, S')) (h_a0 : kd a0 = 4) : Ct l 1 yX4_hasPair cX4_hasPair 2 (some .boolean) D cy ad tb S S' [.ref (ad a0), .int x1] (some (.int r)) := by
  refine Ct_of hJ (by decide) (Nat.le_of_ble_eq_true rfl) (fun p e s m below meth c ls hX hP hS hl => ?_)
  have hl : lv_has ls 2 [(0, .ref (ad a0)), (1, .int x1)] := hl
  have hX0 := hX
  obtain ⟨hC, hml, hr, hlk⟩ := hX0
  have hx := hC.1
  have hb := hC.2.1
  unfold P_X4_hasPair at hf
  refine lv_iload_n hx hb dX4_hasPair_0 rfl (lv_at hl 1 rfl) ?_
  refine lv_if_lt (tgt := 30) hx hb dX4_hasPair_1 (by decide) (fun c1 => ?_) (fun c1 => ?_)
  · replace hf := ite_t c1 hf
    refine lv_iconst (v := 0) hx hb dX4_hasPair_30 (by decide) ?_
    exact pg_zret hC hr hlk hP hS (by decide) hf dX4_hasPair_31
  · replace hf := ite_f c1 hf
    refine lv_iload_n hx hb dX4_hasPair_4 rfl (lv_at hl 1 rfl) ?_
    refine lv_bipush (v := 10) hx hb dX4_hasPair_5 (by decide) ?_
    refine lv_idiv hx hb dX4_hasPair_7 (by decide) ?_
    refine lv_iload_n hx hb dX4_hasPair_8 rfl (lv_at hl 1 rfl) ?_
    refine lv_bipush (v := 10) hx hb dX4_hasPair_9 (by decide) ?_
    refine lv_irem hx hb dX4_hasPair_11 (by decide) ?_
    refine lv_icmp_ge (tgt := 30) hx hb dX4_hasPair_12 (by decide) (fun c2 => ?_) (fun c2 => ?_)
    · replace hf := ite_t c2 hf
      refine lv_iconst (v := 0) hx hb dX4_hasPair_30 (by decide) ?_
      exact pg_zret hC hr hlk hP hS (by decide) hf dX4_hasPair_31
    · replace hf := ite_f c2 hf
      refine lv_iload_n hx hb dX4_hasPair_15 rfl (lv_at hl 1 rfl) ?_
      refine lv_bipush (v := 10) hx hb dX4_hasPair_16 (by decide) ?_
      refine lv_irem hx hb dX4_hasPair_18 (by decide) ?_
      refine lv_aload_n hx hb dX4_hasPair_19 rfl (lv_at hl 0 rfl) ?_
      refine gf_X4_43 hC hP h_a0 (v := .int (gI S 400 a0)) rfl dX4_hasPair_20 ?_
      refine lv_icmp_ge (tgt := 30) hx hb dX4_hasPair_23 (by decide) (fun c3 => ?_) (fun c3 => ?_)
      · replace hf := ite_t c3 hf
        refine lv_iconst (v := 0) hx hb dX4_hasPair_30 (by decide) ?_
        exact pg_zret hC hr hlk hP hS (by decide) hf dX4_hasPair_31
      · replace hf := ite_f c3 hf
        refine lv_iconst (v := 1) hx hb dX4_hasPair_26 (by decide) ?_
        refine lv_goto (tgt := 31) hx hb dX4_hasPair_27 (by decide) ?_
        exact pg_zret hC hr hlk hP hS (by decide) hf dX4_hasPair_31
def P_X4_furlongs_L9 (N : Nat) : Nat → PSt → Nat → Int32 → Int32 → Int32 → Option (Int32 × PSt)
  | 0 => fun _ _ _ _ _ => none
  | n + 1 => fun S a0 x2 x3 x4 => if x2 ≤ x4 then (some (x3, S)) else (if (gI S 401 a0) ≤ x4 then (some (x3, S)) else (gd (bin x4 (ln (a0 + 3))) <| bnd (x3 + (gA S (a0 + 3) x4.toNatClampNeg)) fun v4 => bnd (x4 + (1 : Int32)) fun v5 => P_X4_furlongs_L9 N n S a0 x2 v4 v5))
set_option maxHeartbeats 4000000 in
set_option maxRecDepth 100000 in
theorem w_X4_furlongs_L9 {N : Nat} {S' : PSt} {r : Int32} (hX : Mx p s m args c meth cX4_furlongs RX4 5 (some .int) D cy ad tb) : ∀ (n : Nat), ∀ (S : PSt) (a0 : Nat) (x2 : Int32) (x3 : Int32) (x4 : Int32) (H : Heap) (locs : List Loc) (ls : Array Slot), P_X4_furlongs_L9 N n S a0 x2 x3 x4 = some (r, S') → kd a0 = 4 → va_P D vwCl (pW cy ad S) H → va_S (pA ad s.heap.size) s.heap H locs → lv_has ls 5 [(0, .ref (ad a0)), (2, .int x2), (3, .int x3), (4, .int x4)] → W p l e (rmd 1) s m args below meth c H locs 0 0 (Qz D cy ad below args s S' (some (.int r))) (F0 m 9 ls []) := by
  have hX0 := hX
  obtain ⟨hC, hml, hr, hlk⟩ := hX0
  have hx := hC.1
  have hb := hC.2.1
  intro n
  induction n with
  | zero => intro S a0 x2 x3 x4 H locs ls hf; exact absurd hf (by intro h; cases h)
  | succ n ih =>
    intro S a0 x2 x3 x4 H locs ls hf h_a0 hP hS hl
    rw [P_X4_furlongs_L9] at hf
    refine lv_iload hx hb dX4_furlongs_9 (lv_at hl 3 rfl) ?_
    refine lv_iload_n hx hb dX4_furlongs_11 rfl (lv_at hl 1 rfl) ?_
    refine lv_icmp_ge (tgt := 40) hx hb dX4_furlongs_12 (by decide) (fun c1 => ?_) (fun c1 => ?_)
    · replace hf := ite_t c1 hf
      refine lv_iload_n hx hb dX4_furlongs_40 rfl (lv_at hl 2 rfl) ?_
      exact pg_iret hC hr hlk hP hS hf dX4_furlongs_41
    · replace hf := ite_f c1 hf
      refine lv_iload hx hb dX4_furlongs_15 (lv_at hl 3 rfl) ?_
      refine lv_aload_n hx hb dX4_furlongs_17 rfl (lv_at hl 0 rfl) ?_
      refine gf_X4_46 hC hP h_a0 (v := .int (gI S 401 a0)) rfl dX4_furlongs_18 ?_
      refine lv_icmp_ge (tgt := 40) hx hb dX4_furlongs_21 (by decide) (fun c2 => ?_) (fun c2 => ?_)
      · replace hf := ite_t c2 hf
        refine lv_iload_n hx hb dX4_furlongs_40 rfl (lv_at hl 2 rfl) ?_
        exact pg_iret hC hr hlk hP hS hf dX4_furlongs_41
      · replace hf := ite_f c2 hf
        refine lv_iload_n hx hb dX4_furlongs_24 rfl (lv_at hl 2 rfl) ?_
        refine lv_aload_n hx hb dX4_furlongs_25 rfl (lv_at hl 0 rfl) ?_
        refine gf_X4_22 hC hP h_a0 (v := .ref (ad (a0 + 3))) rfl dX4_furlongs_26 ?_
        refine lv_iload hx hb dX4_furlongs_29 (lv_at hl 3 rfl) ?_
        obtain ⟨h3, hf⟩ := gd_some hf
        refine pg_iald hC hP (ko_4_3 h_a0) (bin_in h3) dX4_furlongs_31 ?_
        refine lv_iadd hx hb dX4_furlongs_32 ?_
        obtain ⟨v4, ev4, hf⟩ := bnd_some hf
        refine pg_top ev4 ?_
        refine lv_istore_n (lv' := [(3, .int v4), (0, .ref (ad a0)), (2, .int x2), (4, .int x4)]) hx hb dX4_furlongs_33 rfl hl (by decide) rfl (fun ls hl => ?_)
        obtain ⟨v5, ev5, hf⟩ := bnd_some hf
        refine lv_iinc (v := v5) (lv' := [(4, .int v5), (3, .int v4), (0, .ref (ad a0)), (2, .int x2)]) hx hb dX4_furlongs_34 hl (k := 3) rfl (by rw [ev5]; rfl) (by decide) rfl (fun ls hl => ?_)
        refine lv_goto (tgt := 9) hx hb dX4_furlongs_37 (by decide) ?_
        exact ih _ _ _ _ _ _ _ _ hf h_a0 hP hS (lv_sub hl [2, 3, 1, 0] rfl)
def P_X4_furlongs (N : Nat) (S : PSt) (a0 : Nat) (x1 : Int32) (x2 : Int32) : Option (Int32 × PSt) := bnd (if x1 < (0 : Int32) then (0 : Int32) else x1) fun v6 => P_X4_furlongs_L9 N N S a0 x2 (0 : Int32) v6
set_option maxHeartbeats 4000000 in
set_option maxRecDepth 100000 in
theorem c_X4_furlongs (l : Launch) {D : va_G} {cy : Nat → ClassId} {ad tb : Nat → Nat} (hJ : pJ ad) {N : Nat} {S S' : PSt} {a0 : Nat} {x1 : Int32} {x2 : Int32} {r : Int32} (hf : P_X4_furlongs N S a0 x1 x2 = some (r, S')) (h_a0 : kd a0 = 4) : Ct l 1 yX4_furlongs cX4_furlongs 5 (some .int) D cy ad tb S S' [.ref (ad a0), .int x1, .int x2] (some (.int r)) := by
  refine Ct_of hJ (by decide) (Nat.le_of_ble_eq_true rfl) (fun p e s m below meth c ls hX hP hS hl => ?_)
  have hl : lv_has ls 5 [(0, .ref (ad a0)), (1, .int x1), (2, .int x2)] := hl
  have hX0 := hX
  obtain ⟨hC, hml, hr, hlk⟩ := hX0
  have hx := hC.1
  have hb := hC.2.1
  unfold P_X4_furlongs at hf
  refine lv_iconst (v := 0) hx hb dX4_furlongs_0 (by decide) ?_
  refine lv_istore_n (lv' := [(3, .int (0 : Int32)), (0, .ref (ad a0)), (1, .int x1), (2, .int x2)]) hx hb dX4_furlongs_1 rfl hl (by decide) rfl (fun ls hl => ?_)
  refine lv_iload_n hx hb dX4_furlongs_2 rfl (lv_at hl 2 rfl) ?_
  refine lv_iconst (v := 0) hx hb dX4_furlongs_3 (by decide) ?_
  refine pg_max hC (hml.trans hl.1.symm) ⟨by decide, by decide, rfl, rfl⟩ ⟨rfl, rfl⟩ kl_X4_68 (Nat.le_of_ble_eq_true rfl) dX4_furlongs_4 ?_
  obtain ⟨v6, ev6, hf⟩ := bnd_some hf
  refine pg_top ev6 ?_
  refine lv_istore (lv' := [(4, .int v6), (3, .int (0 : Int32)), (0, .ref (ad a0)), (1, .int x1), (2, .int x2)]) hx hb dX4_furlongs_7 hl (by decide) rfl (fun ls hl => ?_)
  exact w_X4_furlongs_L9 hX _ _ _ _ _ _ _ _ _ hf h_a0 hP hS (lv_sub hl [2, 4, 1, 0] rfl)
def P_X4_furlongsOf_L4 (N : Nat) : Nat → PSt → Nat → Int32 → Int32 → Int32 → Option (Int32 × PSt)
  | 0 => fun _ _ _ _ _ => none
  | n + 1 => fun S a0 x1 x2 x3 => if (gI S 401 a0) ≤ x3 then (some (x2, S)) else (if ((x1 >>> (x3 &&& 31)) &&& (1 : Int32)) = (1 : Int32) then (gd (bin x3 (ln (a0 + 3))) <| bnd (x2 + (gA S (a0 + 3) x3.toNatClampNeg)) fun v5 => bnd (x3 + (1 : Int32)) fun v6 => P_X4_furlongsOf_L4 N n S a0 x1 v5 v6) else (bnd (x3 + (1 : Int32)) fun v3 => P_X4_furlongsOf_L4 N n S a0 x1 x2 v3))
set_option maxHeartbeats 4000000 in
set_option maxRecDepth 100000 in
theorem w_X4_furlongsOf_L4 {N : Nat} {S' : PSt} {r : Int32} (hX : Mx p s m args c meth cX4_furlongsOf RX4 4 (some .int) D cy ad tb) : ∀ (n : Nat), ∀ (S : PSt) (a0 : Nat) (x1 : Int32) (x2 : Int32) (x3 : Int32) (H : Heap) (locs : List Loc) (ls : Array Slot), P_X4_furlongsOf_L4 N n S a0 x1 x2 x3 = some (r, S') → kd a0 = 4 → va_P D vwCl (pW cy ad S) H → va_S (pA ad s.heap.size) s.heap H locs → lv_has ls 4 [(0, .ref (ad a0)), (1, .int x1), (2, .int x2), (3, .int x3)] → W p l e (rmd 1) s m args below meth c H locs 0 0 (Qz D cy ad below args s S' (some (.int r))) (F0 m 4 ls []) := by
  have hX0 := hX
  obtain ⟨hC, hml, hr, hlk⟩ := hX0
  have hx := hC.1
  have hb := hC.2.1
  intro n
  induction n with
  | zero => intro S a0 x1 x2 x3 H locs ls hf; exact absurd hf (by intro h; cases h)
  | succ n ih =>
    intro S a0 x1 x2 x3 H locs ls hf h_a0 hP hS hl
    rw [P_X4_furlongsOf_L4] at hf
    refine lv_iload_n hx hb dX4_furlongsOf_4 rfl (lv_at hl 3 rfl) ?_
    refine lv_aload_n hx hb dX4_furlongsOf_5 rfl (lv_at hl 0 rfl) ?_
    refine gf_X4_46 hC hP h_a0 (v := .int (gI S 401 a0)) rfl dX4_furlongsOf_6 ?_
    refine lv_icmp_ge (tgt := 36) hx hb dX4_furlongsOf_9 (by decide) (fun c1 => ?_) (fun c1 => ?_)
    · replace hf := ite_t c1 hf
      refine lv_iload_n hx hb dX4_furlongsOf_36 rfl (lv_at hl 2 rfl) ?_
      exact pg_iret hC hr hlk hP hS hf dX4_furlongsOf_37
    · replace hf := ite_f c1 hf
      refine lv_iload_n hx hb dX4_furlongsOf_12 rfl (lv_at hl 1 rfl) ?_
      refine lv_iload_n hx hb dX4_furlongsOf_13 rfl (lv_at hl 3 rfl) ?_
      refine lv_ishr hx hb dX4_furlongsOf_14 ?_
      refine lv_iconst (v := 1) hx hb dX4_furlongsOf_15 (by decide) ?_
      refine lv_iand hx hb dX4_furlongsOf_16 ?_
      refine lv_iconst (v := 1) hx hb dX4_furlongsOf_17 (by decide) ?_
      refine lv_icmp_ne (tgt := 30) hx hb dX4_furlongsOf_18 (by decide) (fun c2 => ?_) (fun c2 => ?_)
      · replace hf := ite_f c2 hf
        obtain ⟨v3, ev3, hf⟩ := bnd_some hf
        refine lv_iinc (v := v3) (lv' := [(3, .int v3), (0, .ref (ad a0)), (1, .int x1), (2, .int x2)]) hx hb dX4_furlongsOf_30 hl (k := 3) rfl (by rw [ev3]; rfl) (by decide) rfl (fun ls hl => ?_)
        refine lv_goto (tgt := 4) hx hb dX4_furlongsOf_33 (by decide) ?_
        exact ih _ _ _ _ _ _ _ _ hf h_a0 hP hS (lv_sub hl [1, 2, 3, 0] rfl)
      · replace hf := ite_t c2 hf
        refine lv_iload_n hx hb dX4_furlongsOf_21 rfl (lv_at hl 2 rfl) ?_
        refine lv_aload_n hx hb dX4_furlongsOf_22 rfl (lv_at hl 0 rfl) ?_
        refine gf_X4_22 hC hP h_a0 (v := .ref (ad (a0 + 3))) rfl dX4_furlongsOf_23 ?_
        refine lv_iload_n hx hb dX4_furlongsOf_26 rfl (lv_at hl 3 rfl) ?_
        obtain ⟨h4, hf⟩ := gd_some hf
        refine pg_iald hC hP (ko_4_3 h_a0) (bin_in h4) dX4_furlongsOf_27 ?_
        refine lv_iadd hx hb dX4_furlongsOf_28 ?_
        obtain ⟨v5, ev5, hf⟩ := bnd_some hf
        refine pg_top ev5 ?_
        refine lv_istore_n (lv' := [(2, .int v5), (0, .ref (ad a0)), (1, .int x1), (3, .int x3)]) hx hb dX4_furlongsOf_29 rfl hl (by decide) rfl (fun ls hl => ?_)
        obtain ⟨v6, ev6, hf⟩ := bnd_some hf
        refine lv_iinc (v := v6) (lv' := [(3, .int v6), (2, .int v5), (0, .ref (ad a0)), (1, .int x1)]) hx hb dX4_furlongsOf_30 hl (k := 3) rfl (by rw [ev6]; rfl) (by decide) rfl (fun ls hl => ?_)
        refine lv_goto (tgt := 4) hx hb dX4_furlongsOf_33 (by decide) ?_
        exact ih _ _ _ _ _ _ _ _ hf h_a0 hP hS (lv_sub hl [2, 3, 1, 0] rfl)
def P_X4_furlongsOf (N : Nat) (S : PSt) (a0 : Nat) (x1 : Int32) : Option (Int32 × PSt) := P_X4_furlongsOf_L4 N N S a0 x1 (0 : Int32) (0 : Int32)
set_option maxHeartbeats 4000000 in
set_option maxRecDepth 100000 in
theorem c_X4_furlongsOf (l : Launch) {D : va_G} {cy : Nat → ClassId} {ad tb : Nat → Nat} (hJ : pJ ad) {N : Nat} {S S' : PSt} {a0 : Nat} {x1 : Int32} {r : Int32} (hf : P_X4_furlongsOf N S a0 x1 = some (r, S')) (h_a0 : kd a0 = 4) : Ct l 1 yX4_furlongsOf cX4_furlongsOf 4 (some .int) D cy ad tb S S' [.ref (ad a0), .int x1] (some (.int r)) := by
  refine Ct_of hJ (by decide) (Nat.le_of_ble_eq_true rfl) (fun p e s m below meth c ls hX hP hS hl => ?_)
  have hl : lv_has ls 4 [(0, .ref (ad a0)), (1, .int x1)] := hl
  have hX0 := hX
  obtain ⟨hC, hml, hr, hlk⟩ := hX0
  have hx := hC.1
  have hb := hC.2.1
  unfold P_X4_furlongsOf at hf
  refine lv_iconst (v := 0) hx hb dX4_furlongsOf_0 (by decide) ?_
  refine lv_istore_n (lv' := [(2, .int (0 : Int32)), (0, .ref (ad a0)), (1, .int x1)]) hx hb dX4_furlongsOf_1 rfl hl (by decide) rfl (fun ls hl => ?_)
  refine lv_iconst (v := 0) hx hb dX4_furlongsOf_2 (by decide) ?_
  refine lv_istore_n (lv' := [(3, .int (0 : Int32)), (2, .int (0 : Int32)), (0, .ref (ad a0)), (1, .int x1)]) hx hb dX4_furlongsOf_3 rfl hl (by decide) rfl (fun ls hl => ?_)
  exact w_X4_furlongsOf_L4 hX _ _ _ _ _ _ _ _ _ hf h_a0 hP hS (lv_sub hl [2, 3, 1, 0] rfl)
def P_X4_slimyFrom_L8 (N : Nat) : Nat → PSt → Nat → Int32 → Int32 → Option (Int32 × PSt)
  | 0 => fun _ _ _ _ => none
  | n + 1 => fun S a0 x2 x3 => if (gI S 401 a0) ≤ x3 then (some (x2, S)) else (gd (bin x3 (ln (a0 + 5))) <| bnd (x2 + (gA S (a0 + 5) x3.toNatClampNeg)) fun v3 => bnd (x3 + (1 : Int32)) fun v4 => P_X4_slimyFrom_L8 N n S a0 v3 v4)
set_option maxHeartbeats 4000000 in
set_option maxRecDepth 100000 in
theorem w_X4_slimyFrom_L8 {N : Nat} {S' : PSt} {r : Int32} (hX : Mx p s m args c meth cX4_slimyFrom RX4 4 (some .int) D cy ad tb) : ∀ (n : Nat), ∀ (S : PSt) (a0 : Nat) (x2 : Int32) (x3 : Int32) (H : Heap) (locs : List Loc) (ls : Array Slot), P_X4_slimyFrom_L8 N n S a0 x2 x3 = some (r, S') → kd a0 = 4 → va_P D vwCl (pW cy ad S) H → va_S (pA ad s.heap.size) s.heap H locs → lv_has ls 4 [(0, .ref (ad a0)), (2, .int x2), (3, .int x3)] → W p l e (rmd 1) s m args below meth c H locs 0 0 (Qz D cy ad below args s S' (some (.int r))) (F0 m 8 ls []) := by
  have hX0 := hX
  obtain ⟨hC, hml, hr, hlk⟩ := hX0
  have hx := hC.1
  have hb := hC.2.1
  intro n
  induction n with
  | zero => intro S a0 x2 x3 H locs ls hf; exact absurd hf (by intro h; cases h)
  | succ n ih =>
    intro S a0 x2 x3 H locs ls hf h_a0 hP hS hl
    rw [P_X4_slimyFrom_L8] at hf
    refine lv_iload_n hx hb dX4_slimyFrom_8 rfl (lv_at hl 2 rfl) ?_
    refine lv_aload_n hx hb dX4_slimyFrom_9 rfl (lv_at hl 0 rfl) ?_
    refine gf_X4_46 hC hP h_a0 (v := .int (gI S 401 a0)) rfl dX4_slimyFrom_10 ?_
    refine lv_icmp_ge (tgt := 31) hx hb dX4_slimyFrom_13 (by decide) (fun c1 => ?_) (fun c1 => ?_)
    · replace hf := ite_t c1 hf
      refine lv_iload_n hx hb dX4_slimyFrom_31 rfl (lv_at hl 1 rfl) ?_
      exact pg_iret hC hr hlk hP hS hf dX4_slimyFrom_32
    · replace hf := ite_f c1 hf
      refine lv_iload_n hx hb dX4_slimyFrom_16 rfl (lv_at hl 1 rfl) ?_
      refine lv_aload_n hx hb dX4_slimyFrom_17 rfl (lv_at hl 0 rfl) ?_
      refine gf_X4_28 hC hP h_a0 (v := .ref (ad (a0 + 5))) rfl dX4_slimyFrom_18 ?_
      refine lv_iload_n hx hb dX4_slimyFrom_21 rfl (lv_at hl 2 rfl) ?_
      obtain ⟨h2, hf⟩ := gd_some hf
      refine pg_iald hC hP (ko_4_5 h_a0) (bin_in h2) dX4_slimyFrom_22 ?_
      refine lv_iadd hx hb dX4_slimyFrom_23 ?_
      obtain ⟨v3, ev3, hf⟩ := bnd_some hf
      refine pg_top ev3 ?_
      refine lv_istore_n (lv' := [(2, .int v3), (0, .ref (ad a0)), (3, .int x3)]) hx hb dX4_slimyFrom_24 rfl hl (by decide) rfl (fun ls hl => ?_)
      obtain ⟨v4, ev4, hf⟩ := bnd_some hf
      refine lv_iinc (v := v4) (lv' := [(3, .int v4), (2, .int v3), (0, .ref (ad a0))]) hx hb dX4_slimyFrom_25 hl (k := 2) rfl (by rw [ev4]; rfl) (by decide) rfl (fun ls hl => ?_)
      refine lv_goto (tgt := 8) hx hb dX4_slimyFrom_28 (by decide) ?_
      exact ih _ _ _ _ _ _ _ hf h_a0 hP hS (lv_sub hl [2, 1, 0] rfl)
def P_X4_slimyFrom (N : Nat) (S : PSt) (a0 : Nat) (x1 : Int32) : Option (Int32 × PSt) := bnd (if x1 < (0 : Int32) then (0 : Int32) else x1) fun v5 => P_X4_slimyFrom_L8 N N S a0 (0 : Int32) v5
set_option maxHeartbeats 4000000 in
set_option maxRecDepth 100000 in
theorem c_X4_slimyFrom (l : Launch) {D : va_G} {cy : Nat → ClassId} {ad tb : Nat → Nat} (hJ : pJ ad) {N : Nat} {S S' : PSt} {a0 : Nat} {x1 : Int32} {r : Int32} (hf : P_X4_slimyFrom N S a0 x1 = some (r, S')) (h_a0 : kd a0 = 4) : Ct l 1 yX4_slimyFrom cX4_slimyFrom 4 (some .int) D cy ad tb S S' [.ref (ad a0), .int x1] (some (.int r)) := by
  refine Ct_of hJ (by decide) (Nat.le_of_ble_eq_true rfl) (fun p e s m below meth c ls hX hP hS hl => ?_)
  have hl : lv_has ls 4 [(0, .ref (ad a0)), (1, .int x1)] := hl
  have hX0 := hX
  obtain ⟨hC, hml, hr, hlk⟩ := hX0
  have hx := hC.1
  have hb := hC.2.1
  unfold P_X4_slimyFrom at hf
  refine lv_iconst (v := 0) hx hb dX4_slimyFrom_0 (by decide) ?_
  refine lv_istore_n (lv' := [(2, .int (0 : Int32)), (0, .ref (ad a0)), (1, .int x1)]) hx hb dX4_slimyFrom_1 rfl hl (by decide) rfl (fun ls hl => ?_)
  refine lv_iload_n hx hb dX4_slimyFrom_2 rfl (lv_at hl 2 rfl) ?_
  refine lv_iconst (v := 0) hx hb dX4_slimyFrom_3 (by decide) ?_
  refine pg_max hC (hml.trans hl.1.symm) ⟨by decide, by decide, rfl, rfl⟩ ⟨rfl, rfl⟩ kl_X4_68 (Nat.le_of_ble_eq_true rfl) dX4_slimyFrom_4 ?_
  obtain ⟨v5, ev5, hf⟩ := bnd_some hf
  refine pg_top ev5 ?_
  refine lv_istore_n (lv' := [(3, .int v5), (2, .int (0 : Int32)), (0, .ref (ad a0)), (1, .int x1)]) hx hb dX4_slimyFrom_7 rfl hl (by decide) rfl (fun ls hl => ?_)
  exact w_X4_slimyFrom_L8 hX _ _ _ _ _ _ _ _ hf h_a0 hP hS (lv_sub hl [2, 1, 0] rfl)
def P_X4_shafts_L4 (N : Nat) : Nat → PSt → Nat → Int32 → Int32 → Option (Int32 × PSt)
  | 0 => fun _ _ _ _ => none
  | n + 1 => fun S a0 x1 x2 => if (gI S 401 a0) ≤ x2 then (some (x1, S)) else (gd (bin x2 (ln (a0 + 6))) <| bnd (x1 + (gA S (a0 + 6) x2.toNatClampNeg)) fun v3 => bnd (x2 + (1 : Int32)) fun v4 => P_X4_shafts_L4 N n S a0 v3 v4)
set_option maxHeartbeats 4000000 in
set_option maxRecDepth 100000 in
theorem w_X4_shafts_L4 {N : Nat} {S' : PSt} {r : Int32} (hX : Mx p s m args c meth cX4_shafts RX4 3 (some .int) D cy ad tb) : ∀ (n : Nat), ∀ (S : PSt) (a0 : Nat) (x1 : Int32) (x2 : Int32) (H : Heap) (locs : List Loc) (ls : Array Slot), P_X4_shafts_L4 N n S a0 x1 x2 = some (r, S') → kd a0 = 4 → va_P D vwCl (pW cy ad S) H → va_S (pA ad s.heap.size) s.heap H locs → lv_has ls 3 [(0, .ref (ad a0)), (1, .int x1), (2, .int x2)] → W p l e (rmd 1) s m args below meth c H locs 0 0 (Qz D cy ad below args s S' (some (.int r))) (F0 m 4 ls []) := by
  have hX0 := hX
  obtain ⟨hC, hml, hr, hlk⟩ := hX0
  have hx := hC.1
  have hb := hC.2.1
  intro n
  induction n with
  | zero => intro S a0 x1 x2 H locs ls hf; exact absurd hf (by intro h; cases h)
  | succ n ih =>
    intro S a0 x1 x2 H locs ls hf h_a0 hP hS hl
    rw [P_X4_shafts_L4] at hf
    refine lv_iload_n hx hb dX4_shafts_4 rfl (lv_at hl 2 rfl) ?_
    refine lv_aload_n hx hb dX4_shafts_5 rfl (lv_at hl 0 rfl) ?_
    refine gf_X4_46 hC hP h_a0 (v := .int (gI S 401 a0)) rfl dX4_shafts_6 ?_
    refine lv_icmp_ge (tgt := 27) hx hb dX4_shafts_9 (by decide) (fun c1 => ?_) (fun c1 => ?_)
    · replace hf := ite_t c1 hf
      refine lv_iload_n hx hb dX4_shafts_27 rfl (lv_at hl 1 rfl) ?_
      exact pg_iret hC hr hlk hP hS hf dX4_shafts_28
    · replace hf := ite_f c1 hf
      refine lv_iload_n hx hb dX4_shafts_12 rfl (lv_at hl 1 rfl) ?_
      refine lv_aload_n hx hb dX4_shafts_13 rfl (lv_at hl 0 rfl) ?_
      refine gf_X4_31 hC hP h_a0 (v := .ref (ad (a0 + 6))) rfl dX4_shafts_14 ?_
      refine lv_iload_n hx hb dX4_shafts_17 rfl (lv_at hl 2 rfl) ?_
      obtain ⟨h2, hf⟩ := gd_some hf
      refine pg_iald hC hP (ko_4_6 h_a0) (bin_in h2) dX4_shafts_18 ?_
      refine lv_iadd hx hb dX4_shafts_19 ?_
      obtain ⟨v3, ev3, hf⟩ := bnd_some hf
      refine pg_top ev3 ?_
      refine lv_istore_n (lv' := [(1, .int v3), (0, .ref (ad a0)), (2, .int x2)]) hx hb dX4_shafts_20 rfl hl (by decide) rfl (fun ls hl => ?_)
      obtain ⟨v4, ev4, hf⟩ := bnd_some hf
      refine lv_iinc (v := v4) (lv' := [(2, .int v4), (1, .int v3), (0, .ref (ad a0))]) hx hb dX4_shafts_21 hl (k := 2) rfl (by rw [ev4]; rfl) (by decide) rfl (fun ls hl => ?_)
      refine lv_goto (tgt := 4) hx hb dX4_shafts_24 (by decide) ?_
      exact ih _ _ _ _ _ _ _ hf h_a0 hP hS (lv_sub hl [2, 1, 0] rfl)
def P_X4_shafts (N : Nat) (S : PSt) (a0 : Nat) : Option (Int32 × PSt) := P_X4_shafts_L4 N N S a0 (0 : Int32) (0 : Int32)
set_option maxHeartbeats 4000000 in
set_option maxRecDepth 100000 in
theorem c_X4_shafts (l : Launch) {D : va_G} {cy : Nat → ClassId} {ad tb : Nat → Nat} (hJ : pJ ad) {N : Nat} {S S' : PSt} {a0 : Nat} {r : Int32} (hf : P_X4_shafts N S a0 = some (r, S')) (h_a0 : kd a0 = 4) : Ct l 1 yX4_shafts cX4_shafts 3 (some .int) D cy ad tb S S' [.ref (ad a0)] (some (.int r)) := by
  refine Ct_of hJ (by decide) (Nat.le_of_ble_eq_true rfl) (fun p e s m below meth c ls hX hP hS hl => ?_)
  have hl : lv_has ls 3 [(0, .ref (ad a0))] := hl
  have hX0 := hX
  obtain ⟨hC, hml, hr, hlk⟩ := hX0
  have hx := hC.1
  have hb := hC.2.1
  unfold P_X4_shafts at hf
  refine lv_iconst (v := 0) hx hb dX4_shafts_0 (by decide) ?_
  refine lv_istore_n (lv' := [(1, .int (0 : Int32)), (0, .ref (ad a0))]) hx hb dX4_shafts_1 rfl hl (by decide) rfl (fun ls hl => ?_)
  refine lv_iconst (v := 0) hx hb dX4_shafts_2 (by decide) ?_
  refine lv_istore_n (lv' := [(2, .int (0 : Int32)), (1, .int (0 : Int32)), (0, .ref (ad a0))]) hx hb dX4_shafts_3 rfl hl (by decide) rfl (fun ls hl => ?_)
  exact w_X4_shafts_L4 hX _ _ _ _ _ _ _ _ hf h_a0 hP hS (lv_sub hl [2, 1, 0] rfl)
def P_X4_isFree (N : Nat) (S : PSt) (a0 : Nat) (x1 : Int32) : Option (Int32 × PSt) := if (gI S 403 a0) = (0 : Int32) then (some ((1 : Int32), S)) else (gd (nz (gI S 403 a0)) <| if ((x1 / (gI S 403 a0)) - (x1 / (gI S 403 a0)) / (2 : Int32) * (2 : Int32)) = (0 : Int32) then (some ((1 : Int32), S)) else (some ((0 : Int32), S)))
set_option maxHeartbeats 4000000 in
set_option maxRecDepth 100000 in
theorem c_X4_isFree (l : Launch) {D : va_G} {cy : Nat → ClassId} {ad tb : Nat → Nat} (hJ : pJ ad) {N : Nat} {S S' : PSt} {a0 : Nat} {x1 : Int32} {r : Int32} (hf : P_X4_isFree N S a0 x1 = some (r, S')) (h_a0 : kd a0 = 4) : Ct l 1 yX4_isFree cX4_isFree 2 (some .boolean) D cy ad tb S S' [.ref (ad a0), .int x1] (some (.int r)) := by
  refine Ct_of hJ (by decide) (Nat.le_of_ble_eq_true rfl) (fun p e s m below meth c ls hX hP hS hl => ?_)
  have hl : lv_has ls 2 [(0, .ref (ad a0)), (1, .int x1)] := hl
  have hX0 := hX
  obtain ⟨hC, hml, hr, hlk⟩ := hX0
  have hx := hC.1
  have hb := hC.2.1
  unfold P_X4_isFree at hf
  refine lv_aload_n hx hb dX4_isFree_0 rfl (lv_at hl 0 rfl) ?_
  refine gf_X4_49 hC hP h_a0 (v := .int (gI S 403 a0)) rfl dX4_isFree_1 ?_
  refine lv_if_eq (tgt := 18) hx hb dX4_isFree_4 (by decide) (fun c1 => ?_) (fun c1 => ?_)
  · replace hf := ite_t c1 hf
    refine lv_iconst (v := 1) hx hb dX4_isFree_18 (by decide) ?_
    refine lv_goto (tgt := 23) hx hb dX4_isFree_19 (by decide) ?_
    exact pg_zret hC hr hlk hP hS (by decide) hf dX4_isFree_23
  · replace hf := ite_f c1 hf
    refine lv_iload_n hx hb dX4_isFree_7 rfl (lv_at hl 1 rfl) ?_
    refine lv_aload_n hx hb dX4_isFree_8 rfl (lv_at hl 0 rfl) ?_
    refine gf_X4_49 hC hP h_a0 (v := .int (gI S 403 a0)) rfl dX4_isFree_9 ?_
    obtain ⟨h2, hf⟩ := gd_some hf
    refine lv_idiv hx hb dX4_isFree_12 (nz_ne h2) ?_
    refine lv_iconst (v := 2) hx hb dX4_isFree_13 (by decide) ?_
    refine lv_irem hx hb dX4_isFree_14 (by decide) ?_
    refine lv_if_ne (tgt := 22) hx hb dX4_isFree_15 (by decide) (fun c3 => ?_) (fun c3 => ?_)
    · replace hf := ite_f c3 hf
      refine lv_iconst (v := 0) hx hb dX4_isFree_22 (by decide) ?_
      exact pg_zret hC hr hlk hP hS (by decide) hf dX4_isFree_23
    · replace hf := ite_t c3 hf
      refine lv_iconst (v := 1) hx hb dX4_isFree_18 (by decide) ?_
      refine lv_goto (tgt := 23) hx hb dX4_isFree_19 (by decide) ?_
      exact pg_zret hC hr hlk hP hS (by decide) hf dX4_isFree_23
def P_X4_freeMinutesLeft (N : Nat) (S : PSt) (a0 : Nat) (x1 : Int32) : Option (Int32 × PSt) := if (gI S 403 a0) = (0 : Int32) then (some ((9999 : Int32), S)) else (gd (nz (gI S 403 a0)) <| some (((gI S 403 a0) - (x1 - x1 / (gI S 403 a0) * (gI S 403 a0))), S))
set_option maxHeartbeats 4000000 in
set_option maxRecDepth 100000 in
theorem c_X4_freeMinutesLeft (l : Launch) {D : va_G} {cy : Nat → ClassId} {ad tb : Nat → Nat} (hJ : pJ ad) {N : Nat} {S S' : PSt} {a0 : Nat} {x1 : Int32} {r : Int32} (hf : P_X4_freeMinutesLeft N S a0 x1 = some (r, S')) (h_a0 : kd a0 = 4) : Ct l 1 yX4_freeMinutesLeft cX4_freeMinutesLeft 2 (some .int) D cy ad tb S S' [.ref (ad a0), .int x1] (some (.int r)) := by
  refine Ct_of hJ (by decide) (Nat.le_of_ble_eq_true rfl) (fun p e s m below meth c ls hX hP hS hl => ?_)
  have hl : lv_has ls 2 [(0, .ref (ad a0)), (1, .int x1)] := hl
  have hX0 := hX
  obtain ⟨hC, hml, hr, hlk⟩ := hX0
  have hx := hC.1
  have hb := hC.2.1
  unfold P_X4_freeMinutesLeft at hf
  refine lv_aload_n hx hb dX4_freeMinutesLeft_0 rfl (lv_at hl 0 rfl) ?_
  refine gf_X4_49 hC hP h_a0 (v := .int (gI S 403 a0)) rfl dX4_freeMinutesLeft_1 ?_
  refine lv_if_ne (tgt := 13) hx hb dX4_freeMinutesLeft_4 (by decide) (fun c1 => ?_) (fun c1 => ?_)
  · replace hf := ite_f c1 hf
    refine lv_aload_n hx hb dX4_freeMinutesLeft_13 rfl (lv_at hl 0 rfl) ?_
    refine gf_X4_49 hC hP h_a0 (v := .int (gI S 403 a0)) rfl dX4_freeMinutesLeft_14 ?_
    refine lv_iload_n hx hb dX4_freeMinutesLeft_17 rfl (lv_at hl 1 rfl) ?_
    refine lv_aload_n hx hb dX4_freeMinutesLeft_18 rfl (lv_at hl 0 rfl) ?_
    refine gf_X4_49 hC hP h_a0 (v := .int (gI S 403 a0)) rfl dX4_freeMinutesLeft_19 ?_
    obtain ⟨h2, hf⟩ := gd_some hf
    refine lv_irem hx hb dX4_freeMinutesLeft_22 (nz_ne h2) ?_
    refine lv_isub hx hb dX4_freeMinutesLeft_23 ?_
    exact pg_iret hC hr hlk hP hS hf dX4_freeMinutesLeft_24
  · replace hf := ite_t c1 hf
    refine lv_sipush (v := 9999) hx hb dX4_freeMinutesLeft_7 (by decide) ?_
    refine lv_goto (tgt := 24) hx hb dX4_freeMinutesLeft_10 (by decide) ?_
    exact pg_iret hC hr hlk hP hS hf dX4_freeMinutesLeft_24
end GEN
