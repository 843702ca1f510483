section GEN
variable {p : Program} {l : Launch} {e : Env} {s : State} {m : MethodId} {args : Array Value} {below : List Frame} {meth : Method} {c : Code} {D : va_G} {cy : Nat → ClassId} {ad tb : Nat → Nat}
def P_X7_begins_L24 (k2 : PSt → Int32 → Option PSt) (N : Nat) (S : PSt) (x1 : Int32) (y1 : Int32) (y2 : Int32) : Option PSt := gd (bin y1 (ln 161)) <| bnd (sA S 161 y1.toNatClampNeg y2) fun S2 => bnd (x1 + (1 : Int32)) fun v3 => k2 S2 v3
set_option maxHeartbeats 4000000 in
set_option maxRecDepth 100000 in
theorem w_X7_begins_L24 {N : Nat} {S' : PSt} (hX : Mx p s m args c meth cX7_begins RX7 2 none D cy ad tb) {k2 : PSt → Int32 → Option PSt} (hk2 : ∀ (S : PSt) (x1 : Int32) (H : Heap) (locs : List Loc) (ls : Array Slot), k2 S x1 = some S' → va_P D vwCl (pW cy ad S) H → va_S (pA ad s.heap.size) s.heap H locs → lv_has ls 2 [(0, .ref (ad 158)), (1, .int x1)] → W p l e (rmd 1) s m args below meth c H locs 0 0 (Qz D cy ad below args s S' none) (F0 m 2 ls [])) : ∀ (S : PSt) (x1 : Int32) (y1 : Int32) (y2 : Int32) (H : Heap) (locs : List Loc) (ls : Array Slot), P_X7_begins_L24 k2 N S x1 y1 y2 = some S' → va_P D vwCl (pW cy ad S) H → va_S (pA ad s.heap.size) s.heap H locs → lv_has ls 2 [(0, .ref (ad 158)), (1, .int x1)] → W p l e (rmd 1) s m args below meth c H locs 0 0 (Qz D cy ad below args s S' none) (F0 m 24 ls [.int y2, .int y1, .ref (ad 161)]) := by
  have hX0 := hX
  obtain ⟨hC, hml, hr, hlk⟩ := hX0
  have hx := hC.1
  have hb := hC.2.1
  intro S x1 y1 y2 H locs ls hf  hP hS hl
  unfold P_X7_begins_L24 at hf
  obtain ⟨h1, hf⟩ := gd_some hf
  obtain ⟨S2, eS2, hf⟩ := bnd_some hf
  refine pg_iast hC hP hS k_161 (bin_in h1) dX7_begins_24 (fun H locs hP hS => ?_)
  rw [← eS2] at hP
  obtain ⟨v3, ev3, hf⟩ := bnd_some hf
  refine lv_iinc (v := v3) (lv' := [(1, .int v3), (0, .ref (ad 158))]) hx hb dX7_begins_25 hl (k := 1) rfl (by rw [ev3]; rfl) (by decide) rfl (fun ls hl => ?_)
  refine lv_goto (tgt := 2) hx hb dX7_begins_28 (by decide) ?_
  exact hk2 _ _ _ _ _ hf  hP hS (lv_sub hl [1, 0] rfl)
def P_X7_begins_L2 (N : Nat) : Nat → PSt → Int32 → Option PSt
  | 0 => fun _ _ => none
  | n + 1 => fun S x1 => if (7 : Int32) ≤ x1 then (some S) else (if x1 = (2 : Int32) then (P_X7_begins_L24 (P_X7_begins_L2 N n) N S x1 x1 (-9 : Int32)) else (P_X7_begins_L24 (P_X7_begins_L2 N n) N S x1 x1 (0 : Int32)))
set_option maxHeartbeats 4000000 in
set_option maxRecDepth 100000 in
theorem w_X7_begins_L2 {N : Nat} {S' : PSt} (hX : Mx p s m args c meth cX7_begins RX7 2 none D cy ad tb) : ∀ (n : Nat), ∀ (S : PSt) (x1 : Int32) (H : Heap) (locs : List Loc) (ls : Array Slot), P_X7_begins_L2 N n S x1 = some S' → va_P D vwCl (pW cy ad S) H → va_S (pA ad s.heap.size) s.heap H locs → lv_has ls 2 [(0, .ref (ad 158)), (1, .int x1)] → W p l e (rmd 1) s m args below meth c H locs 0 0 (Qz D cy ad below args s S' none) (F0 m 2 ls []) := by
  have hX0 := hX
  obtain ⟨hC, hml, hr, hlk⟩ := hX0
  have hx := hC.1
  have hb := hC.2.1
  intro n
  induction n with
  | zero => intro S x1 H locs ls hf; exact absurd hf (by intro h; cases h)
  | succ n ih =>
    intro S x1 H locs ls hf  hP hS hl
    rw [P_X7_begins_L2] at hf
    refine lv_iload_n hx hb dX7_begins_2 rfl (lv_at hl 1 rfl) ?_
    refine lv_bipush (v := 7) hx hb dX7_begins_3 (by decide) ?_
    refine lv_icmp_ge (tgt := 31) hx hb dX7_begins_5 (by decide) (fun c4 => ?_) (fun c4 => ?_)
    · replace hf := ite_t c4 hf
      exact pg_vret hC hr hlk hP hS hf dX7_begins_31
    · replace hf := ite_f c4 hf
      refine lv_aload_n hx hb dX7_begins_8 rfl (lv_at hl 0 rfl) ?_
      refine gf_X7_20 hC hP k_158 (v := .ref (ad 161)) rfl dX7_begins_9 ?_
      refine lv_iload_n hx hb dX7_begins_12 rfl (lv_at hl 1 rfl) ?_
      refine lv_iload_n hx hb dX7_begins_13 rfl (lv_at hl 1 rfl) ?_
      refine lv_iconst (v := 2) hx hb dX7_begins_14 (by decide) ?_
      refine lv_icmp_ne (tgt := 23) hx hb dX7_begins_15 (by decide) (fun c5 => ?_) (fun c5 => ?_)
      · replace hf := ite_f c5 hf
        refine lv_iconst (v := 0) hx hb dX7_begins_23 (by decide) ?_
        exact w_X7_begins_L24 hX ih _ _ _ _ _ _ _ hf  hP hS (lv_sub hl [0, 1] rfl)
      · replace hf := ite_t c5 hf
        refine lv_bipush (v := -9) hx hb dX7_begins_18 (by decide) ?_
        refine lv_goto (tgt := 24) hx hb dX7_begins_20 (by decide) ?_
        exact w_X7_begins_L24 hX ih _ _ _ _ _ _ _ hf  hP hS (lv_sub hl [0, 1] rfl)
def P_X7_begins (N : Nat) (S : PSt) : Option PSt := P_X7_begins_L2 N N S (0 : Int32)
set_option maxHeartbeats 4000000 in
set_option maxRecDepth 100000 in
theorem c_X7_begins (l : Launch) {D : va_G} {cy : Nat → ClassId} {ad tb : Nat → Nat} (hJ : pJ ad) {N : Nat} {S S' : PSt} (hf : P_X7_begins N S = some S') : Ct l 1 yX7_begins cX7_begins 2 none D cy ad tb S S' [.ref (ad 158)] none := by
  refine Ct_of hJ (by decide) (Nat.le_of_ble_eq_true rfl) (fun p e s m below meth c ls hX hP hS hl => ?_)
  have hl : lv_has ls 2 [(0, .ref (ad 158))] := hl
  have hX0 := hX
  obtain ⟨hC, hml, hr, hlk⟩ := hX0
  have hx := hC.1
  have hb := hC.2.1
  unfold P_X7_begins at hf
  refine lv_iconst (v := 0) hx hb dX7_begins_0 (by decide) ?_
  refine lv_istore_n (lv' := [(1, .int (0 : Int32)), (0, .ref (ad 158))]) hx hb dX7_begins_1 rfl hl (by decide) rfl (fun ls hl => ?_)
  exact w_X7_begins_L2 hX _ _ _ _ _ _ hf  hP hS (lv_sub hl [1, 0] rfl)
def P_X7_in (N : Nat) (S : PSt) (x0 : Int32) (x1 : Int32) (x2 : Int32) : Option (Int32 × PSt) := if x0 < x1 then (some ((0 : Int32), S)) else (if x2 < x0 then (some ((0 : Int32), S)) else (some ((1 : Int32), S)))
set_option maxHeartbeats 4000000 in
set_option maxRecDepth 100000 in
theorem c_X7_in (l : Launch) {D : va_G} {cy : Nat → ClassId} {ad tb : Nat → Nat} (hJ : pJ ad) {N : Nat} {S S' : PSt} {x0 : Int32} {x1 : Int32} {x2 : Int32} {r : Int32} (hf : P_X7_in N S x0 x1 x2 = some (r, S')) : Ct l 1 yX7_in cX7_in 3 (some .boolean) D cy ad tb S S' [.int x0, .int x1, .int x2] (some (.int r)) := by
  refine Ct_of hJ (by decide) (Nat.le_of_ble_eq_true rfl) (fun p e s m below meth c ls hX hP hS hl => ?_)
  have hl : lv_has ls 3 [(0, .int x0), (1, .int x1), (2, .int x2)] := hl
  have hX0 := hX
  obtain ⟨hC, hml, hr, hlk⟩ := hX0
  have hx := hC.1
  have hb := hC.2.1
  unfold P_X7_in at hf
  refine lv_iload_n hx hb dX7_in_0 rfl (lv_at hl 0 rfl) ?_
  refine lv_iload_n hx hb dX7_in_1 rfl (lv_at hl 1 rfl) ?_
  refine lv_icmp_lt (tgt := 14) hx hb dX7_in_2 (by decide) (fun c1 => ?_) (fun c1 => ?_)
  · replace hf := ite_t c1 hf
    refine lv_iconst (v := 0) hx hb dX7_in_14 (by decide) ?_
    exact pg_zret hC hr hlk hP hS (by decide) hf dX7_in_15
  · replace hf := ite_f c1 hf
    refine lv_iload_n hx hb dX7_in_5 rfl (lv_at hl 0 rfl) ?_
    refine lv_iload_n hx hb dX7_in_6 rfl (lv_at hl 2 rfl) ?_
    refine lv_icmp_gt (tgt := 14) hx hb dX7_in_7 (by decide) (fun c2 => ?_) (fun c2 => ?_)
    · replace hf := ite_t c2 hf
      refine lv_iconst (v := 0) hx hb dX7_in_14 (by decide) ?_
      exact pg_zret hC hr hlk hP hS (by decide) hf dX7_in_15
    · replace hf := ite_f c2 hf
      refine lv_iconst (v := 1) hx hb dX7_in_10 (by decide) ?_
      refine lv_goto (tgt := 15) hx hb dX7_in_11 (by decide) ?_
      exact pg_zret hC hr hlk hP hS (by decide) hf dX7_in_15
def P_X7_has (N : Nat) (S : PSt) (x0 : Int32) (x1 : Int32) : Option (Int32 × PSt) := if ((x0 >>> (x1 &&& 31)) &&& (1 : Int32)) = (1 : Int32) then (some ((1 : Int32), S)) else (some ((0 : Int32), S))
set_option maxHeartbeats 4000000 in
set_option maxRecDepth 100000 in
theorem c_X7_has (l : Launch) {D : va_G} {cy : Nat → ClassId} {ad tb : Nat → Nat} (hJ : pJ ad) {N : Nat} {S S' : PSt} {x0 : Int32} {x1 : Int32} {r : Int32} (hf : P_X7_has N S x0 x1 = some (r, S')) : Ct l 1 yX7_has cX7_has 2 (some .boolean) D cy ad tb S S' [.int x0, .int x1] (some (.int r)) := by
  refine Ct_of hJ (by decide) (Nat.le_of_ble_eq_true rfl) (fun p e s m below meth c ls hX hP hS hl => ?_)
  have hl : lv_has ls 2 [(0, .int x0), (1, .int x1)] := hl
  have hX0 := hX
  obtain ⟨hC, hml, hr, hlk⟩ := hX0
  have hx := hC.1
  have hb := hC.2.1
  unfold P_X7_has at hf
  refine lv_iload_n hx hb dX7_has_0 rfl (lv_at hl 0 rfl) ?_
  refine lv_iload_n hx hb dX7_has_1 rfl (lv_at hl 1 rfl) ?_
  refine lv_ishr hx hb dX7_has_2 ?_
  refine lv_iconst (v := 1) hx hb dX7_has_3 (by decide) ?_
  refine lv_iand hx hb dX7_has_4 ?_
  refine lv_iconst (v := 1) hx hb dX7_has_5 (by decide) ?_
  refine lv_icmp_ne (tgt := 13) hx hb dX7_has_6 (by decide) (fun c1 => ?_) (fun c1 => ?_)
  · replace hf := ite_f c1 hf
    refine lv_iconst (v := 0) hx hb dX7_has_13 (by decide) ?_
    exact pg_zret hC hr hlk hP hS (by decide) hf dX7_has_14
  · replace hf := ite_t c1 hf
    refine lv_iconst (v := 1) hx hb dX7_has_9 (by decide) ?_
    refine lv_goto (tgt := 14) hx hb dX7_has_10 (by decide) ?_
    exact pg_zret hC hr hlk hP hS (by decide) hf dX7_has_14
def P_X7_isWalker (N : Nat) (S : PSt) (x1 : Int32) : Option (Int32 × PSt) := cal2 (P_X7_in N S x1 (0 : Int32) ((gI S 700 158) - (1 : Int32))) fun r3 S1 => gd (z1 r3) <| some (r3, S1)
set_option maxHeartbeats 4000000 in
set_option maxRecDepth 100000 in
theorem c_X7_isWalker (l : Launch) {D : va_G} {cy : Nat → ClassId} {ad tb : Nat → Nat} (hJ : pJ ad) {N : Nat} {S S' : PSt} {x1 : Int32} {r : Int32} (hf : P_X7_isWalker N S x1 = some (r, S')) : Ct l 2 yX7_isWalker cX7_isWalker 2 (some .boolean) D cy ad tb S S' [.ref (ad 158), .int x1] (some (.int r)) := by
  refine Ct_of hJ (by decide) (Nat.le_of_ble_eq_true rfl) (fun p e s m below meth c ls hX hP hS hl => ?_)
  have hl : lv_has ls 2 [(0, .ref (ad 158)), (1, .int x1)] := hl
  have hX0 := hX
  obtain ⟨hC, hml, hr, hlk⟩ := hX0
  have hx := hC.1
  have hb := hC.2.1
  unfold P_X7_isWalker at hf
  refine lv_iload_n hx hb dX7_isWalker_0 rfl (lv_at hl 1 rfl) ?_
  refine lv_iconst (v := 0) hx hb dX7_isWalker_1 (by decide) ?_
  refine lv_aload_n hx hb dX7_isWalker_2 rfl (lv_at hl 0 rfl) ?_
  refine gf_X7_69 hC hP k_158 (v := .int (gI S 700 158)) rfl dX7_isWalker_3 ?_
  refine lv_iconst (v := 1) hx hb dX7_isWalker_6 (by decide) ?_
  refine lv_isub hx hb dX7_isWalker_7 ?_
  obtain ⟨r3, S1, q2, hf⟩ := cal2_some hf
  refine pg_callS (As := [.int x1, .int (0 : Int32), .int ((gI S 700 158) - (1 : Int32))]) (rest := []) (st1 := [.int r3]) hC hml hP hS (c_X7_in l hC.2.2.2.2.2.1 q2) ⟨by decide, by decide, rfl, rfl⟩ ⟨rfl, rfl⟩ (by decide) rfl rfl ⟨mk_X7_72, mi_X7_in⟩ hd_X7_in rfl hl.1 (Nat.le_of_ble_eq_true rfl) dX7_isWalker_8 (fun H locs hP hS => ?_)
  obtain ⟨h4, hf⟩ := gd_some hf
  exact pg_zret hC hr hlk hP hS (z1_or h4) hf dX7_isWalker_11
def P_X7_isStretch (N : Nat) (S : PSt) (x1 : Int32) : Option (Int32 × PSt) := cal2 (P_X7_in N S x1 (0 : Int32) ((gI S 702 158) - (1 : Int32))) fun r3 S1 => gd (z1 r3) <| some (r3, S1)
set_option maxHeartbeats 4000000 in
set_option maxRecDepth 100000 in
theorem c_X7_isStretch (l : Launch) {D : va_G} {cy : Nat → ClassId} {ad tb : Nat → Nat} (hJ : pJ ad) {N : Nat} {S S' : PSt} {x1 : Int32} {r : Int32} (hf : P_X7_isStretch N S x1 = some (r, S')) : Ct l 2 yX7_isStretch cX7_isStretch 2 (some .boolean) D cy ad tb S S' [.ref (ad 158), .int x1] (some (.int r)) := by
  refine Ct_of hJ (by decide) (Nat.le_of_ble_eq_true rfl) (fun p e s m below meth c ls hX hP hS hl => ?_)
  have hl : lv_has ls 2 [(0, .ref (ad 158)), (1, .int x1)] := hl
  have hX0 := hX
  obtain ⟨hC, hml, hr, hlk⟩ := hX0
  have hx := hC.1
  have hb := hC.2.1
  unfold P_X7_isStretch at hf
  refine lv_iload_n hx hb dX7_isStretch_0 rfl (lv_at hl 1 rfl) ?_
  refine lv_iconst (v := 0) hx hb dX7_isStretch_1 (by decide) ?_
  refine lv_aload_n hx hb dX7_isStretch_2 rfl (lv_at hl 0 rfl) ?_
  refine gf_X7_76 hC hP k_158 (v := .int (gI S 702 158)) rfl dX7_isStretch_3 ?_
  refine lv_iconst (v := 1) hx hb dX7_isStretch_6 (by decide) ?_
  refine lv_isub hx hb dX7_isStretch_7 ?_
  obtain ⟨r3, S1, q2, hf⟩ := cal2_some hf
  refine pg_callS (As := [.int x1, .int (0 : Int32), .int ((gI S 702 158) - (1 : Int32))]) (rest := []) (st1 := [.int r3]) hC hml hP hS (c_X7_in l hC.2.2.2.2.2.1 q2) ⟨by decide, by decide, rfl, rfl⟩ ⟨rfl, rfl⟩ (by decide) rfl rfl ⟨mk_X7_72, mi_X7_in⟩ hd_X7_in rfl hl.1 (Nat.le_of_ble_eq_true rfl) dX7_isStretch_8 (fun H locs hP hS => ?_)
  obtain ⟨h4, hf⟩ := gd_some hf
  exact pg_zret hC hr hlk hP hS (z1_or h4) hf dX7_isStretch_11
def P_X7_isPair (N : Nat) (S : PSt) (x1 : Int32) : Option (Int32 × PSt) := cal2 (P_X7_in N S x1 (1 : Int32) (23 : Int32)) fun r3 S1 => if r3 = (0 : Int32) then (some ((0 : Int32), S1)) else (if (x1 - x1 / (10 : Int32) * (10 : Int32)) ≤ (x1 / (10 : Int32)) then (some ((0 : Int32), S1)) else (cal2 (P_X7_isWalker N S1 (x1 - x1 / (10 : Int32) * (10 : Int32))) fun r8 S6 => if r8 = (0 : Int32) then (some ((0 : Int32), S6)) else (some ((1 : Int32), S6))))
set_option maxHeartbeats 4000000 in
set_option maxRecDepth 100000 in
theorem c_X7_isPair (l : Launch) {D : va_G} {cy : Nat → ClassId} {ad tb : Nat → Nat} (hJ : pJ ad) {N : Nat} {S S' : PSt} {x1 : Int32} {r : Int32} (hf : P_X7_isPair N S x1 = some (r, S')) : Ct l 3 yX7_isPair cX7_isPair 2 (some .boolean) D cy ad tb S S' [.ref (ad 158), .int x1] (some (.int r)) := by
  refine Ct_of hJ (by decide) (Nat.le_of_ble_eq_true rfl) (fun p e s m below meth c ls hX hP hS hl => ?_)
  have hl : lv_has ls 2 [(0, .ref (ad 158)), (1, .int x1)] := hl
  have hX0 := hX
  obtain ⟨hC, hml, hr, hlk⟩ := hX0
  have hx := hC.1
  have hb := hC.2.1
  unfold P_X7_isPair at hf
  refine lv_iload_n hx hb dX7_isPair_0 rfl (lv_at hl 1 rfl) ?_
  refine lv_iconst (v := 1) hx hb dX7_isPair_1 (by decide) ?_
  refine lv_bipush (v := 23) hx hb dX7_isPair_2 (by decide) ?_
  obtain ⟨r3, S1, q2, hf⟩ := cal2_some hf
  refine pg_callS (As := [.int x1, .int (1 : Int32), .int (23 : Int32)]) (rest := []) (st1 := [.int r3]) hC hml hP hS (c_X7_in l hC.2.2.2.2.2.1 q2) ⟨by decide, by decide, rfl, rfl⟩ ⟨rfl, rfl⟩ (by decide) rfl rfl ⟨mk_X7_72, mi_X7_in⟩ hd_X7_in rfl hl.1 (Nat.le_of_ble_eq_true rfl) dX7_isPair_4 (fun H locs hP hS => ?_)
  refine lv_if_eq (tgt := 36) hx hb dX7_isPair_7 (by decide) (fun c4 => ?_) (fun c4 => ?_)
  · replace hf := ite_t c4 hf
    refine lv_iconst (v := 0) hx hb dX7_isPair_36 (by decide) ?_
    exact pg_zret hC hr hlk hP hS (by decide) hf dX7_isPair_37
  · replace hf := ite_f c4 hf
    refine lv_iload_n hx hb dX7_isPair_10 rfl (lv_at hl 1 rfl) ?_
    refine lv_bipush (v := 10) hx hb dX7_isPair_11 (by decide) ?_
    refine lv_idiv hx hb dX7_isPair_13 (by decide) ?_
    refine lv_iload_n hx hb dX7_isPair_14 rfl (lv_at hl 1 rfl) ?_
    refine lv_bipush (v := 10) hx hb dX7_isPair_15 (by decide) ?_
    refine lv_irem hx hb dX7_isPair_17 (by decide) ?_
    refine lv_icmp_ge (tgt := 36) hx hb dX7_isPair_18 (by decide) (fun c5 => ?_) (fun c5 => ?_)
    · replace hf := ite_t c5 hf
      refine lv_iconst (v := 0) hx hb dX7_isPair_36 (by decide) ?_
      exact pg_zret hC hr hlk hP hS (by decide) hf dX7_isPair_37
    · replace hf := ite_f c5 hf
      refine lv_aload_n hx hb dX7_isPair_21 rfl (lv_at hl 0 rfl) ?_
      refine lv_iload_n hx hb dX7_isPair_22 rfl (lv_at hl 1 rfl) ?_
      refine lv_bipush (v := 10) hx hb dX7_isPair_23 (by decide) ?_
      refine lv_irem hx hb dX7_isPair_25 (by decide) ?_
      obtain ⟨r8, S6, q7, hf⟩ := cal2_some hf
      refine pg_callV (As := [.int (x1 - x1 / (10 : Int32) * (10 : Int32))]) (rest := []) (st1 := [.int r8]) (ci := 7) hC hml hP hS (c_X7_isWalker l hC.2.2.2.2.2.1 q7) ⟨by decide, by decide, rfl, rfl⟩ ⟨rfl, rfl⟩ (by decide) rfl (by decide) k_158 rfl rfl ⟨mk_X7_79, mi_X7_isWalker⟩ hd_X7_isWalker rfl hl.1 (Nat.le_of_ble_eq_true rfl) dX7_isPair_26 (fun H locs hP hS => ?_)
      refine lv_if_eq (tgt := 36) hx hb dX7_isPair_29 (by decide) (fun c9 => ?_) (fun c9 => ?_)
      · replace hf := ite_t c9 hf
        refine lv_iconst (v := 0) hx hb dX7_isPair_36 (by decide) ?_
        exact pg_zret hC hr hlk hP hS (by decide) hf dX7_isPair_37
      · replace hf := ite_f c9 hf
        refine lv_iconst (v := 1) hx hb dX7_isPair_32 (by decide) ?_
        refine lv_goto (tgt := 37) hx hb dX7_isPair_33 (by decide) ?_
        exact pg_zret hC hr hlk hP hS (by decide) hf dX7_isPair_37
def P_X7_type (N : Nat) (S : PSt) (x1 : Int32) : Option (Int32 × PSt) := cal2 (P_X7_in N S x1 (0 : Int32) (255 : Int32)) fun r3 S1 => if r3 = (0 : Int32) then (some ((-1 : Int32), S1)) else (if (gI S1 715 158) = (200 : Int32) then (some ((-3 : Int32), S1)) else (gd (bin (gI S1 715 158) (ln 166)) <| bnd (sA S1 166 (gI S1 715 158).toNatClampNeg x1) fun S7 => bnd (sI S7 715 158 ((gI S7 715 158) + (1 : Int32))) fun S8 => some ((gI S8 715 158), S8)))
set_option maxHeartbeats 4000000 in
set_option maxRecDepth 100000 in
theorem c_X7_type (l : Launch) {D : va_G} {cy : Nat → ClassId} {ad tb : Nat → Nat} (hJ : pJ ad) {N : Nat} {S S' : PSt} {x1 : Int32} {r : Int32} (hf : P_X7_type N S x1 = some (r, S')) : Ct l 2 yX7_type cX7_type 2 (some .int) D cy ad tb S S' [.ref (ad 158), .int x1] (some (.int r)) := by
  refine Ct_of hJ (by decide) (Nat.le_of_ble_eq_true rfl) (fun p e s m below meth c ls hX hP hS hl => ?_)
  have hl : lv_has ls 2 [(0, .ref (ad 158)), (1, .int x1)] := hl
  have hX0 := hX
  obtain ⟨hC, hml, hr, hlk⟩ := hX0
  have hx := hC.1
  have hb := hC.2.1
  unfold P_X7_type at hf
  refine lv_iload_n hx hb dX7_type_0 rfl (lv_at hl 1 rfl) ?_
  refine lv_iconst (v := 0) hx hb dX7_type_1 (by decide) ?_
  refine lv_sipush (v := 255) hx hb dX7_type_2 (by decide) ?_
  obtain ⟨r3, S1, q2, hf⟩ := cal2_some hf
  refine pg_callS (As := [.int x1, .int (0 : Int32), .int (255 : Int32)]) (rest := []) (st1 := [.int r3]) hC hml hP hS (c_X7_in l hC.2.2.2.2.2.1 q2) ⟨by decide, by decide, rfl, rfl⟩ ⟨rfl, rfl⟩ (by decide) rfl rfl ⟨mk_X7_72, mi_X7_in⟩ hd_X7_in rfl hl.1 (Nat.le_of_ble_eq_true rfl) dX7_type_5 (fun H locs hP hS => ?_)
  refine lv_if_ne (tgt := 13) hx hb dX7_type_8 (by decide) (fun c4 => ?_) (fun c4 => ?_)
  · replace hf := ite_f c4 hf
    refine lv_aload_n hx hb dX7_type_13 rfl (lv_at hl 0 rfl) ?_
    refine gf_X7_83 hC hP k_158 (v := .int (gI S1 715 158)) rfl dX7_type_14 ?_
    refine lv_sipush (v := 200) hx hb dX7_type_17 (by decide) ?_
    refine lv_icmp_ne (tgt := 26) hx hb dX7_type_20 (by decide) (fun c5 => ?_) (fun c5 => ?_)
    · replace hf := ite_f c5 hf
      refine lv_aload_n hx hb dX7_type_26 rfl (lv_at hl 0 rfl) ?_
      refine gf_X7_36 hC hP k_158 (v := .ref (ad 166)) rfl dX7_type_27 ?_
      refine lv_aload_n hx hb dX7_type_30 rfl (lv_at hl 0 rfl) ?_
      refine gf_X7_83 hC hP k_158 (v := .int (gI S1 715 158)) rfl dX7_type_31 ?_
      refine lv_iload_n hx hb dX7_type_34 rfl (lv_at hl 1 rfl) ?_
      obtain ⟨h6, hf⟩ := gd_some hf
      obtain ⟨S7, eS7, hf⟩ := bnd_some hf
      refine pg_iast hC hP hS k_166 (bin_in h6) dX7_type_35 (fun H locs hP hS => ?_)
      rw [← eS7] at hP
      refine lv_aload_n hx hb dX7_type_36 rfl (lv_at hl 0 rfl) ?_
      refine lv_dup hx hb dX7_type_37 rfl ?_
      refine gf_X7_83 hC hP k_158 (v := .int (gI S7 715 158)) rfl dX7_type_38 ?_
      refine lv_iconst (v := 1) hx hb dX7_type_41 (by decide) ?_
      refine lv_iadd hx hb dX7_type_42 ?_
      obtain ⟨S8, eS8, hf⟩ := bnd_some hf
      refine pf_X7_83 hC hP hS k_158 eS8 dX7_type_43 (fun H locs hP hS => ?_)
      refine lv_aload_n hx hb dX7_type_46 rfl (lv_at hl 0 rfl) ?_
      refine gf_X7_83 hC hP k_158 (v := .int (gI S8 715 158)) rfl dX7_type_47 ?_
      exact pg_iret hC hr hlk hP hS hf dX7_type_50
    · replace hf := ite_t c5 hf
      refine lv_bipush (v := -3) hx hb dX7_type_23 (by decide) ?_
      exact pg_iret hC hr hlk hP hS hf dX7_type_25
  · replace hf := ite_t c4 hf
    refine lv_iconst (v := -1) hx hb dX7_type_11 (by decide) ?_
    exact pg_iret hC hr hlk hP hS hf dX7_type_12
def P_X7_clear (N : Nat) (S : PSt) : Option (Int32 × PSt) := bnd (gI S 715 158) fun v1 => bnd (sI S 715 158 (0 : Int32)) fun S2 => some (v1, S2)
set_option maxHeartbeats 4000000 in
set_option maxRecDepth 100000 in
theorem c_X7_clear (l : Launch) {D : va_G} {cy : Nat → ClassId} {ad tb : Nat → Nat} (hJ : pJ ad) {N : Nat} {S S' : PSt} {r : Int32} (hf : P_X7_clear N S = some (r, S')) : Ct l 1 yX7_clear cX7_clear 2 (some .int) D cy ad tb S S' [.ref (ad 158)] (some (.int r)) := by
  refine Ct_of hJ (by decide) (Nat.le_of_ble_eq_true rfl) (fun p e s m below meth c ls hX hP hS hl => ?_)
  have hl : lv_has ls 2 [(0, .ref (ad 158))] := hl
  have hX0 := hX
  obtain ⟨hC, hml, hr, hlk⟩ := hX0
  have hx := hC.1
  have hb := hC.2.1
  unfold P_X7_clear at hf
  refine lv_aload_n hx hb dX7_clear_0 rfl (lv_at hl 0 rfl) ?_
  refine gf_X7_83 hC hP k_158 (v := .int (gI S 715 158)) rfl dX7_clear_1 ?_
  obtain ⟨v1, ev1, hf⟩ := bnd_some hf
  refine pg_top ev1 ?_
  refine lv_istore_n (lv' := [(1, .int v1), (0, .ref (ad 158))]) hx hb dX7_clear_4 rfl hl (by decide) rfl (fun ls hl => ?_)
  refine lv_aload_n hx hb dX7_clear_5 rfl (lv_at hl 1 rfl) ?_
  refine lv_iconst (v := 0) hx hb dX7_clear_6 (by decide) ?_
  obtain ⟨S2, eS2, hf⟩ := bnd_some hf
  refine pf_X7_83 hC hP hS k_158 eS2 dX7_clear_7 (fun H locs hP hS => ?_)
  refine lv_iload_n hx hb dX7_clear_10 rfl (lv_at hl 0 rfl) ?_
  exact pg_iret hC hr hlk hP hS hf dX7_clear_11
def P_X7_byteAt (N : Nat) (S : PSt) (x1 : Int32) : Option (Int32 × PSt) := if (gI S 715 158) ≤ x1 then (some ((-1 : Int32), S)) else (gd (bin x1 (ln 166)) <| some ((gA S 166 x1.toNatClampNeg), S))
set_option maxHeartbeats 4000000 in
set_option maxRecDepth 100000 in
theorem c_X7_byteAt (l : Launch) {D : va_G} {cy : Nat → ClassId} {ad tb : Nat → Nat} (hJ : pJ ad) {N : Nat} {S S' : PSt} {x1 : Int32} {r : Int32} (hf : P_X7_byteAt N S x1 = some (r, S')) : Ct l 1 yX7_byteAt cX7_byteAt 2 (some .int) D cy ad tb S S' [.ref (ad 158), .int x1] (some (.int r)) := by
  refine Ct_of hJ (by decide) (Nat.le_of_ble_eq_true rfl) (fun p e s m below meth c ls hX hP hS hl => ?_)
  have hl : lv_has ls 2 [(0, .ref (ad 158)), (1, .int x1)] := hl
  have hX0 := hX
  obtain ⟨hC, hml, hr, hlk⟩ := hX0
  have hx := hC.1
  have hb := hC.2.1
  unfold P_X7_byteAt at hf
  refine lv_iload_n hx hb dX7_byteAt_0 rfl (lv_at hl 1 rfl) ?_
  refine lv_aload_n hx hb dX7_byteAt_1 rfl (lv_at hl 0 rfl) ?_
  refine gf_X7_83 hC hP k_158 (v := .int (gI S 715 158)) rfl dX7_byteAt_2 ?_
  refine lv_icmp_ge (tgt := 17) hx hb dX7_byteAt_5 (by decide) (fun c1 => ?_) (fun c1 => ?_)
  · replace hf := ite_t c1 hf
    refine lv_iconst (v := -1) hx hb dX7_byteAt_17 (by decide) ?_
    exact pg_iret hC hr hlk hP hS hf dX7_byteAt_18
  · replace hf := ite_f c1 hf
    refine lv_aload_n hx hb dX7_byteAt_8 rfl (lv_at hl 0 rfl) ?_
    refine gf_X7_36 hC hP k_158 (v := .ref (ad 166)) rfl dX7_byteAt_9 ?_
    refine lv_iload_n hx hb dX7_byteAt_12 rfl (lv_at hl 1 rfl) ?_
    obtain ⟨h2, hf⟩ := gd_some hf
    refine pg_iald hC hP k_166 (bin_in h2) dX7_byteAt_13 ?_
    refine lv_goto (tgt := 18) hx hb dX7_byteAt_14 (by decide) ?_
    exact pg_iret hC hr hlk hP hS hf dX7_byteAt_18
def P_X7_isSmall (N : Nat) (S : PSt) (x0 : Int32) : Option (Int32 × PSt) := cal2 (P_X7_in N S x0 (97 : Int32) (122 : Int32)) fun r3 S1 => gd (z1 r3) <| some (r3, S1)
set_option maxHeartbeats 4000000 in
set_option maxRecDepth 100000 in
theorem c_X7_isSmall (l : Launch) {D : va_G} {cy : Nat → ClassId} {ad tb : Nat → Nat} (hJ : pJ ad) {N : Nat} {S S' : PSt} {x0 : Int32} {r : Int32} (hf : P_X7_isSmall N S x0 = some (r, S')) : Ct l 2 yX7_isSmall cX7_isSmall 1 (some .boolean) D cy ad tb S S' [.int x0] (some (.int r)) := by
  refine Ct_of hJ (by decide) (Nat.le_of_ble_eq_true rfl) (fun p e s m below meth c ls hX hP hS hl => ?_)
  have hl : lv_has ls 1 [(0, .int x0)] := hl
  have hX0 := hX
  obtain ⟨hC, hml, hr, hlk⟩ := hX0
  have hx := hC.1
  have hb := hC.2.1
  unfold P_X7_isSmall at hf
  refine lv_iload_n hx hb dX7_isSmall_0 rfl (lv_at hl 0 rfl) ?_
  refine lv_bipush (v := 97) hx hb dX7_isSmall_1 (by decide) ?_
  refine lv_bipush (v := 122) hx hb dX7_isSmall_3 (by decide) ?_
  obtain ⟨r3, S1, q2, hf⟩ := cal2_some hf
  refine pg_callS (As := [.int x0, .int (97 : Int32), .int (122 : Int32)]) (rest := []) (st1 := [.int r3]) hC hml hP hS (c_X7_in l hC.2.2.2.2.2.1 q2) ⟨by decide, by decide, rfl, rfl⟩ ⟨rfl, rfl⟩ (by decide) rfl rfl ⟨mk_X7_72, mi_X7_in⟩ hd_X7_in rfl hl.1 (Nat.le_of_ble_eq_true rfl) dX7_isSmall_5 (fun H locs hP hS => ?_)
  obtain ⟨h4, hf⟩ := gd_some hf
  exact pg_zret hC hr hlk hP hS (z1_or h4) hf dX7_isSmall_8
def P_X7_isFigure (N : Nat) (S : PSt) (x0 : Int32) : Option (Int32 × PSt) := cal2 (P_X7_in N S x0 (48 : Int32) (57 : Int32)) fun r3 S1 => gd (z1 r3) <| some (r3, S1)
set_option maxHeartbeats 4000000 in
set_option maxRecDepth 100000 in
theorem c_X7_isFigure (l : Launch) {D : va_G} {cy : Nat → ClassId} {ad tb : Nat → Nat} (hJ : pJ ad) {N : Nat} {S S' : PSt} {x0 : Int32} {r : Int32} (hf : P_X7_isFigure N S x0 = some (r, S')) : Ct l 2 yX7_isFigure cX7_isFigure 1 (some .boolean) D cy ad tb S S' [.int x0] (some (.int r)) := by
  refine Ct_of hJ (by decide) (Nat.le_of_ble_eq_true rfl) (fun p e s m below meth c ls hX hP hS hl => ?_)
  have hl : lv_has ls 1 [(0, .int x0)] := hl
  have hX0 := hX
  obtain ⟨hC, hml, hr, hlk⟩ := hX0
  have hx := hC.1
  have hb := hC.2.1
  unfold P_X7_isFigure at hf
  refine lv_iload_n hx hb dX7_isFigure_0 rfl (lv_at hl 0 rfl) ?_
  refine lv_bipush (v := 48) hx hb dX7_isFigure_1 (by decide) ?_
  refine lv_bipush (v := 57) hx hb dX7_isFigure_3 (by decide) ?_
  obtain ⟨r3, S1, q2, hf⟩ := cal2_some hf
  refine pg_callS (As := [.int x0, .int (48 : Int32), .int (57 : Int32)]) (rest := []) (st1 := [.int r3]) hC hml hP hS (c_X7_in l hC.2.2.2.2.2.1 q2) ⟨by decide, by decide, rfl, rfl⟩ ⟨rfl, rfl⟩ (by decide) rfl rfl ⟨mk_X7_72, mi_X7_in⟩ hd_X7_in rfl hl.1 (Nat.le_of_ble_eq_true rfl) dX7_isFigure_5 (fun H locs hP hS => ?_)
  obtain ⟨h4, hf⟩ := gd_some hf
  exact pg_zret hC hr hlk hP hS (z1_or h4) hf dX7_isFigure_8
def P_X7_next_L254 (N : Nat) (S : PSt) (y1 : Int32) : Option PSt := bnd (sI S 718 158 y1) fun S1 => bnd (sI S1 716 158 ((gI S1 716 158) + (1 : Int32))) fun S2 => some S2
set_option maxHeartbeats 4000000 in
set_option maxRecDepth 100000 in
theorem w_X7_next_L254 {N : Nat} {S' : PSt} (hX : Mx p s m args c meth cX7_next RX7 2 none D cy ad tb) : ∀ (S : PSt) (y1 : Int32) (H : Heap) (locs : List Loc) (ls : Array Slot), P_X7_next_L254 N S y1 = some S' → va_P D vwCl (pW cy ad S) H → va_S (pA ad s.heap.size) s.heap H locs → lv_has ls 2 [(0, .ref (ad 158))] → W p l e (rmd 3) s m args below meth c H locs 0 0 (Qz D cy ad below args s S' none) (F0 m 254 ls [.int y1, .ref (ad 158)]) := by
  have hX0 := hX
  obtain ⟨hC, hml, hr, hlk⟩ := hX0
  have hx := hC.1
  have hb := hC.2.1
  intro S y1 H locs ls hf  hP hS hl
  unfold P_X7_next_L254 at hf
  obtain ⟨S1, eS1, hf⟩ := bnd_some hf
  refine pf_X7_99 hC hP hS k_158 eS1 dX7_next_254 (fun H locs hP hS => ?_)
  refine lv_aload_n hx hb dX7_next_257 rfl (lv_at hl 0 rfl) ?_
  refine lv_dup hx hb dX7_next_258 rfl ?_
  refine gf_X7_86 hC hP k_158 (v := .int (gI S1 716 158)) rfl dX7_next_259 ?_
  refine lv_iconst (v := 1) hx hb dX7_next_262 (by decide) ?_
  refine lv_iadd hx hb dX7_next_263 ?_
  obtain ⟨S2, eS2, hf⟩ := bnd_some hf
  refine pf_X7_86 hC hP hS k_158 eS2 dX7_next_264 (fun H locs hP hS => ?_)
  exact pg_vret hC hr hlk hP hS hf dX7_next_267
def P_X7_next_L236 (N : Nat) (S : PSt) (y1 : Int32) : Option PSt := bnd (sI S 718 158 y1) fun S3 => some S3
set_option maxHeartbeats 4000000 in
set_option maxRecDepth 100000 in
theorem w_X7_next_L236 {N : Nat} {S' : PSt} (hX : Mx p s m args c meth cX7_next RX7 2 none D cy ad tb) : ∀ (S : PSt) (y1 : Int32) (H : Heap) (locs : List Loc) (ls : Array Slot), P_X7_next_L236 N S y1 = some S' → va_P D vwCl (pW cy ad S) H → va_S (pA ad s.heap.size) s.heap H locs → lv_has ls 2 [] → W p l e (rmd 3) s m args below meth c H locs 0 0 (Qz D cy ad below args s S' none) (F0 m 236 ls [.int y1, .ref (ad 158)]) := by
  have hX0 := hX
  obtain ⟨hC, hml, hr, hlk⟩ := hX0
  have hx := hC.1
  have hb := hC.2.1
  intro S y1 H locs ls hf  hP hS hl
  unfold P_X7_next_L236 at hf
  obtain ⟨S3, eS3, hf⟩ := bnd_some hf
  refine pf_X7_99 hC hP hS k_158 eS3 dX7_next_236 (fun H locs hP hS => ?_)
  refine lv_goto (tgt := 267) hx hb dX7_next_239 (by decide) ?_
  exact pg_vret hC hr hlk hP hS hf dX7_next_267
def P_X7_next_L235 (N : Nat) (S : PSt) : Option PSt := P_X7_next_L236 N S (2 : Int32)
set_option maxHeartbeats 4000000 in
set_option maxRecDepth 100000 in
theorem w_X7_next_L235 {N : Nat} {S' : PSt} (hX : Mx p s m args c meth cX7_next RX7 2 none D cy ad tb) : ∀ (S : PSt) (H : Heap) (locs : List Loc) (ls : Array Slot), P_X7_next_L235 N S  = some S' → va_P D vwCl (pW cy ad S) H → va_S (pA ad s.heap.size) s.heap H locs → lv_has ls 2 [] → W p l e (rmd 3) s m args below meth c H locs 0 0 (Qz D cy ad below args s S' none) (F0 m 235 ls [.ref (ad 158)]) := by
  have hX0 := hX
  obtain ⟨hC, hml, hr, hlk⟩ := hX0
  have hx := hC.1
  have hb := hC.2.1
  intro S  H locs ls hf  hP hS hl
  unfold P_X7_next_L235 at hf
  refine lv_iconst (v := 2) hx hb dX7_next_235 (by decide) ?_
  exact w_X7_next_L236 hX _ _ _ _ _ hf  hP hS (lv_sub hl [] rfl)
def P_X7_next_L231 (N : Nat) (S : PSt) : Option PSt := P_X7_next_L236 N S (4 : Int32)
set_option maxHeartbeats 4000000 in
set_option maxRecDepth 100000 in
theorem w_X7_next_L231 {N : Nat} {S' : PSt} (hX : Mx p s m args c meth cX7_next RX7 2 none D cy ad tb) : ∀ (S : PSt) (H : Heap) (locs : List Loc) (ls : Array Slot), P_X7_next_L231 N S  = some S' → va_P D vwCl (pW cy ad S) H → va_S (pA ad s.heap.size) s.heap H locs → lv_has ls 2 [] → W p l e (rmd 3) s m args below meth c H locs 0 0 (Qz D cy ad below args s S' none) (F0 m 231 ls [.ref (ad 158)]) := by
  have hX0 := hX
  obtain ⟨hC, hml, hr, hlk⟩ := hX0
  have hx := hC.1
  have hb := hC.2.1
  intro S  H locs ls hf  hP hS hl
  unfold P_X7_next_L231 at hf
  refine lv_iconst (v := 4) hx hb dX7_next_231 (by decide) ?_
  refine lv_goto (tgt := 236) hx hb dX7_next_232 (by decide) ?_
  exact w_X7_next_L236 hX _ _ _ _ _ hf  hP hS (lv_sub hl [] rfl)
def P_X7_next_L186 (k136 : PSt → Int32 → Option PSt) (N : Nat) (S : PSt) (x1 : Int32) (y1 : Int32) : Option PSt := bnd (sI S 719 158 y1) fun S4 => bnd (sI S4 716 158 ((gI S4 716 158) + (1 : Int32))) fun S5 => k136 S5 x1
set_option maxHeartbeats 4000000 in
set_option maxRecDepth 100000 in
theorem w_X7_next_L186 {N : Nat} {S' : PSt} (hX : Mx p s m args c meth cX7_next RX7 2 none D cy ad tb) {k136 : PSt → Int32 → Option PSt} (hk136 : ∀ (S : PSt) (x1 : Int32) (H : Heap) (locs : List Loc) (ls : Array Slot), k136 S x1 = some S' → va_P D vwCl (pW cy ad S) H → va_S (pA ad s.heap.size) s.heap H locs → lv_has ls 2 [(0, .ref (ad 158)), (1, .int x1)] → W p l e (rmd 3) s m args below meth c H locs 0 0 (Qz D cy ad below args s S' none) (F0 m 136 ls [])) : ∀ (S : PSt) (x1 : Int32) (y1 : Int32) (H : Heap) (locs : List Loc) (ls : Array Slot), P_X7_next_L186 k136 N S x1 y1 = some S' → va_P D vwCl (pW cy ad S) H → va_S (pA ad s.heap.size) s.heap H locs → lv_has ls 2 [(0, .ref (ad 158)), (1, .int x1)] → W p l e (rmd 3) s m args below meth c H locs 0 0 (Qz D cy ad below args s S' none) (F0 m 186 ls [.int y1, .ref (ad 158)]) := by
  have hX0 := hX
  obtain ⟨hC, hml, hr, hlk⟩ := hX0
  have hx := hC.1
  have hb := hC.2.1
  intro S x1 y1 H locs ls hf  hP hS hl
  unfold P_X7_next_L186 at hf
  obtain ⟨S4, eS4, hf⟩ := bnd_some hf
  refine pf_X7_96 hC hP hS k_158 eS4 dX7_next_186 (fun H locs hP hS => ?_)
  refine lv_aload_n hx hb dX7_next_189 rfl (lv_at hl 0 rfl) ?_
  refine lv_dup hx hb dX7_next_190 rfl ?_
  refine gf_X7_86 hC hP k_158 (v := .int (gI S4 716 158)) rfl dX7_next_191 ?_
  refine lv_iconst (v := 1) hx hb dX7_next_194 (by decide) ?_
  refine lv_iadd hx hb dX7_next_195 ?_
  obtain ⟨S5, eS5, hf⟩ := bnd_some hf
  refine pf_X7_86 hC hP hS k_158 eS5 dX7_next_196 (fun H locs hP hS => ?_)
  refine lv_goto (tgt := 136) hx hb dX7_next_199 (by decide) ?_
  exact hk136 _ _ _ _ _ hf  hP hS (lv_sub hl [0, 1] rfl)
def P_X7_next_L136 (N : Nat) : Nat → PSt → Int32 → Option PSt
  | 0 => fun _ _ => none
  | n + 1 => fun S x1 => cal2 (P_X7_byteAt N S (gI S 716 158)) fun r8 S6 => cal2 (P_X7_isFigure N S6 r8) fun r11 S9 => if r11 = (0 : Int32) then (if (99 : Int32) < (gI S9 719 158) then (P_X7_next_L231 N S9) else (if x1 = (48 : Int32) then (if ((gI S9 716 158) - (gI S9 717 158)) ≤ (1 : Int32) then (P_X7_next_L235 N S9) else (P_X7_next_L231 N S9)) else (P_X7_next_L235 N S9))) else (if (gI S9 719 158) ≤ (99 : Int32) then (cal2 (P_X7_byteAt N S9 (gI S9 716 158)) fun r19 S17 => P_X7_next_L186 (P_X7_next_L136 N n) N S17 x1 ((((10 : Int32) * (gI S9 719 158)) + r19) - (48 : Int32))) else (P_X7_next_L186 (P_X7_next_L136 N n) N S9 x1 (gI S9 719 158)))
set_option maxHeartbeats 4000000 in
set_option maxRecDepth 100000 in
theorem w_X7_next_L136 {N : Nat} {S' : PSt} (hX : Mx p s m args c meth cX7_next RX7 2 none D cy ad tb) : ∀ (n : Nat), ∀ (S : PSt) (x1 : Int32) (H : Heap) (locs : List Loc) (ls : Array Slot), P_X7_next_L136 N n S x1 = some S' → va_P D vwCl (pW cy ad S) H → va_S (pA ad s.heap.size) s.heap H locs → lv_has ls 2 [(0, .ref (ad 158)), (1, .int x1)] → W p l e (rmd 3) s m args below meth c H locs 0 0 (Qz D cy ad below args s S' none) (F0 m 136 ls []) := by
  have hX0 := hX
  obtain ⟨hC, hml, hr, hlk⟩ := hX0
  have hx := hC.1
  have hb := hC.2.1
  intro n
  induction n with
  | zero => intro S x1 H locs ls hf; exact absurd hf (by intro h; cases h)
  | succ n ih =>
    intro S x1 H locs ls hf  hP hS hl
    rw [P_X7_next_L136] at hf
    refine lv_aload_n hx hb dX7_next_136 rfl (lv_at hl 0 rfl) ?_
    refine lv_aload_n hx hb dX7_next_137 rfl (lv_at hl 0 rfl) ?_
    refine gf_X7_86 hC hP k_158 (v := .int (gI S 716 158)) rfl dX7_next_138 ?_
    obtain ⟨r8, S6, q7, hf⟩ := cal2_some hf
    refine pg_callV (As := [.int (gI S 716 158)]) (rest := []) (st1 := [.int r8]) (ci := 7) hC hml hP hS (c_X7_byteAt l hC.2.2.2.2.2.1 q7) ⟨by decide, by decide, rfl, rfl⟩ ⟨rfl, rfl⟩ (by decide) rfl (by decide) k_158 rfl rfl ⟨mk_X7_89, mi_X7_byteAt⟩ hd_X7_byteAt rfl hl.1 (Nat.le_of_ble_eq_true rfl) dX7_next_141 (fun H locs hP hS => ?_)
    obtain ⟨r11, S9, q10, hf⟩ := cal2_some hf
    refine pg_callS (As := [.int r8]) (rest := []) (st1 := [.int r11]) hC hml hP hS (c_X7_isFigure l hC.2.2.2.2.2.1 q10) ⟨by decide, by decide, rfl, rfl⟩ ⟨rfl, rfl⟩ (by decide) rfl rfl ⟨mk_X7_105, mi_X7_isFigure⟩ hd_X7_isFigure rfl hl.1 (Nat.le_of_ble_eq_true rfl) dX7_next_144 (fun H locs hP hS => ?_)
    refine lv_if_eq (tgt := 202) hx hb dX7_next_147 (by decide) (fun c12 => ?_) (fun c12 => ?_)
    · replace hf := ite_t c12 hf
      refine lv_aload_n hx hb dX7_next_202 rfl (lv_at hl 0 rfl) ?_
      refine lv_aload_n hx hb dX7_next_203 rfl (lv_at hl 0 rfl) ?_
      refine gf_X7_96 hC hP k_158 (v := .int (gI S9 719 158)) rfl dX7_next_204 ?_
      refine lv_bipush (v := 99) hx hb dX7_next_207 (by decide) ?_
      refine lv_icmp_gt (tgt := 231) hx hb dX7_next_209 (by decide) (fun c13 => ?_) (fun c13 => ?_)
      · replace hf := ite_t c13 hf
        exact w_X7_next_L231 hX _  _ _ _ hf  hP hS (lv_sub hl [] rfl)
      · replace hf := ite_f c13 hf
        refine lv_iload_n hx hb dX7_next_212 rfl (lv_at hl 1 rfl) ?_
        refine lv_bipush (v := 48) hx hb dX7_next_213 (by decide) ?_
        refine lv_icmp_ne (tgt := 235) hx hb dX7_next_215 (by decide) (fun c14 => ?_) (fun c14 => ?_)
        · replace hf := ite_f c14 hf
          exact w_X7_next_L235 hX _  _ _ _ hf  hP hS (lv_sub hl [] rfl)
        · replace hf := ite_t c14 hf
          refine lv_aload_n hx hb dX7_next_218 rfl (lv_at hl 0 rfl) ?_
          refine gf_X7_86 hC hP k_158 (v := .int (gI S9 716 158)) rfl dX7_next_219 ?_
          refine lv_aload_n hx hb dX7_next_222 rfl (lv_at hl 0 rfl) ?_
          refine gf_X7_93 hC hP k_158 (v := .int (gI S9 717 158)) rfl dX7_next_223 ?_
          refine lv_isub hx hb dX7_next_226 ?_
          refine lv_iconst (v := 1) hx hb dX7_next_227 (by decide) ?_
          refine lv_icmp_le (tgt := 235) hx hb dX7_next_228 (by decide) (fun c15 => ?_) (fun c15 => ?_)
          · replace hf := ite_t c15 hf
            exact w_X7_next_L235 hX _  _ _ _ hf  hP hS (lv_sub hl [] rfl)
          · replace hf := ite_f c15 hf
            exact w_X7_next_L231 hX _  _ _ _ hf  hP hS (lv_sub hl [] rfl)
    · replace hf := ite_f c12 hf
      refine lv_aload_n hx hb dX7_next_150 rfl (lv_at hl 0 rfl) ?_
      refine lv_aload_n hx hb dX7_next_151 rfl (lv_at hl 0 rfl) ?_
      refine gf_X7_96 hC hP k_158 (v := .int (gI S9 719 158)) rfl dX7_next_152 ?_
      refine lv_bipush (v := 99) hx hb dX7_next_155 (by decide) ?_
      refine lv_icmp_le (tgt := 167) hx hb dX7_next_157 (by decide) (fun c16 => ?_) (fun c16 => ?_)
      · replace hf := ite_t c16 hf
        refine lv_bipush (v := 10) hx hb dX7_next_167 (by decide) ?_
        refine lv_aload_n hx hb dX7_next_169 rfl (lv_at hl 0 rfl) ?_
        refine gf_X7_96 hC hP k_158 (v := .int (gI S9 719 158)) rfl dX7_next_170 ?_
        refine lv_imul hx hb dX7_next_173 ?_
        refine lv_aload_n hx hb dX7_next_174 rfl (lv_at hl 0 rfl) ?_
        refine lv_aload_n hx hb dX7_next_175 rfl (lv_at hl 0 rfl) ?_
        refine gf_X7_86 hC hP k_158 (v := .int (gI S9 716 158)) rfl dX7_next_176 ?_
        obtain ⟨r19, S17, q18, hf⟩ := cal2_some hf
        refine pg_callV (As := [.int (gI S9 716 158)]) (rest := [.int ((10 : Int32) * (gI S9 719 158)), .ref (ad 158)]) (st1 := [.int r19, .int ((10 : Int32) * (gI S9 719 158)), .ref (ad 158)]) (ci := 7) hC hml hP hS (c_X7_byteAt l hC.2.2.2.2.2.1 q18) ⟨by decide, by decide, rfl, rfl⟩ ⟨rfl, rfl⟩ (by decide) rfl (by decide) k_158 rfl rfl ⟨mk_X7_89, mi_X7_byteAt⟩ hd_X7_byteAt rfl hl.1 (Nat.le_of_ble_eq_true rfl) dX7_next_179 (fun H locs hP hS => ?_)
        refine lv_iadd hx hb dX7_next_182 ?_
        refine lv_bipush (v := 48) hx hb dX7_next_183 (by decide) ?_
        refine lv_isub hx hb dX7_next_185 ?_
        exact w_X7_next_L186 hX ih _ _ _ _ _ _ hf  hP hS (lv_sub hl [0, 1] rfl)
      · replace hf := ite_f c16 hf
        refine lv_aload_n hx hb dX7_next_160 rfl (lv_at hl 0 rfl) ?_
        refine gf_X7_96 hC hP k_158 (v := .int (gI S9 719 158)) rfl dX7_next_161 ?_
        refine lv_goto (tgt := 186) hx hb dX7_next_164 (by decide) ?_
        exact w_X7_next_L186 hX ih _ _ _ _ _ _ hf  hP hS (lv_sub hl [0, 1] rfl)
def P_X7_next_L118 (N : Nat) (S : PSt) (y1 : Int32) : Option PSt := bnd (sI S 719 158 y1) fun S20 => some S20
set_option maxHeartbeats 4000000 in
set_option maxRecDepth 100000 in
theorem w_X7_next_L118 {N : Nat} {S' : PSt} (hX : Mx p s m args c meth cX7_next RX7 2 none D cy ad tb) : ∀ (S : PSt) (y1 : Int32) (H : Heap) (locs : List Loc) (ls : Array Slot), P_X7_next_L118 N S y1 = some S' → va_P D vwCl (pW cy ad S) H → va_S (pA ad s.heap.size) s.heap H locs → lv_has ls 2 [] → W p l e (rmd 3) s m args below meth c H locs 0 0 (Qz D cy ad below args s S' none) (F0 m 118 ls [.int y1, .ref (ad 158)]) := by
  have hX0 := hX
  obtain ⟨hC, hml, hr, hlk⟩ := hX0
  have hx := hC.1
  have hb := hC.2.1
  intro S y1 H locs ls hf  hP hS hl
  unfold P_X7_next_L118 at hf
  obtain ⟨S20, eS20, hf⟩ := bnd_some hf
  refine pf_X7_96 hC hP hS k_158 eS20 dX7_next_118 (fun H locs hP hS => ?_)
  refine lv_goto (tgt := 267) hx hb dX7_next_121 (by decide) ?_
  exact pg_vret hC hr hlk hP hS hf dX7_next_267
def P_X7_next_L72 (N : Nat) : Nat → PSt → Int32 → Option PSt
  | 0 => fun _ _ => none
  | n + 1 => fun S x1 => cal2 (P_X7_byteAt N S (gI S 716 158)) fun r23 S21 => cal2 (P_X7_isSmall N S21 r23) fun r26 S24 => if r26 = (0 : Int32) then (if ((gI S24 716 158) - (gI S24 717 158)) = (1 : Int32) then (P_X7_next_L118 N S24 x1) else (P_X7_next_L118 N S24 (0 : Int32))) else (bnd (sI S24 716 158 ((gI S24 716 158) + (1 : Int32))) fun S29 => P_X7_next_L72 N n S29 x1)
set_option maxHeartbeats 4000000 in
set_option maxRecDepth 100000 in
theorem w_X7_next_L72 {N : Nat} {S' : PSt} (hX : Mx p s m args c meth cX7_next RX7 2 none D cy ad tb) : ∀ (n : Nat), ∀ (S : PSt) (x1 : Int32) (H : Heap) (locs : List Loc) (ls : Array Slot), P_X7_next_L72 N n S x1 = some S' → va_P D vwCl (pW cy ad S) H → va_S (pA ad s.heap.size) s.heap H locs → lv_has ls 2 [(0, .ref (ad 158)), (1, .int x1)] → W p l e (rmd 3) s m args below meth c H locs 0 0 (Qz D cy ad below args s S' none) (F0 m 72 ls []) := by
  have hX0 := hX
  obtain ⟨hC, hml, hr, hlk⟩ := hX0
  have hx := hC.1
  have hb := hC.2.1
  intro n
  induction n with
  | zero => intro S x1 H locs ls hf; exact absurd hf (by intro h; cases h)
  | succ n ih =>
    intro S x1 H locs ls hf  hP hS hl
    rw [P_X7_next_L72] at hf
    refine lv_aload_n hx hb dX7_next_72 rfl (lv_at hl 0 rfl) ?_
    refine lv_aload_n hx hb dX7_next_73 rfl (lv_at hl 0 rfl) ?_
    refine gf_X7_86 hC hP k_158 (v := .int (gI S 716 158)) rfl dX7_next_74 ?_
    obtain ⟨r23, S21, q22, hf⟩ := cal2_some hf
    refine pg_callV (As := [.int (gI S 716 158)]) (rest := []) (st1 := [.int r23]) (ci := 7) hC hml hP hS (c_X7_byteAt l hC.2.2.2.2.2.1 q22) ⟨by decide, by decide, rfl, rfl⟩ ⟨rfl, rfl⟩ (by decide) rfl (by decide) k_158 rfl rfl ⟨mk_X7_89, mi_X7_byteAt⟩ hd_X7_byteAt rfl hl.1 (Nat.le_of_ble_eq_true rfl) dX7_next_77 (fun H locs hP hS => ?_)
    obtain ⟨r26, S24, q25, hf⟩ := cal2_some hf
    refine pg_callS (As := [.int r23]) (rest := []) (st1 := [.int r26]) hC hml hP hS (c_X7_isSmall l hC.2.2.2.2.2.1 q25) ⟨by decide, by decide, rfl, rfl⟩ ⟨rfl, rfl⟩ (by decide) rfl rfl ⟨mk_X7_102, mi_X7_isSmall⟩ hd_X7_isSmall rfl hl.1 (Nat.le_of_ble_eq_true rfl) dX7_next_80 (fun H locs hP hS => ?_)
    refine lv_if_eq (tgt := 99) hx hb dX7_next_83 (by decide) (fun c27 => ?_) (fun c27 => ?_)
    · replace hf := ite_t c27 hf
      refine lv_aload_n hx hb dX7_next_99 rfl (lv_at hl 0 rfl) ?_
      refine lv_aload_n hx hb dX7_next_100 rfl (lv_at hl 0 rfl) ?_
      refine gf_X7_86 hC hP k_158 (v := .int (gI S24 716 158)) rfl dX7_next_101 ?_
      refine lv_aload_n hx hb dX7_next_104 rfl (lv_at hl 0 rfl) ?_
      refine gf_X7_93 hC hP k_158 (v := .int (gI S24 717 158)) rfl dX7_next_105 ?_
      refine lv_isub hx hb dX7_next_108 ?_
      refine lv_iconst (v := 1) hx hb dX7_next_109 (by decide) ?_
      refine lv_icmp_ne (tgt := 117) hx hb dX7_next_110 (by decide) (fun c28 => ?_) (fun c28 => ?_)
      · replace hf := ite_f c28 hf
        refine lv_iconst (v := 0) hx hb dX7_next_117 (by decide) ?_
        exact w_X7_next_L118 hX _ _ _ _ _ hf  hP hS (lv_sub hl [] rfl)
      · replace hf := ite_t c28 hf
        refine lv_iload_n hx hb dX7_next_113 rfl (lv_at hl 1 rfl) ?_
        refine lv_goto (tgt := 118) hx hb dX7_next_114 (by decide) ?_
        exact w_X7_next_L118 hX _ _ _ _ _ hf  hP hS (lv_sub hl [] rfl)
    · replace hf := ite_f c27 hf
      refine lv_aload_n hx hb dX7_next_86 rfl (lv_at hl 0 rfl) ?_
      refine lv_dup hx hb dX7_next_87 rfl ?_
      refine gf_X7_86 hC hP k_158 (v := .int (gI S24 716 158)) rfl dX7_next_88 ?_
      refine lv_iconst (v := 1) hx hb dX7_next_91 (by decide) ?_
      refine lv_iadd hx hb dX7_next_92 ?_
      obtain ⟨S29, eS29, hf⟩ := bnd_some hf
      refine pf_X7_86 hC hP hS k_158 eS29 dX7_next_93 (fun H locs hP hS => ?_)
      refine lv_goto (tgt := 72) hx hb dX7_next_96 (by decide) ?_
      exact ih _ _ _ _ _ hf  hP hS (lv_sub hl [0, 1] rfl)
def P_X7_next_L0 (N : Nat) : Nat → PSt → Option PSt
  | 0 => fun _ => none
  | n + 1 => fun S => cal2 (P_X7_byteAt N S (gI S 716 158)) fun r32 S30 => if r32 = (32 : Int32) then (bnd (sI S30 716 158 ((gI S30 716 158) + (1 : Int32))) fun S52 => P_X7_next_L0 N n S52) else (bnd (sI S30 717 158 (gI S30 716 158)) fun S34 => cal2 (P_X7_byteAt N S34 (gI S34 716 158)) fun r37 S35 => bnd (sI S35 719 158 (0 : Int32)) fun S38 => if (0 : Int32) ≤ r37 then (cal2 (P_X7_isSmall N S38 r37) fun r42 S40 => if r42 = (0 : Int32) then (cal2 (P_X7_isFigure N S40 r37) fun r46 S44 => if r46 = (0 : Int32) then (if r37 = (59 : Int32) then (P_X7_next_L254 N S44 (3 : Int32)) else (P_X7_next_L254 N S44 (4 : Int32))) else (bnd (sI S44 718 158 (2 : Int32)) fun S49 => P_X7_next_L136 N N S49 r37)) else (bnd (sI S40 718 158 (1 : Int32)) fun S50 => P_X7_next_L72 N N S50 r37)) else (bnd (sI S38 718 158 (0 : Int32)) fun S51 => some S51))
set_option maxHeartbeats 4000000 in
set_option maxRecDepth 100000 in
theorem w_X7_next_L0 {N : Nat} {S' : PSt} (hX : Mx p s m args c meth cX7_next RX7 2 none D cy ad tb) : ∀ (n : Nat), ∀ (S : PSt) (H : Heap) (locs : List Loc) (ls : Array Slot), P_X7_next_L0 N n S  = some S' → va_P D vwCl (pW cy ad S) H → va_S (pA ad s.heap.size) s.heap H locs → lv_has ls 2 [(0, .ref (ad 158))] → W p l e (rmd 3) s m args below meth c H locs 0 0 (Qz D cy ad below args s S' none) (F0 m 0 ls []) := by
  have hX0 := hX
  obtain ⟨hC, hml, hr, hlk⟩ := hX0
  have hx := hC.1
  have hb := hC.2.1
  intro n
  induction n with
  | zero => intro S  H locs ls hf; exact absurd hf (by intro h; cases h)
  | succ n ih =>
    intro S  H locs ls hf  hP hS hl
    rw [P_X7_next_L0] at hf
    refine lv_aload_n hx hb dX7_next_0 rfl (lv_at hl 0 rfl) ?_
    refine lv_aload_n hx hb dX7_next_1 rfl (lv_at hl 0 rfl) ?_
    refine gf_X7_86 hC hP k_158 (v := .int (gI S 716 158)) rfl dX7_next_2 ?_
    obtain ⟨r32, S30, q31, hf⟩ := cal2_some hf
    refine pg_callV (As := [.int (gI S 716 158)]) (rest := []) (st1 := [.int r32]) (ci := 7) hC hml hP hS (c_X7_byteAt l hC.2.2.2.2.2.1 q31) ⟨by decide, by decide, rfl, rfl⟩ ⟨rfl, rfl⟩ (by decide) rfl (by decide) k_158 rfl rfl ⟨mk_X7_89, mi_X7_byteAt⟩ hd_X7_byteAt rfl hl.1 (Nat.le_of_ble_eq_true rfl) dX7_next_5 (fun H locs hP hS => ?_)
    refine lv_bipush (v := 32) hx hb dX7_next_8 (by decide) ?_
    refine lv_icmp_ne (tgt := 26) hx hb dX7_next_10 (by decide) (fun c33 => ?_) (fun c33 => ?_)
    · replace hf := ite_f c33 hf
      refine lv_aload_n hx hb dX7_next_26 rfl (lv_at hl 0 rfl) ?_
      refine lv_aload_n hx hb dX7_next_27 rfl (lv_at hl 0 rfl) ?_
      refine gf_X7_86 hC hP k_158 (v := .int (gI S30 716 158)) rfl dX7_next_28 ?_
      obtain ⟨S34, eS34, hf⟩ := bnd_some hf
      refine pf_X7_93 hC hP hS k_158 eS34 dX7_next_31 (fun H locs hP hS => ?_)
      refine lv_aload_n hx hb dX7_next_34 rfl (lv_at hl 0 rfl) ?_
      refine lv_aload_n hx hb dX7_next_35 rfl (lv_at hl 0 rfl) ?_
      refine gf_X7_86 hC hP k_158 (v := .int (gI S34 716 158)) rfl dX7_next_36 ?_
      obtain ⟨r37, S35, q36, hf⟩ := cal2_some hf
      refine pg_callV (As := [.int (gI S34 716 158)]) (rest := []) (st1 := [.int r37]) (ci := 7) hC hml hP hS (c_X7_byteAt l hC.2.2.2.2.2.1 q36) ⟨by decide, by decide, rfl, rfl⟩ ⟨rfl, rfl⟩ (by decide) rfl (by decide) k_158 rfl rfl ⟨mk_X7_89, mi_X7_byteAt⟩ hd_X7_byteAt rfl hl.1 (Nat.le_of_ble_eq_true rfl) dX7_next_39 (fun H locs hP hS => ?_)
      refine lv_istore_n (lv' := [(1, .int r37), (0, .ref (ad 158))]) hx hb dX7_next_42 rfl hl (by decide) rfl (fun ls hl => ?_)
      refine lv_aload_n hx hb dX7_next_43 rfl (lv_at hl 1 rfl) ?_
      refine lv_iconst (v := 0) hx hb dX7_next_44 (by decide) ?_
      obtain ⟨S38, eS38, hf⟩ := bnd_some hf
      refine pf_X7_96 hC hP hS k_158 eS38 dX7_next_45 (fun H locs hP hS => ?_)
      refine lv_iload_n hx hb dX7_next_48 rfl (lv_at hl 0 rfl) ?_
      refine lv_if_ge (tgt := 60) hx hb dX7_next_49 (by decide) (fun c39 => ?_) (fun c39 => ?_)
      · replace hf := ite_t c39 hf
        refine lv_iload_n hx hb dX7_next_60 rfl (lv_at hl 0 rfl) ?_
        obtain ⟨r42, S40, q41, hf⟩ := cal2_some hf
        refine pg_callS (As := [.int r37]) (rest := []) (st1 := [.int r42]) hC hml hP hS (c_X7_isSmall l hC.2.2.2.2.2.1 q41) ⟨by decide, by decide, rfl, rfl⟩ ⟨rfl, rfl⟩ (by decide) rfl rfl ⟨mk_X7_102, mi_X7_isSmall⟩ hd_X7_isSmall rfl hl.1 (Nat.le_of_ble_eq_true rfl) dX7_next_61 (fun H locs hP hS => ?_)
        refine lv_if_eq (tgt := 124) hx hb dX7_next_64 (by decide) (fun c43 => ?_) (fun c43 => ?_)
        · replace hf := ite_t c43 hf
          refine lv_iload_n hx hb dX7_next_124 rfl (lv_at hl 0 rfl) ?_
          obtain ⟨r46, S44, q45, hf⟩ := cal2_some hf
          refine pg_callS (As := [.int r37]) (rest := []) (st1 := [.int r46]) hC hml hP hS (c_X7_isFigure l hC.2.2.2.2.2.1 q45) ⟨by decide, by decide, rfl, rfl⟩ ⟨rfl, rfl⟩ (by decide) rfl rfl ⟨mk_X7_105, mi_X7_isFigure⟩ hd_X7_isFigure rfl hl.1 (Nat.le_of_ble_eq_true rfl) dX7_next_125 (fun H locs hP hS => ?_)
          refine lv_if_eq (tgt := 242) hx hb dX7_next_128 (by decide) (fun c47 => ?_) (fun c47 => ?_)
          · replace hf := ite_t c47 hf
            refine lv_aload_n hx hb dX7_next_242 rfl (lv_at hl 1 rfl) ?_
            refine lv_iload_n hx hb dX7_next_243 rfl (lv_at hl 0 rfl) ?_
            refine lv_bipush (v := 59) hx hb dX7_next_244 (by decide) ?_
            refine lv_icmp_ne (tgt := 253) hx hb dX7_next_246 (by decide) (fun c48 => ?_) (fun c48 => ?_)
            · replace hf := ite_f c48 hf
              refine lv_iconst (v := 4) hx hb dX7_next_253 (by decide) ?_
              exact w_X7_next_L254 hX _ _ _ _ _ hf  hP hS (lv_sub hl [1] rfl)
            · replace hf := ite_t c48 hf
              refine lv_iconst (v := 3) hx hb dX7_next_249 (by decide) ?_
              refine lv_goto (tgt := 254) hx hb dX7_next_250 (by decide) ?_
              exact w_X7_next_L254 hX _ _ _ _ _ hf  hP hS (lv_sub hl [1] rfl)
          · replace hf := ite_f c47 hf
            refine lv_aload_n hx hb dX7_next_131 rfl (lv_at hl 1 rfl) ?_
            refine lv_iconst (v := 2) hx hb dX7_next_132 (by decide) ?_
            obtain ⟨S49, eS49, hf⟩ := bnd_some hf
            refine pf_X7_99 hC hP hS k_158 eS49 dX7_next_133 (fun H locs hP hS => ?_)
            exact w_X7_next_L136 hX _ _ _ _ _ _ hf  hP hS (lv_sub hl [1, 0] rfl)
        · replace hf := ite_f c43 hf
          refine lv_aload_n hx hb dX7_next_67 rfl (lv_at hl 1 rfl) ?_
          refine lv_iconst (v := 1) hx hb dX7_next_68 (by decide) ?_
          obtain ⟨S50, eS50, hf⟩ := bnd_some hf
          refine pf_X7_99 hC hP hS k_158 eS50 dX7_next_69 (fun H locs hP hS => ?_)
          exact w_X7_next_L72 hX _ _ _ _ _ _ hf  hP hS (lv_sub hl [1, 0] rfl)
      · replace hf := ite_f c39 hf
        refine lv_aload_n hx hb dX7_next_52 rfl (lv_at hl 1 rfl) ?_
        refine lv_iconst (v := 0) hx hb dX7_next_53 (by decide) ?_
        obtain ⟨S51, eS51, hf⟩ := bnd_some hf
        refine pf_X7_99 hC hP hS k_158 eS51 dX7_next_54 (fun H locs hP hS => ?_)
        refine lv_goto (tgt := 267) hx hb dX7_next_57 (by decide) ?_
        exact pg_vret hC hr hlk hP hS hf dX7_next_267
    · replace hf := ite_t c33 hf
      refine lv_aload_n hx hb dX7_next_13 rfl (lv_at hl 0 rfl) ?_
      refine lv_dup hx hb dX7_next_14 rfl ?_
      refine gf_X7_86 hC hP k_158 (v := .int (gI S30 716 158)) rfl dX7_next_15 ?_
      refine lv_iconst (v := 1) hx hb dX7_next_18 (by decide) ?_
      refine lv_iadd hx hb dX7_next_19 ?_
      obtain ⟨S52, eS52, hf⟩ := bnd_some hf
      refine pf_X7_86 hC hP hS k_158 eS52 dX7_next_20 (fun H locs hP hS => ?_)
      refine lv_goto (tgt := 0) hx hb dX7_next_23 (by decide) ?_
      exact ih _  _ _ _ hf  hP hS (lv_sub hl [0] rfl)
def P_X7_next (N : Nat) (S : PSt) : Option PSt := P_X7_next_L0 N N S
set_option maxHeartbeats 4000000 in
set_option maxRecDepth 100000 in
theorem c_X7_next (l : Launch) {D : va_G} {cy : Nat → ClassId} {ad tb : Nat → Nat} (hJ : pJ ad) {N : Nat} {S S' : PSt} (hf : P_X7_next N S = some S') : Ct l 3 yX7_next cX7_next 2 none D cy ad tb S S' [.ref (ad 158)] none := by
  refine Ct_of hJ (by decide) (Nat.le_of_ble_eq_true rfl) (fun p e s m below meth c ls hX hP hS hl => ?_)
  have hl : lv_has ls 2 [(0, .ref (ad 158))] := hl
  have hX0 := hX
  obtain ⟨hC, hml, hr, hlk⟩ := hX0
  have hx := hC.1
  have hb := hC.2.1
  unfold P_X7_next at hf
  exact w_X7_next_L0 hX _ _  _ _ _ hf  hP hS (lv_sub hl [0] rfl)
def P_X7_reads_L46 (N : Nat) (S : PSt) (a1 : Nat) (x2 : Int32) (x5 : Int32) (y1 : Int32) : Option PSt := gd (z1 y1) <| bnd (sI S 720 158 y1) fun S1 => if x5 = (0 : Int32) then (some S1) else (gd (bin x2 (ln a1)) <| bnd (sA S1 a1 x2.toNatClampNeg (gI S1 719 158)) fun S5 => cal1 (P_X7_next N S5) fun S6 => some S6)
set_option maxHeartbeats 4000000 in
set_option maxRecDepth 100000 in
theorem w_X7_reads_L46 {N : Nat} {S' : PSt} (hX : Mx p s m args c meth cX7_reads RX7 6 none D cy ad tb) : ∀ (S : PSt) (a1 : Nat) (x2 : Int32) (x5 : Int32) (y1 : Int32) (H : Heap) (locs : List Loc) (ls : Array Slot), P_X7_reads_L46 N S a1 x2 x5 y1 = some S' → kd a1 = 8 → va_P D vwCl (pW cy ad S) H → va_S (pA ad s.heap.size) s.heap H locs → lv_has ls 6 [(0, .ref (ad 158)), (1, .ref (ad a1)), (2, .int x2), (5, .int x5)] → W p l e (rmd 4) s m args below meth c H locs 0 0 (Qz D cy ad below args s S' none) (F0 m 46 ls [.int y1, .ref (ad 158)]) := by
  have hX0 := hX
  obtain ⟨hC, hml, hr, hlk⟩ := hX0
  have hx := hC.1
  have hb := hC.2.1
  intro S a1 x2 x5 y1 H locs ls hf h_a1 hP hS hl
  unfold P_X7_reads_L46 at hf
  obtain ⟨h2, hf⟩ := gd_some hf
  obtain ⟨S1, eS1, hf⟩ := bnd_some hf
  refine pf_X7_108 hC hP hS k_158 (z1_or h2) eS1 dX7_reads_46 (fun H locs hP hS => ?_)
  refine lv_iload hx hb dX7_reads_49 (lv_at hl 3 rfl) ?_
  refine lv_if_eq (tgt := 65) hx hb dX7_reads_51 (by decide) (fun c3 => ?_) (fun c3 => ?_)
  · replace hf := ite_t c3 hf
    exact pg_vret hC hr hlk hP hS hf dX7_reads_65
  · replace hf := ite_f c3 hf
    refine lv_aload_n hx hb dX7_reads_54 rfl (lv_at hl 1 rfl) ?_
    refine lv_iload_n hx hb dX7_reads_55 rfl (lv_at hl 2 rfl) ?_
    refine lv_aload_n hx hb dX7_reads_56 rfl (lv_at hl 0 rfl) ?_
    refine gf_X7_96 hC hP k_158 (v := .int (gI S1 719 158)) rfl dX7_reads_57 ?_
    obtain ⟨h4, hf⟩ := gd_some hf
    obtain ⟨S5, eS5, hf⟩ := bnd_some hf
    refine pg_iast hC hP hS h_a1 (bin_in h4) dX7_reads_60 (fun H locs hP hS => ?_)
    rw [← eS5] at hP
    refine lv_aload_n hx hb dX7_reads_61 rfl (lv_at hl 0 rfl) ?_
    obtain ⟨S6, q7, hf⟩ := cal1_some hf
    refine pg_callV (As := []) (rest := []) (st1 := []) (ci := 7) hC hml hP hS (c_X7_next l hC.2.2.2.2.2.1 q7) ⟨by decide, by decide, rfl, rfl⟩ ⟨rfl, rfl⟩ (by decide) rfl (by decide) k_158 rfl rfl ⟨mk_X7_112, mi_X7_next⟩ hd_X7_next rfl hl.1 (Nat.le_of_ble_eq_true rfl) dX7_reads_62 (fun H locs hP hS => ?_)
    exact pg_vret hC hr hlk hP hS hf dX7_reads_65
def P_X7_reads_L33 (N : Nat) (S : PSt) (a1 : Nat) (x2 : Int32) (y0 : Int32) : Option PSt := if y0 = (0 : Int32) then (P_X7_reads_L46 N S a1 x2 y0 (1 : Int32)) else (P_X7_reads_L46 N S a1 x2 y0 (0 : Int32))
set_option maxHeartbeats 4000000 in
set_option maxRecDepth 100000 in
theorem w_X7_reads_L33 {N : Nat} {S' : PSt} (hX : Mx p s m args c meth cX7_reads RX7 6 none D cy ad tb) : ∀ (S : PSt) (a1 : Nat) (x2 : Int32) (y0 : Int32) (H : Heap) (locs : List Loc) (ls : Array Slot), P_X7_reads_L33 N S a1 x2 y0 = some S' → kd a1 = 8 → va_P D vwCl (pW cy ad S) H → va_S (pA ad s.heap.size) s.heap H locs → lv_has ls 6 [(0, .ref (ad 158)), (1, .ref (ad a1)), (2, .int x2)] → W p l e (rmd 4) s m args below meth c H locs 0 0 (Qz D cy ad below args s S' none) (F0 m 33 ls [.int y0]) := by
  have hX0 := hX
  obtain ⟨hC, hml, hr, hlk⟩ := hX0
  have hx := hC.1
  have hb := hC.2.1
  intro S a1 x2 y0 H locs ls hf h_a1 hP hS hl
  unfold P_X7_reads_L33 at hf
  refine lv_istore (lv' := [(5, .int y0), (0, .ref (ad 158)), (1, .ref (ad a1)), (2, .int x2)]) hx hb dX7_reads_33 hl (by decide) rfl (fun ls hl => ?_)
  refine lv_aload_n hx hb dX7_reads_35 rfl (lv_at hl 1 rfl) ?_
  refine lv_iload hx hb dX7_reads_36 (lv_at hl 0 rfl) ?_
  refine lv_if_ne (tgt := 45) hx hb dX7_reads_38 (by decide) (fun c8 => ?_) (fun c8 => ?_)
  · replace hf := ite_f c8 hf
    refine lv_iconst (v := 0) hx hb dX7_reads_45 (by decide) ?_
    exact w_X7_reads_L46 hX _ _ _ _ _ _ _ _ hf h_a1 hP hS (lv_sub hl [1, 2, 3, 0] rfl)
  · replace hf := ite_t c8 hf
    refine lv_iconst (v := 1) hx hb dX7_reads_41 (by decide) ?_
    refine lv_goto (tgt := 46) hx hb dX7_reads_42 (by decide) ?_
    exact w_X7_reads_L46 hX _ _ _ _ _ _ _ _ hf h_a1 hP hS (lv_sub hl [1, 2, 3, 0] rfl)
def P_X7_reads_L32 (N : Nat) (S : PSt) (a1 : Nat) (x2 : Int32) : Option PSt := P_X7_reads_L33 N S a1 x2 (0 : Int32)
set_option maxHeartbeats 4000000 in
set_option maxRecDepth 100000 in
theorem w_X7_reads_L32 {N : Nat} {S' : PSt} (hX : Mx p s m args c meth cX7_reads RX7 6 none D cy ad tb) : ∀ (S : PSt) (a1 : Nat) (x2 : Int32) (H : Heap) (locs : List Loc) (ls : Array Slot), P_X7_reads_L32 N S a1 x2 = some S' → kd a1 = 8 → va_P D vwCl (pW cy ad S) H → va_S (pA ad s.heap.size) s.heap H locs → lv_has ls 6 [(0, .ref (ad 158)), (1, .ref (ad a1)), (2, .int x2)] → W p l e (rmd 4) s m args below meth c H locs 0 0 (Qz D cy ad below args s S' none) (F0 m 32 ls []) := by
  have hX0 := hX
  obtain ⟨hC, hml, hr, hlk⟩ := hX0
  have hx := hC.1
  have hb := hC.2.1
  intro S a1 x2 H locs ls hf h_a1 hP hS hl
  unfold P_X7_reads_L32 at hf
  refine lv_iconst (v := 0) hx hb dX7_reads_32 (by decide) ?_
  exact w_X7_reads_L33 hX _ _ _ _ _ _ _ hf h_a1 hP hS (lv_sub hl [0, 1, 2] rfl)
def P_X7_reads (N : Nat) (S : PSt) (a1 : Nat) (x2 : Int32) (x3 : Int32) (x4 : Int32) : Option PSt := if (gI S 720 158) = (0 : Int32) then (if (gI S 718 158) = (2 : Int32) then (cal2 (P_X7_in N S (gI S 719 158) x3 x4) fun r13 S11 => if r13 = (0 : Int32) then (P_X7_reads_L32 N S11 a1 x2) else (P_X7_reads_L33 N S11 a1 x2 (1 : Int32))) else (P_X7_reads_L32 N S a1 x2)) else (P_X7_reads_L32 N S a1 x2)
set_option maxHeartbeats 4000000 in
set_option maxRecDepth 100000 in
theorem c_X7_reads (l : Launch) {D : va_G} {cy : Nat → ClassId} {ad tb : Nat → Nat} (hJ : pJ ad) {N : Nat} {S S' : PSt} {a1 : Nat} {x2 : Int32} {x3 : Int32} {x4 : Int32} (hf : P_X7_reads N S a1 x2 x3 x4 = some S') (h_a1 : kd a1 = 8) : Ct l 4 yX7_reads cX7_reads 6 none D cy ad tb S S' [.ref (ad 158), .ref (ad a1), .int x2, .int x3, .int x4] none := by
  refine Ct_of hJ (by decide) (Nat.le_of_ble_eq_true rfl) (fun p e s m below meth c ls hX hP hS hl => ?_)
  have hl : lv_has ls 6 [(0, .ref (ad 158)), (1, .ref (ad a1)), (2, .int x2), (3, .int x3), (4, .int x4)] := hl
  have hX0 := hX
  obtain ⟨hC, hml, hr, hlk⟩ := hX0
  have hx := hC.1
  have hb := hC.2.1
  unfold P_X7_reads at hf
  refine lv_aload_n hx hb dX7_reads_0 rfl (lv_at hl 0 rfl) ?_
  refine gf_X7_108 hC hP k_158 (v := .int (gI S 720 158)) rfl dX7_reads_1 ?_
  refine lv_if_ne (tgt := 32) hx hb dX7_reads_4 (by decide) (fun c9 => ?_) (fun c9 => ?_)
  · replace hf := ite_f c9 hf
    exact w_X7_reads_L32 hX _ _ _ _ _ _ hf h_a1 hP hS (lv_sub hl [0, 1, 2] rfl)
  · replace hf := ite_t c9 hf
    refine lv_aload_n hx hb dX7_reads_7 rfl (lv_at hl 0 rfl) ?_
    refine gf_X7_99 hC hP k_158 (v := .int (gI S 718 158)) rfl dX7_reads_8 ?_
    refine lv_iconst (v := 2) hx hb dX7_reads_11 (by decide) ?_
    refine lv_icmp_ne (tgt := 32) hx hb dX7_reads_12 (by decide) (fun c10 => ?_) (fun c10 => ?_)
    · replace hf := ite_f c10 hf
      exact w_X7_reads_L32 hX _ _ _ _ _ _ hf h_a1 hP hS (lv_sub hl [0, 1, 2] rfl)
    · replace hf := ite_t c10 hf
      refine lv_aload_n hx hb dX7_reads_15 rfl (lv_at hl 0 rfl) ?_
      refine gf_X7_96 hC hP k_158 (v := .int (gI S 719 158)) rfl dX7_reads_16 ?_
      refine lv_iload_n hx hb dX7_reads_19 rfl (lv_at hl 3 rfl) ?_
      refine lv_iload hx hb dX7_reads_20 (lv_at hl 4 rfl) ?_
      obtain ⟨r13, S11, q12, hf⟩ := cal2_some hf
      refine pg_callS (As := [.int (gI S 719 158), .int x3, .int x4]) (rest := []) (st1 := [.int r13]) hC hml hP hS (c_X7_in l hC.2.2.2.2.2.1 q12) ⟨by decide, by decide, rfl, rfl⟩ ⟨rfl, rfl⟩ (by decide) rfl rfl ⟨mk_X7_72, mi_X7_in⟩ hd_X7_in rfl hl.1 (Nat.le_of_ble_eq_true rfl) dX7_reads_22 (fun H locs hP hS => ?_)
      refine lv_if_eq (tgt := 32) hx hb dX7_reads_25 (by decide) (fun c14 => ?_) (fun c14 => ?_)
      · replace hf := ite_t c14 hf
        exact w_X7_reads_L32 hX _ _ _ _ _ _ hf h_a1 hP hS (lv_sub hl [0, 1, 2] rfl)
      · replace hf := ite_f c14 hf
        refine lv_iconst (v := 1) hx hb dX7_reads_28 (by decide) ?_
        refine lv_goto (tgt := 33) hx hb dX7_reads_29 (by decide) ?_
        exact w_X7_reads_L33 hX _ _ _ _ _ _ _ hf h_a1 hP hS (lv_sub hl [0, 1, 2] rfl)
def P_X7_readWalker (N : Nat) (S : PSt) : Option PSt := bnd ((2 : Int32) * (gI S 721 158)) fun v1 => cal1 (P_X7_reads N S 167 v1 (1 : Int32) (9 : Int32)) fun S2 => cal1 (P_X7_reads N S2 167 (v1 + (1 : Int32)) (1 : Int32) (40 : Int32)) fun S4 => bnd (sI S4 721 158 ((gI S4 721 158) + (1 : Int32))) fun S6 => some S6
set_option maxHeartbeats 4000000 in
set_option maxRecDepth 100000 in
theorem c_X7_readWalker (l : Launch) {D : va_G} {cy : Nat → ClassId} {ad tb : Nat → Nat} (hJ : pJ ad) {N : Nat} {S S' : PSt} (hf : P_X7_readWalker N S = some S') : Ct l 5 yX7_readWalker cX7_readWalker 2 none D cy ad tb S S' [.ref (ad 158)] none := by
  refine Ct_of hJ (by decide) (Nat.le_of_ble_eq_true rfl) (fun p e s m below meth c ls hX hP hS hl => ?_)
  have hl : lv_has ls 2 [(0, .ref (ad 158))] := hl
  have hX0 := hX
  obtain ⟨hC, hml, hr, hlk⟩ := hX0
  have hx := hC.1
  have hb := hC.2.1
  unfold P_X7_readWalker at hf
  refine lv_iconst (v := 2) hx hb dX7_readWalker_0 (by decide) ?_
  refine lv_aload_n hx hb dX7_readWalker_1 rfl (lv_at hl 0 rfl) ?_
  refine gf_X7_115 hC hP k_158 (v := .int (gI S 721 158)) rfl dX7_readWalker_2 ?_
  refine lv_imul hx hb dX7_readWalker_5 ?_
  obtain ⟨v1, ev1, hf⟩ := bnd_some hf
  refine pg_top ev1 ?_
  refine lv_istore_n (lv' := [(1, .int v1), (0, .ref (ad 158))]) hx hb dX7_readWalker_6 rfl hl (by decide) rfl (fun ls hl => ?_)
  refine lv_aload_n hx hb dX7_readWalker_7 rfl (lv_at hl 1 rfl) ?_
  refine lv_aload_n hx hb dX7_readWalker_8 rfl (lv_at hl 1 rfl) ?_
  refine gf_X7_39 hC hP k_158 (v := .ref (ad 167)) rfl dX7_readWalker_9 ?_
  refine lv_iload_n hx hb dX7_readWalker_12 rfl (lv_at hl 0 rfl) ?_
  refine lv_iconst (v := 1) hx hb dX7_readWalker_13 (by decide) ?_
  refine lv_bipush (v := 9) hx hb dX7_readWalker_14 (by decide) ?_
  obtain ⟨S2, q3, hf⟩ := cal1_some hf
  refine pg_callV (As := [.ref (ad 167), .int v1, .int (1 : Int32), .int (9 : Int32)]) (rest := []) (st1 := []) (ci := 7) hC hml hP hS (c_X7_reads l hC.2.2.2.2.2.1 q3 k_167) ⟨by decide, by decide, rfl, rfl⟩ ⟨rfl, rfl⟩ (by decide) rfl (by decide) k_158 rfl rfl ⟨mk_X7_118, mi_X7_reads⟩ hd_X7_reads rfl hl.1 (Nat.le_of_ble_eq_true rfl) dX7_readWalker_16 (fun H locs hP hS => ?_)
  refine lv_aload_n hx hb dX7_readWalker_19 rfl (lv_at hl 1 rfl) ?_
  refine lv_aload_n hx hb dX7_readWalker_20 rfl (lv_at hl 1 rfl) ?_
  refine gf_X7_39 hC hP k_158 (v := .ref (ad 167)) rfl dX7_readWalker_21 ?_
  refine lv_iload_n hx hb dX7_readWalker_24 rfl (lv_at hl 0 rfl) ?_
  refine lv_iconst (v := 1) hx hb dX7_readWalker_25 (by decide) ?_
  refine lv_iadd hx hb dX7_readWalker_26 ?_
  refine lv_iconst (v := 1) hx hb dX7_readWalker_27 (by decide) ?_
  refine lv_bipush (v := 40) hx hb dX7_readWalker_28 (by decide) ?_
  obtain ⟨S4, q5, hf⟩ := cal1_some hf
  refine pg_callV (As := [.ref (ad 167), .int (v1 + (1 : Int32)), .int (1 : Int32), .int (40 : Int32)]) (rest := []) (st1 := []) (ci := 7) hC hml hP hS (c_X7_reads l hC.2.2.2.2.2.1 q5 k_167) ⟨by decide, by decide, rfl, rfl⟩ ⟨rfl, rfl⟩ (by decide) rfl (by decide) k_158 rfl rfl ⟨mk_X7_118, mi_X7_reads⟩ hd_X7_reads rfl hl.1 (Nat.le_of_ble_eq_true rfl) dX7_readWalker_30 (fun H locs hP hS => ?_)
  refine lv_aload_n hx hb dX7_readWalker_33 rfl (lv_at hl 1 rfl) ?_
  refine lv_dup hx hb dX7_readWalker_34 rfl ?_
  refine gf_X7_115 hC hP k_158 (v := .int (gI S4 721 158)) rfl dX7_readWalker_35 ?_
  refine lv_iconst (v := 1) hx hb dX7_readWalker_38 (by decide) ?_
  refine lv_iadd hx hb dX7_readWalker_39 ?_
  obtain ⟨S6, eS6, hf⟩ := bnd_some hf
  refine pf_X7_115 hC hP hS k_158 eS6 dX7_readWalker_40 (fun H locs hP hS => ?_)
  exact pg_vret hC hr hlk hP hS hf dX7_readWalker_43
def P_X7_readStretch (N : Nat) (S : PSt) : Option PSt := bnd ((4 : Int32) * (gI S 723 158)) fun v1 => cal1 (P_X7_reads N S 168 v1 (1 : Int32) (9 : Int32)) fun S2 => cal1 (P_X7_reads N S2 168 (v1 + (1 : Int32)) (2 : Int32) (18 : Int32)) fun S4 => cal1 (P_X7_reads N S4 168 (v1 + (2 : Int32)) (0 : Int32) (1 : Int32)) fun S6 => cal1 (P_X7_reads N S6 168 (v1 + (3 : Int32)) (0 : Int32) (1 : Int32)) fun S8 => bnd (sI S8 723 158 ((gI S8 723 158) + (1 : Int32))) fun S10 => some S10
set_option maxHeartbeats 4000000 in
set_option maxRecDepth 100000 in
theorem c_X7_readStretch (l : Launch) {D : va_G} {cy : Nat → ClassId} {ad tb : Nat → Nat} (hJ : pJ ad) {N : Nat} {S S' : PSt} (hf : P_X7_readStretch N S = some S') : Ct l 5 yX7_readStretch cX7_readStretch 2 none D cy ad tb S S' [.ref (ad 158)] none := by
  refine Ct_of hJ (by decide) (Nat.le_of_ble_eq_true rfl) (fun p e s m below meth c ls hX hP hS hl => ?_)
  have hl : lv_has ls 2 [(0, .ref (ad 158))] := hl
  have hX0 := hX
  obtain ⟨hC, hml, hr, hlk⟩ := hX0
  have hx := hC.1
  have hb := hC.2.1
  unfold P_X7_readStretch at hf
  refine lv_iconst (v := 4) hx hb dX7_readStretch_0 (by decide) ?_
  refine lv_aload_n hx hb dX7_readStretch_1 rfl (lv_at hl 0 rfl) ?_
  refine gf_X7_122 hC hP k_158 (v := .int (gI S 723 158)) rfl dX7_readStretch_2 ?_
  refine lv_imul hx hb dX7_readStretch_5 ?_
  obtain ⟨v1, ev1, hf⟩ := bnd_some hf
  refine pg_top ev1 ?_
  refine lv_istore_n (lv' := [(1, .int v1), (0, .ref (ad 158))]) hx hb dX7_readStretch_6 rfl hl (by decide) rfl (fun ls hl => ?_)
  refine lv_aload_n hx hb dX7_readStretch_7 rfl (lv_at hl 1 rfl) ?_
  refine lv_aload_n hx hb dX7_readStretch_8 rfl (lv_at hl 1 rfl) ?_
  refine gf_X7_42 hC hP k_158 (v := .ref (ad 168)) rfl dX7_readStretch_9 ?_
  refine lv_iload_n hx hb dX7_readStretch_12 rfl (lv_at hl 0 rfl) ?_
  refine lv_iconst (v := 1) hx hb dX7_readStretch_13 (by decide) ?_
  refine lv_bipush (v := 9) hx hb dX7_readStretch_14 (by decide) ?_
  obtain ⟨S2, q3, hf⟩ := cal1_some hf
  refine pg_callV (As := [.ref (ad 168), .int v1, .int (1 : Int32), .int (9 : Int32)]) (rest := []) (st1 := []) (ci := 7) hC hml hP hS (c_X7_reads l hC.2.2.2.2.2.1 q3 k_168) ⟨by decide, by decide, rfl, rfl⟩ ⟨rfl, rfl⟩ (by decide) rfl (by decide) k_158 rfl rfl ⟨mk_X7_118, mi_X7_reads⟩ hd_X7_reads rfl hl.1 (Nat.le_of_ble_eq_true rfl) dX7_readStretch_16 (fun H locs hP hS => ?_)
  refine lv_aload_n hx hb dX7_readStretch_19 rfl (lv_at hl 1 rfl) ?_
  refine lv_aload_n hx hb dX7_readStretch_20 rfl (lv_at hl 1 rfl) ?_
  refine gf_X7_42 hC hP k_158 (v := .ref (ad 168)) rfl dX7_readStretch_21 ?_
  refine lv_iload_n hx hb dX7_readStretch_24 rfl (lv_at hl 0 rfl) ?_
  refine lv_iconst (v := 1) hx hb dX7_readStretch_25 (by decide) ?_
  refine lv_iadd hx hb dX7_readStretch_26 ?_
  refine lv_iconst (v := 2) hx hb dX7_readStretch_27 (by decide) ?_
  refine lv_bipush (v := 18) hx hb dX7_readStretch_28 (by decide) ?_
  obtain ⟨S4, q5, hf⟩ := cal1_some hf
  refine pg_callV (As := [.ref (ad 168), .int (v1 + (1 : Int32)), .int (2 : Int32), .int (18 : Int32)]) (rest := []) (st1 := []) (ci := 7) hC hml hP hS (c_X7_reads l hC.2.2.2.2.2.1 q5 k_168) ⟨by decide, by decide, rfl, rfl⟩ ⟨rfl, rfl⟩ (by decide) rfl (by decide) k_158 rfl rfl ⟨mk_X7_118, mi_X7_reads⟩ hd_X7_reads rfl hl.1 (Nat.le_of_ble_eq_true rfl) dX7_readStretch_30 (fun H locs hP hS => ?_)
  refine lv_aload_n hx hb dX7_readStretch_33 rfl (lv_at hl 1 rfl) ?_
  refine lv_aload_n hx hb dX7_readStretch_34 rfl (lv_at hl 1 rfl) ?_
  refine gf_X7_42 hC hP k_158 (v := .ref (ad 168)) rfl dX7_readStretch_35 ?_
  refine lv_iload_n hx hb dX7_readStretch_38 rfl (lv_at hl 0 rfl) ?_
  refine lv_iconst (v := 2) hx hb dX7_readStretch_39 (by decide) ?_
  refine lv_iadd hx hb dX7_readStretch_40 ?_
  refine lv_iconst (v := 0) hx hb dX7_readStretch_41 (by decide) ?_
  refine lv_iconst (v := 1) hx hb dX7_readStretch_42 (by decide) ?_
  obtain ⟨S6, q7, hf⟩ := cal1_some hf
  refine pg_callV (As := [.ref (ad 168), .int (v1 + (2 : Int32)), .int (0 : Int32), .int (1 : Int32)]) (rest := []) (st1 := []) (ci := 7) hC hml hP hS (c_X7_reads l hC.2.2.2.2.2.1 q7 k_168) ⟨by decide, by decide, rfl, rfl⟩ ⟨rfl, rfl⟩ (by decide) rfl (by decide) k_158 rfl rfl ⟨mk_X7_118, mi_X7_reads⟩ hd_X7_reads rfl hl.1 (Nat.le_of_ble_eq_true rfl) dX7_readStretch_43 (fun H locs hP hS => ?_)
  refine lv_aload_n hx hb dX7_readStretch_46 rfl (lv_at hl 1 rfl) ?_
  refine lv_aload_n hx hb dX7_readStretch_47 rfl (lv_at hl 1 rfl) ?_
  refine gf_X7_42 hC hP k_158 (v := .ref (ad 168)) rfl dX7_readStretch_48 ?_
  refine lv_iload_n hx hb dX7_readStretch_51 rfl (lv_at hl 0 rfl) ?_
  refine lv_iconst (v := 3) hx hb dX7_readStretch_52 (by decide) ?_
  refine lv_iadd hx hb dX7_readStretch_53 ?_
  refine lv_iconst (v := 0) hx hb dX7_readStretch_54 (by decide) ?_
  refine lv_iconst (v := 1) hx hb dX7_readStretch_55 (by decide) ?_
  obtain ⟨S8, q9, hf⟩ := cal1_some hf
  refine pg_callV (As := [.ref (ad 168), .int (v1 + (3 : Int32)), .int (0 : Int32), .int (1 : Int32)]) (rest := []) (st1 := []) (ci := 7) hC hml hP hS (c_X7_reads l hC.2.2.2.2.2.1 q9 k_168) ⟨by decide, by decide, rfl, rfl⟩ ⟨rfl, rfl⟩ (by decide) rfl (by decide) k_158 rfl rfl ⟨mk_X7_118, mi_X7_reads⟩ hd_X7_reads rfl hl.1 (Nat.le_of_ble_eq_true rfl) dX7_readStretch_56 (fun H locs hP hS => ?_)
  refine lv_aload_n hx hb dX7_readStretch_59 rfl (lv_at hl 1 rfl) ?_
  refine lv_dup hx hb dX7_readStretch_60 rfl ?_
  refine gf_X7_122 hC hP k_158 (v := .int (gI S8 723 158)) rfl dX7_readStretch_61 ?_
  refine lv_iconst (v := 1) hx hb dX7_readStretch_64 (by decide) ?_
  refine lv_iadd hx hb dX7_readStretch_65 ?_
  obtain ⟨S10, eS10, hf⟩ := bnd_some hf
  refine pf_X7_122 hC hP hS k_158 eS10 dX7_readStretch_66 (fun H locs hP hS => ?_)
  exact pg_vret hC hr hlk hP hS hf dX7_readStretch_69
def P_X7_readItem_L177 (N : Nat) (S : PSt) (y1 : Int32) : Option PSt := gd (z1 y1) <| bnd (sI S 720 158 y1) fun S1 => if (gI S1 720 158) = (0 : Int32) then (cal1 (P_X7_next N S1) fun S4 => some S4) else (some S1)
set_option maxHeartbeats 4000000 in
set_option maxRecDepth 100000 in
theorem w_X7_readItem_L177 {N : Nat} {S' : PSt} (hX : Mx p s m args c meth cX7_readItem RX7 3 none D cy ad tb) : ∀ (S : PSt) (y1 : Int32) (H : Heap) (locs : List Loc) (ls : Array Slot), P_X7_readItem_L177 N S y1 = some S' → va_P D vwCl (pW cy ad S) H → va_S (pA ad s.heap.size) s.heap H locs → lv_has ls 3 [(0, .ref (ad 158))] → W p l e (rmd 6) s m args below meth c H locs 0 0 (Qz D cy ad below args s S' none) (F0 m 177 ls [.int y1, .ref (ad 158)]) := by
  have hX0 := hX
  obtain ⟨hC, hml, hr, hlk⟩ := hX0
  have hx := hC.1
  have hb := hC.2.1
  intro S y1 H locs ls hf  hP hS hl
  unfold P_X7_readItem_L177 at hf
  obtain ⟨h2, hf⟩ := gd_some hf
  obtain ⟨S1, eS1, hf⟩ := bnd_some hf
  refine pf_X7_108 hC hP hS k_158 (z1_or h2) eS1 dX7_readItem_177 (fun H locs hP hS => ?_)
  refine lv_aload_n hx hb dX7_readItem_180 rfl (lv_at hl 0 rfl) ?_
  refine gf_X7_108 hC hP k_158 (v := .int (gI S1 720 158)) rfl dX7_readItem_181 ?_
  refine lv_if_ne (tgt := 191) hx hb dX7_readItem_184 (by decide) (fun c3 => ?_) (fun c3 => ?_)
  · replace hf := ite_f c3 hf
    exact pg_vret hC hr hlk hP hS hf dX7_readItem_191
  · replace hf := ite_t c3 hf
    refine lv_aload_n hx hb dX7_readItem_187 rfl (lv_at hl 0 rfl) ?_
    obtain ⟨S4, q5, hf⟩ := cal1_some hf
    refine pg_callV (As := []) (rest := []) (st1 := []) (ci := 7) hC hml hP hS (c_X7_next l hC.2.2.2.2.2.1 q5) ⟨by decide, by decide, rfl, rfl⟩ ⟨rfl, rfl⟩ (by decide) rfl (by decide) k_158 rfl rfl ⟨mk_X7_112, mi_X7_next⟩ hd_X7_next rfl hl.1 (Nat.le_of_ble_eq_true rfl) dX7_readItem_188 (fun H locs hP hS => ?_)
    exact pg_vret hC hr hlk hP hS hf dX7_readItem_191
def P_X7_readItem_L172 (N : Nat) (S : PSt) : Option PSt := P_X7_readItem_L177 N S (1 : Int32)
set_option maxHeartbeats 4000000 in
set_option maxRecDepth 100000 in
theorem w_X7_readItem_L172 {N : Nat} {S' : PSt} (hX : Mx p s m args c meth cX7_readItem RX7 3 none D cy ad tb) : ∀ (S : PSt) (H : Heap) (locs : List Loc) (ls : Array Slot), P_X7_readItem_L172 N S  = some S' → va_P D vwCl (pW cy ad S) H → va_S (pA ad s.heap.size) s.heap H locs → lv_has ls 3 [(0, .ref (ad 158))] → W p l e (rmd 6) s m args below meth c H locs 0 0 (Qz D cy ad below args s S' none) (F0 m 172 ls [.ref (ad 158)]) := by
  have hX0 := hX
  obtain ⟨hC, hml, hr, hlk⟩ := hX0
  have hx := hC.1
  have hb := hC.2.1
  intro S  H locs ls hf  hP hS hl
  unfold P_X7_readItem_L172 at hf
  refine lv_iconst (v := 1) hx hb dX7_readItem_172 (by decide) ?_
  refine lv_goto (tgt := 177) hx hb dX7_readItem_173 (by decide) ?_
  exact w_X7_readItem_L177 hX _ _ _ _ _ hf  hP hS (lv_sub hl [0] rfl)
def P_X7_readItem_L156 (N : Nat) (S : PSt) : Option PSt := if (gI S 720 158) = (0 : Int32) then (if (gI S 718 158) = (3 : Int32) then (P_X7_readItem_L177 N S (0 : Int32)) else (P_X7_readItem_L172 N S)) else (P_X7_readItem_L172 N S)
set_option maxHeartbeats 4000000 in
set_option maxRecDepth 100000 in
theorem w_X7_readItem_L156 {N : Nat} {S' : PSt} (hX : Mx p s m args c meth cX7_readItem RX7 3 none D cy ad tb) : ∀ (S : PSt) (H : Heap) (locs : List Loc) (ls : Array Slot), P_X7_readItem_L156 N S  = some S' → va_P D vwCl (pW cy ad S) H → va_S (pA ad s.heap.size) s.heap H locs → lv_has ls 3 [(0, .ref (ad 158))] → W p l e (rmd 6) s m args below meth c H locs 0 0 (Qz D cy ad below args s S' none) (F0 m 156 ls []) := by
  have hX0 := hX
  obtain ⟨hC, hml, hr, hlk⟩ := hX0
  have hx := hC.1
  have hb := hC.2.1
  intro S  H locs ls hf  hP hS hl
  unfold P_X7_readItem_L156 at hf
  refine lv_aload_n hx hb dX7_readItem_156 rfl (lv_at hl 0 rfl) ?_
  refine lv_aload_n hx hb dX7_readItem_157 rfl (lv_at hl 0 rfl) ?_
  refine gf_X7_108 hC hP k_158 (v := .int (gI S 720 158)) rfl dX7_readItem_158 ?_
  refine lv_if_ne (tgt := 172) hx hb dX7_readItem_161 (by decide) (fun c6 => ?_) (fun c6 => ?_)
  · replace hf := ite_f c6 hf
    exact w_X7_readItem_L172 hX _  _ _ _ hf  hP hS (lv_sub hl [0] rfl)
  · replace hf := ite_t c6 hf
    refine lv_aload_n hx hb dX7_readItem_164 rfl (lv_at hl 0 rfl) ?_
    refine gf_X7_99 hC hP k_158 (v := .int (gI S 718 158)) rfl dX7_readItem_165 ?_
    refine lv_iconst (v := 3) hx hb dX7_readItem_168 (by decide) ?_
    refine lv_icmp_eq (tgt := 176) hx hb dX7_readItem_169 (by decide) (fun c7 => ?_) (fun c7 => ?_)
    · replace hf := ite_t c7 hf
      refine lv_iconst (v := 0) hx hb dX7_readItem_176 (by decide) ?_
      exact w_X7_readItem_L177 hX _ _ _ _ _ hf  hP hS (lv_sub hl [0] rfl)
    · replace hf := ite_f c7 hf
      exact w_X7_readItem_L172 hX _  _ _ _ hf  hP hS (lv_sub hl [0] rfl)
def P_X7_readItem_L81 (N : Nat) (S : PSt) (x1 : Int32) (y0 : Int32) : Option PSt := if y0 = (0 : Int32) then (bnd (sI S 720 158 (1 : Int32)) fun S22 => some S22) else (cal1 (P_X7_next N S) fun S9 => if x1 = (119 : Int32) then (cal1 (P_X7_readWalker N S9) fun S20 => P_X7_readItem_L156 N S20) else (if x1 = (116 : Int32) then (cal1 (P_X7_readStretch N S9) fun S18 => P_X7_readItem_L156 N S18) else (if x1 = (99 : Int32) then (cal1 (P_X7_reads N S9 169 (0 : Int32) (0 : Int32) (9 : Int32)) fun S16 => P_X7_readItem_L156 N S16) else (cal1 (P_X7_reads N S9 169 (1 : Int32) (10 : Int32) (99 : Int32)) fun S14 => P_X7_readItem_L156 N S14))))
set_option maxHeartbeats 4000000 in
set_option maxRecDepth 100000 in
theorem w_X7_readItem_L81 {N : Nat} {S' : PSt} (hX : Mx p s m args c meth cX7_readItem RX7 3 none D cy ad tb) : ∀ (S : PSt) (x1 : Int32) (y0 : Int32) (H : Heap) (locs : List Loc) (ls : Array Slot), P_X7_readItem_L81 N S x1 y0 = some S' → va_P D vwCl (pW cy ad S) H → va_S (pA ad s.heap.size) s.heap H locs → lv_has ls 3 [(0, .ref (ad 158)), (1, .int x1)] → W p l e (rmd 6) s m args below meth c H locs 0 0 (Qz D cy ad below args s S' none) (F0 m 81 ls [.int y0]) := by
  have hX0 := hX
  obtain ⟨hC, hml, hr, hlk⟩ := hX0
  have hx := hC.1
  have hb := hC.2.1
  intro S x1 y0 H locs ls hf  hP hS hl
  unfold P_X7_readItem_L81 at hf
  refine lv_istore_n (lv' := [(2, .int y0), (0, .ref (ad 158)), (1, .int x1)]) hx hb dX7_readItem_81 rfl hl (by decide) rfl (fun ls hl => ?_)
  refine lv_iload_n hx hb dX7_readItem_82 rfl (lv_at hl 0 rfl) ?_
  refine lv_if_ne (tgt := 92) hx hb dX7_readItem_83 (by decide) (fun c8 => ?_) (fun c8 => ?_)
  · replace hf := ite_f c8 hf
    refine lv_aload_n hx hb dX7_readItem_92 rfl (lv_at hl 1 rfl) ?_
    obtain ⟨S9, q10, hf⟩ := cal1_some hf
    refine pg_callV (As := []) (rest := []) (st1 := []) (ci := 7) hC hml hP hS (c_X7_next l hC.2.2.2.2.2.1 q10) ⟨by decide, by decide, rfl, rfl⟩ ⟨rfl, rfl⟩ (by decide) rfl (by decide) k_158 rfl rfl ⟨mk_X7_112, mi_X7_next⟩ hd_X7_next rfl hl.1 (Nat.le_of_ble_eq_true rfl) dX7_readItem_93 (fun H locs hP hS => ?_)
    refine lv_iload_n hx hb dX7_readItem_96 rfl (lv_at hl 2 rfl) ?_
    refine lv_bipush (v := 119) hx hb dX7_readItem_97 (by decide) ?_
    refine lv_icmp_ne (tgt := 109) hx hb dX7_readItem_99 (by decide) (fun c11 => ?_) (fun c11 => ?_)
    · replace hf := ite_f c11 hf
      refine lv_iload_n hx hb dX7_readItem_109 rfl (lv_at hl 2 rfl) ?_
      refine lv_bipush (v := 116) hx hb dX7_readItem_110 (by decide) ?_
      refine lv_icmp_ne (tgt := 122) hx hb dX7_readItem_112 (by decide) (fun c12 => ?_) (fun c12 => ?_)
      · replace hf := ite_f c12 hf
        refine lv_iload_n hx hb dX7_readItem_122 rfl (lv_at hl 2 rfl) ?_
        refine lv_bipush (v := 99) hx hb dX7_readItem_123 (by decide) ?_
        refine lv_icmp_ne (tgt := 143) hx hb dX7_readItem_125 (by decide) (fun c13 => ?_) (fun c13 => ?_)
        · replace hf := ite_f c13 hf
          refine lv_aload_n hx hb dX7_readItem_143 rfl (lv_at hl 1 rfl) ?_
          refine lv_aload_n hx hb dX7_readItem_144 rfl (lv_at hl 1 rfl) ?_
          refine gf_X7_45 hC hP k_158 (v := .ref (ad 169)) rfl dX7_readItem_145 ?_
          refine lv_iconst (v := 1) hx hb dX7_readItem_148 (by decide) ?_
          refine lv_bipush (v := 10) hx hb dX7_readItem_149 (by decide) ?_
          refine lv_bipush (v := 99) hx hb dX7_readItem_151 (by decide) ?_
          obtain ⟨S14, q15, hf⟩ := cal1_some hf
          refine pg_callV (As := [.ref (ad 169), .int (1 : Int32), .int (10 : Int32), .int (99 : Int32)]) (rest := []) (st1 := []) (ci := 7) hC hml hP hS (c_X7_reads l hC.2.2.2.2.2.1 q15 k_169) ⟨by decide, by decide, rfl, rfl⟩ ⟨rfl, rfl⟩ (by decide) rfl (by decide) k_158 rfl rfl ⟨mk_X7_118, mi_X7_reads⟩ hd_X7_reads rfl hl.1 (Nat.le_of_ble_eq_true rfl) dX7_readItem_153 (fun H locs hP hS => ?_)
          exact w_X7_readItem_L156 hX _  _ _ _ hf  hP hS (lv_sub hl [1] rfl)
        · replace hf := ite_t c13 hf
          refine lv_aload_n hx hb dX7_readItem_128 rfl (lv_at hl 1 rfl) ?_
          refine lv_aload_n hx hb dX7_readItem_129 rfl (lv_at hl 1 rfl) ?_
          refine gf_X7_45 hC hP k_158 (v := .ref (ad 169)) rfl dX7_readItem_130 ?_
          refine lv_iconst (v := 0) hx hb dX7_readItem_133 (by decide) ?_
          refine lv_iconst (v := 0) hx hb dX7_readItem_134 (by decide) ?_
          refine lv_bipush (v := 9) hx hb dX7_readItem_135 (by decide) ?_
          obtain ⟨S16, q17, hf⟩ := cal1_some hf
          refine pg_callV (As := [.ref (ad 169), .int (0 : Int32), .int (0 : Int32), .int (9 : Int32)]) (rest := []) (st1 := []) (ci := 7) hC hml hP hS (c_X7_reads l hC.2.2.2.2.2.1 q17 k_169) ⟨by decide, by decide, rfl, rfl⟩ ⟨rfl, rfl⟩ (by decide) rfl (by decide) k_158 rfl rfl ⟨mk_X7_118, mi_X7_reads⟩ hd_X7_reads rfl hl.1 (Nat.le_of_ble_eq_true rfl) dX7_readItem_137 (fun H locs hP hS => ?_)
          refine lv_goto (tgt := 156) hx hb dX7_readItem_140 (by decide) ?_
          exact w_X7_readItem_L156 hX _  _ _ _ hf  hP hS (lv_sub hl [1] rfl)
      · replace hf := ite_t c12 hf
        refine lv_aload_n hx hb dX7_readItem_115 rfl (lv_at hl 1 rfl) ?_
        obtain ⟨S18, q19, hf⟩ := cal1_some hf
        refine pg_callV (As := []) (rest := []) (st1 := []) (ci := 7) hC hml hP hS (c_X7_readStretch l hC.2.2.2.2.2.1 q19) ⟨by decide, by decide, rfl, rfl⟩ ⟨rfl, rfl⟩ (by decide) rfl (by decide) k_158 rfl rfl ⟨mk_X7_128, mi_X7_readStretch⟩ hd_X7_readStretch rfl hl.1 (Nat.le_of_ble_eq_true rfl) dX7_readItem_116 (fun H locs hP hS => ?_)
        refine lv_goto (tgt := 156) hx hb dX7_readItem_119 (by decide) ?_
        exact w_X7_readItem_L156 hX _  _ _ _ hf  hP hS (lv_sub hl [1] rfl)
    · replace hf := ite_t c11 hf
      refine lv_aload_n hx hb dX7_readItem_102 rfl (lv_at hl 1 rfl) ?_
      obtain ⟨S20, q21, hf⟩ := cal1_some hf
      refine pg_callV (As := []) (rest := []) (st1 := []) (ci := 7) hC hml hP hS (c_X7_readWalker l hC.2.2.2.2.2.1 q21) ⟨by decide, by decide, rfl, rfl⟩ ⟨rfl, rfl⟩ (by decide) rfl (by decide) k_158 rfl rfl ⟨mk_X7_125, mi_X7_readWalker⟩ hd_X7_readWalker rfl hl.1 (Nat.le_of_ble_eq_true rfl) dX7_readItem_103 (fun H locs hP hS => ?_)
      refine lv_goto (tgt := 156) hx hb dX7_readItem_106 (by decide) ?_
      exact w_X7_readItem_L156 hX _  _ _ _ hf  hP hS (lv_sub hl [1] rfl)
  · replace hf := ite_t c8 hf
    refine lv_aload_n hx hb dX7_readItem_86 rfl (lv_at hl 1 rfl) ?_
    refine lv_iconst (v := 1) hx hb dX7_readItem_87 (by decide) ?_
    obtain ⟨S22, eS22, hf⟩ := bnd_some hf
    refine pf_X7_108 hC hP hS k_158 (by decide) eS22 dX7_readItem_88 (fun H locs hP hS => ?_)
    exact pg_vret hC hr hlk hP hS hf dX7_readItem_91
def P_X7_readItem_L80 (N : Nat) (S : PSt) (x1 : Int32) : Option PSt := P_X7_readItem_L81 N S x1 (0 : Int32)
set_option maxHeartbeats 4000000 in
set_option maxRecDepth 100000 in
theorem w_X7_readItem_L80 {N : Nat} {S' : PSt} (hX : Mx p s m args c meth cX7_readItem RX7 3 none D cy ad tb) : ∀ (S : PSt) (x1 : Int32) (H : Heap) (locs : List Loc) (ls : Array Slot), P_X7_readItem_L80 N S x1 = some S' → va_P D vwCl (pW cy ad S) H → va_S (pA ad s.heap.size) s.heap H locs → lv_has ls 3 [(0, .ref (ad 158)), (1, .int x1)] → W p l e (rmd 6) s m args below meth c H locs 0 0 (Qz D cy ad below args s S' none) (F0 m 80 ls []) := by
  have hX0 := hX
  obtain ⟨hC, hml, hr, hlk⟩ := hX0
  have hx := hC.1
  have hb := hC.2.1
  intro S x1 H locs ls hf  hP hS hl
  unfold P_X7_readItem_L80 at hf
  refine lv_iconst (v := 0) hx hb dX7_readItem_80 (by decide) ?_
  exact w_X7_readItem_L81 hX _ _ _ _ _ _ hf  hP hS (lv_sub hl [0, 1] rfl)
def P_X7_readItem_L76 (N : Nat) (S : PSt) (x1 : Int32) : Option PSt := P_X7_readItem_L81 N S x1 (1 : Int32)
set_option maxHeartbeats 4000000 in
set_option maxRecDepth 100000 in
theorem w_X7_readItem_L76 {N : Nat} {S' : PSt} (hX : Mx p s m args c meth cX7_readItem RX7 3 none D cy ad tb) : ∀ (S : PSt) (x1 : Int32) (H : Heap) (locs : List Loc) (ls : Array Slot), P_X7_readItem_L76 N S x1 = some S' → va_P D vwCl (pW cy ad S) H → va_S (pA ad s.heap.size) s.heap H locs → lv_has ls 3 [(0, .ref (ad 158)), (1, .int x1)] → W p l e (rmd 6) s m args below meth c H locs 0 0 (Qz D cy ad below args s S' none) (F0 m 76 ls []) := by
  have hX0 := hX
  obtain ⟨hC, hml, hr, hlk⟩ := hX0
  have hx := hC.1
  have hb := hC.2.1
  intro S x1 H locs ls hf  hP hS hl
  unfold P_X7_readItem_L76 at hf
  refine lv_iconst (v := 1) hx hb dX7_readItem_76 (by decide) ?_
  refine lv_goto (tgt := 81) hx hb dX7_readItem_77 (by decide) ?_
  exact w_X7_readItem_L81 hX _ _ _ _ _ _ hf  hP hS (lv_sub hl [0, 1] rfl)
def P_X7_readItem_L61 (N : Nat) (S : PSt) (x1 : Int32) : Option PSt := if x1 = (104 : Int32) then (if (0 : Int32) ≤ (gA S 169 (1 : Int32).toNatClampNeg) then (P_X7_readItem_L80 N S x1) else (P_X7_readItem_L76 N S x1)) else (P_X7_readItem_L80 N S x1)
set_option maxHeartbeats 4000000 in
set_option maxRecDepth 100000 in
theorem w_X7_readItem_L61 {N : Nat} {S' : PSt} (hX : Mx p s m args c meth cX7_readItem RX7 3 none D cy ad tb) : ∀ (S : PSt) (x1 : Int32) (H : Heap) (locs : List Loc) (ls : Array Slot), P_X7_readItem_L61 N S x1 = some S' → va_P D vwCl (pW cy ad S) H → va_S (pA ad s.heap.size) s.heap H locs → lv_has ls 3 [(0, .ref (ad 158)), (1, .int x1)] → W p l e (rmd 6) s m args below meth c H locs 0 0 (Qz D cy ad below args s S' none) (F0 m 61 ls []) := by
  have hX0 := hX
  obtain ⟨hC, hml, hr, hlk⟩ := hX0
  have hx := hC.1
  have hb := hC.2.1
  intro S x1 H locs ls hf  hP hS hl
  unfold P_X7_readItem_L61 at hf
  refine lv_iload_n hx hb dX7_readItem_61 rfl (lv_at hl 1 rfl) ?_
  refine lv_bipush (v := 104) hx hb dX7_readItem_62 (by decide) ?_
  refine lv_icmp_ne (tgt := 80) hx hb dX7_readItem_64 (by decide) (fun c23 => ?_) (fun c23 => ?_)
  · replace hf := ite_f c23 hf
    exact w_X7_readItem_L80 hX _ _ _ _ _ hf  hP hS (lv_sub hl [0, 1] rfl)
  · replace hf := ite_t c23 hf
    refine lv_aload_n hx hb dX7_readItem_67 rfl (lv_at hl 0 rfl) ?_
    refine gf_X7_45 hC hP k_158 (v := .ref (ad 169)) rfl dX7_readItem_68 ?_
    refine lv_iconst (v := 1) hx hb dX7_readItem_71 (by decide) ?_
    refine pg_iald hC hP k_169 (bin_in (by decide +kernel)) dX7_readItem_72 ?_
    refine lv_if_ge (tgt := 80) hx hb dX7_readItem_73 (by decide) (fun c24 => ?_) (fun c24 => ?_)
    · replace hf := ite_t c24 hf
      exact w_X7_readItem_L80 hX _ _ _ _ _ hf  hP hS (lv_sub hl [0, 1] rfl)
    · replace hf := ite_f c24 hf
      exact w_X7_readItem_L76 hX _ _ _ _ _ hf  hP hS (lv_sub hl [0, 1] rfl)
def P_X7_readItem_L46 (N : Nat) (S : PSt) (x1 : Int32) : Option PSt := if x1 = (99 : Int32) then (if (gA S 169 (0 : Int32).toNatClampNeg) < (0 : Int32) then (P_X7_readItem_L76 N S x1) else (P_X7_readItem_L61 N S x1)) else (P_X7_readItem_L61 N S x1)
set_option maxHeartbeats 4000000 in
set_option maxRecDepth 100000 in
theorem w_X7_readItem_L46 {N : Nat} {S' : PSt} (hX : Mx p s m args c meth cX7_readItem RX7 3 none D cy ad tb) : ∀ (S : PSt) (x1 : Int32) (H : Heap) (locs : List Loc) (ls : Array Slot), P_X7_readItem_L46 N S x1 = some S' → va_P D vwCl (pW cy ad S) H → va_S (pA ad s.heap.size) s.heap H locs → lv_has ls 3 [(0, .ref (ad 158)), (1, .int x1)] → W p l e (rmd 6) s m args below meth c H locs 0 0 (Qz D cy ad below args s S' none) (F0 m 46 ls []) := by
  have hX0 := hX
  obtain ⟨hC, hml, hr, hlk⟩ := hX0
  have hx := hC.1
  have hb := hC.2.1
  intro S x1 H locs ls hf  hP hS hl
  unfold P_X7_readItem_L46 at hf
  refine lv_iload_n hx hb dX7_readItem_46 rfl (lv_at hl 1 rfl) ?_
  refine lv_bipush (v := 99) hx hb dX7_readItem_47 (by decide) ?_
  refine lv_icmp_ne (tgt := 61) hx hb dX7_readItem_49 (by decide) (fun c25 => ?_) (fun c25 => ?_)
  · replace hf := ite_f c25 hf
    exact w_X7_readItem_L61 hX _ _ _ _ _ hf  hP hS (lv_sub hl [0, 1] rfl)
  · replace hf := ite_t c25 hf
    refine lv_aload_n hx hb dX7_readItem_52 rfl (lv_at hl 0 rfl) ?_
    refine gf_X7_45 hC hP k_158 (v := .ref (ad 169)) rfl dX7_readItem_53 ?_
    refine lv_iconst (v := 0) hx hb dX7_readItem_56 (by decide) ?_
    refine pg_iald hC hP k_169 (bin_in (by decide +kernel)) dX7_readItem_57 ?_
    refine lv_if_lt (tgt := 76) hx hb dX7_readItem_58 (by decide) (fun c26 => ?_) (fun c26 => ?_)
    · replace hf := ite_t c26 hf
      exact w_X7_readItem_L76 hX _ _ _ _ _ hf  hP hS (lv_sub hl [0, 1] rfl)
    · replace hf := ite_f c26 hf
      exact w_X7_readItem_L61 hX _ _ _ _ _ hf  hP hS (lv_sub hl [0, 1] rfl)
def P_X7_readItem_L31 (N : Nat) (S : PSt) (x1 : Int32) : Option PSt := if x1 = (116 : Int32) then (if (gI S 723 158) < (6 : Int32) then (P_X7_readItem_L76 N S x1) else (P_X7_readItem_L46 N S x1)) else (P_X7_readItem_L46 N S x1)
set_option maxHeartbeats 4000000 in
set_option maxRecDepth 100000 in
theorem w_X7_readItem_L31 {N : Nat} {S' : PSt} (hX : Mx p s m args c meth cX7_readItem RX7 3 none D cy ad tb) : ∀ (S : PSt) (x1 : Int32) (H : Heap) (locs : List Loc) (ls : Array Slot), P_X7_readItem_L31 N S x1 = some S' → va_P D vwCl (pW cy ad S) H → va_S (pA ad s.heap.size) s.heap H locs → lv_has ls 3 [(0, .ref (ad 158)), (1, .int x1)] → W p l e (rmd 6) s m args below meth c H locs 0 0 (Qz D cy ad below args s S' none) (F0 m 31 ls []) := by
  have hX0 := hX
  obtain ⟨hC, hml, hr, hlk⟩ := hX0
  have hx := hC.1
  have hb := hC.2.1
  intro S x1 H locs ls hf  hP hS hl
  unfold P_X7_readItem_L31 at hf
  refine lv_iload_n hx hb dX7_readItem_31 rfl (lv_at hl 1 rfl) ?_
  refine lv_bipush (v := 116) hx hb dX7_readItem_32 (by decide) ?_
  refine lv_icmp_ne (tgt := 46) hx hb dX7_readItem_34 (by decide) (fun c27 => ?_) (fun c27 => ?_)
  · replace hf := ite_f c27 hf
    exact w_X7_readItem_L46 hX _ _ _ _ _ hf  hP hS (lv_sub hl [0, 1] rfl)
  · replace hf := ite_t c27 hf
    refine lv_aload_n hx hb dX7_readItem_37 rfl (lv_at hl 0 rfl) ?_
    refine gf_X7_122 hC hP k_158 (v := .int (gI S 723 158)) rfl dX7_readItem_38 ?_
    refine lv_bipush (v := 6) hx hb dX7_readItem_41 (by decide) ?_
    refine lv_icmp_lt (tgt := 76) hx hb dX7_readItem_43 (by decide) (fun c28 => ?_) (fun c28 => ?_)
    · replace hf := ite_t c28 hf
      exact w_X7_readItem_L76 hX _ _ _ _ _ hf  hP hS (lv_sub hl [0, 1] rfl)
    · replace hf := ite_f c28 hf
      exact w_X7_readItem_L46 hX _ _ _ _ _ hf  hP hS (lv_sub hl [0, 1] rfl)
def P_X7_readItem_L16 (N : Nat) (S : PSt) (y0 : Int32) : Option PSt := if y0 = (119 : Int32) then (if (gI S 721 158) < (4 : Int32) then (P_X7_readItem_L76 N S y0) else (P_X7_readItem_L31 N S y0)) else (P_X7_readItem_L31 N S y0)
set_option maxHeartbeats 4000000 in
set_option maxRecDepth 100000 in
theorem w_X7_readItem_L16 {N : Nat} {S' : PSt} (hX : Mx p s m args c meth cX7_readItem RX7 3 none D cy ad tb) : ∀ (S : PSt) (y0 : Int32) (H : Heap) (locs : List Loc) (ls : Array Slot), P_X7_readItem_L16 N S y0 = some S' → va_P D vwCl (pW cy ad S) H → va_S (pA ad s.heap.size) s.heap H locs → lv_has ls 3 [(0, .ref (ad 158))] → W p l e (rmd 6) s m args below meth c H locs 0 0 (Qz D cy ad below args s S' none) (F0 m 16 ls [.int y0]) := by
  have hX0 := hX
  obtain ⟨hC, hml, hr, hlk⟩ := hX0
  have hx := hC.1
  have hb := hC.2.1
  intro S y0 H locs ls hf  hP hS hl
  unfold P_X7_readItem_L16 at hf
  refine lv_istore_n (lv' := [(1, .int y0), (0, .ref (ad 158))]) hx hb dX7_readItem_16 rfl hl (by decide) rfl (fun ls hl => ?_)
  refine lv_iload_n hx hb dX7_readItem_17 rfl (lv_at hl 0 rfl) ?_
  refine lv_bipush (v := 119) hx hb dX7_readItem_18 (by decide) ?_
  refine lv_icmp_ne (tgt := 31) hx hb dX7_readItem_20 (by decide) (fun c29 => ?_) (fun c29 => ?_)
  · replace hf := ite_f c29 hf
    exact w_X7_readItem_L31 hX _ _ _ _ _ hf  hP hS (lv_sub hl [1, 0] rfl)
  · replace hf := ite_t c29 hf
    refine lv_aload_n hx hb dX7_readItem_23 rfl (lv_at hl 1 rfl) ?_
    refine gf_X7_115 hC hP k_158 (v := .int (gI S 721 158)) rfl dX7_readItem_24 ?_
    refine lv_iconst (v := 4) hx hb dX7_readItem_27 (by decide) ?_
    refine lv_icmp_lt (tgt := 76) hx hb dX7_readItem_28 (by decide) (fun c30 => ?_) (fun c30 => ?_)
    · replace hf := ite_t c30 hf
      exact w_X7_readItem_L76 hX _ _ _ _ _ hf  hP hS (lv_sub hl [1, 0] rfl)
    · replace hf := ite_f c30 hf
      exact w_X7_readItem_L31 hX _ _ _ _ _ hf  hP hS (lv_sub hl [1, 0] rfl)
def P_X7_readItem (N : Nat) (S : PSt) : Option PSt := if (gI S 718 158) = (1 : Int32) then (P_X7_readItem_L16 N S (gI S 719 158)) else (P_X7_readItem_L16 N S (0 : Int32))
set_option maxHeartbeats 4000000 in
set_option maxRecDepth 100000 in
theorem c_X7_readItem (l : Launch) {D : va_G} {cy : Nat → ClassId} {ad tb : Nat → Nat} (hJ : pJ ad) {N : Nat} {S S' : PSt} (hf : P_X7_readItem N S = some S') : Ct l 6 yX7_readItem cX7_readItem 3 none D cy ad tb S S' [.ref (ad 158)] none := by
  refine Ct_of hJ (by decide) (Nat.le_of_ble_eq_true rfl) (fun p e s m below meth c ls hX hP hS hl => ?_)
  have hl : lv_has ls 3 [(0, .ref (ad 158))] := hl
  have hX0 := hX
  obtain ⟨hC, hml, hr, hlk⟩ := hX0
  have hx := hC.1
  have hb := hC.2.1
  unfold P_X7_readItem at hf
  refine lv_aload_n hx hb dX7_readItem_0 rfl (lv_at hl 0 rfl) ?_
  refine gf_X7_99 hC hP k_158 (v := .int (gI S 718 158)) rfl dX7_readItem_1 ?_
  refine lv_iconst (v := 1) hx hb dX7_readItem_4 (by decide) ?_
  refine lv_icmp_ne (tgt := 15) hx hb dX7_readItem_5 (by decide) (fun c31 => ?_) (fun c31 => ?_)
  · replace hf := ite_f c31 hf
    refine lv_iconst (v := 0) hx hb dX7_readItem_15 (by decide) ?_
    exact w_X7_readItem_L16 hX _ _ _ _ _ hf  hP hS (lv_sub hl [0] rfl)
  · replace hf := ite_t c31 hf
    refine lv_aload_n hx hb dX7_readItem_8 rfl (lv_at hl 0 rfl) ?_
    refine gf_X7_96 hC hP k_158 (v := .int (gI S 719 158)) rfl dX7_readItem_9 ?_
    refine lv_goto (tgt := 16) hx hb dX7_readItem_12 (by decide) ?_
    exact w_X7_readItem_L16 hX _ _ _ _ _ hf  hP hS (lv_sub hl [0] rfl)
def P_X7_tunnel_L169 (N : Nat) : Nat → PSt → Int32 → Int32 → Option (Int32 × PSt)
  | 0 => fun _ _ _ => none
  | n + 1 => fun S x1 x2 => if (24 : Int32) ≤ x2 then (cal1 (P_X7_begins N S) fun S2 => bnd (sI S2 708 158 (0 : Int32)) fun S4 => bnd (sI S4 711 158 (0 : Int32)) fun S5 => bnd (sA S5 164 (0 : Int32).toNatClampNeg (vp_nar .boolean (0 : Int32))) fun S6 => bnd (sA S6 164 (1 : Int32).toNatClampNeg (vp_nar .boolean (0 : Int32))) fun S7 => bnd (sI S7 715 158 (0 : Int32)) fun S8 => some (x1, S8)) else (gd (bin x2 (ln 168)) <| gd (bin x2 (ln 160)) <| bnd (sA S 160 x2.toNatClampNeg (gA S 168 x2.toNatClampNeg)) fun S11 => bnd (x2 + (1 : Int32)) fun v12 => P_X7_tunnel_L169 N n S11 x1 v12)
set_option maxHeartbeats 4000000 in
set_option maxRecDepth 100000 in
theorem w_X7_tunnel_L169 {N : Nat} {S' : PSt} {r : Int32} (hX : Mx p s m args c meth cX7_tunnel RX7 3 (some .int) D cy ad tb) : ∀ (n : Nat), ∀ (S : PSt) (x1 : Int32) (x2 : Int32) (H : Heap) (locs : List Loc) (ls : Array Slot), P_X7_tunnel_L169 N n S x1 x2 = some (r, S') → va_P D vwCl (pW cy ad S) H → va_S (pA ad s.heap.size) s.heap H locs → lv_has ls 3 [(0, .ref (ad 158)), (1, .int x1), (2, .int x2)] → W p l e (rmd 7) s m args below meth c H locs 0 0 (Qz D cy ad below args s S' (some (.int r))) (F0 m 169 ls []) := by
  have hX0 := hX
  obtain ⟨hC, hml, hr, hlk⟩ := hX0
  have hx := hC.1
  have hb := hC.2.1
  intro n
  induction n with
  | zero => intro S x1 x2 H locs ls hf; exact absurd hf (by intro h; cases h)
  | succ n ih =>
    intro S x1 x2 H locs ls hf  hP hS hl
    rw [P_X7_tunnel_L169] at hf
    refine lv_iload_n hx hb dX7_tunnel_169 rfl (lv_at hl 2 rfl) ?_
    refine lv_bipush (v := 24) hx hb dX7_tunnel_170 (by decide) ?_
    refine lv_icmp_ge (tgt := 193) hx hb dX7_tunnel_172 (by decide) (fun c1 => ?_) (fun c1 => ?_)
    · replace hf := ite_t c1 hf
      refine lv_aload_n hx hb dX7_tunnel_193 rfl (lv_at hl 0 rfl) ?_
      obtain ⟨S2, q3, hf⟩ := cal1_some hf
      refine pg_callV (As := []) (rest := []) (st1 := []) (ci := 7) hC hml hP hS (c_X7_begins l hC.2.2.2.2.2.1 q3) ⟨by decide, by decide, rfl, rfl⟩ ⟨rfl, rfl⟩ (by decide) rfl (by decide) k_158 rfl rfl ⟨mk_X7_66, mi_X7_begins⟩ hd_X7_begins rfl hl.1 (Nat.le_of_ble_eq_true rfl) dX7_tunnel_194 (fun H locs hP hS => ?_)
      refine lv_aload_n hx hb dX7_tunnel_197 rfl (lv_at hl 0 rfl) ?_
      refine lv_iconst (v := 0) hx hb dX7_tunnel_198 (by decide) ?_
      obtain ⟨S4, eS4, hf⟩ := bnd_some hf
      refine pf_X7_137 hC hP hS k_158 eS4 dX7_tunnel_199 (fun H locs hP hS => ?_)
      refine lv_aload_n hx hb dX7_tunnel_202 rfl (lv_at hl 0 rfl) ?_
      refine lv_iconst (v := 0) hx hb dX7_tunnel_203 (by decide) ?_
      obtain ⟨S5, eS5, hf⟩ := bnd_some hf
      refine pf_X7_140 hC hP hS k_158 eS5 dX7_tunnel_204 (fun H locs hP hS => ?_)
      refine lv_aload_n hx hb dX7_tunnel_207 rfl (lv_at hl 0 rfl) ?_
      refine gf_X7_29 hC hP k_158 (v := .ref (ad 164)) rfl dX7_tunnel_208 ?_
      refine lv_iconst (v := 0) hx hb dX7_tunnel_211 (by decide) ?_
      refine lv_iconst (v := 0) hx hb dX7_tunnel_212 (by decide) ?_
      obtain ⟨S6, eS6, hf⟩ := bnd_some hf
      refine pg_zast hC hP hS k_164 (bin_in (by decide +kernel)) dX7_tunnel_213 (fun H locs hP hS => ?_)
      rw [← eS6] at hP
      refine lv_aload_n hx hb dX7_tunnel_214 rfl (lv_at hl 0 rfl) ?_
      refine gf_X7_29 hC hP k_158 (v := .ref (ad 164)) rfl dX7_tunnel_215 ?_
      refine lv_iconst (v := 1) hx hb dX7_tunnel_218 (by decide) ?_
      refine lv_iconst (v := 0) hx hb dX7_tunnel_219 (by decide) ?_
      obtain ⟨S7, eS7, hf⟩ := bnd_some hf
      refine pg_zast hC hP hS k_164 (bin_in (by decide +kernel)) dX7_tunnel_220 (fun H locs hP hS => ?_)
      rw [← eS7] at hP
      refine lv_aload_n hx hb dX7_tunnel_221 rfl (lv_at hl 0 rfl) ?_
      refine lv_iconst (v := 0) hx hb dX7_tunnel_222 (by decide) ?_
      obtain ⟨S8, eS8, hf⟩ := bnd_some hf
      refine pf_X7_83 hC hP hS k_158 eS8 dX7_tunnel_223 (fun H locs hP hS => ?_)
      refine lv_iload_n hx hb dX7_tunnel_226 rfl (lv_at hl 1 rfl) ?_
      exact pg_iret hC hr hlk hP hS hf dX7_tunnel_227
    · replace hf := ite_f c1 hf
      refine lv_aload_n hx hb dX7_tunnel_175 rfl (lv_at hl 0 rfl) ?_
      refine gf_X7_13 hC hP k_158 (v := .ref (ad 160)) rfl dX7_tunnel_176 ?_
      refine lv_iload_n hx hb dX7_tunnel_179 rfl (lv_at hl 2 rfl) ?_
      refine lv_aload_n hx hb dX7_tunnel_180 rfl (lv_at hl 0 rfl) ?_
      refine gf_X7_42 hC hP k_158 (v := .ref (ad 168)) rfl dX7_tunnel_181 ?_
      refine lv_iload_n hx hb dX7_tunnel_184 rfl (lv_at hl 2 rfl) ?_
      obtain ⟨h9, hf⟩ := gd_some hf
      refine pg_iald hC hP k_168 (bin_in h9) dX7_tunnel_185 ?_
      obtain ⟨h10, hf⟩ := gd_some hf
      obtain ⟨S11, eS11, hf⟩ := bnd_some hf
      refine pg_iast hC hP hS k_160 (bin_in h10) dX7_tunnel_186 (fun H locs hP hS => ?_)
      rw [← eS11] at hP
      obtain ⟨v12, ev12, hf⟩ := bnd_some hf
      refine lv_iinc (v := v12) (lv' := [(2, .int v12), (0, .ref (ad 158)), (1, .int x1)]) hx hb dX7_tunnel_187 hl (k := 2) rfl (by rw [ev12]; rfl) (by decide) rfl (fun ls hl => ?_)
      refine lv_goto (tgt := 169) hx hb dX7_tunnel_190 (by decide) ?_
      exact ih _ _ _ _ _ _ hf  hP hS (lv_sub hl [1, 2, 0] rfl)
def P_X7_tunnel_L143 (N : Nat) : Nat → PSt → Int32 → Int32 → Option (Int32 × PSt)
  | 0 => fun _ _ _ => none
  | n + 1 => fun S x1 x2 => if (8 : Int32) ≤ x2 then (P_X7_tunnel_L169 N N S x1 (0 : Int32)) else (gd (bin x2 (ln 167)) <| gd (bin x2 (ln 159)) <| bnd (sA S 159 x2.toNatClampNeg (gA S 167 x2.toNatClampNeg)) fun S16 => bnd (x2 + (1 : Int32)) fun v17 => P_X7_tunnel_L143 N n S16 x1 v17)
set_option maxHeartbeats 4000000 in
set_option maxRecDepth 100000 in
theorem w_X7_tunnel_L143 {N : Nat} {S' : PSt} {r : Int32} (hX : Mx p s m args c meth cX7_tunnel RX7 3 (some .int) D cy ad tb) : ∀ (n : Nat), ∀ (S : PSt) (x1 : Int32) (x2 : Int32) (H : Heap) (locs : List Loc) (ls : Array Slot), P_X7_tunnel_L143 N n S x1 x2 = some (r, S') → va_P D vwCl (pW cy ad S) H → va_S (pA ad s.heap.size) s.heap H locs → lv_has ls 3 [(0, .ref (ad 158)), (1, .int x1), (2, .int x2)] → W p l e (rmd 7) s m args below meth c H locs 0 0 (Qz D cy ad below args s S' (some (.int r))) (F0 m 143 ls []) := by
  have hX0 := hX
  obtain ⟨hC, hml, hr, hlk⟩ := hX0
  have hx := hC.1
  have hb := hC.2.1
  intro n
  induction n with
  | zero => intro S x1 x2 H locs ls hf; exact absurd hf (by intro h; cases h)
  | succ n ih =>
    intro S x1 x2 H locs ls hf  hP hS hl
    rw [P_X7_tunnel_L143] at hf
    refine lv_iload_n hx hb dX7_tunnel_143 rfl (lv_at hl 2 rfl) ?_
    refine lv_bipush (v := 8) hx hb dX7_tunnel_144 (by decide) ?_
    refine lv_icmp_ge (tgt := 167) hx hb dX7_tunnel_146 (by decide) (fun c13 => ?_) (fun c13 => ?_)
    · replace hf := ite_t c13 hf
      refine lv_iconst (v := 0) hx hb dX7_tunnel_167 (by decide) ?_
      refine lv_istore_n (lv' := [(2, .int (0 : Int32)), (0, .ref (ad 158)), (1, .int x1)]) hx hb dX7_tunnel_168 rfl hl (by decide) rfl (fun ls hl => ?_)
      exact w_X7_tunnel_L169 hX _ _ _ _ _ _ _ hf  hP hS (lv_sub hl [1, 2, 0] rfl)
    · replace hf := ite_f c13 hf
      refine lv_aload_n hx hb dX7_tunnel_149 rfl (lv_at hl 0 rfl) ?_
      refine gf_X7_7 hC hP k_158 (v := .ref (ad 159)) rfl dX7_tunnel_150 ?_
      refine lv_iload_n hx hb dX7_tunnel_153 rfl (lv_at hl 2 rfl) ?_
      refine lv_aload_n hx hb dX7_tunnel_154 rfl (lv_at hl 0 rfl) ?_
      refine gf_X7_39 hC hP k_158 (v := .ref (ad 167)) rfl dX7_tunnel_155 ?_
      refine lv_iload_n hx hb dX7_tunnel_158 rfl (lv_at hl 2 rfl) ?_
      obtain ⟨h14, hf⟩ := gd_some hf
      refine pg_iald hC hP k_167 (bin_in h14) dX7_tunnel_159 ?_
      obtain ⟨h15, hf⟩ := gd_some hf
      obtain ⟨S16, eS16, hf⟩ := bnd_some hf
      refine pg_iast hC hP hS k_159 (bin_in h15) dX7_tunnel_160 (fun H locs hP hS => ?_)
      rw [← eS16] at hP
      obtain ⟨v17, ev17, hf⟩ := bnd_some hf
      refine lv_iinc (v := v17) (lv' := [(2, .int v17), (0, .ref (ad 158)), (1, .int x1)]) hx hb dX7_tunnel_161 hl (k := 2) rfl (by rw [ev17]; rfl) (by decide) rfl (fun ls hl => ?_)
      refine lv_goto (tgt := 143) hx hb dX7_tunnel_164 (by decide) ?_
      exact ih _ _ _ _ _ _ hf  hP hS (lv_sub hl [1, 2, 0] rfl)
def P_X7_tunnel_L138 (N : Nat) (S : PSt) (x1 : Int32) (y1 : Int32) : Option (Int32 × PSt) := bnd (sI S 705 158 y1) fun S18 => P_X7_tunnel_L143 N N S18 x1 (0 : Int32)
set_option maxHeartbeats 4000000 in
set_option maxRecDepth 100000 in
theorem w_X7_tunnel_L138 {N : Nat} {S' : PSt} {r : Int32} (hX : Mx p s m args c meth cX7_tunnel RX7 3 (some .int) D cy ad tb) : ∀ (S : PSt) (x1 : Int32) (y1 : Int32) (H : Heap) (locs : List Loc) (ls : Array Slot), P_X7_tunnel_L138 N S x1 y1 = some (r, S') → va_P D vwCl (pW cy ad S) H → va_S (pA ad s.heap.size) s.heap H locs → lv_has ls 3 [(0, .ref (ad 158)), (1, .int x1)] → W p l e (rmd 7) s m args below meth c H locs 0 0 (Qz D cy ad below args s S' (some (.int r))) (F0 m 138 ls [.int y1, .ref (ad 158)]) := by
  have hX0 := hX
  obtain ⟨hC, hml, hr, hlk⟩ := hX0
  have hx := hC.1
  have hb := hC.2.1
  intro S x1 y1 H locs ls hf  hP hS hl
  unfold P_X7_tunnel_L138 at hf
  obtain ⟨S18, eS18, hf⟩ := bnd_some hf
  refine pf_X7_134 hC hP hS k_158 eS18 dX7_tunnel_138 (fun H locs hP hS => ?_)
  refine lv_iconst (v := 0) hx hb dX7_tunnel_141 (by decide) ?_
  refine lv_istore_n (lv' := [(2, .int (0 : Int32)), (0, .ref (ad 158)), (1, .int x1)]) hx hb dX7_tunnel_142 rfl hl (by decide) rfl (fun ls hl => ?_)
  exact w_X7_tunnel_L143 hX _ _ _ _ _ _ _ hf  hP hS (lv_sub hl [1, 2, 0] rfl)
def P_X7_tunnel_L115 (N : Nat) (S : PSt) (x1 : Int32) (y1 : Int32) : Option (Int32 × PSt) := bnd (sI S 704 158 y1) fun S19 => if (0 : Int32) ≤ (gA S19 169 (1 : Int32).toNatClampNeg) then (P_X7_tunnel_L138 N S19 x1 (gA S19 169 (1 : Int32).toNatClampNeg)) else (P_X7_tunnel_L138 N S19 x1 (0 : Int32))
set_option maxHeartbeats 4000000 in
set_option maxRecDepth 100000 in
theorem w_X7_tunnel_L115 {N : Nat} {S' : PSt} {r : Int32} (hX : Mx p s m args c meth cX7_tunnel RX7 3 (some .int) D cy ad tb) : ∀ (S : PSt) (x1 : Int32) (y1 : Int32) (H : Heap) (locs : List Loc) (ls : Array Slot), P_X7_tunnel_L115 N S x1 y1 = some (r, S') → va_P D vwCl (pW cy ad S) H → va_S (pA ad s.heap.size) s.heap H locs → lv_has ls 3 [(0, .ref (ad 158)), (1, .int x1)] → W p l e (rmd 7) s m args below meth c H locs 0 0 (Qz D cy ad below args s S' (some (.int r))) (F0 m 115 ls [.int y1, .ref (ad 158)]) := by
  have hX0 := hX
  obtain ⟨hC, hml, hr, hlk⟩ := hX0
  have hx := hC.1
  have hb := hC.2.1
  intro S x1 y1 H locs ls hf  hP hS hl
  unfold P_X7_tunnel_L115 at hf
  obtain ⟨S19, eS19, hf⟩ := bnd_some hf
  refine pf_X7_16 hC hP hS k_158 eS19 dX7_tunnel_115 (fun H locs hP hS => ?_)
  refine lv_aload_n hx hb dX7_tunnel_118 rfl (lv_at hl 0 rfl) ?_
  refine lv_aload_n hx hb dX7_tunnel_119 rfl (lv_at hl 0 rfl) ?_
  refine gf_X7_45 hC hP k_158 (v := .ref (ad 169)) rfl dX7_tunnel_120 ?_
  refine lv_iconst (v := 1) hx hb dX7_tunnel_123 (by decide) ?_
  refine pg_iald hC hP k_169 (bin_in (by decide +kernel)) dX7_tunnel_124 ?_
  refine lv_if_ge (tgt := 132) hx hb dX7_tunnel_125 (by decide) (fun c20 => ?_) (fun c20 => ?_)
  · replace hf := ite_t c20 hf
    refine lv_aload_n hx hb dX7_tunnel_132 rfl (lv_at hl 0 rfl) ?_
    refine gf_X7_45 hC hP k_158 (v := .ref (ad 169)) rfl dX7_tunnel_133 ?_
    refine lv_iconst (v := 1) hx hb dX7_tunnel_136 (by decide) ?_
    refine pg_iald hC hP k_169 (bin_in (by decide +kernel)) dX7_tunnel_137 ?_
    exact w_X7_tunnel_L138 hX _ _ _ _ _ _ hf  hP hS (lv_sub hl [0, 1] rfl)
  · replace hf := ite_f c20 hf
    refine lv_iconst (v := 0) hx hb dX7_tunnel_128 (by decide) ?_
    refine lv_goto (tgt := 138) hx hb dX7_tunnel_129 (by decide) ?_
    exact w_X7_tunnel_L138 hX _ _ _ _ _ _ hf  hP hS (lv_sub hl [0, 1] rfl)
def P_X7_tunnel_L64 (N : Nat) (S : PSt) (x1 : Int32) : Option (Int32 × PSt) := if (gI S 720 158) = (0 : Int32) then (bnd (sI S 700 158 (gI S 721 158)) fun S22 => bnd (sI S22 702 158 (gI S22 723 158)) fun S23 => if (0 : Int32) ≤ (gA S23 169 (0 : Int32).toNatClampNeg) then (P_X7_tunnel_L115 N S23 x1 (gA S23 169 (0 : Int32).toNatClampNeg)) else (P_X7_tunnel_L115 N S23 x1 (1 : Int32))) else (some (((-10 : Int32) - (gI S 717 158)), S))
set_option maxHeartbeats 4000000 in
set_option maxRecDepth 100000 in
theorem w_X7_tunnel_L64 {N : Nat} {S' : PSt} {r : Int32} (hX : Mx p s m args c meth cX7_tunnel RX7 3 (some .int) D cy ad tb) : ∀ (S : PSt) (x1 : Int32) (H : Heap) (locs : List Loc) (ls : Array Slot), P_X7_tunnel_L64 N S x1 = some (r, S') → va_P D vwCl (pW cy ad S) H → va_S (pA ad s.heap.size) s.heap H locs → lv_has ls 3 [(0, .ref (ad 158)), (1, .int x1)] → W p l e (rmd 7) s m args below meth c H locs 0 0 (Qz D cy ad below args s S' (some (.int r))) (F0 m 64 ls []) := by
  have hX0 := hX
  obtain ⟨hC, hml, hr, hlk⟩ := hX0
  have hx := hC.1
  have hb := hC.2.1
  intro S x1 H locs ls hf  hP hS hl
  unfold P_X7_tunnel_L64 at hf
  refine lv_aload_n hx hb dX7_tunnel_64 rfl (lv_at hl 0 rfl) ?_
  refine gf_X7_108 hC hP k_158 (v := .int (gI S 720 158)) rfl dX7_tunnel_65 ?_
  refine lv_if_eq (tgt := 79) hx hb dX7_tunnel_68 (by decide) (fun c21 => ?_) (fun c21 => ?_)
  · replace hf := ite_t c21 hf
    refine lv_aload_n hx hb dX7_tunnel_79 rfl (lv_at hl 0 rfl) ?_
    refine lv_aload_n hx hb dX7_tunnel_80 rfl (lv_at hl 0 rfl) ?_
    refine gf_X7_115 hC hP k_158 (v := .int (gI S 721 158)) rfl dX7_tunnel_81 ?_
    obtain ⟨S22, eS22, hf⟩ := bnd_some hf
    refine pf_X7_69 hC hP hS k_158 eS22 dX7_tunnel_84 (fun H locs hP hS => ?_)
    refine lv_aload_n hx hb dX7_tunnel_87 rfl (lv_at hl 0 rfl) ?_
    refine lv_aload_n hx hb dX7_tunnel_88 rfl (lv_at hl 0 rfl) ?_
    refine gf_X7_122 hC hP k_158 (v := .int (gI S22 723 158)) rfl dX7_tunnel_89 ?_
    obtain ⟨S23, eS23, hf⟩ := bnd_some hf
    refine pf_X7_76 hC hP hS k_158 eS23 dX7_tunnel_92 (fun H locs hP hS => ?_)
    refine lv_aload_n hx hb dX7_tunnel_95 rfl (lv_at hl 0 rfl) ?_
    refine lv_aload_n hx hb dX7_tunnel_96 rfl (lv_at hl 0 rfl) ?_
    refine gf_X7_45 hC hP k_158 (v := .ref (ad 169)) rfl dX7_tunnel_97 ?_
    refine lv_iconst (v := 0) hx hb dX7_tunnel_100 (by decide) ?_
    refine pg_iald hC hP k_169 (bin_in (by decide +kernel)) dX7_tunnel_101 ?_
    refine lv_if_ge (tgt := 109) hx hb dX7_tunnel_102 (by decide) (fun c24 => ?_) (fun c24 => ?_)
    · replace hf := ite_t c24 hf
      refine lv_aload_n hx hb dX7_tunnel_109 rfl (lv_at hl 0 rfl) ?_
      refine gf_X7_45 hC hP k_158 (v := .ref (ad 169)) rfl dX7_tunnel_110 ?_
      refine lv_iconst (v := 0) hx hb dX7_tunnel_113 (by decide) ?_
      refine pg_iald hC hP k_169 (bin_in (by decide +kernel)) dX7_tunnel_114 ?_
      exact w_X7_tunnel_L115 hX _ _ _ _ _ _ hf  hP hS (lv_sub hl [0, 1] rfl)
    · replace hf := ite_f c24 hf
      refine lv_iconst (v := 1) hx hb dX7_tunnel_105 (by decide) ?_
      refine lv_goto (tgt := 115) hx hb dX7_tunnel_106 (by decide) ?_
      exact w_X7_tunnel_L115 hX _ _ _ _ _ _ hf  hP hS (lv_sub hl [0, 1] rfl)
  · replace hf := ite_f c21 hf
    refine lv_bipush (v := -10) hx hb dX7_tunnel_71 (by decide) ?_
    refine lv_aload_n hx hb dX7_tunnel_73 rfl (lv_at hl 0 rfl) ?_
    refine gf_X7_93 hC hP k_158 (v := .int (gI S 717 158)) rfl dX7_tunnel_74 ?_
    refine lv_isub hx hb dX7_tunnel_77 ?_
    exact pg_iret hC hr hlk hP hS hf dX7_tunnel_78
def P_X7_tunnel_L40 (N : Nat) : Nat → PSt → Int32 → Option (Int32 × PSt)
  | 0 => fun _ _ => none
  | n + 1 => fun S x1 => if (gI S 718 158) = (0 : Int32) then (P_X7_tunnel_L64 N S x1) else (if (gI S 720 158) = (0 : Int32) then (cal1 (P_X7_readItem N S) fun S27 => bnd (x1 + (1 : Int32)) fun v29 => P_X7_tunnel_L40 N n S27 v29) else (P_X7_tunnel_L64 N S x1))
set_option maxHeartbeats 4000000 in
set_option maxRecDepth 100000 in
theorem w_X7_tunnel_L40 {N : Nat} {S' : PSt} {r : Int32} (hX : Mx p s m args c meth cX7_tunnel RX7 3 (some .int) D cy ad tb) : ∀ (n : Nat), ∀ (S : PSt) (x1 : Int32) (H : Heap) (locs : List Loc) (ls : Array Slot), P_X7_tunnel_L40 N n S x1 = some (r, S') → va_P D vwCl (pW cy ad S) H → va_S (pA ad s.heap.size) s.heap H locs → lv_has ls 3 [(0, .ref (ad 158)), (1, .int x1)] → W p l e (rmd 7) s m args below meth c H locs 0 0 (Qz D cy ad below args s S' (some (.int r))) (F0 m 40 ls []) := by
  have hX0 := hX
  obtain ⟨hC, hml, hr, hlk⟩ := hX0
  have hx := hC.1
  have hb := hC.2.1
  intro n
  induction n with
  | zero => intro S x1 H locs ls hf; exact absurd hf (by intro h; cases h)
  | succ n ih =>
    intro S x1 H locs ls hf  hP hS hl
    rw [P_X7_tunnel_L40] at hf
    refine lv_aload_n hx hb dX7_tunnel_40 rfl (lv_at hl 0 rfl) ?_
    refine gf_X7_99 hC hP k_158 (v := .int (gI S 718 158)) rfl dX7_tunnel_41 ?_
    refine lv_if_eq (tgt := 64) hx hb dX7_tunnel_44 (by decide) (fun c25 => ?_) (fun c25 => ?_)
    · replace hf := ite_t c25 hf
      exact w_X7_tunnel_L64 hX _ _ _ _ _ hf  hP hS (lv_sub hl [0, 1] rfl)
    · replace hf := ite_f c25 hf
      refine lv_aload_n hx hb dX7_tunnel_47 rfl (lv_at hl 0 rfl) ?_
      refine gf_X7_108 hC hP k_158 (v := .int (gI S 720 158)) rfl dX7_tunnel_48 ?_
      refine lv_if_ne (tgt := 64) hx hb dX7_tunnel_51 (by decide) (fun c26 => ?_) (fun c26 => ?_)
      · replace hf := ite_f c26 hf
        exact w_X7_tunnel_L64 hX _ _ _ _ _ hf  hP hS (lv_sub hl [0, 1] rfl)
      · replace hf := ite_t c26 hf
        refine lv_aload_n hx hb dX7_tunnel_54 rfl (lv_at hl 0 rfl) ?_
        obtain ⟨S27, q28, hf⟩ := cal1_some hf
        refine pg_callV (As := []) (rest := []) (st1 := []) (ci := 7) hC hml hP hS (c_X7_readItem l hC.2.2.2.2.2.1 q28) ⟨by decide, by decide, rfl, rfl⟩ ⟨rfl, rfl⟩ (by decide) rfl (by decide) k_158 rfl rfl ⟨mk_X7_131, mi_X7_readItem⟩ hd_X7_readItem rfl hl.1 (Nat.le_of_ble_eq_true rfl) dX7_tunnel_55 (fun H locs hP hS => ?_)
        obtain ⟨v29, ev29, hf⟩ := bnd_some hf
        refine lv_iinc (v := v29) (lv' := [(1, .int v29), (0, .ref (ad 158))]) hx hb dX7_tunnel_58 hl (k := 1) rfl (by rw [ev29]; rfl) (by decide) rfl (fun ls hl => ?_)
        refine lv_goto (tgt := 40) hx hb dX7_tunnel_61 (by decide) ?_
        exact ih _ _ _ _ _ hf  hP hS (lv_sub hl [1, 0] rfl)
def P_X7_tunnel (N : Nat) (S : PSt) : Option (Int32 × PSt) := bnd (sI S 716 158 (0 : Int32)) fun S30 => bnd (sI S30 720 158 (0 : Int32)) fun S31 => bnd (sI S31 721 158 (0 : Int32)) fun S32 => bnd (sI S32 723 158 (0 : Int32)) fun S33 => bnd (sA S33 169 (0 : Int32).toNatClampNeg (-1 : Int32)) fun S34 => bnd (sA S34 169 (1 : Int32).toNatClampNeg (-1 : Int32)) fun S35 => cal1 (P_X7_next N S35) fun S36 => P_X7_tunnel_L40 N N S36 (0 : Int32)
set_option maxHeartbeats 4000000 in
set_option maxRecDepth 100000 in
theorem c_X7_tunnel (l : Launch) {D : va_G} {cy : Nat → ClassId} {ad tb : Nat → Nat} (hJ : pJ ad) {N : Nat} {S S' : PSt} {r : Int32} (hf : P_X7_tunnel N S = some (r, S')) : Ct l 7 yX7_tunnel cX7_tunnel 3 (some .int) D cy ad tb S S' [.ref (ad 158)] (some (.int r)) := by
  refine Ct_of hJ (by decide) (Nat.le_of_ble_eq_true rfl) (fun p e s m below meth c ls hX hP hS hl => ?_)
  have hl : lv_has ls 3 [(0, .ref (ad 158))] := hl
  have hX0 := hX
  obtain ⟨hC, hml, hr, hlk⟩ := hX0
  have hx := hC.1
  have hb := hC.2.1
  unfold P_X7_tunnel at hf
  refine lv_aload_n hx hb dX7_tunnel_0 rfl (lv_at hl 0 rfl) ?_
  refine lv_iconst (v := 0) hx hb dX7_tunnel_1 (by decide) ?_
  obtain ⟨S30, eS30, hf⟩ := bnd_some hf
  refine pf_X7_86 hC hP hS k_158 eS30 dX7_tunnel_2 (fun H locs hP hS => ?_)
  refine lv_aload_n hx hb dX7_tunnel_5 rfl (lv_at hl 0 rfl) ?_
  refine lv_iconst (v := 0) hx hb dX7_tunnel_6 (by decide) ?_
  obtain ⟨S31, eS31, hf⟩ := bnd_some hf
  refine pf_X7_108 hC hP hS k_158 (by decide) eS31 dX7_tunnel_7 (fun H locs hP hS => ?_)
  refine lv_aload_n hx hb dX7_tunnel_10 rfl (lv_at hl 0 rfl) ?_
  refine lv_iconst (v := 0) hx hb dX7_tunnel_11 (by decide) ?_
  obtain ⟨S32, eS32, hf⟩ := bnd_some hf
  refine pf_X7_115 hC hP hS k_158 eS32 dX7_tunnel_12 (fun H locs hP hS => ?_)
  refine lv_aload_n hx hb dX7_tunnel_15 rfl (lv_at hl 0 rfl) ?_
  refine lv_iconst (v := 0) hx hb dX7_tunnel_16 (by decide) ?_
  obtain ⟨S33, eS33, hf⟩ := bnd_some hf
  refine pf_X7_122 hC hP hS k_158 eS33 dX7_tunnel_17 (fun H locs hP hS => ?_)
  refine lv_aload_n hx hb dX7_tunnel_20 rfl (lv_at hl 0 rfl) ?_
  refine gf_X7_45 hC hP k_158 (v := .ref (ad 169)) rfl dX7_tunnel_21 ?_
  refine lv_iconst (v := 0) hx hb dX7_tunnel_24 (by decide) ?_
  refine lv_iconst (v := -1) hx hb dX7_tunnel_25 (by decide) ?_
  obtain ⟨S34, eS34, hf⟩ := bnd_some hf
  refine pg_iast hC hP hS k_169 (bin_in (by decide +kernel)) dX7_tunnel_26 (fun H locs hP hS => ?_)
  rw [← eS34] at hP
  refine lv_aload_n hx hb dX7_tunnel_27 rfl (lv_at hl 0 rfl) ?_
  refine gf_X7_45 hC hP k_158 (v := .ref (ad 169)) rfl dX7_tunnel_28 ?_
  refine lv_iconst (v := 1) hx hb dX7_tunnel_31 (by decide) ?_
  refine lv_iconst (v := -1) hx hb dX7_tunnel_32 (by decide) ?_
  obtain ⟨S35, eS35, hf⟩ := bnd_some hf
  refine pg_iast hC hP hS k_169 (bin_in (by decide +kernel)) dX7_tunnel_33 (fun H locs hP hS => ?_)
  rw [← eS35] at hP
  refine lv_iconst (v := 0) hx hb dX7_tunnel_34 (by decide) ?_
  refine lv_istore_n (lv' := [(1, .int (0 : Int32)), (0, .ref (ad 158))]) hx hb dX7_tunnel_35 rfl hl (by decide) rfl (fun ls hl => ?_)
  refine lv_aload_n hx hb dX7_tunnel_36 rfl (lv_at hl 1 rfl) ?_
  obtain ⟨S36, q37, hf⟩ := cal1_some hf
  refine pg_callV (As := []) (rest := []) (st1 := []) (ci := 7) hC hml hP hS (c_X7_next l hC.2.2.2.2.2.1 q37) ⟨by decide, by decide, rfl, rfl⟩ ⟨rfl, rfl⟩ (by decide) rfl (by decide) k_158 rfl rfl ⟨mk_X7_112, mi_X7_next⟩ hd_X7_next rfl hl.1 (Nat.le_of_ble_eq_true rfl) dX7_tunnel_37 (fun H locs hP hS => ?_)
  exact w_X7_tunnel_L40 hX _ _ _ _ _ _ hf  hP hS (lv_sub hl [1, 0] rfl)
def P_X7_isWorn (N : Nat) (S : PSt) (x1 : Int32) (x2 : Int32) : Option (Int32 × PSt) := gd (bin (((4 : Int32) * x2) + x1) (ln 170)) <| gd (bin (((2 : Int32) * x1) + (1 : Int32)) (ln 159)) <| if (gA S 170 (((4 : Int32) * x2) + x1).toNatClampNeg) ≤ (gA S 159 (((2 : Int32) * x1) + (1 : Int32)).toNatClampNeg) then (some ((0 : Int32), S)) else (some ((1 : Int32), S))
set_option maxHeartbeats 4000000 in
set_option maxRecDepth 100000 in
theorem c_X7_isWorn (l : Launch) {D : va_G} {cy : Nat → ClassId} {ad tb : Nat → Nat} (hJ : pJ ad) {N : Nat} {S S' : PSt} {x1 : Int32} {x2 : Int32} {r : Int32} (hf : P_X7_isWorn N S x1 x2 = some (r, S')) : Ct l 1 yX7_isWorn cX7_isWorn 3 (some .boolean) D cy ad tb S S' [.ref (ad 158), .int x1, .int x2] (some (.int r)) := by
  refine Ct_of hJ (by decide) (Nat.le_of_ble_eq_true rfl) (fun p e s m below meth c ls hX hP hS hl => ?_)
  have hl : lv_has ls 3 [(0, .ref (ad 158)), (1, .int x1), (2, .int x2)] := hl
  have hX0 := hX
  obtain ⟨hC, hml, hr, hlk⟩ := hX0
  have hx := hC.1
  have hb := hC.2.1
  unfold P_X7_isWorn at hf
  refine lv_aload_n hx hb dX7_isWorn_0 rfl (lv_at hl 0 rfl) ?_
  refine gf_X7_48 hC hP k_158 (v := .ref (ad 170)) rfl dX7_isWorn_1 ?_
  refine lv_iconst (v := 4) hx hb dX7_isWorn_4 (by decide) ?_
  refine lv_iload_n hx hb dX7_isWorn_5 rfl (lv_at hl 2 rfl) ?_
  refine lv_imul hx hb dX7_isWorn_6 ?_
  refine lv_iload_n hx hb dX7_isWorn_7 rfl (lv_at hl 1 rfl) ?_
  refine lv_iadd hx hb dX7_isWorn_8 ?_
  obtain ⟨h1, hf⟩ := gd_some hf
  refine pg_iald hC hP k_170 (bin_in h1) dX7_isWorn_9 ?_
  refine lv_aload_n hx hb dX7_isWorn_10 rfl (lv_at hl 0 rfl) ?_
  refine gf_X7_7 hC hP k_158 (v := .ref (ad 159)) rfl dX7_isWorn_11 ?_
  refine lv_iconst (v := 2) hx hb dX7_isWorn_14 (by decide) ?_
  refine lv_iload_n hx hb dX7_isWorn_15 rfl (lv_at hl 1 rfl) ?_
  refine lv_imul hx hb dX7_isWorn_16 ?_
  refine lv_iconst (v := 1) hx hb dX7_isWorn_17 (by decide) ?_
  refine lv_iadd hx hb dX7_isWorn_18 ?_
  obtain ⟨h2, hf⟩ := gd_some hf
  refine pg_iald hC hP k_159 (bin_in h2) dX7_isWorn_19 ?_
  refine lv_icmp_le (tgt := 27) hx hb dX7_isWorn_20 (by decide) (fun c3 => ?_) (fun c3 => ?_)
  · replace hf := ite_t c3 hf
    refine lv_iconst (v := 0) hx hb dX7_isWorn_27 (by decide) ?_
    exact pg_zret hC hr hlk hP hS (by decide) hf dX7_isWorn_28
  · replace hf := ite_f c3 hf
    refine lv_iconst (v := 1) hx hb dX7_isWorn_23 (by decide) ?_
    refine lv_goto (tgt := 28) hx hb dX7_isWorn_24 (by decide) ?_
    exact pg_zret hC hr hlk hP hS (by decide) hf dX7_isWorn_28
def P_X7_fromNow_L2 (N : Nat) : Nat → PSt → Int32 → Option PSt
  | 0 => fun _ _ => none
  | n + 1 => fun S x1 => if (4 : Int32) ≤ x1 then (bnd (sA S 171 (0 : Int32).toNatClampNeg (0 : Int32)) fun S2 => bnd (sA S2 172 (0 : Int32).toNatClampNeg (gA S2 161 (2 : Int32).toNatClampNeg)) fun S3 => some S3) else (gd (bin ((3 : Int32) + x1) (ln 161)) <| gd (bin x1 (ln 170)) <| bnd (sA S 170 x1.toNatClampNeg (gA S 161 ((3 : Int32) + x1).toNatClampNeg)) fun S6 => bnd (x1 + (1 : Int32)) fun v7 => P_X7_fromNow_L2 N n S6 v7)
set_option maxHeartbeats 4000000 in
set_option maxRecDepth 100000 in
theorem w_X7_fromNow_L2 {N : Nat} {S' : PSt} (hX : Mx p s m args c meth cX7_fromNow RX7 2 none D cy ad tb) : ∀ (n : Nat), ∀ (S : PSt) (x1 : Int32) (H : Heap) (locs : List Loc) (ls : Array Slot), P_X7_fromNow_L2 N n S x1 = some S' → va_P D vwCl (pW cy ad S) H → va_S (pA ad s.heap.size) s.heap H locs → lv_has ls 2 [(0, .ref (ad 158)), (1, .int x1)] → W p l e (rmd 1) s m args below meth c H locs 0 0 (Qz D cy ad below args s S' none) (F0 m 2 ls []) := by
  have hX0 := hX
  obtain ⟨hC, hml, hr, hlk⟩ := hX0
  have hx := hC.1
  have hb := hC.2.1
  intro n
  induction n with
  | zero => intro S x1 H locs ls hf; exact absurd hf (by intro h; cases h)
  | succ n ih =>
    intro S x1 H locs ls hf  hP hS hl
    rw [P_X7_fromNow_L2] at hf
    refine lv_iload_n hx hb dX7_fromNow_2 rfl (lv_at hl 1 rfl) ?_
    refine lv_iconst (v := 4) hx hb dX7_fromNow_3 (by decide) ?_
    refine lv_icmp_ge (tgt := 27) hx hb dX7_fromNow_4 (by decide) (fun c1 => ?_) (fun c1 => ?_)
    · replace hf := ite_t c1 hf
      refine lv_aload_n hx hb dX7_fromNow_27 rfl (lv_at hl 0 rfl) ?_
      refine gf_X7_51 hC hP k_158 (v := .ref (ad 171)) rfl dX7_fromNow_28 ?_
      refine lv_iconst (v := 0) hx hb dX7_fromNow_31 (by decide) ?_
      refine lv_iconst (v := 0) hx hb dX7_fromNow_32 (by decide) ?_
      obtain ⟨S2, eS2, hf⟩ := bnd_some hf
      refine pg_iast hC hP hS k_171 (bin_in (by decide +kernel)) dX7_fromNow_33 (fun H locs hP hS => ?_)
      rw [← eS2] at hP
      refine lv_aload_n hx hb dX7_fromNow_34 rfl (lv_at hl 0 rfl) ?_
      refine gf_X7_54 hC hP k_158 (v := .ref (ad 172)) rfl dX7_fromNow_35 ?_
      refine lv_iconst (v := 0) hx hb dX7_fromNow_38 (by decide) ?_
      refine lv_aload_n hx hb dX7_fromNow_39 rfl (lv_at hl 0 rfl) ?_
      refine gf_X7_20 hC hP k_158 (v := .ref (ad 161)) rfl dX7_fromNow_40 ?_
      refine lv_iconst (v := 2) hx hb dX7_fromNow_43 (by decide) ?_
      refine pg_iald hC hP k_161 (bin_in (by decide +kernel)) dX7_fromNow_44 ?_
      obtain ⟨S3, eS3, hf⟩ := bnd_some hf
      refine pg_iast hC hP hS k_172 (bin_in (by decide +kernel)) dX7_fromNow_45 (fun H locs hP hS => ?_)
      rw [← eS3] at hP
      exact pg_vret hC hr hlk hP hS hf dX7_fromNow_46
    · replace hf := ite_f c1 hf
      refine lv_aload_n hx hb dX7_fromNow_7 rfl (lv_at hl 0 rfl) ?_
      refine gf_X7_48 hC hP k_158 (v := .ref (ad 170)) rfl dX7_fromNow_8 ?_
      refine lv_iload_n hx hb dX7_fromNow_11 rfl (lv_at hl 1 rfl) ?_
      refine lv_aload_n hx hb dX7_fromNow_12 rfl (lv_at hl 0 rfl) ?_
      refine gf_X7_20 hC hP k_158 (v := .ref (ad 161)) rfl dX7_fromNow_13 ?_
      refine lv_iconst (v := 3) hx hb dX7_fromNow_16 (by decide) ?_
      refine lv_iload_n hx hb dX7_fromNow_17 rfl (lv_at hl 1 rfl) ?_
      refine lv_iadd hx hb dX7_fromNow_18 ?_
      obtain ⟨h4, hf⟩ := gd_some hf
      refine pg_iald hC hP k_161 (bin_in h4) dX7_fromNow_19 ?_
      obtain ⟨h5, hf⟩ := gd_some hf
      obtain ⟨S6, eS6, hf⟩ := bnd_some hf
      refine pg_iast hC hP hS k_170 (bin_in h5) dX7_fromNow_20 (fun H locs hP hS => ?_)
      rw [← eS6] at hP
      obtain ⟨v7, ev7, hf⟩ := bnd_some hf
      refine lv_iinc (v := v7) (lv' := [(1, .int v7), (0, .ref (ad 158))]) hx hb dX7_fromNow_21 hl (k := 1) rfl (by rw [ev7]; rfl) (by decide) rfl (fun ls hl => ?_)
      refine lv_goto (tgt := 2) hx hb dX7_fromNow_24 (by decide) ?_
      exact ih _ _ _ _ _ hf  hP hS (lv_sub hl [1, 0] rfl)
def P_X7_fromNow (N : Nat) (S : PSt) : Option PSt := P_X7_fromNow_L2 N N S (0 : Int32)
set_option maxHeartbeats 4000000 in
set_option maxRecDepth 100000 in
theorem c_X7_fromNow (l : Launch) {D : va_G} {cy : Nat → ClassId} {ad tb : Nat → Nat} (hJ : pJ ad) {N : Nat} {S S' : PSt} (hf : P_X7_fromNow N S = some S') : Ct l 1 yX7_fromNow cX7_fromNow 2 none D cy ad tb S S' [.ref (ad 158)] none := by
  refine Ct_of hJ (by decide) (Nat.le_of_ble_eq_true rfl) (fun p e s m below meth c ls hX hP hS hl => ?_)
  have hl : lv_has ls 2 [(0, .ref (ad 158))] := hl
  have hX0 := hX
  obtain ⟨hC, hml, hr, hlk⟩ := hX0
  have hx := hC.1
  have hb := hC.2.1
  unfold P_X7_fromNow at hf
  refine lv_iconst (v := 0) hx hb dX7_fromNow_0 (by decide) ?_
  refine lv_istore_n (lv' := [(1, .int (0 : Int32)), (0, .ref (ad 158))]) hx hb dX7_fromNow_1 rfl hl (by decide) rfl (fun ls hl => ?_)
  exact w_X7_fromNow_L2 hX _ _ _ _ _ _ hf  hP hS (lv_sub hl [1, 0] rfl)
def P_X7_takesAt_L119 (N : Nat) (S : PSt) (x1 : Int32) (y0 : Int32) (y1 : Int32) (y2 : Int32) : Option (Int32 × PSt) := bnd (y0 + (y1 + y2)) fun v1 => gd (bin ((4 : Int32) * x1) (ln 160)) <| some ((v1 * (gA S 160 ((4 : Int32) * x1).toNatClampNeg)), S)
set_option maxHeartbeats 4000000 in
set_option maxRecDepth 100000 in
theorem w_X7_takesAt_L119 {N : Nat} {S' : PSt} {r : Int32} (hX : Mx p s m args c meth cX7_takesAt RX7 9 (some .int) D cy ad tb) : ∀ (S : PSt) (x1 : Int32) (y0 : Int32) (y1 : Int32) (y2 : Int32) (H : Heap) (locs : List Loc) (ls : Array Slot), P_X7_takesAt_L119 N S x1 y0 y1 y2 = some (r, S') → va_P D vwCl (pW cy ad S) H → va_S (pA ad s.heap.size) s.heap H locs → lv_has ls 9 [(0, .ref (ad 158)), (1, .int x1)] → W p l e (rmd 2) s m args below meth c H locs 0 0 (Qz D cy ad below args s S' (some (.int r))) (F0 m 119 ls [.int y2, .int y1, .int y0]) := by
  have hX0 := hX
  obtain ⟨hC, hml, hr, hlk⟩ := hX0
  have hx := hC.1
  have hb := hC.2.1
  intro S x1 y0 y1 y2 H locs ls hf  hP hS hl
  unfold P_X7_takesAt_L119 at hf
  refine lv_iadd hx hb dX7_takesAt_119 ?_
  refine lv_iadd hx hb dX7_takesAt_120 ?_
  obtain ⟨v1, ev1, hf⟩ := bnd_some hf
  refine pg_top ev1 ?_
  refine lv_istore (lv' := [(8, .int v1), (0, .ref (ad 158)), (1, .int x1)]) hx hb dX7_takesAt_121 hl (by decide) rfl (fun ls hl => ?_)
  refine lv_iload hx hb dX7_takesAt_123 (lv_at hl 0 rfl) ?_
  refine lv_aload_n hx hb dX7_takesAt_125 rfl (lv_at hl 1 rfl) ?_
  refine gf_X7_13 hC hP k_158 (v := .ref (ad 160)) rfl dX7_takesAt_126 ?_
  refine lv_iconst (v := 4) hx hb dX7_takesAt_129 (by decide) ?_
  refine lv_iload_n hx hb dX7_takesAt_130 rfl (lv_at hl 2 rfl) ?_
  refine lv_imul hx hb dX7_takesAt_131 ?_
  obtain ⟨h2, hf⟩ := gd_some hf
  refine pg_iald hC hP k_160 (bin_in h2) dX7_takesAt_132 ?_
  refine lv_imul hx hb dX7_takesAt_133 ?_
  exact pg_iret hC hr hlk hP hS hf dX7_takesAt_134
def P_X7_takesAt_L104 (N : Nat) (S : PSt) (x1 : Int32) (x3 : Int32) (x5 : Int32) (y0 : Int32) (y1 : Int32) : Option (Int32 × PSt) := cal2 (P_X7_isWorn N S x5 x3) fun r5 S3 => if r5 = (0 : Int32) then (P_X7_takesAt_L119 N S3 x1 y0 y1 (0 : Int32)) else (P_X7_takesAt_L119 N S3 x1 y0 y1 (3 : Int32))
set_option maxHeartbeats 4000000 in
set_option maxRecDepth 100000 in
theorem w_X7_takesAt_L104 {N : Nat} {S' : PSt} {r : Int32} (hX : Mx p s m args c meth cX7_takesAt RX7 9 (some .int) D cy ad tb) : ∀ (S : PSt) (x1 : Int32) (x3 : Int32) (x5 : Int32) (y0 : Int32) (y1 : Int32) (H : Heap) (locs : List Loc) (ls : Array Slot), P_X7_takesAt_L104 N S x1 x3 x5 y0 y1 = some (r, S') → va_P D vwCl (pW cy ad S) H → va_S (pA ad s.heap.size) s.heap H locs → lv_has ls 9 [(0, .ref (ad 158)), (1, .int x1), (3, .int x3), (5, .int x5)] → W p l e (rmd 2) s m args below meth c H locs 0 0 (Qz D cy ad below args s S' (some (.int r))) (F0 m 104 ls [.int y1, .int y0]) := by
  have hX0 := hX
  obtain ⟨hC, hml, hr, hlk⟩ := hX0
  have hx := hC.1
  have hb := hC.2.1
  intro S x1 x3 x5 y0 y1 H locs ls hf  hP hS hl
  unfold P_X7_takesAt_L104 at hf
  refine lv_aload_n hx hb dX7_takesAt_104 rfl (lv_at hl 0 rfl) ?_
  refine lv_iload hx hb dX7_takesAt_105 (lv_at hl 3 rfl) ?_
  refine lv_iload_n hx hb dX7_takesAt_107 rfl (lv_at hl 2 rfl) ?_
  obtain ⟨r5, S3, q4, hf⟩ := cal2_some hf
  refine pg_callV (As := [.int x5, .int x3]) (rest := [.int y1, .int y0]) (st1 := [.int r5, .int y1, .int y0]) (ci := 7) hC hml hP hS (c_X7_isWorn l hC.2.2.2.2.2.1 q4) ⟨by decide, by decide, rfl, rfl⟩ ⟨rfl, rfl⟩ (by decide) rfl (by decide) k_158 rfl rfl ⟨mk_X7_143, mi_X7_isWorn⟩ hd_X7_isWorn rfl hl.1 (Nat.le_of_ble_eq_true rfl) dX7_takesAt_108 (fun H locs hP hS => ?_)
  refine lv_if_eq (tgt := 118) hx hb dX7_takesAt_111 (by decide) (fun c6 => ?_) (fun c6 => ?_)
  · replace hf := ite_t c6 hf
    refine lv_iconst (v := 0) hx hb dX7_takesAt_118 (by decide) ?_
    exact w_X7_takesAt_L119 hX _ _ _ _ _ _ _ _ hf  hP hS (lv_sub hl [0, 1] rfl)
  · replace hf := ite_f c6 hf
    refine lv_iconst (v := 3) hx hb dX7_takesAt_114 (by decide) ?_
    refine lv_goto (tgt := 119) hx hb dX7_takesAt_115 (by decide) ?_
    exact w_X7_takesAt_L119 hX _ _ _ _ _ _ _ _ hf  hP hS (lv_sub hl [0, 1] rfl)
def P_X7_takesAt_L84 (N : Nat) (S : PSt) (x1 : Int32) (x3 : Int32) (x4 : Int32) (x5 : Int32) (y0 : Int32) (y1 : Int32) : Option (Int32 × PSt) := bnd (y0 + y1) fun v7 => cal2 (P_X7_isWorn N S x4 x3) fun r10 S8 => if r10 = (0 : Int32) then (P_X7_takesAt_L104 N S8 x1 x3 x5 v7 (0 : Int32)) else (P_X7_takesAt_L104 N S8 x1 x3 x5 v7 (3 : Int32))
set_option maxHeartbeats 4000000 in
set_option maxRecDepth 100000 in
theorem w_X7_takesAt_L84 {N : Nat} {S' : PSt} {r : Int32} (hX : Mx p s m args c meth cX7_takesAt RX7 9 (some .int) D cy ad tb) : ∀ (S : PSt) (x1 : Int32) (x3 : Int32) (x4 : Int32) (x5 : Int32) (y0 : Int32) (y1 : Int32) (H : Heap) (locs : List Loc) (ls : Array Slot), P_X7_takesAt_L84 N S x1 x3 x4 x5 y0 y1 = some (r, S') → va_P D vwCl (pW cy ad S) H → va_S (pA ad s.heap.size) s.heap H locs → lv_has ls 9 [(0, .ref (ad 158)), (1, .int x1), (3, .int x3), (4, .int x4), (5, .int x5)] → W p l e (rmd 2) s m args below meth c H locs 0 0 (Qz D cy ad below args s S' (some (.int r))) (F0 m 84 ls [.int y1, .int y0]) := by
  have hX0 := hX
  obtain ⟨hC, hml, hr, hlk⟩ := hX0
  have hx := hC.1
  have hb := hC.2.1
  intro S x1 x3 x4 x5 y0 y1 H locs ls hf  hP hS hl
  unfold P_X7_takesAt_L84 at hf
  refine lv_iadd hx hb dX7_takesAt_84 ?_
  obtain ⟨v7, ev7, hf⟩ := bnd_some hf
  refine pg_top ev7 ?_
  refine lv_istore (lv' := [(8, .int v7), (0, .ref (ad 158)), (1, .int x1), (3, .int x3), (4, .int x4), (5, .int x5)]) hx hb dX7_takesAt_85 hl (by decide) rfl (fun ls hl => ?_)
  refine lv_iload hx hb dX7_takesAt_87 (lv_at hl 0 rfl) ?_
  refine lv_aload_n hx hb dX7_takesAt_89 rfl (lv_at hl 1 rfl) ?_
  refine lv_iload hx hb dX7_takesAt_90 (lv_at hl 4 rfl) ?_
  refine lv_iload_n hx hb dX7_takesAt_92 rfl (lv_at hl 3 rfl) ?_
  obtain ⟨r10, S8, q9, hf⟩ := cal2_some hf
  refine pg_callV (As := [.int x4, .int x3]) (rest := [.int v7]) (st1 := [.int r10, .int v7]) (ci := 7) hC hml hP hS (c_X7_isWorn l hC.2.2.2.2.2.1 q9) ⟨by decide, by decide, rfl, rfl⟩ ⟨rfl, rfl⟩ (by decide) rfl (by decide) k_158 rfl rfl ⟨mk_X7_143, mi_X7_isWorn⟩ hd_X7_isWorn rfl hl.1 (Nat.le_of_ble_eq_true rfl) dX7_takesAt_93 (fun H locs hP hS => ?_)
  refine lv_if_eq (tgt := 103) hx hb dX7_takesAt_96 (by decide) (fun c11 => ?_) (fun c11 => ?_)
  · replace hf := ite_t c11 hf
    refine lv_iconst (v := 0) hx hb dX7_takesAt_103 (by decide) ?_
    exact w_X7_takesAt_L104 hX _ _ _ _ _ _ _ _ _ hf  hP hS (lv_sub hl [1, 2, 3, 5] rfl)
  · replace hf := ite_f c11 hf
    refine lv_iconst (v := 3) hx hb dX7_takesAt_99 (by decide) ?_
    refine lv_goto (tgt := 104) hx hb dX7_takesAt_100 (by decide) ?_
    exact w_X7_takesAt_L104 hX _ _ _ _ _ _ _ _ _ hf  hP hS (lv_sub hl [1, 2, 3, 5] rfl)
def P_X7_takesAt_L69 (N : Nat) (S : PSt) (x1 : Int32) (x3 : Int32) (x4 : Int32) (x5 : Int32) (x6 : Int32) (x7 : Int32) (y0 : Int32) (y1 : Int32) : Option (Int32 × PSt) := if (x6 - (4 : Int32)) ≤ x7 then (P_X7_takesAt_L84 N S x1 x3 x4 x5 (y0 + y1) (0 : Int32)) else (P_X7_takesAt_L84 N S x1 x3 x4 x5 (y0 + y1) (1 : Int32))
set_option maxHeartbeats 4000000 in
set_option maxRecDepth 100000 in
theorem w_X7_takesAt_L69 {N : Nat} {S' : PSt} {r : Int32} (hX : Mx p s m args c meth cX7_takesAt RX7 9 (some .int) D cy ad tb) : ∀ (S : PSt) (x1 : Int32) (x3 : Int32) (x4 : Int32) (x5 : Int32) (x6 : Int32) (x7 : Int32) (y0 : Int32) (y1 : Int32) (H : Heap) (locs : List Loc) (ls : Array Slot), P_X7_takesAt_L69 N S x1 x3 x4 x5 x6 x7 y0 y1 = some (r, S') → va_P D vwCl (pW cy ad S) H → va_S (pA ad s.heap.size) s.heap H locs → lv_has ls 9 [(0, .ref (ad 158)), (1, .int x1), (3, .int x3), (4, .int x4), (5, .int x5), (6, .int x6), (7, .int x7)] → W p l e (rmd 2) s m args below meth c H locs 0 0 (Qz D cy ad below args s S' (some (.int r))) (F0 m 69 ls [.int y1, .int y0]) := by
  have hX0 := hX
  obtain ⟨hC, hml, hr, hlk⟩ := hX0
  have hx := hC.1
  have hb := hC.2.1
  intro S x1 x3 x4 x5 x6 x7 y0 y1 H locs ls hf  hP hS hl
  unfold P_X7_takesAt_L69 at hf
  refine lv_iadd hx hb dX7_takesAt_69 ?_
  refine lv_iload hx hb dX7_takesAt_70 (lv_at hl 6 rfl) ?_
  refine lv_iload hx hb dX7_takesAt_72 (lv_at hl 5 rfl) ?_
  refine lv_iconst (v := 4) hx hb dX7_takesAt_74 (by decide) ?_
  refine lv_isub hx hb dX7_takesAt_75 ?_
  refine lv_icmp_ge (tgt := 83) hx hb dX7_takesAt_76 (by decide) (fun c12 => ?_) (fun c12 => ?_)
  · replace hf := ite_t c12 hf
    refine lv_iconst (v := 0) hx hb dX7_takesAt_83 (by decide) ?_
    exact w_X7_takesAt_L84 hX _ _ _ _ _ _ _ _ _ _ hf  hP hS (lv_sub hl [0, 1, 2, 3, 4] rfl)
  · replace hf := ite_f c12 hf
    refine lv_iconst (v := 1) hx hb dX7_takesAt_79 (by decide) ?_
    refine lv_goto (tgt := 84) hx hb dX7_takesAt_80 (by decide) ?_
    exact w_X7_takesAt_L84 hX _ _ _ _ _ _ _ _ _ _ hf  hP hS (lv_sub hl [0, 1, 2, 3, 4] rfl)
def P_X7_takesAt (N : Nat) (S : PSt) (x1 : Int32) (x2 : Int32) (x3 : Int32) : Option (Int32 × PSt) := bnd (x2 / (10 : Int32)) fun v13 => bnd (x2 - x2 / (10 : Int32) * (10 : Int32)) fun v14 => gd (bin ((2 : Int32) * v13) (ln 159)) <| gd (bin ((2 : Int32) * v14) (ln 159)) <| bnd ((gA S 159 ((2 : Int32) * v13).toNatClampNeg) + (gA S 159 ((2 : Int32) * v14).toNatClampNeg)) fun v17 => gd (bin (((4 : Int32) * x1) + (1 : Int32)) (ln 160)) <| bnd (gA S 160 (((4 : Int32) * x1) + (1 : Int32)).toNatClampNeg) fun v19 => gd (bin (((4 : Int32) * x1) + (2 : Int32)) (ln 160)) <| if v19 ≤ v17 then (P_X7_takesAt_L69 N S x1 x3 v13 v14 v17 v19 ((4 : Int32) + (gA S 160 (((4 : Int32) * x1) + (2 : Int32)).toNatClampNeg)) (0 : Int32)) else (P_X7_takesAt_L69 N S x1 x3 v13 v14 v17 v19 ((4 : Int32) + (gA S 160 (((4 : Int32) * x1) + (2 : Int32)).toNatClampNeg)) (2 : Int32))
set_option maxHeartbeats 4000000 in
set_option maxRecDepth 100000 in
theorem c_X7_takesAt (l : Launch) {D : va_G} {cy : Nat → ClassId} {ad tb : Nat → Nat} (hJ : pJ ad) {N : Nat} {S S' : PSt} {x1 : Int32} {x2 : Int32} {x3 : Int32} {r : Int32} (hf : P_X7_takesAt N S x1 x2 x3 = some (r, S')) : Ct l 2 yX7_takesAt cX7_takesAt 9 (some .int) D cy ad tb S S' [.ref (ad 158), .int x1, .int x2, .int x3] (some (.int r)) := by
  refine Ct_of hJ (by decide) (Nat.le_of_ble_eq_true rfl) (fun p e s m below meth c ls hX hP hS hl => ?_)
  have hl : lv_has ls 9 [(0, .ref (ad 158)), (1, .int x1), (2, .int x2), (3, .int x3)] := hl
  have hX0 := hX
  obtain ⟨hC, hml, hr, hlk⟩ := hX0
  have hx := hC.1
  have hb := hC.2.1
  unfold P_X7_takesAt at hf
  refine lv_iload_n hx hb dX7_takesAt_0 rfl (lv_at hl 2 rfl) ?_
  refine lv_bipush (v := 10) hx hb dX7_takesAt_1 (by decide) ?_
  refine lv_idiv hx hb dX7_takesAt_3 (by decide) ?_
  obtain ⟨v13, ev13, hf⟩ := bnd_some hf
  refine pg_top ev13 ?_
  refine lv_istore (lv' := [(4, .int v13), (0, .ref (ad 158)), (1, .int x1), (2, .int x2), (3, .int x3)]) hx hb dX7_takesAt_4 hl (by decide) rfl (fun ls hl => ?_)
  refine lv_iload_n hx hb dX7_takesAt_6 rfl (lv_at hl 3 rfl) ?_
  refine lv_bipush (v := 10) hx hb dX7_takesAt_7 (by decide) ?_
  refine lv_irem hx hb dX7_takesAt_9 (by decide) ?_
  obtain ⟨v14, ev14, hf⟩ := bnd_some hf
  refine pg_top ev14 ?_
  refine lv_istore (lv' := [(5, .int v14), (4, .int v13), (0, .ref (ad 158)), (1, .int x1), (2, .int x2), (3, .int x3)]) hx hb dX7_takesAt_10 hl (by decide) rfl (fun ls hl => ?_)
  refine lv_aload_n hx hb dX7_takesAt_12 rfl (lv_at hl 2 rfl) ?_
  refine gf_X7_7 hC hP k_158 (v := .ref (ad 159)) rfl dX7_takesAt_13 ?_
  refine lv_iconst (v := 2) hx hb dX7_takesAt_16 (by decide) ?_
  refine lv_iload hx hb dX7_takesAt_17 (lv_at hl 1 rfl) ?_
  refine lv_imul hx hb dX7_takesAt_19 ?_
  obtain ⟨h15, hf⟩ := gd_some hf
  refine pg_iald hC hP k_159 (bin_in h15) dX7_takesAt_20 ?_
  refine lv_aload_n hx hb dX7_takesAt_21 rfl (lv_at hl 2 rfl) ?_
  refine gf_X7_7 hC hP k_158 (v := .ref (ad 159)) rfl dX7_takesAt_22 ?_
  refine lv_iconst (v := 2) hx hb dX7_takesAt_25 (by decide) ?_
  refine lv_iload hx hb dX7_takesAt_26 (lv_at hl 0 rfl) ?_
  refine lv_imul hx hb dX7_takesAt_28 ?_
  obtain ⟨h16, hf⟩ := gd_some hf
  refine pg_iald hC hP k_159 (bin_in h16) dX7_takesAt_29 ?_
  refine lv_iadd hx hb dX7_takesAt_30 ?_
  obtain ⟨v17, ev17, hf⟩ := bnd_some hf
  refine pg_top ev17 ?_
  refine lv_istore (lv' := [(6, .int v17), (5, .int v14), (4, .int v13), (0, .ref (ad 158)), (1, .int x1), (2, .int x2), (3, .int x3)]) hx hb dX7_takesAt_31 hl (by decide) rfl (fun ls hl => ?_)
  refine lv_aload_n hx hb dX7_takesAt_33 rfl (lv_at hl 3 rfl) ?_
  refine gf_X7_13 hC hP k_158 (v := .ref (ad 160)) rfl dX7_takesAt_34 ?_
  refine lv_iconst (v := 4) hx hb dX7_takesAt_37 (by decide) ?_
  refine lv_iload_n hx hb dX7_takesAt_38 rfl (lv_at hl 4 rfl) ?_
  refine lv_imul hx hb dX7_takesAt_39 ?_
  refine lv_iconst (v := 1) hx hb dX7_takesAt_40 (by decide) ?_
  refine lv_iadd hx hb dX7_takesAt_41 ?_
  obtain ⟨h18, hf⟩ := gd_some hf
  refine pg_iald hC hP k_160 (bin_in h18) dX7_takesAt_42 ?_
  obtain ⟨v19, ev19, hf⟩ := bnd_some hf
  refine pg_top ev19 ?_
  refine lv_istore (lv' := [(7, .int v19), (6, .int v17), (5, .int v14), (4, .int v13), (0, .ref (ad 158)), (1, .int x1), (2, .int x2), (3, .int x3)]) hx hb dX7_takesAt_43 hl (by decide) rfl (fun ls hl => ?_)
  refine lv_iconst (v := 4) hx hb dX7_takesAt_45 (by decide) ?_
  refine lv_aload_n hx hb dX7_takesAt_46 rfl (lv_at hl 4 rfl) ?_
  refine gf_X7_13 hC hP k_158 (v := .ref (ad 160)) rfl dX7_takesAt_47 ?_
  refine lv_iconst (v := 4) hx hb dX7_takesAt_50 (by decide) ?_
  refine lv_iload_n hx hb dX7_takesAt_51 rfl (lv_at hl 5 rfl) ?_
  refine lv_imul hx hb dX7_takesAt_52 ?_
  refine lv_iconst (v := 2) hx hb dX7_takesAt_53 (by decide) ?_
  refine lv_iadd hx hb dX7_takesAt_54 ?_
  obtain ⟨h20, hf⟩ := gd_some hf
  refine pg_iald hC hP k_160 (bin_in h20) dX7_takesAt_55 ?_
  refine lv_iadd hx hb dX7_takesAt_56 ?_
  refine lv_iload hx hb dX7_takesAt_57 (lv_at hl 0 rfl) ?_
  refine lv_iload hx hb dX7_takesAt_59 (lv_at hl 1 rfl) ?_
  refine lv_icmp_le (tgt := 68) hx hb dX7_takesAt_61 (by decide) (fun c21 => ?_) (fun c21 => ?_)
  · replace hf := ite_t c21 hf
    refine lv_iconst (v := 0) hx hb dX7_takesAt_68 (by decide) ?_
    exact w_X7_takesAt_L69 hX _ _ _ _ _ _ _ _ _ _ _ _ hf  hP hS (lv_sub hl [4, 5, 7, 3, 2, 1, 0] rfl)
  · replace hf := ite_f c21 hf
    refine lv_iconst (v := 2) hx hb dX7_takesAt_64 (by decide) ?_
    refine lv_goto (tgt := 69) hx hb dX7_takesAt_65 (by decide) ?_
    exact w_X7_takesAt_L69 hX _ _ _ _ _ _ _ _ _ _ _ _ hf  hP hS (lv_sub hl [4, 5, 7, 3, 2, 1, 0] rfl)
def P_X7_tires_L98 (k3 : PSt → Int32 → Int32 → Int32 → Int32 → Option PSt) (N : Nat) (S : PSt) (x1 : Int32) (x2 : Int32) (x3 : Int32) (x4 : Int32) (y1 : Int32) (y2 : Int32) : Option PSt := gd (bin y1 (ln 170)) <| bnd (sA S 170 y1.toNatClampNeg y2) fun S2 => bnd (x4 + (1 : Int32)) fun v3 => k3 S2 x1 x2 x3 v3
set_option maxHeartbeats 4000000 in
set_option maxRecDepth 100000 in
theorem w_X7_tires_L98 {N : Nat} {S' : PSt} (hX : Mx p s m args c meth cX7_tires RX7 7 none D cy ad tb) {k3 : PSt → Int32 → Int32 → Int32 → Int32 → Option PSt} (hk3 : ∀ (S : PSt) (x1 : Int32) (x2 : Int32) (x3 : Int32) (x4 : Int32) (H : Heap) (locs : List Loc) (ls : Array Slot), k3 S x1 x2 x3 x4 = some S' → va_P D vwCl (pW cy ad S) H → va_S (pA ad s.heap.size) s.heap H locs → lv_has ls 7 [(0, .ref (ad 158)), (1, .int x1), (2, .int x2), (3, .int x3), (4, .int x4)] → W p l e (rmd 1) s m args below meth c H locs 0 0 (Qz D cy ad below args s S' none) (F0 m 3 ls [])) : ∀ (S : PSt) (x1 : Int32) (x2 : Int32) (x3 : Int32) (x4 : Int32) (y1 : Int32) (y2 : Int32) (H : Heap) (locs : List Loc) (ls : Array Slot), P_X7_tires_L98 k3 N S x1 x2 x3 x4 y1 y2 = some S' → va_P D vwCl (pW cy ad S) H → va_S (pA ad s.heap.size) s.heap H locs → lv_has ls 7 [(0, .ref (ad 158)), (1, .int x1), (2, .int x2), (3, .int x3), (4, .int x4)] → W p l e (rmd 1) s m args below meth c H locs 0 0 (Qz D cy ad below args s S' none) (F0 m 98 ls [.int y2, .int y1, .ref (ad 170)]) := by
  have hX0 := hX
  obtain ⟨hC, hml, hr, hlk⟩ := hX0
  have hx := hC.1
  have hb := hC.2.1
  intro S x1 x2 x3 x4 y1 y2 H locs ls hf  hP hS hl
  unfold P_X7_tires_L98 at hf
  obtain ⟨h1, hf⟩ := gd_some hf
  obtain ⟨S2, eS2, hf⟩ := bnd_some hf
  refine pg_iast hC hP hS k_170 (bin_in h1) dX7_tires_98 (fun H locs hP hS => ?_)
  rw [← eS2] at hP
  obtain ⟨v3, ev3, hf⟩ := bnd_some hf
  refine lv_iinc (v := v3) (lv' := [(4, .int v3), (0, .ref (ad 158)), (1, .int x1), (2, .int x2), (3, .int x3)]) hx hb dX7_tires_99 hl (k := 4) rfl (by rw [ev3]; rfl) (by decide) rfl (fun ls hl => ?_)
  refine lv_goto (tgt := 3) hx hb dX7_tires_102 (by decide) ?_
  exact hk3 _ _ _ _ _ _ _ _ hf  hP hS (lv_sub hl [1, 2, 3, 4, 0] rfl)
def P_X7_tires_L60 (k3 : PSt → Int32 → Int32 → Int32 → Int32 → Option PSt) (N : Nat) (S : PSt) (x1 : Int32) (x2 : Int32) (x3 : Int32) (x4 : Int32) (y0 : Int32) (y1 : Int32) : Option PSt := bnd (y0 + y1) fun v4 => if (0 : Int32) ≤ v4 then (if v4 ≤ (99 : Int32) then (P_X7_tires_L98 k3 N S x1 x2 x3 x4 ((((4 : Int32) * x1) + (4 : Int32)) + x4) v4) else (P_X7_tires_L98 k3 N S x1 x2 x3 x4 ((((4 : Int32) * x1) + (4 : Int32)) + x4) (99 : Int32))) else (P_X7_tires_L98 k3 N S x1 x2 x3 x4 ((((4 : Int32) * x1) + (4 : Int32)) + x4) (0 : Int32))
set_option maxHeartbeats 4000000 in
set_option maxRecDepth 100000 in
theorem w_X7_tires_L60 {N : Nat} {S' : PSt} (hX : Mx p s m args c meth cX7_tires RX7 7 none D cy ad tb) {k3 : PSt → Int32 → Int32 → Int32 → Int32 → Option PSt} (hk3 : ∀ (S : PSt) (x1 : Int32) (x2 : Int32) (x3 : Int32) (x4 : Int32) (H : Heap) (locs : List Loc) (ls : Array Slot), k3 S x1 x2 x3 x4 = some S' → va_P D vwCl (pW cy ad S) H → va_S (pA ad s.heap.size) s.heap H locs → lv_has ls 7 [(0, .ref (ad 158)), (1, .int x1), (2, .int x2), (3, .int x3), (4, .int x4)] → W p l e (rmd 1) s m args below meth c H locs 0 0 (Qz D cy ad below args s S' none) (F0 m 3 ls [])) : ∀ (S : PSt) (x1 : Int32) (x2 : Int32) (x3 : Int32) (x4 : Int32) (y0 : Int32) (y1 : Int32) (H : Heap) (locs : List Loc) (ls : Array Slot), P_X7_tires_L60 k3 N S x1 x2 x3 x4 y0 y1 = some S' → va_P D vwCl (pW cy ad S) H → va_S (pA ad s.heap.size) s.heap H locs → lv_has ls 7 [(0, .ref (ad 158)), (1, .int x1), (2, .int x2), (3, .int x3), (4, .int x4)] → W p l e (rmd 1) s m args below meth c H locs 0 0 (Qz D cy ad below args s S' none) (F0 m 60 ls [.int y1, .int y0]) := by
  have hX0 := hX
  obtain ⟨hC, hml, hr, hlk⟩ := hX0
  have hx := hC.1
  have hb := hC.2.1
  intro S x1 x2 x3 x4 y0 y1 H locs ls hf  hP hS hl
  unfold P_X7_tires_L60 at hf
  refine lv_iadd hx hb dX7_tires_60 ?_
  obtain ⟨v4, ev4, hf⟩ := bnd_some hf
  refine pg_top ev4 ?_
  refine lv_istore (lv' := [(6, .int v4), (0, .ref (ad 158)), (1, .int x1), (2, .int x2), (3, .int x3), (4, .int x4)]) hx hb dX7_tires_61 hl (by decide) rfl (fun ls hl => ?_)
  refine lv_aload_n hx hb dX7_tires_63 rfl (lv_at hl 1 rfl) ?_
  refine gf_X7_48 hC hP k_158 (v := .ref (ad 170)) rfl dX7_tires_64 ?_
  refine lv_iconst (v := 4) hx hb dX7_tires_67 (by decide) ?_
  refine lv_iload_n hx hb dX7_tires_68 rfl (lv_at hl 2 rfl) ?_
  refine lv_imul hx hb dX7_tires_69 ?_
  refine lv_iconst (v := 4) hx hb dX7_tires_70 (by decide) ?_
  refine lv_iadd hx hb dX7_tires_71 ?_
  refine lv_iload hx hb dX7_tires_72 (lv_at hl 5 rfl) ?_
  refine lv_iadd hx hb dX7_tires_74 ?_
  refine lv_iload hx hb dX7_tires_75 (lv_at hl 0 rfl) ?_
  refine lv_if_ge (tgt := 84) hx hb dX7_tires_77 (by decide) (fun c5 => ?_) (fun c5 => ?_)
  · replace hf := ite_t c5 hf
    refine lv_iload hx hb dX7_tires_84 (lv_at hl 0 rfl) ?_
    refine lv_bipush (v := 99) hx hb dX7_tires_86 (by decide) ?_
    refine lv_icmp_le (tgt := 96) hx hb dX7_tires_88 (by decide) (fun c6 => ?_) (fun c6 => ?_)
    · replace hf := ite_t c6 hf
      refine lv_iload hx hb dX7_tires_96 (lv_at hl 0 rfl) ?_
      exact w_X7_tires_L98 hX hk3 _ _ _ _ _ _ _ _ _ _ hf  hP hS (lv_sub hl [1, 2, 3, 4, 5] rfl)
    · replace hf := ite_f c6 hf
      refine lv_bipush (v := 99) hx hb dX7_tires_91 (by decide) ?_
      refine lv_goto (tgt := 98) hx hb dX7_tires_93 (by decide) ?_
      exact w_X7_tires_L98 hX hk3 _ _ _ _ _ _ _ _ _ _ hf  hP hS (lv_sub hl [1, 2, 3, 4, 5] rfl)
  · replace hf := ite_f c5 hf
    refine lv_iconst (v := 0) hx hb dX7_tires_80 (by decide) ?_
    refine lv_goto (tgt := 98) hx hb dX7_tires_81 (by decide) ?_
    exact w_X7_tires_L98 hX hk3 _ _ _ _ _ _ _ _ _ _ hf  hP hS (lv_sub hl [1, 2, 3, 4, 5] rfl)
def P_X7_tires_L36 (k3 : PSt → Int32 → Int32 → Int32 → Int32 → Option PSt) (N : Nat) (S : PSt) (x1 : Int32) (x2 : Int32) (x3 : Int32) (x4 : Int32) (y0 : Int32) : Option PSt := gd (bin (((4 : Int32) * x1) + x4) (ln 170)) <| if y0 = (0 : Int32) then (P_X7_tires_L60 k3 N S x1 x2 x3 x4 (gA S 170 (((4 : Int32) * x1) + x4).toNatClampNeg) (-x3)) else (P_X7_tires_L60 k3 N S x1 x2 x3 x4 (gA S 170 (((4 : Int32) * x1) + x4).toNatClampNeg) x3)
set_option maxHeartbeats 4000000 in
set_option maxRecDepth 100000 in
theorem w_X7_tires_L36 {N : Nat} {S' : PSt} (hX : Mx p s m args c meth cX7_tires RX7 7 none D cy ad tb) {k3 : PSt → Int32 → Int32 → Int32 → Int32 → Option PSt} (hk3 : ∀ (S : PSt) (x1 : Int32) (x2 : Int32) (x3 : Int32) (x4 : Int32) (H : Heap) (locs : List Loc) (ls : Array Slot), k3 S x1 x2 x3 x4 = some S' → va_P D vwCl (pW cy ad S) H → va_S (pA ad s.heap.size) s.heap H locs → lv_has ls 7 [(0, .ref (ad 158)), (1, .int x1), (2, .int x2), (3, .int x3), (4, .int x4)] → W p l e (rmd 1) s m args below meth c H locs 0 0 (Qz D cy ad below args s S' none) (F0 m 3 ls [])) : ∀ (S : PSt) (x1 : Int32) (x2 : Int32) (x3 : Int32) (x4 : Int32) (y0 : Int32) (H : Heap) (locs : List Loc) (ls : Array Slot), P_X7_tires_L36 k3 N S x1 x2 x3 x4 y0 = some S' → va_P D vwCl (pW cy ad S) H → va_S (pA ad s.heap.size) s.heap H locs → lv_has ls 7 [(0, .ref (ad 158)), (1, .int x1), (2, .int x2), (3, .int x3), (4, .int x4)] → W p l e (rmd 1) s m args below meth c H locs 0 0 (Qz D cy ad below args s S' none) (F0 m 36 ls [.int y0]) := by
  have hX0 := hX
  obtain ⟨hC, hml, hr, hlk⟩ := hX0
  have hx := hC.1
  have hb := hC.2.1
  intro S x1 x2 x3 x4 y0 H locs ls hf  hP hS hl
  unfold P_X7_tires_L36 at hf
  refine lv_istore (lv' := [(5, .int y0), (0, .ref (ad 158)), (1, .int x1), (2, .int x2), (3, .int x3), (4, .int x4)]) hx hb dX7_tires_36 hl (by decide) rfl (fun ls hl => ?_)
  refine lv_aload_n hx hb dX7_tires_38 rfl (lv_at hl 1 rfl) ?_
  refine gf_X7_48 hC hP k_158 (v := .ref (ad 170)) rfl dX7_tires_39 ?_
  refine lv_iconst (v := 4) hx hb dX7_tires_42 (by decide) ?_
  refine lv_iload_n hx hb dX7_tires_43 rfl (lv_at hl 2 rfl) ?_
  refine lv_imul hx hb dX7_tires_44 ?_
  refine lv_iload hx hb dX7_tires_45 (lv_at hl 5 rfl) ?_
  refine lv_iadd hx hb dX7_tires_47 ?_
  obtain ⟨h7, hf⟩ := gd_some hf
  refine pg_iald hC hP k_170 (bin_in h7) dX7_tires_48 ?_
  refine lv_iload hx hb dX7_tires_49 (lv_at hl 0 rfl) ?_
  refine lv_if_eq (tgt := 58) hx hb dX7_tires_51 (by decide) (fun c8 => ?_) (fun c8 => ?_)
  · replace hf := ite_t c8 hf
    refine lv_iload_n hx hb dX7_tires_58 rfl (lv_at hl 4 rfl) ?_
    refine lv_ineg hx hb dX7_tires_59 ?_
    exact w_X7_tires_L60 hX hk3 _ _ _ _ _ _ _ _ _ _ hf  hP hS (lv_sub hl [1, 2, 3, 4, 5] rfl)
  · replace hf := ite_f c8 hf
    refine lv_iload_n hx hb dX7_tires_54 rfl (lv_at hl 4 rfl) ?_
    refine lv_goto (tgt := 60) hx hb dX7_tires_55 (by decide) ?_
    exact w_X7_tires_L60 hX hk3 _ _ _ _ _ _ _ _ _ _ hf  hP hS (lv_sub hl [1, 2, 3, 4, 5] rfl)
def P_X7_tires_L35 (k3 : PSt → Int32 → Int32 → Int32 → Int32 → Option PSt) (N : Nat) (S : PSt) (x1 : Int32) (x2 : Int32) (x3 : Int32) (x4 : Int32) : Option PSt := P_X7_tires_L36 k3 N S x1 x2 x3 x4 (0 : Int32)
set_option maxHeartbeats 4000000 in
set_option maxRecDepth 100000 in
theorem w_X7_tires_L35 {N : Nat} {S' : PSt} (hX : Mx p s m args c meth cX7_tires RX7 7 none D cy ad tb) {k3 : PSt → Int32 → Int32 → Int32 → Int32 → Option PSt} (hk3 : ∀ (S : PSt) (x1 : Int32) (x2 : Int32) (x3 : Int32) (x4 : Int32) (H : Heap) (locs : List Loc) (ls : Array Slot), k3 S x1 x2 x3 x4 = some S' → va_P D vwCl (pW cy ad S) H → va_S (pA ad s.heap.size) s.heap H locs → lv_has ls 7 [(0, .ref (ad 158)), (1, .int x1), (2, .int x2), (3, .int x3), (4, .int x4)] → W p l e (rmd 1) s m args below meth c H locs 0 0 (Qz D cy ad below args s S' none) (F0 m 3 ls [])) : ∀ (S : PSt) (x1 : Int32) (x2 : Int32) (x3 : Int32) (x4 : Int32) (H : Heap) (locs : List Loc) (ls : Array Slot), P_X7_tires_L35 k3 N S x1 x2 x3 x4 = some S' → va_P D vwCl (pW cy ad S) H → va_S (pA ad s.heap.size) s.heap H locs → lv_has ls 7 [(0, .ref (ad 158)), (1, .int x1), (2, .int x2), (3, .int x3), (4, .int x4)] → W p l e (rmd 1) s m args below meth c H locs 0 0 (Qz D cy ad below args s S' none) (F0 m 35 ls []) := by
  have hX0 := hX
  obtain ⟨hC, hml, hr, hlk⟩ := hX0
  have hx := hC.1
  have hb := hC.2.1
  intro S x1 x2 x3 x4 H locs ls hf  hP hS hl
  unfold P_X7_tires_L35 at hf
  refine lv_iconst (v := 0) hx hb dX7_tires_35 (by decide) ?_
  exact w_X7_tires_L36 hX hk3 _ _ _ _ _ _ _ _ _ hf  hP hS (lv_sub hl [0, 1, 2, 3, 4] rfl)
def P_X7_tires_L31 (k3 : PSt → Int32 → Int32 → Int32 → Int32 → Option PSt) (N : Nat) (S : PSt) (x1 : Int32) (x2 : Int32) (x3 : Int32) (x4 : Int32) : Option PSt := P_X7_tires_L36 k3 N S x1 x2 x3 x4 (1 : Int32)
set_option maxHeartbeats 4000000 in
set_option maxRecDepth 100000 in
theorem w_X7_tires_L31 {N : Nat} {S' : PSt} (hX : Mx p s m args c meth cX7_tires RX7 7 none D cy ad tb) {k3 : PSt → Int32 → Int32 → Int32 → Int32 → Option PSt} (hk3 : ∀ (S : PSt) (x1 : Int32) (x2 : Int32) (x3 : Int32) (x4 : Int32) (H : Heap) (locs : List Loc) (ls : Array Slot), k3 S x1 x2 x3 x4 = some S' → va_P D vwCl (pW cy ad S) H → va_S (pA ad s.heap.size) s.heap H locs → lv_has ls 7 [(0, .ref (ad 158)), (1, .int x1), (2, .int x2), (3, .int x3), (4, .int x4)] → W p l e (rmd 1) s m args below meth c H locs 0 0 (Qz D cy ad below args s S' none) (F0 m 3 ls [])) : ∀ (S : PSt) (x1 : Int32) (x2 : Int32) (x3 : Int32) (x4 : Int32) (H : Heap) (locs : List Loc) (ls : Array Slot), P_X7_tires_L31 k3 N S x1 x2 x3 x4 = some S' → va_P D vwCl (pW cy ad S) H → va_S (pA ad s.heap.size) s.heap H locs → lv_has ls 7 [(0, .ref (ad 158)), (1, .int x1), (2, .int x2), (3, .int x3), (4, .int x4)] → W p l e (rmd 1) s m args below meth c H locs 0 0 (Qz D cy ad below args s S' none) (F0 m 31 ls []) := by
  have hX0 := hX
  obtain ⟨hC, hml, hr, hlk⟩ := hX0
  have hx := hC.1
  have hb := hC.2.1
  intro S x1 x2 x3 x4 H locs ls hf  hP hS hl
  unfold P_X7_tires_L31 at hf
  refine lv_iconst (v := 1) hx hb dX7_tires_31 (by decide) ?_
  refine lv_goto (tgt := 36) hx hb dX7_tires_32 (by decide) ?_
  exact w_X7_tires_L36 hX hk3 _ _ _ _ _ _ _ _ _ hf  hP hS (lv_sub hl [0, 1, 2, 3, 4] rfl)
def P_X7_tires_L3 (N : Nat) : Nat → PSt → Int32 → Int32 → Int32 → Int32 → Option PSt
  | 0 => fun _ _ _ _ _ => none
  | n + 1 => fun S x1 x2 x3 x4 => if (4 : Int32) ≤ x4 then (some S) else (if x2 < (0 : Int32) then (P_X7_tires_L35 (P_X7_tires_L3 N n) N S x1 x2 x3 x4) else (if x4 = (x2 / (10 : Int32)) then (P_X7_tires_L31 (P_X7_tires_L3 N n) N S x1 x2 x3 x4) else (if x4 = (x2 - x2 / (10 : Int32) * (10 : Int32)) then (P_X7_tires_L31 (P_X7_tires_L3 N n) N S x1 x2 x3 x4) else (P_X7_tires_L35 (P_X7_tires_L3 N n) N S x1 x2 x3 x4))))
set_option maxHeartbeats 4000000 in
set_option maxRecDepth 100000 in
theorem w_X7_tires_L3 {N : Nat} {S' : PSt} (hX : Mx p s m args c meth cX7_tires RX7 7 none D cy ad tb) : ∀ (n : Nat), ∀ (S : PSt) (x1 : Int32) (x2 : Int32) (x3 : Int32) (x4 : Int32) (H : Heap) (locs : List Loc) (ls : Array Slot), P_X7_tires_L3 N n S x1 x2 x3 x4 = some S' → va_P D vwCl (pW cy ad S) H → va_S (pA ad s.heap.size) s.heap H locs → lv_has ls 7 [(0, .ref (ad 158)), (1, .int x1), (2, .int x2), (3, .int x3), (4, .int x4)] → W p l e (rmd 1) s m args below meth c H locs 0 0 (Qz D cy ad below args s S' none) (F0 m 3 ls []) := by
  have hX0 := hX
  obtain ⟨hC, hml, hr, hlk⟩ := hX0
  have hx := hC.1
  have hb := hC.2.1
  intro n
  induction n with
  | zero => intro S x1 x2 x3 x4 H locs ls hf; exact absurd hf (by intro h; cases h)
  | succ n ih =>
    intro S x1 x2 x3 x4 H locs ls hf  hP hS hl
    rw [P_X7_tires_L3] at hf
    refine lv_iload hx hb dX7_tires_3 (lv_at hl 4 rfl) ?_
    refine lv_iconst (v := 4) hx hb dX7_tires_5 (by decide) ?_
    refine lv_icmp_ge (tgt := 105) hx hb dX7_tires_6 (by decide) (fun c9 => ?_) (fun c9 => ?_)
    · replace hf := ite_t c9 hf
      exact pg_vret hC hr hlk hP hS hf dX7_tires_105
    · replace hf := ite_f c9 hf
      refine lv_iload_n hx hb dX7_tires_9 rfl (lv_at hl 2 rfl) ?_
      refine lv_if_lt (tgt := 35) hx hb dX7_tires_10 (by decide) (fun c10 => ?_) (fun c10 => ?_)
      · replace hf := ite_t c10 hf
        exact w_X7_tires_L35 hX ih _ _ _ _ _ _ _ _ hf  hP hS (lv_sub hl [0, 1, 2, 3, 4] rfl)
      · replace hf := ite_f c10 hf
        refine lv_iload hx hb dX7_tires_13 (lv_at hl 4 rfl) ?_
        refine lv_iload_n hx hb dX7_tires_15 rfl (lv_at hl 2 rfl) ?_
        refine lv_bipush (v := 10) hx hb dX7_tires_16 (by decide) ?_
        refine lv_idiv hx hb dX7_tires_18 (by decide) ?_
        refine lv_icmp_eq (tgt := 31) hx hb dX7_tires_19 (by decide) (fun c11 => ?_) (fun c11 => ?_)
        · replace hf := ite_t c11 hf
          exact w_X7_tires_L31 hX ih _ _ _ _ _ _ _ _ hf  hP hS (lv_sub hl [0, 1, 2, 3, 4] rfl)
        · replace hf := ite_f c11 hf
          refine lv_iload hx hb dX7_tires_22 (lv_at hl 4 rfl) ?_
          refine lv_iload_n hx hb dX7_tires_24 rfl (lv_at hl 2 rfl) ?_
          refine lv_bipush (v := 10) hx hb dX7_tires_25 (by decide) ?_
          refine lv_irem hx hb dX7_tires_27 (by decide) ?_
          refine lv_icmp_ne (tgt := 35) hx hb dX7_tires_28 (by decide) (fun c12 => ?_) (fun c12 => ?_)
          · replace hf := ite_f c12 hf
            exact w_X7_tires_L35 hX ih _ _ _ _ _ _ _ _ hf  hP hS (lv_sub hl [0, 1, 2, 3, 4] rfl)
          · replace hf := ite_t c12 hf
            exact w_X7_tires_L31 hX ih _ _ _ _ _ _ _ _ hf  hP hS (lv_sub hl [0, 1, 2, 3, 4] rfl)
def P_X7_tires (N : Nat) (S : PSt) (x1 : Int32) (x2 : Int32) (x3 : Int32) : Option PSt := P_X7_tires_L3 N N S x1 x2 x3 (0 : Int32)
set_option maxHeartbeats 4000000 in
set_option maxRecDepth 100000 in
theorem c_X7_tires (l : Launch) {D : va_G} {cy : Nat → ClassId} {ad tb : Nat → Nat} (hJ : pJ ad) {N : Nat} {S S' : PSt} {x1 : Int32} {x2 : Int32} {x3 : Int32} (hf : P_X7_tires N S x1 x2 x3 = some S') : Ct l 1 yX7_tires cX7_tires 7 none D cy ad tb S S' [.ref (ad 158), .int x1, .int x2, .int x3] none := by
  refine Ct_of hJ (by decide) (Nat.le_of_ble_eq_true rfl) (fun p e s m below meth c ls hX hP hS hl => ?_)
  have hl : lv_has ls 7 [(0, .ref (ad 158)), (1, .int x1), (2, .int x2), (3, .int x3)] := hl
  have hX0 := hX
  obtain ⟨hC, hml, hr, hlk⟩ := hX0
  have hx := hC.1
  have hb := hC.2.1
  unfold P_X7_tires at hf
  refine lv_iconst (v := 0) hx hb dX7_tires_0 (by decide) ?_
  refine lv_istore (lv' := [(4, .int (0 : Int32)), (0, .ref (ad 158)), (1, .int x1), (2, .int x2), (3, .int x3)]) hx hb dX7_tires_1 hl (by decide) rfl (fun ls hl => ?_)
  exact w_X7_tires_L3 hX _ _ _ _ _ _ _ _ _ hf  hP hS (lv_sub hl [1, 2, 3, 4, 0] rfl)
def P_X7_walksOn_L54 (N : Nat) (S : PSt) (x1 : Int32) (x2 : Int32) (x3 : Int32) (y1 : Int32) (y2 : Int32) (y3 : Int32) : Option PSt := cal2 (P_X7_takesAt N S x2 x3 x1) fun r3 S1 => gd (bin y1 (ln 171)) <| bnd (sA S1 171 y1.toNatClampNeg ((y2 + y3) + r3)) fun S5 => gd (bin ((4 : Int32) * x2) (ln 160)) <| cal1 (P_X7_tires N S5 x1 x3 (gA S5 160 ((4 : Int32) * x2).toNatClampNeg)) fun S7 => gd (bin (x1 + (1 : Int32)) (ln 172)) <| bnd (sA S7 172 (x1 + (1 : Int32)).toNatClampNeg x3) fun S10 => some S10
set_option maxHeartbeats 4000000 in
set_option maxRecDepth 100000 in
theorem w_X7_walksOn_L54 {N : Nat} {S' : PSt} (hX : Mx p s m args c meth cX7_walksOn RX7 5 none D cy ad tb) : ∀ (S : PSt) (x1 : Int32) (x2 : Int32) (x3 : Int32) (y1 : Int32) (y2 : Int32) (y3 : Int32) (H : Heap) (locs : List Loc) (ls : Array Slot), P_X7_walksOn_L54 N S x1 x2 x3 y1 y2 y3 = some S' → va_P D vwCl (pW cy ad S) H → va_S (pA ad s.heap.size) s.heap H locs → lv_has ls 5 [(0, .ref (ad 158)), (1, .int x1), (2, .int x2), (3, .int x3)] → W p l e (rmd 3) s m args below meth c H locs 0 0 (Qz D cy ad below args s S' none) (F0 m 54 ls [.int y3, .int y2, .int y1, .ref (ad 171)]) := by
  have hX0 := hX
  obtain ⟨hC, hml, hr, hlk⟩ := hX0
  have hx := hC.1
  have hb := hC.2.1
  intro S x1 x2 x3 y1 y2 y3 H locs ls hf  hP hS hl
  unfold P_X7_walksOn_L54 at hf
  refine lv_iadd hx hb dX7_walksOn_54 ?_
  refine lv_aload_n hx hb dX7_walksOn_55 rfl (lv_at hl 0 rfl) ?_
  refine lv_iload_n hx hb dX7_walksOn_56 rfl (lv_at hl 2 rfl) ?_
  refine lv_iload_n hx hb dX7_walksOn_57 rfl (lv_at hl 3 rfl) ?_
  refine lv_iload_n hx hb dX7_walksOn_58 rfl (lv_at hl 1 rfl) ?_
  obtain ⟨r3, S1, q2, hf⟩ := cal2_some hf
  refine pg_callV (As := [.int x2, .int x3, .int x1]) (rest := [.int (y2 + y3), .int y1, .ref (ad 171)]) (st1 := [.int r3, .int (y2 + y3), .int y1, .ref (ad 171)]) (ci := 7) hC hml hP hS (c_X7_takesAt l hC.2.2.2.2.2.1 q2) ⟨by decide, by decide, rfl, rfl⟩ ⟨rfl, rfl⟩ (by decide) rfl (by decide) k_158 rfl rfl ⟨mk_X7_147, mi_X7_takesAt⟩ hd_X7_takesAt rfl hl.1 (Nat.le_of_ble_eq_true rfl) dX7_walksOn_59 (fun H locs hP hS => ?_)
  refine lv_iadd hx hb dX7_walksOn_62 ?_
  obtain ⟨h4, hf⟩ := gd_some hf
  obtain ⟨S5, eS5, hf⟩ := bnd_some hf
  refine pg_iast hC hP hS k_171 (bin_in h4) dX7_walksOn_63 (fun H locs hP hS => ?_)
  rw [← eS5] at hP
  refine lv_aload_n hx hb dX7_walksOn_64 rfl (lv_at hl 0 rfl) ?_
  refine lv_iload_n hx hb dX7_walksOn_65 rfl (lv_at hl 1 rfl) ?_
  refine lv_iload_n hx hb dX7_walksOn_66 rfl (lv_at hl 3 rfl) ?_
  refine lv_aload_n hx hb dX7_walksOn_67 rfl (lv_at hl 0 rfl) ?_
  refine gf_X7_13 hC hP k_158 (v := .ref (ad 160)) rfl dX7_walksOn_68 ?_
  refine lv_iconst (v := 4) hx hb dX7_walksOn_71 (by decide) ?_
  refine lv_iload_n hx hb dX7_walksOn_72 rfl (lv_at hl 2 rfl) ?_
  refine lv_imul hx hb dX7_walksOn_73 ?_
  obtain ⟨h6, hf⟩ := gd_some hf
  refine pg_iald hC hP k_160 (bin_in h6) dX7_walksOn_74 ?_
  obtain ⟨S7, q8, hf⟩ := cal1_some hf
  refine pg_callV (As := [.int x1, .int x3, .int (gA S5 160 ((4 : Int32) * x2).toNatClampNeg)]) (rest := []) (st1 := []) (ci := 7) hC hml hP hS (c_X7_tires l hC.2.2.2.2.2.1 q8) ⟨by decide, by decide, rfl, rfl⟩ ⟨rfl, rfl⟩ (by decide) rfl (by decide) k_158 rfl rfl ⟨mk_X7_151, mi_X7_tires⟩ hd_X7_tires rfl hl.1 (Nat.le_of_ble_eq_true rfl) dX7_walksOn_75 (fun H locs hP hS => ?_)
  refine lv_aload_n hx hb dX7_walksOn_78 rfl (lv_at hl 0 rfl) ?_
  refine gf_X7_54 hC hP k_158 (v := .ref (ad 172)) rfl dX7_walksOn_79 ?_
  refine lv_iload_n hx hb dX7_walksOn_82 rfl (lv_at hl 1 rfl) ?_
  refine lv_iconst (v := 1) hx hb dX7_walksOn_83 (by decide) ?_
  refine lv_iadd hx hb dX7_walksOn_84 ?_
  refine lv_iload_n hx hb dX7_walksOn_85 rfl (lv_at hl 3 rfl) ?_
  obtain ⟨h9, hf⟩ := gd_some hf
  obtain ⟨S10, eS10, hf⟩ := bnd_some hf
  refine pg_iast hC hP hS k_172 (bin_in h9) dX7_walksOn_86 (fun H locs hP hS => ?_)
  rw [← eS10] at hP
  exact pg_vret hC hr hlk hP hS hf dX7_walksOn_87
def P_X7_walksOn_L26 (N : Nat) (S : PSt) (x1 : Int32) (x2 : Int32) (x3 : Int32) (y0 : Int32) : Option PSt := gd (bin x1 (ln 171)) <| if y0 = (0 : Int32) then (P_X7_walksOn_L54 N S x1 x2 x3 (x1 + (1 : Int32)) (gA S 171 x1.toNatClampNeg) (0 : Int32)) else (P_X7_walksOn_L54 N S x1 x2 x3 (x1 + (1 : Int32)) (gA S 171 x1.toNatClampNeg) (gI S 704 158))
set_option maxHeartbeats 4000000 in
set_option maxRecDepth 100000 in
theorem w_X7_walksOn_L26 {N : Nat} {S' : PSt} (hX : Mx p s m args c meth cX7_walksOn RX7 5 none D cy ad tb) : ∀ (S : PSt) (x1 : Int32) (x2 : Int32) (x3 : Int32) (y0 : Int32) (H : Heap) (locs : List Loc) (ls : Array Slot), P_X7_walksOn_L26 N S x1 x2 x3 y0 = some S' → va_P D vwCl (pW cy ad S) H → va_S (pA ad s.heap.size) s.heap H locs → lv_has ls 5 [(0, .ref (ad 158)), (1, .int x1), (2, .int x2), (3, .int x3)] → W p l e (rmd 3) s m args below meth c H locs 0 0 (Qz D cy ad below args s S' none) (F0 m 26 ls [.int y0]) := by
  have hX0 := hX
  obtain ⟨hC, hml, hr, hlk⟩ := hX0
  have hx := hC.1
  have hb := hC.2.1
  intro S x1 x2 x3 y0 H locs ls hf  hP hS hl
  unfold P_X7_walksOn_L26 at hf
  refine lv_istore (lv' := [(4, .int y0), (0, .ref (ad 158)), (1, .int x1), (2, .int x2), (3, .int x3)]) hx hb dX7_walksOn_26 hl (by decide) rfl (fun ls hl => ?_)
  refine lv_aload_n hx hb dX7_walksOn_28 rfl (lv_at hl 1 rfl) ?_
  refine gf_X7_51 hC hP k_158 (v := .ref (ad 171)) rfl dX7_walksOn_29 ?_
  refine lv_iload_n hx hb dX7_walksOn_32 rfl (lv_at hl 2 rfl) ?_
  refine lv_iconst (v := 1) hx hb dX7_walksOn_33 (by decide) ?_
  refine lv_iadd hx hb dX7_walksOn_34 ?_
  refine lv_aload_n hx hb dX7_walksOn_35 rfl (lv_at hl 1 rfl) ?_
  refine gf_X7_51 hC hP k_158 (v := .ref (ad 171)) rfl dX7_walksOn_36 ?_
  refine lv_iload_n hx hb dX7_walksOn_39 rfl (lv_at hl 2 rfl) ?_
  obtain ⟨h11, hf⟩ := gd_some hf
  refine pg_iald hC hP k_171 (bin_in h11) dX7_walksOn_40 ?_
  refine lv_iload hx hb dX7_walksOn_41 (lv_at hl 0 rfl) ?_
  refine lv_if_eq (tgt := 53) hx hb dX7_walksOn_43 (by decide) (fun c12 => ?_) (fun c12 => ?_)
  · replace hf := ite_t c12 hf
    refine lv_iconst (v := 0) hx hb dX7_walksOn_53 (by decide) ?_
    exact w_X7_walksOn_L54 hX _ _ _ _ _ _ _ _ _ _ hf  hP hS (lv_sub hl [1, 2, 3, 4] rfl)
  · replace hf := ite_f c12 hf
    refine lv_aload_n hx hb dX7_walksOn_46 rfl (lv_at hl 1 rfl) ?_
    refine gf_X7_16 hC hP k_158 (v := .int (gI S 704 158)) rfl dX7_walksOn_47 ?_
    refine lv_goto (tgt := 54) hx hb dX7_walksOn_50 (by decide) ?_
    exact w_X7_walksOn_L54 hX _ _ _ _ _ _ _ _ _ _ hf  hP hS (lv_sub hl [1, 2, 3, 4] rfl)
def P_X7_walksOn_L25 (N : Nat) (S : PSt) (x1 : Int32) (x2 : Int32) (x3 : Int32) : Option PSt := P_X7_walksOn_L26 N S x1 x2 x3 (0 : Int32)
set_option maxHeartbeats 4000000 in
set_option maxRecDepth 100000 in
theorem w_X7_walksOn_L25 {N : Nat} {S' : PSt} (hX : Mx p s m args c meth cX7_walksOn RX7 5 none D cy ad tb) : ∀ (S : PSt) (x1 : Int32) (x2 : Int32) (x3 : Int32) (H : Heap) (locs : List Loc) (ls : Array Slot), P_X7_walksOn_L25 N S x1 x2 x3 = some S' → va_P D vwCl (pW cy ad S) H → va_S (pA ad s.heap.size) s.heap H locs → lv_has ls 5 [(0, .ref (ad 158)), (1, .int x1), (2, .int x2), (3, .int x3)] → W p l e (rmd 3) s m args below meth c H locs 0 0 (Qz D cy ad below args s S' none) (F0 m 25 ls []) := by
  have hX0 := hX
  obtain ⟨hC, hml, hr, hlk⟩ := hX0
  have hx := hC.1
  have hb := hC.2.1
  intro S x1 x2 x3 H locs ls hf  hP hS hl
  unfold P_X7_walksOn_L25 at hf
  refine lv_iconst (v := 0) hx hb dX7_walksOn_25 (by decide) ?_
  exact w_X7_walksOn_L26 hX _ _ _ _ _ _ _ _ hf  hP hS (lv_sub hl [0, 1, 2, 3] rfl)
def P_X7_walksOn (N : Nat) (S : PSt) (x1 : Int32) (x2 : Int32) (x3 : Int32) : Option PSt := gd (bin x1 (ln 172)) <| if (gA S 172 x1.toNatClampNeg) = (-9 : Int32) then (P_X7_walksOn_L25 N S x1 x2 x3) else (gd (bin x1 (ln 172)) <| if (gA S 172 x1.toNatClampNeg) = x3 then (P_X7_walksOn_L25 N S x1 x2 x3) else (P_X7_walksOn_L26 N S x1 x2 x3 (1 : Int32)))
set_option maxHeartbeats 4000000 in
set_option maxRecDepth 100000 in
theorem c_X7_walksOn (l : Launch) {D : va_G} {cy : Nat → ClassId} {ad tb : Nat → Nat} (hJ : pJ ad) {N : Nat} {S S' : PSt} {x1 : Int32} {x2 : Int32} {x3 : Int32} (hf : P_X7_walksOn N S x1 x2 x3 = some S') : Ct l 3 yX7_walksOn cX7_walksOn 5 none D cy ad tb S S' [.ref (ad 158), .int x1, .int x2, .int x3] none := by
  refine Ct_of hJ (by decide) (Nat.le_of_ble_eq_true rfl) (fun p e s m below meth c ls hX hP hS hl => ?_)
  have hl : lv_has ls 5 [(0, .ref (ad 158)), (1, .int x1), (2, .int x2), (3, .int x3)] := hl
  have hX0 := hX
  obtain ⟨hC, hml, hr, hlk⟩ := hX0
  have hx := hC.1
  have hb := hC.2.1
  unfold P_X7_walksOn at hf
  refine lv_aload_n hx hb dX7_walksOn_0 rfl (lv_at hl 0 rfl) ?_
  refine gf_X7_54 hC hP k_158 (v := .ref (ad 172)) rfl dX7_walksOn_1 ?_
  refine lv_iload_n hx hb dX7_walksOn_4 rfl (lv_at hl 1 rfl) ?_
  obtain ⟨h13, hf⟩ := gd_some hf
  refine pg_iald hC hP k_172 (bin_in h13) dX7_walksOn_5 ?_
  refine lv_bipush (v := -9) hx hb dX7_walksOn_6 (by decide) ?_
  refine lv_icmp_eq (tgt := 25) hx hb dX7_walksOn_8 (by decide) (fun c14 => ?_) (fun c14 => ?_)
  · replace hf := ite_t c14 hf
    exact w_X7_walksOn_L25 hX _ _ _ _ _ _ _ hf  hP hS (lv_sub hl [0, 1, 2, 3] rfl)
  · replace hf := ite_f c14 hf
    refine lv_aload_n hx hb dX7_walksOn_11 rfl (lv_at hl 0 rfl) ?_
    refine gf_X7_54 hC hP k_158 (v := .ref (ad 172)) rfl dX7_walksOn_12 ?_
    refine lv_iload_n hx hb dX7_walksOn_15 rfl (lv_at hl 1 rfl) ?_
    obtain ⟨h15, hf⟩ := gd_some hf
    refine pg_iald hC hP k_172 (bin_in h15) dX7_walksOn_16 ?_
    refine lv_iload_n hx hb dX7_walksOn_17 rfl (lv_at hl 3 rfl) ?_
    refine lv_icmp_eq (tgt := 25) hx hb dX7_walksOn_18 (by decide) (fun c16 => ?_) (fun c16 => ?_)
    · replace hf := ite_t c16 hf
      exact w_X7_walksOn_L25 hX _ _ _ _ _ _ _ hf  hP hS (lv_sub hl [0, 1, 2, 3] rfl)
    · replace hf := ite_f c16 hf
      refine lv_iconst (v := 1) hx hb dX7_walksOn_21 (by decide) ?_
      refine lv_goto (tgt := 26) hx hb dX7_walksOn_22 (by decide) ?_
      exact w_X7_walksOn_L26 hX _ _ _ _ _ _ _ _ hf  hP hS (lv_sub hl [0, 1, 2, 3] rfl)
def P_X7_walksAll_L11 (N : Nat) : Nat → PSt → Int32 → Int32 → Option (Int32 × PSt)
  | 0 => fun _ _ _ => none
  | n + 1 => fun S x1 x2 => if (gI S 702 158) ≤ x2 then (gd (bin ((gI S 702 158) - (gA S 161 (0 : Int32).toNatClampNeg)) (ln 171)) <| some ((gA S 171 ((gI S 702 158) - (gA S 161 (0 : Int32).toNatClampNeg)).toNatClampNeg), S)) else (cal1 (P_X7_walksOn N S (x2 - (gA S 161 (0 : Int32).toNatClampNeg)) x2 x1) fun S3 => bnd (x2 + (1 : Int32)) fun v5 => P_X7_walksAll_L11 N n S3 x1 v5)
set_option maxHeartbeats 4000000 in
set_option maxRecDepth 100000 in
theorem w_X7_walksAll_L11 {N : Nat} {S' : PSt} {r : Int32} (hX : Mx p s m args c meth cX7_walksAll RX7 3 (some .int) D cy ad tb) : ∀ (n : Nat), ∀ (S : PSt) (x1 : Int32) (x2 : Int32) (H : Heap) (locs : List Loc) (ls : Array Slot), P_X7_walksAll_L11 N n S x1 x2 = some (r, S') → va_P D vwCl (pW cy ad S) H → va_S (pA ad s.heap.size) s.heap H locs → lv_has ls 3 [(0, .ref (ad 158)), (1, .int x1), (2, .int x2)] → W p l e (rmd 4) s m args below meth c H locs 0 0 (Qz D cy ad below args s S' (some (.int r))) (F0 m 11 ls []) := by
  have hX0 := hX
  obtain ⟨hC, hml, hr, hlk⟩ := hX0
  have hx := hC.1
  have hb := hC.2.1
  intro n
  induction n with
  | zero => intro S x1 x2 H locs ls hf; exact absurd hf (by intro h; cases h)
  | succ n ih =>
    intro S x1 x2 H locs ls hf  hP hS hl
    rw [P_X7_walksAll_L11] at hf
    refine lv_iload_n hx hb dX7_walksAll_11 rfl (lv_at hl 2 rfl) ?_
    refine lv_aload_n hx hb dX7_walksAll_12 rfl (lv_at hl 0 rfl) ?_
    refine gf_X7_76 hC hP k_158 (v := .int (gI S 702 158)) rfl dX7_walksAll_13 ?_
    refine lv_icmp_ge (tgt := 39) hx hb dX7_walksAll_16 (by decide) (fun c1 => ?_) (fun c1 => ?_)
    · replace hf := ite_t c1 hf
      refine lv_aload_n hx hb dX7_walksAll_39 rfl (lv_at hl 0 rfl) ?_
      refine gf_X7_51 hC hP k_158 (v := .ref (ad 171)) rfl dX7_walksAll_40 ?_
      refine lv_aload_n hx hb dX7_walksAll_43 rfl (lv_at hl 0 rfl) ?_
      refine gf_X7_76 hC hP k_158 (v := .int (gI S 702 158)) rfl dX7_walksAll_44 ?_
      refine lv_aload_n hx hb dX7_walksAll_47 rfl (lv_at hl 0 rfl) ?_
      refine gf_X7_20 hC hP k_158 (v := .ref (ad 161)) rfl dX7_walksAll_48 ?_
      refine lv_iconst (v := 0) hx hb dX7_walksAll_51 (by decide) ?_
      refine pg_iald hC hP k_161 (bin_in (by decide +kernel)) dX7_walksAll_52 ?_
      refine lv_isub hx hb dX7_walksAll_53 ?_
      obtain ⟨h2, hf⟩ := gd_some hf
      refine pg_iald hC hP k_171 (bin_in h2) dX7_walksAll_54 ?_
      exact pg_iret hC hr hlk hP hS hf dX7_walksAll_55
    · replace hf := ite_f c1 hf
      refine lv_aload_n hx hb dX7_walksAll_19 rfl (lv_at hl 0 rfl) ?_
      refine lv_iload_n hx hb dX7_walksAll_20 rfl (lv_at hl 2 rfl) ?_
      refine lv_aload_n hx hb dX7_walksAll_21 rfl (lv_at hl 0 rfl) ?_
      refine gf_X7_20 hC hP k_158 (v := .ref (ad 161)) rfl dX7_walksAll_22 ?_
      refine lv_iconst (v := 0) hx hb dX7_walksAll_25 (by decide) ?_
      refine pg_iald hC hP k_161 (bin_in (by decide +kernel)) dX7_walksAll_26 ?_
      refine lv_isub hx hb dX7_walksAll_27 ?_
      refine lv_iload_n hx hb dX7_walksAll_28 rfl (lv_at hl 2 rfl) ?_
      refine lv_iload_n hx hb dX7_walksAll_29 rfl (lv_at hl 1 rfl) ?_
      obtain ⟨S3, q4, hf⟩ := cal1_some hf
      refine pg_callV (As := [.int (x2 - (gA S 161 (0 : Int32).toNatClampNeg)), .int x2, .int x1]) (rest := []) (st1 := []) (ci := 7) hC hml hP hS (c_X7_walksOn l hC.2.2.2.2.2.1 q4) ⟨by decide, by decide, rfl, rfl⟩ ⟨rfl, rfl⟩ (by decide) rfl (by decide) k_158 rfl rfl ⟨mk_X7_158, mi_X7_walksOn⟩ hd_X7_walksOn rfl hl.1 (Nat.le_of_ble_eq_true rfl) dX7_walksAll_30 (fun H locs hP hS => ?_)
      obtain ⟨v5, ev5, hf⟩ := bnd_some hf
      refine lv_iinc (v := v5) (lv' := [(2, .int v5), (0, .ref (ad 158)), (1, .int x1)]) hx hb dX7_walksAll_33 hl (k := 2) rfl (by rw [ev5]; rfl) (by decide) rfl (fun ls hl => ?_)
      refine lv_goto (tgt := 11) hx hb dX7_walksAll_36 (by decide) ?_
      exact ih _ _ _ _ _ _ hf  hP hS (lv_sub hl [1, 2, 0] rfl)
def P_X7_walksAll (N : Nat) (S : PSt) (x1 : Int32) : Option (Int32 × PSt) := cal1 (P_X7_fromNow N S) fun S6 => bnd (gA S6 161 (0 : Int32).toNatClampNeg) fun v8 => P_X7_walksAll_L11 N N S6 x1 v8
set_option maxHeartbeats 4000000 in
set_option maxRecDepth 100000 in
theorem c_X7_walksAll (l : Launch) {D : va_G} {cy : Nat → ClassId} {ad tb : Nat → Nat} (hJ : pJ ad) {N : Nat} {S S' : PSt} {x1 : Int32} {r : Int32} (hf : P_X7_walksAll N S x1 = some (r, S')) : Ct l 4 yX7_walksAll cX7_walksAll 3 (some .int) D cy ad tb S S' [.ref (ad 158), .int x1] (some (.int r)) := by
  refine Ct_of hJ (by decide) (Nat.le_of_ble_eq_true rfl) (fun p e s m below meth c ls hX hP hS hl => ?_)
  have hl : lv_has ls 3 [(0, .ref (ad 158)), (1, .int x1)] := hl
  have hX0 := hX
  obtain ⟨hC, hml, hr, hlk⟩ := hX0
  have hx := hC.1
  have hb := hC.2.1
  unfold P_X7_walksAll at hf
  refine lv_aload_n hx hb dX7_walksAll_0 rfl (lv_at hl 0 rfl) ?_
  obtain ⟨S6, q7, hf⟩ := cal1_some hf
  refine pg_callV (As := []) (rest := []) (st1 := []) (ci := 7) hC hml hP hS (c_X7_fromNow l hC.2.2.2.2.2.1 q7) ⟨by decide, by decide, rfl, rfl⟩ ⟨rfl, rfl⟩ (by decide) rfl (by decide) k_158 rfl rfl ⟨mk_X7_155, mi_X7_fromNow⟩ hd_X7_fromNow rfl hl.1 (Nat.le_of_ble_eq_true rfl) dX7_walksAll_1 (fun H locs hP hS => ?_)
  refine lv_aload_n hx hb dX7_walksAll_4 rfl (lv_at hl 0 rfl) ?_
  refine gf_X7_20 hC hP k_158 (v := .ref (ad 161)) rfl dX7_walksAll_5 ?_
  refine lv_iconst (v := 0) hx hb dX7_walksAll_8 (by decide) ?_
  refine pg_iald hC hP k_161 (bin_in (by decide +kernel)) dX7_walksAll_9 ?_
  obtain ⟨v8, ev8, hf⟩ := bnd_some hf
  refine pg_top ev8 ?_
  refine lv_istore_n (lv' := [(2, .int v8), (0, .ref (ad 158)), (1, .int x1)]) hx hb dX7_walksAll_10 rfl hl (by decide) rfl (fun ls hl => ?_)
  exact w_X7_walksAll_L11 hX _ _ _ _ _ _ _ hf  hP hS (lv_sub hl [1, 2, 0] rfl)
end GEN
