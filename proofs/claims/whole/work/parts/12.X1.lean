section GEN
variable {p : Program} {l : Launch} {e : Env} {s : State} {m : MethodId} {args : Array Value} {below : List Frame} {meth : Method} {c : Code} {D : va_G} {cy : Nat → ClassId} {ad tb : Nat → Nat}
def P_X1_mayBeQuicker (N : Nat) (S : PSt) (a0 : Nat) (a1 : Nat) (x2 : Int32) (x3 : Int32) : Option (Int32 × PSt) := if (gI S 101 a0) = (-9 : Int32) then (some ((1 : Int32), S)) else (gd (bin (gI S 401 a1) (ln (a1 + 8))) <| gd (bin x2 (ln (a1 + 8))) <| if (gI S 101 a0) ≤ ((x3 + (gA S (a1 + 8) (gI S 401 a1).toNatClampNeg)) - (gA S (a1 + 8) x2.toNatClampNeg)) then (some ((0 : Int32), S)) else (some ((1 : Int32), S)))
set_option maxHeartbeats 4000000 in
set_option maxRecDepth 100000 in
theorem c_X1_mayBeQuicker (l : Launch) {D : va_G} {cy : Nat → ClassId} {ad tb : Nat → Nat} (hJ : pJ ad) {N : Nat} {S S' : PSt} {a0 : Nat} {a1 : Nat} {x2 : Int32} {x3 : Int32} {r : Int32} (hf : P_X1_mayBeQuicker N S a0 a1 x2 x3 = some (r, S')) (h_a0 : kd a0 = 1) (h_a1 : kd a1 = 4) : Ct l 1 yX1_mayBeQuicker cX1_mayBeQuicker 4 (some .boolean) D cy ad tb S S' [.ref (ad a0), .ref (ad a1), .int x2, .int x3] (some (.int r)) := by
  refine Ct_of hJ (by decide) (Nat.le_of_ble_eq_true rfl) (fun p e s m below meth c ls hX hP hS hl => ?_)
  have hl : lv_has ls 4 [(0, .ref (ad a0)), (1, .ref (ad a1)), (2, .int x2), (3, .int x3)] := hl
  have hX0 := hX
  obtain ⟨hC, hml, hr, hlk⟩ := hX0
  have hx := hC.1
  have hb := hC.2.1
  unfold P_X1_mayBeQuicker at hf
  refine lv_aload_n hx hb dX1_mayBeQuicker_0 rfl (lv_at hl 0 rfl) ?_
  refine gf_X1_9 hC hP h_a0 (v := .int (gI S 101 a0)) rfl dX1_mayBeQuicker_1 ?_
  refine lv_bipush (v := -9) hx hb dX1_mayBeQuicker_4 (by decide) ?_
  refine lv_icmp_eq (tgt := 34) hx hb dX1_mayBeQuicker_6 (by decide) (fun c1 => ?_) (fun c1 => ?_)
  · replace hf := ite_t c1 hf
    refine lv_iconst (v := 1) hx hb dX1_mayBeQuicker_34 (by decide) ?_
    refine lv_goto (tgt := 39) hx hb dX1_mayBeQuicker_35 (by decide) ?_
    exact pg_zret hC hr hlk hP hS (by decide) hf dX1_mayBeQuicker_39
  · replace hf := ite_f c1 hf
    refine lv_iload_n hx hb dX1_mayBeQuicker_9 rfl (lv_at hl 3 rfl) ?_
    refine lv_aload_n hx hb dX1_mayBeQuicker_10 rfl (lv_at hl 1 rfl) ?_
    refine gf_X1_80 hC hP h_a1 (v := .ref (ad (a1 + 8))) rfl dX1_mayBeQuicker_11 ?_
    refine lv_aload_n hx hb dX1_mayBeQuicker_14 rfl (lv_at hl 1 rfl) ?_
    refine gf_X1_44 hC hP h_a1 (v := .int (gI S 401 a1)) rfl dX1_mayBeQuicker_15 ?_
    obtain ⟨h2, hf⟩ := gd_some hf
    refine pg_iald hC hP (ko_4_8 h_a1) (bin_in h2) dX1_mayBeQuicker_18 ?_
    refine lv_iadd hx hb dX1_mayBeQuicker_19 ?_
    refine lv_aload_n hx hb dX1_mayBeQuicker_20 rfl (lv_at hl 1 rfl) ?_
    refine gf_X1_80 hC hP h_a1 (v := .ref (ad (a1 + 8))) rfl dX1_mayBeQuicker_21 ?_
    refine lv_iload_n hx hb dX1_mayBeQuicker_24 rfl (lv_at hl 2 rfl) ?_
    obtain ⟨h3, hf⟩ := gd_some hf
    refine pg_iald hC hP (ko_4_8 h_a1) (bin_in h3) dX1_mayBeQuicker_25 ?_
    refine lv_isub hx hb dX1_mayBeQuicker_26 ?_
    refine lv_aload_n hx hb dX1_mayBeQuicker_27 rfl (lv_at hl 0 rfl) ?_
    refine gf_X1_9 hC hP h_a0 (v := .int (gI S 101 a0)) rfl dX1_mayBeQuicker_28 ?_
    refine lv_icmp_ge (tgt := 38) hx hb dX1_mayBeQuicker_31 (by decide) (fun c4 => ?_) (fun c4 => ?_)
    · replace hf := ite_t c4 hf
      refine lv_iconst (v := 0) hx hb dX1_mayBeQuicker_38 (by decide) ?_
      exact pg_zret hC hr hlk hP hS (by decide) hf dX1_mayBeQuicker_39
    · replace hf := ite_f c4 hf
      refine lv_iconst (v := 1) hx hb dX1_mayBeQuicker_34 (by decide) ?_
      refine lv_goto (tgt := 39) hx hb dX1_mayBeQuicker_35 (by decide) ?_
      exact pg_zret hC hr hlk hP hS (by decide) hf dX1_mayBeQuicker_39
def P_X1_take_L7 (N : Nat) : Nat → PSt → Nat → Int32 → Option PSt
  | 0 => fun _ _ _ => none
  | n + 1 => fun S a0 x2 => if (6 : Int32) ≤ x2 then (some S) else (gd (bin x2 (ln (a0 + 2))) <| gd (bin x2 (ln (a0 + 1))) <| bnd (sA S (a0 + 1) x2.toNatClampNeg (gA S (a0 + 2) x2.toNatClampNeg)) fun S4 => bnd (x2 + (1 : Int32)) fun v5 => P_X1_take_L7 N n S4 a0 v5)
set_option maxHeartbeats 4000000 in
set_option maxRecDepth 100000 in
theorem w_X1_take_L7 {N : Nat} {S' : PSt} (hX : Mx p s m args c meth cX1_take RX1 3 none D cy ad tb) : ∀ (n : Nat), ∀ (S : PSt) (a0 : Nat) (x2 : Int32) (H : Heap) (locs : List Loc) (ls : Array Slot), P_X1_take_L7 N n S a0 x2 = some S' → kd a0 = 1 → va_P D vwCl (pW cy ad S) H → va_S (pA ad s.heap.size) s.heap H locs → lv_has ls 3 [(0, .ref (ad a0)), (2, .int x2)] → W p l e (rmd 1) s m args below meth c H locs 0 0 (Qz D cy ad below args s S' none) (F0 m 7 ls []) := by
  have hX0 := hX
  obtain ⟨hC, hml, hr, hlk⟩ := hX0
  have hx := hC.1
  have hb := hC.2.1
  intro n
  induction n with
  | zero => intro S a0 x2 H locs ls hf; exact absurd hf (by intro h; cases h)
  | succ n ih =>
    intro S a0 x2 H locs ls hf h_a0 hP hS hl
    rw [P_X1_take_L7] at hf
    refine lv_iload_n hx hb dX1_take_7 rfl (lv_at hl 1 rfl) ?_
    refine lv_bipush (v := 6) hx hb dX1_take_8 (by decide) ?_
    refine lv_icmp_ge (tgt := 31) hx hb dX1_take_10 (by decide) (fun c1 => ?_) (fun c1 => ?_)
    · replace hf := ite_t c1 hf
      exact pg_vret hC hr hlk hP hS hf dX1_take_31
    · replace hf := ite_f c1 hf
      refine lv_aload_n hx hb dX1_take_13 rfl (lv_at hl 0 rfl) ?_
      refine gf_X1_15 hC hP h_a0 (v := .ref (ad (a0 + 1))) rfl dX1_take_14 ?_
      refine lv_iload_n hx hb dX1_take_17 rfl (lv_at hl 1 rfl) ?_
      refine lv_aload_n hx hb dX1_take_18 rfl (lv_at hl 0 rfl) ?_
      refine gf_X1_19 hC hP h_a0 (v := .ref (ad (a0 + 2))) rfl dX1_take_19 ?_
      refine lv_iload_n hx hb dX1_take_22 rfl (lv_at hl 1 rfl) ?_
      obtain ⟨h2, hf⟩ := gd_some hf
      refine pg_iald hC hP (ko_1_2 h_a0) (bin_in h2) dX1_take_23 ?_
      obtain ⟨h3, hf⟩ := gd_some hf
      obtain ⟨S4, eS4, hf⟩ := bnd_some hf
      refine pg_iast hC hP hS (ko_1_1 h_a0) (bin_in h3) dX1_take_24 (fun H locs hP hS => ?_)
      rw [← eS4] at hP
      obtain ⟨v5, ev5, hf⟩ := bnd_some hf
      refine lv_iinc (v := v5) (lv' := [(2, .int v5), (0, .ref (ad a0))]) hx hb dX1_take_25 hl (k := 1) rfl (by rw [ev5]; rfl) (by decide) rfl (fun ls hl => ?_)
      refine lv_goto (tgt := 7) hx hb dX1_take_28 (by decide) ?_
      exact ih _ _ _ _ _ _ hf h_a0 hP hS (lv_sub hl [1, 0] rfl)
def P_X1_take (N : Nat) (S : PSt) (a0 : Nat) (x1 : Int32) : Option PSt := bnd (sI S 101 a0 x1) fun S6 => P_X1_take_L7 N N S6 a0 (0 : Int32)
set_option maxHeartbeats 4000000 in
set_option maxRecDepth 100000 in
theorem c_X1_take (l : Launch) {D : va_G} {cy : Nat → ClassId} {ad tb : Nat → Nat} (hJ : pJ ad) {N : Nat} {S S' : PSt} {a0 : Nat} {x1 : Int32} (hf : P_X1_take N S a0 x1 = some S') (h_a0 : kd a0 = 1) : Ct l 1 yX1_take cX1_take 3 none D cy ad tb S S' [.ref (ad a0), .int x1] none := by
  refine Ct_of hJ (by decide) (Nat.le_of_ble_eq_true rfl) (fun p e s m below meth c ls hX hP hS hl => ?_)
  have hl : lv_has ls 3 [(0, .ref (ad a0)), (1, .int x1)] := hl
  have hX0 := hX
  obtain ⟨hC, hml, hr, hlk⟩ := hX0
  have hx := hC.1
  have hb := hC.2.1
  unfold P_X1_take at hf
  refine lv_aload_n hx hb dX1_take_0 rfl (lv_at hl 0 rfl) ?_
  refine lv_iload_n hx hb dX1_take_1 rfl (lv_at hl 1 rfl) ?_
  obtain ⟨S6, eS6, hf⟩ := bnd_some hf
  refine pf_X1_9 hC hP hS h_a0 eS6 dX1_take_2 (fun H locs hP hS => ?_)
  refine lv_iconst (v := 0) hx hb dX1_take_5 (by decide) ?_
  refine lv_istore_n (lv' := [(2, .int (0 : Int32)), (0, .ref (ad a0)), (1, .int x1)]) hx hb dX1_take_6 rfl hl (by decide) rfl (fun ls hl => ?_)
  exact w_X1_take_L7 hX _ _ _ _ _ _ _ hf h_a0 hP hS (lv_sub hl [1, 0] rfl)
def P_X1_search_L86 (self : PSt → Nat → Nat → Int32 → Option PSt) (k48 : PSt → Nat → Nat → Int32 → Nat → Nat → Int32 → Option PSt) (N : Nat) (S : PSt) (a0 : Nat) (a1 : Nat) (x2 : Int32) (a3 : Nat) (a4 : Nat) (x5 : Int32) (x6 : Int32) : Option PSt := cal2 (P_X0_minutesToWalk N S a3 a1 x6) fun r3 S1 => bnd ((gI S 1 a3) + r3) fun v4 => cal2 (P_X1_mayBeQuicker N S1 a0 a1 (x2 + (1 : Int32)) v4) fun r7 S5 => if r7 = (0 : Int32) then (bnd (x5 + (1 : Int32)) fun v9 => k48 S5 a0 a1 x2 a3 a4 v9) else (cal1 (P_X0_copy N S5 a4 a3) fun S10 => cal1 (P_X0_walkOn N S10 a4 a1 x6 v4) fun S12 => gd (bin x2 (ln (a0 + 2))) <| bnd (sA S12 (a0 + 2) x2.toNatClampNeg x6) fun S15 => cal1 (self S15 a0 a1 (x2 + (1 : Int32))) fun S16 => bnd (x5 + (1 : Int32)) fun v18 => k48 S16 a0 a1 x2 a3 a4 v18)
set_option maxHeartbeats 4000000 in
set_option maxRecDepth 100000 in
theorem w_X1_search_L86 {N : Nat} {S' : PSt} (hX : Mx p s m args c meth cX1_search RX1 8 none D cy ad tb) {self : PSt → Nat → Nat → Int32 → Option PSt} {d : Nat} (hself : ∀ (S S' : PSt) (a0 : Nat) (a1 : Nat) (x2 : Int32), self S a0 a1 x2 = some S' → kd a0 = 1 → kd a1 = 4 → Ct l (d + 3) yX1_search cX1_search 8 none D cy ad tb S S' [.ref (ad a0), .ref (ad a1), .int x2] none) {k48 : PSt → Nat → Nat → Int32 → Nat → Nat → Int32 → Option PSt} (hk48 : ∀ (S : PSt) (a0 : Nat) (a1 : Nat) (x2 : Int32) (a3 : Nat) (a4 : Nat) (x5 : Int32) (H : Heap) (locs : List Loc) (ls : Array Slot), k48 S a0 a1 x2 a3 a4 x5 = some S' → kd a0 = 1 → kd a1 = 4 → kd a3 = 0 → kd a4 = 0 → va_P D vwCl (pW cy ad S) H → va_S (pA ad s.heap.size) s.heap H locs → lv_has ls 8 [(0, .ref (ad a0)), (1, .ref (ad a1)), (2, .int x2), (3, .ref (ad a3)), (4, .ref (ad a4)), (5, .int x5)] → W p l e (rmd (d + 4)) s m args below meth c H locs 0 0 (Qz D cy ad below args s S' none) (F0 m 48 ls [])) : ∀ (S : PSt) (a0 : Nat) (a1 : Nat) (x2 : Int32) (a3 : Nat) (a4 : Nat) (x5 : Int32) (x6 : Int32) (H : Heap) (locs : List Loc) (ls : Array Slot), P_X1_search_L86 self k48 N S a0 a1 x2 a3 a4 x5 x6 = some S' → kd a0 = 1 → kd a1 = 4 → kd a3 = 0 → kd a4 = 0 → va_P D vwCl (pW cy ad S) H → va_S (pA ad s.heap.size) s.heap H locs → lv_has ls 8 [(0, .ref (ad a0)), (1, .ref (ad a1)), (2, .int x2), (3, .ref (ad a3)), (4, .ref (ad a4)), (5, .int x5), (6, .int x6)] → W p l e (rmd (d + 4)) s m args below meth c H locs 0 0 (Qz D cy ad below args s S' none) (F0 m 86 ls []) := by
  have hX0 := hX
  obtain ⟨hC, hml, hr, hlk⟩ := hX0
  have hx := hC.1
  have hb := hC.2.1
  intro S a0 a1 x2 a3 a4 x5 x6 H locs ls hf h_a0 h_a1 h_a3 h_a4 hP hS hl
  unfold P_X1_search_L86 at hf
  refine lv_aload_n hx hb dX1_search_86 rfl (lv_at hl 3 rfl) ?_
  refine gf_X1_51 hC hP h_a3 (v := .int (gI S 1 a3)) rfl dX1_search_87 ?_
  refine lv_aload_n hx hb dX1_search_90 rfl (lv_at hl 3 rfl) ?_
  refine lv_aload_n hx hb dX1_search_91 rfl (lv_at hl 1 rfl) ?_
  refine lv_iload hx hb dX1_search_92 (lv_at hl 6 rfl) ?_
  obtain ⟨r3, S1, q2, hf⟩ := cal2_some hf
  refine pg_callV (As := [.ref (ad a1), .int x6]) (rest := [.int (gI S 1 a3)]) (st1 := [.int r3, .int (gI S 1 a3)]) (ci := 0) hC hml hP hS (c_X0_minutesToWalk l hC.2.2.2.2.2.1 q2 h_a3 h_a1) ⟨by show 3 + 1 ≤ d + 4; omega, by show 40 * (3 + 1) + 40 ≤ 40 * (d + 4) + 40; omega, rfl, rfl⟩ ⟨rfl, rfl⟩ (by decide) rfl (by decide) h_a3 rfl rfl ⟨mk_X1_69, mi_X0_minutesToWalk⟩ hd_X0_minutesToWalk rfl hl.1 (Nat.le_of_ble_eq_true rfl) dX1_search_94 (fun H locs hP hS => ?_)
  refine lv_iadd hx hb dX1_search_97 ?_
  obtain ⟨v4, ev4, hf⟩ := bnd_some hf
  refine pg_top ev4 ?_
  refine lv_istore (lv' := [(7, .int v4), (0, .ref (ad a0)), (1, .ref (ad a1)), (2, .int x2), (3, .ref (ad a3)), (4, .ref (ad a4)), (5, .int x5), (6, .int x6)]) hx hb dX1_search_98 hl (by decide) rfl (fun ls hl => ?_)
  refine lv_aload_n hx hb dX1_search_100 rfl (lv_at hl 1 rfl) ?_
  refine lv_aload_n hx hb dX1_search_101 rfl (lv_at hl 2 rfl) ?_
  refine lv_iload_n hx hb dX1_search_102 rfl (lv_at hl 3 rfl) ?_
  refine lv_iconst (v := 1) hx hb dX1_search_103 (by decide) ?_
  refine lv_iadd hx hb dX1_search_104 ?_
  refine lv_iload hx hb dX1_search_105 (lv_at hl 0 rfl) ?_
  obtain ⟨r7, S5, q6, hf⟩ := cal2_some hf
  refine pg_callV (As := [.ref (ad a1), .int (x2 + (1 : Int32)), .int v4]) (rest := []) (st1 := [.int r7]) (ci := 1) hC hml hP hS (c_X1_mayBeQuicker l hC.2.2.2.2.2.1 q6 h_a0 h_a1) ⟨by show 1 + 1 ≤ d + 4; omega, by show 40 * (1 + 1) + 40 ≤ 40 * (d + 4) + 40; omega, rfl, rfl⟩ ⟨rfl, rfl⟩ (by decide) rfl (by decide) h_a0 rfl rfl ⟨mk_X1_72, mi_X1_mayBeQuicker⟩ hd_X1_mayBeQuicker rfl hl.1 (Nat.le_of_ble_eq_true rfl) dX1_search_107 (fun H locs hP hS => ?_)
  refine lv_if_eq (tgt := 145) hx hb dX1_search_110 (by decide) (fun c8 => ?_) (fun c8 => ?_)
  · replace hf := ite_t c8 hf
    obtain ⟨v9, ev9, hf⟩ := bnd_some hf
    refine lv_iinc (v := v9) (lv' := [(5, .int v9), (7, .int v4), (0, .ref (ad a0)), (1, .ref (ad a1)), (2, .int x2), (3, .ref (ad a3)), (4, .ref (ad a4)), (6, .int x6)]) hx hb dX1_search_145 hl (k := 6) rfl (by rw [ev9]; rfl) (by decide) rfl (fun ls hl => ?_)
    refine lv_goto (tgt := 48) hx hb dX1_search_148 (by decide) ?_
    exact hk48 _ _ _ _ _ _ _ _ _ _ hf h_a0 h_a1 h_a3 h_a4 hP hS (lv_sub hl [2, 3, 4, 5, 6, 0] rfl)
  · replace hf := ite_f c8 hf
    refine lv_aload hx hb dX1_search_113 (lv_at hl 5 rfl) ?_
    refine lv_aload_n hx hb dX1_search_115 rfl (lv_at hl 4 rfl) ?_
    obtain ⟨S10, q11, hf⟩ := cal1_some hf
    refine pg_callV (As := [.ref (ad a3)]) (rest := []) (st1 := []) (ci := 0) hC hml hP hS (c_X0_copy l hC.2.2.2.2.2.1 q11 h_a4 h_a3) ⟨by show 1 + 1 ≤ d + 4; omega, by show 40 * (1 + 1) + 40 ≤ 40 * (d + 4) + 40; omega, rfl, rfl⟩ ⟨rfl, rfl⟩ (by decide) rfl (by decide) h_a4 rfl rfl ⟨mk_X1_47, mi_X0_copy⟩ hd_X0_copy rfl hl.1 (Nat.le_of_ble_eq_true rfl) dX1_search_116 (fun H locs hP hS => ?_)
    refine lv_aload hx hb dX1_search_119 (lv_at hl 5 rfl) ?_
    refine lv_aload_n hx hb dX1_search_121 rfl (lv_at hl 2 rfl) ?_
    refine lv_iload hx hb dX1_search_122 (lv_at hl 7 rfl) ?_
    refine lv_iload hx hb dX1_search_124 (lv_at hl 0 rfl) ?_
    obtain ⟨S12, q13, hf⟩ := cal1_some hf
    refine pg_callV (As := [.ref (ad a1), .int x6, .int v4]) (rest := []) (st1 := []) (ci := 0) hC hml hP hS (c_X0_walkOn l hC.2.2.2.2.2.1 q13 h_a4 h_a1) ⟨by show 2 + 1 ≤ d + 4; omega, by show 40 * (2 + 1) + 40 ≤ 40 * (d + 4) + 40; omega, rfl, rfl⟩ ⟨rfl, rfl⟩ (by decide) rfl (by decide) h_a4 rfl rfl ⟨mk_X1_76, mi_X0_walkOn⟩ hd_X0_walkOn rfl hl.1 (Nat.le_of_ble_eq_true rfl) dX1_search_126 (fun H locs hP hS => ?_)
    refine lv_aload_n hx hb dX1_search_129 rfl (lv_at hl 1 rfl) ?_
    refine gf_X1_19 hC hP h_a0 (v := .ref (ad (a0 + 2))) rfl dX1_search_130 ?_
    refine lv_iload_n hx hb dX1_search_133 rfl (lv_at hl 3 rfl) ?_
    refine lv_iload hx hb dX1_search_134 (lv_at hl 7 rfl) ?_
    obtain ⟨h14, hf⟩ := gd_some hf
    obtain ⟨S15, eS15, hf⟩ := bnd_some hf
    refine pg_iast hC hP hS (ko_1_2 h_a0) (bin_in h14) dX1_search_136 (fun H locs hP hS => ?_)
    rw [← eS15] at hP
    refine lv_aload_n hx hb dX1_search_137 rfl (lv_at hl 1 rfl) ?_
    refine lv_aload_n hx hb dX1_search_138 rfl (lv_at hl 2 rfl) ?_
    refine lv_iload_n hx hb dX1_search_139 rfl (lv_at hl 3 rfl) ?_
    refine lv_iconst (v := 1) hx hb dX1_search_140 (by decide) ?_
    refine lv_iadd hx hb dX1_search_141 ?_
    obtain ⟨S16, q17, hf⟩ := cal1_some hf
    refine pg_callV (As := [.ref (ad a1), .int (x2 + (1 : Int32))]) (rest := []) (st1 := []) (ci := 1) hC hml hP hS (hself _ _ _ _ _ q17 h_a0 h_a1) ⟨by show d + 3 + 1 ≤ d + 4; omega, by show 40 * (d + 3 + 1) + 40 ≤ 40 * (d + 4) + 40; omega, rfl, rfl⟩ ⟨rfl, rfl⟩ (by decide) rfl (by decide) h_a0 rfl rfl ⟨mk_X1_54, mi_X1_search⟩ hd_X1_search rfl hl.1 (Nat.le_of_ble_eq_true rfl) dX1_search_142 (fun H locs hP hS => ?_)
    obtain ⟨v18, ev18, hf⟩ := bnd_some hf
    refine lv_iinc (v := v18) (lv' := [(5, .int v18), (7, .int v4), (0, .ref (ad a0)), (1, .ref (ad a1)), (2, .int x2), (3, .ref (ad a3)), (4, .ref (ad a4)), (6, .int x6)]) hx hb dX1_search_145 hl (k := 6) rfl (by rw [ev18]; rfl) (by decide) rfl (fun ls hl => ?_)
    refine lv_goto (tgt := 48) hx hb dX1_search_148 (by decide) ?_
    exact hk48 _ _ _ _ _ _ _ _ _ _ hf h_a0 h_a1 h_a3 h_a4 hP hS (lv_sub hl [2, 3, 4, 5, 6, 0] rfl)
def P_X1_search_L48 (self : PSt → Nat → Nat → Int32 → Option PSt) (N : Nat) : Nat → PSt → Nat → Nat → Int32 → Nat → Nat → Int32 → Option PSt
  | 0 => fun _ _ _ _ _ _ _ => none
  | n + 1 => fun S a0 a1 x2 a3 a4 x5 => if (gI S 404 a1) ≤ x5 then (some S) else (gd (bin x5 (ln (a1 + 7))) <| bnd (gA S (a1 + 7) x5.toNatClampNeg) fun v21 => if (gI S 103 a0) = (0 : Int32) then (P_X1_search_L86 self (P_X1_search_L48 self N n) N S a0 a1 x2 a3 a4 x5 v21) else (cal2 (P_X0_wornOf N S a3 a1 v21) fun r25 S23 => if r25 ≤ (0 : Int32) then (P_X1_search_L86 self (P_X1_search_L48 self N n) N S23 a0 a1 x2 a3 a4 x5 v21) else (bnd (x5 + (1 : Int32)) fun v27 => P_X1_search_L48 self N n S23 a0 a1 x2 a3 a4 v27)))
set_option maxHeartbeats 4000000 in
set_option maxRecDepth 100000 in
theorem w_X1_search_L48 {N : Nat} {S' : PSt} (hX : Mx p s m args c meth cX1_search RX1 8 none D cy ad tb) {self : PSt → Nat → Nat → Int32 → Option PSt} {d : Nat} (hself : ∀ (S S' : PSt) (a0 : Nat) (a1 : Nat) (x2 : Int32), self S a0 a1 x2 = some S' → kd a0 = 1 → kd a1 = 4 → Ct l (d + 3) yX1_search cX1_search 8 none D cy ad tb S S' [.ref (ad a0), .ref (ad a1), .int x2] none) : ∀ (n : Nat), ∀ (S : PSt) (a0 : Nat) (a1 : Nat) (x2 : Int32) (a3 : Nat) (a4 : Nat) (x5 : Int32) (H : Heap) (locs : List Loc) (ls : Array Slot), P_X1_search_L48 self N n S a0 a1 x2 a3 a4 x5 = some S' → kd a0 = 1 → kd a1 = 4 → kd a3 = 0 → kd a4 = 0 → va_P D vwCl (pW cy ad S) H → va_S (pA ad s.heap.size) s.heap H locs → lv_has ls 8 [(0, .ref (ad a0)), (1, .ref (ad a1)), (2, .int x2), (3, .ref (ad a3)), (4, .ref (ad a4)), (5, .int x5)] → W p l e (rmd (d + 4)) s m args below meth c H locs 0 0 (Qz D cy ad below args s S' none) (F0 m 48 ls []) := by
  have hX0 := hX
  obtain ⟨hC, hml, hr, hlk⟩ := hX0
  have hx := hC.1
  have hb := hC.2.1
  intro n
  induction n with
  | zero => intro S a0 a1 x2 a3 a4 x5 H locs ls hf; exact absurd hf (by intro h; cases h)
  | succ n ih =>
    intro S a0 a1 x2 a3 a4 x5 H locs ls hf h_a0 h_a1 h_a3 h_a4 hP hS hl
    rw [P_X1_search_L48] at hf
    refine lv_iload hx hb dX1_search_48 (lv_at hl 5 rfl) ?_
    refine lv_aload_n hx hb dX1_search_50 rfl (lv_at hl 1 rfl) ?_
    refine gf_X1_36 hC hP h_a1 (v := .int (gI S 404 a1)) rfl dX1_search_51 ?_
    refine lv_icmp_ge (tgt := 151) hx hb dX1_search_54 (by decide) (fun c19 => ?_) (fun c19 => ?_)
    · replace hf := ite_t c19 hf
      exact pg_vret hC hr hlk hP hS hf dX1_search_151
    · replace hf := ite_f c19 hf
      refine lv_aload_n hx hb dX1_search_57 rfl (lv_at hl 1 rfl) ?_
      refine gf_X1_62 hC hP h_a1 (v := .ref (ad (a1 + 7))) rfl dX1_search_58 ?_
      refine lv_iload hx hb dX1_search_61 (lv_at hl 5 rfl) ?_
      obtain ⟨h20, hf⟩ := gd_some hf
      refine pg_iald hC hP (ko_4_7 h_a1) (bin_in h20) dX1_search_63 ?_
      obtain ⟨v21, ev21, hf⟩ := bnd_some hf
      refine pg_top ev21 ?_
      refine lv_istore (lv' := [(6, .int v21), (0, .ref (ad a0)), (1, .ref (ad a1)), (2, .int x2), (3, .ref (ad a3)), (4, .ref (ad a4)), (5, .int x5)]) hx hb dX1_search_64 hl (by decide) rfl (fun ls hl => ?_)
      refine lv_aload_n hx hb dX1_search_66 rfl (lv_at hl 1 rfl) ?_
      refine gf_X1_28 hC hP h_a0 (v := .int (gI S 103 a0)) rfl dX1_search_67 ?_
      refine lv_if_eq (tgt := 86) hx hb dX1_search_70 (by decide) (fun c22 => ?_) (fun c22 => ?_)
      · replace hf := ite_t c22 hf
        exact w_X1_search_L86 hX hself ih _ _ _ _ _ _ _ _ _ _ _ hf h_a0 h_a1 h_a3 h_a4 hP hS (lv_sub hl [1, 2, 3, 4, 5, 6, 0] rfl)
      · replace hf := ite_f c22 hf
        refine lv_aload_n hx hb dX1_search_73 rfl (lv_at hl 4 rfl) ?_
        refine lv_aload_n hx hb dX1_search_74 rfl (lv_at hl 2 rfl) ?_
        refine lv_iload hx hb dX1_search_75 (lv_at hl 0 rfl) ?_
        obtain ⟨r25, S23, q24, hf⟩ := cal2_some hf
        refine pg_callV (As := [.ref (ad a1), .int v21]) (rest := []) (st1 := [.int r25]) (ci := 0) hC hml hP hS (c_X0_wornOf l hC.2.2.2.2.2.1 q24 h_a3 h_a1) ⟨by show 1 + 1 ≤ d + 4; omega, by show 40 * (1 + 1) + 40 ≤ 40 * (d + 4) + 40; omega, rfl, rfl⟩ ⟨rfl, rfl⟩ (by decide) rfl (by decide) h_a3 rfl rfl ⟨mk_X1_65, mi_X0_wornOf⟩ hd_X0_wornOf rfl hl.1 (Nat.le_of_ble_eq_true rfl) dX1_search_77 (fun H locs hP hS => ?_)
        refine lv_if_le (tgt := 86) hx hb dX1_search_80 (by decide) (fun c26 => ?_) (fun c26 => ?_)
        · replace hf := ite_t c26 hf
          exact w_X1_search_L86 hX hself ih _ _ _ _ _ _ _ _ _ _ _ hf h_a0 h_a1 h_a3 h_a4 hP hS (lv_sub hl [1, 2, 3, 4, 5, 6, 0] rfl)
        · replace hf := ite_f c26 hf
          refine lv_goto (tgt := 145) hx hb dX1_search_83 (by decide) ?_
          obtain ⟨v27, ev27, hf⟩ := bnd_some hf
          refine lv_iinc (v := v27) (lv' := [(5, .int v27), (6, .int v21), (0, .ref (ad a0)), (1, .ref (ad a1)), (2, .int x2), (3, .ref (ad a3)), (4, .ref (ad a4))]) hx hb dX1_search_145 hl (k := 6) rfl (by rw [ev27]; rfl) (by decide) rfl (fun ls hl => ?_)
          refine lv_goto (tgt := 48) hx hb dX1_search_148 (by decide) ?_
          exact ih _ _ _ _ _ _ _ _ _ _ hf h_a0 h_a1 h_a3 h_a4 hP hS (lv_sub hl [2, 3, 4, 5, 6, 0] rfl)
def P_X1_search_L14 (self : PSt → Nat → Nat → Int32 → Option PSt) (N : Nat) (S : PSt) (a0 : Nat) (x2 : Int32) : Option PSt := gd (bin x2 (ln (a0 + 3))) <| bnd (gQ S (a0 + 3) x2.toNatClampNeg) fun t29 => gd (isk t29 0) <| cal1 (P_X1_take N S a0 (gI S 1 t29)) fun S31 => some S31
set_option maxHeartbeats 4000000 in
set_option maxRecDepth 100000 in
theorem w_X1_search_L14 {N : Nat} {S' : PSt} (hX : Mx p s m args c meth cX1_search RX1 8 none D cy ad tb) {self : PSt → Nat → Nat → Int32 → Option PSt} {d : Nat} (hself : ∀ (S S' : PSt) (a0 : Nat) (a1 : Nat) (x2 : Int32), self S a0 a1 x2 = some S' → kd a0 = 1 → kd a1 = 4 → Ct l (d + 3) yX1_search cX1_search 8 none D cy ad tb S S' [.ref (ad a0), .ref (ad a1), .int x2] none) : ∀ (S : PSt) (a0 : Nat) (x2 : Int32) (H : Heap) (locs : List Loc) (ls : Array Slot), P_X1_search_L14 self N S a0 x2 = some S' → kd a0 = 1 → va_P D vwCl (pW cy ad S) H → va_S (pA ad s.heap.size) s.heap H locs → lv_has ls 8 [(0, .ref (ad a0)), (2, .int x2)] → W p l e (rmd (d + 4)) s m args below meth c H locs 0 0 (Qz D cy ad below args s S' none) (F0 m 14 ls []) := by
  have hX0 := hX
  obtain ⟨hC, hml, hr, hlk⟩ := hX0
  have hx := hC.1
  have hb := hC.2.1
  intro S a0 x2 H locs ls hf h_a0 hP hS hl
  unfold P_X1_search_L14 at hf
  refine lv_aload_n hx hb dX1_search_14 rfl (lv_at hl 0 rfl) ?_
  refine lv_aload_n hx hb dX1_search_15 rfl (lv_at hl 0 rfl) ?_
  refine gf_X1_24 hC hP h_a0 (v := .ref (ad (a0 + 3))) rfl dX1_search_16 ?_
  refine lv_iload_n hx hb dX1_search_19 rfl (lv_at hl 1 rfl) ?_
  obtain ⟨h28, hf⟩ := gd_some hf
  obtain ⟨t29, et29, hf⟩ := bnd_some hf
  obtain ⟨h30, hf⟩ := gd_some hf
  have h_t29 := isk_eq h30
  refine pg_aldM hC hP (ko_1_3 h_a0) (bin_in h28) dX1_search_20 ?_
  refine pg_topr et29 ?_
  refine gf_X1_51 hC hP h_t29 (v := .int (gI S 1 t29)) rfl dX1_search_21 ?_
  obtain ⟨S31, q32, hf⟩ := cal1_some hf
  refine pg_callV (As := [.int (gI S 1 t29)]) (rest := []) (st1 := []) (ci := 1) hC hml hP hS (c_X1_take l hC.2.2.2.2.2.1 q32 h_a0) ⟨by show 1 + 1 ≤ d + 4; omega, by show 40 * (1 + 1) + 40 ≤ 40 * (d + 4) + 40; omega, rfl, rfl⟩ ⟨rfl, rfl⟩ (by decide) rfl (by decide) h_a0 rfl rfl ⟨mk_X1_58, mi_X1_take⟩ hd_X1_take rfl hl.1 (Nat.le_of_ble_eq_true rfl) dX1_search_24 (fun H locs hP hS => ?_)
  exact pg_vret hC hr hlk hP hS hf dX1_search_27
def P_X1_search (N : Nat) : Nat → PSt → Nat → Nat → Int32 → Option PSt
  | 0 => fun _ _ _ _ => none
  | d + 1 => fun S a0 a1 x2 => if (gI S 401 a1) ≤ x2 then (P_X1_search_L14 (P_X1_search N d) N S a0 x2) else (if x2 < (6 : Int32) then (gd (bin x2 (ln (a0 + 3))) <| bnd (gQ S (a0 + 3) x2.toNatClampNeg) fun t36 => gd (isk t36 0) <| gd (bin (x2 + (1 : Int32)) (ln (a0 + 3))) <| bnd (gQ S (a0 + 3) (x2 + (1 : Int32)).toNatClampNeg) fun t39 => gd (isk t39 0) <| P_X1_search_L48 (P_X1_search N d) N N S a0 a1 x2 t36 t39 (0 : Int32)) else (P_X1_search_L14 (P_X1_search N d) N S a0 x2))
set_option maxHeartbeats 4000000 in
set_option maxRecDepth 100000 in
theorem c_X1_search (l : Launch) {D : va_G} {cy : Nat → ClassId} {ad tb : Nat → Nat} (hJ : pJ ad) {N : Nat} : ∀ (d : Nat) (S S' : PSt) (a0 : Nat) (a1 : Nat) (x2 : Int32), P_X1_search N d S a0 a1 x2 = some S' → kd a0 = 1 → kd a1 = 4 → Ct l (d + 3) yX1_search cX1_search 8 none D cy ad tb S S' [.ref (ad a0), .ref (ad a1), .int x2] none := by
  intro d
  induction d with
  | zero => intro S S' a0 a1 x2 hf; exact absurd hf (by intro h; cases h)
  | succ d ihd =>
    intro S S' a0 a1 x2 hf h_a0 h_a1
    have hself := ihd
    refine Ct_of hJ (by decide) (Nat.le_of_ble_eq_true rfl) (fun p e s m below meth c ls hX hP hS hl => ?_)
    have hl : lv_has ls 8 [(0, .ref (ad a0)), (1, .ref (ad a1)), (2, .int x2)] := hl
    have hX0 := hX
    obtain ⟨hC, hml, hr, hlk⟩ := hX0
    have hx := hC.1
    have hb := hC.2.1
    rw [P_X1_search] at hf
    refine lv_iload_n hx hb dX1_search_0 rfl (lv_at hl 2 rfl) ?_
    refine lv_aload_n hx hb dX1_search_1 rfl (lv_at hl 1 rfl) ?_
    refine gf_X1_44 hC hP h_a1 (v := .int (gI S 401 a1)) rfl dX1_search_2 ?_
    refine lv_icmp_ge (tgt := 14) hx hb dX1_search_5 (by decide) (fun c33 => ?_) (fun c33 => ?_)
    · replace hf := ite_t c33 hf
      exact w_X1_search_L14 hX hself _ _ _ _ _ _ hf h_a0 hP hS (lv_sub hl [0, 2] rfl)
    · replace hf := ite_f c33 hf
      refine lv_iload_n hx hb dX1_search_8 rfl (lv_at hl 2 rfl) ?_
      refine lv_bipush (v := 6) hx hb dX1_search_9 (by decide) ?_
      refine lv_icmp_lt (tgt := 28) hx hb dX1_search_11 (by decide) (fun c34 => ?_) (fun c34 => ?_)
      · replace hf := ite_t c34 hf
        refine lv_aload_n hx hb dX1_search_28 rfl (lv_at hl 0 rfl) ?_
        refine gf_X1_24 hC hP h_a0 (v := .ref (ad (a0 + 3))) rfl dX1_search_29 ?_
        refine lv_iload_n hx hb dX1_search_32 rfl (lv_at hl 2 rfl) ?_
        obtain ⟨h35, hf⟩ := gd_some hf
        obtain ⟨t36, et36, hf⟩ := bnd_some hf
        obtain ⟨h37, hf⟩ := gd_some hf
        have h_t36 := isk_eq h37
        refine pg_aldM hC hP (ko_1_3 h_a0) (bin_in h35) dX1_search_33 ?_
        refine pg_topr et36 ?_
        refine lv_astore_n (lv' := [(3, .ref (ad t36)), (0, .ref (ad a0)), (1, .ref (ad a1)), (2, .int x2)]) hx hb dX1_search_34 rfl hl (by decide) rfl (fun ls hl => ?_)
        refine lv_aload_n hx hb dX1_search_35 rfl (lv_at hl 1 rfl) ?_
        refine gf_X1_24 hC hP h_a0 (v := .ref (ad (a0 + 3))) rfl dX1_search_36 ?_
        refine lv_iload_n hx hb dX1_search_39 rfl (lv_at hl 3 rfl) ?_
        refine lv_iconst (v := 1) hx hb dX1_search_40 (by decide) ?_
        refine lv_iadd hx hb dX1_search_41 ?_
        obtain ⟨h38, hf⟩ := gd_some hf
        obtain ⟨t39, et39, hf⟩ := bnd_some hf
        obtain ⟨h40, hf⟩ := gd_some hf
        have h_t39 := isk_eq h40
        refine pg_aldM hC hP (ko_1_3 h_a0) (bin_in h38) dX1_search_42 ?_
        refine pg_topr et39 ?_
        refine lv_astore (lv' := [(4, .ref (ad t39)), (3, .ref (ad t36)), (0, .ref (ad a0)), (1, .ref (ad a1)), (2, .int x2)]) hx hb dX1_search_43 hl (by decide) rfl (fun ls hl => ?_)
        refine lv_iconst (v := 0) hx hb dX1_search_45 (by decide) ?_
        refine lv_istore (lv' := [(5, .int (0 : Int32)), (4, .ref (ad t39)), (3, .ref (ad t36)), (0, .ref (ad a0)), (1, .ref (ad a1)), (2, .int x2)]) hx hb dX1_search_46 hl (by decide) rfl (fun ls hl => ?_)
        exact w_X1_search_L48 hX hself _ _ _ _ _ _ _ _ _ _ _ hf h_a0 h_a1 h_t36 h_t39 hP hS (lv_sub hl [3, 4, 5, 2, 1, 0] rfl)
      · replace hf := ite_f c34 hf
        exact w_X1_search_L14 hX hself _ _ _ _ _ _ hf h_a0 hP hS (lv_sub hl [0, 2] rfl)
def P_X1_plan_L13 (N : Nat) : Nat → PSt → Nat → Nat → Nat → Int32 → Option PSt
  | 0 => fun _ _ _ _ _ => none
  | n + 1 => fun S a0 a1 a2 x3 => if (6 : Int32) ≤ x3 then (if (gI S 404 a1) ≤ (0 : Int32) then (some S) else (if (gI S 401 a1) ≤ (gI S 0 a2) then (some S) else (gd (bin (gI S 0 a2) (ln (a0 + 3))) <| bnd (gQ S (a0 + 3) (gI S 0 a2).toNatClampNeg) fun t5 => gd (isk t5 0) <| cal1 (P_X0_copy N S t5 a2) fun S7 => gd (bin (gI S7 0 a2) (ln (a0 + 3))) <| bnd (gQ S7 (a0 + 3) (gI S7 0 a2).toNatClampNeg) fun t10 => gd (isk t10 0) <| bnd (sI S7 1 t10 (0 : Int32)) fun S12 => cal1 (P_X1_search N 8 S12 a0 a1 (gI S12 0 a2)) fun S13 => some S13))) else (gd (bin x3 (ln (a0 + 1))) <| bnd (sA S (a0 + 1) x3.toNatClampNeg (-9 : Int32)) fun S16 => gd (bin x3 (ln (a0 + 2))) <| bnd (sA S16 (a0 + 2) x3.toNatClampNeg (-9 : Int32)) fun S18 => bnd (x3 + (1 : Int32)) fun v19 => P_X1_plan_L13 N n S18 a0 a1 a2 v19)
set_option maxHeartbeats 4000000 in
set_option maxRecDepth 100000 in
theorem w_X1_plan_L13 {N : Nat} {S' : PSt} (hX : Mx p s m args c meth cX1_plan RX1 4 none D cy ad tb) : ∀ (n : Nat), ∀ (S : PSt) (a0 : Nat) (a1 : Nat) (a2 : Nat) (x3 : Int32) (H : Heap) (locs : List Loc) (ls : Array Slot), P_X1_plan_L13 N n S a0 a1 a2 x3 = some S' → kd a0 = 1 → kd a1 = 4 → kd a2 = 0 → va_P D vwCl (pW cy ad S) H → va_S (pA ad s.heap.size) s.heap H locs → lv_has ls 4 [(0, .ref (ad a0)), (1, .ref (ad a1)), (2, .ref (ad a2)), (3, .int x3)] → W p l e (rmd 13) s m args below meth c H locs 0 0 (Qz D cy ad below args s S' none) (F0 m 13 ls []) := by
  have hX0 := hX
  obtain ⟨hC, hml, hr, hlk⟩ := hX0
  have hx := hC.1
  have hb := hC.2.1
  intro n
  induction n with
  | zero => intro S a0 a1 a2 x3 H locs ls hf; exact absurd hf (by intro h; cases h)
  | succ n ih =>
    intro S a0 a1 a2 x3 H locs ls hf h_a0 h_a1 h_a2 hP hS hl
    rw [P_X1_plan_L13] at hf
    refine lv_iload_n hx hb dX1_plan_13 rfl (lv_at hl 3 rfl) ?_
    refine lv_bipush (v := 6) hx hb dX1_plan_14 (by decide) ?_
    refine lv_icmp_ge (tgt := 41) hx hb dX1_plan_16 (by decide) (fun c1 => ?_) (fun c1 => ?_)
    · replace hf := ite_t c1 hf
      refine lv_aload_n hx hb dX1_plan_41 rfl (lv_at hl 1 rfl) ?_
      refine gf_X1_36 hC hP h_a1 (v := .int (gI S 404 a1)) rfl dX1_plan_42 ?_
      refine lv_if_le (tgt := 94) hx hb dX1_plan_45 (by decide) (fun c2 => ?_) (fun c2 => ?_)
      · replace hf := ite_t c2 hf
        exact pg_vret hC hr hlk hP hS hf dX1_plan_94
      · replace hf := ite_f c2 hf
        refine lv_aload_n hx hb dX1_plan_48 rfl (lv_at hl 2 rfl) ?_
        refine gf_X1_41 hC hP h_a2 (v := .int (gI S 0 a2)) rfl dX1_plan_49 ?_
        refine lv_aload_n hx hb dX1_plan_52 rfl (lv_at hl 1 rfl) ?_
        refine gf_X1_44 hC hP h_a1 (v := .int (gI S 401 a1)) rfl dX1_plan_53 ?_
        refine lv_icmp_ge (tgt := 94) hx hb dX1_plan_56 (by decide) (fun c3 => ?_) (fun c3 => ?_)
        · replace hf := ite_t c3 hf
          exact pg_vret hC hr hlk hP hS hf dX1_plan_94
        · replace hf := ite_f c3 hf
          refine lv_aload_n hx hb dX1_plan_59 rfl (lv_at hl 0 rfl) ?_
          refine gf_X1_24 hC hP h_a0 (v := .ref (ad (a0 + 3))) rfl dX1_plan_60 ?_
          refine lv_aload_n hx hb dX1_plan_63 rfl (lv_at hl 2 rfl) ?_
          refine gf_X1_41 hC hP h_a2 (v := .int (gI S 0 a2)) rfl dX1_plan_64 ?_
          obtain ⟨h4, hf⟩ := gd_some hf
          obtain ⟨t5, et5, hf⟩ := bnd_some hf
          obtain ⟨h6, hf⟩ := gd_some hf
          have h_t5 := isk_eq h6
          refine pg_aldM hC hP (ko_1_3 h_a0) (bin_in h4) dX1_plan_67 ?_
          refine pg_topr et5 ?_
          refine lv_aload_n hx hb dX1_plan_68 rfl (lv_at hl 2 rfl) ?_
          obtain ⟨S7, q8, hf⟩ := cal1_some hf
          refine pg_callV (As := [.ref (ad a2)]) (rest := []) (st1 := []) (ci := 0) hC hml hP hS (c_X0_copy l hC.2.2.2.2.2.1 q8 h_t5 h_a2) ⟨by decide, by decide, rfl, rfl⟩ ⟨rfl, rfl⟩ (by decide) rfl (by decide) h_t5 rfl rfl ⟨mk_X1_47, mi_X0_copy⟩ hd_X0_copy rfl hl.1 (Nat.le_of_ble_eq_true rfl) dX1_plan_69 (fun H locs hP hS => ?_)
          refine lv_aload_n hx hb dX1_plan_72 rfl (lv_at hl 0 rfl) ?_
          refine gf_X1_24 hC hP h_a0 (v := .ref (ad (a0 + 3))) rfl dX1_plan_73 ?_
          refine lv_aload_n hx hb dX1_plan_76 rfl (lv_at hl 2 rfl) ?_
          refine gf_X1_41 hC hP h_a2 (v := .int (gI S7 0 a2)) rfl dX1_plan_77 ?_
          obtain ⟨h9, hf⟩ := gd_some hf
          obtain ⟨t10, et10, hf⟩ := bnd_some hf
          obtain ⟨h11, hf⟩ := gd_some hf
          have h_t10 := isk_eq h11
          refine pg_aldM hC hP (ko_1_3 h_a0) (bin_in h9) dX1_plan_80 ?_
          refine pg_topr et10 ?_
          refine lv_iconst (v := 0) hx hb dX1_plan_81 (by decide) ?_
          obtain ⟨S12, eS12, hf⟩ := bnd_some hf
          refine pf_X1_51 hC hP hS h_t10 eS12 dX1_plan_82 (fun H locs hP hS => ?_)
          refine lv_aload_n hx hb dX1_plan_85 rfl (lv_at hl 0 rfl) ?_
          refine lv_aload_n hx hb dX1_plan_86 rfl (lv_at hl 1 rfl) ?_
          refine lv_aload_n hx hb dX1_plan_87 rfl (lv_at hl 2 rfl) ?_
          refine gf_X1_41 hC hP h_a2 (v := .int (gI S12 0 a2)) rfl dX1_plan_88 ?_
          obtain ⟨S13, q14, hf⟩ := cal1_some hf
          refine pg_callV (As := [.ref (ad a1), .int (gI S12 0 a2)]) (rest := []) (st1 := []) (ci := 1) hC hml hP hS (c_X1_search l hC.2.2.2.2.2.1 8 _ _ _ _ _ q14 h_a0 h_a1) ⟨by decide, by decide, rfl, rfl⟩ ⟨rfl, rfl⟩ (by decide) rfl (by decide) h_a0 rfl rfl ⟨mk_X1_54, mi_X1_search⟩ hd_X1_search rfl hl.1 (Nat.le_of_ble_eq_true rfl) dX1_plan_91 (fun H locs hP hS => ?_)
          exact pg_vret hC hr hlk hP hS hf dX1_plan_94
    · replace hf := ite_f c1 hf
      refine lv_aload_n hx hb dX1_plan_19 rfl (lv_at hl 0 rfl) ?_
      refine gf_X1_15 hC hP h_a0 (v := .ref (ad (a0 + 1))) rfl dX1_plan_20 ?_
      refine lv_iload_n hx hb dX1_plan_23 rfl (lv_at hl 3 rfl) ?_
      refine lv_bipush (v := -9) hx hb dX1_plan_24 (by decide) ?_
      obtain ⟨h15, hf⟩ := gd_some hf
      obtain ⟨S16, eS16, hf⟩ := bnd_some hf
      refine pg_iast hC hP hS (ko_1_1 h_a0) (bin_in h15) dX1_plan_26 (fun H locs hP hS => ?_)
      rw [← eS16] at hP
      refine lv_aload_n hx hb dX1_plan_27 rfl (lv_at hl 0 rfl) ?_
      refine gf_X1_19 hC hP h_a0 (v := .ref (ad (a0 + 2))) rfl dX1_plan_28 ?_
      refine lv_iload_n hx hb dX1_plan_31 rfl (lv_at hl 3 rfl) ?_
      refine lv_bipush (v := -9) hx hb dX1_plan_32 (by decide) ?_
      obtain ⟨h17, hf⟩ := gd_some hf
      obtain ⟨S18, eS18, hf⟩ := bnd_some hf
      refine pg_iast hC hP hS (ko_1_2 h_a0) (bin_in h17) dX1_plan_34 (fun H locs hP hS => ?_)
      rw [← eS18] at hP
      obtain ⟨v19, ev19, hf⟩ := bnd_some hf
      refine lv_iinc (v := v19) (lv' := [(3, .int v19), (0, .ref (ad a0)), (1, .ref (ad a1)), (2, .ref (ad a2))]) hx hb dX1_plan_35 hl (k := 3) rfl (by rw [ev19]; rfl) (by decide) rfl (fun ls hl => ?_)
      refine lv_goto (tgt := 13) hx hb dX1_plan_38 (by decide) ?_
      exact ih _ _ _ _ _ _ _ _ hf h_a0 h_a1 h_a2 hP hS (lv_sub hl [1, 2, 3, 0] rfl)
def P_X1_plan (N : Nat) (S : PSt) (a0 : Nat) (a1 : Nat) (a2 : Nat) : Option PSt := bnd (sI S 100 a0 (1 : Int32)) fun S20 => bnd (sI S20 101 a0 (-9 : Int32)) fun S21 => P_X1_plan_L13 N N S21 a0 a1 a2 (0 : Int32)
set_option maxHeartbeats 4000000 in
set_option maxRecDepth 100000 in
theorem c_X1_plan (l : Launch) {D : va_G} {cy : Nat → ClassId} {ad tb : Nat → Nat} (hJ : pJ ad) {N : Nat} {S S' : PSt} {a0 : Nat} {a1 : Nat} {a2 : Nat} (hf : P_X1_plan N S a0 a1 a2 = some S') (h_a0 : kd a0 = 1) (h_a1 : kd a1 = 4) (h_a2 : kd a2 = 0) : Ct l 13 yX1_plan cX1_plan 4 none D cy ad tb S S' [.ref (ad a0), .ref (ad a1), .ref (ad a2)] none := by
  refine Ct_of hJ (by decide) (Nat.le_of_ble_eq_true rfl) (fun p e s m below meth c ls hX hP hS hl => ?_)
  have hl : lv_has ls 4 [(0, .ref (ad a0)), (1, .ref (ad a1)), (2, .ref (ad a2))] := hl
  have hX0 := hX
  obtain ⟨hC, hml, hr, hlk⟩ := hX0
  have hx := hC.1
  have hb := hC.2.1
  unfold P_X1_plan at hf
  refine lv_aload_n hx hb dX1_plan_0 rfl (lv_at hl 0 rfl) ?_
  refine lv_iconst (v := 1) hx hb dX1_plan_1 (by decide) ?_
  obtain ⟨S20, eS20, hf⟩ := bnd_some hf
  refine pf_X1_33 hC hP hS h_a0 (by decide) eS20 dX1_plan_2 (fun H locs hP hS => ?_)
  refine lv_aload_n hx hb dX1_plan_5 rfl (lv_at hl 0 rfl) ?_
  refine lv_bipush (v := -9) hx hb dX1_plan_6 (by decide) ?_
  obtain ⟨S21, eS21, hf⟩ := bnd_some hf
  refine pf_X1_9 hC hP hS h_a0 eS21 dX1_plan_8 (fun H locs hP hS => ?_)
  refine lv_iconst (v := 0) hx hb dX1_plan_11 (by decide) ?_
  refine lv_istore_n (lv' := [(3, .int (0 : Int32)), (0, .ref (ad a0)), (1, .ref (ad a1)), (2, .ref (ad a2))]) hx hb dX1_plan_12 rfl hl (by decide) rfl (fun ls hl => ?_)
  exact w_X1_plan_L13 hX _ _ _ _ _ _ _ _ _ hf h_a0 h_a1 h_a2 hP hS (lv_sub hl [1, 2, 3, 0] rfl)
end GEN
