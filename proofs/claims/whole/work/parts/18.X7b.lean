section GEN
variable {p : Program} {l : Launch} {e : Env} {s : State} {m : MethodId} {args : Array Value} {below : List Frame} {meth : Method} {c : Code} {D : va_G} {cy : Nat → ClassId} {ad tb : Nat → Nat}
def P_X7_walker_L40 (N : Nat) (S : PSt) (x1 : Int32) (x2 : Int32) : Option (Int32 × PSt) := gd (bin (((2 : Int32) * x1) + x2) (ln 159)) <| some ((gA S 159 (((2 : Int32) * x1) + x2).toNatClampNeg), S)
set_option maxHeartbeats 4000000 in
set_option maxRecDepth 100000 in
theorem w_X7_walker_L40 {N : Nat} {S' : PSt} {r : Int32} (hX : Mx p s m args c meth cX7_walker RX7 3 (some .int) D cy ad tb) : ∀ (S : PSt) (x1 : Int32) (x2 : Int32) (H : Heap) (locs : List Loc) (ls : Array Slot), P_X7_walker_L40 N S x1 x2 = some (r, S') → va_P D vwCl (pW cy ad S) H → va_S (pA ad s.heap.size) s.heap H locs → lv_has ls 3 [(0, .ref (ad 158)), (1, .int x1), (2, .int x2)] → W p l e (rmd 3) s m args below meth c H locs 0 0 (Qz D cy ad below args s S' (some (.int r))) (F0 m 40 ls []) := by
  have hX0 := hX
  obtain ⟨hC, hml, hr, hlk⟩ := hX0
  have hx := hC.1
  have hb := hC.2.1
  intro S x1 x2 H locs ls hf  hP hS hl
  unfold P_X7_walker_L40 at hf
  refine lv_aload_n hx hb dX7_walker_40 rfl (lv_at hl 0 rfl) ?_
  refine gf_X7_7 hC hP k_158 (v := .ref (ad 159)) rfl dX7_walker_41 ?_
  refine lv_iconst (v := 2) hx hb dX7_walker_44 (by decide) ?_
  refine lv_iload_n hx hb dX7_walker_45 rfl (lv_at hl 1 rfl) ?_
  refine lv_imul hx hb dX7_walker_46 ?_
  refine lv_iload_n hx hb dX7_walker_47 rfl (lv_at hl 2 rfl) ?_
  refine lv_iadd hx hb dX7_walker_48 ?_
  obtain ⟨h1, hf⟩ := gd_some hf
  refine pg_iald hC hP k_159 (bin_in h1) dX7_walker_49 ?_
  exact pg_iret hC hr hlk hP hS hf dX7_walker_50
def P_X7_walker (N : Nat) (S : PSt) (x1 : Int32) (x2 : Int32) : Option (Int32 × PSt) := cal2 (P_X7_isWalker N S x1) fun r4 S2 => if r4 = (0 : Int32) then (some ((-1 : Int32), S2)) else (if x2 = (0 : Int32) then (P_X7_walker_L40 N S2 x1 x2) else (if x2 = (1 : Int32) then (P_X7_walker_L40 N S2 x1 x2) else (if x2 = (2 : Int32) then (gd (bin ((3 : Int32) + x1) (ln 161)) <| some ((gA S2 161 ((3 : Int32) + x1).toNatClampNeg), S2)) else (if x2 = (3 : Int32) then (gd (bin ((3 : Int32) + x1) (ln 161)) <| gd (bin (((2 : Int32) * x1) + (1 : Int32)) (ln 159)) <| if (gA S2 161 ((3 : Int32) + x1).toNatClampNeg) ≤ (gA S2 159 (((2 : Int32) * x1) + (1 : Int32)).toNatClampNeg) then (some ((0 : Int32), S2)) else (some ((1 : Int32), S2))) else (some ((-1 : Int32), S2))))))
set_option maxHeartbeats 4000000 in
set_option maxRecDepth 100000 in
theorem c_X7_walker (l : Launch) {D : va_G} {cy : Nat → ClassId} {ad tb : Nat → Nat} (hJ : pJ ad) {N : Nat} {S S' : PSt} {x1 : Int32} {x2 : Int32} {r : Int32} (hf : P_X7_walker N S x1 x2 = some (r, S')) : Ct l 3 yX7_walker cX7_walker 3 (some .int) D cy ad tb S S' [.ref (ad 158), .int x1, .int x2] (some (.int r)) := by
  refine Ct_of hJ (by decide) (Nat.le_of_ble_eq_true rfl) (fun p e s m below meth c ls hX hP hS hl => ?_)
  have hl : lv_has ls 3 [(0, .ref (ad 158)), (1, .int x1), (2, .int x2)] := hl
  have hX0 := hX
  obtain ⟨hC, hml, hr, hlk⟩ := hX0
  have hx := hC.1
  have hb := hC.2.1
  unfold P_X7_walker at hf
  refine lv_aload_n hx hb dX7_walker_0 rfl (lv_at hl 0 rfl) ?_
  refine lv_iload_n hx hb dX7_walker_1 rfl (lv_at hl 1 rfl) ?_
  obtain ⟨r4, S2, q3, hf⟩ := cal2_some hf
  refine pg_callV (As := [.int x1]) (rest := []) (st1 := [.int r4]) (ci := 7) hC hml hP hS (c_X7_isWalker l hC.2.2.2.2.2.1 q3) ⟨by decide, by decide, rfl, rfl⟩ ⟨rfl, rfl⟩ (by decide) rfl (by decide) k_158 rfl rfl ⟨mk_X7_79, mi_X7_isWalker⟩ hd_X7_isWalker rfl hl.1 (Nat.le_of_ble_eq_true rfl) dX7_walker_2 (fun H locs hP hS => ?_)
  refine lv_if_ne (tgt := 10) hx hb dX7_walker_5 (by decide) (fun c5 => ?_) (fun c5 => ?_)
  · replace hf := ite_f c5 hf
    refine lv_iload_n hx hb dX7_walker_10 rfl (lv_at hl 2 rfl) ?_
    by_cases c6 : x2 = (0 : Int32)
    · replace hf := ite_t c6 hf
      refine lv_tableIn (off := 29) (tgt := 40) hx hb dX7_walker_11 (by rw [c6]; decide) (by rw [c6]; decide) (by rw [c6]; decide) (by decide) ?_
      exact w_X7_walker_L40 hX _ _ _ _ _ _ hf  hP hS (lv_sub hl [0, 1, 2] rfl)
    · replace hf := ite_f c6 hf
      by_cases c7 : x2 = (1 : Int32)
      · replace hf := ite_t c7 hf
        refine lv_tableIn (off := 29) (tgt := 40) hx hb dX7_walker_11 (by rw [c7]; decide) (by rw [c7]; decide) (by rw [c7]; decide) (by decide) ?_
        exact w_X7_walker_L40 hX _ _ _ _ _ _ hf  hP hS (lv_sub hl [0, 1, 2] rfl)
      · replace hf := ite_f c7 hf
        by_cases c8 : x2 = (2 : Int32)
        · replace hf := ite_t c8 hf
          refine lv_tableIn (off := 40) (tgt := 51) hx hb dX7_walker_11 (by rw [c8]; decide) (by rw [c8]; decide) (by rw [c8]; decide) (by decide) ?_
          refine lv_aload_n hx hb dX7_walker_51 rfl (lv_at hl 0 rfl) ?_
          refine gf_X7_20 hC hP k_158 (v := .ref (ad 161)) rfl dX7_walker_52 ?_
          refine lv_iconst (v := 3) hx hb dX7_walker_55 (by decide) ?_
          refine lv_iload_n hx hb dX7_walker_56 rfl (lv_at hl 1 rfl) ?_
          refine lv_iadd hx hb dX7_walker_57 ?_
          obtain ⟨h9, hf⟩ := gd_some hf
          refine pg_iald hC hP k_161 (bin_in h9) dX7_walker_58 ?_
          exact pg_iret hC hr hlk hP hS hf dX7_walker_59
        · replace hf := ite_f c8 hf
          by_cases c10 : x2 = (3 : Int32)
          · replace hf := ite_t c10 hf
            refine lv_tableIn (off := 49) (tgt := 60) hx hb dX7_walker_11 (by rw [c10]; decide) (by rw [c10]; decide) (by rw [c10]; decide) (by decide) ?_
            refine lv_aload_n hx hb dX7_walker_60 rfl (lv_at hl 0 rfl) ?_
            refine gf_X7_20 hC hP k_158 (v := .ref (ad 161)) rfl dX7_walker_61 ?_
            refine lv_iconst (v := 3) hx hb dX7_walker_64 (by decide) ?_
            refine lv_iload_n hx hb dX7_walker_65 rfl (lv_at hl 1 rfl) ?_
            refine lv_iadd hx hb dX7_walker_66 ?_
            obtain ⟨h11, hf⟩ := gd_some hf
            refine pg_iald hC hP k_161 (bin_in h11) dX7_walker_67 ?_
            refine lv_aload_n hx hb dX7_walker_68 rfl (lv_at hl 0 rfl) ?_
            refine gf_X7_7 hC hP k_158 (v := .ref (ad 159)) rfl dX7_walker_69 ?_
            refine lv_iconst (v := 2) hx hb dX7_walker_72 (by decide) ?_
            refine lv_iload_n hx hb dX7_walker_73 rfl (lv_at hl 1 rfl) ?_
            refine lv_imul hx hb dX7_walker_74 ?_
            refine lv_iconst (v := 1) hx hb dX7_walker_75 (by decide) ?_
            refine lv_iadd hx hb dX7_walker_76 ?_
            obtain ⟨h12, hf⟩ := gd_some hf
            refine pg_iald hC hP k_159 (bin_in h12) dX7_walker_77 ?_
            refine lv_icmp_le (tgt := 85) hx hb dX7_walker_78 (by decide) (fun c13 => ?_) (fun c13 => ?_)
            · replace hf := ite_t c13 hf
              refine lv_iconst (v := 0) hx hb dX7_walker_85 (by decide) ?_
              exact pg_iret hC hr hlk hP hS hf dX7_walker_86
            · replace hf := ite_f c13 hf
              refine lv_iconst (v := 1) hx hb dX7_walker_81 (by decide) ?_
              refine lv_goto (tgt := 86) hx hb dX7_walker_82 (by decide) ?_
              exact pg_iret hC hr hlk hP hS hf dX7_walker_86
          · replace hf := ite_f c10 hf
            refine lv_tableOut (tgt := 87) hx hb dX7_walker_11 (sw_out 0 3 (fun k h1 h2 hk => by
              rcases (show k = 0 ∨ k = 1 ∨ k = 2 ∨ k = 3 by omega) with h | h | h | h
              · subst h; exact c6 (hk.trans (by decide))
              · subst h; exact c7 (hk.trans (by decide))
              · subst h; exact c8 (hk.trans (by decide))
              · subst h; exact c10 (hk.trans (by decide)))) (by decide) ?_
            refine lv_iconst (v := -1) hx hb dX7_walker_87 (by decide) ?_
            exact pg_iret hC hr hlk hP hS hf dX7_walker_88
  · replace hf := ite_t c5 hf
    refine lv_iconst (v := -1) hx hb dX7_walker_8 (by decide) ?_
    exact pg_iret hC hr hlk hP hS hf dX7_walker_9
def P_X7_stretch (N : Nat) (S : PSt) (x1 : Int32) (x2 : Int32) : Option (Int32 × PSt) := cal2 (P_X7_isStretch N S x1) fun r3 S1 => if r3 = (0 : Int32) then (some ((-1 : Int32), S1)) else (cal2 (P_X7_in N S1 x2 (0 : Int32) (3 : Int32)) fun r7 S5 => if r7 = (0 : Int32) then (some ((-1 : Int32), S5)) else (gd (bin (((4 : Int32) * x1) + x2) (ln 160)) <| some ((gA S5 160 (((4 : Int32) * x1) + x2).toNatClampNeg), S5)))
set_option maxHeartbeats 4000000 in
set_option maxRecDepth 100000 in
theorem c_X7_stretch (l : Launch) {D : va_G} {cy : Nat → ClassId} {ad tb : Nat → Nat} (hJ : pJ ad) {N : Nat} {S S' : PSt} {x1 : Int32} {x2 : Int32} {r : Int32} (hf : P_X7_stretch N S x1 x2 = some (r, S')) : Ct l 3 yX7_stretch cX7_stretch 3 (some .int) D cy ad tb S S' [.ref (ad 158), .int x1, .int x2] (some (.int r)) := by
  refine Ct_of hJ (by decide) (Nat.le_of_ble_eq_true rfl) (fun p e s m below meth c ls hX hP hS hl => ?_)
  have hl : lv_has ls 3 [(0, .ref (ad 158)), (1, .int x1), (2, .int x2)] := hl
  have hX0 := hX
  obtain ⟨hC, hml, hr, hlk⟩ := hX0
  have hx := hC.1
  have hb := hC.2.1
  unfold P_X7_stretch at hf
  refine lv_aload_n hx hb dX7_stretch_0 rfl (lv_at hl 0 rfl) ?_
  refine lv_iload_n hx hb dX7_stretch_1 rfl (lv_at hl 1 rfl) ?_
  obtain ⟨r3, S1, q2, hf⟩ := cal2_some hf
  refine pg_callV (As := [.int x1]) (rest := []) (st1 := [.int r3]) (ci := 7) hC hml hP hS (c_X7_isStretch l hC.2.2.2.2.2.1 q2) ⟨by decide, by decide, rfl, rfl⟩ ⟨rfl, rfl⟩ (by decide) rfl (by decide) k_158 rfl rfl ⟨mk_X7_161, mi_X7_isStretch⟩ hd_X7_isStretch rfl hl.1 (Nat.le_of_ble_eq_true rfl) dX7_stretch_2 (fun H locs hP hS => ?_)
  refine lv_if_eq (tgt := 30) hx hb dX7_stretch_5 (by decide) (fun c4 => ?_) (fun c4 => ?_)
  · replace hf := ite_t c4 hf
    refine lv_iconst (v := -1) hx hb dX7_stretch_30 (by decide) ?_
    exact pg_iret hC hr hlk hP hS hf dX7_stretch_31
  · replace hf := ite_f c4 hf
    refine lv_iload_n hx hb dX7_stretch_8 rfl (lv_at hl 2 rfl) ?_
    refine lv_iconst (v := 0) hx hb dX7_stretch_9 (by decide) ?_
    refine lv_iconst (v := 3) hx hb dX7_stretch_10 (by decide) ?_
    obtain ⟨r7, S5, q6, hf⟩ := cal2_some hf
    refine pg_callS (As := [.int x2, .int (0 : Int32), .int (3 : Int32)]) (rest := []) (st1 := [.int r7]) hC hml hP hS (c_X7_in l hC.2.2.2.2.2.1 q6) ⟨by decide, by decide, rfl, rfl⟩ ⟨rfl, rfl⟩ (by decide) rfl rfl ⟨mk_X7_72, mi_X7_in⟩ hd_X7_in rfl hl.1 (Nat.le_of_ble_eq_true rfl) dX7_stretch_11 (fun H locs hP hS => ?_)
    refine lv_if_eq (tgt := 30) hx hb dX7_stretch_14 (by decide) (fun c8 => ?_) (fun c8 => ?_)
    · replace hf := ite_t c8 hf
      refine lv_iconst (v := -1) hx hb dX7_stretch_30 (by decide) ?_
      exact pg_iret hC hr hlk hP hS hf dX7_stretch_31
    · replace hf := ite_f c8 hf
      refine lv_aload_n hx hb dX7_stretch_17 rfl (lv_at hl 0 rfl) ?_
      refine gf_X7_13 hC hP k_158 (v := .ref (ad 160)) rfl dX7_stretch_18 ?_
      refine lv_iconst (v := 4) hx hb dX7_stretch_21 (by decide) ?_
      refine lv_iload_n hx hb dX7_stretch_22 rfl (lv_at hl 1 rfl) ?_
      refine lv_imul hx hb dX7_stretch_23 ?_
      refine lv_iload_n hx hb dX7_stretch_24 rfl (lv_at hl 2 rfl) ?_
      refine lv_iadd hx hb dX7_stretch_25 ?_
      obtain ⟨h9, hf⟩ := gd_some hf
      refine pg_iald hC hP k_160 (bin_in h9) dX7_stretch_26 ?_
      refine lv_goto (tgt := 31) hx hb dX7_stretch_27 (by decide) ?_
      exact pg_iret hC hr hlk hP hS hf dX7_stretch_31
def P_X7_takes (N : Nat) (S : PSt) (x1 : Int32) (x2 : Int32) : Option (Int32 × PSt) := cal2 (P_X7_isStretch N S x1) fun r3 S1 => if r3 = (0 : Int32) then (some ((-1 : Int32), S1)) else (cal2 (P_X7_isPair N S1 x2) fun r7 S5 => if r7 = (0 : Int32) then (some ((-1 : Int32), S5)) else (cal1 (P_X7_fromNow N S5) fun S9 => cal2 (P_X7_takesAt N S9 x1 x2 (0 : Int32)) fun r13 S11 => some (r13, S11)))
set_option maxHeartbeats 4000000 in
set_option maxRecDepth 100000 in
theorem c_X7_takes (l : Launch) {D : va_G} {cy : Nat → ClassId} {ad tb : Nat → Nat} (hJ : pJ ad) {N : Nat} {S S' : PSt} {x1 : Int32} {x2 : Int32} {r : Int32} (hf : P_X7_takes N S x1 x2 = some (r, S')) : Ct l 4 yX7_takes cX7_takes 3 (some .int) D cy ad tb S S' [.ref (ad 158), .int x1, .int x2] (some (.int r)) := by
  refine Ct_of hJ (by decide) (Nat.le_of_ble_eq_true rfl) (fun p e s m below meth c ls hX hP hS hl => ?_)
  have hl : lv_has ls 3 [(0, .ref (ad 158)), (1, .int x1), (2, .int x2)] := hl
  have hX0 := hX
  obtain ⟨hC, hml, hr, hlk⟩ := hX0
  have hx := hC.1
  have hb := hC.2.1
  unfold P_X7_takes at hf
  refine lv_aload_n hx hb dX7_takes_0 rfl (lv_at hl 0 rfl) ?_
  refine lv_iload_n hx hb dX7_takes_1 rfl (lv_at hl 1 rfl) ?_
  obtain ⟨r3, S1, q2, hf⟩ := cal2_some hf
  refine pg_callV (As := [.int x1]) (rest := []) (st1 := [.int r3]) (ci := 7) hC hml hP hS (c_X7_isStretch l hC.2.2.2.2.2.1 q2) ⟨by decide, by decide, rfl, rfl⟩ ⟨rfl, rfl⟩ (by decide) rfl (by decide) k_158 rfl rfl ⟨mk_X7_161, mi_X7_isStretch⟩ hd_X7_isStretch rfl hl.1 (Nat.le_of_ble_eq_true rfl) dX7_takes_2 (fun H locs hP hS => ?_)
  refine lv_if_eq (tgt := 16) hx hb dX7_takes_5 (by decide) (fun c4 => ?_) (fun c4 => ?_)
  · replace hf := ite_t c4 hf
    refine lv_iconst (v := -1) hx hb dX7_takes_16 (by decide) ?_
    exact pg_iret hC hr hlk hP hS hf dX7_takes_17
  · replace hf := ite_f c4 hf
    refine lv_aload_n hx hb dX7_takes_8 rfl (lv_at hl 0 rfl) ?_
    refine lv_iload_n hx hb dX7_takes_9 rfl (lv_at hl 2 rfl) ?_
    obtain ⟨r7, S5, q6, hf⟩ := cal2_some hf
    refine pg_callV (As := [.int x2]) (rest := []) (st1 := [.int r7]) (ci := 7) hC hml hP hS (c_X7_isPair l hC.2.2.2.2.2.1 q6) ⟨by decide, by decide, rfl, rfl⟩ ⟨rfl, rfl⟩ (by decide) rfl (by decide) k_158 rfl rfl ⟨mk_X7_164, mi_X7_isPair⟩ hd_X7_isPair rfl hl.1 (Nat.le_of_ble_eq_true rfl) dX7_takes_10 (fun H locs hP hS => ?_)
    refine lv_if_ne (tgt := 18) hx hb dX7_takes_13 (by decide) (fun c8 => ?_) (fun c8 => ?_)
    · replace hf := ite_f c8 hf
      refine lv_aload_n hx hb dX7_takes_18 rfl (lv_at hl 0 rfl) ?_
      obtain ⟨S9, q10, hf⟩ := cal1_some hf
      refine pg_callV (As := []) (rest := []) (st1 := []) (ci := 7) hC hml hP hS (c_X7_fromNow l hC.2.2.2.2.2.1 q10) ⟨by decide, by decide, rfl, rfl⟩ ⟨rfl, rfl⟩ (by decide) rfl (by decide) k_158 rfl rfl ⟨mk_X7_155, mi_X7_fromNow⟩ hd_X7_fromNow rfl hl.1 (Nat.le_of_ble_eq_true rfl) dX7_takes_19 (fun H locs hP hS => ?_)
      refine lv_aload_n hx hb dX7_takes_22 rfl (lv_at hl 0 rfl) ?_
      refine lv_iload_n hx hb dX7_takes_23 rfl (lv_at hl 1 rfl) ?_
      refine lv_iload_n hx hb dX7_takes_24 rfl (lv_at hl 2 rfl) ?_
      refine lv_iconst (v := 0) hx hb dX7_takes_25 (by decide) ?_
      obtain ⟨r13, S11, q12, hf⟩ := cal2_some hf
      refine pg_callV (As := [.int x1, .int x2, .int (0 : Int32)]) (rest := []) (st1 := [.int r13]) (ci := 7) hC hml hP hS (c_X7_takesAt l hC.2.2.2.2.2.1 q12) ⟨by decide, by decide, rfl, rfl⟩ ⟨rfl, rfl⟩ (by decide) rfl (by decide) k_158 rfl rfl ⟨mk_X7_147, mi_X7_takesAt⟩ hd_X7_takesAt rfl hl.1 (Nat.le_of_ble_eq_true rfl) dX7_takes_26 (fun H locs hP hS => ?_)
      exact pg_iret hC hr hlk hP hS hf dX7_takes_29
    · replace hf := ite_t c8 hf
      refine lv_iconst (v := -1) hx hb dX7_takes_16 (by decide) ?_
      exact pg_iret hC hr hlk hP hS hf dX7_takes_17
def P_X7_remembers_L50 (N : Nat) : Nat → PSt → Int32 → Option PSt
  | 0 => fun _ _ => none
  | n + 1 => fun S x1 => if (7 : Int32) ≤ x1 then (bnd (sI S 708 158 ((gI S 708 158) + (1 : Int32))) fun S2 => some S2) else (gd (bin x1 (ln 161)) <| gd (bin (((7 : Int32) * (gI S 708 158)) + x1) (ln 162)) <| bnd (sA S 162 (((7 : Int32) * (gI S 708 158)) + x1).toNatClampNeg (gA S 161 x1.toNatClampNeg)) fun S5 => bnd (x1 + (1 : Int32)) fun v6 => P_X7_remembers_L50 N n S5 v6)
set_option maxHeartbeats 4000000 in
set_option maxRecDepth 100000 in
theorem w_X7_remembers_L50 {N : Nat} {S' : PSt} (hX : Mx p s m args c meth cX7_remembers RX7 2 none D cy ad tb) : ∀ (n : Nat), ∀ (S : PSt) (x1 : Int32) (H : Heap) (locs : List Loc) (ls : Array Slot), P_X7_remembers_L50 N n S x1 = some S' → va_P D vwCl (pW cy ad S) H → va_S (pA ad s.heap.size) s.heap H locs → lv_has ls 2 [(0, .ref (ad 158)), (1, .int x1)] → W p l e (rmd 1) s m args below meth c H locs 0 0 (Qz D cy ad below args s S' none) (F0 m 50 ls []) := by
  have hX0 := hX
  obtain ⟨hC, hml, hr, hlk⟩ := hX0
  have hx := hC.1
  have hb := hC.2.1
  intro n
  induction n with
  | zero => intro S x1 H locs ls hf; exact absurd hf (by intro h; cases h)
  | succ n ih =>
    intro S x1 H locs ls hf  hP hS hl
    rw [P_X7_remembers_L50] at hf
    refine lv_iload_n hx hb dX7_remembers_50 rfl (lv_at hl 1 rfl) ?_
    refine lv_bipush (v := 7) hx hb dX7_remembers_51 (by decide) ?_
    refine lv_icmp_ge (tgt := 82) hx hb dX7_remembers_53 (by decide) (fun c1 => ?_) (fun c1 => ?_)
    · replace hf := ite_t c1 hf
      refine lv_aload_n hx hb dX7_remembers_82 rfl (lv_at hl 0 rfl) ?_
      refine lv_dup hx hb dX7_remembers_83 rfl ?_
      refine gf_X7_137 hC hP k_158 (v := .int (gI S 708 158)) rfl dX7_remembers_84 ?_
      refine lv_iconst (v := 1) hx hb dX7_remembers_87 (by decide) ?_
      refine lv_iadd hx hb dX7_remembers_88 ?_
      obtain ⟨S2, eS2, hf⟩ := bnd_some hf
      refine pf_X7_137 hC hP hS k_158 eS2 dX7_remembers_89 (fun H locs hP hS => ?_)
      exact pg_vret hC hr hlk hP hS hf dX7_remembers_92
    · replace hf := ite_f c1 hf
      refine lv_aload_n hx hb dX7_remembers_56 rfl (lv_at hl 0 rfl) ?_
      refine gf_X7_23 hC hP k_158 (v := .ref (ad 162)) rfl dX7_remembers_57 ?_
      refine lv_bipush (v := 7) hx hb dX7_remembers_60 (by decide) ?_
      refine lv_aload_n hx hb dX7_remembers_62 rfl (lv_at hl 0 rfl) ?_
      refine gf_X7_137 hC hP k_158 (v := .int (gI S 708 158)) rfl dX7_remembers_63 ?_
      refine lv_imul hx hb dX7_remembers_66 ?_
      refine lv_iload_n hx hb dX7_remembers_67 rfl (lv_at hl 1 rfl) ?_
      refine lv_iadd hx hb dX7_remembers_68 ?_
      refine lv_aload_n hx hb dX7_remembers_69 rfl (lv_at hl 0 rfl) ?_
      refine gf_X7_20 hC hP k_158 (v := .ref (ad 161)) rfl dX7_remembers_70 ?_
      refine lv_iload_n hx hb dX7_remembers_73 rfl (lv_at hl 1 rfl) ?_
      obtain ⟨h3, hf⟩ := gd_some hf
      refine pg_iald hC hP k_161 (bin_in h3) dX7_remembers_74 ?_
      obtain ⟨h4, hf⟩ := gd_some hf
      obtain ⟨S5, eS5, hf⟩ := bnd_some hf
      refine pg_iast hC hP hS k_162 (bin_in h4) dX7_remembers_75 (fun H locs hP hS => ?_)
      rw [← eS5] at hP
      obtain ⟨v6, ev6, hf⟩ := bnd_some hf
      refine lv_iinc (v := v6) (lv' := [(1, .int v6), (0, .ref (ad 158))]) hx hb dX7_remembers_76 hl (k := 1) rfl (by rw [ev6]; rfl) (by decide) rfl (fun ls hl => ?_)
      refine lv_goto (tgt := 50) hx hb dX7_remembers_79 (by decide) ?_
      exact ih _ _ _ _ _ hf  hP hS (lv_sub hl [1, 0] rfl)
def P_X7_remembers_L11 (N : Nat) : Nat → PSt → Int32 → Option PSt
  | 0 => fun _ _ => none
  | n + 1 => fun S x1 => if (63 : Int32) ≤ x1 then (bnd (sI S 708 158 ((gI S 708 158) - (1 : Int32))) fun S8 => P_X7_remembers_L50 N N S8 (0 : Int32)) else (gd (bin (x1 + (7 : Int32)) (ln 162)) <| gd (bin x1 (ln 162)) <| bnd (sA S 162 x1.toNatClampNeg (gA S 162 (x1 + (7 : Int32)).toNatClampNeg)) fun S11 => bnd (x1 + (1 : Int32)) fun v12 => P_X7_remembers_L11 N n S11 v12)
set_option maxHeartbeats 4000000 in
set_option maxRecDepth 100000 in
theorem w_X7_remembers_L11 {N : Nat} {S' : PSt} (hX : Mx p s m args c meth cX7_remembers RX7 2 none D cy ad tb) : ∀ (n : Nat), ∀ (S : PSt) (x1 : Int32) (H : Heap) (locs : List Loc) (ls : Array Slot), P_X7_remembers_L11 N n S x1 = some S' → va_P D vwCl (pW cy ad S) H → va_S (pA ad s.heap.size) s.heap H locs → lv_has ls 2 [(0, .ref (ad 158)), (1, .int x1)] → W p l e (rmd 1) s m args below meth c H locs 0 0 (Qz D cy ad below args s S' none) (F0 m 11 ls []) := by
  have hX0 := hX
  obtain ⟨hC, hml, hr, hlk⟩ := hX0
  have hx := hC.1
  have hb := hC.2.1
  intro n
  induction n with
  | zero => intro S x1 H locs ls hf; exact absurd hf (by intro h; cases h)
  | succ n ih =>
    intro S x1 H locs ls hf  hP hS hl
    rw [P_X7_remembers_L11] at hf
    refine lv_iload_n hx hb dX7_remembers_11 rfl (lv_at hl 1 rfl) ?_
    refine lv_bipush (v := 63) hx hb dX7_remembers_12 (by decide) ?_
    refine lv_icmp_ge (tgt := 38) hx hb dX7_remembers_14 (by decide) (fun c7 => ?_) (fun c7 => ?_)
    · replace hf := ite_t c7 hf
      refine lv_aload_n hx hb dX7_remembers_38 rfl (lv_at hl 0 rfl) ?_
      refine lv_dup hx hb dX7_remembers_39 rfl ?_
      refine gf_X7_137 hC hP k_158 (v := .int (gI S 708 158)) rfl dX7_remembers_40 ?_
      refine lv_iconst (v := 1) hx hb dX7_remembers_43 (by decide) ?_
      refine lv_isub hx hb dX7_remembers_44 ?_
      obtain ⟨S8, eS8, hf⟩ := bnd_some hf
      refine pf_X7_137 hC hP hS k_158 eS8 dX7_remembers_45 (fun H locs hP hS => ?_)
      refine lv_iconst (v := 0) hx hb dX7_remembers_48 (by decide) ?_
      refine lv_istore_n (lv' := [(1, .int (0 : Int32)), (0, .ref (ad 158))]) hx hb dX7_remembers_49 rfl hl (by decide) rfl (fun ls hl => ?_)
      exact w_X7_remembers_L50 hX _ _ _ _ _ _ hf  hP hS (lv_sub hl [1, 0] rfl)
    · replace hf := ite_f c7 hf
      refine lv_aload_n hx hb dX7_remembers_17 rfl (lv_at hl 0 rfl) ?_
      refine gf_X7_23 hC hP k_158 (v := .ref (ad 162)) rfl dX7_remembers_18 ?_
      refine lv_iload_n hx hb dX7_remembers_21 rfl (lv_at hl 1 rfl) ?_
      refine lv_aload_n hx hb dX7_remembers_22 rfl (lv_at hl 0 rfl) ?_
      refine gf_X7_23 hC hP k_158 (v := .ref (ad 162)) rfl dX7_remembers_23 ?_
      refine lv_iload_n hx hb dX7_remembers_26 rfl (lv_at hl 1 rfl) ?_
      refine lv_bipush (v := 7) hx hb dX7_remembers_27 (by decide) ?_
      refine lv_iadd hx hb dX7_remembers_29 ?_
      obtain ⟨h9, hf⟩ := gd_some hf
      refine pg_iald hC hP k_162 (bin_in h9) dX7_remembers_30 ?_
      obtain ⟨h10, hf⟩ := gd_some hf
      obtain ⟨S11, eS11, hf⟩ := bnd_some hf
      refine pg_iast hC hP hS k_162 (bin_in h10) dX7_remembers_31 (fun H locs hP hS => ?_)
      rw [← eS11] at hP
      obtain ⟨v12, ev12, hf⟩ := bnd_some hf
      refine lv_iinc (v := v12) (lv' := [(1, .int v12), (0, .ref (ad 158))]) hx hb dX7_remembers_32 hl (k := 1) rfl (by rw [ev12]; rfl) (by decide) rfl (fun ls hl => ?_)
      refine lv_goto (tgt := 11) hx hb dX7_remembers_35 (by decide) ?_
      exact ih _ _ _ _ _ hf  hP hS (lv_sub hl [1, 0] rfl)
def P_X7_remembers (N : Nat) (S : PSt) : Option PSt := if (gI S 708 158) = (10 : Int32) then (P_X7_remembers_L11 N N S (0 : Int32)) else (P_X7_remembers_L50 N N S (0 : Int32))
set_option maxHeartbeats 4000000 in
set_option maxRecDepth 100000 in
theorem c_X7_remembers (l : Launch) {D : va_G} {cy : Nat → ClassId} {ad tb : Nat → Nat} (hJ : pJ ad) {N : Nat} {S S' : PSt} (hf : P_X7_remembers N S = some S') : Ct l 1 yX7_remembers cX7_remembers 2 none D cy ad tb S S' [.ref (ad 158)] none := by
  refine Ct_of hJ (by decide) (Nat.le_of_ble_eq_true rfl) (fun p e s m below meth c ls hX hP hS hl => ?_)
  have hl : lv_has ls 2 [(0, .ref (ad 158))] := hl
  have hX0 := hX
  obtain ⟨hC, hml, hr, hlk⟩ := hX0
  have hx := hC.1
  have hb := hC.2.1
  unfold P_X7_remembers at hf
  refine lv_aload_n hx hb dX7_remembers_0 rfl (lv_at hl 0 rfl) ?_
  refine gf_X7_137 hC hP k_158 (v := .int (gI S 708 158)) rfl dX7_remembers_1 ?_
  refine lv_bipush (v := 10) hx hb dX7_remembers_4 (by decide) ?_
  refine lv_icmp_ne (tgt := 48) hx hb dX7_remembers_6 (by decide) (fun c13 => ?_) (fun c13 => ?_)
  · replace hf := ite_f c13 hf
    refine lv_iconst (v := 0) hx hb dX7_remembers_48 (by decide) ?_
    refine lv_istore_n (lv' := [(1, .int (0 : Int32)), (0, .ref (ad 158))]) hx hb dX7_remembers_49 rfl hl (by decide) rfl (fun ls hl => ?_)
    exact w_X7_remembers_L50 hX _ _ _ _ _ _ hf  hP hS (lv_sub hl [1, 0] rfl)
  · replace hf := ite_t c13 hf
    refine lv_iconst (v := 0) hx hb dX7_remembers_9 (by decide) ?_
    refine lv_istore_n (lv' := [(1, .int (0 : Int32)), (0, .ref (ad 158))]) hx hb dX7_remembers_10 rfl hl (by decide) rfl (fun ls hl => ?_)
    exact w_X7_remembers_L11 hX _ _ _ _ _ _ hf  hP hS (lv_sub hl [1, 0] rfl)
def P_X7_becomes_L31 (N : Nat) : Nat → PSt → Int32 → Option PSt
  | 0 => fun _ _ => none
  | n + 1 => fun S x4 => if (4 : Int32) ≤ x4 then (some S) else (gd (bin ((4 : Int32) + x4) (ln 170)) <| gd (bin ((3 : Int32) + x4) (ln 161)) <| bnd (sA S 161 ((3 : Int32) + x4).toNatClampNeg (gA S 170 ((4 : Int32) + x4).toNatClampNeg)) fun S4 => bnd (x4 + (1 : Int32)) fun v5 => P_X7_becomes_L31 N n S4 v5)
set_option maxHeartbeats 4000000 in
set_option maxRecDepth 100000 in
theorem w_X7_becomes_L31 {N : Nat} {S' : PSt} (hX : Mx p s m args c meth cX7_becomes RX7 5 none D cy ad tb) : ∀ (n : Nat), ∀ (S : PSt) (x4 : Int32) (H : Heap) (locs : List Loc) (ls : Array Slot), P_X7_becomes_L31 N n S x4 = some S' → va_P D vwCl (pW cy ad S) H → va_S (pA ad s.heap.size) s.heap H locs → lv_has ls 5 [(0, .ref (ad 158)), (4, .int x4)] → W p l e (rmd 2) s m args below meth c H locs 0 0 (Qz D cy ad below args s S' none) (F0 m 31 ls []) := by
  have hX0 := hX
  obtain ⟨hC, hml, hr, hlk⟩ := hX0
  have hx := hC.1
  have hb := hC.2.1
  intro n
  induction n with
  | zero => intro S x4 H locs ls hf; exact absurd hf (by intro h; cases h)
  | succ n ih =>
    intro S x4 H locs ls hf  hP hS hl
    rw [P_X7_becomes_L31] at hf
    refine lv_iload hx hb dX7_becomes_31 (lv_at hl 1 rfl) ?_
    refine lv_iconst (v := 4) hx hb dX7_becomes_33 (by decide) ?_
    refine lv_icmp_ge (tgt := 61) hx hb dX7_becomes_34 (by decide) (fun c1 => ?_) (fun c1 => ?_)
    · replace hf := ite_t c1 hf
      exact pg_vret hC hr hlk hP hS hf dX7_becomes_61
    · replace hf := ite_f c1 hf
      refine lv_aload_n hx hb dX7_becomes_37 rfl (lv_at hl 0 rfl) ?_
      refine gf_X7_20 hC hP k_158 (v := .ref (ad 161)) rfl dX7_becomes_38 ?_
      refine lv_iconst (v := 3) hx hb dX7_becomes_41 (by decide) ?_
      refine lv_iload hx hb dX7_becomes_42 (lv_at hl 1 rfl) ?_
      refine lv_iadd hx hb dX7_becomes_44 ?_
      refine lv_aload_n hx hb dX7_becomes_45 rfl (lv_at hl 0 rfl) ?_
      refine gf_X7_48 hC hP k_158 (v := .ref (ad 170)) rfl dX7_becomes_46 ?_
      refine lv_iconst (v := 4) hx hb dX7_becomes_49 (by decide) ?_
      refine lv_iload hx hb dX7_becomes_50 (lv_at hl 1 rfl) ?_
      refine lv_iadd hx hb dX7_becomes_52 ?_
      obtain ⟨h2, hf⟩ := gd_some hf
      refine pg_iald hC hP k_170 (bin_in h2) dX7_becomes_53 ?_
      obtain ⟨h3, hf⟩ := gd_some hf
      obtain ⟨S4, eS4, hf⟩ := bnd_some hf
      refine pg_iast hC hP hS k_161 (bin_in h3) dX7_becomes_54 (fun H locs hP hS => ?_)
      rw [← eS4] at hP
      obtain ⟨v5, ev5, hf⟩ := bnd_some hf
      refine lv_iinc (v := v5) (lv' := [(4, .int v5), (0, .ref (ad 158))]) hx hb dX7_becomes_55 hl (k := 1) rfl (by rw [ev5]; rfl) (by decide) rfl (fun ls hl => ?_)
      refine lv_goto (tgt := 31) hx hb dX7_becomes_58 (by decide) ?_
      exact ih _ _ _ _ _ hf  hP hS (lv_sub hl [1, 0] rfl)
def P_X7_becomes (N : Nat) (S : PSt) (x1 : Int32) (x2 : Int32) (x3 : Int32) : Option PSt := cal1 (P_X7_remembers N S) fun S6 => bnd (sA S6 161 (0 : Int32).toNatClampNeg x1) fun S8 => bnd (sA S8 161 (1 : Int32).toNatClampNeg ((gA S8 161 (1 : Int32).toNatClampNeg) + x3)) fun S9 => bnd (sA S9 161 (2 : Int32).toNatClampNeg x2) fun S10 => P_X7_becomes_L31 N N S10 (0 : Int32)
set_option maxHeartbeats 4000000 in
set_option maxRecDepth 100000 in
theorem c_X7_becomes (l : Launch) {D : va_G} {cy : Nat → ClassId} {ad tb : Nat → Nat} (hJ : pJ ad) {N : Nat} {S S' : PSt} {x1 : Int32} {x2 : Int32} {x3 : Int32} (hf : P_X7_becomes N S x1 x2 x3 = some S') : Ct l 2 yX7_becomes cX7_becomes 5 none D cy ad tb S S' [.ref (ad 158), .int x1, .int x2, .int x3] none := by
  refine Ct_of hJ (by decide) (Nat.le_of_ble_eq_true rfl) (fun p e s m below meth c ls hX hP hS hl => ?_)
  have hl : lv_has ls 5 [(0, .ref (ad 158)), (1, .int x1), (2, .int x2), (3, .int x3)] := hl
  have hX0 := hX
  obtain ⟨hC, hml, hr, hlk⟩ := hX0
  have hx := hC.1
  have hb := hC.2.1
  unfold P_X7_becomes at hf
  refine lv_aload_n hx hb dX7_becomes_0 rfl (lv_at hl 0 rfl) ?_
  obtain ⟨S6, q7, hf⟩ := cal1_some hf
  refine pg_callV (As := []) (rest := []) (st1 := []) (ci := 7) hC hml hP hS (c_X7_remembers l hC.2.2.2.2.2.1 q7) ⟨by decide, by decide, rfl, rfl⟩ ⟨rfl, rfl⟩ (by decide) rfl (by decide) k_158 rfl rfl ⟨mk_X7_167, mi_X7_remembers⟩ hd_X7_remembers rfl hl.1 (Nat.le_of_ble_eq_true rfl) dX7_becomes_1 (fun H locs hP hS => ?_)
  refine lv_aload_n hx hb dX7_becomes_4 rfl (lv_at hl 0 rfl) ?_
  refine gf_X7_20 hC hP k_158 (v := .ref (ad 161)) rfl dX7_becomes_5 ?_
  refine lv_iconst (v := 0) hx hb dX7_becomes_8 (by decide) ?_
  refine lv_iload_n hx hb dX7_becomes_9 rfl (lv_at hl 1 rfl) ?_
  obtain ⟨S8, eS8, hf⟩ := bnd_some hf
  refine pg_iast hC hP hS k_161 (bin_in (by decide +kernel)) dX7_becomes_10 (fun H locs hP hS => ?_)
  rw [← eS8] at hP
  refine lv_aload_n hx hb dX7_becomes_11 rfl (lv_at hl 0 rfl) ?_
  refine gf_X7_20 hC hP k_158 (v := .ref (ad 161)) rfl dX7_becomes_12 ?_
  refine lv_iconst (v := 1) hx hb dX7_becomes_15 (by decide) ?_
  refine lv_dup2_11 hx hb dX7_becomes_16 rfl rfl ?_
  refine pg_iald hC hP k_161 (bin_in (by decide +kernel)) dX7_becomes_17 ?_
  refine lv_iload_n hx hb dX7_becomes_18 rfl (lv_at hl 3 rfl) ?_
  refine lv_iadd hx hb dX7_becomes_19 ?_
  obtain ⟨S9, eS9, hf⟩ := bnd_some hf
  refine pg_iast hC hP hS k_161 (bin_in (by decide +kernel)) dX7_becomes_20 (fun H locs hP hS => ?_)
  rw [← eS9] at hP
  refine lv_aload_n hx hb dX7_becomes_21 rfl (lv_at hl 0 rfl) ?_
  refine gf_X7_20 hC hP k_158 (v := .ref (ad 161)) rfl dX7_becomes_22 ?_
  refine lv_iconst (v := 2) hx hb dX7_becomes_25 (by decide) ?_
  refine lv_iload_n hx hb dX7_becomes_26 rfl (lv_at hl 2 rfl) ?_
  obtain ⟨S10, eS10, hf⟩ := bnd_some hf
  refine pg_iast hC hP hS k_161 (bin_in (by decide +kernel)) dX7_becomes_27 (fun H locs hP hS => ?_)
  rw [← eS10] at hP
  refine lv_iconst (v := 0) hx hb dX7_becomes_28 (by decide) ?_
  refine lv_istore (lv' := [(4, .int (0 : Int32)), (0, .ref (ad 158)), (1, .int x1), (2, .int x2), (3, .int x3)]) hx hb dX7_becomes_29 hl (by decide) rfl (fun ls hl => ?_)
  exact w_X7_becomes_L31 hX _ _ _ _ _ _ hf  hP hS (lv_sub hl [1, 0] rfl)
def P_X7_walks (N : Nat) (S : PSt) (x1 : Int32) : Option (Int32 × PSt) := cal2 (P_X7_isPair N S x1) fun r3 S1 => if r3 = (0 : Int32) then (some ((-1 : Int32), S1)) else (if (gA S1 161 (0 : Int32).toNatClampNeg) = (gI S1 702 158) then (some ((-2 : Int32), S1)) else (cal1 (P_X7_fromNow N S1) fun S6 => cal1 (P_X7_walksOn N S6 (0 : Int32) (gA S6 161 (0 : Int32).toNatClampNeg) x1) fun S8 => if ((gA S8 161 (1 : Int32).toNatClampNeg) + (gA S8 171 (1 : Int32).toNatClampNeg)) ≤ (9999 : Int32) then (cal1 (P_X7_becomes N S8 ((gA S8 161 (0 : Int32).toNatClampNeg) + (1 : Int32)) x1 (gA S8 171 (1 : Int32).toNatClampNeg)) fun S11 => some ((gA S11 171 (1 : Int32).toNatClampNeg), S11)) else (some ((-2 : Int32), S8))))
set_option maxHeartbeats 4000000 in
set_option maxRecDepth 100000 in
theorem c_X7_walks (l : Launch) {D : va_G} {cy : Nat → ClassId} {ad tb : Nat → Nat} (hJ : pJ ad) {N : Nat} {S S' : PSt} {x1 : Int32} {r : Int32} (hf : P_X7_walks N S x1 = some (r, S')) : Ct l 4 yX7_walks cX7_walks 2 (some .int) D cy ad tb S S' [.ref (ad 158), .int x1] (some (.int r)) := by
  refine Ct_of hJ (by decide) (Nat.le_of_ble_eq_true rfl) (fun p e s m below meth c ls hX hP hS hl => ?_)
  have hl : lv_has ls 2 [(0, .ref (ad 158)), (1, .int x1)] := hl
  have hX0 := hX
  obtain ⟨hC, hml, hr, hlk⟩ := hX0
  have hx := hC.1
  have hb := hC.2.1
  unfold P_X7_walks at hf
  refine lv_aload_n hx hb dX7_walks_0 rfl (lv_at hl 0 rfl) ?_
  refine lv_iload_n hx hb dX7_walks_1 rfl (lv_at hl 1 rfl) ?_
  obtain ⟨r3, S1, q2, hf⟩ := cal2_some hf
  refine pg_callV (As := [.int x1]) (rest := []) (st1 := [.int r3]) (ci := 7) hC hml hP hS (c_X7_isPair l hC.2.2.2.2.2.1 q2) ⟨by decide, by decide, rfl, rfl⟩ ⟨rfl, rfl⟩ (by decide) rfl (by decide) k_158 rfl rfl ⟨mk_X7_164, mi_X7_isPair⟩ hd_X7_isPair rfl hl.1 (Nat.le_of_ble_eq_true rfl) dX7_walks_2 (fun H locs hP hS => ?_)
  refine lv_if_ne (tgt := 10) hx hb dX7_walks_5 (by decide) (fun c4 => ?_) (fun c4 => ?_)
  · replace hf := ite_f c4 hf
    refine lv_aload_n hx hb dX7_walks_10 rfl (lv_at hl 0 rfl) ?_
    refine gf_X7_20 hC hP k_158 (v := .ref (ad 161)) rfl dX7_walks_11 ?_
    refine lv_iconst (v := 0) hx hb dX7_walks_14 (by decide) ?_
    refine pg_iald hC hP k_161 (bin_in (by decide +kernel)) dX7_walks_15 ?_
    refine lv_aload_n hx hb dX7_walks_16 rfl (lv_at hl 0 rfl) ?_
    refine gf_X7_76 hC hP k_158 (v := .int (gI S1 702 158)) rfl dX7_walks_17 ?_
    refine lv_icmp_ne (tgt := 26) hx hb dX7_walks_20 (by decide) (fun c5 => ?_) (fun c5 => ?_)
    · replace hf := ite_f c5 hf
      refine lv_aload_n hx hb dX7_walks_26 rfl (lv_at hl 0 rfl) ?_
      obtain ⟨S6, q7, hf⟩ := cal1_some hf
      refine pg_callV (As := []) (rest := []) (st1 := []) (ci := 7) hC hml hP hS (c_X7_fromNow l hC.2.2.2.2.2.1 q7) ⟨by decide, by decide, rfl, rfl⟩ ⟨rfl, rfl⟩ (by decide) rfl (by decide) k_158 rfl rfl ⟨mk_X7_155, mi_X7_fromNow⟩ hd_X7_fromNow rfl hl.1 (Nat.le_of_ble_eq_true rfl) dX7_walks_27 (fun H locs hP hS => ?_)
      refine lv_aload_n hx hb dX7_walks_30 rfl (lv_at hl 0 rfl) ?_
      refine lv_iconst (v := 0) hx hb dX7_walks_31 (by decide) ?_
      refine lv_aload_n hx hb dX7_walks_32 rfl (lv_at hl 0 rfl) ?_
      refine gf_X7_20 hC hP k_158 (v := .ref (ad 161)) rfl dX7_walks_33 ?_
      refine lv_iconst (v := 0) hx hb dX7_walks_36 (by decide) ?_
      refine pg_iald hC hP k_161 (bin_in (by decide +kernel)) dX7_walks_37 ?_
      refine lv_iload_n hx hb dX7_walks_38 rfl (lv_at hl 1 rfl) ?_
      obtain ⟨S8, q9, hf⟩ := cal1_some hf
      refine pg_callV (As := [.int (0 : Int32), .int (gA S6 161 (0 : Int32).toNatClampNeg), .int x1]) (rest := []) (st1 := []) (ci := 7) hC hml hP hS (c_X7_walksOn l hC.2.2.2.2.2.1 q9) ⟨by decide, by decide, rfl, rfl⟩ ⟨rfl, rfl⟩ (by decide) rfl (by decide) k_158 rfl rfl ⟨mk_X7_158, mi_X7_walksOn⟩ hd_X7_walksOn rfl hl.1 (Nat.le_of_ble_eq_true rfl) dX7_walks_39 (fun H locs hP hS => ?_)
      refine lv_aload_n hx hb dX7_walks_42 rfl (lv_at hl 0 rfl) ?_
      refine gf_X7_20 hC hP k_158 (v := .ref (ad 161)) rfl dX7_walks_43 ?_
      refine lv_iconst (v := 1) hx hb dX7_walks_46 (by decide) ?_
      refine pg_iald hC hP k_161 (bin_in (by decide +kernel)) dX7_walks_47 ?_
      refine lv_aload_n hx hb dX7_walks_48 rfl (lv_at hl 0 rfl) ?_
      refine gf_X7_51 hC hP k_158 (v := .ref (ad 171)) rfl dX7_walks_49 ?_
      refine lv_iconst (v := 1) hx hb dX7_walks_52 (by decide) ?_
      refine pg_iald hC hP k_171 (bin_in (by decide +kernel)) dX7_walks_53 ?_
      refine lv_iadd hx hb dX7_walks_54 ?_
      refine lv_sipush (v := 9999) hx hb dX7_walks_55 (by decide) ?_
      refine lv_icmp_le (tgt := 64) hx hb dX7_walks_58 (by decide) (fun c10 => ?_) (fun c10 => ?_)
      · replace hf := ite_t c10 hf
        refine lv_aload_n hx hb dX7_walks_64 rfl (lv_at hl 0 rfl) ?_
        refine lv_aload_n hx hb dX7_walks_65 rfl (lv_at hl 0 rfl) ?_
        refine gf_X7_20 hC hP k_158 (v := .ref (ad 161)) rfl dX7_walks_66 ?_
        refine lv_iconst (v := 0) hx hb dX7_walks_69 (by decide) ?_
        refine pg_iald hC hP k_161 (bin_in (by decide +kernel)) dX7_walks_70 ?_
        refine lv_iconst (v := 1) hx hb dX7_walks_71 (by decide) ?_
        refine lv_iadd hx hb dX7_walks_72 ?_
        refine lv_iload_n hx hb dX7_walks_73 rfl (lv_at hl 1 rfl) ?_
        refine lv_aload_n hx hb dX7_walks_74 rfl (lv_at hl 0 rfl) ?_
        refine gf_X7_51 hC hP k_158 (v := .ref (ad 171)) rfl dX7_walks_75 ?_
        refine lv_iconst (v := 1) hx hb dX7_walks_78 (by decide) ?_
        refine pg_iald hC hP k_171 (bin_in (by decide +kernel)) dX7_walks_79 ?_
        obtain ⟨S11, q12, hf⟩ := cal1_some hf
        refine pg_callV (As := [.int ((gA S8 161 (0 : Int32).toNatClampNeg) + (1 : Int32)), .int x1, .int (gA S8 171 (1 : Int32).toNatClampNeg)]) (rest := []) (st1 := []) (ci := 7) hC hml hP hS (c_X7_becomes l hC.2.2.2.2.2.1 q12) ⟨by decide, by decide, rfl, rfl⟩ ⟨rfl, rfl⟩ (by decide) rfl (by decide) k_158 rfl rfl ⟨mk_X7_170, mi_X7_becomes⟩ hd_X7_becomes rfl hl.1 (Nat.le_of_ble_eq_true rfl) dX7_walks_80 (fun H locs hP hS => ?_)
        refine lv_aload_n hx hb dX7_walks_83 rfl (lv_at hl 0 rfl) ?_
        refine gf_X7_51 hC hP k_158 (v := .ref (ad 171)) rfl dX7_walks_84 ?_
        refine lv_iconst (v := 1) hx hb dX7_walks_87 (by decide) ?_
        refine pg_iald hC hP k_171 (bin_in (by decide +kernel)) dX7_walks_88 ?_
        exact pg_iret hC hr hlk hP hS hf dX7_walks_89
      · replace hf := ite_f c10 hf
        refine lv_bipush (v := -2) hx hb dX7_walks_61 (by decide) ?_
        exact pg_iret hC hr hlk hP hS hf dX7_walks_63
    · replace hf := ite_t c5 hf
      refine lv_bipush (v := -2) hx hb dX7_walks_23 (by decide) ?_
      exact pg_iret hC hr hlk hP hS hf dX7_walks_25
  · replace hf := ite_t c4 hf
    refine lv_iconst (v := -1) hx hb dX7_walks_8 (by decide) ?_
    exact pg_iret hC hr hlk hP hS hf dX7_walks_9
def P_X7_backs (N : Nat) (S : PSt) : Option (Int32 × PSt) := if (gA S 161 (0 : Int32).toNatClampNeg) = (0 : Int32) then (some ((-2 : Int32), S)) else (bnd ((gA S 161 (0 : Int32).toNatClampNeg) - (1 : Int32)) fun v2 => cal1 (P_X7_fromNow N S) fun S3 => cal2 (P_X7_takesAt N S3 v2 (gA S3 161 (2 : Int32).toNatClampNeg) (0 : Int32)) fun r7 S5 => bnd ((2 : Int32) * r7) fun v8 => if ((gA S5 161 (1 : Int32).toNatClampNeg) + v8) ≤ (9999 : Int32) then (gd (bin ((4 : Int32) * v2) (ln 160)) <| cal1 (P_X7_tires N S5 (0 : Int32) (gA S5 161 (2 : Int32).toNatClampNeg) (gA S5 160 ((4 : Int32) * v2).toNatClampNeg)) fun S11 => cal1 (P_X7_becomes N S11 v2 (gA S11 161 (2 : Int32).toNatClampNeg) v8) fun S13 => some (v8, S13)) else (some ((-2 : Int32), S5)))
set_option maxHeartbeats 4000000 in
set_option maxRecDepth 100000 in
theorem c_X7_backs (l : Launch) {D : va_G} {cy : Nat → ClassId} {ad tb : Nat → Nat} (hJ : pJ ad) {N : Nat} {S S' : PSt} {r : Int32} (hf : P_X7_backs N S = some (r, S')) : Ct l 3 yX7_backs cX7_backs 3 (some .int) D cy ad tb S S' [.ref (ad 158)] (some (.int r)) := by
  refine Ct_of hJ (by decide) (Nat.le_of_ble_eq_true rfl) (fun p e s m below meth c ls hX hP hS hl => ?_)
  have hl : lv_has ls 3 [(0, .ref (ad 158))] := hl
  have hX0 := hX
  obtain ⟨hC, hml, hr, hlk⟩ := hX0
  have hx := hC.1
  have hb := hC.2.1
  unfold P_X7_backs at hf
  refine lv_aload_n hx hb dX7_backs_0 rfl (lv_at hl 0 rfl) ?_
  refine gf_X7_20 hC hP k_158 (v := .ref (ad 161)) rfl dX7_backs_1 ?_
  refine lv_iconst (v := 0) hx hb dX7_backs_4 (by decide) ?_
  refine pg_iald hC hP k_161 (bin_in (by decide +kernel)) dX7_backs_5 ?_
  refine lv_if_ne (tgt := 12) hx hb dX7_backs_6 (by decide) (fun c1 => ?_) (fun c1 => ?_)
  · replace hf := ite_f c1 hf
    refine lv_aload_n hx hb dX7_backs_12 rfl (lv_at hl 0 rfl) ?_
    refine gf_X7_20 hC hP k_158 (v := .ref (ad 161)) rfl dX7_backs_13 ?_
    refine lv_iconst (v := 0) hx hb dX7_backs_16 (by decide) ?_
    refine pg_iald hC hP k_161 (bin_in (by decide +kernel)) dX7_backs_17 ?_
    refine lv_iconst (v := 1) hx hb dX7_backs_18 (by decide) ?_
    refine lv_isub hx hb dX7_backs_19 ?_
    obtain ⟨v2, ev2, hf⟩ := bnd_some hf
    refine pg_top ev2 ?_
    refine lv_istore_n (lv' := [(1, .int v2), (0, .ref (ad 158))]) hx hb dX7_backs_20 rfl hl (by decide) rfl (fun ls hl => ?_)
    refine lv_aload_n hx hb dX7_backs_21 rfl (lv_at hl 1 rfl) ?_
    obtain ⟨S3, q4, hf⟩ := cal1_some hf
    refine pg_callV (As := []) (rest := []) (st1 := []) (ci := 7) hC hml hP hS (c_X7_fromNow l hC.2.2.2.2.2.1 q4) ⟨by decide, by decide, rfl, rfl⟩ ⟨rfl, rfl⟩ (by decide) rfl (by decide) k_158 rfl rfl ⟨mk_X7_155, mi_X7_fromNow⟩ hd_X7_fromNow rfl hl.1 (Nat.le_of_ble_eq_true rfl) dX7_backs_22 (fun H locs hP hS => ?_)
    refine lv_iconst (v := 2) hx hb dX7_backs_25 (by decide) ?_
    refine lv_aload_n hx hb dX7_backs_26 rfl (lv_at hl 1 rfl) ?_
    refine lv_iload_n hx hb dX7_backs_27 rfl (lv_at hl 0 rfl) ?_
    refine lv_aload_n hx hb dX7_backs_28 rfl (lv_at hl 1 rfl) ?_
    refine gf_X7_20 hC hP k_158 (v := .ref (ad 161)) rfl dX7_backs_29 ?_
    refine lv_iconst (v := 2) hx hb dX7_backs_32 (by decide) ?_
    refine pg_iald hC hP k_161 (bin_in (by decide +kernel)) dX7_backs_33 ?_
    refine lv_iconst (v := 0) hx hb dX7_backs_34 (by decide) ?_
    obtain ⟨r7, S5, q6, hf⟩ := cal2_some hf
    refine pg_callV (As := [.int v2, .int (gA S3 161 (2 : Int32).toNatClampNeg), .int (0 : Int32)]) (rest := [.int (2 : Int32)]) (st1 := [.int r7, .int (2 : Int32)]) (ci := 7) hC hml hP hS (c_X7_takesAt l hC.2.2.2.2.2.1 q6) ⟨by decide, by decide, rfl, rfl⟩ ⟨rfl, rfl⟩ (by decide) rfl (by decide) k_158 rfl rfl ⟨mk_X7_147, mi_X7_takesAt⟩ hd_X7_takesAt rfl hl.1 (Nat.le_of_ble_eq_true rfl) dX7_backs_35 (fun H locs hP hS => ?_)
    refine lv_imul hx hb dX7_backs_38 ?_
    obtain ⟨v8, ev8, hf⟩ := bnd_some hf
    refine pg_top ev8 ?_
    refine lv_istore_n (lv' := [(2, .int v8), (1, .int v2), (0, .ref (ad 158))]) hx hb dX7_backs_39 rfl hl (by decide) rfl (fun ls hl => ?_)
    refine lv_aload_n hx hb dX7_backs_40 rfl (lv_at hl 2 rfl) ?_
    refine gf_X7_20 hC hP k_158 (v := .ref (ad 161)) rfl dX7_backs_41 ?_
    refine lv_iconst (v := 1) hx hb dX7_backs_44 (by decide) ?_
    refine pg_iald hC hP k_161 (bin_in (by decide +kernel)) dX7_backs_45 ?_
    refine lv_iload_n hx hb dX7_backs_46 rfl (lv_at hl 0 rfl) ?_
    refine lv_iadd hx hb dX7_backs_47 ?_
    refine lv_sipush (v := 9999) hx hb dX7_backs_48 (by decide) ?_
    refine lv_icmp_le (tgt := 57) hx hb dX7_backs_51 (by decide) (fun c9 => ?_) (fun c9 => ?_)
    · replace hf := ite_t c9 hf
      refine lv_aload_n hx hb dX7_backs_57 rfl (lv_at hl 2 rfl) ?_
      refine lv_iconst (v := 0) hx hb dX7_backs_58 (by decide) ?_
      refine lv_aload_n hx hb dX7_backs_59 rfl (lv_at hl 2 rfl) ?_
      refine gf_X7_20 hC hP k_158 (v := .ref (ad 161)) rfl dX7_backs_60 ?_
      refine lv_iconst (v := 2) hx hb dX7_backs_63 (by decide) ?_
      refine pg_iald hC hP k_161 (bin_in (by decide +kernel)) dX7_backs_64 ?_
      refine lv_aload_n hx hb dX7_backs_65 rfl (lv_at hl 2 rfl) ?_
      refine gf_X7_13 hC hP k_158 (v := .ref (ad 160)) rfl dX7_backs_66 ?_
      refine lv_iconst (v := 4) hx hb dX7_backs_69 (by decide) ?_
      refine lv_iload_n hx hb dX7_backs_70 rfl (lv_at hl 1 rfl) ?_
      refine lv_imul hx hb dX7_backs_71 ?_
      obtain ⟨h10, hf⟩ := gd_some hf
      refine pg_iald hC hP k_160 (bin_in h10) dX7_backs_72 ?_
      obtain ⟨S11, q12, hf⟩ := cal1_some hf
      refine pg_callV (As := [.int (0 : Int32), .int (gA S5 161 (2 : Int32).toNatClampNeg), .int (gA S5 160 ((4 : Int32) * v2).toNatClampNeg)]) (rest := []) (st1 := []) (ci := 7) hC hml hP hS (c_X7_tires l hC.2.2.2.2.2.1 q12) ⟨by decide, by decide, rfl, rfl⟩ ⟨rfl, rfl⟩ (by decide) rfl (by decide) k_158 rfl rfl ⟨mk_X7_151, mi_X7_tires⟩ hd_X7_tires rfl hl.1 (Nat.le_of_ble_eq_true rfl) dX7_backs_73 (fun H locs hP hS => ?_)
      refine lv_aload_n hx hb dX7_backs_76 rfl (lv_at hl 2 rfl) ?_
      refine lv_iload_n hx hb dX7_backs_77 rfl (lv_at hl 1 rfl) ?_
      refine lv_aload_n hx hb dX7_backs_78 rfl (lv_at hl 2 rfl) ?_
      refine gf_X7_20 hC hP k_158 (v := .ref (ad 161)) rfl dX7_backs_79 ?_
      refine lv_iconst (v := 2) hx hb dX7_backs_82 (by decide) ?_
      refine pg_iald hC hP k_161 (bin_in (by decide +kernel)) dX7_backs_83 ?_
      refine lv_iload_n hx hb dX7_backs_84 rfl (lv_at hl 0 rfl) ?_
      obtain ⟨S13, q14, hf⟩ := cal1_some hf
      refine pg_callV (As := [.int v2, .int (gA S11 161 (2 : Int32).toNatClampNeg), .int v8]) (rest := []) (st1 := []) (ci := 7) hC hml hP hS (c_X7_becomes l hC.2.2.2.2.2.1 q14) ⟨by decide, by decide, rfl, rfl⟩ ⟨rfl, rfl⟩ (by decide) rfl (by decide) k_158 rfl rfl ⟨mk_X7_170, mi_X7_becomes⟩ hd_X7_becomes rfl hl.1 (Nat.le_of_ble_eq_true rfl) dX7_backs_85 (fun H locs hP hS => ?_)
      refine lv_iload_n hx hb dX7_backs_88 rfl (lv_at hl 0 rfl) ?_
      exact pg_iret hC hr hlk hP hS hf dX7_backs_89
    · replace hf := ite_f c9 hf
      refine lv_bipush (v := -2) hx hb dX7_backs_54 (by decide) ?_
      exact pg_iret hC hr hlk hP hS hf dX7_backs_56
  · replace hf := ite_t c1 hf
    refine lv_bipush (v := -2) hx hb dX7_backs_9 (by decide) ?_
    exact pg_iret hC hr hlk hP hS hf dX7_backs_11
def P_X7_rests (N : Nat) (S : PSt) (x1 : Int32) : Option (Int32 × PSt) := cal2 (P_X7_in N S x1 (1 : Int32) (99 : Int32)) fun r3 S1 => if r3 = (0 : Int32) then (some ((-1 : Int32), S1)) else (if ((gA S1 161 (1 : Int32).toNatClampNeg) + x1) ≤ (9999 : Int32) then (cal1 (P_X7_fromNow N S1) fun S6 => cal1 (P_X7_tires N S6 (0 : Int32) (-1 : Int32) x1) fun S8 => cal1 (P_X7_becomes N S8 (gA S8 161 (0 : Int32).toNatClampNeg) (gA S8 161 (2 : Int32).toNatClampNeg) x1) fun S10 => some ((gA S10 161 (1 : Int32).toNatClampNeg), S10)) else (some ((-2 : Int32), S1)))
set_option maxHeartbeats 4000000 in
set_option maxRecDepth 100000 in
theorem c_X7_rests (l : Launch) {D : va_G} {cy : Nat → ClassId} {ad tb : Nat → Nat} (hJ : pJ ad) {N : Nat} {S S' : PSt} {x1 : Int32} {r : Int32} (hf : P_X7_rests N S x1 = some (r, S')) : Ct l 3 yX7_rests cX7_rests 2 (some .int) D cy ad tb S S' [.ref (ad 158), .int x1] (some (.int r)) := by
  refine Ct_of hJ (by decide) (Nat.le_of_ble_eq_true rfl) (fun p e s m below meth c ls hX hP hS hl => ?_)
  have hl : lv_has ls 2 [(0, .ref (ad 158)), (1, .int x1)] := hl
  have hX0 := hX
  obtain ⟨hC, hml, hr, hlk⟩ := hX0
  have hx := hC.1
  have hb := hC.2.1
  unfold P_X7_rests at hf
  refine lv_iload_n hx hb dX7_rests_0 rfl (lv_at hl 1 rfl) ?_
  refine lv_iconst (v := 1) hx hb dX7_rests_1 (by decide) ?_
  refine lv_bipush (v := 99) hx hb dX7_rests_2 (by decide) ?_
  obtain ⟨r3, S1, q2, hf⟩ := cal2_some hf
  refine pg_callS (As := [.int x1, .int (1 : Int32), .int (99 : Int32)]) (rest := []) (st1 := [.int r3]) hC hml hP hS (c_X7_in l hC.2.2.2.2.2.1 q2) ⟨by decide, by decide, rfl, rfl⟩ ⟨rfl, rfl⟩ (by decide) rfl rfl ⟨mk_X7_72, mi_X7_in⟩ hd_X7_in rfl hl.1 (Nat.le_of_ble_eq_true rfl) dX7_rests_4 (fun H locs hP hS => ?_)
  refine lv_if_ne (tgt := 12) hx hb dX7_rests_7 (by decide) (fun c4 => ?_) (fun c4 => ?_)
  · replace hf := ite_f c4 hf
    refine lv_aload_n hx hb dX7_rests_12 rfl (lv_at hl 0 rfl) ?_
    refine gf_X7_20 hC hP k_158 (v := .ref (ad 161)) rfl dX7_rests_13 ?_
    refine lv_iconst (v := 1) hx hb dX7_rests_16 (by decide) ?_
    refine pg_iald hC hP k_161 (bin_in (by decide +kernel)) dX7_rests_17 ?_
    refine lv_iload_n hx hb dX7_rests_18 rfl (lv_at hl 1 rfl) ?_
    refine lv_iadd hx hb dX7_rests_19 ?_
    refine lv_sipush (v := 9999) hx hb dX7_rests_20 (by decide) ?_
    refine lv_icmp_le (tgt := 29) hx hb dX7_rests_23 (by decide) (fun c5 => ?_) (fun c5 => ?_)
    · replace hf := ite_t c5 hf
      refine lv_aload_n hx hb dX7_rests_29 rfl (lv_at hl 0 rfl) ?_
      obtain ⟨S6, q7, hf⟩ := cal1_some hf
      refine pg_callV (As := []) (rest := []) (st1 := []) (ci := 7) hC hml hP hS (c_X7_fromNow l hC.2.2.2.2.2.1 q7) ⟨by decide, by decide, rfl, rfl⟩ ⟨rfl, rfl⟩ (by decide) rfl (by decide) k_158 rfl rfl ⟨mk_X7_155, mi_X7_fromNow⟩ hd_X7_fromNow rfl hl.1 (Nat.le_of_ble_eq_true rfl) dX7_rests_30 (fun H locs hP hS => ?_)
      refine lv_aload_n hx hb dX7_rests_33 rfl (lv_at hl 0 rfl) ?_
      refine lv_iconst (v := 0) hx hb dX7_rests_34 (by decide) ?_
      refine lv_iconst (v := -1) hx hb dX7_rests_35 (by decide) ?_
      refine lv_iload_n hx hb dX7_rests_36 rfl (lv_at hl 1 rfl) ?_
      obtain ⟨S8, q9, hf⟩ := cal1_some hf
      refine pg_callV (As := [.int (0 : Int32), .int (-1 : Int32), .int x1]) (rest := []) (st1 := []) (ci := 7) hC hml hP hS (c_X7_tires l hC.2.2.2.2.2.1 q9) ⟨by decide, by decide, rfl, rfl⟩ ⟨rfl, rfl⟩ (by decide) rfl (by decide) k_158 rfl rfl ⟨mk_X7_151, mi_X7_tires⟩ hd_X7_tires rfl hl.1 (Nat.le_of_ble_eq_true rfl) dX7_rests_37 (fun H locs hP hS => ?_)
      refine lv_aload_n hx hb dX7_rests_40 rfl (lv_at hl 0 rfl) ?_
      refine lv_aload_n hx hb dX7_rests_41 rfl (lv_at hl 0 rfl) ?_
      refine gf_X7_20 hC hP k_158 (v := .ref (ad 161)) rfl dX7_rests_42 ?_
      refine lv_iconst (v := 0) hx hb dX7_rests_45 (by decide) ?_
      refine pg_iald hC hP k_161 (bin_in (by decide +kernel)) dX7_rests_46 ?_
      refine lv_aload_n hx hb dX7_rests_47 rfl (lv_at hl 0 rfl) ?_
      refine gf_X7_20 hC hP k_158 (v := .ref (ad 161)) rfl dX7_rests_48 ?_
      refine lv_iconst (v := 2) hx hb dX7_rests_51 (by decide) ?_
      refine pg_iald hC hP k_161 (bin_in (by decide +kernel)) dX7_rests_52 ?_
      refine lv_iload_n hx hb dX7_rests_53 rfl (lv_at hl 1 rfl) ?_
      obtain ⟨S10, q11, hf⟩ := cal1_some hf
      refine pg_callV (As := [.int (gA S8 161 (0 : Int32).toNatClampNeg), .int (gA S8 161 (2 : Int32).toNatClampNeg), .int x1]) (rest := []) (st1 := []) (ci := 7) hC hml hP hS (c_X7_becomes l hC.2.2.2.2.2.1 q11) ⟨by decide, by decide, rfl, rfl⟩ ⟨rfl, rfl⟩ (by decide) rfl (by decide) k_158 rfl rfl ⟨mk_X7_170, mi_X7_becomes⟩ hd_X7_becomes rfl hl.1 (Nat.le_of_ble_eq_true rfl) dX7_rests_54 (fun H locs hP hS => ?_)
      refine lv_aload_n hx hb dX7_rests_57 rfl (lv_at hl 0 rfl) ?_
      refine gf_X7_20 hC hP k_158 (v := .ref (ad 161)) rfl dX7_rests_58 ?_
      refine lv_iconst (v := 1) hx hb dX7_rests_61 (by decide) ?_
      refine pg_iald hC hP k_161 (bin_in (by decide +kernel)) dX7_rests_62 ?_
      exact pg_iret hC hr hlk hP hS hf dX7_rests_63
    · replace hf := ite_f c5 hf
      refine lv_bipush (v := -2) hx hb dX7_rests_26 (by decide) ?_
      exact pg_iret hC hr hlk hP hS hf dX7_rests_28
  · replace hf := ite_t c4 hf
    refine lv_iconst (v := -1) hx hb dX7_rests_10 (by decide) ?_
    exact pg_iret hC hr hlk hP hS hf dX7_rests_11
def P_X7_undo_L22 (N : Nat) : Nat → PSt → Int32 → Option (Int32 × PSt)
  | 0 => fun _ _ => none
  | n + 1 => fun S x1 => if (7 : Int32) ≤ x1 then (some ((gI S 708 158), S)) else (gd (bin (((7 : Int32) * (gI S 708 158)) + x1) (ln 162)) <| gd (bin x1 (ln 161)) <| bnd (sA S 161 x1.toNatClampNeg (gA S 162 (((7 : Int32) * (gI S 708 158)) + x1).toNatClampNeg)) fun S4 => bnd (x1 + (1 : Int32)) fun v5 => P_X7_undo_L22 N n S4 v5)
set_option maxHeartbeats 4000000 in
set_option maxRecDepth 100000 in
theorem w_X7_undo_L22 {N : Nat} {S' : PSt} {r : Int32} (hX : Mx p s m args c meth cX7_undo RX7 2 (some .int) D cy ad tb) : ∀ (n : Nat), ∀ (S : PSt) (x1 : Int32) (H : Heap) (locs : List Loc) (ls : Array Slot), P_X7_undo_L22 N n S x1 = some (r, S') → va_P D vwCl (pW cy ad S) H → va_S (pA ad s.heap.size) s.heap H locs → lv_has ls 2 [(0, .ref (ad 158)), (1, .int x1)] → W p l e (rmd 1) s m args below meth c H locs 0 0 (Qz D cy ad below args s S' (some (.int r))) (F0 m 22 ls []) := by
  have hX0 := hX
  obtain ⟨hC, hml, hr, hlk⟩ := hX0
  have hx := hC.1
  have hb := hC.2.1
  intro n
  induction n with
  | zero => intro S x1 H locs ls hf; exact absurd hf (by intro h; cases h)
  | succ n ih =>
    intro S x1 H locs ls hf  hP hS hl
    rw [P_X7_undo_L22] at hf
    refine lv_iload_n hx hb dX7_undo_22 rfl (lv_at hl 1 rfl) ?_
    refine lv_bipush (v := 7) hx hb dX7_undo_23 (by decide) ?_
    refine lv_icmp_ge (tgt := 54) hx hb dX7_undo_25 (by decide) (fun c1 => ?_) (fun c1 => ?_)
    · replace hf := ite_t c1 hf
      refine lv_aload_n hx hb dX7_undo_54 rfl (lv_at hl 0 rfl) ?_
      refine gf_X7_137 hC hP k_158 (v := .int (gI S 708 158)) rfl dX7_undo_55 ?_
      exact pg_iret hC hr hlk hP hS hf dX7_undo_58
    · replace hf := ite_f c1 hf
      refine lv_aload_n hx hb dX7_undo_28 rfl (lv_at hl 0 rfl) ?_
      refine gf_X7_20 hC hP k_158 (v := .ref (ad 161)) rfl dX7_undo_29 ?_
      refine lv_iload_n hx hb dX7_undo_32 rfl (lv_at hl 1 rfl) ?_
      refine lv_aload_n hx hb dX7_undo_33 rfl (lv_at hl 0 rfl) ?_
      refine gf_X7_23 hC hP k_158 (v := .ref (ad 162)) rfl dX7_undo_34 ?_
      refine lv_bipush (v := 7) hx hb dX7_undo_37 (by decide) ?_
      refine lv_aload_n hx hb dX7_undo_39 rfl (lv_at hl 0 rfl) ?_
      refine gf_X7_137 hC hP k_158 (v := .int (gI S 708 158)) rfl dX7_undo_40 ?_
      refine lv_imul hx hb dX7_undo_43 ?_
      refine lv_iload_n hx hb dX7_undo_44 rfl (lv_at hl 1 rfl) ?_
      refine lv_iadd hx hb dX7_undo_45 ?_
      obtain ⟨h2, hf⟩ := gd_some hf
      refine pg_iald hC hP k_162 (bin_in h2) dX7_undo_46 ?_
      obtain ⟨h3, hf⟩ := gd_some hf
      obtain ⟨S4, eS4, hf⟩ := bnd_some hf
      refine pg_iast hC hP hS k_161 (bin_in h3) dX7_undo_47 (fun H locs hP hS => ?_)
      rw [← eS4] at hP
      obtain ⟨v5, ev5, hf⟩ := bnd_some hf
      refine lv_iinc (v := v5) (lv' := [(1, .int v5), (0, .ref (ad 158))]) hx hb dX7_undo_48 hl (k := 1) rfl (by rw [ev5]; rfl) (by decide) rfl (fun ls hl => ?_)
      refine lv_goto (tgt := 22) hx hb dX7_undo_51 (by decide) ?_
      exact ih _ _ _ _ _ hf  hP hS (lv_sub hl [1, 0] rfl)
def P_X7_undo (N : Nat) (S : PSt) : Option (Int32 × PSt) := if (gI S 708 158) = (0 : Int32) then (some ((-2 : Int32), S)) else (bnd (sI S 708 158 ((gI S 708 158) - (1 : Int32))) fun S7 => P_X7_undo_L22 N N S7 (0 : Int32))
set_option maxHeartbeats 4000000 in
set_option maxRecDepth 100000 in
theorem c_X7_undo (l : Launch) {D : va_G} {cy : Nat → ClassId} {ad tb : Nat → Nat} (hJ : pJ ad) {N : Nat} {S S' : PSt} {r : Int32} (hf : P_X7_undo N S = some (r, S')) : Ct l 1 yX7_undo cX7_undo 2 (some .int) D cy ad tb S S' [.ref (ad 158)] (some (.int r)) := by
  refine Ct_of hJ (by decide) (Nat.le_of_ble_eq_true rfl) (fun p e s m below meth c ls hX hP hS hl => ?_)
  have hl : lv_has ls 2 [(0, .ref (ad 158))] := hl
  have hX0 := hX
  obtain ⟨hC, hml, hr, hlk⟩ := hX0
  have hx := hC.1
  have hb := hC.2.1
  unfold P_X7_undo at hf
  refine lv_aload_n hx hb dX7_undo_0 rfl (lv_at hl 0 rfl) ?_
  refine gf_X7_137 hC hP k_158 (v := .int (gI S 708 158)) rfl dX7_undo_1 ?_
  refine lv_if_ne (tgt := 10) hx hb dX7_undo_4 (by decide) (fun c6 => ?_) (fun c6 => ?_)
  · replace hf := ite_f c6 hf
    refine lv_aload_n hx hb dX7_undo_10 rfl (lv_at hl 0 rfl) ?_
    refine lv_dup hx hb dX7_undo_11 rfl ?_
    refine gf_X7_137 hC hP k_158 (v := .int (gI S 708 158)) rfl dX7_undo_12 ?_
    refine lv_iconst (v := 1) hx hb dX7_undo_15 (by decide) ?_
    refine lv_isub hx hb dX7_undo_16 ?_
    obtain ⟨S7, eS7, hf⟩ := bnd_some hf
    refine pf_X7_137 hC hP hS k_158 eS7 dX7_undo_17 (fun H locs hP hS => ?_)
    refine lv_iconst (v := 0) hx hb dX7_undo_20 (by decide) ?_
    refine lv_istore_n (lv' := [(1, .int (0 : Int32)), (0, .ref (ad 158))]) hx hb dX7_undo_21 rfl hl (by decide) rfl (fun ls hl => ?_)
    exact w_X7_undo_L22 hX _ _ _ _ _ _ hf  hP hS (lv_sub hl [1, 0] rfl)
  · replace hf := ite_t c6 hf
    refine lv_bipush (v := -2) hx hb dX7_undo_7 (by decide) ?_
    exact pg_iret hC hr hlk hP hS hf dX7_undo_9
def P_X7_isFree (N : Nat) (S : PSt) (x1 : Int32) : Option (Int32 × PSt) := if (gI S 705 158) = (0 : Int32) then (some ((1 : Int32), S)) else (gd (nz (gI S 705 158)) <| if ((x1 / (gI S 705 158)) - (x1 / (gI S 705 158)) / (2 : Int32) * (2 : Int32)) = (0 : Int32) then (some ((1 : Int32), S)) else (some ((0 : Int32), S)))
set_option maxHeartbeats 4000000 in
set_option maxRecDepth 100000 in
theorem c_X7_isFree (l : Launch) {D : va_G} {cy : Nat → ClassId} {ad tb : Nat → Nat} (hJ : pJ ad) {N : Nat} {S S' : PSt} {x1 : Int32} {r : Int32} (hf : P_X7_isFree N S x1 = some (r, S')) : Ct l 1 yX7_isFree cX7_isFree 2 (some .boolean) D cy ad tb S S' [.ref (ad 158), .int x1] (some (.int r)) := by
  refine Ct_of hJ (by decide) (Nat.le_of_ble_eq_true rfl) (fun p e s m below meth c ls hX hP hS hl => ?_)
  have hl : lv_has ls 2 [(0, .ref (ad 158)), (1, .int x1)] := hl
  have hX0 := hX
  obtain ⟨hC, hml, hr, hlk⟩ := hX0
  have hx := hC.1
  have hb := hC.2.1
  unfold P_X7_isFree at hf
  refine lv_aload_n hx hb dX7_isFree_0 rfl (lv_at hl 0 rfl) ?_
  refine gf_X7_134 hC hP k_158 (v := .int (gI S 705 158)) rfl dX7_isFree_1 ?_
  refine lv_if_eq (tgt := 18) hx hb dX7_isFree_4 (by decide) (fun c1 => ?_) (fun c1 => ?_)
  · replace hf := ite_t c1 hf
    refine lv_iconst (v := 1) hx hb dX7_isFree_18 (by decide) ?_
    refine lv_goto (tgt := 23) hx hb dX7_isFree_19 (by decide) ?_
    exact pg_zret hC hr hlk hP hS (by decide) hf dX7_isFree_23
  · replace hf := ite_f c1 hf
    refine lv_iload_n hx hb dX7_isFree_7 rfl (lv_at hl 1 rfl) ?_
    refine lv_aload_n hx hb dX7_isFree_8 rfl (lv_at hl 0 rfl) ?_
    refine gf_X7_134 hC hP k_158 (v := .int (gI S 705 158)) rfl dX7_isFree_9 ?_
    obtain ⟨h2, hf⟩ := gd_some hf
    refine lv_idiv hx hb dX7_isFree_12 (nz_ne h2) ?_
    refine lv_iconst (v := 2) hx hb dX7_isFree_13 (by decide) ?_
    refine lv_irem hx hb dX7_isFree_14 (by decide) ?_
    refine lv_if_ne (tgt := 22) hx hb dX7_isFree_15 (by decide) (fun c3 => ?_) (fun c3 => ?_)
    · replace hf := ite_f c3 hf
      refine lv_iconst (v := 0) hx hb dX7_isFree_22 (by decide) ?_
      exact pg_zret hC hr hlk hP hS (by decide) hf dX7_isFree_23
    · replace hf := ite_t c3 hf
      refine lv_iconst (v := 1) hx hb dX7_isFree_18 (by decide) ?_
      refine lv_goto (tgt := 23) hx hb dX7_isFree_19 (by decide) ?_
      exact pg_zret hC hr hlk hP hS (by decide) hf dX7_isFree_23
def P_X7_now_L64 (N : Nat) : Nat → PSt → Int32 → Int32 → Int32 → Int32 → Option (Int32 × PSt)
  | 0 => fun _ _ _ _ _ => none
  | n + 1 => fun S x1 x2 x3 x4 => if (gI S 702 158) ≤ x4 then (if x1 = (0 : Int32) then (gd (bin x1 (ln 161)) <| some ((gA S 161 x1.toNatClampNeg), S)) else (if x1 = (1 : Int32) then (gd (bin x1 (ln 161)) <| some ((gA S 161 x1.toNatClampNeg), S)) else (if x1 = (2 : Int32) then (gd (bin x1 (ln 161)) <| some ((gA S 161 x1.toNatClampNeg), S)) else (if x1 = (3 : Int32) then (some (x2, S)) else (if x1 = (4 : Int32) then (cal2 (P_X7_isFree N S (gA S 161 (1 : Int32).toNatClampNeg)) fun r12 S10 => if r12 = (0 : Int32) then (some ((0 : Int32), S10)) else (some ((1 : Int32), S10))) else (if x1 = (5 : Int32) then (some (x3, S)) else (if x1 = (6 : Int32) then (if (gA S 161 (0 : Int32).toNatClampNeg) = (gI S 702 158) then (some ((1 : Int32), S)) else (some ((0 : Int32), S))) else (some ((-1 : Int32), S))))))))) else (gd (bin ((4 : Int32) * x4) (ln 160)) <| bnd (x3 + (gA S 160 ((4 : Int32) * x4).toNatClampNeg)) fun v18 => bnd (x4 + (1 : Int32)) fun v19 => P_X7_now_L64 N n S x1 x2 v18 v19)
set_option maxHeartbeats 4000000 in
set_option maxRecDepth 100000 in
theorem w_X7_now_L64 {N : Nat} {S' : PSt} {r : Int32} (hX : Mx p s m args c meth cX7_now RX7 5 (some .int) D cy ad tb) : ∀ (n : Nat), ∀ (S : PSt) (x1 : Int32) (x2 : Int32) (x3 : Int32) (x4 : Int32) (H : Heap) (locs : List Loc) (ls : Array Slot), P_X7_now_L64 N n S x1 x2 x3 x4 = some (r, S') → va_P D vwCl (pW cy ad S) H → va_S (pA ad s.heap.size) s.heap H locs → lv_has ls 5 [(0, .ref (ad 158)), (1, .int x1), (2, .int x2), (3, .int x3), (4, .int x4)] → W p l e (rmd 2) s m args below meth c H locs 0 0 (Qz D cy ad below args s S' (some (.int r))) (F0 m 64 ls []) := by
  have hX0 := hX
  obtain ⟨hC, hml, hr, hlk⟩ := hX0
  have hx := hC.1
  have hb := hC.2.1
  intro n
  induction n with
  | zero => intro S x1 x2 x3 x4 H locs ls hf; exact absurd hf (by intro h; cases h)
  | succ n ih =>
    intro S x1 x2 x3 x4 H locs ls hf  hP hS hl
    rw [P_X7_now_L64] at hf
    refine lv_iload hx hb dX7_now_64 (lv_at hl 4 rfl) ?_
    refine lv_aload_n hx hb dX7_now_66 rfl (lv_at hl 0 rfl) ?_
    refine gf_X7_76 hC hP k_158 (v := .int (gI S 702 158)) rfl dX7_now_67 ?_
    refine lv_icmp_ge (tgt := 91) hx hb dX7_now_70 (by decide) (fun c1 => ?_) (fun c1 => ?_)
    · replace hf := ite_t c1 hf
      refine lv_iload_n hx hb dX7_now_91 rfl (lv_at hl 1 rfl) ?_
      by_cases c2 : x1 = (0 : Int32)
      · replace hf := ite_t c2 hf
        refine lv_tableIn (off := 44) (tgt := 136) hx hb dX7_now_92 (by rw [c2]; decide) (by rw [c2]; decide) (by rw [c2]; decide) (by decide) ?_
        refine lv_aload_n hx hb dX7_now_136 rfl (lv_at hl 0 rfl) ?_
        refine gf_X7_20 hC hP k_158 (v := .ref (ad 161)) rfl dX7_now_137 ?_
        refine lv_iload_n hx hb dX7_now_140 rfl (lv_at hl 1 rfl) ?_
        obtain ⟨h3, hf⟩ := gd_some hf
        refine pg_iald hC hP k_161 (bin_in h3) dX7_now_141 ?_
        exact pg_iret hC hr hlk hP hS hf dX7_now_142
      · replace hf := ite_f c2 hf
        by_cases c4 : x1 = (1 : Int32)
        · replace hf := ite_t c4 hf
          refine lv_tableIn (off := 44) (tgt := 136) hx hb dX7_now_92 (by rw [c4]; decide) (by rw [c4]; decide) (by rw [c4]; decide) (by decide) ?_
          refine lv_aload_n hx hb dX7_now_136 rfl (lv_at hl 0 rfl) ?_
          refine gf_X7_20 hC hP k_158 (v := .ref (ad 161)) rfl dX7_now_137 ?_
          refine lv_iload_n hx hb dX7_now_140 rfl (lv_at hl 1 rfl) ?_
          obtain ⟨h5, hf⟩ := gd_some hf
          refine pg_iald hC hP k_161 (bin_in h5) dX7_now_141 ?_
          exact pg_iret hC hr hlk hP hS hf dX7_now_142
        · replace hf := ite_f c4 hf
          by_cases c6 : x1 = (2 : Int32)
          · replace hf := ite_t c6 hf
            refine lv_tableIn (off := 44) (tgt := 136) hx hb dX7_now_92 (by rw [c6]; decide) (by rw [c6]; decide) (by rw [c6]; decide) (by decide) ?_
            refine lv_aload_n hx hb dX7_now_136 rfl (lv_at hl 0 rfl) ?_
            refine gf_X7_20 hC hP k_158 (v := .ref (ad 161)) rfl dX7_now_137 ?_
            refine lv_iload_n hx hb dX7_now_140 rfl (lv_at hl 1 rfl) ?_
            obtain ⟨h7, hf⟩ := gd_some hf
            refine pg_iald hC hP k_161 (bin_in h7) dX7_now_141 ?_
            exact pg_iret hC hr hlk hP hS hf dX7_now_142
          · replace hf := ite_f c6 hf
            by_cases c8 : x1 = (3 : Int32)
            · replace hf := ite_t c8 hf
              refine lv_tableIn (off := 51) (tgt := 143) hx hb dX7_now_92 (by rw [c8]; decide) (by rw [c8]; decide) (by rw [c8]; decide) (by decide) ?_
              refine lv_iload_n hx hb dX7_now_143 rfl (lv_at hl 2 rfl) ?_
              exact pg_iret hC hr hlk hP hS hf dX7_now_144
            · replace hf := ite_f c8 hf
              by_cases c9 : x1 = (4 : Int32)
              · replace hf := ite_t c9 hf
                refine lv_tableIn (off := 53) (tgt := 145) hx hb dX7_now_92 (by rw [c9]; decide) (by rw [c9]; decide) (by rw [c9]; decide) (by decide) ?_
                refine lv_aload_n hx hb dX7_now_145 rfl (lv_at hl 0 rfl) ?_
                refine lv_aload_n hx hb dX7_now_146 rfl (lv_at hl 0 rfl) ?_
                refine gf_X7_20 hC hP k_158 (v := .ref (ad 161)) rfl dX7_now_147 ?_
                refine lv_iconst (v := 1) hx hb dX7_now_150 (by decide) ?_
                refine pg_iald hC hP k_161 (bin_in (by decide +kernel)) dX7_now_151 ?_
                obtain ⟨r12, S10, q11, hf⟩ := cal2_some hf
                refine pg_callV (As := [.int (gA S 161 (1 : Int32).toNatClampNeg)]) (rest := []) (st1 := [.int r12]) (ci := 7) hC hml hP hS (c_X7_isFree l hC.2.2.2.2.2.1 q11) ⟨by decide, by decide, rfl, rfl⟩ ⟨rfl, rfl⟩ (by decide) rfl (by decide) k_158 rfl rfl ⟨mk_X7_173, mi_X7_isFree⟩ hd_X7_isFree rfl hl.1 (Nat.le_of_ble_eq_true rfl) dX7_now_152 (fun H locs hP hS => ?_)
                refine lv_if_eq (tgt := 162) hx hb dX7_now_155 (by decide) (fun c13 => ?_) (fun c13 => ?_)
                · replace hf := ite_t c13 hf
                  refine lv_iconst (v := 0) hx hb dX7_now_162 (by decide) ?_
                  exact pg_iret hC hr hlk hP hS hf dX7_now_163
                · replace hf := ite_f c13 hf
                  refine lv_iconst (v := 1) hx hb dX7_now_158 (by decide) ?_
                  refine lv_goto (tgt := 163) hx hb dX7_now_159 (by decide) ?_
                  exact pg_iret hC hr hlk hP hS hf dX7_now_163
              · replace hf := ite_f c9 hf
                by_cases c14 : x1 = (5 : Int32)
                · replace hf := ite_t c14 hf
                  refine lv_tableIn (off := 72) (tgt := 164) hx hb dX7_now_92 (by rw [c14]; decide) (by rw [c14]; decide) (by rw [c14]; decide) (by decide) ?_
                  refine lv_iload_n hx hb dX7_now_164 rfl (lv_at hl 3 rfl) ?_
                  exact pg_iret hC hr hlk hP hS hf dX7_now_165
                · replace hf := ite_f c14 hf
                  by_cases c15 : x1 = (6 : Int32)
                  · replace hf := ite_t c15 hf
                    refine lv_tableIn (off := 74) (tgt := 166) hx hb dX7_now_92 (by rw [c15]; decide) (by rw [c15]; decide) (by rw [c15]; decide) (by decide) ?_
                    refine lv_aload_n hx hb dX7_now_166 rfl (lv_at hl 0 rfl) ?_
                    refine gf_X7_20 hC hP k_158 (v := .ref (ad 161)) rfl dX7_now_167 ?_
                    refine lv_iconst (v := 0) hx hb dX7_now_170 (by decide) ?_
                    refine pg_iald hC hP k_161 (bin_in (by decide +kernel)) dX7_now_171 ?_
                    refine lv_aload_n hx hb dX7_now_172 rfl (lv_at hl 0 rfl) ?_
                    refine gf_X7_76 hC hP k_158 (v := .int (gI S 702 158)) rfl dX7_now_173 ?_
                    refine lv_icmp_ne (tgt := 183) hx hb dX7_now_176 (by decide) (fun c16 => ?_) (fun c16 => ?_)
                    · replace hf := ite_f c16 hf
                      refine lv_iconst (v := 0) hx hb dX7_now_183 (by decide) ?_
                      exact pg_iret hC hr hlk hP hS hf dX7_now_184
                    · replace hf := ite_t c16 hf
                      refine lv_iconst (v := 1) hx hb dX7_now_179 (by decide) ?_
                      refine lv_goto (tgt := 184) hx hb dX7_now_180 (by decide) ?_
                      exact pg_iret hC hr hlk hP hS hf dX7_now_184
                  · replace hf := ite_f c15 hf
                    refine lv_tableOut (tgt := 185) hx hb dX7_now_92 (sw_out 0 6 (fun k h1 h2 hk => by
                      rcases (show k = 0 ∨ k = 1 ∨ k = 2 ∨ k = 3 ∨ k = 4 ∨ k = 5 ∨ k = 6 by omega) with h | h | h | h | h | h | h
                      · subst h; exact c2 (hk.trans (by decide))
                      · subst h; exact c4 (hk.trans (by decide))
                      · subst h; exact c6 (hk.trans (by decide))
                      · subst h; exact c8 (hk.trans (by decide))
                      · subst h; exact c9 (hk.trans (by decide))
                      · subst h; exact c14 (hk.trans (by decide))
                      · subst h; exact c15 (hk.trans (by decide)))) (by decide) ?_
                    refine lv_iconst (v := -1) hx hb dX7_now_185 (by decide) ?_
                    exact pg_iret hC hr hlk hP hS hf dX7_now_186
    · replace hf := ite_f c1 hf
      refine lv_iload_n hx hb dX7_now_73 rfl (lv_at hl 3 rfl) ?_
      refine lv_aload_n hx hb dX7_now_74 rfl (lv_at hl 0 rfl) ?_
      refine gf_X7_13 hC hP k_158 (v := .ref (ad 160)) rfl dX7_now_75 ?_
      refine lv_iconst (v := 4) hx hb dX7_now_78 (by decide) ?_
      refine lv_iload hx hb dX7_now_79 (lv_at hl 4 rfl) ?_
      refine lv_imul hx hb dX7_now_81 ?_
      obtain ⟨h17, hf⟩ := gd_some hf
      refine pg_iald hC hP k_160 (bin_in h17) dX7_now_82 ?_
      refine lv_iadd hx hb dX7_now_83 ?_
      obtain ⟨v18, ev18, hf⟩ := bnd_some hf
      refine pg_top ev18 ?_
      refine lv_istore_n (lv' := [(3, .int v18), (0, .ref (ad 158)), (1, .int x1), (2, .int x2), (4, .int x4)]) hx hb dX7_now_84 rfl hl (by decide) rfl (fun ls hl => ?_)
      obtain ⟨v19, ev19, hf⟩ := bnd_some hf
      refine lv_iinc (v := v19) (lv' := [(4, .int v19), (3, .int v18), (0, .ref (ad 158)), (1, .int x1), (2, .int x2)]) hx hb dX7_now_85 hl (k := 4) rfl (by rw [ev19]; rfl) (by decide) rfl (fun ls hl => ?_)
      refine lv_goto (tgt := 64) hx hb dX7_now_88 (by decide) ?_
      exact ih _ _ _ _ _ _ _ _ hf  hP hS (lv_sub hl [2, 3, 4, 1, 0] rfl)
def P_X7_now_L7 (N : Nat) : Nat → PSt → Int32 → Int32 → Int32 → Int32 → Option (Int32 × PSt)
  | 0 => fun _ _ _ _ _ => none
  | n + 1 => fun S x1 x2 x3 x4 => if (gI S 700 158) ≤ x4 then (bnd (gA S 161 (0 : Int32).toNatClampNeg) fun v21 => P_X7_now_L64 N N S x1 x2 x3 v21) else (gd (bin ((3 : Int32) + x4) (ln 161)) <| gd (bin (((2 : Int32) * x4) + (1 : Int32)) (ln 159)) <| if (gA S 161 ((3 : Int32) + x4).toNatClampNeg) ≤ (gA S 159 (((2 : Int32) * x4) + (1 : Int32)).toNatClampNeg) then (bnd (x2 ||| (0 : Int32)) fun v25 => bnd (x4 + (1 : Int32)) fun v26 => P_X7_now_L7 N n S x1 v25 x3 v26) else (bnd (x2 ||| ((1 : Int32) <<< (x4 &&& 31))) fun v27 => bnd (x4 + (1 : Int32)) fun v28 => P_X7_now_L7 N n S x1 v27 x3 v28))
set_option maxHeartbeats 4000000 in
set_option maxRecDepth 100000 in
theorem w_X7_now_L7 {N : Nat} {S' : PSt} {r : Int32} (hX : Mx p s m args c meth cX7_now RX7 5 (some .int) D cy ad tb) : ∀ (n : Nat), ∀ (S : PSt) (x1 : Int32) (x2 : Int32) (x3 : Int32) (x4 : Int32) (H : Heap) (locs : List Loc) (ls : Array Slot), P_X7_now_L7 N n S x1 x2 x3 x4 = some (r, S') → va_P D vwCl (pW cy ad S) H → va_S (pA ad s.heap.size) s.heap H locs → lv_has ls 5 [(0, .ref (ad 158)), (1, .int x1), (2, .int x2), (3, .int x3), (4, .int x4)] → W p l e (rmd 2) s m args below meth c H locs 0 0 (Qz D cy ad below args s S' (some (.int r))) (F0 m 7 ls []) := by
  have hX0 := hX
  obtain ⟨hC, hml, hr, hlk⟩ := hX0
  have hx := hC.1
  have hb := hC.2.1
  intro n
  induction n with
  | zero => intro S x1 x2 x3 x4 H locs ls hf; exact absurd hf (by intro h; cases h)
  | succ n ih =>
    intro S x1 x2 x3 x4 H locs ls hf  hP hS hl
    rw [P_X7_now_L7] at hf
    refine lv_iload hx hb dX7_now_7 (lv_at hl 4 rfl) ?_
    refine lv_aload_n hx hb dX7_now_9 rfl (lv_at hl 0 rfl) ?_
    refine gf_X7_69 hC hP k_158 (v := .int (gI S 700 158)) rfl dX7_now_10 ?_
    refine lv_icmp_ge (tgt := 56) hx hb dX7_now_13 (by decide) (fun c20 => ?_) (fun c20 => ?_)
    · replace hf := ite_t c20 hf
      refine lv_aload_n hx hb dX7_now_56 rfl (lv_at hl 0 rfl) ?_
      refine gf_X7_20 hC hP k_158 (v := .ref (ad 161)) rfl dX7_now_57 ?_
      refine lv_iconst (v := 0) hx hb dX7_now_60 (by decide) ?_
      refine pg_iald hC hP k_161 (bin_in (by decide +kernel)) dX7_now_61 ?_
      obtain ⟨v21, ev21, hf⟩ := bnd_some hf
      refine pg_top ev21 ?_
      refine lv_istore (lv' := [(4, .int v21), (0, .ref (ad 158)), (1, .int x1), (2, .int x2), (3, .int x3)]) hx hb dX7_now_62 hl (by decide) rfl (fun ls hl => ?_)
      exact w_X7_now_L64 hX _ _ _ _ _ _ _ _ _ hf  hP hS (lv_sub hl [1, 2, 3, 4, 0] rfl)
    · replace hf := ite_f c20 hf
      refine lv_iload_n hx hb dX7_now_16 rfl (lv_at hl 2 rfl) ?_
      refine lv_aload_n hx hb dX7_now_17 rfl (lv_at hl 0 rfl) ?_
      refine gf_X7_20 hC hP k_158 (v := .ref (ad 161)) rfl dX7_now_18 ?_
      refine lv_iconst (v := 3) hx hb dX7_now_21 (by decide) ?_
      refine lv_iload hx hb dX7_now_22 (lv_at hl 4 rfl) ?_
      refine lv_iadd hx hb dX7_now_24 ?_
      obtain ⟨h22, hf⟩ := gd_some hf
      refine pg_iald hC hP k_161 (bin_in h22) dX7_now_25 ?_
      refine lv_aload_n hx hb dX7_now_26 rfl (lv_at hl 0 rfl) ?_
      refine gf_X7_7 hC hP k_158 (v := .ref (ad 159)) rfl dX7_now_27 ?_
      refine lv_iconst (v := 2) hx hb dX7_now_30 (by decide) ?_
      refine lv_iload hx hb dX7_now_31 (lv_at hl 4 rfl) ?_
      refine lv_imul hx hb dX7_now_33 ?_
      refine lv_iconst (v := 1) hx hb dX7_now_34 (by decide) ?_
      refine lv_iadd hx hb dX7_now_35 ?_
      obtain ⟨h23, hf⟩ := gd_some hf
      refine pg_iald hC hP k_159 (bin_in h23) dX7_now_36 ?_
      refine lv_icmp_le (tgt := 47) hx hb dX7_now_37 (by decide) (fun c24 => ?_) (fun c24 => ?_)
      · replace hf := ite_t c24 hf
        refine lv_iconst (v := 0) hx hb dX7_now_47 (by decide) ?_
        refine lv_ior hx hb dX7_now_48 ?_
        obtain ⟨v25, ev25, hf⟩ := bnd_some hf
        refine pg_top ev25 ?_
        refine lv_istore_n (lv' := [(2, .int v25), (0, .ref (ad 158)), (1, .int x1), (3, .int x3), (4, .int x4)]) hx hb dX7_now_49 rfl hl (by decide) rfl (fun ls hl => ?_)
        obtain ⟨v26, ev26, hf⟩ := bnd_some hf
        refine lv_iinc (v := v26) (lv' := [(4, .int v26), (2, .int v25), (0, .ref (ad 158)), (1, .int x1), (3, .int x3)]) hx hb dX7_now_50 hl (k := 4) rfl (by rw [ev26]; rfl) (by decide) rfl (fun ls hl => ?_)
        refine lv_goto (tgt := 7) hx hb dX7_now_53 (by decide) ?_
        exact ih _ _ _ _ _ _ _ _ hf  hP hS (lv_sub hl [2, 3, 1, 4, 0] rfl)
      · replace hf := ite_f c24 hf
        refine lv_iconst (v := 1) hx hb dX7_now_40 (by decide) ?_
        refine lv_iload hx hb dX7_now_41 (lv_at hl 4 rfl) ?_
        refine lv_ishl hx hb dX7_now_43 ?_
        refine lv_goto (tgt := 48) hx hb dX7_now_44 (by decide) ?_
        refine lv_ior hx hb dX7_now_48 ?_
        obtain ⟨v27, ev27, hf⟩ := bnd_some hf
        refine pg_top ev27 ?_
        refine lv_istore_n (lv' := [(2, .int v27), (0, .ref (ad 158)), (1, .int x1), (3, .int x3), (4, .int x4)]) hx hb dX7_now_49 rfl hl (by decide) rfl (fun ls hl => ?_)
        obtain ⟨v28, ev28, hf⟩ := bnd_some hf
        refine lv_iinc (v := v28) (lv' := [(4, .int v28), (2, .int v27), (0, .ref (ad 158)), (1, .int x1), (3, .int x3)]) hx hb dX7_now_50 hl (k := 4) rfl (by rw [ev28]; rfl) (by decide) rfl (fun ls hl => ?_)
        refine lv_goto (tgt := 7) hx hb dX7_now_53 (by decide) ?_
        exact ih _ _ _ _ _ _ _ _ hf  hP hS (lv_sub hl [2, 3, 1, 4, 0] rfl)
def P_X7_now (N : Nat) (S : PSt) (x1 : Int32) : Option (Int32 × PSt) := P_X7_now_L7 N N S x1 (0 : Int32) (0 : Int32) (0 : Int32)
set_option maxHeartbeats 4000000 in
set_option maxRecDepth 100000 in
theorem c_X7_now (l : Launch) {D : va_G} {cy : Nat → ClassId} {ad tb : Nat → Nat} (hJ : pJ ad) {N : Nat} {S S' : PSt} {x1 : Int32} {r : Int32} (hf : P_X7_now N S x1 = some (r, S')) : Ct l 2 yX7_now cX7_now 5 (some .int) D cy ad tb S S' [.ref (ad 158), .int x1] (some (.int r)) := by
  refine Ct_of hJ (by decide) (Nat.le_of_ble_eq_true rfl) (fun p e s m below meth c ls hX hP hS hl => ?_)
  have hl : lv_has ls 5 [(0, .ref (ad 158)), (1, .int x1)] := hl
  have hX0 := hX
  obtain ⟨hC, hml, hr, hlk⟩ := hX0
  have hx := hC.1
  have hb := hC.2.1
  unfold P_X7_now at hf
  refine lv_iconst (v := 0) hx hb dX7_now_0 (by decide) ?_
  refine lv_istore_n (lv' := [(2, .int (0 : Int32)), (0, .ref (ad 158)), (1, .int x1)]) hx hb dX7_now_1 rfl hl (by decide) rfl (fun ls hl => ?_)
  refine lv_iconst (v := 0) hx hb dX7_now_2 (by decide) ?_
  refine lv_istore_n (lv' := [(3, .int (0 : Int32)), (2, .int (0 : Int32)), (0, .ref (ad 158)), (1, .int x1)]) hx hb dX7_now_3 rfl hl (by decide) rfl (fun ls hl => ?_)
  refine lv_iconst (v := 0) hx hb dX7_now_4 (by decide) ?_
  refine lv_istore (lv' := [(4, .int (0 : Int32)), (3, .int (0 : Int32)), (2, .int (0 : Int32)), (0, .ref (ad 158)), (1, .int x1)]) hx hb dX7_now_5 hl (by decide) rfl (fun ls hl => ?_)
  exact w_X7_now_L7 hX _ _ _ _ _ _ _ _ _ hf  hP hS (lv_sub hl [3, 4, 2, 1, 0] rfl)
def P_X7_pairBy_L4 (N : Nat) : Nat → PSt → Int32 → Int32 → Option (Int32 × PSt)
  | 0 => fun _ _ _ => none
  | n + 1 => fun S x2 x3 => if (gI S 700 158) ≤ x3 then (some ((-1 : Int32), S)) else (bnd (((gI S 700 158) - (1 : Int32)) - x3) fun v2 => if v2 ≤ x2 then (bnd (x2 - v2) fun v4 => bnd (x3 + (1 : Int32)) fun v5 => P_X7_pairBy_L4 N n S v4 v5) else (some ((((((10 : Int32) * x3) + x3) + (1 : Int32)) + x2), S)))
set_option maxHeartbeats 4000000 in
set_option maxRecDepth 100000 in
theorem w_X7_pairBy_L4 {N : Nat} {S' : PSt} {r : Int32} (hX : Mx p s m args c meth cX7_pairBy RX7 5 (some .int) D cy ad tb) : ∀ (n : Nat), ∀ (S : PSt) (x2 : Int32) (x3 : Int32) (H : Heap) (locs : List Loc) (ls : Array Slot), P_X7_pairBy_L4 N n S x2 x3 = some (r, S') → va_P D vwCl (pW cy ad S) H → va_S (pA ad s.heap.size) s.heap H locs → lv_has ls 5 [(0, .ref (ad 158)), (2, .int x2), (3, .int x3)] → W p l e (rmd 1) s m args below meth c H locs 0 0 (Qz D cy ad below args s S' (some (.int r))) (F0 m 4 ls []) := by
  have hX0 := hX
  obtain ⟨hC, hml, hr, hlk⟩ := hX0
  have hx := hC.1
  have hb := hC.2.1
  intro n
  induction n with
  | zero => intro S x2 x3 H locs ls hf; exact absurd hf (by intro h; cases h)
  | succ n ih =>
    intro S x2 x3 H locs ls hf  hP hS hl
    rw [P_X7_pairBy_L4] at hf
    refine lv_iload_n hx hb dX7_pairBy_4 rfl (lv_at hl 2 rfl) ?_
    refine lv_aload_n hx hb dX7_pairBy_5 rfl (lv_at hl 0 rfl) ?_
    refine gf_X7_69 hC hP k_158 (v := .int (gI S 700 158)) rfl dX7_pairBy_6 ?_
    refine lv_icmp_ge (tgt := 50) hx hb dX7_pairBy_9 (by decide) (fun c1 => ?_) (fun c1 => ?_)
    · replace hf := ite_t c1 hf
      refine lv_iconst (v := -1) hx hb dX7_pairBy_50 (by decide) ?_
      exact pg_iret hC hr hlk hP hS hf dX7_pairBy_51
    · replace hf := ite_f c1 hf
      refine lv_aload_n hx hb dX7_pairBy_12 rfl (lv_at hl 0 rfl) ?_
      refine gf_X7_69 hC hP k_158 (v := .int (gI S 700 158)) rfl dX7_pairBy_13 ?_
      refine lv_iconst (v := 1) hx hb dX7_pairBy_16 (by decide) ?_
      refine lv_isub hx hb dX7_pairBy_17 ?_
      refine lv_iload_n hx hb dX7_pairBy_18 rfl (lv_at hl 2 rfl) ?_
      refine lv_isub hx hb dX7_pairBy_19 ?_
      obtain ⟨v2, ev2, hf⟩ := bnd_some hf
      refine pg_top ev2 ?_
      refine lv_istore (lv' := [(4, .int v2), (0, .ref (ad 158)), (2, .int x2), (3, .int x3)]) hx hb dX7_pairBy_20 hl (by decide) rfl (fun ls hl => ?_)
      refine lv_iload_n hx hb dX7_pairBy_22 rfl (lv_at hl 2 rfl) ?_
      refine lv_iload hx hb dX7_pairBy_23 (lv_at hl 0 rfl) ?_
      refine lv_icmp_ge (tgt := 39) hx hb dX7_pairBy_25 (by decide) (fun c3 => ?_) (fun c3 => ?_)
      · replace hf := ite_t c3 hf
        refine lv_iload_n hx hb dX7_pairBy_39 rfl (lv_at hl 2 rfl) ?_
        refine lv_iload hx hb dX7_pairBy_40 (lv_at hl 0 rfl) ?_
        refine lv_isub hx hb dX7_pairBy_42 ?_
        obtain ⟨v4, ev4, hf⟩ := bnd_some hf
        refine pg_top ev4 ?_
        refine lv_istore_n (lv' := [(2, .int v4), (4, .int v2), (0, .ref (ad 158)), (3, .int x3)]) hx hb dX7_pairBy_43 rfl hl (by decide) rfl (fun ls hl => ?_)
        obtain ⟨v5, ev5, hf⟩ := bnd_some hf
        refine lv_iinc (v := v5) (lv' := [(3, .int v5), (2, .int v4), (4, .int v2), (0, .ref (ad 158))]) hx hb dX7_pairBy_44 hl (k := 3) rfl (by rw [ev5]; rfl) (by decide) rfl (fun ls hl => ?_)
        refine lv_goto (tgt := 4) hx hb dX7_pairBy_47 (by decide) ?_
        exact ih _ _ _ _ _ _ hf  hP hS (lv_sub hl [3, 1, 0] rfl)
      · replace hf := ite_f c3 hf
        refine lv_bipush (v := 10) hx hb dX7_pairBy_28 (by decide) ?_
        refine lv_iload_n hx hb dX7_pairBy_30 rfl (lv_at hl 3 rfl) ?_
        refine lv_imul hx hb dX7_pairBy_31 ?_
        refine lv_iload_n hx hb dX7_pairBy_32 rfl (lv_at hl 3 rfl) ?_
        refine lv_iadd hx hb dX7_pairBy_33 ?_
        refine lv_iconst (v := 1) hx hb dX7_pairBy_34 (by decide) ?_
        refine lv_iadd hx hb dX7_pairBy_35 ?_
        refine lv_iload_n hx hb dX7_pairBy_36 rfl (lv_at hl 2 rfl) ?_
        refine lv_iadd hx hb dX7_pairBy_37 ?_
        exact pg_iret hC hr hlk hP hS hf dX7_pairBy_38
def P_X7_pairBy (N : Nat) (S : PSt) (x1 : Int32) : Option (Int32 × PSt) := P_X7_pairBy_L4 N N S x1 (0 : Int32)
set_option maxHeartbeats 4000000 in
set_option maxRecDepth 100000 in
theorem c_X7_pairBy (l : Launch) {D : va_G} {cy : Nat → ClassId} {ad tb : Nat → Nat} (hJ : pJ ad) {N : Nat} {S S' : PSt} {x1 : Int32} {r : Int32} (hf : P_X7_pairBy N S x1 = some (r, S')) : Ct l 1 yX7_pairBy cX7_pairBy 5 (some .int) D cy ad tb S S' [.ref (ad 158), .int x1] (some (.int r)) := by
  refine Ct_of hJ (by decide) (Nat.le_of_ble_eq_true rfl) (fun p e s m below meth c ls hX hP hS hl => ?_)
  have hl : lv_has ls 5 [(0, .ref (ad 158)), (1, .int x1)] := hl
  have hX0 := hX
  obtain ⟨hC, hml, hr, hlk⟩ := hX0
  have hx := hC.1
  have hb := hC.2.1
  unfold P_X7_pairBy at hf
  refine lv_iload_n hx hb dX7_pairBy_0 rfl (lv_at hl 1 rfl) ?_
  refine lv_istore_n (lv' := [(2, .int x1), (0, .ref (ad 158)), (1, .int x1)]) hx hb dX7_pairBy_1 rfl hl (by decide) rfl (fun ls hl => ?_)
  refine lv_iconst (v := 0) hx hb dX7_pairBy_2 (by decide) ?_
  refine lv_istore_n (lv' := [(3, .int (0 : Int32)), (2, .int x1), (0, .ref (ad 158)), (1, .int x1)]) hx hb dX7_pairBy_3 rfl hl (by decide) rfl (fun ls hl => ?_)
  exact w_X7_pairBy_L4 hX _ _ _ _ _ _ _ hf  hP hS (lv_sub hl [2, 1, 0] rfl)
def P_X7_isAsSeen_L46 (k5 : PSt → Int32 → Int32 → Int32 → Int32 → Option (Int32 × PSt)) (N : Nat) (S : PSt) (x1 : Int32) (x2 : Int32) (x4 : Int32) : Option (Int32 × PSt) := bnd (x4 + (1 : Int32)) fun v1 => k5 S x1 x2 (1 : Int32) v1
set_option maxHeartbeats 4000000 in
set_option maxRecDepth 100000 in
theorem w_X7_isAsSeen_L46 {N : Nat} {S' : PSt} {r : Int32} (hX : Mx p s m args c meth cX7_isAsSeen RX7 5 (some .boolean) D cy ad tb) {k5 : PSt → Int32 → Int32 → Int32 → Int32 → Option (Int32 × PSt)} (hk5 : ∀ (S : PSt) (x1 : Int32) (x2 : Int32) (x3 : Int32) (x4 : Int32) (H : Heap) (locs : List Loc) (ls : Array Slot), k5 S x1 x2 x3 x4 = some (r, S') → va_P D vwCl (pW cy ad S) H → va_S (pA ad s.heap.size) s.heap H locs → lv_has ls 5 [(0, .ref (ad 158)), (1, .int x1), (2, .int x2), (3, .int x3), (4, .int x4)] → W p l e (rmd 1) s m args below meth c H locs 0 0 (Qz D cy ad below args s S' (some (.int r))) (F0 m 5 ls [])) : ∀ (S : PSt) (x1 : Int32) (x2 : Int32) (x4 : Int32) (H : Heap) (locs : List Loc) (ls : Array Slot), P_X7_isAsSeen_L46 k5 N S x1 x2 x4 = some (r, S') → va_P D vwCl (pW cy ad S) H → va_S (pA ad s.heap.size) s.heap H locs → lv_has ls 5 [(0, .ref (ad 158)), (1, .int x1), (2, .int x2), (4, .int x4)] → W p l e (rmd 1) s m args below meth c H locs 0 0 (Qz D cy ad below args s S' (some (.int r))) (F0 m 46 ls []) := by
  have hX0 := hX
  obtain ⟨hC, hml, hr, hlk⟩ := hX0
  have hx := hC.1
  have hb := hC.2.1
  intro S x1 x2 x4 H locs ls hf  hP hS hl
  unfold P_X7_isAsSeen_L46 at hf
  refine lv_iconst (v := 1) hx hb dX7_isAsSeen_46 (by decide) ?_
  refine lv_goto (tgt := 51) hx hb dX7_isAsSeen_47 (by decide) ?_
  refine lv_istore_n (lv' := [(3, .int (1 : Int32)), (0, .ref (ad 158)), (1, .int x1), (2, .int x2), (4, .int x4)]) hx hb dX7_isAsSeen_51 rfl hl (by decide) rfl (fun ls hl => ?_)
  obtain ⟨v1, ev1, hf⟩ := bnd_some hf
  refine lv_iinc (v := v1) (lv' := [(4, .int v1), (3, .int (1 : Int32)), (0, .ref (ad 158)), (1, .int x1), (2, .int x2)]) hx hb dX7_isAsSeen_52 hl (k := 4) rfl (by rw [ev1]; rfl) (by decide) rfl (fun ls hl => ?_)
  refine lv_goto (tgt := 5) hx hb dX7_isAsSeen_55 (by decide) ?_
  exact hk5 _ _ _ _ _ _ _ _ hf  hP hS (lv_sub hl [2, 3, 4, 1, 0] rfl)
def P_X7_isAsSeen_L5 (N : Nat) : Nat → PSt → Int32 → Int32 → Int32 → Int32 → Option (Int32 × PSt)
  | 0 => fun _ _ _ _ _ => none
  | n + 1 => fun S x1 x2 x3 x4 => if (gI S 711 158) ≤ x4 then (gd (z1 x3) <| some (x3, S)) else (if x3 = (0 : Int32) then (bnd (x4 + (1 : Int32)) fun v5 => P_X7_isAsSeen_L5 N n S x1 x2 (0 : Int32) v5) else (gd (bin ((2 : Int32) * x4) (ln 165)) <| if (gA S 165 ((2 : Int32) * x4).toNatClampNeg) = x1 then (gd (bin (((2 : Int32) * x4) + (1 : Int32)) (ln 165)) <| if (gA S 165 (((2 : Int32) * x4) + (1 : Int32)).toNatClampNeg) = x2 then (P_X7_isAsSeen_L46 (P_X7_isAsSeen_L5 N n) N S x1 x2 x4) else (bnd (x4 + (1 : Int32)) fun v10 => P_X7_isAsSeen_L5 N n S x1 x2 (0 : Int32) v10)) else (P_X7_isAsSeen_L46 (P_X7_isAsSeen_L5 N n) N S x1 x2 x4)))
set_option maxHeartbeats 4000000 in
set_option maxRecDepth 100000 in
theorem w_X7_isAsSeen_L5 {N : Nat} {S' : PSt} {r : Int32} (hX : Mx p s m args c meth cX7_isAsSeen RX7 5 (some .boolean) D cy ad tb) : ∀ (n : Nat), ∀ (S : PSt) (x1 : Int32) (x2 : Int32) (x3 : Int32) (x4 : Int32) (H : Heap) (locs : List Loc) (ls : Array Slot), P_X7_isAsSeen_L5 N n S x1 x2 x3 x4 = some (r, S') → va_P D vwCl (pW cy ad S) H → va_S (pA ad s.heap.size) s.heap H locs → lv_has ls 5 [(0, .ref (ad 158)), (1, .int x1), (2, .int x2), (3, .int x3), (4, .int x4)] → W p l e (rmd 1) s m args below meth c H locs 0 0 (Qz D cy ad below args s S' (some (.int r))) (F0 m 5 ls []) := by
  have hX0 := hX
  obtain ⟨hC, hml, hr, hlk⟩ := hX0
  have hx := hC.1
  have hb := hC.2.1
  intro n
  induction n with
  | zero => intro S x1 x2 x3 x4 H locs ls hf; exact absurd hf (by intro h; cases h)
  | succ n ih =>
    intro S x1 x2 x3 x4 H locs ls hf  hP hS hl
    rw [P_X7_isAsSeen_L5] at hf
    refine lv_iload hx hb dX7_isAsSeen_5 (lv_at hl 4 rfl) ?_
    refine lv_aload_n hx hb dX7_isAsSeen_7 rfl (lv_at hl 0 rfl) ?_
    refine gf_X7_140 hC hP k_158 (v := .int (gI S 711 158)) rfl dX7_isAsSeen_8 ?_
    refine lv_icmp_ge (tgt := 58) hx hb dX7_isAsSeen_11 (by decide) (fun c2 => ?_) (fun c2 => ?_)
    · replace hf := ite_t c2 hf
      refine lv_iload_n hx hb dX7_isAsSeen_58 rfl (lv_at hl 3 rfl) ?_
      obtain ⟨h3, hf⟩ := gd_some hf
      exact pg_zret hC hr hlk hP hS (z1_or h3) hf dX7_isAsSeen_59
    · replace hf := ite_f c2 hf
      refine lv_iload_n hx hb dX7_isAsSeen_14 rfl (lv_at hl 3 rfl) ?_
      refine lv_if_eq (tgt := 50) hx hb dX7_isAsSeen_15 (by decide) (fun c4 => ?_) (fun c4 => ?_)
      · replace hf := ite_t c4 hf
        refine lv_iconst (v := 0) hx hb dX7_isAsSeen_50 (by decide) ?_
        refine lv_istore_n (lv' := [(3, .int (0 : Int32)), (0, .ref (ad 158)), (1, .int x1), (2, .int x2), (4, .int x4)]) hx hb dX7_isAsSeen_51 rfl hl (by decide) rfl (fun ls hl => ?_)
        obtain ⟨v5, ev5, hf⟩ := bnd_some hf
        refine lv_iinc (v := v5) (lv' := [(4, .int v5), (3, .int (0 : Int32)), (0, .ref (ad 158)), (1, .int x1), (2, .int x2)]) hx hb dX7_isAsSeen_52 hl (k := 4) rfl (by rw [ev5]; rfl) (by decide) rfl (fun ls hl => ?_)
        refine lv_goto (tgt := 5) hx hb dX7_isAsSeen_55 (by decide) ?_
        exact ih _ _ _ _ _ _ _ _ hf  hP hS (lv_sub hl [2, 3, 4, 1, 0] rfl)
      · replace hf := ite_f c4 hf
        refine lv_aload_n hx hb dX7_isAsSeen_18 rfl (lv_at hl 0 rfl) ?_
        refine gf_X7_33 hC hP k_158 (v := .ref (ad 165)) rfl dX7_isAsSeen_19 ?_
        refine lv_iconst (v := 2) hx hb dX7_isAsSeen_22 (by decide) ?_
        refine lv_iload hx hb dX7_isAsSeen_23 (lv_at hl 4 rfl) ?_
        refine lv_imul hx hb dX7_isAsSeen_25 ?_
        obtain ⟨h6, hf⟩ := gd_some hf
        refine pg_iald hC hP k_165 (bin_in h6) dX7_isAsSeen_26 ?_
        refine lv_iload_n hx hb dX7_isAsSeen_27 rfl (lv_at hl 1 rfl) ?_
        refine lv_icmp_ne (tgt := 46) hx hb dX7_isAsSeen_28 (by decide) (fun c7 => ?_) (fun c7 => ?_)
        · replace hf := ite_f c7 hf
          exact w_X7_isAsSeen_L46 hX ih _ _ _ _ _ _ _ hf  hP hS (lv_sub hl [0, 1, 2, 4] rfl)
        · replace hf := ite_t c7 hf
          refine lv_aload_n hx hb dX7_isAsSeen_31 rfl (lv_at hl 0 rfl) ?_
          refine gf_X7_33 hC hP k_158 (v := .ref (ad 165)) rfl dX7_isAsSeen_32 ?_
          refine lv_iconst (v := 2) hx hb dX7_isAsSeen_35 (by decide) ?_
          refine lv_iload hx hb dX7_isAsSeen_36 (lv_at hl 4 rfl) ?_
          refine lv_imul hx hb dX7_isAsSeen_38 ?_
          refine lv_iconst (v := 1) hx hb dX7_isAsSeen_39 (by decide) ?_
          refine lv_iadd hx hb dX7_isAsSeen_40 ?_
          obtain ⟨h8, hf⟩ := gd_some hf
          refine pg_iald hC hP k_165 (bin_in h8) dX7_isAsSeen_41 ?_
          refine lv_iload_n hx hb dX7_isAsSeen_42 rfl (lv_at hl 2 rfl) ?_
          refine lv_icmp_ne (tgt := 50) hx hb dX7_isAsSeen_43 (by decide) (fun c9 => ?_) (fun c9 => ?_)
          · replace hf := ite_f c9 hf
            refine lv_iconst (v := 0) hx hb dX7_isAsSeen_50 (by decide) ?_
            refine lv_istore_n (lv' := [(3, .int (0 : Int32)), (0, .ref (ad 158)), (1, .int x1), (2, .int x2), (4, .int x4)]) hx hb dX7_isAsSeen_51 rfl hl (by decide) rfl (fun ls hl => ?_)
            obtain ⟨v10, ev10, hf⟩ := bnd_some hf
            refine lv_iinc (v := v10) (lv' := [(4, .int v10), (3, .int (0 : Int32)), (0, .ref (ad 158)), (1, .int x1), (2, .int x2)]) hx hb dX7_isAsSeen_52 hl (k := 4) rfl (by rw [ev10]; rfl) (by decide) rfl (fun ls hl => ?_)
            refine lv_goto (tgt := 5) hx hb dX7_isAsSeen_55 (by decide) ?_
            exact ih _ _ _ _ _ _ _ _ hf  hP hS (lv_sub hl [2, 3, 4, 1, 0] rfl)
          · replace hf := ite_t c9 hf
            exact w_X7_isAsSeen_L46 hX ih _ _ _ _ _ _ _ hf  hP hS (lv_sub hl [0, 1, 2, 4] rfl)
def P_X7_isAsSeen (N : Nat) (S : PSt) (x1 : Int32) (x2 : Int32) : Option (Int32 × PSt) := P_X7_isAsSeen_L5 N N S x1 x2 (1 : Int32) (0 : Int32)
set_option maxHeartbeats 4000000 in
set_option maxRecDepth 100000 in
theorem c_X7_isAsSeen (l : Launch) {D : va_G} {cy : Nat → ClassId} {ad tb : Nat → Nat} (hJ : pJ ad) {N : Nat} {S S' : PSt} {x1 : Int32} {x2 : Int32} {r : Int32} (hf : P_X7_isAsSeen N S x1 x2 = some (r, S')) : Ct l 1 yX7_isAsSeen cX7_isAsSeen 5 (some .boolean) D cy ad tb S S' [.ref (ad 158), .int x1, .int x2] (some (.int r)) := by
  refine Ct_of hJ (by decide) (Nat.le_of_ble_eq_true rfl) (fun p e s m below meth c ls hX hP hS hl => ?_)
  have hl : lv_has ls 5 [(0, .ref (ad 158)), (1, .int x1), (2, .int x2)] := hl
  have hX0 := hX
  obtain ⟨hC, hml, hr, hlk⟩ := hX0
  have hx := hC.1
  have hb := hC.2.1
  unfold P_X7_isAsSeen at hf
  refine lv_iconst (v := 1) hx hb dX7_isAsSeen_0 (by decide) ?_
  refine lv_istore_n (lv' := [(3, .int (1 : Int32)), (0, .ref (ad 158)), (1, .int x1), (2, .int x2)]) hx hb dX7_isAsSeen_1 rfl hl (by decide) rfl (fun ls hl => ?_)
  refine lv_iconst (v := 0) hx hb dX7_isAsSeen_2 (by decide) ?_
  refine lv_istore (lv' := [(4, .int (0 : Int32)), (3, .int (1 : Int32)), (0, .ref (ad 158)), (1, .int x1), (2, .int x2)]) hx hb dX7_isAsSeen_3 hl (by decide) rfl (fun ls hl => ?_)
  exact w_X7_isAsSeen_L5 hX _ _ _ _ _ _ _ _ _ hf  hP hS (lv_sub hl [2, 3, 4, 1, 0] rfl)
def P_X7_goesDown_L29 (N : Nat) (S : PSt) (x1 : Int32) (x2 : Int32) (x3 : Int32) (x4 : Int32) (y0 : Int32) : Option (Int32 × PSt) := cal1 (P_X7_walksOn N S x1 x2 x3) fun S1 => if x4 = (0 : Int32) then (some ((1 : Int32), S1)) else (if x4 = (1 : Int32) then (if y0 = (0 : Int32) then (some ((1 : Int32), S1)) else (some ((0 : Int32), S1))) else (gd (bin (x1 + (1 : Int32)) (ln 171)) <| cal2 (P_X7_isAsSeen N S1 x2 (gA S1 171 (x1 + (1 : Int32)).toNatClampNeg)) fun r8 S6 => if r8 = (0 : Int32) then (some ((0 : Int32), S6)) else (some ((1 : Int32), S6))))
set_option maxHeartbeats 4000000 in
set_option maxRecDepth 100000 in
theorem w_X7_goesDown_L29 {N : Nat} {S' : PSt} {r : Int32} (hX : Mx p s m args c meth cX7_goesDown RX7 6 (some .boolean) D cy ad tb) : ∀ (S : PSt) (x1 : Int32) (x2 : Int32) (x3 : Int32) (x4 : Int32) (y0 : Int32) (H : Heap) (locs : List Loc) (ls : Array Slot), P_X7_goesDown_L29 N S x1 x2 x3 x4 y0 = some (r, S') → va_P D vwCl (pW cy ad S) H → va_S (pA ad s.heap.size) s.heap H locs → lv_has ls 6 [(0, .ref (ad 158)), (1, .int x1), (2, .int x2), (3, .int x3), (4, .int x4)] → W p l e (rmd 4) s m args below meth c H locs 0 0 (Qz D cy ad below args s S' (some (.int r))) (F0 m 29 ls [.int y0]) := by
  have hX0 := hX
  obtain ⟨hC, hml, hr, hlk⟩ := hX0
  have hx := hC.1
  have hb := hC.2.1
  intro S x1 x2 x3 x4 y0 H locs ls hf  hP hS hl
  unfold P_X7_goesDown_L29 at hf
  refine lv_istore (lv' := [(5, .int y0), (0, .ref (ad 158)), (1, .int x1), (2, .int x2), (3, .int x3), (4, .int x4)]) hx hb dX7_goesDown_29 hl (by decide) rfl (fun ls hl => ?_)
  refine lv_aload_n hx hb dX7_goesDown_31 rfl (lv_at hl 1 rfl) ?_
  refine lv_iload_n hx hb dX7_goesDown_32 rfl (lv_at hl 2 rfl) ?_
  refine lv_iload_n hx hb dX7_goesDown_33 rfl (lv_at hl 3 rfl) ?_
  refine lv_iload_n hx hb dX7_goesDown_34 rfl (lv_at hl 4 rfl) ?_
  obtain ⟨S1, q2, hf⟩ := cal1_some hf
  refine pg_callV (As := [.int x1, .int x2, .int x3]) (rest := []) (st1 := []) (ci := 7) hC hml hP hS (c_X7_walksOn l hC.2.2.2.2.2.1 q2) ⟨by decide, by decide, rfl, rfl⟩ ⟨rfl, rfl⟩ (by decide) rfl (by decide) k_158 rfl rfl ⟨mk_X7_158, mi_X7_walksOn⟩ hd_X7_walksOn rfl hl.1 (Nat.le_of_ble_eq_true rfl) dX7_goesDown_35 (fun H locs hP hS => ?_)
  refine lv_iload hx hb dX7_goesDown_38 (lv_at hl 5 rfl) ?_
  refine lv_if_eq (tgt := 73) hx hb dX7_goesDown_40 (by decide) (fun c3 => ?_) (fun c3 => ?_)
  · replace hf := ite_t c3 hf
    refine lv_iconst (v := 1) hx hb dX7_goesDown_73 (by decide) ?_
    refine lv_goto (tgt := 78) hx hb dX7_goesDown_74 (by decide) ?_
    exact pg_zret hC hr hlk hP hS (by decide) hf dX7_goesDown_78
  · replace hf := ite_f c3 hf
    refine lv_iload hx hb dX7_goesDown_43 (lv_at hl 5 rfl) ?_
    refine lv_iconst (v := 1) hx hb dX7_goesDown_45 (by decide) ?_
    refine lv_icmp_ne (tgt := 57) hx hb dX7_goesDown_46 (by decide) (fun c4 => ?_) (fun c4 => ?_)
    · replace hf := ite_f c4 hf
      refine lv_aload_n hx hb dX7_goesDown_57 rfl (lv_at hl 1 rfl) ?_
      refine lv_iload_n hx hb dX7_goesDown_58 rfl (lv_at hl 3 rfl) ?_
      refine lv_aload_n hx hb dX7_goesDown_59 rfl (lv_at hl 1 rfl) ?_
      refine gf_X7_51 hC hP k_158 (v := .ref (ad 171)) rfl dX7_goesDown_60 ?_
      refine lv_iload_n hx hb dX7_goesDown_63 rfl (lv_at hl 2 rfl) ?_
      refine lv_iconst (v := 1) hx hb dX7_goesDown_64 (by decide) ?_
      refine lv_iadd hx hb dX7_goesDown_65 ?_
      obtain ⟨h5, hf⟩ := gd_some hf
      refine pg_iald hC hP k_171 (bin_in h5) dX7_goesDown_66 ?_
      obtain ⟨r8, S6, q7, hf⟩ := cal2_some hf
      refine pg_callV (As := [.int x2, .int (gA S1 171 (x1 + (1 : Int32)).toNatClampNeg)]) (rest := []) (st1 := [.int r8]) (ci := 7) hC hml hP hS (c_X7_isAsSeen l hC.2.2.2.2.2.1 q7) ⟨by decide, by decide, rfl, rfl⟩ ⟨rfl, rfl⟩ (by decide) rfl (by decide) k_158 rfl rfl ⟨mk_X7_176, mi_X7_isAsSeen⟩ hd_X7_isAsSeen rfl hl.1 (Nat.le_of_ble_eq_true rfl) dX7_goesDown_67 (fun H locs hP hS => ?_)
      refine lv_if_eq (tgt := 77) hx hb dX7_goesDown_70 (by decide) (fun c9 => ?_) (fun c9 => ?_)
      · replace hf := ite_t c9 hf
        refine lv_iconst (v := 0) hx hb dX7_goesDown_77 (by decide) ?_
        exact pg_zret hC hr hlk hP hS (by decide) hf dX7_goesDown_78
      · replace hf := ite_f c9 hf
        refine lv_iconst (v := 1) hx hb dX7_goesDown_73 (by decide) ?_
        refine lv_goto (tgt := 78) hx hb dX7_goesDown_74 (by decide) ?_
        exact pg_zret hC hr hlk hP hS (by decide) hf dX7_goesDown_78
    · replace hf := ite_t c4 hf
      refine lv_iload hx hb dX7_goesDown_49 (lv_at hl 0 rfl) ?_
      refine lv_if_ne (tgt := 77) hx hb dX7_goesDown_51 (by decide) (fun c10 => ?_) (fun c10 => ?_)
      · replace hf := ite_f c10 hf
        refine lv_iconst (v := 0) hx hb dX7_goesDown_77 (by decide) ?_
        exact pg_zret hC hr hlk hP hS (by decide) hf dX7_goesDown_78
      · replace hf := ite_t c10 hf
        refine lv_goto (tgt := 73) hx hb dX7_goesDown_54 (by decide) ?_
        refine lv_iconst (v := 1) hx hb dX7_goesDown_73 (by decide) ?_
        refine lv_goto (tgt := 78) hx hb dX7_goesDown_74 (by decide) ?_
        exact pg_zret hC hr hlk hP hS (by decide) hf dX7_goesDown_78
def P_X7_goesDown_L24 (N : Nat) (S : PSt) (x1 : Int32) (x2 : Int32) (x3 : Int32) (x4 : Int32) : Option (Int32 × PSt) := P_X7_goesDown_L29 N S x1 x2 x3 x4 (1 : Int32)
set_option maxHeartbeats 4000000 in
set_option maxRecDepth 100000 in
theorem w_X7_goesDown_L24 {N : Nat} {S' : PSt} {r : Int32} (hX : Mx p s m args c meth cX7_goesDown RX7 6 (some .boolean) D cy ad tb) : ∀ (S : PSt) (x1 : Int32) (x2 : Int32) (x3 : Int32) (x4 : Int32) (H : Heap) (locs : List Loc) (ls : Array Slot), P_X7_goesDown_L24 N S x1 x2 x3 x4 = some (r, S') → va_P D vwCl (pW cy ad S) H → va_S (pA ad s.heap.size) s.heap H locs → lv_has ls 6 [(0, .ref (ad 158)), (1, .int x1), (2, .int x2), (3, .int x3), (4, .int x4)] → W p l e (rmd 4) s m args below meth c H locs 0 0 (Qz D cy ad below args s S' (some (.int r))) (F0 m 24 ls []) := by
  have hX0 := hX
  obtain ⟨hC, hml, hr, hlk⟩ := hX0
  have hx := hC.1
  have hb := hC.2.1
  intro S x1 x2 x3 x4 H locs ls hf  hP hS hl
  unfold P_X7_goesDown_L24 at hf
  refine lv_iconst (v := 1) hx hb dX7_goesDown_24 (by decide) ?_
  refine lv_goto (tgt := 29) hx hb dX7_goesDown_25 (by decide) ?_
  exact w_X7_goesDown_L29 hX _ _ _ _ _ _ _ _ _ hf  hP hS (lv_sub hl [0, 1, 2, 3, 4] rfl)
def P_X7_goesDown (N : Nat) (S : PSt) (x1 : Int32) (x2 : Int32) (x3 : Int32) (x4 : Int32) : Option (Int32 × PSt) := cal2 (P_X7_isWorn N S (x3 / (10 : Int32)) x1) fun r13 S11 => if r13 = (0 : Int32) then (cal2 (P_X7_isWorn N S11 (x3 - x3 / (10 : Int32) * (10 : Int32)) x1) fun r17 S15 => if r17 = (0 : Int32) then (P_X7_goesDown_L29 N S15 x1 x2 x3 x4 (0 : Int32)) else (P_X7_goesDown_L24 N S15 x1 x2 x3 x4)) else (P_X7_goesDown_L24 N S11 x1 x2 x3 x4)
set_option maxHeartbeats 4000000 in
set_option maxRecDepth 100000 in
theorem c_X7_goesDown (l : Launch) {D : va_G} {cy : Nat → ClassId} {ad tb : Nat → Nat} (hJ : pJ ad) {N : Nat} {S S' : PSt} {x1 : Int32} {x2 : Int32} {x3 : Int32} {x4 : Int32} {r : Int32} (hf : P_X7_goesDown N S x1 x2 x3 x4 = some (r, S')) : Ct l 4 yX7_goesDown cX7_goesDown 6 (some .boolean) D cy ad tb S S' [.ref (ad 158), .int x1, .int x2, .int x3, .int x4] (some (.int r)) := by
  refine Ct_of hJ (by decide) (Nat.le_of_ble_eq_true rfl) (fun p e s m below meth c ls hX hP hS hl => ?_)
  have hl : lv_has ls 6 [(0, .ref (ad 158)), (1, .int x1), (2, .int x2), (3, .int x3), (4, .int x4)] := hl
  have hX0 := hX
  obtain ⟨hC, hml, hr, hlk⟩ := hX0
  have hx := hC.1
  have hb := hC.2.1
  unfold P_X7_goesDown at hf
  refine lv_aload_n hx hb dX7_goesDown_0 rfl (lv_at hl 0 rfl) ?_
  refine lv_iload_n hx hb dX7_goesDown_1 rfl (lv_at hl 3 rfl) ?_
  refine lv_bipush (v := 10) hx hb dX7_goesDown_2 (by decide) ?_
  refine lv_idiv hx hb dX7_goesDown_4 (by decide) ?_
  refine lv_iload_n hx hb dX7_goesDown_5 rfl (lv_at hl 1 rfl) ?_
  obtain ⟨r13, S11, q12, hf⟩ := cal2_some hf
  refine pg_callV (As := [.int (x3 / (10 : Int32)), .int x1]) (rest := []) (st1 := [.int r13]) (ci := 7) hC hml hP hS (c_X7_isWorn l hC.2.2.2.2.2.1 q12) ⟨by decide, by decide, rfl, rfl⟩ ⟨rfl, rfl⟩ (by decide) rfl (by decide) k_158 rfl rfl ⟨mk_X7_143, mi_X7_isWorn⟩ hd_X7_isWorn rfl hl.1 (Nat.le_of_ble_eq_true rfl) dX7_goesDown_6 (fun H locs hP hS => ?_)
  refine lv_if_ne (tgt := 24) hx hb dX7_goesDown_9 (by decide) (fun c14 => ?_) (fun c14 => ?_)
  · replace hf := ite_f c14 hf
    exact w_X7_goesDown_L24 hX _ _ _ _ _ _ _ _ hf  hP hS (lv_sub hl [0, 1, 2, 3, 4] rfl)
  · replace hf := ite_t c14 hf
    refine lv_aload_n hx hb dX7_goesDown_12 rfl (lv_at hl 0 rfl) ?_
    refine lv_iload_n hx hb dX7_goesDown_13 rfl (lv_at hl 3 rfl) ?_
    refine lv_bipush (v := 10) hx hb dX7_goesDown_14 (by decide) ?_
    refine lv_irem hx hb dX7_goesDown_16 (by decide) ?_
    refine lv_iload_n hx hb dX7_goesDown_17 rfl (lv_at hl 1 rfl) ?_
    obtain ⟨r17, S15, q16, hf⟩ := cal2_some hf
    refine pg_callV (As := [.int (x3 - x3 / (10 : Int32) * (10 : Int32)), .int x1]) (rest := []) (st1 := [.int r17]) (ci := 7) hC hml hP hS (c_X7_isWorn l hC.2.2.2.2.2.1 q16) ⟨by decide, by decide, rfl, rfl⟩ ⟨rfl, rfl⟩ (by decide) rfl (by decide) k_158 rfl rfl ⟨mk_X7_143, mi_X7_isWorn⟩ hd_X7_isWorn rfl hl.1 (Nat.le_of_ble_eq_true rfl) dX7_goesDown_18 (fun H locs hP hS => ?_)
    refine lv_if_eq (tgt := 28) hx hb dX7_goesDown_21 (by decide) (fun c18 => ?_) (fun c18 => ?_)
    · replace hf := ite_t c18 hf
      refine lv_iconst (v := 0) hx hb dX7_goesDown_28 (by decide) ?_
      exact w_X7_goesDown_L29 hX _ _ _ _ _ _ _ _ _ hf  hP hS (lv_sub hl [0, 1, 2, 3, 4] rfl)
    · replace hf := ite_f c18 hf
      exact w_X7_goesDown_L24 hX _ _ _ _ _ _ _ _ hf  hP hS (lv_sub hl [0, 1, 2, 3, 4] rfl)
def P_X7_finds_L144 (N : Nat) (S : PSt) (y1 : Int32) : Option PSt := bnd (sI S 733 158 y1) fun S1 => bnd (sI S1 732 158 ((gI S1 732 158) + (1 : Int32))) fun S2 => some S2
set_option maxHeartbeats 4000000 in
set_option maxRecDepth 100000 in
theorem w_X7_finds_L144 {N : Nat} {S' : PSt} (hX : Mx p s m args c meth cX7_finds RX7 7 none D cy ad tb) : ∀ (S : PSt) (y1 : Int32) (H : Heap) (locs : List Loc) (ls : Array Slot), P_X7_finds_L144 N S y1 = some S' → va_P D vwCl (pW cy ad S) H → va_S (pA ad s.heap.size) s.heap H locs → lv_has ls 7 [(0, .ref (ad 158))] → W p l e (rmd 1) s m args below meth c H locs 0 0 (Qz D cy ad below args s S' none) (F0 m 144 ls [.int y1, .ref (ad 158)]) := by
  have hX0 := hX
  obtain ⟨hC, hml, hr, hlk⟩ := hX0
  have hx := hC.1
  have hb := hC.2.1
  intro S y1 H locs ls hf  hP hS hl
  unfold P_X7_finds_L144 at hf
  obtain ⟨S1, eS1, hf⟩ := bnd_some hf
  refine pf_X7_182 hC hP hS k_158 eS1 dX7_finds_144 (fun H locs hP hS => ?_)
  refine lv_aload_n hx hb dX7_finds_147 rfl (lv_at hl 0 rfl) ?_
  refine lv_dup hx hb dX7_finds_148 rfl ?_
  refine gf_X7_179 hC hP k_158 (v := .int (gI S1 732 158)) rfl dX7_finds_149 ?_
  refine lv_iconst (v := 1) hx hb dX7_finds_152 (by decide) ?_
  refine lv_iadd hx hb dX7_finds_153 ?_
  obtain ⟨S2, eS2, hf⟩ := bnd_some hf
  refine pf_X7_179 hC hP hS k_158 eS2 dX7_finds_154 (fun H locs hP hS => ?_)
  exact pg_vret hC hr hlk hP hS hf dX7_finds_157
def P_X7_finds_L119 (k34 : PSt → Int32 → Int32 → Int32 → Option PSt) (N : Nat) (S : PSt) (x1 : Int32) (x3 : Int32) (x4 : Int32) (y1 : Int32) (y2 : Int32) : Option PSt := gd (bin y1 (ln 175)) <| bnd (sA S 175 y1.toNatClampNeg y2) fun S4 => bnd (x4 + (1 : Int32)) fun v5 => k34 S4 x1 x3 v5
set_option maxHeartbeats 4000000 in
set_option maxRecDepth 100000 in
theorem w_X7_finds_L119 {N : Nat} {S' : PSt} (hX : Mx p s m args c meth cX7_finds RX7 7 none D cy ad tb) {k34 : PSt → Int32 → Int32 → Int32 → Option PSt} (hk34 : ∀ (S : PSt) (x1 : Int32) (x3 : Int32) (x4 : Int32) (H : Heap) (locs : List Loc) (ls : Array Slot), k34 S x1 x3 x4 = some S' → va_P D vwCl (pW cy ad S) H → va_S (pA ad s.heap.size) s.heap H locs → lv_has ls 7 [(0, .ref (ad 158)), (1, .int x1), (3, .int x3), (4, .int x4)] → W p l e (rmd 1) s m args below meth c H locs 0 0 (Qz D cy ad below args s S' none) (F0 m 34 ls [])) : ∀ (S : PSt) (x1 : Int32) (x3 : Int32) (x4 : Int32) (y1 : Int32) (y2 : Int32) (H : Heap) (locs : List Loc) (ls : Array Slot), P_X7_finds_L119 k34 N S x1 x3 x4 y1 y2 = some S' → va_P D vwCl (pW cy ad S) H → va_S (pA ad s.heap.size) s.heap H locs → lv_has ls 7 [(0, .ref (ad 158)), (1, .int x1), (3, .int x3), (4, .int x4)] → W p l e (rmd 1) s m args below meth c H locs 0 0 (Qz D cy ad below args s S' none) (F0 m 119 ls [.int y2, .int y1, .ref (ad 175)]) := by
  have hX0 := hX
  obtain ⟨hC, hml, hr, hlk⟩ := hX0
  have hx := hC.1
  have hb := hC.2.1
  intro S x1 x3 x4 y1 y2 H locs ls hf  hP hS hl
  unfold P_X7_finds_L119 at hf
  obtain ⟨h3, hf⟩ := gd_some hf
  obtain ⟨S4, eS4, hf⟩ := bnd_some hf
  refine pg_iast hC hP hS k_175 (bin_in h3) dX7_finds_119 (fun H locs hP hS => ?_)
  rw [← eS4] at hP
  obtain ⟨v5, ev5, hf⟩ := bnd_some hf
  refine lv_iinc (v := v5) (lv' := [(4, .int v5), (0, .ref (ad 158)), (1, .int x1), (3, .int x3)]) hx hb dX7_finds_120 hl (k := 3) rfl (by rw [ev5]; rfl) (by decide) rfl (fun ls hl => ?_)
  refine lv_goto (tgt := 34) hx hb dX7_finds_123 (by decide) ?_
  exact hk34 _ _ _ _ _ _ _ hf  hP hS (lv_sub hl [1, 2, 3, 0] rfl)
def P_X7_finds_L90 (k34 : PSt → Int32 → Int32 → Int32 → Option PSt) (N : Nat) (S : PSt) (x1 : Int32) (x3 : Int32) (x4 : Int32) (x6 : Int32) (y1 : Int32) (y2 : Int32) : Option PSt := gd (bin y1 (ln 174)) <| bnd (sA S 174 y1.toNatClampNeg y2) fun S7 => if (gI S7 732 158) = (0 : Int32) then (P_X7_finds_L119 k34 N S7 x1 x3 x4 x4 x6) else (gd (bin x4 (ln 175)) <| P_X7_finds_L119 k34 N S7 x1 x3 x4 x4 ((gA S7 175 x4.toNatClampNeg) &&& x6))
set_option maxHeartbeats 4000000 in
set_option maxRecDepth 100000 in
theorem w_X7_finds_L90 {N : Nat} {S' : PSt} (hX : Mx p s m args c meth cX7_finds RX7 7 none D cy ad tb) {k34 : PSt → Int32 → Int32 → Int32 → Option PSt} (hk34 : ∀ (S : PSt) (x1 : Int32) (x3 : Int32) (x4 : Int32) (H : Heap) (locs : List Loc) (ls : Array Slot), k34 S x1 x3 x4 = some S' → va_P D vwCl (pW cy ad S) H → va_S (pA ad s.heap.size) s.heap H locs → lv_has ls 7 [(0, .ref (ad 158)), (1, .int x1), (3, .int x3), (4, .int x4)] → W p l e (rmd 1) s m args below meth c H locs 0 0 (Qz D cy ad below args s S' none) (F0 m 34 ls [])) : ∀ (S : PSt) (x1 : Int32) (x3 : Int32) (x4 : Int32) (x6 : Int32) (y1 : Int32) (y2 : Int32) (H : Heap) (locs : List Loc) (ls : Array Slot), P_X7_finds_L90 k34 N S x1 x3 x4 x6 y1 y2 = some S' → va_P D vwCl (pW cy ad S) H → va_S (pA ad s.heap.size) s.heap H locs → lv_has ls 7 [(0, .ref (ad 158)), (1, .int x1), (3, .int x3), (4, .int x4), (6, .int x6)] → W p l e (rmd 1) s m args below meth c H locs 0 0 (Qz D cy ad below args s S' none) (F0 m 90 ls [.int y2, .int y1, .ref (ad 174)]) := by
  have hX0 := hX
  obtain ⟨hC, hml, hr, hlk⟩ := hX0
  have hx := hC.1
  have hb := hC.2.1
  intro S x1 x3 x4 x6 y1 y2 H locs ls hf  hP hS hl
  unfold P_X7_finds_L90 at hf
  obtain ⟨h6, hf⟩ := gd_some hf
  obtain ⟨S7, eS7, hf⟩ := bnd_some hf
  refine pg_iast hC hP hS k_174 (bin_in h6) dX7_finds_90 (fun H locs hP hS => ?_)
  rw [← eS7] at hP
  refine lv_aload_n hx hb dX7_finds_91 rfl (lv_at hl 0 rfl) ?_
  refine gf_X7_63 hC hP k_158 (v := .ref (ad 175)) rfl dX7_finds_92 ?_
  refine lv_iload hx hb dX7_finds_95 (lv_at hl 3 rfl) ?_
  refine lv_aload_n hx hb dX7_finds_97 rfl (lv_at hl 0 rfl) ?_
  refine gf_X7_179 hC hP k_158 (v := .int (gI S7 732 158)) rfl dX7_finds_98 ?_
  refine lv_if_ne (tgt := 109) hx hb dX7_finds_101 (by decide) (fun c8 => ?_) (fun c8 => ?_)
  · replace hf := ite_f c8 hf
    refine lv_aload_n hx hb dX7_finds_109 rfl (lv_at hl 0 rfl) ?_
    refine gf_X7_63 hC hP k_158 (v := .ref (ad 175)) rfl dX7_finds_110 ?_
    refine lv_iload hx hb dX7_finds_113 (lv_at hl 3 rfl) ?_
    obtain ⟨h9, hf⟩ := gd_some hf
    refine pg_iald hC hP k_175 (bin_in h9) dX7_finds_115 ?_
    refine lv_iload hx hb dX7_finds_116 (lv_at hl 4 rfl) ?_
    refine lv_iand hx hb dX7_finds_118 ?_
    exact w_X7_finds_L119 hX hk34 _ _ _ _ _ _ _ _ _ hf  hP hS (lv_sub hl [0, 1, 2, 3] rfl)
  · replace hf := ite_t c8 hf
    refine lv_iload hx hb dX7_finds_104 (lv_at hl 4 rfl) ?_
    refine lv_goto (tgt := 119) hx hb dX7_finds_106 (by decide) ?_
    exact w_X7_finds_L119 hX hk34 _ _ _ _ _ _ _ _ _ hf  hP hS (lv_sub hl [0, 1, 2, 3] rfl)
def P_X7_finds_L34 (N : Nat) : Nat → PSt → Int32 → Int32 → Int32 → Option PSt
  | 0 => fun _ _ _ _ => none
  | n + 1 => fun S x1 x3 x4 => if x1 ≤ x4 then (if x3 = (0 : Int32) then (P_X7_finds_L144 N S (gI S 733 158)) else (gd (bin x1 (ln 171)) <| P_X7_finds_L144 N S (gA S 171 x1.toNatClampNeg))) else (gd (bin (x4 + (1 : Int32)) (ln 172)) <| bnd (gA S 172 (x4 + (1 : Int32)).toNatClampNeg) fun v14 => bnd (((1 : Int32) <<< ((v14 / (10 : Int32)) &&& 31)) ||| ((1 : Int32) <<< ((v14 - v14 / (10 : Int32) * (10 : Int32)) &&& 31))) fun v15 => if x3 = (0 : Int32) then (gd (bin x4 (ln 174)) <| P_X7_finds_L90 (P_X7_finds_L34 N n) N S x1 x3 x4 v15 x4 (gA S 174 x4.toNatClampNeg)) else (P_X7_finds_L90 (P_X7_finds_L34 N n) N S x1 x3 x4 v15 x4 v14))
set_option maxHeartbeats 4000000 in
set_option maxRecDepth 100000 in
theorem w_X7_finds_L34 {N : Nat} {S' : PSt} (hX : Mx p s m args c meth cX7_finds RX7 7 none D cy ad tb) : ∀ (n : Nat), ∀ (S : PSt) (x1 : Int32) (x3 : Int32) (x4 : Int32) (H : Heap) (locs : List Loc) (ls : Array Slot), P_X7_finds_L34 N n S x1 x3 x4 = some S' → va_P D vwCl (pW cy ad S) H → va_S (pA ad s.heap.size) s.heap H locs → lv_has ls 7 [(0, .ref (ad 158)), (1, .int x1), (3, .int x3), (4, .int x4)] → W p l e (rmd 1) s m args below meth c H locs 0 0 (Qz D cy ad below args s S' none) (F0 m 34 ls []) := by
  have hX0 := hX
  obtain ⟨hC, hml, hr, hlk⟩ := hX0
  have hx := hC.1
  have hb := hC.2.1
  intro n
  induction n with
  | zero => intro S x1 x3 x4 H locs ls hf; exact absurd hf (by intro h; cases h)
  | succ n ih =>
    intro S x1 x3 x4 H locs ls hf  hP hS hl
    rw [P_X7_finds_L34] at hf
    refine lv_iload hx hb dX7_finds_34 (lv_at hl 3 rfl) ?_
    refine lv_iload_n hx hb dX7_finds_36 rfl (lv_at hl 1 rfl) ?_
    refine lv_icmp_ge (tgt := 126) hx hb dX7_finds_37 (by decide) (fun c10 => ?_) (fun c10 => ?_)
    · replace hf := ite_t c10 hf
      refine lv_aload_n hx hb dX7_finds_126 rfl (lv_at hl 0 rfl) ?_
      refine lv_iload_n hx hb dX7_finds_127 rfl (lv_at hl 2 rfl) ?_
      refine lv_if_eq (tgt := 140) hx hb dX7_finds_128 (by decide) (fun c11 => ?_) (fun c11 => ?_)
      · replace hf := ite_t c11 hf
        refine lv_aload_n hx hb dX7_finds_140 rfl (lv_at hl 0 rfl) ?_
        refine gf_X7_182 hC hP k_158 (v := .int (gI S 733 158)) rfl dX7_finds_141 ?_
        exact w_X7_finds_L144 hX _ _ _ _ _ hf  hP hS (lv_sub hl [0] rfl)
      · replace hf := ite_f c11 hf
        refine lv_aload_n hx hb dX7_finds_131 rfl (lv_at hl 0 rfl) ?_
        refine gf_X7_51 hC hP k_158 (v := .ref (ad 171)) rfl dX7_finds_132 ?_
        refine lv_iload_n hx hb dX7_finds_135 rfl (lv_at hl 1 rfl) ?_
        obtain ⟨h12, hf⟩ := gd_some hf
        refine pg_iald hC hP k_171 (bin_in h12) dX7_finds_136 ?_
        refine lv_goto (tgt := 144) hx hb dX7_finds_137 (by decide) ?_
        exact w_X7_finds_L144 hX _ _ _ _ _ hf  hP hS (lv_sub hl [0] rfl)
    · replace hf := ite_f c10 hf
      refine lv_aload_n hx hb dX7_finds_40 rfl (lv_at hl 0 rfl) ?_
      refine gf_X7_54 hC hP k_158 (v := .ref (ad 172)) rfl dX7_finds_41 ?_
      refine lv_iload hx hb dX7_finds_44 (lv_at hl 3 rfl) ?_
      refine lv_iconst (v := 1) hx hb dX7_finds_46 (by decide) ?_
      refine lv_iadd hx hb dX7_finds_47 ?_
      obtain ⟨h13, hf⟩ := gd_some hf
      refine pg_iald hC hP k_172 (bin_in h13) dX7_finds_48 ?_
      obtain ⟨v14, ev14, hf⟩ := bnd_some hf
      refine pg_top ev14 ?_
      refine lv_istore (lv' := [(5, .int v14), (0, .ref (ad 158)), (1, .int x1), (3, .int x3), (4, .int x4)]) hx hb dX7_finds_49 hl (by decide) rfl (fun ls hl => ?_)
      refine lv_iconst (v := 1) hx hb dX7_finds_51 (by decide) ?_
      refine lv_iload hx hb dX7_finds_52 (lv_at hl 0 rfl) ?_
      refine lv_bipush (v := 10) hx hb dX7_finds_54 (by decide) ?_
      refine lv_idiv hx hb dX7_finds_56 (by decide) ?_
      refine lv_ishl hx hb dX7_finds_57 ?_
      refine lv_iconst (v := 1) hx hb dX7_finds_58 (by decide) ?_
      refine lv_iload hx hb dX7_finds_59 (lv_at hl 0 rfl) ?_
      refine lv_bipush (v := 10) hx hb dX7_finds_61 (by decide) ?_
      refine lv_irem hx hb dX7_finds_63 (by decide) ?_
      refine lv_ishl hx hb dX7_finds_64 ?_
      refine lv_ior hx hb dX7_finds_65 ?_
      obtain ⟨v15, ev15, hf⟩ := bnd_some hf
      refine pg_top ev15 ?_
      refine lv_istore (lv' := [(6, .int v15), (5, .int v14), (0, .ref (ad 158)), (1, .int x1), (3, .int x3), (4, .int x4)]) hx hb dX7_finds_66 hl (by decide) rfl (fun ls hl => ?_)
      refine lv_aload_n hx hb dX7_finds_68 rfl (lv_at hl 2 rfl) ?_
      refine gf_X7_60 hC hP k_158 (v := .ref (ad 174)) rfl dX7_finds_69 ?_
      refine lv_iload hx hb dX7_finds_72 (lv_at hl 5 rfl) ?_
      refine lv_iload_n hx hb dX7_finds_74 rfl (lv_at hl 4 rfl) ?_
      refine lv_if_eq (tgt := 83) hx hb dX7_finds_75 (by decide) (fun c16 => ?_) (fun c16 => ?_)
      · replace hf := ite_t c16 hf
        refine lv_aload_n hx hb dX7_finds_83 rfl (lv_at hl 2 rfl) ?_
        refine gf_X7_60 hC hP k_158 (v := .ref (ad 174)) rfl dX7_finds_84 ?_
        refine lv_iload hx hb dX7_finds_87 (lv_at hl 5 rfl) ?_
        obtain ⟨h17, hf⟩ := gd_some hf
        refine pg_iald hC hP k_174 (bin_in h17) dX7_finds_89 ?_
        exact w_X7_finds_L90 hX ih _ _ _ _ _ _ _ _ _ _ hf  hP hS (lv_sub hl [2, 3, 4, 5, 0] rfl)
      · replace hf := ite_f c16 hf
        refine lv_iload hx hb dX7_finds_78 (lv_at hl 1 rfl) ?_
        refine lv_goto (tgt := 90) hx hb dX7_finds_80 (by decide) ?_
        exact w_X7_finds_L90 hX ih _ _ _ _ _ _ _ _ _ _ hf  hP hS (lv_sub hl [2, 3, 4, 5, 0] rfl)
def P_X7_finds_L25 (N : Nat) (S : PSt) (x1 : Int32) : Option PSt := P_X7_finds_L34 N N S x1 (1 : Int32) (0 : Int32)
set_option maxHeartbeats 4000000 in
set_option maxRecDepth 100000 in
theorem w_X7_finds_L25 {N : Nat} {S' : PSt} (hX : Mx p s m args c meth cX7_finds RX7 7 none D cy ad tb) : ∀ (S : PSt) (x1 : Int32) (H : Heap) (locs : List Loc) (ls : Array Slot), P_X7_finds_L25 N S x1 = some S' → va_P D vwCl (pW cy ad S) H → va_S (pA ad s.heap.size) s.heap H locs → lv_has ls 7 [(0, .ref (ad 158)), (1, .int x1)] → W p l e (rmd 1) s m args below meth c H locs 0 0 (Qz D cy ad below args s S' none) (F0 m 25 ls []) := by
  have hX0 := hX
  obtain ⟨hC, hml, hr, hlk⟩ := hX0
  have hx := hC.1
  have hb := hC.2.1
  intro S x1 H locs ls hf  hP hS hl
  unfold P_X7_finds_L25 at hf
  refine lv_iconst (v := 1) hx hb dX7_finds_25 (by decide) ?_
  refine lv_goto (tgt := 30) hx hb dX7_finds_26 (by decide) ?_
  refine lv_istore_n (lv' := [(3, .int (1 : Int32)), (0, .ref (ad 158)), (1, .int x1)]) hx hb dX7_finds_30 rfl hl (by decide) rfl (fun ls hl => ?_)
  refine lv_iconst (v := 0) hx hb dX7_finds_31 (by decide) ?_
  refine lv_istore (lv' := [(4, .int (0 : Int32)), (3, .int (1 : Int32)), (0, .ref (ad 158)), (1, .int x1)]) hx hb dX7_finds_32 hl (by decide) rfl (fun ls hl => ?_)
  exact w_X7_finds_L34 hX _ _ _ _ _ _ _ _ hf  hP hS (lv_sub hl [2, 3, 1, 0] rfl)
def P_X7_finds (N : Nat) (S : PSt) (x1 : Int32) (x2 : Int32) : Option PSt := if (gI S 732 158) = (0 : Int32) then (P_X7_finds_L25 N S x1) else (if x2 = (2 : Int32) then (P_X7_finds_L34 N N S x1 (0 : Int32) (0 : Int32)) else (gd (bin x1 (ln 171)) <| if (gI S 733 158) ≤ (gA S 171 x1.toNatClampNeg) then (P_X7_finds_L34 N N S x1 (0 : Int32) (0 : Int32)) else (P_X7_finds_L25 N S x1)))
set_option maxHeartbeats 4000000 in
set_option maxRecDepth 100000 in
theorem c_X7_finds (l : Launch) {D : va_G} {cy : Nat → ClassId} {ad tb : Nat → Nat} (hJ : pJ ad) {N : Nat} {S S' : PSt} {x1 : Int32} {x2 : Int32} (hf : P_X7_finds N S x1 x2 = some S') : Ct l 1 yX7_finds cX7_finds 7 none D cy ad tb S S' [.ref (ad 158), .int x1, .int x2] none := by
  refine Ct_of hJ (by decide) (Nat.le_of_ble_eq_true rfl) (fun p e s m below meth c ls hX hP hS hl => ?_)
  have hl : lv_has ls 7 [(0, .ref (ad 158)), (1, .int x1), (2, .int x2)] := hl
  have hX0 := hX
  obtain ⟨hC, hml, hr, hlk⟩ := hX0
  have hx := hC.1
  have hb := hC.2.1
  unfold P_X7_finds at hf
  refine lv_aload_n hx hb dX7_finds_0 rfl (lv_at hl 0 rfl) ?_
  refine gf_X7_179 hC hP k_158 (v := .int (gI S 732 158)) rfl dX7_finds_1 ?_
  refine lv_if_eq (tgt := 25) hx hb dX7_finds_4 (by decide) (fun c18 => ?_) (fun c18 => ?_)
  · replace hf := ite_t c18 hf
    exact w_X7_finds_L25 hX _ _ _ _ _ hf  hP hS (lv_sub hl [0, 1] rfl)
  · replace hf := ite_f c18 hf
    refine lv_iload_n hx hb dX7_finds_7 rfl (lv_at hl 2 rfl) ?_
    refine lv_iconst (v := 2) hx hb dX7_finds_8 (by decide) ?_
    refine lv_icmp_eq (tgt := 29) hx hb dX7_finds_9 (by decide) (fun c19 => ?_) (fun c19 => ?_)
    · replace hf := ite_t c19 hf
      refine lv_iconst (v := 0) hx hb dX7_finds_29 (by decide) ?_
      refine lv_istore_n (lv' := [(3, .int (0 : Int32)), (0, .ref (ad 158)), (1, .int x1), (2, .int x2)]) hx hb dX7_finds_30 rfl hl (by decide) rfl (fun ls hl => ?_)
      refine lv_iconst (v := 0) hx hb dX7_finds_31 (by decide) ?_
      refine lv_istore (lv' := [(4, .int (0 : Int32)), (3, .int (0 : Int32)), (0, .ref (ad 158)), (1, .int x1), (2, .int x2)]) hx hb dX7_finds_32 hl (by decide) rfl (fun ls hl => ?_)
      exact w_X7_finds_L34 hX _ _ _ _ _ _ _ _ hf  hP hS (lv_sub hl [2, 3, 1, 0] rfl)
    · replace hf := ite_f c19 hf
      refine lv_aload_n hx hb dX7_finds_12 rfl (lv_at hl 0 rfl) ?_
      refine gf_X7_51 hC hP k_158 (v := .ref (ad 171)) rfl dX7_finds_13 ?_
      refine lv_iload_n hx hb dX7_finds_16 rfl (lv_at hl 1 rfl) ?_
      obtain ⟨h20, hf⟩ := gd_some hf
      refine pg_iald hC hP k_171 (bin_in h20) dX7_finds_17 ?_
      refine lv_aload_n hx hb dX7_finds_18 rfl (lv_at hl 0 rfl) ?_
      refine gf_X7_182 hC hP k_158 (v := .int (gI S 733 158)) rfl dX7_finds_19 ?_
      refine lv_icmp_ge (tgt := 29) hx hb dX7_finds_22 (by decide) (fun c21 => ?_) (fun c21 => ?_)
      · replace hf := ite_t c21 hf
        refine lv_iconst (v := 0) hx hb dX7_finds_29 (by decide) ?_
        refine lv_istore_n (lv' := [(3, .int (0 : Int32)), (0, .ref (ad 158)), (1, .int x1), (2, .int x2)]) hx hb dX7_finds_30 rfl hl (by decide) rfl (fun ls hl => ?_)
        refine lv_iconst (v := 0) hx hb dX7_finds_31 (by decide) ?_
        refine lv_istore (lv' := [(4, .int (0 : Int32)), (3, .int (0 : Int32)), (0, .ref (ad 158)), (1, .int x1), (2, .int x2)]) hx hb dX7_finds_32 hl (by decide) rfl (fun ls hl => ?_)
        exact w_X7_finds_L34 hX _ _ _ _ _ _ _ _ hf  hP hS (lv_sub hl [2, 3, 1, 0] rfl)
      · replace hf := ite_f c21 hf
        exact w_X7_finds_L25 hX _ _ _ _ _ hf  hP hS (lv_sub hl [0, 1] rfl)
def P_X7_search_L27 (N : Nat) : Nat → PSt → Int32 → Int32 → Int32 → Int32 → Option PSt
  | 0 => fun _ _ _ _ _ => none
  | n + 1 => fun S x1 x2 x3 x4 => if x4 < (0 : Int32) then (some S) else (if x4 = x3 then (cal1 (P_X7_finds N S x3 x2) fun S19 => bnd (x4 + (-1 : Int32)) fun v21 => P_X7_search_L27 N n S19 x1 x2 x3 v21) else (gd (bin x4 (ln 173)) <| cal2 (P_X7_pairBy N S (gA S 173 x4.toNatClampNeg)) fun r6 S4 => gd (bin x4 (ln 173)) <| gd (bin x4 (ln 173)) <| bnd (sA S4 173 x4.toNatClampNeg ((gA S4 173 x4.toNatClampNeg) + (1 : Int32))) fun S9 => if (0 : Int32) ≤ r6 then (cal2 (P_X7_goesDown N S9 x4 (x1 + x4) r6 x2) fun r13 S11 => if r13 = (0 : Int32) then (P_X7_search_L27 N n S11 x1 x2 x3 x4) else (bnd (x4 + (1 : Int32)) fun v15 => gd (bin v15 (ln 173)) <| bnd (sA S11 173 v15.toNatClampNeg (0 : Int32)) fun S17 => P_X7_search_L27 N n S17 x1 x2 x3 v15)) else (bnd (x4 + (-1 : Int32)) fun v18 => P_X7_search_L27 N n S9 x1 x2 x3 v18)))
set_option maxHeartbeats 4000000 in
set_option maxRecDepth 100000 in
theorem w_X7_search_L27 {N : Nat} {S' : PSt} (hX : Mx p s m args c meth cX7_search RX7 6 none D cy ad tb) : ∀ (n : Nat), ∀ (S : PSt) (x1 : Int32) (x2 : Int32) (x3 : Int32) (x4 : Int32) (H : Heap) (locs : List Loc) (ls : Array Slot), P_X7_search_L27 N n S x1 x2 x3 x4 = some S' → va_P D vwCl (pW cy ad S) H → va_S (pA ad s.heap.size) s.heap H locs → lv_has ls 6 [(0, .ref (ad 158)), (1, .int x1), (2, .int x2), (3, .int x3), (4, .int x4)] → W p l e (rmd 5) s m args below meth c H locs 0 0 (Qz D cy ad below args s S' none) (F0 m 27 ls []) := by
  have hX0 := hX
  obtain ⟨hC, hml, hr, hlk⟩ := hX0
  have hx := hC.1
  have hb := hC.2.1
  intro n
  induction n with
  | zero => intro S x1 x2 x3 x4 H locs ls hf; exact absurd hf (by intro h; cases h)
  | succ n ih =>
    intro S x1 x2 x3 x4 H locs ls hf  hP hS hl
    rw [P_X7_search_L27] at hf
    refine lv_iload hx hb dX7_search_27 (lv_at hl 4 rfl) ?_
    refine lv_if_lt (tgt := 115) hx hb dX7_search_29 (by decide) (fun c1 => ?_) (fun c1 => ?_)
    · replace hf := ite_t c1 hf
      exact pg_vret hC hr hlk hP hS hf dX7_search_115
    · replace hf := ite_f c1 hf
      refine lv_iload hx hb dX7_search_32 (lv_at hl 4 rfl) ?_
      refine lv_iload_n hx hb dX7_search_34 rfl (lv_at hl 3 rfl) ?_
      refine lv_icmp_ne (tgt := 50) hx hb dX7_search_35 (by decide) (fun c2 => ?_) (fun c2 => ?_)
      · replace hf := ite_f c2 hf
        refine lv_aload_n hx hb dX7_search_50 rfl (lv_at hl 0 rfl) ?_
        refine lv_aload_n hx hb dX7_search_51 rfl (lv_at hl 0 rfl) ?_
        refine gf_X7_57 hC hP k_158 (v := .ref (ad 173)) rfl dX7_search_52 ?_
        refine lv_iload hx hb dX7_search_55 (lv_at hl 4 rfl) ?_
        obtain ⟨h3, hf⟩ := gd_some hf
        refine pg_iald hC hP k_173 (bin_in h3) dX7_search_57 ?_
        obtain ⟨r6, S4, q5, hf⟩ := cal2_some hf
        refine pg_callV (As := [.int (gA S 173 x4.toNatClampNeg)]) (rest := []) (st1 := [.int r6]) (ci := 7) hC hml hP hS (c_X7_pairBy l hC.2.2.2.2.2.1 q5) ⟨by decide, by decide, rfl, rfl⟩ ⟨rfl, rfl⟩ (by decide) rfl (by decide) k_158 rfl rfl ⟨mk_X7_189, mi_X7_pairBy⟩ hd_X7_pairBy rfl hl.1 (Nat.le_of_ble_eq_true rfl) dX7_search_58 (fun H locs hP hS => ?_)
        refine lv_istore (lv' := [(5, .int r6), (0, .ref (ad 158)), (1, .int x1), (2, .int x2), (3, .int x3), (4, .int x4)]) hx hb dX7_search_61 hl (by decide) rfl (fun ls hl => ?_)
        refine lv_aload_n hx hb dX7_search_63 rfl (lv_at hl 1 rfl) ?_
        refine gf_X7_57 hC hP k_158 (v := .ref (ad 173)) rfl dX7_search_64 ?_
        refine lv_iload hx hb dX7_search_67 (lv_at hl 5 rfl) ?_
        refine lv_dup2_11 hx hb dX7_search_69 rfl rfl ?_
        obtain ⟨h7, hf⟩ := gd_some hf
        refine pg_iald hC hP k_173 (bin_in h7) dX7_search_70 ?_
        refine lv_iconst (v := 1) hx hb dX7_search_71 (by decide) ?_
        refine lv_iadd hx hb dX7_search_72 ?_
        obtain ⟨h8, hf⟩ := gd_some hf
        obtain ⟨S9, eS9, hf⟩ := bnd_some hf
        refine pg_iast hC hP hS k_173 (bin_in h8) dX7_search_73 (fun H locs hP hS => ?_)
        rw [← eS9] at hP
        refine lv_iload hx hb dX7_search_74 (lv_at hl 0 rfl) ?_
        refine lv_if_ge (tgt := 85) hx hb dX7_search_76 (by decide) (fun c10 => ?_) (fun c10 => ?_)
        · replace hf := ite_t c10 hf
          refine lv_aload_n hx hb dX7_search_85 rfl (lv_at hl 1 rfl) ?_
          refine lv_iload hx hb dX7_search_86 (lv_at hl 5 rfl) ?_
          refine lv_iload_n hx hb dX7_search_88 rfl (lv_at hl 2 rfl) ?_
          refine lv_iload hx hb dX7_search_89 (lv_at hl 5 rfl) ?_
          refine lv_iadd hx hb dX7_search_91 ?_
          refine lv_iload hx hb dX7_search_92 (lv_at hl 0 rfl) ?_
          refine lv_iload_n hx hb dX7_search_94 rfl (lv_at hl 3 rfl) ?_
          obtain ⟨r13, S11, q12, hf⟩ := cal2_some hf
          refine pg_callV (As := [.int x4, .int (x1 + x4), .int r6, .int x2]) (rest := []) (st1 := [.int r13]) (ci := 7) hC hml hP hS (c_X7_goesDown l hC.2.2.2.2.2.1 q12) ⟨by decide, by decide, rfl, rfl⟩ ⟨rfl, rfl⟩ (by decide) rfl (by decide) k_158 rfl rfl ⟨mk_X7_192, mi_X7_goesDown⟩ hd_X7_goesDown rfl hl.1 (Nat.le_of_ble_eq_true rfl) dX7_search_95 (fun H locs hP hS => ?_)
          refine lv_if_eq (tgt := 112) hx hb dX7_search_98 (by decide) (fun c14 => ?_) (fun c14 => ?_)
          · replace hf := ite_t c14 hf
            refine lv_goto (tgt := 27) hx hb dX7_search_112 (by decide) ?_
            exact ih _ _ _ _ _ _ _ _ hf  hP hS (lv_sub hl [1, 2, 3, 4, 5] rfl)
          · replace hf := ite_f c14 hf
            obtain ⟨v15, ev15, hf⟩ := bnd_some hf
            refine lv_iinc (v := v15) (lv' := [(4, .int v15), (5, .int r6), (0, .ref (ad 158)), (1, .int x1), (2, .int x2), (3, .int x3)]) hx hb dX7_search_101 hl (k := 5) rfl (by rw [ev15]; rfl) (by decide) rfl (fun ls hl => ?_)
            refine lv_aload_n hx hb dX7_search_104 rfl (lv_at hl 2 rfl) ?_
            refine gf_X7_57 hC hP k_158 (v := .ref (ad 173)) rfl dX7_search_105 ?_
            refine lv_iload hx hb dX7_search_108 (lv_at hl 0 rfl) ?_
            refine lv_iconst (v := 0) hx hb dX7_search_110 (by decide) ?_
            obtain ⟨h16, hf⟩ := gd_some hf
            obtain ⟨S17, eS17, hf⟩ := bnd_some hf
            refine pg_iast hC hP hS k_173 (bin_in h16) dX7_search_111 (fun H locs hP hS => ?_)
            rw [← eS17] at hP
            refine lv_goto (tgt := 27) hx hb dX7_search_112 (by decide) ?_
            exact ih _ _ _ _ _ _ _ _ hf  hP hS (lv_sub hl [2, 3, 4, 5, 0] rfl)
        · replace hf := ite_f c10 hf
          obtain ⟨v18, ev18, hf⟩ := bnd_some hf
          refine lv_iinc (v := v18) (lv' := [(4, .int v18), (5, .int r6), (0, .ref (ad 158)), (1, .int x1), (2, .int x2), (3, .int x3)]) hx hb dX7_search_79 hl (k := 5) rfl (by rw [ev18]; rfl) (by decide) rfl (fun ls hl => ?_)
          refine lv_goto (tgt := 112) hx hb dX7_search_82 (by decide) ?_
          refine lv_goto (tgt := 27) hx hb dX7_search_112 (by decide) ?_
          exact ih _ _ _ _ _ _ _ _ hf  hP hS (lv_sub hl [2, 3, 4, 5, 0] rfl)
      · replace hf := ite_t c2 hf
        refine lv_aload_n hx hb dX7_search_38 rfl (lv_at hl 0 rfl) ?_
        refine lv_iload_n hx hb dX7_search_39 rfl (lv_at hl 3 rfl) ?_
        refine lv_iload_n hx hb dX7_search_40 rfl (lv_at hl 2 rfl) ?_
        obtain ⟨S19, q20, hf⟩ := cal1_some hf
        refine pg_callV (As := [.int x3, .int x2]) (rest := []) (st1 := []) (ci := 7) hC hml hP hS (c_X7_finds l hC.2.2.2.2.2.1 q20) ⟨by decide, by decide, rfl, rfl⟩ ⟨rfl, rfl⟩ (by decide) rfl (by decide) k_158 rfl rfl ⟨mk_X7_185, mi_X7_finds⟩ hd_X7_finds rfl hl.1 (Nat.le_of_ble_eq_true rfl) dX7_search_41 (fun H locs hP hS => ?_)
        obtain ⟨v21, ev21, hf⟩ := bnd_some hf
        refine lv_iinc (v := v21) (lv' := [(4, .int v21), (0, .ref (ad 158)), (1, .int x1), (2, .int x2), (3, .int x3)]) hx hb dX7_search_44 hl (k := 4) rfl (by rw [ev21]; rfl) (by decide) rfl (fun ls hl => ?_)
        refine lv_goto (tgt := 27) hx hb dX7_search_47 (by decide) ?_
        exact ih _ _ _ _ _ _ _ _ hf  hP hS (lv_sub hl [1, 2, 3, 4, 0] rfl)
def P_X7_search (N : Nat) (S : PSt) (x1 : Int32) (x2 : Int32) : Option PSt := bnd ((gI S 702 158) - x1) fun v22 => bnd (sI S 732 158 (0 : Int32)) fun S23 => bnd (sI S23 733 158 (0 : Int32)) fun S24 => bnd (sA S24 173 (0 : Int32).toNatClampNeg (0 : Int32)) fun S25 => P_X7_search_L27 N N S25 x1 x2 v22 (0 : Int32)
set_option maxHeartbeats 4000000 in
set_option maxRecDepth 100000 in
theorem c_X7_search (l : Launch) {D : va_G} {cy : Nat → ClassId} {ad tb : Nat → Nat} (hJ : pJ ad) {N : Nat} {S S' : PSt} {x1 : Int32} {x2 : Int32} (hf : P_X7_search N S x1 x2 = some S') : Ct l 5 yX7_search cX7_search 6 none D cy ad tb S S' [.ref (ad 158), .int x1, .int x2] none := by
  refine Ct_of hJ (by decide) (Nat.le_of_ble_eq_true rfl) (fun p e s m below meth c ls hX hP hS hl => ?_)
  have hl : lv_has ls 6 [(0, .ref (ad 158)), (1, .int x1), (2, .int x2)] := hl
  have hX0 := hX
  obtain ⟨hC, hml, hr, hlk⟩ := hX0
  have hx := hC.1
  have hb := hC.2.1
  unfold P_X7_search at hf
  refine lv_aload_n hx hb dX7_search_0 rfl (lv_at hl 0 rfl) ?_
  refine gf_X7_76 hC hP k_158 (v := .int (gI S 702 158)) rfl dX7_search_1 ?_
  refine lv_iload_n hx hb dX7_search_4 rfl (lv_at hl 1 rfl) ?_
  refine lv_isub hx hb dX7_search_5 ?_
  obtain ⟨v22, ev22, hf⟩ := bnd_some hf
  refine pg_top ev22 ?_
  refine lv_istore_n (lv' := [(3, .int v22), (0, .ref (ad 158)), (1, .int x1), (2, .int x2)]) hx hb dX7_search_6 rfl hl (by decide) rfl (fun ls hl => ?_)
  refine lv_aload_n hx hb dX7_search_7 rfl (lv_at hl 1 rfl) ?_
  refine lv_iconst (v := 0) hx hb dX7_search_8 (by decide) ?_
  obtain ⟨S23, eS23, hf⟩ := bnd_some hf
  refine pf_X7_179 hC hP hS k_158 eS23 dX7_search_9 (fun H locs hP hS => ?_)
  refine lv_aload_n hx hb dX7_search_12 rfl (lv_at hl 1 rfl) ?_
  refine lv_iconst (v := 0) hx hb dX7_search_13 (by decide) ?_
  obtain ⟨S24, eS24, hf⟩ := bnd_some hf
  refine pf_X7_182 hC hP hS k_158 eS24 dX7_search_14 (fun H locs hP hS => ?_)
  refine lv_iconst (v := 0) hx hb dX7_search_17 (by decide) ?_
  refine lv_istore (lv' := [(4, .int (0 : Int32)), (3, .int v22), (0, .ref (ad 158)), (1, .int x1), (2, .int x2)]) hx hb dX7_search_18 hl (by decide) rfl (fun ls hl => ?_)
  refine lv_aload_n hx hb dX7_search_20 rfl (lv_at hl 2 rfl) ?_
  refine gf_X7_57 hC hP k_158 (v := .ref (ad 173)) rfl dX7_search_21 ?_
  refine lv_iconst (v := 0) hx hb dX7_search_24 (by decide) ?_
  refine lv_iconst (v := 0) hx hb dX7_search_25 (by decide) ?_
  obtain ⟨S25, eS25, hf⟩ := bnd_some hf
  refine pg_iast hC hP hS k_173 (bin_in (by decide +kernel)) dX7_search_26 (fun H locs hP hS => ?_)
  rw [← eS25] at hP
  exact w_X7_search_L27 hX _ _ _ _ _ _ _ _ _ hf  hP hS (lv_sub hl [2, 3, 4, 1, 0] rfl)
def P_X7_told (N : Nat) (S : PSt) (x1 : Int32) (x2 : Int32) : Option (Int32 × PSt) := cal2 (P_X7_in N S x1 (-1 : Int32) (5 : Int32)) fun r3 S1 => if r3 = (0 : Int32) then (some ((-1 : Int32), S1)) else (if (gA S1 161 (0 : Int32).toNatClampNeg) = (gI S1 702 158) then (some ((-9 : Int32), S1)) else (if (2 : Int32) ≤ (gI S1 700 158) then (cal1 (P_X7_fromNow N S1) fun S7 => cal1 (P_X7_search N S7 (gA S7 161 (0 : Int32).toNatClampNeg) x2) fun S9 => if (gI S9 732 158) = (0 : Int32) then (some ((-9 : Int32), S9)) else (if (gI S9 702 158) ≤ x1 then (some ((-9 : Int32), S9)) else (cal2 (P_X7_in N S9 x1 (0 : Int32) ((gA S9 161 (0 : Int32).toNatClampNeg) - (1 : Int32))) fun r15 S13 => if r15 = (0 : Int32) then (if (0 : Int32) ≤ x1 then (gd (bin (x1 - (gA S13 161 (0 : Int32).toNatClampNeg)) (ln 174)) <| some ((gA S13 174 (x1 - (gA S13 161 (0 : Int32).toNatClampNeg)).toNatClampNeg), S13)) else (some ((gI S13 733 158), S13))) else (some ((-9 : Int32), S13))))) else (some ((-9 : Int32), S1))))
set_option maxHeartbeats 4000000 in
set_option maxRecDepth 100000 in
theorem c_X7_told (l : Launch) {D : va_G} {cy : Nat → ClassId} {ad tb : Nat → Nat} (hJ : pJ ad) {N : Nat} {S S' : PSt} {x1 : Int32} {x2 : Int32} {r : Int32} (hf : P_X7_told N S x1 x2 = some (r, S')) : Ct l 6 yX7_told cX7_told 3 (some .int) D cy ad tb S S' [.ref (ad 158), .int x1, .int x2] (some (.int r)) := by
  refine Ct_of hJ (by decide) (Nat.le_of_ble_eq_true rfl) (fun p e s m below meth c ls hX hP hS hl => ?_)
  have hl : lv_has ls 3 [(0, .ref (ad 158)), (1, .int x1), (2, .int x2)] := hl
  have hX0 := hX
  obtain ⟨hC, hml, hr, hlk⟩ := hX0
  have hx := hC.1
  have hb := hC.2.1
  unfold P_X7_told at hf
  refine lv_iload_n hx hb dX7_told_0 rfl (lv_at hl 1 rfl) ?_
  refine lv_iconst (v := -1) hx hb dX7_told_1 (by decide) ?_
  refine lv_iconst (v := 5) hx hb dX7_told_2 (by decide) ?_
  obtain ⟨r3, S1, q2, hf⟩ := cal2_some hf
  refine pg_callS (As := [.int x1, .int (-1 : Int32), .int (5 : Int32)]) (rest := []) (st1 := [.int r3]) hC hml hP hS (c_X7_in l hC.2.2.2.2.2.1 q2) ⟨by decide, by decide, rfl, rfl⟩ ⟨rfl, rfl⟩ (by decide) rfl rfl ⟨mk_X7_72, mi_X7_in⟩ hd_X7_in rfl hl.1 (Nat.le_of_ble_eq_true rfl) dX7_told_3 (fun H locs hP hS => ?_)
  refine lv_if_ne (tgt := 11) hx hb dX7_told_6 (by decide) (fun c4 => ?_) (fun c4 => ?_)
  · replace hf := ite_f c4 hf
    refine lv_aload_n hx hb dX7_told_11 rfl (lv_at hl 0 rfl) ?_
    refine gf_X7_20 hC hP k_158 (v := .ref (ad 161)) rfl dX7_told_12 ?_
    refine lv_iconst (v := 0) hx hb dX7_told_15 (by decide) ?_
    refine pg_iald hC hP k_161 (bin_in (by decide +kernel)) dX7_told_16 ?_
    refine lv_aload_n hx hb dX7_told_17 rfl (lv_at hl 0 rfl) ?_
    refine gf_X7_76 hC hP k_158 (v := .int (gI S1 702 158)) rfl dX7_told_18 ?_
    refine lv_icmp_eq (tgt := 32) hx hb dX7_told_21 (by decide) (fun c5 => ?_) (fun c5 => ?_)
    · replace hf := ite_t c5 hf
      refine lv_bipush (v := -9) hx hb dX7_told_32 (by decide) ?_
      exact pg_iret hC hr hlk hP hS hf dX7_told_34
    · replace hf := ite_f c5 hf
      refine lv_aload_n hx hb dX7_told_24 rfl (lv_at hl 0 rfl) ?_
      refine gf_X7_69 hC hP k_158 (v := .int (gI S1 700 158)) rfl dX7_told_25 ?_
      refine lv_iconst (v := 2) hx hb dX7_told_28 (by decide) ?_
      refine lv_icmp_ge (tgt := 35) hx hb dX7_told_29 (by decide) (fun c6 => ?_) (fun c6 => ?_)
      · replace hf := ite_t c6 hf
        refine lv_aload_n hx hb dX7_told_35 rfl (lv_at hl 0 rfl) ?_
        obtain ⟨S7, q8, hf⟩ := cal1_some hf
        refine pg_callV (As := []) (rest := []) (st1 := []) (ci := 7) hC hml hP hS (c_X7_fromNow l hC.2.2.2.2.2.1 q8) ⟨by decide, by decide, rfl, rfl⟩ ⟨rfl, rfl⟩ (by decide) rfl (by decide) k_158 rfl rfl ⟨mk_X7_155, mi_X7_fromNow⟩ hd_X7_fromNow rfl hl.1 (Nat.le_of_ble_eq_true rfl) dX7_told_36 (fun H locs hP hS => ?_)
        refine lv_aload_n hx hb dX7_told_39 rfl (lv_at hl 0 rfl) ?_
        refine lv_aload_n hx hb dX7_told_40 rfl (lv_at hl 0 rfl) ?_
        refine gf_X7_20 hC hP k_158 (v := .ref (ad 161)) rfl dX7_told_41 ?_
        refine lv_iconst (v := 0) hx hb dX7_told_44 (by decide) ?_
        refine pg_iald hC hP k_161 (bin_in (by decide +kernel)) dX7_told_45 ?_
        refine lv_iload_n hx hb dX7_told_46 rfl (lv_at hl 2 rfl) ?_
        obtain ⟨S9, q10, hf⟩ := cal1_some hf
        refine pg_callV (As := [.int (gA S7 161 (0 : Int32).toNatClampNeg), .int x2]) (rest := []) (st1 := []) (ci := 7) hC hml hP hS (c_X7_search l hC.2.2.2.2.2.1 q10) ⟨by decide, by decide, rfl, rfl⟩ ⟨rfl, rfl⟩ (by decide) rfl (by decide) k_158 rfl rfl ⟨mk_X7_196, mi_X7_search⟩ hd_X7_search rfl hl.1 (Nat.le_of_ble_eq_true rfl) dX7_told_47 (fun H locs hP hS => ?_)
        refine lv_aload_n hx hb dX7_told_50 rfl (lv_at hl 0 rfl) ?_
        refine gf_X7_179 hC hP k_158 (v := .int (gI S9 732 158)) rfl dX7_told_51 ?_
        refine lv_if_eq (tgt := 81) hx hb dX7_told_54 (by decide) (fun c11 => ?_) (fun c11 => ?_)
        · replace hf := ite_t c11 hf
          refine lv_bipush (v := -9) hx hb dX7_told_81 (by decide) ?_
          exact pg_iret hC hr hlk hP hS hf dX7_told_83
        · replace hf := ite_f c11 hf
          refine lv_iload_n hx hb dX7_told_57 rfl (lv_at hl 1 rfl) ?_
          refine lv_aload_n hx hb dX7_told_58 rfl (lv_at hl 0 rfl) ?_
          refine gf_X7_76 hC hP k_158 (v := .int (gI S9 702 158)) rfl dX7_told_59 ?_
          refine lv_icmp_ge (tgt := 81) hx hb dX7_told_62 (by decide) (fun c12 => ?_) (fun c12 => ?_)
          · replace hf := ite_t c12 hf
            refine lv_bipush (v := -9) hx hb dX7_told_81 (by decide) ?_
            exact pg_iret hC hr hlk hP hS hf dX7_told_83
          · replace hf := ite_f c12 hf
            refine lv_iload_n hx hb dX7_told_65 rfl (lv_at hl 1 rfl) ?_
            refine lv_iconst (v := 0) hx hb dX7_told_66 (by decide) ?_
            refine lv_aload_n hx hb dX7_told_67 rfl (lv_at hl 0 rfl) ?_
            refine gf_X7_20 hC hP k_158 (v := .ref (ad 161)) rfl dX7_told_68 ?_
            refine lv_iconst (v := 0) hx hb dX7_told_71 (by decide) ?_
            refine pg_iald hC hP k_161 (bin_in (by decide +kernel)) dX7_told_72 ?_
            refine lv_iconst (v := 1) hx hb dX7_told_73 (by decide) ?_
            refine lv_isub hx hb dX7_told_74 ?_
            obtain ⟨r15, S13, q14, hf⟩ := cal2_some hf
            refine pg_callS (As := [.int x1, .int (0 : Int32), .int ((gA S9 161 (0 : Int32).toNatClampNeg) - (1 : Int32))]) (rest := []) (st1 := [.int r15]) hC hml hP hS (c_X7_in l hC.2.2.2.2.2.1 q14) ⟨by decide, by decide, rfl, rfl⟩ ⟨rfl, rfl⟩ (by decide) rfl rfl ⟨mk_X7_72, mi_X7_in⟩ hd_X7_in rfl hl.1 (Nat.le_of_ble_eq_true rfl) dX7_told_75 (fun H locs hP hS => ?_)
            refine lv_if_eq (tgt := 84) hx hb dX7_told_78 (by decide) (fun c16 => ?_) (fun c16 => ?_)
            · replace hf := ite_t c16 hf
              refine lv_iload_n hx hb dX7_told_84 rfl (lv_at hl 1 rfl) ?_
              refine lv_if_ge (tgt := 95) hx hb dX7_told_85 (by decide) (fun c17 => ?_) (fun c17 => ?_)
              · replace hf := ite_t c17 hf
                refine lv_aload_n hx hb dX7_told_95 rfl (lv_at hl 0 rfl) ?_
                refine gf_X7_60 hC hP k_158 (v := .ref (ad 174)) rfl dX7_told_96 ?_
                refine lv_iload_n hx hb dX7_told_99 rfl (lv_at hl 1 rfl) ?_
                refine lv_aload_n hx hb dX7_told_100 rfl (lv_at hl 0 rfl) ?_
                refine gf_X7_20 hC hP k_158 (v := .ref (ad 161)) rfl dX7_told_101 ?_
                refine lv_iconst (v := 0) hx hb dX7_told_104 (by decide) ?_
                refine pg_iald hC hP k_161 (bin_in (by decide +kernel)) dX7_told_105 ?_
                refine lv_isub hx hb dX7_told_106 ?_
                obtain ⟨h18, hf⟩ := gd_some hf
                refine pg_iald hC hP k_174 (bin_in h18) dX7_told_107 ?_
                exact pg_iret hC hr hlk hP hS hf dX7_told_108
              · replace hf := ite_f c17 hf
                refine lv_aload_n hx hb dX7_told_88 rfl (lv_at hl 0 rfl) ?_
                refine gf_X7_182 hC hP k_158 (v := .int (gI S13 733 158)) rfl dX7_told_89 ?_
                refine lv_goto (tgt := 108) hx hb dX7_told_92 (by decide) ?_
                exact pg_iret hC hr hlk hP hS hf dX7_told_108
            · replace hf := ite_f c16 hf
              refine lv_bipush (v := -9) hx hb dX7_told_81 (by decide) ?_
              exact pg_iret hC hr hlk hP hS hf dX7_told_83
      · replace hf := ite_f c6 hf
        refine lv_bipush (v := -9) hx hb dX7_told_32 (by decide) ?_
        exact pg_iret hC hr hlk hP hS hf dX7_told_34
  · replace hf := ite_t c4 hf
    refine lv_iconst (v := -1) hx hb dX7_told_9 (by decide) ?_
    exact pg_iret hC hr hlk hP hS hf dX7_told_10
def P_X7_best (N : Nat) (S : PSt) (x1 : Int32) : Option (Int32 × PSt) := cal2 (P_X7_told N S x1 (0 : Int32)) fun r3 S1 => some (r3, S1)
set_option maxHeartbeats 4000000 in
set_option maxRecDepth 100000 in
theorem c_X7_best (l : Launch) {D : va_G} {cy : Nat → ClassId} {ad tb : Nat → Nat} (hJ : pJ ad) {N : Nat} {S S' : PSt} {x1 : Int32} {r : Int32} (hf : P_X7_best N S x1 = some (r, S')) : Ct l 7 yX7_best cX7_best 2 (some .int) D cy ad tb S S' [.ref (ad 158), .int x1] (some (.int r)) := by
  refine Ct_of hJ (by decide) (Nat.le_of_ble_eq_true rfl) (fun p e s m below meth c ls hX hP hS hl => ?_)
  have hl : lv_has ls 2 [(0, .ref (ad 158)), (1, .int x1)] := hl
  have hX0 := hX
  obtain ⟨hC, hml, hr, hlk⟩ := hX0
  have hx := hC.1
  have hb := hC.2.1
  unfold P_X7_best at hf
  refine lv_aload_n hx hb dX7_best_0 rfl (lv_at hl 0 rfl) ?_
  refine lv_iload_n hx hb dX7_best_1 rfl (lv_at hl 1 rfl) ?_
  refine lv_iconst (v := 0) hx hb dX7_best_2 (by decide) ?_
  obtain ⟨r3, S1, q2, hf⟩ := cal2_some hf
  refine pg_callV (As := [.int x1, .int (0 : Int32)]) (rest := []) (st1 := [.int r3]) (ci := 7) hC hml hP hS (c_X7_told l hC.2.2.2.2.2.1 q2) ⟨by decide, by decide, rfl, rfl⟩ ⟨rfl, rfl⟩ (by decide) rfl (by decide) k_158 rfl rfl ⟨mk_X7_199, mi_X7_told⟩ hd_X7_told rfl hl.1 (Nat.le_of_ble_eq_true rfl) dX7_best_3 (fun H locs hP hS => ?_)
  exact pg_iret hC hr hlk hP hS hf dX7_best_6
def P_X7_fresh (N : Nat) (S : PSt) (x1 : Int32) : Option (Int32 × PSt) := cal2 (P_X7_told N S x1 (1 : Int32)) fun r3 S1 => some (r3, S1)
set_option maxHeartbeats 4000000 in
set_option maxRecDepth 100000 in
theorem c_X7_fresh (l : Launch) {D : va_G} {cy : Nat → ClassId} {ad tb : Nat → Nat} (hJ : pJ ad) {N : Nat} {S S' : PSt} {x1 : Int32} {r : Int32} (hf : P_X7_fresh N S x1 = some (r, S')) : Ct l 7 yX7_fresh cX7_fresh 2 (some .int) D cy ad tb S S' [.ref (ad 158), .int x1] (some (.int r)) := by
  refine Ct_of hJ (by decide) (Nat.le_of_ble_eq_true rfl) (fun p e s m below meth c ls hX hP hS hl => ?_)
  have hl : lv_has ls 2 [(0, .ref (ad 158)), (1, .int x1)] := hl
  have hX0 := hX
  obtain ⟨hC, hml, hr, hlk⟩ := hX0
  have hx := hC.1
  have hb := hC.2.1
  unfold P_X7_fresh at hf
  refine lv_aload_n hx hb dX7_fresh_0 rfl (lv_at hl 0 rfl) ?_
  refine lv_iload_n hx hb dX7_fresh_1 rfl (lv_at hl 1 rfl) ?_
  refine lv_iconst (v := 1) hx hb dX7_fresh_2 (by decide) ?_
  obtain ⟨r3, S1, q2, hf⟩ := cal2_some hf
  refine pg_callV (As := [.int x1, .int (1 : Int32)]) (rest := []) (st1 := [.int r3]) (ci := 7) hC hml hP hS (c_X7_told l hC.2.2.2.2.2.1 q2) ⟨by decide, by decide, rfl, rfl⟩ ⟨rfl, rfl⟩ (by decide) rfl (by decide) k_158 rfl rfl ⟨mk_X7_199, mi_X7_told⟩ hd_X7_told rfl hl.1 (Nat.le_of_ble_eq_true rfl) dX7_fresh_3 (fun H locs hP hS => ?_)
  exact pg_iret hC hr hlk hP hS hf dX7_fresh_6
def P_X7_minutesBy_L86 (k14 : PSt → Int32 → Int32 → Int32 → Int32 → Option (Int32 × PSt)) (N : Nat) (S : PSt) (x1 : Int32) (x2 : Int32) (x3 : Int32) (x4 : Int32) (y1 : Int32) (y2 : Int32) : Option (Int32 × PSt) := gd (bin ((4 : Int32) * x4) (ln 160)) <| cal1 (P_X7_tires N S y1 y2 (gA S 160 ((4 : Int32) * x4).toNatClampNeg)) fun S2 => bnd (x4 + (1 : Int32)) fun v4 => k14 S2 x1 x2 x3 v4
set_option maxHeartbeats 4000000 in
set_option maxRecDepth 100000 in
theorem w_X7_minutesBy_L86 {N : Nat} {S' : PSt} {r : Int32} (hX : Mx p s m args c meth cX7_minutesBy RX7 6 (some .int) D cy ad tb) {k14 : PSt → Int32 → Int32 → Int32 → Int32 → Option (Int32 × PSt)} (hk14 : ∀ (S : PSt) (x1 : Int32) (x2 : Int32) (x3 : Int32) (x4 : Int32) (H : Heap) (locs : List Loc) (ls : Array Slot), k14 S x1 x2 x3 x4 = some (r, S') → va_P D vwCl (pW cy ad S) H → va_S (pA ad s.heap.size) s.heap H locs → lv_has ls 6 [(0, .ref (ad 158)), (1, .int x1), (2, .int x2), (3, .int x3), (4, .int x4)] → W p l e (rmd 3) s m args below meth c H locs 0 0 (Qz D cy ad below args s S' (some (.int r))) (F0 m 14 ls [])) : ∀ (S : PSt) (x1 : Int32) (x2 : Int32) (x3 : Int32) (x4 : Int32) (y1 : Int32) (y2 : Int32) (H : Heap) (locs : List Loc) (ls : Array Slot), P_X7_minutesBy_L86 k14 N S x1 x2 x3 x4 y1 y2 = some (r, S') → va_P D vwCl (pW cy ad S) H → va_S (pA ad s.heap.size) s.heap H locs → lv_has ls 6 [(0, .ref (ad 158)), (1, .int x1), (2, .int x2), (3, .int x3), (4, .int x4)] → W p l e (rmd 3) s m args below meth c H locs 0 0 (Qz D cy ad below args s S' (some (.int r))) (F0 m 86 ls [.int y2, .int y1, .ref (ad 158)]) := by
  have hX0 := hX
  obtain ⟨hC, hml, hr, hlk⟩ := hX0
  have hx := hC.1
  have hb := hC.2.1
  intro S x1 x2 x3 x4 y1 y2 H locs ls hf  hP hS hl
  unfold P_X7_minutesBy_L86 at hf
  refine lv_aload_n hx hb dX7_minutesBy_86 rfl (lv_at hl 0 rfl) ?_
  refine gf_X7_13 hC hP k_158 (v := .ref (ad 160)) rfl dX7_minutesBy_87 ?_
  refine lv_iconst (v := 4) hx hb dX7_minutesBy_90 (by decide) ?_
  refine lv_iload hx hb dX7_minutesBy_91 (lv_at hl 4 rfl) ?_
  refine lv_imul hx hb dX7_minutesBy_93 ?_
  obtain ⟨h1, hf⟩ := gd_some hf
  refine pg_iald hC hP k_160 (bin_in h1) dX7_minutesBy_94 ?_
  obtain ⟨S2, q3, hf⟩ := cal1_some hf
  refine pg_callV (As := [.int y1, .int y2, .int (gA S 160 ((4 : Int32) * x4).toNatClampNeg)]) (rest := []) (st1 := []) (ci := 7) hC hml hP hS (c_X7_tires l hC.2.2.2.2.2.1 q3) ⟨by decide, by decide, rfl, rfl⟩ ⟨rfl, rfl⟩ (by decide) rfl (by decide) k_158 rfl rfl ⟨mk_X7_151, mi_X7_tires⟩ hd_X7_tires rfl hl.1 (Nat.le_of_ble_eq_true rfl) dX7_minutesBy_95 (fun H locs hP hS => ?_)
  obtain ⟨v4, ev4, hf⟩ := bnd_some hf
  refine lv_iinc (v := v4) (lv' := [(4, .int v4), (0, .ref (ad 158)), (1, .int x1), (2, .int x2), (3, .int x3)]) hx hb dX7_minutesBy_98 hl (k := 4) rfl (by rw [ev4]; rfl) (by decide) rfl (fun ls hl => ?_)
  refine lv_goto (tgt := 14) hx hb dX7_minutesBy_101 (by decide) ?_
  exact hk14 _ _ _ _ _ _ _ _ hf  hP hS (lv_sub hl [1, 2, 3, 4, 0] rfl)
def P_X7_minutesBy_L67 (k14 : PSt → Int32 → Int32 → Int32 → Int32 → Option (Int32 × PSt)) (N : Nat) (S : PSt) (x1 : Int32) (x2 : Int32) (x4 : Int32) (x5 : Int32) (y0 : Int32) (y1 : Int32) : Option (Int32 × PSt) := bnd (y0 + y1) fun v5 => cal2 (P_X7_has N S x2 x4) fun r8 S6 => if r8 = (0 : Int32) then (P_X7_minutesBy_L86 k14 N S6 x1 x2 v5 x4 x5 x1) else (P_X7_minutesBy_L86 k14 N S6 x1 x2 v5 x4 x5 (-1 : Int32))
set_option maxHeartbeats 4000000 in
set_option maxRecDepth 100000 in
theorem w_X7_minutesBy_L67 {N : Nat} {S' : PSt} {r : Int32} (hX : Mx p s m args c meth cX7_minutesBy RX7 6 (some .int) D cy ad tb) {k14 : PSt → Int32 → Int32 → Int32 → Int32 → Option (Int32 × PSt)} (hk14 : ∀ (S : PSt) (x1 : Int32) (x2 : Int32) (x3 : Int32) (x4 : Int32) (H : Heap) (locs : List Loc) (ls : Array Slot), k14 S x1 x2 x3 x4 = some (r, S') → va_P D vwCl (pW cy ad S) H → va_S (pA ad s.heap.size) s.heap H locs → lv_has ls 6 [(0, .ref (ad 158)), (1, .int x1), (2, .int x2), (3, .int x3), (4, .int x4)] → W p l e (rmd 3) s m args below meth c H locs 0 0 (Qz D cy ad below args s S' (some (.int r))) (F0 m 14 ls [])) : ∀ (S : PSt) (x1 : Int32) (x2 : Int32) (x4 : Int32) (x5 : Int32) (y0 : Int32) (y1 : Int32) (H : Heap) (locs : List Loc) (ls : Array Slot), P_X7_minutesBy_L67 k14 N S x1 x2 x4 x5 y0 y1 = some (r, S') → va_P D vwCl (pW cy ad S) H → va_S (pA ad s.heap.size) s.heap H locs → lv_has ls 6 [(0, .ref (ad 158)), (1, .int x1), (2, .int x2), (4, .int x4), (5, .int x5)] → W p l e (rmd 3) s m args below meth c H locs 0 0 (Qz D cy ad below args s S' (some (.int r))) (F0 m 67 ls [.int y1, .int y0]) := by
  have hX0 := hX
  obtain ⟨hC, hml, hr, hlk⟩ := hX0
  have hx := hC.1
  have hb := hC.2.1
  intro S x1 x2 x4 x5 y0 y1 H locs ls hf  hP hS hl
  unfold P_X7_minutesBy_L67 at hf
  refine lv_iadd hx hb dX7_minutesBy_67 ?_
  obtain ⟨v5, ev5, hf⟩ := bnd_some hf
  refine pg_top ev5 ?_
  refine lv_istore_n (lv' := [(3, .int v5), (0, .ref (ad 158)), (1, .int x1), (2, .int x2), (4, .int x4), (5, .int x5)]) hx hb dX7_minutesBy_68 rfl hl (by decide) rfl (fun ls hl => ?_)
  refine lv_aload_n hx hb dX7_minutesBy_69 rfl (lv_at hl 1 rfl) ?_
  refine lv_iload hx hb dX7_minutesBy_70 (lv_at hl 5 rfl) ?_
  refine lv_iload_n hx hb dX7_minutesBy_72 rfl (lv_at hl 3 rfl) ?_
  refine lv_iload hx hb dX7_minutesBy_73 (lv_at hl 4 rfl) ?_
  obtain ⟨r8, S6, q7, hf⟩ := cal2_some hf
  refine pg_callS (As := [.int x2, .int x4]) (rest := [.int x5, .ref (ad 158)]) (st1 := [.int r8, .int x5, .ref (ad 158)]) hC hml hP hS (c_X7_has l hC.2.2.2.2.2.1 q7) ⟨by decide, by decide, rfl, rfl⟩ ⟨rfl, rfl⟩ (by decide) rfl rfl ⟨mk_X7_209, mi_X7_has⟩ hd_X7_has rfl hl.1 (Nat.le_of_ble_eq_true rfl) dX7_minutesBy_75 (fun H locs hP hS => ?_)
  refine lv_if_eq (tgt := 85) hx hb dX7_minutesBy_78 (by decide) (fun c9 => ?_) (fun c9 => ?_)
  · replace hf := ite_t c9 hf
    refine lv_iload_n hx hb dX7_minutesBy_85 rfl (lv_at hl 2 rfl) ?_
    exact w_X7_minutesBy_L86 hX hk14 _ _ _ _ _ _ _ _ _ _ hf  hP hS (lv_sub hl [1, 2, 3, 0, 4] rfl)
  · replace hf := ite_f c9 hf
    refine lv_iconst (v := -1) hx hb dX7_minutesBy_81 (by decide) ?_
    refine lv_goto (tgt := 86) hx hb dX7_minutesBy_82 (by decide) ?_
    exact w_X7_minutesBy_L86 hX hk14 _ _ _ _ _ _ _ _ _ _ hf  hP hS (lv_sub hl [1, 2, 3, 0, 4] rfl)
def P_X7_minutesBy_L14 (N : Nat) : Nat → PSt → Int32 → Int32 → Int32 → Int32 → Option (Int32 × PSt)
  | 0 => fun _ _ _ _ _ => none
  | n + 1 => fun S x1 x2 x3 x4 => if (gI S 702 158) ≤ x4 then (some (x3, S)) else (bnd (x4 - (gA S 161 (0 : Int32).toNatClampNeg)) fun v11 => cal2 (P_X7_has N S x2 x4) fun r14 S12 => if r14 = (0 : Int32) then (cal2 (P_X7_takesAt N S12 x4 x1 v11) fun r18 S16 => P_X7_minutesBy_L67 (P_X7_minutesBy_L14 N n) N S16 x1 x2 x4 v11 x3 r18) else (gd (bin ((4 : Int32) * x4) (ln 160)) <| P_X7_minutesBy_L67 (P_X7_minutesBy_L14 N n) N S12 x1 x2 x4 v11 x3 ((3 : Int32) * (gA S12 160 ((4 : Int32) * x4).toNatClampNeg))))
set_option maxHeartbeats 4000000 in
set_option maxRecDepth 100000 in
theorem w_X7_minutesBy_L14 {N : Nat} {S' : PSt} {r : Int32} (hX : Mx p s m args c meth cX7_minutesBy RX7 6 (some .int) D cy ad tb) : ∀ (n : Nat), ∀ (S : PSt) (x1 : Int32) (x2 : Int32) (x3 : Int32) (x4 : Int32) (H : Heap) (locs : List Loc) (ls : Array Slot), P_X7_minutesBy_L14 N n S x1 x2 x3 x4 = some (r, S') → va_P D vwCl (pW cy ad S) H → va_S (pA ad s.heap.size) s.heap H locs → lv_has ls 6 [(0, .ref (ad 158)), (1, .int x1), (2, .int x2), (3, .int x3), (4, .int x4)] → W p l e (rmd 3) s m args below meth c H locs 0 0 (Qz D cy ad below args s S' (some (.int r))) (F0 m 14 ls []) := by
  have hX0 := hX
  obtain ⟨hC, hml, hr, hlk⟩ := hX0
  have hx := hC.1
  have hb := hC.2.1
  intro n
  induction n with
  | zero => intro S x1 x2 x3 x4 H locs ls hf; exact absurd hf (by intro h; cases h)
  | succ n ih =>
    intro S x1 x2 x3 x4 H locs ls hf  hP hS hl
    rw [P_X7_minutesBy_L14] at hf
    refine lv_iload hx hb dX7_minutesBy_14 (lv_at hl 4 rfl) ?_
    refine lv_aload_n hx hb dX7_minutesBy_16 rfl (lv_at hl 0 rfl) ?_
    refine gf_X7_76 hC hP k_158 (v := .int (gI S 702 158)) rfl dX7_minutesBy_17 ?_
    refine lv_icmp_ge (tgt := 104) hx hb dX7_minutesBy_20 (by decide) (fun c10 => ?_) (fun c10 => ?_)
    · replace hf := ite_t c10 hf
      refine lv_iload_n hx hb dX7_minutesBy_104 rfl (lv_at hl 3 rfl) ?_
      exact pg_iret hC hr hlk hP hS hf dX7_minutesBy_105
    · replace hf := ite_f c10 hf
      refine lv_iload hx hb dX7_minutesBy_23 (lv_at hl 4 rfl) ?_
      refine lv_aload_n hx hb dX7_minutesBy_25 rfl (lv_at hl 0 rfl) ?_
      refine gf_X7_20 hC hP k_158 (v := .ref (ad 161)) rfl dX7_minutesBy_26 ?_
      refine lv_iconst (v := 0) hx hb dX7_minutesBy_29 (by decide) ?_
      refine pg_iald hC hP k_161 (bin_in (by decide +kernel)) dX7_minutesBy_30 ?_
      refine lv_isub hx hb dX7_minutesBy_31 ?_
      obtain ⟨v11, ev11, hf⟩ := bnd_some hf
      refine pg_top ev11 ?_
      refine lv_istore (lv' := [(5, .int v11), (0, .ref (ad 158)), (1, .int x1), (2, .int x2), (3, .int x3), (4, .int x4)]) hx hb dX7_minutesBy_32 hl (by decide) rfl (fun ls hl => ?_)
      refine lv_iload_n hx hb dX7_minutesBy_34 rfl (lv_at hl 4 rfl) ?_
      refine lv_iload_n hx hb dX7_minutesBy_35 rfl (lv_at hl 3 rfl) ?_
      refine lv_iload hx hb dX7_minutesBy_36 (lv_at hl 5 rfl) ?_
      obtain ⟨r14, S12, q13, hf⟩ := cal2_some hf
      refine pg_callS (As := [.int x2, .int x4]) (rest := [.int x3]) (st1 := [.int r14, .int x3]) hC hml hP hS (c_X7_has l hC.2.2.2.2.2.1 q13) ⟨by decide, by decide, rfl, rfl⟩ ⟨rfl, rfl⟩ (by decide) rfl rfl ⟨mk_X7_209, mi_X7_has⟩ hd_X7_has rfl hl.1 (Nat.le_of_ble_eq_true rfl) dX7_minutesBy_38 (fun H locs hP hS => ?_)
      refine lv_if_eq (tgt := 58) hx hb dX7_minutesBy_41 (by decide) (fun c15 => ?_) (fun c15 => ?_)
      · replace hf := ite_t c15 hf
        refine lv_aload_n hx hb dX7_minutesBy_58 rfl (lv_at hl 1 rfl) ?_
        refine lv_iload hx hb dX7_minutesBy_59 (lv_at hl 5 rfl) ?_
        refine lv_iload_n hx hb dX7_minutesBy_61 rfl (lv_at hl 2 rfl) ?_
        refine lv_iload hx hb dX7_minutesBy_62 (lv_at hl 0 rfl) ?_
        obtain ⟨r18, S16, q17, hf⟩ := cal2_some hf
        refine pg_callV (As := [.int x4, .int x1, .int v11]) (rest := [.int x3]) (st1 := [.int r18, .int x3]) (ci := 7) hC hml hP hS (c_X7_takesAt l hC.2.2.2.2.2.1 q17) ⟨by decide, by decide, rfl, rfl⟩ ⟨rfl, rfl⟩ (by decide) rfl (by decide) k_158 rfl rfl ⟨mk_X7_147, mi_X7_takesAt⟩ hd_X7_takesAt rfl hl.1 (Nat.le_of_ble_eq_true rfl) dX7_minutesBy_64 (fun H locs hP hS => ?_)
        exact w_X7_minutesBy_L67 hX ih _ _ _ _ _ _ _ _ _ _ hf  hP hS (lv_sub hl [1, 2, 3, 5, 0] rfl)
      · replace hf := ite_f c15 hf
        refine lv_iconst (v := 3) hx hb dX7_minutesBy_44 (by decide) ?_
        refine lv_aload_n hx hb dX7_minutesBy_45 rfl (lv_at hl 1 rfl) ?_
        refine gf_X7_13 hC hP k_158 (v := .ref (ad 160)) rfl dX7_minutesBy_46 ?_
        refine lv_iconst (v := 4) hx hb dX7_minutesBy_49 (by decide) ?_
        refine lv_iload hx hb dX7_minutesBy_50 (lv_at hl 5 rfl) ?_
        refine lv_imul hx hb dX7_minutesBy_52 ?_
        obtain ⟨h19, hf⟩ := gd_some hf
        refine pg_iald hC hP k_160 (bin_in h19) dX7_minutesBy_53 ?_
        refine lv_imul hx hb dX7_minutesBy_54 ?_
        refine lv_goto (tgt := 67) hx hb dX7_minutesBy_55 (by decide) ?_
        exact w_X7_minutesBy_L67 hX ih _ _ _ _ _ _ _ _ _ _ hf  hP hS (lv_sub hl [1, 2, 3, 5, 0] rfl)
def P_X7_minutesBy (N : Nat) (S : PSt) (x1 : Int32) (x2 : Int32) : Option (Int32 × PSt) := cal1 (P_X7_fromNow N S) fun S20 => bnd (gA S20 161 (0 : Int32).toNatClampNeg) fun v22 => P_X7_minutesBy_L14 N N S20 x1 x2 (0 : Int32) v22
set_option maxHeartbeats 4000000 in
set_option maxRecDepth 100000 in
theorem c_X7_minutesBy (l : Launch) {D : va_G} {cy : Nat → ClassId} {ad tb : Nat → Nat} (hJ : pJ ad) {N : Nat} {S S' : PSt} {x1 : Int32} {x2 : Int32} {r : Int32} (hf : P_X7_minutesBy N S x1 x2 = some (r, S')) : Ct l 3 yX7_minutesBy cX7_minutesBy 6 (some .int) D cy ad tb S S' [.ref (ad 158), .int x1, .int x2] (some (.int r)) := by
  refine Ct_of hJ (by decide) (Nat.le_of_ble_eq_true rfl) (fun p e s m below meth c ls hX hP hS hl => ?_)
  have hl : lv_has ls 6 [(0, .ref (ad 158)), (1, .int x1), (2, .int x2)] := hl
  have hX0 := hX
  obtain ⟨hC, hml, hr, hlk⟩ := hX0
  have hx := hC.1
  have hb := hC.2.1
  unfold P_X7_minutesBy at hf
  refine lv_aload_n hx hb dX7_minutesBy_0 rfl (lv_at hl 0 rfl) ?_
  obtain ⟨S20, q21, hf⟩ := cal1_some hf
  refine pg_callV (As := []) (rest := []) (st1 := []) (ci := 7) hC hml hP hS (c_X7_fromNow l hC.2.2.2.2.2.1 q21) ⟨by decide, by decide, rfl, rfl⟩ ⟨rfl, rfl⟩ (by decide) rfl (by decide) k_158 rfl rfl ⟨mk_X7_155, mi_X7_fromNow⟩ hd_X7_fromNow rfl hl.1 (Nat.le_of_ble_eq_true rfl) dX7_minutesBy_1 (fun H locs hP hS => ?_)
  refine lv_iconst (v := 0) hx hb dX7_minutesBy_4 (by decide) ?_
  refine lv_istore_n (lv' := [(3, .int (0 : Int32)), (0, .ref (ad 158)), (1, .int x1), (2, .int x2)]) hx hb dX7_minutesBy_5 rfl hl (by decide) rfl (fun ls hl => ?_)
  refine lv_aload_n hx hb dX7_minutesBy_6 rfl (lv_at hl 1 rfl) ?_
  refine gf_X7_20 hC hP k_158 (v := .ref (ad 161)) rfl dX7_minutesBy_7 ?_
  refine lv_iconst (v := 0) hx hb dX7_minutesBy_10 (by decide) ?_
  refine pg_iald hC hP k_161 (bin_in (by decide +kernel)) dX7_minutesBy_11 ?_
  obtain ⟨v22, ev22, hf⟩ := bnd_some hf
  refine pg_top ev22 ?_
  refine lv_istore (lv' := [(4, .int v22), (3, .int (0 : Int32)), (0, .ref (ad 158)), (1, .int x1), (2, .int x2)]) hx hb dX7_minutesBy_12 hl (by decide) rfl (fun ls hl => ?_)
  exact w_X7_minutesBy_L14 hX _ _ _ _ _ _ _ _ _ hf  hP hS (lv_sub hl [2, 3, 4, 1, 0] rfl)
def P_X7_penceOf_L4 (N : Nat) : Nat → PSt → Int32 → Int32 → Int32 → Option (Int32 × PSt)
  | 0 => fun _ _ _ _ => none
  | n + 1 => fun S x1 x2 x3 => if (gI S 702 158) ≤ x3 then (some (x2, S)) else (cal2 (P_X7_has N S x1 x3) fun r4 S2 => if r4 = (0 : Int32) then (bnd (x2 + (0 : Int32)) fun v6 => bnd (x3 + (1 : Int32)) fun v7 => P_X7_penceOf_L4 N n S2 x1 v6 v7) else (gd (bin ((4 : Int32) * x3) (ln 160)) <| bnd (x2 + (gA S2 160 ((4 : Int32) * x3).toNatClampNeg)) fun v9 => bnd (x3 + (1 : Int32)) fun v10 => P_X7_penceOf_L4 N n S2 x1 v9 v10))
set_option maxHeartbeats 4000000 in
set_option maxRecDepth 100000 in
theorem w_X7_penceOf_L4 {N : Nat} {S' : PSt} {r : Int32} (hX : Mx p s m args c meth cX7_penceOf RX7 4 (some .int) D cy ad tb) : ∀ (n : Nat), ∀ (S : PSt) (x1 : Int32) (x2 : Int32) (x3 : Int32) (H : Heap) (locs : List Loc) (ls : Array Slot), P_X7_penceOf_L4 N n S x1 x2 x3 = some (r, S') → va_P D vwCl (pW cy ad S) H → va_S (pA ad s.heap.size) s.heap H locs → lv_has ls 4 [(0, .ref (ad 158)), (1, .int x1), (2, .int x2), (3, .int x3)] → W p l e (rmd 2) s m args below meth c H locs 0 0 (Qz D cy ad below args s S' (some (.int r))) (F0 m 4 ls []) := by
  have hX0 := hX
  obtain ⟨hC, hml, hr, hlk⟩ := hX0
  have hx := hC.1
  have hb := hC.2.1
  intro n
  induction n with
  | zero => intro S x1 x2 x3 H locs ls hf; exact absurd hf (by intro h; cases h)
  | succ n ih =>
    intro S x1 x2 x3 H locs ls hf  hP hS hl
    rw [P_X7_penceOf_L4] at hf
    refine lv_iload_n hx hb dX7_penceOf_4 rfl (lv_at hl 3 rfl) ?_
    refine lv_aload_n hx hb dX7_penceOf_5 rfl (lv_at hl 0 rfl) ?_
    refine gf_X7_76 hC hP k_158 (v := .int (gI S 702 158)) rfl dX7_penceOf_6 ?_
    refine lv_icmp_ge (tgt := 41) hx hb dX7_penceOf_9 (by decide) (fun c1 => ?_) (fun c1 => ?_)
    · replace hf := ite_t c1 hf
      refine lv_iload_n hx hb dX7_penceOf_41 rfl (lv_at hl 2 rfl) ?_
      exact pg_iret hC hr hlk hP hS hf dX7_penceOf_42
    · replace hf := ite_f c1 hf
      refine lv_iload_n hx hb dX7_penceOf_12 rfl (lv_at hl 2 rfl) ?_
      refine lv_iload_n hx hb dX7_penceOf_13 rfl (lv_at hl 1 rfl) ?_
      refine lv_iload_n hx hb dX7_penceOf_14 rfl (lv_at hl 3 rfl) ?_
      obtain ⟨r4, S2, q3, hf⟩ := cal2_some hf
      refine pg_callS (As := [.int x1, .int x3]) (rest := [.int x2]) (st1 := [.int r4, .int x2]) hC hml hP hS (c_X7_has l hC.2.2.2.2.2.1 q3) ⟨by decide, by decide, rfl, rfl⟩ ⟨rfl, rfl⟩ (by decide) rfl rfl ⟨mk_X7_209, mi_X7_has⟩ hd_X7_has rfl hl.1 (Nat.le_of_ble_eq_true rfl) dX7_penceOf_15 (fun H locs hP hS => ?_)
      refine lv_if_eq (tgt := 32) hx hb dX7_penceOf_18 (by decide) (fun c5 => ?_) (fun c5 => ?_)
      · replace hf := ite_t c5 hf
        refine lv_iconst (v := 0) hx hb dX7_penceOf_32 (by decide) ?_
        refine lv_iadd hx hb dX7_penceOf_33 ?_
        obtain ⟨v6, ev6, hf⟩ := bnd_some hf
        refine pg_top ev6 ?_
        refine lv_istore_n (lv' := [(2, .int v6), (0, .ref (ad 158)), (1, .int x1), (3, .int x3)]) hx hb dX7_penceOf_34 rfl hl (by decide) rfl (fun ls hl => ?_)
        obtain ⟨v7, ev7, hf⟩ := bnd_some hf
        refine lv_iinc (v := v7) (lv' := [(3, .int v7), (2, .int v6), (0, .ref (ad 158)), (1, .int x1)]) hx hb dX7_penceOf_35 hl (k := 3) rfl (by rw [ev7]; rfl) (by decide) rfl (fun ls hl => ?_)
        refine lv_goto (tgt := 4) hx hb dX7_penceOf_38 (by decide) ?_
        exact ih _ _ _ _ _ _ _ hf  hP hS (lv_sub hl [2, 3, 1, 0] rfl)
      · replace hf := ite_f c5 hf
        refine lv_aload_n hx hb dX7_penceOf_21 rfl (lv_at hl 0 rfl) ?_
        refine gf_X7_13 hC hP k_158 (v := .ref (ad 160)) rfl dX7_penceOf_22 ?_
        refine lv_iconst (v := 4) hx hb dX7_penceOf_25 (by decide) ?_
        refine lv_iload_n hx hb dX7_penceOf_26 rfl (lv_at hl 3 rfl) ?_
        refine lv_imul hx hb dX7_penceOf_27 ?_
        obtain ⟨h8, hf⟩ := gd_some hf
        refine pg_iald hC hP k_160 (bin_in h8) dX7_penceOf_28 ?_
        refine lv_goto (tgt := 33) hx hb dX7_penceOf_29 (by decide) ?_
        refine lv_iadd hx hb dX7_penceOf_33 ?_
        obtain ⟨v9, ev9, hf⟩ := bnd_some hf
        refine pg_top ev9 ?_
        refine lv_istore_n (lv' := [(2, .int v9), (0, .ref (ad 158)), (1, .int x1), (3, .int x3)]) hx hb dX7_penceOf_34 rfl hl (by decide) rfl (fun ls hl => ?_)
        obtain ⟨v10, ev10, hf⟩ := bnd_some hf
        refine lv_iinc (v := v10) (lv' := [(3, .int v10), (2, .int v9), (0, .ref (ad 158)), (1, .int x1)]) hx hb dX7_penceOf_35 hl (k := 3) rfl (by rw [ev10]; rfl) (by decide) rfl (fun ls hl => ?_)
        refine lv_goto (tgt := 4) hx hb dX7_penceOf_38 (by decide) ?_
        exact ih _ _ _ _ _ _ _ hf  hP hS (lv_sub hl [2, 3, 1, 0] rfl)
def P_X7_penceOf (N : Nat) (S : PSt) (x1 : Int32) : Option (Int32 × PSt) := P_X7_penceOf_L4 N N S x1 (0 : Int32) (0 : Int32)
set_option maxHeartbeats 4000000 in
set_option maxRecDepth 100000 in
theorem c_X7_penceOf (l : Launch) {D : va_G} {cy : Nat → ClassId} {ad tb : Nat → Nat} (hJ : pJ ad) {N : Nat} {S S' : PSt} {x1 : Int32} {r : Int32} (hf : P_X7_penceOf N S x1 = some (r, S')) : Ct l 2 yX7_penceOf cX7_penceOf 4 (some .int) D cy ad tb S S' [.ref (ad 158), .int x1] (some (.int r)) := by
  refine Ct_of hJ (by decide) (Nat.le_of_ble_eq_true rfl) (fun p e s m below meth c ls hX hP hS hl => ?_)
  have hl : lv_has ls 4 [(0, .ref (ad 158)), (1, .int x1)] := hl
  have hX0 := hX
  obtain ⟨hC, hml, hr, hlk⟩ := hX0
  have hx := hC.1
  have hb := hC.2.1
  unfold P_X7_penceOf at hf
  refine lv_iconst (v := 0) hx hb dX7_penceOf_0 (by decide) ?_
  refine lv_istore_n (lv' := [(2, .int (0 : Int32)), (0, .ref (ad 158)), (1, .int x1)]) hx hb dX7_penceOf_1 rfl hl (by decide) rfl (fun ls hl => ?_)
  refine lv_iconst (v := 0) hx hb dX7_penceOf_2 (by decide) ?_
  refine lv_istore_n (lv' := [(3, .int (0 : Int32)), (2, .int (0 : Int32)), (0, .ref (ad 158)), (1, .int x1)]) hx hb dX7_penceOf_3 rfl hl (by decide) rfl (fun ls hl => ?_)
  exact w_X7_penceOf_L4 hX _ _ _ _ _ _ _ _ hf  hP hS (lv_sub hl [2, 3, 1, 0] rfl)
def P_X7_hired_L158 (k42 : PSt → Int32 → Int32 → Int32 → Int32 → Int32 → Int32 → Int32 → Option (Int32 × PSt)) (N : Nat) (S : PSt) (x1 : Int32) (x2 : Int32) (x3 : Int32) (x4 : Int32) (x6 : Int32) (x7 : Int32) (x8 : Int32) (x10 : Int32) (y0 : Int32) : Option (Int32 × PSt) := if x10 = (0 : Int32) then (bnd (x7 + (1 : Int32)) fun v2 => k42 S x1 x2 x3 x4 y0 x6 v2) else (bnd (x7 + (1 : Int32)) fun v3 => k42 S x1 x2 x3 x4 y0 x8 v3)
set_option maxHeartbeats 4000000 in
set_option maxRecDepth 100000 in
theorem w_X7_hired_L158 {N : Nat} {S' : PSt} {r : Int32} (hX : Mx p s m args c meth cX7_hired RX7 11 (some .int) D cy ad tb) {k42 : PSt → Int32 → Int32 → Int32 → Int32 → Int32 → Int32 → Int32 → Option (Int32 × PSt)} (hk42 : ∀ (S : PSt) (x1 : Int32) (x2 : Int32) (x3 : Int32) (x4 : Int32) (x5 : Int32) (x6 : Int32) (x7 : Int32) (H : Heap) (locs : List Loc) (ls : Array Slot), k42 S x1 x2 x3 x4 x5 x6 x7 = some (r, S') → va_P D vwCl (pW cy ad S) H → va_S (pA ad s.heap.size) s.heap H locs → lv_has ls 11 [(0, .ref (ad 158)), (1, .int x1), (2, .int x2), (3, .int x3), (4, .int x4), (5, .int x5), (6, .int x6), (7, .int x7)] → W p l e (rmd 4) s m args below meth c H locs 0 0 (Qz D cy ad below args s S' (some (.int r))) (F0 m 42 ls [])) : ∀ (S : PSt) (x1 : Int32) (x2 : Int32) (x3 : Int32) (x4 : Int32) (x6 : Int32) (x7 : Int32) (x8 : Int32) (x10 : Int32) (y0 : Int32) (H : Heap) (locs : List Loc) (ls : Array Slot), P_X7_hired_L158 k42 N S x1 x2 x3 x4 x6 x7 x8 x10 y0 = some (r, S') → va_P D vwCl (pW cy ad S) H → va_S (pA ad s.heap.size) s.heap H locs → lv_has ls 11 [(0, .ref (ad 158)), (1, .int x1), (2, .int x2), (3, .int x3), (4, .int x4), (6, .int x6), (7, .int x7), (8, .int x8), (10, .int x10)] → W p l e (rmd 4) s m args below meth c H locs 0 0 (Qz D cy ad below args s S' (some (.int r))) (F0 m 158 ls [.int y0]) := by
  have hX0 := hX
  obtain ⟨hC, hml, hr, hlk⟩ := hX0
  have hx := hC.1
  have hb := hC.2.1
  intro S x1 x2 x3 x4 x6 x7 x8 x10 y0 H locs ls hf  hP hS hl
  unfold P_X7_hired_L158 at hf
  refine lv_istore (lv' := [(5, .int y0), (0, .ref (ad 158)), (1, .int x1), (2, .int x2), (3, .int x3), (4, .int x4), (6, .int x6), (7, .int x7), (8, .int x8), (10, .int x10)]) hx hb dX7_hired_158 hl (by decide) rfl (fun ls hl => ?_)
  refine lv_iload hx hb dX7_hired_160 (lv_at hl 9 rfl) ?_
  refine lv_if_eq (tgt := 170) hx hb dX7_hired_162 (by decide) (fun c1 => ?_) (fun c1 => ?_)
  · replace hf := ite_t c1 hf
    refine lv_iload hx hb dX7_hired_170 (lv_at hl 6 rfl) ?_
    refine lv_istore (lv' := [(6, .int x6), (5, .int y0), (0, .ref (ad 158)), (1, .int x1), (2, .int x2), (3, .int x3), (4, .int x4), (7, .int x7), (8, .int x8), (10, .int x10)]) hx hb dX7_hired_172 hl (by decide) rfl (fun ls hl => ?_)
    obtain ⟨v2, ev2, hf⟩ := bnd_some hf
    refine lv_iinc (v := v2) (lv' := [(7, .int v2), (6, .int x6), (5, .int y0), (0, .ref (ad 158)), (1, .int x1), (2, .int x2), (3, .int x3), (4, .int x4), (8, .int x8), (10, .int x10)]) hx hb dX7_hired_174 hl (k := 7) rfl (by rw [ev2]; rfl) (by decide) rfl (fun ls hl => ?_)
    refine lv_goto (tgt := 42) hx hb dX7_hired_177 (by decide) ?_
    exact hk42 _ _ _ _ _ _ _ _ _ _ _ hf  hP hS (lv_sub hl [3, 4, 5, 6, 7, 2, 1, 0] rfl)
  · replace hf := ite_f c1 hf
    refine lv_iload hx hb dX7_hired_165 (lv_at hl 8 rfl) ?_
    refine lv_goto (tgt := 172) hx hb dX7_hired_167 (by decide) ?_
    refine lv_istore (lv' := [(6, .int x8), (5, .int y0), (0, .ref (ad 158)), (1, .int x1), (2, .int x2), (3, .int x3), (4, .int x4), (7, .int x7), (8, .int x8), (10, .int x10)]) hx hb dX7_hired_172 hl (by decide) rfl (fun ls hl => ?_)
    obtain ⟨v3, ev3, hf⟩ := bnd_some hf
    refine lv_iinc (v := v3) (lv' := [(7, .int v3), (6, .int x8), (5, .int y0), (0, .ref (ad 158)), (1, .int x1), (2, .int x2), (3, .int x3), (4, .int x4), (8, .int x8), (10, .int x10)]) hx hb dX7_hired_174 hl (k := 7) rfl (by rw [ev3]; rfl) (by decide) rfl (fun ls hl => ?_)
    refine lv_goto (tgt := 42) hx hb dX7_hired_177 (by decide) ?_
    exact hk42 _ _ _ _ _ _ _ _ _ _ _ hf  hP hS (lv_sub hl [3, 4, 5, 6, 7, 2, 1, 0] rfl)
def P_X7_hired_L144 (k42 : PSt → Int32 → Int32 → Int32 → Int32 → Int32 → Int32 → Int32 → Option (Int32 × PSt)) (N : Nat) (S : PSt) (x1 : Int32) (x2 : Int32) (x3 : Int32) (x5 : Int32) (x6 : Int32) (x7 : Int32) (x8 : Int32) (x9 : Int32) (x10 : Int32) (y0 : Int32) : Option (Int32 × PSt) := if x10 = (0 : Int32) then (P_X7_hired_L158 k42 N S x1 x2 x3 y0 x6 x7 x8 x10 x5) else (P_X7_hired_L158 k42 N S x1 x2 x3 y0 x6 x7 x8 x10 x9)
set_option maxHeartbeats 4000000 in
set_option maxRecDepth 100000 in
theorem w_X7_hired_L144 {N : Nat} {S' : PSt} {r : Int32} (hX : Mx p s m args c meth cX7_hired RX7 11 (some .int) D cy ad tb) {k42 : PSt → Int32 → Int32 → Int32 → Int32 → Int32 → Int32 → Int32 → Option (Int32 × PSt)} (hk42 : ∀ (S : PSt) (x1 : Int32) (x2 : Int32) (x3 : Int32) (x4 : Int32) (x5 : Int32) (x6 : Int32) (x7 : Int32) (H : Heap) (locs : List Loc) (ls : Array Slot), k42 S x1 x2 x3 x4 x5 x6 x7 = some (r, S') → va_P D vwCl (pW cy ad S) H → va_S (pA ad s.heap.size) s.heap H locs → lv_has ls 11 [(0, .ref (ad 158)), (1, .int x1), (2, .int x2), (3, .int x3), (4, .int x4), (5, .int x5), (6, .int x6), (7, .int x7)] → W p l e (rmd 4) s m args below meth c H locs 0 0 (Qz D cy ad below args s S' (some (.int r))) (F0 m 42 ls [])) : ∀ (S : PSt) (x1 : Int32) (x2 : Int32) (x3 : Int32) (x5 : Int32) (x6 : Int32) (x7 : Int32) (x8 : Int32) (x9 : Int32) (x10 : Int32) (y0 : Int32) (H : Heap) (locs : List Loc) (ls : Array Slot), P_X7_hired_L144 k42 N S x1 x2 x3 x5 x6 x7 x8 x9 x10 y0 = some (r, S') → va_P D vwCl (pW cy ad S) H → va_S (pA ad s.heap.size) s.heap H locs → lv_has ls 11 [(0, .ref (ad 158)), (1, .int x1), (2, .int x2), (3, .int x3), (5, .int x5), (6, .int x6), (7, .int x7), (8, .int x8), (9, .int x9), (10, .int x10)] → W p l e (rmd 4) s m args below meth c H locs 0 0 (Qz D cy ad below args s S' (some (.int r))) (F0 m 144 ls [.int y0]) := by
  have hX0 := hX
  obtain ⟨hC, hml, hr, hlk⟩ := hX0
  have hx := hC.1
  have hb := hC.2.1
  intro S x1 x2 x3 x5 x6 x7 x8 x9 x10 y0 H locs ls hf  hP hS hl
  unfold P_X7_hired_L144 at hf
  refine lv_istore (lv' := [(4, .int y0), (0, .ref (ad 158)), (1, .int x1), (2, .int x2), (3, .int x3), (5, .int x5), (6, .int x6), (7, .int x7), (8, .int x8), (9, .int x9), (10, .int x10)]) hx hb dX7_hired_144 hl (by decide) rfl (fun ls hl => ?_)
  refine lv_iload hx hb dX7_hired_146 (lv_at hl 10 rfl) ?_
  refine lv_if_eq (tgt := 156) hx hb dX7_hired_148 (by decide) (fun c4 => ?_) (fun c4 => ?_)
  · replace hf := ite_t c4 hf
    refine lv_iload hx hb dX7_hired_156 (lv_at hl 5 rfl) ?_
    exact w_X7_hired_L158 hX hk42 _ _ _ _ _ _ _ _ _ _ _ _ _ hf  hP hS (lv_sub hl [1, 2, 3, 4, 0, 6, 7, 8, 10] rfl)
  · replace hf := ite_f c4 hf
    refine lv_iload hx hb dX7_hired_151 (lv_at hl 9 rfl) ?_
    refine lv_goto (tgt := 158) hx hb dX7_hired_153 (by decide) ?_
    exact w_X7_hired_L158 hX hk42 _ _ _ _ _ _ _ _ _ _ _ _ _ hf  hP hS (lv_sub hl [1, 2, 3, 4, 0, 6, 7, 8, 10] rfl)
def P_X7_hired_L130 (k42 : PSt → Int32 → Int32 → Int32 → Int32 → Int32 → Int32 → Int32 → Option (Int32 × PSt)) (N : Nat) (S : PSt) (x1 : Int32) (x2 : Int32) (x3 : Int32) (x4 : Int32) (x5 : Int32) (x6 : Int32) (x7 : Int32) (x8 : Int32) (x9 : Int32) (y0 : Int32) : Option (Int32 × PSt) := if y0 = (0 : Int32) then (P_X7_hired_L144 k42 N S x1 x2 x3 x5 x6 x7 x8 x9 y0 x4) else (P_X7_hired_L144 k42 N S x1 x2 x3 x5 x6 x7 x8 x9 y0 x7)
set_option maxHeartbeats 4000000 in
set_option maxRecDepth 100000 in
theorem w_X7_hired_L130 {N : Nat} {S' : PSt} {r : Int32} (hX : Mx p s m args c meth cX7_hired RX7 11 (some .int) D cy ad tb) {k42 : PSt → Int32 → Int32 → Int32 → Int32 → Int32 → Int32 → Int32 → Option (Int32 × PSt)} (hk42 : ∀ (S : PSt) (x1 : Int32) (x2 : Int32) (x3 : Int32) (x4 : Int32) (x5 : Int32) (x6 : Int32) (x7 : Int32) (H : Heap) (locs : List Loc) (ls : Array Slot), k42 S x1 x2 x3 x4 x5 x6 x7 = some (r, S') → va_P D vwCl (pW cy ad S) H → va_S (pA ad s.heap.size) s.heap H locs → lv_has ls 11 [(0, .ref (ad 158)), (1, .int x1), (2, .int x2), (3, .int x3), (4, .int x4), (5, .int x5), (6, .int x6), (7, .int x7)] → W p l e (rmd 4) s m args below meth c H locs 0 0 (Qz D cy ad below args s S' (some (.int r))) (F0 m 42 ls [])) : ∀ (S : PSt) (x1 : Int32) (x2 : Int32) (x3 : Int32) (x4 : Int32) (x5 : Int32) (x6 : Int32) (x7 : Int32) (x8 : Int32) (x9 : Int32) (y0 : Int32) (H : Heap) (locs : List Loc) (ls : Array Slot), P_X7_hired_L130 k42 N S x1 x2 x3 x4 x5 x6 x7 x8 x9 y0 = some (r, S') → va_P D vwCl (pW cy ad S) H → va_S (pA ad s.heap.size) s.heap H locs → lv_has ls 11 [(0, .ref (ad 158)), (1, .int x1), (2, .int x2), (3, .int x3), (4, .int x4), (5, .int x5), (6, .int x6), (7, .int x7), (8, .int x8), (9, .int x9)] → W p l e (rmd 4) s m args below meth c H locs 0 0 (Qz D cy ad below args s S' (some (.int r))) (F0 m 130 ls [.int y0]) := by
  have hX0 := hX
  obtain ⟨hC, hml, hr, hlk⟩ := hX0
  have hx := hC.1
  have hb := hC.2.1
  intro S x1 x2 x3 x4 x5 x6 x7 x8 x9 y0 H locs ls hf  hP hS hl
  unfold P_X7_hired_L130 at hf
  refine lv_istore (lv' := [(10, .int y0), (0, .ref (ad 158)), (1, .int x1), (2, .int x2), (3, .int x3), (4, .int x4), (5, .int x5), (6, .int x6), (7, .int x7), (8, .int x8), (9, .int x9)]) hx hb dX7_hired_130 hl (by decide) rfl (fun ls hl => ?_)
  refine lv_iload hx hb dX7_hired_132 (lv_at hl 0 rfl) ?_
  refine lv_if_eq (tgt := 142) hx hb dX7_hired_134 (by decide) (fun c5 => ?_) (fun c5 => ?_)
  · replace hf := ite_t c5 hf
    refine lv_iload hx hb dX7_hired_142 (lv_at hl 5 rfl) ?_
    exact w_X7_hired_L144 hX hk42 _ _ _ _ _ _ _ _ _ _ _ _ _ _ hf  hP hS (lv_sub hl [1, 2, 3, 4, 6, 7, 8, 9, 10, 0] rfl)
  · replace hf := ite_f c5 hf
    refine lv_iload hx hb dX7_hired_137 (lv_at hl 8 rfl) ?_
    refine lv_goto (tgt := 144) hx hb dX7_hired_139 (by decide) ?_
    exact w_X7_hired_L144 hX hk42 _ _ _ _ _ _ _ _ _ _ _ _ _ _ hf  hP hS (lv_sub hl [1, 2, 3, 4, 6, 7, 8, 9, 10, 0] rfl)
def P_X7_hired_L129 (k42 : PSt → Int32 → Int32 → Int32 → Int32 → Int32 → Int32 → Int32 → Option (Int32 × PSt)) (N : Nat) (S : PSt) (x1 : Int32) (x2 : Int32) (x3 : Int32) (x4 : Int32) (x5 : Int32) (x6 : Int32) (x7 : Int32) (x8 : Int32) (x9 : Int32) : Option (Int32 × PSt) := P_X7_hired_L130 k42 N S x1 x2 x3 x4 x5 x6 x7 x8 x9 (0 : Int32)
set_option maxHeartbeats 4000000 in
set_option maxRecDepth 100000 in
theorem w_X7_hired_L129 {N : Nat} {S' : PSt} {r : Int32} (hX : Mx p s m args c meth cX7_hired RX7 11 (some .int) D cy ad tb) {k42 : PSt → Int32 → Int32 → Int32 → Int32 → Int32 → Int32 → Int32 → Option (Int32 × PSt)} (hk42 : ∀ (S : PSt) (x1 : Int32) (x2 : Int32) (x3 : Int32) (x4 : Int32) (x5 : Int32) (x6 : Int32) (x7 : Int32) (H : Heap) (locs : List Loc) (ls : Array Slot), k42 S x1 x2 x3 x4 x5 x6 x7 = some (r, S') → va_P D vwCl (pW cy ad S) H → va_S (pA ad s.heap.size) s.heap H locs → lv_has ls 11 [(0, .ref (ad 158)), (1, .int x1), (2, .int x2), (3, .int x3), (4, .int x4), (5, .int x5), (6, .int x6), (7, .int x7)] → W p l e (rmd 4) s m args below meth c H locs 0 0 (Qz D cy ad below args s S' (some (.int r))) (F0 m 42 ls [])) : ∀ (S : PSt) (x1 : Int32) (x2 : Int32) (x3 : Int32) (x4 : Int32) (x5 : Int32) (x6 : Int32) (x7 : Int32) (x8 : Int32) (x9 : Int32) (H : Heap) (locs : List Loc) (ls : Array Slot), P_X7_hired_L129 k42 N S x1 x2 x3 x4 x5 x6 x7 x8 x9 = some (r, S') → va_P D vwCl (pW cy ad S) H → va_S (pA ad s.heap.size) s.heap H locs → lv_has ls 11 [(0, .ref (ad 158)), (1, .int x1), (2, .int x2), (3, .int x3), (4, .int x4), (5, .int x5), (6, .int x6), (7, .int x7), (8, .int x8), (9, .int x9)] → W p l e (rmd 4) s m args below meth c H locs 0 0 (Qz D cy ad below args s S' (some (.int r))) (F0 m 129 ls []) := by
  have hX0 := hX
  obtain ⟨hC, hml, hr, hlk⟩ := hX0
  have hx := hC.1
  have hb := hC.2.1
  intro S x1 x2 x3 x4 x5 x6 x7 x8 x9 H locs ls hf  hP hS hl
  unfold P_X7_hired_L129 at hf
  refine lv_iconst (v := 0) hx hb dX7_hired_129 (by decide) ?_
  exact w_X7_hired_L130 hX hk42 _ _ _ _ _ _ _ _ _ _ _ _ _ _ hf  hP hS (lv_sub hl [0, 1, 2, 3, 4, 5, 6, 7, 8, 9] rfl)
def P_X7_hired_L125 (k42 : PSt → Int32 → Int32 → Int32 → Int32 → Int32 → Int32 → Int32 → Option (Int32 × PSt)) (N : Nat) (S : PSt) (x1 : Int32) (x2 : Int32) (x3 : Int32) (x4 : Int32) (x5 : Int32) (x6 : Int32) (x7 : Int32) (x8 : Int32) (x9 : Int32) : Option (Int32 × PSt) := P_X7_hired_L130 k42 N S x1 x2 x3 x4 x5 x6 x7 x8 x9 (1 : Int32)
set_option maxHeartbeats 4000000 in
set_option maxRecDepth 100000 in
theorem w_X7_hired_L125 {N : Nat} {S' : PSt} {r : Int32} (hX : Mx p s m args c meth cX7_hired RX7 11 (some .int) D cy ad tb) {k42 : PSt → Int32 → Int32 → Int32 → Int32 → Int32 → Int32 → Int32 → Option (Int32 × PSt)} (hk42 : ∀ (S : PSt) (x1 : Int32) (x2 : Int32) (x3 : Int32) (x4 : Int32) (x5 : Int32) (x6 : Int32) (x7 : Int32) (H : Heap) (locs : List Loc) (ls : Array Slot), k42 S x1 x2 x3 x4 x5 x6 x7 = some (r, S') → va_P D vwCl (pW cy ad S) H → va_S (pA ad s.heap.size) s.heap H locs → lv_has ls 11 [(0, .ref (ad 158)), (1, .int x1), (2, .int x2), (3, .int x3), (4, .int x4), (5, .int x5), (6, .int x6), (7, .int x7)] → W p l e (rmd 4) s m args below meth c H locs 0 0 (Qz D cy ad below args s S' (some (.int r))) (F0 m 42 ls [])) : ∀ (S : PSt) (x1 : Int32) (x2 : Int32) (x3 : Int32) (x4 : Int32) (x5 : Int32) (x6 : Int32) (x7 : Int32) (x8 : Int32) (x9 : Int32) (H : Heap) (locs : List Loc) (ls : Array Slot), P_X7_hired_L125 k42 N S x1 x2 x3 x4 x5 x6 x7 x8 x9 = some (r, S') → va_P D vwCl (pW cy ad S) H → va_S (pA ad s.heap.size) s.heap H locs → lv_has ls 11 [(0, .ref (ad 158)), (1, .int x1), (2, .int x2), (3, .int x3), (4, .int x4), (5, .int x5), (6, .int x6), (7, .int x7), (8, .int x8), (9, .int x9)] → W p l e (rmd 4) s m args below meth c H locs 0 0 (Qz D cy ad below args s S' (some (.int r))) (F0 m 125 ls []) := by
  have hX0 := hX
  obtain ⟨hC, hml, hr, hlk⟩ := hX0
  have hx := hC.1
  have hb := hC.2.1
  intro S x1 x2 x3 x4 x5 x6 x7 x8 x9 H locs ls hf  hP hS hl
  unfold P_X7_hired_L125 at hf
  refine lv_iconst (v := 1) hx hb dX7_hired_125 (by decide) ?_
  refine lv_goto (tgt := 130) hx hb dX7_hired_126 (by decide) ?_
  exact w_X7_hired_L130 hX hk42 _ _ _ _ _ _ _ _ _ _ _ _ _ _ hf  hP hS (lv_sub hl [0, 1, 2, 3, 4, 5, 6, 7, 8, 9] rfl)
def P_X7_hired_L42 (N : Nat) : Nat → PSt → Int32 → Int32 → Int32 → Int32 → Int32 → Int32 → Int32 → Option (Int32 × PSt)
  | 0 => fun _ _ _ _ _ _ _ _ => none
  | n + 1 => fun S x1 x2 x3 x4 x5 x6 x7 => if ((1 : Int32) <<< ((gI S 702 158) &&& 31)) ≤ x7 then (if x3 = (0 : Int32) then (some (x4, S)) else (some (x5, S))) else (cal2 (P_X7_penceOf N S x7) fun r10 S8 => if ((x7 >>> ((gA S8 161 (0 : Int32).toNatClampNeg) &&& 31)) <<< ((gA S8 161 (0 : Int32).toNatClampNeg) &&& 31)) = x7 then (if x2 < r10 then (bnd (x7 + (1 : Int32)) fun v14 => P_X7_hired_L42 N n S8 x1 x2 x3 x4 x5 x6 v14) else (cal2 (P_X7_minutesBy N S8 x1 x7) fun r17 S15 => if x5 = (-9 : Int32) then (P_X7_hired_L125 (P_X7_hired_L42 N n) N S15 x1 x2 x3 x4 x5 x6 x7 r10 r17) else (if r17 < x5 then (P_X7_hired_L125 (P_X7_hired_L42 N n) N S15 x1 x2 x3 x4 x5 x6 x7 r10 r17) else (if r17 = x5 then (if x6 ≤ r10 then (P_X7_hired_L129 (P_X7_hired_L42 N n) N S15 x1 x2 x3 x4 x5 x6 x7 r10 r17) else (P_X7_hired_L125 (P_X7_hired_L42 N n) N S15 x1 x2 x3 x4 x5 x6 x7 r10 r17)) else (P_X7_hired_L129 (P_X7_hired_L42 N n) N S15 x1 x2 x3 x4 x5 x6 x7 r10 r17))))) else (bnd (x7 + (1 : Int32)) fun v12 => P_X7_hired_L42 N n S8 x1 x2 x3 x4 x5 x6 v12))
set_option maxHeartbeats 4000000 in
set_option maxRecDepth 100000 in
theorem w_X7_hired_L42 {N : Nat} {S' : PSt} {r : Int32} (hX : Mx p s m args c meth cX7_hired RX7 11 (some .int) D cy ad tb) : ∀ (n : Nat), ∀ (S : PSt) (x1 : Int32) (x2 : Int32) (x3 : Int32) (x4 : Int32) (x5 : Int32) (x6 : Int32) (x7 : Int32) (H : Heap) (locs : List Loc) (ls : Array Slot), P_X7_hired_L42 N n S x1 x2 x3 x4 x5 x6 x7 = some (r, S') → va_P D vwCl (pW cy ad S) H → va_S (pA ad s.heap.size) s.heap H locs → lv_has ls 11 [(0, .ref (ad 158)), (1, .int x1), (2, .int x2), (3, .int x3), (4, .int x4), (5, .int x5), (6, .int x6), (7, .int x7)] → W p l e (rmd 4) s m args below meth c H locs 0 0 (Qz D cy ad below args s S' (some (.int r))) (F0 m 42 ls []) := by
  have hX0 := hX
  obtain ⟨hC, hml, hr, hlk⟩ := hX0
  have hx := hC.1
  have hb := hC.2.1
  intro n
  induction n with
  | zero => intro S x1 x2 x3 x4 x5 x6 x7 H locs ls hf; exact absurd hf (by intro h; cases h)
  | succ n ih =>
    intro S x1 x2 x3 x4 x5 x6 x7 H locs ls hf  hP hS hl
    rw [P_X7_hired_L42] at hf
    refine lv_iload hx hb dX7_hired_42 (lv_at hl 7 rfl) ?_
    refine lv_iconst (v := 1) hx hb dX7_hired_44 (by decide) ?_
    refine lv_aload_n hx hb dX7_hired_45 rfl (lv_at hl 0 rfl) ?_
    refine gf_X7_76 hC hP k_158 (v := .int (gI S 702 158)) rfl dX7_hired_46 ?_
    refine lv_ishl hx hb dX7_hired_49 ?_
    refine lv_icmp_ge (tgt := 180) hx hb dX7_hired_50 (by decide) (fun c6 => ?_) (fun c6 => ?_)
    · replace hf := ite_t c6 hf
      refine lv_iload_n hx hb dX7_hired_180 rfl (lv_at hl 3 rfl) ?_
      refine lv_if_ne (tgt := 189) hx hb dX7_hired_181 (by decide) (fun c7 => ?_) (fun c7 => ?_)
      · replace hf := ite_f c7 hf
        refine lv_iload hx hb dX7_hired_189 (lv_at hl 5 rfl) ?_
        exact pg_iret hC hr hlk hP hS hf dX7_hired_191
      · replace hf := ite_t c7 hf
        refine lv_iload hx hb dX7_hired_184 (lv_at hl 4 rfl) ?_
        refine lv_goto (tgt := 191) hx hb dX7_hired_186 (by decide) ?_
        exact pg_iret hC hr hlk hP hS hf dX7_hired_191
    · replace hf := ite_f c6 hf
      refine lv_aload_n hx hb dX7_hired_53 rfl (lv_at hl 0 rfl) ?_
      refine lv_iload hx hb dX7_hired_54 (lv_at hl 7 rfl) ?_
      obtain ⟨r10, S8, q9, hf⟩ := cal2_some hf
      refine pg_callV (As := [.int x7]) (rest := []) (st1 := [.int r10]) (ci := 7) hC hml hP hS (c_X7_penceOf l hC.2.2.2.2.2.1 q9) ⟨by decide, by decide, rfl, rfl⟩ ⟨rfl, rfl⟩ (by decide) rfl (by decide) k_158 rfl rfl ⟨mk_X7_203, mi_X7_penceOf⟩ hd_X7_penceOf rfl hl.1 (Nat.le_of_ble_eq_true rfl) dX7_hired_56 (fun H locs hP hS => ?_)
      refine lv_istore (lv' := [(8, .int r10), (0, .ref (ad 158)), (1, .int x1), (2, .int x2), (3, .int x3), (4, .int x4), (5, .int x5), (6, .int x6), (7, .int x7)]) hx hb dX7_hired_59 hl (by decide) rfl (fun ls hl => ?_)
      refine lv_iload hx hb dX7_hired_61 (lv_at hl 8 rfl) ?_
      refine lv_aload_n hx hb dX7_hired_63 rfl (lv_at hl 1 rfl) ?_
      refine gf_X7_20 hC hP k_158 (v := .ref (ad 161)) rfl dX7_hired_64 ?_
      refine lv_iconst (v := 0) hx hb dX7_hired_67 (by decide) ?_
      refine pg_iald hC hP k_161 (bin_in (by decide +kernel)) dX7_hired_68 ?_
      refine lv_ishr hx hb dX7_hired_69 ?_
      refine lv_aload_n hx hb dX7_hired_70 rfl (lv_at hl 1 rfl) ?_
      refine gf_X7_20 hC hP k_158 (v := .ref (ad 161)) rfl dX7_hired_71 ?_
      refine lv_iconst (v := 0) hx hb dX7_hired_74 (by decide) ?_
      refine pg_iald hC hP k_161 (bin_in (by decide +kernel)) dX7_hired_75 ?_
      refine lv_ishl hx hb dX7_hired_76 ?_
      refine lv_iload hx hb dX7_hired_77 (lv_at hl 8 rfl) ?_
      refine lv_icmp_ne (tgt := 174) hx hb dX7_hired_79 (by decide) (fun c11 => ?_) (fun c11 => ?_)
      · replace hf := ite_f c11 hf
        obtain ⟨v12, ev12, hf⟩ := bnd_some hf
        refine lv_iinc (v := v12) (lv' := [(7, .int v12), (8, .int r10), (0, .ref (ad 158)), (1, .int x1), (2, .int x2), (3, .int x3), (4, .int x4), (5, .int x5), (6, .int x6)]) hx hb dX7_hired_174 hl (k := 8) rfl (by rw [ev12]; rfl) (by decide) rfl (fun ls hl => ?_)
        refine lv_goto (tgt := 42) hx hb dX7_hired_177 (by decide) ?_
        exact ih _ _ _ _ _ _ _ _ _ _ _ hf  hP hS (lv_sub hl [2, 3, 4, 5, 6, 7, 8, 0] rfl)
      · replace hf := ite_t c11 hf
        refine lv_iload hx hb dX7_hired_82 (lv_at hl 0 rfl) ?_
        refine lv_iload_n hx hb dX7_hired_84 rfl (lv_at hl 3 rfl) ?_
        refine lv_icmp_gt (tgt := 174) hx hb dX7_hired_85 (by decide) (fun c13 => ?_) (fun c13 => ?_)
        · replace hf := ite_t c13 hf
          obtain ⟨v14, ev14, hf⟩ := bnd_some hf
          refine lv_iinc (v := v14) (lv' := [(7, .int v14), (8, .int r10), (0, .ref (ad 158)), (1, .int x1), (2, .int x2), (3, .int x3), (4, .int x4), (5, .int x5), (6, .int x6)]) hx hb dX7_hired_174 hl (k := 8) rfl (by rw [ev14]; rfl) (by decide) rfl (fun ls hl => ?_)
          refine lv_goto (tgt := 42) hx hb dX7_hired_177 (by decide) ?_
          exact ih _ _ _ _ _ _ _ _ _ _ _ hf  hP hS (lv_sub hl [2, 3, 4, 5, 6, 7, 8, 0] rfl)
        · replace hf := ite_f c13 hf
          refine lv_aload_n hx hb dX7_hired_88 rfl (lv_at hl 1 rfl) ?_
          refine lv_iload_n hx hb dX7_hired_89 rfl (lv_at hl 2 rfl) ?_
          refine lv_iload hx hb dX7_hired_90 (lv_at hl 8 rfl) ?_
          obtain ⟨r17, S15, q16, hf⟩ := cal2_some hf
          refine pg_callV (As := [.int x1, .int x7]) (rest := []) (st1 := [.int r17]) (ci := 7) hC hml hP hS (c_X7_minutesBy l hC.2.2.2.2.2.1 q16) ⟨by decide, by decide, rfl, rfl⟩ ⟨rfl, rfl⟩ (by decide) rfl (by decide) k_158 rfl rfl ⟨mk_X7_206, mi_X7_minutesBy⟩ hd_X7_minutesBy rfl hl.1 (Nat.le_of_ble_eq_true rfl) dX7_hired_92 (fun H locs hP hS => ?_)
          refine lv_istore (lv' := [(9, .int r17), (8, .int r10), (0, .ref (ad 158)), (1, .int x1), (2, .int x2), (3, .int x3), (4, .int x4), (5, .int x5), (6, .int x6), (7, .int x7)]) hx hb dX7_hired_95 hl (by decide) rfl (fun ls hl => ?_)
          refine lv_iload hx hb dX7_hired_97 (lv_at hl 7 rfl) ?_
          refine lv_bipush (v := -9) hx hb dX7_hired_99 (by decide) ?_
          refine lv_icmp_eq (tgt := 125) hx hb dX7_hired_101 (by decide) (fun c18 => ?_) (fun c18 => ?_)
          · replace hf := ite_t c18 hf
            exact w_X7_hired_L125 hX ih _ _ _ _ _ _ _ _ _ _ _ _ _ hf  hP hS (lv_sub hl [2, 3, 4, 5, 6, 7, 8, 9, 1, 0] rfl)
          · replace hf := ite_f c18 hf
            refine lv_iload hx hb dX7_hired_104 (lv_at hl 0 rfl) ?_
            refine lv_iload hx hb dX7_hired_106 (lv_at hl 7 rfl) ?_
            refine lv_icmp_lt (tgt := 125) hx hb dX7_hired_108 (by decide) (fun c19 => ?_) (fun c19 => ?_)
            · replace hf := ite_t c19 hf
              exact w_X7_hired_L125 hX ih _ _ _ _ _ _ _ _ _ _ _ _ _ hf  hP hS (lv_sub hl [2, 3, 4, 5, 6, 7, 8, 9, 1, 0] rfl)
            · replace hf := ite_f c19 hf
              refine lv_iload hx hb dX7_hired_111 (lv_at hl 0 rfl) ?_
              refine lv_iload hx hb dX7_hired_113 (lv_at hl 7 rfl) ?_
              refine lv_icmp_ne (tgt := 129) hx hb dX7_hired_115 (by decide) (fun c20 => ?_) (fun c20 => ?_)
              · replace hf := ite_f c20 hf
                exact w_X7_hired_L129 hX ih _ _ _ _ _ _ _ _ _ _ _ _ _ hf  hP hS (lv_sub hl [2, 3, 4, 5, 6, 7, 8, 9, 1, 0] rfl)
              · replace hf := ite_t c20 hf
                refine lv_iload hx hb dX7_hired_118 (lv_at hl 1 rfl) ?_
                refine lv_iload hx hb dX7_hired_120 (lv_at hl 8 rfl) ?_
                refine lv_icmp_ge (tgt := 129) hx hb dX7_hired_122 (by decide) (fun c21 => ?_) (fun c21 => ?_)
                · replace hf := ite_t c21 hf
                  exact w_X7_hired_L129 hX ih _ _ _ _ _ _ _ _ _ _ _ _ _ hf  hP hS (lv_sub hl [2, 3, 4, 5, 6, 7, 8, 9, 1, 0] rfl)
                · replace hf := ite_f c21 hf
                  exact w_X7_hired_L125 hX ih _ _ _ _ _ _ _ _ _ _ _ _ _ hf  hP hS (lv_sub hl [2, 3, 4, 5, 6, 7, 8, 9, 1, 0] rfl)
def P_X7_hired (N : Nat) (S : PSt) (x1 : Int32) (x2 : Int32) (x3 : Int32) : Option (Int32 × PSt) := cal2 (P_X7_isPair N S x1) fun r24 S22 => if r24 = (0 : Int32) then (some ((-1 : Int32), S22)) else (cal2 (P_X7_in N S22 x2 (0 : Int32) (99 : Int32)) fun r28 S26 => if r28 = (0 : Int32) then (some ((-1 : Int32), S26)) else (cal2 (P_X7_in N S26 x3 (0 : Int32) (1 : Int32)) fun r32 S30 => if r32 = (0 : Int32) then (some ((-1 : Int32), S30)) else (P_X7_hired_L42 N N S30 x1 x2 x3 (0 : Int32) (-9 : Int32) (0 : Int32) (0 : Int32))))
set_option maxHeartbeats 4000000 in
set_option maxRecDepth 100000 in
theorem c_X7_hired (l : Launch) {D : va_G} {cy : Nat → ClassId} {ad tb : Nat → Nat} (hJ : pJ ad) {N : Nat} {S S' : PSt} {x1 : Int32} {x2 : Int32} {x3 : Int32} {r : Int32} (hf : P_X7_hired N S x1 x2 x3 = some (r, S')) : Ct l 4 yX7_hired cX7_hired 11 (some .int) D cy ad tb S S' [.ref (ad 158), .int x1, .int x2, .int x3] (some (.int r)) := by
  refine Ct_of hJ (by decide) (Nat.le_of_ble_eq_true rfl) (fun p e s m below meth c ls hX hP hS hl => ?_)
  have hl : lv_has ls 11 [(0, .ref (ad 158)), (1, .int x1), (2, .int x2), (3, .int x3)] := hl
  have hX0 := hX
  obtain ⟨hC, hml, hr, hlk⟩ := hX0
  have hx := hC.1
  have hb := hC.2.1
  unfold P_X7_hired at hf
  refine lv_aload_n hx hb dX7_hired_0 rfl (lv_at hl 0 rfl) ?_
  refine lv_iload_n hx hb dX7_hired_1 rfl (lv_at hl 1 rfl) ?_
  obtain ⟨r24, S22, q23, hf⟩ := cal2_some hf
  refine pg_callV (As := [.int x1]) (rest := []) (st1 := [.int r24]) (ci := 7) hC hml hP hS (c_X7_isPair l hC.2.2.2.2.2.1 q23) ⟨by decide, by decide, rfl, rfl⟩ ⟨rfl, rfl⟩ (by decide) rfl (by decide) k_158 rfl rfl ⟨mk_X7_164, mi_X7_isPair⟩ hd_X7_isPair rfl hl.1 (Nat.le_of_ble_eq_true rfl) dX7_hired_2 (fun H locs hP hS => ?_)
  refine lv_if_eq (tgt := 27) hx hb dX7_hired_5 (by decide) (fun c25 => ?_) (fun c25 => ?_)
  · replace hf := ite_t c25 hf
    refine lv_iconst (v := -1) hx hb dX7_hired_27 (by decide) ?_
    exact pg_iret hC hr hlk hP hS hf dX7_hired_28
  · replace hf := ite_f c25 hf
    refine lv_iload_n hx hb dX7_hired_8 rfl (lv_at hl 2 rfl) ?_
    refine lv_iconst (v := 0) hx hb dX7_hired_9 (by decide) ?_
    refine lv_bipush (v := 99) hx hb dX7_hired_10 (by decide) ?_
    obtain ⟨r28, S26, q27, hf⟩ := cal2_some hf
    refine pg_callS (As := [.int x2, .int (0 : Int32), .int (99 : Int32)]) (rest := []) (st1 := [.int r28]) hC hml hP hS (c_X7_in l hC.2.2.2.2.2.1 q27) ⟨by decide, by decide, rfl, rfl⟩ ⟨rfl, rfl⟩ (by decide) rfl rfl ⟨mk_X7_72, mi_X7_in⟩ hd_X7_in rfl hl.1 (Nat.le_of_ble_eq_true rfl) dX7_hired_12 (fun H locs hP hS => ?_)
    refine lv_if_eq (tgt := 27) hx hb dX7_hired_15 (by decide) (fun c29 => ?_) (fun c29 => ?_)
    · replace hf := ite_t c29 hf
      refine lv_iconst (v := -1) hx hb dX7_hired_27 (by decide) ?_
      exact pg_iret hC hr hlk hP hS hf dX7_hired_28
    · replace hf := ite_f c29 hf
      refine lv_iload_n hx hb dX7_hired_18 rfl (lv_at hl 3 rfl) ?_
      refine lv_iconst (v := 0) hx hb dX7_hired_19 (by decide) ?_
      refine lv_iconst (v := 1) hx hb dX7_hired_20 (by decide) ?_
      obtain ⟨r32, S30, q31, hf⟩ := cal2_some hf
      refine pg_callS (As := [.int x3, .int (0 : Int32), .int (1 : Int32)]) (rest := []) (st1 := [.int r32]) hC hml hP hS (c_X7_in l hC.2.2.2.2.2.1 q31) ⟨by decide, by decide, rfl, rfl⟩ ⟨rfl, rfl⟩ (by decide) rfl rfl ⟨mk_X7_72, mi_X7_in⟩ hd_X7_in rfl hl.1 (Nat.le_of_ble_eq_true rfl) dX7_hired_21 (fun H locs hP hS => ?_)
      refine lv_if_ne (tgt := 29) hx hb dX7_hired_24 (by decide) (fun c33 => ?_) (fun c33 => ?_)
      · replace hf := ite_f c33 hf
        refine lv_iconst (v := 0) hx hb dX7_hired_29 (by decide) ?_
        refine lv_istore (lv' := [(4, .int (0 : Int32)), (0, .ref (ad 158)), (1, .int x1), (2, .int x2), (3, .int x3)]) hx hb dX7_hired_30 hl (by decide) rfl (fun ls hl => ?_)
        refine lv_bipush (v := -9) hx hb dX7_hired_32 (by decide) ?_
        refine lv_istore (lv' := [(5, .int (-9 : Int32)), (4, .int (0 : Int32)), (0, .ref (ad 158)), (1, .int x1), (2, .int x2), (3, .int x3)]) hx hb dX7_hired_34 hl (by decide) rfl (fun ls hl => ?_)
        refine lv_iconst (v := 0) hx hb dX7_hired_36 (by decide) ?_
        refine lv_istore (lv' := [(6, .int (0 : Int32)), (5, .int (-9 : Int32)), (4, .int (0 : Int32)), (0, .ref (ad 158)), (1, .int x1), (2, .int x2), (3, .int x3)]) hx hb dX7_hired_37 hl (by decide) rfl (fun ls hl => ?_)
        refine lv_iconst (v := 0) hx hb dX7_hired_39 (by decide) ?_
        refine lv_istore (lv' := [(7, .int (0 : Int32)), (6, .int (0 : Int32)), (5, .int (-9 : Int32)), (4, .int (0 : Int32)), (0, .ref (ad 158)), (1, .int x1), (2, .int x2), (3, .int x3)]) hx hb dX7_hired_40 hl (by decide) rfl (fun ls hl => ?_)
        exact w_X7_hired_L42 hX _ _ _ _ _ _ _ _ _ _ _ _ hf  hP hS (lv_sub hl [4, 5, 6, 7, 3, 2, 1, 0] rfl)
      · replace hf := ite_t c33 hf
        refine lv_iconst (v := -1) hx hb dX7_hired_27 (by decide) ?_
        exact pg_iret hC hr hlk hP hS hf dX7_hired_28
def P_X7_goIn_L18 (N : Nat) : Nat → PSt → Int32 → Int32 → Option (Int32 × PSt)
  | 0 => fun _ _ _ => none
  | n + 1 => fun S x2 x3 => if (200 : Int32) < x3 then (some ((-9 : Int32), S)) else (bnd ((gA S 161 (1 : Int32).toNatClampNeg) + x3) fun v2 => if (gI S 705 158) = (0 : Int32) then (some (x3, S)) else (cal2 (P_X7_isFree N S v2) fun r6 S4 => if r6 = (0 : Int32) then (bnd (x3 + (1 : Int32)) fun v8 => P_X7_goIn_L18 N n S4 x2 v8) else (gd (nz (gI S4 705 158)) <| if (gI S4 705 158) < ((v2 - v2 / (gI S4 705 158) * (gI S4 705 158)) + x2) then (bnd (x3 + (1 : Int32)) fun v11 => P_X7_goIn_L18 N n S4 x2 v11) else (some (x3, S4)))))
set_option maxHeartbeats 4000000 in
set_option maxRecDepth 100000 in
theorem w_X7_goIn_L18 {N : Nat} {S' : PSt} {r : Int32} (hX : Mx p s m args c meth cX7_goIn RX7 5 (some .int) D cy ad tb) : ∀ (n : Nat), ∀ (S : PSt) (x2 : Int32) (x3 : Int32) (H : Heap) (locs : List Loc) (ls : Array Slot), P_X7_goIn_L18 N n S x2 x3 = some (r, S') → va_P D vwCl (pW cy ad S) H → va_S (pA ad s.heap.size) s.heap H locs → lv_has ls 5 [(0, .ref (ad 158)), (2, .int x2), (3, .int x3)] → W p l e (rmd 5) s m args below meth c H locs 0 0 (Qz D cy ad below args s S' (some (.int r))) (F0 m 18 ls []) := by
  have hX0 := hX
  obtain ⟨hC, hml, hr, hlk⟩ := hX0
  have hx := hC.1
  have hb := hC.2.1
  intro n
  induction n with
  | zero => intro S x2 x3 H locs ls hf; exact absurd hf (by intro h; cases h)
  | succ n ih =>
    intro S x2 x3 H locs ls hf  hP hS hl
    rw [P_X7_goIn_L18] at hf
    refine lv_iload_n hx hb dX7_goIn_18 rfl (lv_at hl 2 rfl) ?_
    refine lv_sipush (v := 200) hx hb dX7_goIn_19 (by decide) ?_
    refine lv_icmp_gt (tgt := 75) hx hb dX7_goIn_22 (by decide) (fun c1 => ?_) (fun c1 => ?_)
    · replace hf := ite_t c1 hf
      refine lv_bipush (v := -9) hx hb dX7_goIn_75 (by decide) ?_
      exact pg_iret hC hr hlk hP hS hf dX7_goIn_77
    · replace hf := ite_f c1 hf
      refine lv_aload_n hx hb dX7_goIn_25 rfl (lv_at hl 0 rfl) ?_
      refine gf_X7_20 hC hP k_158 (v := .ref (ad 161)) rfl dX7_goIn_26 ?_
      refine lv_iconst (v := 1) hx hb dX7_goIn_29 (by decide) ?_
      refine pg_iald hC hP k_161 (bin_in (by decide +kernel)) dX7_goIn_30 ?_
      refine lv_iload_n hx hb dX7_goIn_31 rfl (lv_at hl 2 rfl) ?_
      refine lv_iadd hx hb dX7_goIn_32 ?_
      obtain ⟨v2, ev2, hf⟩ := bnd_some hf
      refine pg_top ev2 ?_
      refine lv_istore (lv' := [(4, .int v2), (0, .ref (ad 158)), (2, .int x2), (3, .int x3)]) hx hb dX7_goIn_33 hl (by decide) rfl (fun ls hl => ?_)
      refine lv_aload_n hx hb dX7_goIn_35 rfl (lv_at hl 1 rfl) ?_
      refine gf_X7_134 hC hP k_158 (v := .int (gI S 705 158)) rfl dX7_goIn_36 ?_
      refine lv_if_eq (tgt := 67) hx hb dX7_goIn_39 (by decide) (fun c3 => ?_) (fun c3 => ?_)
      · replace hf := ite_t c3 hf
        refine lv_iload_n hx hb dX7_goIn_67 rfl (lv_at hl 3 rfl) ?_
        exact pg_iret hC hr hlk hP hS hf dX7_goIn_68
      · replace hf := ite_f c3 hf
        refine lv_aload_n hx hb dX7_goIn_42 rfl (lv_at hl 1 rfl) ?_
        refine lv_iload hx hb dX7_goIn_43 (lv_at hl 0 rfl) ?_
        obtain ⟨r6, S4, q5, hf⟩ := cal2_some hf
        refine pg_callV (As := [.int v2]) (rest := []) (st1 := [.int r6]) (ci := 7) hC hml hP hS (c_X7_isFree l hC.2.2.2.2.2.1 q5) ⟨by decide, by decide, rfl, rfl⟩ ⟨rfl, rfl⟩ (by decide) rfl (by decide) k_158 rfl rfl ⟨mk_X7_173, mi_X7_isFree⟩ hd_X7_isFree rfl hl.1 (Nat.le_of_ble_eq_true rfl) dX7_goIn_45 (fun H locs hP hS => ?_)
        refine lv_if_eq (tgt := 69) hx hb dX7_goIn_48 (by decide) (fun c7 => ?_) (fun c7 => ?_)
        · replace hf := ite_t c7 hf
          obtain ⟨v8, ev8, hf⟩ := bnd_some hf
          refine lv_iinc (v := v8) (lv' := [(3, .int v8), (4, .int v2), (0, .ref (ad 158)), (2, .int x2)]) hx hb dX7_goIn_69 hl (k := 3) rfl (by rw [ev8]; rfl) (by decide) rfl (fun ls hl => ?_)
          refine lv_goto (tgt := 18) hx hb dX7_goIn_72 (by decide) ?_
          exact ih _ _ _ _ _ _ hf  hP hS (lv_sub hl [2, 3, 0] rfl)
        · replace hf := ite_f c7 hf
          refine lv_iload hx hb dX7_goIn_51 (lv_at hl 0 rfl) ?_
          refine lv_aload_n hx hb dX7_goIn_53 rfl (lv_at hl 1 rfl) ?_
          refine gf_X7_134 hC hP k_158 (v := .int (gI S4 705 158)) rfl dX7_goIn_54 ?_
          obtain ⟨h9, hf⟩ := gd_some hf
          refine lv_irem hx hb dX7_goIn_57 (nz_ne h9) ?_
          refine lv_iload_n hx hb dX7_goIn_58 rfl (lv_at hl 2 rfl) ?_
          refine lv_iadd hx hb dX7_goIn_59 ?_
          refine lv_aload_n hx hb dX7_goIn_60 rfl (lv_at hl 1 rfl) ?_
          refine gf_X7_134 hC hP k_158 (v := .int (gI S4 705 158)) rfl dX7_goIn_61 ?_
          refine lv_icmp_gt (tgt := 69) hx hb dX7_goIn_64 (by decide) (fun c10 => ?_) (fun c10 => ?_)
          · replace hf := ite_t c10 hf
            obtain ⟨v11, ev11, hf⟩ := bnd_some hf
            refine lv_iinc (v := v11) (lv' := [(3, .int v11), (4, .int v2), (0, .ref (ad 158)), (2, .int x2)]) hx hb dX7_goIn_69 hl (k := 3) rfl (by rw [ev11]; rfl) (by decide) rfl (fun ls hl => ?_)
            refine lv_goto (tgt := 18) hx hb dX7_goIn_72 (by decide) ?_
            exact ih _ _ _ _ _ _ hf  hP hS (lv_sub hl [2, 3, 0] rfl)
          · replace hf := ite_f c10 hf
            refine lv_iload_n hx hb dX7_goIn_67 rfl (lv_at hl 3 rfl) ?_
            exact pg_iret hC hr hlk hP hS hf dX7_goIn_68
def P_X7_goIn (N : Nat) (S : PSt) (x1 : Int32) : Option (Int32 × PSt) := cal2 (P_X7_isPair N S x1) fun r14 S12 => if r14 = (0 : Int32) then (some ((-1 : Int32), S12)) else (cal2 (P_X7_walksAll N S12 x1) fun r18 S16 => P_X7_goIn_L18 N N S16 r18 (0 : Int32))
set_option maxHeartbeats 4000000 in
set_option maxRecDepth 100000 in
theorem c_X7_goIn (l : Launch) {D : va_G} {cy : Nat → ClassId} {ad tb : Nat → Nat} (hJ : pJ ad) {N : Nat} {S S' : PSt} {x1 : Int32} {r : Int32} (hf : P_X7_goIn N S x1 = some (r, S')) : Ct l 5 yX7_goIn cX7_goIn 5 (some .int) D cy ad tb S S' [.ref (ad 158), .int x1] (some (.int r)) := by
  refine Ct_of hJ (by decide) (Nat.le_of_ble_eq_true rfl) (fun p e s m below meth c ls hX hP hS hl => ?_)
  have hl : lv_has ls 5 [(0, .ref (ad 158)), (1, .int x1)] := hl
  have hX0 := hX
  obtain ⟨hC, hml, hr, hlk⟩ := hX0
  have hx := hC.1
  have hb := hC.2.1
  unfold P_X7_goIn at hf
  refine lv_aload_n hx hb dX7_goIn_0 rfl (lv_at hl 0 rfl) ?_
  refine lv_iload_n hx hb dX7_goIn_1 rfl (lv_at hl 1 rfl) ?_
  obtain ⟨r14, S12, q13, hf⟩ := cal2_some hf
  refine pg_callV (As := [.int x1]) (rest := []) (st1 := [.int r14]) (ci := 7) hC hml hP hS (c_X7_isPair l hC.2.2.2.2.2.1 q13) ⟨by decide, by decide, rfl, rfl⟩ ⟨rfl, rfl⟩ (by decide) rfl (by decide) k_158 rfl rfl ⟨mk_X7_164, mi_X7_isPair⟩ hd_X7_isPair rfl hl.1 (Nat.le_of_ble_eq_true rfl) dX7_goIn_2 (fun H locs hP hS => ?_)
  refine lv_if_ne (tgt := 10) hx hb dX7_goIn_5 (by decide) (fun c15 => ?_) (fun c15 => ?_)
  · replace hf := ite_f c15 hf
    refine lv_aload_n hx hb dX7_goIn_10 rfl (lv_at hl 0 rfl) ?_
    refine lv_iload_n hx hb dX7_goIn_11 rfl (lv_at hl 1 rfl) ?_
    obtain ⟨r18, S16, q17, hf⟩ := cal2_some hf
    refine pg_callV (As := [.int x1]) (rest := []) (st1 := [.int r18]) (ci := 7) hC hml hP hS (c_X7_walksAll l hC.2.2.2.2.2.1 q17) ⟨by decide, by decide, rfl, rfl⟩ ⟨rfl, rfl⟩ (by decide) rfl (by decide) k_158 rfl rfl ⟨mk_X7_212, mi_X7_walksAll⟩ hd_X7_walksAll rfl hl.1 (Nat.le_of_ble_eq_true rfl) dX7_goIn_12 (fun H locs hP hS => ?_)
    refine lv_istore_n (lv' := [(2, .int r18), (0, .ref (ad 158)), (1, .int x1)]) hx hb dX7_goIn_15 rfl hl (by decide) rfl (fun ls hl => ?_)
    refine lv_iconst (v := 0) hx hb dX7_goIn_16 (by decide) ?_
    refine lv_istore_n (lv' := [(3, .int (0 : Int32)), (2, .int r18), (0, .ref (ad 158)), (1, .int x1)]) hx hb dX7_goIn_17 rfl hl (by decide) rfl (fun ls hl => ?_)
    exact w_X7_goIn_L18 hX _ _ _ _ _ _ _ hf  hP hS (lv_sub hl [2, 1, 0] rfl)
  · replace hf := ite_t c15 hf
    refine lv_iconst (v := -1) hx hb dX7_goIn_8 (by decide) ?_
    exact pg_iret hC hr hlk hP hS hf dX7_goIn_9
def P_X7_meets_L167 (k58 : PSt → Int32 → Int32 → Int32 → Int32 → Int32 → Option (Int32 × PSt)) (N : Nat) (S : PSt) (x2 : Int32) (x3 : Int32) (x4 : Int32) (x5 : Int32) (x6 : Int32) (x7 : Int32) (y0 : Int32) : Option (Int32 × PSt) := if y0 = (0 : Int32) then (gd (bin ((4 : Int32) * x6) (ln 160)) <| bnd (x5 + (gA S 160 ((4 : Int32) * x6).toNatClampNeg)) fun v3 => bnd (x6 + (1 : Int32)) fun v4 => k58 S x2 x3 x4 v3 v4) else (if x4 = (0 : Int32) then (some (x6, S)) else (if x7 ≤ x5 then (some ((1 : Int32), S)) else (some ((0 : Int32), S))))
set_option maxHeartbeats 4000000 in
set_option maxRecDepth 100000 in
theorem w_X7_meets_L167 {N : Nat} {S' : PSt} {r : Int32} (hX : Mx p s m args c meth cX7_meets RX7 11 (some .int) D cy ad tb) {k58 : PSt → Int32 → Int32 → Int32 → Int32 → Int32 → Option (Int32 × PSt)} (hk58 : ∀ (S : PSt) (x2 : Int32) (x3 : Int32) (x4 : Int32) (x5 : Int32) (x6 : Int32) (H : Heap) (locs : List Loc) (ls : Array Slot), k58 S x2 x3 x4 x5 x6 = some (r, S') → va_P D vwCl (pW cy ad S) H → va_S (pA ad s.heap.size) s.heap H locs → lv_has ls 11 [(0, .ref (ad 158)), (2, .int x2), (3, .int x3), (4, .int x4), (5, .int x5), (6, .int x6)] → W p l e (rmd 5) s m args below meth c H locs 0 0 (Qz D cy ad below args s S' (some (.int r))) (F0 m 58 ls [])) : ∀ (S : PSt) (x2 : Int32) (x3 : Int32) (x4 : Int32) (x5 : Int32) (x6 : Int32) (x7 : Int32) (y0 : Int32) (H : Heap) (locs : List Loc) (ls : Array Slot), P_X7_meets_L167 k58 N S x2 x3 x4 x5 x6 x7 y0 = some (r, S') → va_P D vwCl (pW cy ad S) H → va_S (pA ad s.heap.size) s.heap H locs → lv_has ls 11 [(0, .ref (ad 158)), (2, .int x2), (3, .int x3), (4, .int x4), (5, .int x5), (6, .int x6), (7, .int x7)] → W p l e (rmd 5) s m args below meth c H locs 0 0 (Qz D cy ad below args s S' (some (.int r))) (F0 m 167 ls [.int y0]) := by
  have hX0 := hX
  obtain ⟨hC, hml, hr, hlk⟩ := hX0
  have hx := hC.1
  have hb := hC.2.1
  intro S x2 x3 x4 x5 x6 x7 y0 H locs ls hf  hP hS hl
  unfold P_X7_meets_L167 at hf
  refine lv_istore (lv' := [(10, .int y0), (0, .ref (ad 158)), (2, .int x2), (3, .int x3), (4, .int x4), (5, .int x5), (6, .int x6), (7, .int x7)]) hx hb dX7_meets_167 hl (by decide) rfl (fun ls hl => ?_)
  refine lv_iload hx hb dX7_meets_169 (lv_at hl 0 rfl) ?_
  refine lv_if_eq (tgt := 197) hx hb dX7_meets_171 (by decide) (fun c1 => ?_) (fun c1 => ?_)
  · replace hf := ite_t c1 hf
    refine lv_iload hx hb dX7_meets_197 (lv_at hl 5 rfl) ?_
    refine lv_aload_n hx hb dX7_meets_199 rfl (lv_at hl 1 rfl) ?_
    refine gf_X7_13 hC hP k_158 (v := .ref (ad 160)) rfl dX7_meets_200 ?_
    refine lv_iconst (v := 4) hx hb dX7_meets_203 (by decide) ?_
    refine lv_iload hx hb dX7_meets_204 (lv_at hl 6 rfl) ?_
    refine lv_imul hx hb dX7_meets_206 ?_
    obtain ⟨h2, hf⟩ := gd_some hf
    refine pg_iald hC hP k_160 (bin_in h2) dX7_meets_207 ?_
    refine lv_iadd hx hb dX7_meets_208 ?_
    obtain ⟨v3, ev3, hf⟩ := bnd_some hf
    refine pg_top ev3 ?_
    refine lv_istore (lv' := [(5, .int v3), (10, .int y0), (0, .ref (ad 158)), (2, .int x2), (3, .int x3), (4, .int x4), (6, .int x6), (7, .int x7)]) hx hb dX7_meets_209 hl (by decide) rfl (fun ls hl => ?_)
    obtain ⟨v4, ev4, hf⟩ := bnd_some hf
    refine lv_iinc (v := v4) (lv' := [(6, .int v4), (5, .int v3), (10, .int y0), (0, .ref (ad 158)), (2, .int x2), (3, .int x3), (4, .int x4), (7, .int x7)]) hx hb dX7_meets_211 hl (k := 6) rfl (by rw [ev4]; rfl) (by decide) rfl (fun ls hl => ?_)
    refine lv_goto (tgt := 58) hx hb dX7_meets_214 (by decide) ?_
    exact hk58 _ _ _ _ _ _ _ _ _ hf  hP hS (lv_sub hl [3, 4, 5, 6, 1, 0] rfl)
  · replace hf := ite_f c1 hf
    refine lv_iload hx hb dX7_meets_174 (lv_at hl 4 rfl) ?_
    refine lv_if_ne (tgt := 184) hx hb dX7_meets_176 (by decide) (fun c5 => ?_) (fun c5 => ?_)
    · replace hf := ite_f c5 hf
      refine lv_iload hx hb dX7_meets_184 (lv_at hl 5 rfl) ?_
      refine lv_iload hx hb dX7_meets_186 (lv_at hl 7 rfl) ?_
      refine lv_icmp_ge (tgt := 195) hx hb dX7_meets_188 (by decide) (fun c6 => ?_) (fun c6 => ?_)
      · replace hf := ite_t c6 hf
        refine lv_iconst (v := 1) hx hb dX7_meets_195 (by decide) ?_
        exact pg_iret hC hr hlk hP hS hf dX7_meets_196
      · replace hf := ite_f c6 hf
        refine lv_iconst (v := 0) hx hb dX7_meets_191 (by decide) ?_
        refine lv_goto (tgt := 196) hx hb dX7_meets_192 (by decide) ?_
        exact pg_iret hC hr hlk hP hS hf dX7_meets_196
    · replace hf := ite_t c5 hf
      refine lv_iload hx hb dX7_meets_179 (lv_at hl 6 rfl) ?_
      refine lv_goto (tgt := 196) hx hb dX7_meets_181 (by decide) ?_
      exact pg_iret hC hr hlk hP hS hf dX7_meets_196
def P_X7_meets_L166 (k58 : PSt → Int32 → Int32 → Int32 → Int32 → Int32 → Option (Int32 × PSt)) (N : Nat) (S : PSt) (x2 : Int32) (x3 : Int32) (x4 : Int32) (x5 : Int32) (x6 : Int32) (x7 : Int32) : Option (Int32 × PSt) := P_X7_meets_L167 k58 N S x2 x3 x4 x5 x6 x7 (0 : Int32)
set_option maxHeartbeats 4000000 in
set_option maxRecDepth 100000 in
theorem w_X7_meets_L166 {N : Nat} {S' : PSt} {r : Int32} (hX : Mx p s m args c meth cX7_meets RX7 11 (some .int) D cy ad tb) {k58 : PSt → Int32 → Int32 → Int32 → Int32 → Int32 → Option (Int32 × PSt)} (hk58 : ∀ (S : PSt) (x2 : Int32) (x3 : Int32) (x4 : Int32) (x5 : Int32) (x6 : Int32) (H : Heap) (locs : List Loc) (ls : Array Slot), k58 S x2 x3 x4 x5 x6 = some (r, S') → va_P D vwCl (pW cy ad S) H → va_S (pA ad s.heap.size) s.heap H locs → lv_has ls 11 [(0, .ref (ad 158)), (2, .int x2), (3, .int x3), (4, .int x4), (5, .int x5), (6, .int x6)] → W p l e (rmd 5) s m args below meth c H locs 0 0 (Qz D cy ad below args s S' (some (.int r))) (F0 m 58 ls [])) : ∀ (S : PSt) (x2 : Int32) (x3 : Int32) (x4 : Int32) (x5 : Int32) (x6 : Int32) (x7 : Int32) (H : Heap) (locs : List Loc) (ls : Array Slot), P_X7_meets_L166 k58 N S x2 x3 x4 x5 x6 x7 = some (r, S') → va_P D vwCl (pW cy ad S) H → va_S (pA ad s.heap.size) s.heap H locs → lv_has ls 11 [(0, .ref (ad 158)), (2, .int x2), (3, .int x3), (4, .int x4), (5, .int x5), (6, .int x6), (7, .int x7)] → W p l e (rmd 5) s m args below meth c H locs 0 0 (Qz D cy ad below args s S' (some (.int r))) (F0 m 166 ls []) := by
  have hX0 := hX
  obtain ⟨hC, hml, hr, hlk⟩ := hX0
  have hx := hC.1
  have hb := hC.2.1
  intro S x2 x3 x4 x5 x6 x7 H locs ls hf  hP hS hl
  unfold P_X7_meets_L166 at hf
  refine lv_iconst (v := 0) hx hb dX7_meets_166 (by decide) ?_
  exact w_X7_meets_L167 hX hk58 _ _ _ _ _ _ _ _ _ _ _ hf  hP hS (lv_sub hl [0, 1, 2, 3, 4, 5, 6] rfl)
def P_X7_meets_L76 (k58 : PSt → Int32 → Int32 → Int32 → Int32 → Int32 → Option (Int32 × PSt)) (N : Nat) : Nat → PSt → Int32 → Int32 → Int32 → Int32 → Int32 → Int32 → Int32 → Option (Int32 × PSt)
  | 0 => fun _ _ _ _ _ _ _ _ => none
  | n + 1 => fun S x2 x3 x4 x5 x6 x7 x8 => if (gI S 702 158) ≤ x8 then (bnd (x6 - (gA S 161 (0 : Int32).toNatClampNeg)) fun v8 => bnd (x2 + (x3 * x7)) fun v9 => gd (bin v8 (ln 171)) <| gd (bin ((4 : Int32) * x6) (ln 160)) <| if (v9 + (x3 * (gA S 160 ((4 : Int32) * x6).toNatClampNeg))) < (gA S 171 v8.toNatClampNeg) then (P_X7_meets_L166 k58 N S x2 x3 x4 x5 x6 x7) else (gd (bin (v8 + (1 : Int32)) (ln 171)) <| if (gA S 171 (v8 + (1 : Int32)).toNatClampNeg) < v9 then (P_X7_meets_L166 k58 N S x2 x3 x4 x5 x6 x7) else (P_X7_meets_L167 k58 N S x2 x3 x4 x5 x6 x7 (1 : Int32)))) else (gd (bin ((4 : Int32) * x8) (ln 160)) <| bnd (x7 + (gA S 160 ((4 : Int32) * x8).toNatClampNeg)) fun v16 => bnd (x8 + (1 : Int32)) fun v17 => P_X7_meets_L76 k58 N n S x2 x3 x4 x5 x6 v16 v17)
set_option maxHeartbeats 4000000 in
set_option maxRecDepth 100000 in
theorem w_X7_meets_L76 {N : Nat} {S' : PSt} {r : Int32} (hX : Mx p s m args c meth cX7_meets RX7 11 (some .int) D cy ad tb) {k58 : PSt → Int32 → Int32 → Int32 → Int32 → Int32 → Option (Int32 × PSt)} (hk58 : ∀ (S : PSt) (x2 : Int32) (x3 : Int32) (x4 : Int32) (x5 : Int32) (x6 : Int32) (H : Heap) (locs : List Loc) (ls : Array Slot), k58 S x2 x3 x4 x5 x6 = some (r, S') → va_P D vwCl (pW cy ad S) H → va_S (pA ad s.heap.size) s.heap H locs → lv_has ls 11 [(0, .ref (ad 158)), (2, .int x2), (3, .int x3), (4, .int x4), (5, .int x5), (6, .int x6)] → W p l e (rmd 5) s m args below meth c H locs 0 0 (Qz D cy ad below args s S' (some (.int r))) (F0 m 58 ls [])) : ∀ (n : Nat), ∀ (S : PSt) (x2 : Int32) (x3 : Int32) (x4 : Int32) (x5 : Int32) (x6 : Int32) (x7 : Int32) (x8 : Int32) (H : Heap) (locs : List Loc) (ls : Array Slot), P_X7_meets_L76 k58 N n S x2 x3 x4 x5 x6 x7 x8 = some (r, S') → va_P D vwCl (pW cy ad S) H → va_S (pA ad s.heap.size) s.heap H locs → lv_has ls 11 [(0, .ref (ad 158)), (2, .int x2), (3, .int x3), (4, .int x4), (5, .int x5), (6, .int x6), (7, .int x7), (8, .int x8)] → W p l e (rmd 5) s m args below meth c H locs 0 0 (Qz D cy ad below args s S' (some (.int r))) (F0 m 76 ls []) := by
  have hX0 := hX
  obtain ⟨hC, hml, hr, hlk⟩ := hX0
  have hx := hC.1
  have hb := hC.2.1
  intro n
  induction n with
  | zero => intro S x2 x3 x4 x5 x6 x7 x8 H locs ls hf; exact absurd hf (by intro h; cases h)
  | succ n ih =>
    intro S x2 x3 x4 x5 x6 x7 x8 H locs ls hf  hP hS hl
    rw [P_X7_meets_L76] at hf
    refine lv_iload hx hb dX7_meets_76 (lv_at hl 7 rfl) ?_
    refine lv_aload_n hx hb dX7_meets_78 rfl (lv_at hl 0 rfl) ?_
    refine gf_X7_76 hC hP k_158 (v := .int (gI S 702 158)) rfl dX7_meets_79 ?_
    refine lv_icmp_ge (tgt := 105) hx hb dX7_meets_82 (by decide) (fun c7 => ?_) (fun c7 => ?_)
    · replace hf := ite_t c7 hf
      refine lv_iload hx hb dX7_meets_105 (lv_at hl 5 rfl) ?_
      refine lv_aload_n hx hb dX7_meets_107 rfl (lv_at hl 0 rfl) ?_
      refine gf_X7_20 hC hP k_158 (v := .ref (ad 161)) rfl dX7_meets_108 ?_
      refine lv_iconst (v := 0) hx hb dX7_meets_111 (by decide) ?_
      refine pg_iald hC hP k_161 (bin_in (by decide +kernel)) dX7_meets_112 ?_
      refine lv_isub hx hb dX7_meets_113 ?_
      obtain ⟨v8, ev8, hf⟩ := bnd_some hf
      refine pg_top ev8 ?_
      refine lv_istore (lv' := [(8, .int v8), (0, .ref (ad 158)), (2, .int x2), (3, .int x3), (4, .int x4), (5, .int x5), (6, .int x6), (7, .int x7)]) hx hb dX7_meets_114 hl (by decide) rfl (fun ls hl => ?_)
      refine lv_iload_n hx hb dX7_meets_116 rfl (lv_at hl 2 rfl) ?_
      refine lv_iload_n hx hb dX7_meets_117 rfl (lv_at hl 3 rfl) ?_
      refine lv_iload hx hb dX7_meets_118 (lv_at hl 7 rfl) ?_
      refine lv_imul hx hb dX7_meets_120 ?_
      refine lv_iadd hx hb dX7_meets_121 ?_
      obtain ⟨v9, ev9, hf⟩ := bnd_some hf
      refine pg_top ev9 ?_
      refine lv_istore (lv' := [(9, .int v9), (8, .int v8), (0, .ref (ad 158)), (2, .int x2), (3, .int x3), (4, .int x4), (5, .int x5), (6, .int x6), (7, .int x7)]) hx hb dX7_meets_122 hl (by decide) rfl (fun ls hl => ?_)
      refine lv_aload_n hx hb dX7_meets_124 rfl (lv_at hl 2 rfl) ?_
      refine gf_X7_51 hC hP k_158 (v := .ref (ad 171)) rfl dX7_meets_125 ?_
      refine lv_iload hx hb dX7_meets_128 (lv_at hl 1 rfl) ?_
      obtain ⟨h10, hf⟩ := gd_some hf
      refine pg_iald hC hP k_171 (bin_in h10) dX7_meets_130 ?_
      refine lv_iload hx hb dX7_meets_131 (lv_at hl 0 rfl) ?_
      refine lv_iload_n hx hb dX7_meets_133 rfl (lv_at hl 4 rfl) ?_
      refine lv_aload_n hx hb dX7_meets_134 rfl (lv_at hl 2 rfl) ?_
      refine gf_X7_13 hC hP k_158 (v := .ref (ad 160)) rfl dX7_meets_135 ?_
      refine lv_iconst (v := 4) hx hb dX7_meets_138 (by decide) ?_
      refine lv_iload hx hb dX7_meets_139 (lv_at hl 7 rfl) ?_
      refine lv_imul hx hb dX7_meets_141 ?_
      obtain ⟨h11, hf⟩ := gd_some hf
      refine pg_iald hC hP k_160 (bin_in h11) dX7_meets_142 ?_
      refine lv_imul hx hb dX7_meets_143 ?_
      refine lv_iadd hx hb dX7_meets_144 ?_
      refine lv_icmp_gt (tgt := 166) hx hb dX7_meets_145 (by decide) (fun c12 => ?_) (fun c12 => ?_)
      · replace hf := ite_t c12 hf
        exact w_X7_meets_L166 hX hk58 _ _ _ _ _ _ _ _ _ _ hf  hP hS (lv_sub hl [2, 3, 4, 5, 6, 7, 8] rfl)
      · replace hf := ite_f c12 hf
        refine lv_iload hx hb dX7_meets_148 (lv_at hl 0 rfl) ?_
        refine lv_aload_n hx hb dX7_meets_150 rfl (lv_at hl 2 rfl) ?_
        refine gf_X7_51 hC hP k_158 (v := .ref (ad 171)) rfl dX7_meets_151 ?_
        refine lv_iload hx hb dX7_meets_154 (lv_at hl 1 rfl) ?_
        refine lv_iconst (v := 1) hx hb dX7_meets_156 (by decide) ?_
        refine lv_iadd hx hb dX7_meets_157 ?_
        obtain ⟨h13, hf⟩ := gd_some hf
        refine pg_iald hC hP k_171 (bin_in h13) dX7_meets_158 ?_
        refine lv_icmp_gt (tgt := 166) hx hb dX7_meets_159 (by decide) (fun c14 => ?_) (fun c14 => ?_)
        · replace hf := ite_t c14 hf
          exact w_X7_meets_L166 hX hk58 _ _ _ _ _ _ _ _ _ _ hf  hP hS (lv_sub hl [2, 3, 4, 5, 6, 7, 8] rfl)
        · replace hf := ite_f c14 hf
          refine lv_iconst (v := 1) hx hb dX7_meets_162 (by decide) ?_
          refine lv_goto (tgt := 167) hx hb dX7_meets_163 (by decide) ?_
          exact w_X7_meets_L167 hX hk58 _ _ _ _ _ _ _ _ _ _ _ hf  hP hS (lv_sub hl [2, 3, 4, 5, 6, 7, 8] rfl)
    · replace hf := ite_f c7 hf
      refine lv_iload hx hb dX7_meets_85 (lv_at hl 6 rfl) ?_
      refine lv_aload_n hx hb dX7_meets_87 rfl (lv_at hl 0 rfl) ?_
      refine gf_X7_13 hC hP k_158 (v := .ref (ad 160)) rfl dX7_meets_88 ?_
      refine lv_iconst (v := 4) hx hb dX7_meets_91 (by decide) ?_
      refine lv_iload hx hb dX7_meets_92 (lv_at hl 7 rfl) ?_
      refine lv_imul hx hb dX7_meets_94 ?_
      obtain ⟨h15, hf⟩ := gd_some hf
      refine pg_iald hC hP k_160 (bin_in h15) dX7_meets_95 ?_
      refine lv_iadd hx hb dX7_meets_96 ?_
      obtain ⟨v16, ev16, hf⟩ := bnd_some hf
      refine pg_top ev16 ?_
      refine lv_istore (lv' := [(7, .int v16), (0, .ref (ad 158)), (2, .int x2), (3, .int x3), (4, .int x4), (5, .int x5), (6, .int x6), (8, .int x8)]) hx hb dX7_meets_97 hl (by decide) rfl (fun ls hl => ?_)
      obtain ⟨v17, ev17, hf⟩ := bnd_some hf
      refine lv_iinc (v := v17) (lv' := [(8, .int v17), (7, .int v16), (0, .ref (ad 158)), (2, .int x2), (3, .int x3), (4, .int x4), (5, .int x5), (6, .int x6)]) hx hb dX7_meets_99 hl (k := 7) rfl (by rw [ev17]; rfl) (by decide) rfl (fun ls hl => ?_)
      refine lv_goto (tgt := 76) hx hb dX7_meets_102 (by decide) ?_
      exact ih _ _ _ _ _ _ _ _ _ _ _ hf  hP hS (lv_sub hl [2, 3, 4, 5, 6, 7, 1, 0] rfl)
def P_X7_meets_L58 (N : Nat) : Nat → PSt → Int32 → Int32 → Int32 → Int32 → Int32 → Option (Int32 × PSt)
  | 0 => fun _ _ _ _ _ _ => none
  | n + 1 => fun S x2 x3 x4 x5 x6 => if (gI S 702 158) ≤ x6 then (some ((-9 : Int32), S)) else (bnd (x6 + (1 : Int32)) fun v19 => P_X7_meets_L76 (P_X7_meets_L58 N n) N N S x2 x3 x4 x5 x6 (0 : Int32) v19)
set_option maxHeartbeats 4000000 in
set_option maxRecDepth 100000 in
theorem w_X7_meets_L58 {N : Nat} {S' : PSt} {r : Int32} (hX : Mx p s m args c meth cX7_meets RX7 11 (some .int) D cy ad tb) : ∀ (n : Nat), ∀ (S : PSt) (x2 : Int32) (x3 : Int32) (x4 : Int32) (x5 : Int32) (x6 : Int32) (H : Heap) (locs : List Loc) (ls : Array Slot), P_X7_meets_L58 N n S x2 x3 x4 x5 x6 = some (r, S') → va_P D vwCl (pW cy ad S) H → va_S (pA ad s.heap.size) s.heap H locs → lv_has ls 11 [(0, .ref (ad 158)), (2, .int x2), (3, .int x3), (4, .int x4), (5, .int x5), (6, .int x6)] → W p l e (rmd 5) s m args below meth c H locs 0 0 (Qz D cy ad below args s S' (some (.int r))) (F0 m 58 ls []) := by
  have hX0 := hX
  obtain ⟨hC, hml, hr, hlk⟩ := hX0
  have hx := hC.1
  have hb := hC.2.1
  intro n
  induction n with
  | zero => intro S x2 x3 x4 x5 x6 H locs ls hf; exact absurd hf (by intro h; cases h)
  | succ n ih =>
    intro S x2 x3 x4 x5 x6 H locs ls hf  hP hS hl
    rw [P_X7_meets_L58] at hf
    refine lv_iload hx hb dX7_meets_58 (lv_at hl 5 rfl) ?_
    refine lv_aload_n hx hb dX7_meets_60 rfl (lv_at hl 0 rfl) ?_
    refine gf_X7_76 hC hP k_158 (v := .int (gI S 702 158)) rfl dX7_meets_61 ?_
    refine lv_icmp_ge (tgt := 217) hx hb dX7_meets_64 (by decide) (fun c18 => ?_) (fun c18 => ?_)
    · replace hf := ite_t c18 hf
      refine lv_bipush (v := -9) hx hb dX7_meets_217 (by decide) ?_
      exact pg_iret hC hr hlk hP hS hf dX7_meets_219
    · replace hf := ite_f c18 hf
      refine lv_iconst (v := 0) hx hb dX7_meets_67 (by decide) ?_
      refine lv_istore (lv' := [(7, .int (0 : Int32)), (0, .ref (ad 158)), (2, .int x2), (3, .int x3), (4, .int x4), (5, .int x5), (6, .int x6)]) hx hb dX7_meets_68 hl (by decide) rfl (fun ls hl => ?_)
      refine lv_iload hx hb dX7_meets_70 (lv_at hl 6 rfl) ?_
      refine lv_iconst (v := 1) hx hb dX7_meets_72 (by decide) ?_
      refine lv_iadd hx hb dX7_meets_73 ?_
      obtain ⟨v19, ev19, hf⟩ := bnd_some hf
      refine pg_top ev19 ?_
      refine lv_istore (lv' := [(8, .int v19), (7, .int (0 : Int32)), (0, .ref (ad 158)), (2, .int x2), (3, .int x3), (4, .int x4), (5, .int x5), (6, .int x6)]) hx hb dX7_meets_74 hl (by decide) rfl (fun ls hl => ?_)
      exact w_X7_meets_L76 hX ih _ _ _ _ _ _ _ _ _ _ _ _ hf  hP hS (lv_sub hl [2, 3, 4, 5, 6, 7, 1, 0] rfl)
def P_X7_meets (N : Nat) (S : PSt) (x1 : Int32) (x2 : Int32) (x3 : Int32) (x4 : Int32) : Option (Int32 × PSt) := cal2 (P_X7_isPair N S x1) fun r22 S20 => if r22 = (0 : Int32) then (some ((-1 : Int32), S20)) else (cal2 (P_X7_in N S20 x2 (0 : Int32) (200 : Int32)) fun r26 S24 => if r26 = (0 : Int32) then (some ((-1 : Int32), S24)) else (cal2 (P_X7_in N S24 x3 (1 : Int32) (9 : Int32)) fun r30 S28 => if r30 = (0 : Int32) then (some ((-1 : Int32), S28)) else (cal2 (P_X7_in N S28 x4 (0 : Int32) (1 : Int32)) fun r34 S32 => if r34 = (0 : Int32) then (some ((-1 : Int32), S32)) else (cal2 (P_X7_walksAll N S32 x1) fun r38 S36 => bnd (gA S36 161 (0 : Int32).toNatClampNeg) fun v39 => P_X7_meets_L58 N N S36 x2 x3 x4 (0 : Int32) v39))))
set_option maxHeartbeats 4000000 in
set_option maxRecDepth 100000 in
theorem c_X7_meets (l : Launch) {D : va_G} {cy : Nat → ClassId} {ad tb : Nat → Nat} (hJ : pJ ad) {N : Nat} {S S' : PSt} {x1 : Int32} {x2 : Int32} {x3 : Int32} {x4 : Int32} {r : Int32} (hf : P_X7_meets N S x1 x2 x3 x4 = some (r, S')) : Ct l 5 yX7_meets cX7_meets 11 (some .int) D cy ad tb S S' [.ref (ad 158), .int x1, .int x2, .int x3, .int x4] (some (.int r)) := by
  refine Ct_of hJ (by decide) (Nat.le_of_ble_eq_true rfl) (fun p e s m below meth c ls hX hP hS hl => ?_)
  have hl : lv_has ls 11 [(0, .ref (ad 158)), (1, .int x1), (2, .int x2), (3, .int x3), (4, .int x4)] := hl
  have hX0 := hX
  obtain ⟨hC, hml, hr, hlk⟩ := hX0
  have hx := hC.1
  have hb := hC.2.1
  unfold P_X7_meets at hf
  refine lv_aload_n hx hb dX7_meets_0 rfl (lv_at hl 0 rfl) ?_
  refine lv_iload_n hx hb dX7_meets_1 rfl (lv_at hl 1 rfl) ?_
  obtain ⟨r22, S20, q21, hf⟩ := cal2_some hf
  refine pg_callV (As := [.int x1]) (rest := []) (st1 := [.int r22]) (ci := 7) hC hml hP hS (c_X7_isPair l hC.2.2.2.2.2.1 q21) ⟨by decide, by decide, rfl, rfl⟩ ⟨rfl, rfl⟩ (by decide) rfl (by decide) k_158 rfl rfl ⟨mk_X7_164, mi_X7_isPair⟩ hd_X7_isPair rfl hl.1 (Nat.le_of_ble_eq_true rfl) dX7_meets_2 (fun H locs hP hS => ?_)
  refine lv_if_eq (tgt := 39) hx hb dX7_meets_5 (by decide) (fun c23 => ?_) (fun c23 => ?_)
  · replace hf := ite_t c23 hf
    refine lv_iconst (v := -1) hx hb dX7_meets_39 (by decide) ?_
    exact pg_iret hC hr hlk hP hS hf dX7_meets_40
  · replace hf := ite_f c23 hf
    refine lv_iload_n hx hb dX7_meets_8 rfl (lv_at hl 2 rfl) ?_
    refine lv_iconst (v := 0) hx hb dX7_meets_9 (by decide) ?_
    refine lv_sipush (v := 200) hx hb dX7_meets_10 (by decide) ?_
    obtain ⟨r26, S24, q25, hf⟩ := cal2_some hf
    refine pg_callS (As := [.int x2, .int (0 : Int32), .int (200 : Int32)]) (rest := []) (st1 := [.int r26]) hC hml hP hS (c_X7_in l hC.2.2.2.2.2.1 q25) ⟨by decide, by decide, rfl, rfl⟩ ⟨rfl, rfl⟩ (by decide) rfl rfl ⟨mk_X7_72, mi_X7_in⟩ hd_X7_in rfl hl.1 (Nat.le_of_ble_eq_true rfl) dX7_meets_13 (fun H locs hP hS => ?_)
    refine lv_if_eq (tgt := 39) hx hb dX7_meets_16 (by decide) (fun c27 => ?_) (fun c27 => ?_)
    · replace hf := ite_t c27 hf
      refine lv_iconst (v := -1) hx hb dX7_meets_39 (by decide) ?_
      exact pg_iret hC hr hlk hP hS hf dX7_meets_40
    · replace hf := ite_f c27 hf
      refine lv_iload_n hx hb dX7_meets_19 rfl (lv_at hl 3 rfl) ?_
      refine lv_iconst (v := 1) hx hb dX7_meets_20 (by decide) ?_
      refine lv_bipush (v := 9) hx hb dX7_meets_21 (by decide) ?_
      obtain ⟨r30, S28, q29, hf⟩ := cal2_some hf
      refine pg_callS (As := [.int x3, .int (1 : Int32), .int (9 : Int32)]) (rest := []) (st1 := [.int r30]) hC hml hP hS (c_X7_in l hC.2.2.2.2.2.1 q29) ⟨by decide, by decide, rfl, rfl⟩ ⟨rfl, rfl⟩ (by decide) rfl rfl ⟨mk_X7_72, mi_X7_in⟩ hd_X7_in rfl hl.1 (Nat.le_of_ble_eq_true rfl) dX7_meets_23 (fun H locs hP hS => ?_)
      refine lv_if_eq (tgt := 39) hx hb dX7_meets_26 (by decide) (fun c31 => ?_) (fun c31 => ?_)
      · replace hf := ite_t c31 hf
        refine lv_iconst (v := -1) hx hb dX7_meets_39 (by decide) ?_
        exact pg_iret hC hr hlk hP hS hf dX7_meets_40
      · replace hf := ite_f c31 hf
        refine lv_iload hx hb dX7_meets_29 (lv_at hl 4 rfl) ?_
        refine lv_iconst (v := 0) hx hb dX7_meets_31 (by decide) ?_
        refine lv_iconst (v := 1) hx hb dX7_meets_32 (by decide) ?_
        obtain ⟨r34, S32, q33, hf⟩ := cal2_some hf
        refine pg_callS (As := [.int x4, .int (0 : Int32), .int (1 : Int32)]) (rest := []) (st1 := [.int r34]) hC hml hP hS (c_X7_in l hC.2.2.2.2.2.1 q33) ⟨by decide, by decide, rfl, rfl⟩ ⟨rfl, rfl⟩ (by decide) rfl rfl ⟨mk_X7_72, mi_X7_in⟩ hd_X7_in rfl hl.1 (Nat.le_of_ble_eq_true rfl) dX7_meets_33 (fun H locs hP hS => ?_)
        refine lv_if_ne (tgt := 41) hx hb dX7_meets_36 (by decide) (fun c35 => ?_) (fun c35 => ?_)
        · replace hf := ite_f c35 hf
          refine lv_aload_n hx hb dX7_meets_41 rfl (lv_at hl 0 rfl) ?_
          refine lv_iload_n hx hb dX7_meets_42 rfl (lv_at hl 1 rfl) ?_
          obtain ⟨r38, S36, q37, hf⟩ := cal2_some hf
          refine pg_callV (As := [.int x1]) (rest := []) (st1 := [.int r38]) (ci := 7) hC hml hP hS (c_X7_walksAll l hC.2.2.2.2.2.1 q37) ⟨by decide, by decide, rfl, rfl⟩ ⟨rfl, rfl⟩ (by decide) rfl (by decide) k_158 rfl rfl ⟨mk_X7_212, mi_X7_walksAll⟩ hd_X7_walksAll rfl hl.1 (Nat.le_of_ble_eq_true rfl) dX7_meets_43 (fun H locs hP hS => ?_)
          refine lv_pop hx hb dX7_meets_46 rfl ?_
          refine lv_iconst (v := 0) hx hb dX7_meets_47 (by decide) ?_
          refine lv_istore (lv' := [(5, .int (0 : Int32)), (0, .ref (ad 158)), (1, .int x1), (2, .int x2), (3, .int x3), (4, .int x4)]) hx hb dX7_meets_48 hl (by decide) rfl (fun ls hl => ?_)
          refine lv_aload_n hx hb dX7_meets_50 rfl (lv_at hl 1 rfl) ?_
          refine gf_X7_20 hC hP k_158 (v := .ref (ad 161)) rfl dX7_meets_51 ?_
          refine lv_iconst (v := 0) hx hb dX7_meets_54 (by decide) ?_
          refine pg_iald hC hP k_161 (bin_in (by decide +kernel)) dX7_meets_55 ?_
          obtain ⟨v39, ev39, hf⟩ := bnd_some hf
          refine pg_top ev39 ?_
          refine lv_istore (lv' := [(6, .int v39), (5, .int (0 : Int32)), (0, .ref (ad 158)), (1, .int x1), (2, .int x2), (3, .int x3), (4, .int x4)]) hx hb dX7_meets_56 hl (by decide) rfl (fun ls hl => ?_)
          exact w_X7_meets_L58 hX _ _ _ _ _ _ _ _ _ _ hf  hP hS (lv_sub hl [2, 4, 5, 6, 1, 0] rfl)
        · replace hf := ite_t c35 hf
          refine lv_iconst (v := -1) hx hb dX7_meets_39 (by decide) ?_
          exact pg_iret hC hr hlk hP hS hf dX7_meets_40
def P_X7_odds_L228 (N : Nat) : Nat → PSt → Int32 → Int32 → Int32 → Int32 → Int32 → Option (Int32 × PSt)
  | 0 => fun _ _ _ _ _ _ => none
  | n + 1 => fun S x4 x7 x8 x9 x10 => if x10 ≤ (0 : Int32) then (if x4 = (0 : Int32) then (gd (nz x9) <| some ((x7 / x9), S)) else (gd (nz x9) <| some ((x8 / x9), S))) else (gd (nz x10) <| bnd (x9 - x9 / x10 * x10) fun v6 => P_X7_odds_L228 N n S x4 x7 x8 x10 v6)
set_option maxHeartbeats 4000000 in
set_option maxRecDepth 100000 in
theorem w_X7_odds_L228 {N : Nat} {S' : PSt} {r : Int32} (hX : Mx p s m args c meth cX7_odds RX7 13 (some .int) D cy ad tb) : ∀ (n : Nat), ∀ (S : PSt) (x4 : Int32) (x7 : Int32) (x8 : Int32) (x9 : Int32) (x10 : Int32) (H : Heap) (locs : List Loc) (ls : Array Slot), P_X7_odds_L228 N n S x4 x7 x8 x9 x10 = some (r, S') → va_P D vwCl (pW cy ad S) H → va_S (pA ad s.heap.size) s.heap H locs → lv_has ls 13 [(4, .int x4), (7, .int x7), (8, .int x8), (9, .int x9), (10, .int x10)] → W p l e (rmd 5) s m args below meth c H locs 0 0 (Qz D cy ad below args s S' (some (.int r))) (F0 m 228 ls []) := by
  have hX0 := hX
  obtain ⟨hC, hml, hr, hlk⟩ := hX0
  have hx := hC.1
  have hb := hC.2.1
  intro n
  induction n with
  | zero => intro S x4 x7 x8 x9 x10 H locs ls hf; exact absurd hf (by intro h; cases h)
  | succ n ih =>
    intro S x4 x7 x8 x9 x10 H locs ls hf  hP hS hl
    rw [P_X7_odds_L228] at hf
    refine lv_iload hx hb dX7_odds_228 (lv_at hl 4 rfl) ?_
    refine lv_if_le (tgt := 251) hx hb dX7_odds_230 (by decide) (fun c1 => ?_) (fun c1 => ?_)
    · replace hf := ite_t c1 hf
      refine lv_iload hx hb dX7_odds_251 (lv_at hl 0 rfl) ?_
      refine lv_if_ne (tgt := 261) hx hb dX7_odds_253 (by decide) (fun c2 => ?_) (fun c2 => ?_)
      · replace hf := ite_f c2 hf
        refine lv_iload hx hb dX7_odds_261 (lv_at hl 2 rfl) ?_
        refine lv_iload hx hb dX7_odds_263 (lv_at hl 3 rfl) ?_
        obtain ⟨h3, hf⟩ := gd_some hf
        refine lv_idiv hx hb dX7_odds_265 (nz_ne h3) ?_
        exact pg_iret hC hr hlk hP hS hf dX7_odds_266
      · replace hf := ite_t c2 hf
        refine lv_iload hx hb dX7_odds_256 (lv_at hl 1 rfl) ?_
        refine lv_goto (tgt := 263) hx hb dX7_odds_258 (by decide) ?_
        refine lv_iload hx hb dX7_odds_263 (lv_at hl 3 rfl) ?_
        obtain ⟨h4, hf⟩ := gd_some hf
        refine lv_idiv hx hb dX7_odds_265 (nz_ne h4) ?_
        exact pg_iret hC hr hlk hP hS hf dX7_odds_266
    · replace hf := ite_f c1 hf
      refine lv_iload hx hb dX7_odds_233 (lv_at hl 3 rfl) ?_
      refine lv_iload hx hb dX7_odds_235 (lv_at hl 4 rfl) ?_
      obtain ⟨h5, hf⟩ := gd_some hf
      refine lv_irem hx hb dX7_odds_237 (nz_ne h5) ?_
      obtain ⟨v6, ev6, hf⟩ := bnd_some hf
      refine pg_top ev6 ?_
      refine lv_istore (lv' := [(11, .int v6), (4, .int x4), (7, .int x7), (8, .int x8), (9, .int x9), (10, .int x10)]) hx hb dX7_odds_238 hl (by decide) rfl (fun ls hl => ?_)
      refine lv_iload hx hb dX7_odds_240 (lv_at hl 5 rfl) ?_
      refine lv_istore (lv' := [(9, .int x10), (11, .int v6), (4, .int x4), (7, .int x7), (8, .int x8), (10, .int x10)]) hx hb dX7_odds_242 hl (by decide) rfl (fun ls hl => ?_)
      refine lv_iload hx hb dX7_odds_244 (lv_at hl 1 rfl) ?_
      refine lv_istore (lv' := [(10, .int v6), (9, .int x10), (11, .int v6), (4, .int x4), (7, .int x7), (8, .int x8)]) hx hb dX7_odds_246 hl (by decide) rfl (fun ls hl => ?_)
      refine lv_goto (tgt := 228) hx hb dX7_odds_248 (by decide) ?_
      exact ih _ _ _ _ _ _ _ _ _ hf  hP hS (lv_sub hl [3, 4, 5, 1, 0] rfl)
def P_X7_odds_L168 (k122 : PSt → Int32 → Int32 → Int32 → Int32 → Int32 → Int32 → Int32 → Int32 → Option (Int32 × PSt)) (k141 : PSt → Int32 → Int32 → Int32 → Int32 → Int32 → Int32 → Int32 → Int32 → Int32 → Int32 → Int32 → Option (Int32 × PSt)) (N : Nat) (S : PSt) (x2 : Int32) (x3 : Int32) (x4 : Int32) (x5 : Int32) (x6 : Int32) (x7 : Int32) (x8 : Int32) (x9 : Int32) (x11 : Int32) (x12 : Int32) (y0 : Int32) (y1 : Int32) : Option (Int32 × PSt) := bnd (y0 * y1) fun v7 => cal2 (P_X7_has N S x9 x12) fun r10 S8 => if r10 = (0 : Int32) then (bnd (x11 + (0 : Int32)) fun v12 => bnd (x12 + (1 : Int32)) fun v13 => k141 S8 x2 x3 x4 x5 x6 x7 x8 x9 v7 v12 v13) else (bnd (x11 + (5 : Int32)) fun v14 => bnd (x12 + (1 : Int32)) fun v15 => k141 S8 x2 x3 x4 x5 x6 x7 x8 x9 v7 v14 v15)
set_option maxHeartbeats 4000000 in
set_option maxRecDepth 100000 in
theorem w_X7_odds_L168 {N : Nat} {S' : PSt} {r : Int32} (hX : Mx p s m args c meth cX7_odds RX7 13 (some .int) D cy ad tb) {k122 : PSt → Int32 → Int32 → Int32 → Int32 → Int32 → Int32 → Int32 → Int32 → Option (Int32 × PSt)} (hk122 : ∀ (S : PSt) (x2 : Int32) (x3 : Int32) (x4 : Int32) (x5 : Int32) (x6 : Int32) (x7 : Int32) (x8 : Int32) (x9 : Int32) (H : Heap) (locs : List Loc) (ls : Array Slot), k122 S x2 x3 x4 x5 x6 x7 x8 x9 = some (r, S') → va_P D vwCl (pW cy ad S) H → va_S (pA ad s.heap.size) s.heap H locs → lv_has ls 13 [(2, .int x2), (3, .int x3), (4, .int x4), (5, .int x5), (6, .int x6), (7, .int x7), (8, .int x8), (9, .int x9)] → W p l e (rmd 5) s m args below meth c H locs 0 0 (Qz D cy ad below args s S' (some (.int r))) (F0 m 122 ls [])) {k141 : PSt → Int32 → Int32 → Int32 → Int32 → Int32 → Int32 → Int32 → Int32 → Int32 → Int32 → Int32 → Option (Int32 × PSt)} (hk141 : ∀ (S : PSt) (x2 : Int32) (x3 : Int32) (x4 : Int32) (x5 : Int32) (x6 : Int32) (x7 : Int32) (x8 : Int32) (x9 : Int32) (x10 : Int32) (x11 : Int32) (x12 : Int32) (H : Heap) (locs : List Loc) (ls : Array Slot), k141 S x2 x3 x4 x5 x6 x7 x8 x9 x10 x11 x12 = some (r, S') → va_P D vwCl (pW cy ad S) H → va_S (pA ad s.heap.size) s.heap H locs → lv_has ls 13 [(2, .int x2), (3, .int x3), (4, .int x4), (5, .int x5), (6, .int x6), (7, .int x7), (8, .int x8), (9, .int x9), (10, .int x10), (11, .int x11), (12, .int x12)] → W p l e (rmd 5) s m args below meth c H locs 0 0 (Qz D cy ad below args s S' (some (.int r))) (F0 m 141 ls [])) : ∀ (S : PSt) (x2 : Int32) (x3 : Int32) (x4 : Int32) (x5 : Int32) (x6 : Int32) (x7 : Int32) (x8 : Int32) (x9 : Int32) (x11 : Int32) (x12 : Int32) (y0 : Int32) (y1 : Int32) (H : Heap) (locs : List Loc) (ls : Array Slot), P_X7_odds_L168 k122 k141 N S x2 x3 x4 x5 x6 x7 x8 x9 x11 x12 y0 y1 = some (r, S') → va_P D vwCl (pW cy ad S) H → va_S (pA ad s.heap.size) s.heap H locs → lv_has ls 13 [(2, .int x2), (3, .int x3), (4, .int x4), (5, .int x5), (6, .int x6), (7, .int x7), (8, .int x8), (9, .int x9), (11, .int x11), (12, .int x12)] → W p l e (rmd 5) s m args below meth c H locs 0 0 (Qz D cy ad below args s S' (some (.int r))) (F0 m 168 ls [.int y1, .int y0]) := by
  have hX0 := hX
  obtain ⟨hC, hml, hr, hlk⟩ := hX0
  have hx := hC.1
  have hb := hC.2.1
  intro S x2 x3 x4 x5 x6 x7 x8 x9 x11 x12 y0 y1 H locs ls hf  hP hS hl
  unfold P_X7_odds_L168 at hf
  refine lv_imul hx hb dX7_odds_168 ?_
  obtain ⟨v7, ev7, hf⟩ := bnd_some hf
  refine pg_top ev7 ?_
  refine lv_istore (lv' := [(10, .int v7), (2, .int x2), (3, .int x3), (4, .int x4), (5, .int x5), (6, .int x6), (7, .int x7), (8, .int x8), (9, .int x9), (11, .int x11), (12, .int x12)]) hx hb dX7_odds_169 hl (by decide) rfl (fun ls hl => ?_)
  refine lv_iload hx hb dX7_odds_171 (lv_at hl 9 rfl) ?_
  refine lv_iload hx hb dX7_odds_173 (lv_at hl 8 rfl) ?_
  refine lv_iload hx hb dX7_odds_175 (lv_at hl 10 rfl) ?_
  obtain ⟨r10, S8, q9, hf⟩ := cal2_some hf
  refine pg_callS (As := [.int x9, .int x12]) (rest := [.int x11]) (st1 := [.int r10, .int x11]) hC hml hP hS (c_X7_has l hC.2.2.2.2.2.1 q9) ⟨by decide, by decide, rfl, rfl⟩ ⟨rfl, rfl⟩ (by decide) rfl rfl ⟨mk_X7_209, mi_X7_has⟩ hd_X7_has rfl hl.1 (Nat.le_of_ble_eq_true rfl) dX7_odds_177 (fun H locs hP hS => ?_)
  refine lv_if_eq (tgt := 187) hx hb dX7_odds_180 (by decide) (fun c11 => ?_) (fun c11 => ?_)
  · replace hf := ite_t c11 hf
    refine lv_iconst (v := 0) hx hb dX7_odds_187 (by decide) ?_
    refine lv_iadd hx hb dX7_odds_188 ?_
    obtain ⟨v12, ev12, hf⟩ := bnd_some hf
    refine pg_top ev12 ?_
    refine lv_istore (lv' := [(11, .int v12), (10, .int v7), (2, .int x2), (3, .int x3), (4, .int x4), (5, .int x5), (6, .int x6), (7, .int x7), (8, .int x8), (9, .int x9), (12, .int x12)]) hx hb dX7_odds_189 hl (by decide) rfl (fun ls hl => ?_)
    obtain ⟨v13, ev13, hf⟩ := bnd_some hf
    refine lv_iinc (v := v13) (lv' := [(12, .int v13), (11, .int v12), (10, .int v7), (2, .int x2), (3, .int x3), (4, .int x4), (5, .int x5), (6, .int x6), (7, .int x7), (8, .int x8), (9, .int x9)]) hx hb dX7_odds_191 hl (k := 10) rfl (by rw [ev13]; rfl) (by decide) rfl (fun ls hl => ?_)
    refine lv_goto (tgt := 141) hx hb dX7_odds_194 (by decide) ?_
    exact hk141 _ _ _ _ _ _ _ _ _ _ _ _ _ _ _ hf  hP hS (lv_sub hl [3, 4, 5, 6, 7, 8, 9, 10, 2, 1, 0] rfl)
  · replace hf := ite_f c11 hf
    refine lv_iconst (v := 5) hx hb dX7_odds_183 (by decide) ?_
    refine lv_goto (tgt := 188) hx hb dX7_odds_184 (by decide) ?_
    refine lv_iadd hx hb dX7_odds_188 ?_
    obtain ⟨v14, ev14, hf⟩ := bnd_some hf
    refine pg_top ev14 ?_
    refine lv_istore (lv' := [(11, .int v14), (10, .int v7), (2, .int x2), (3, .int x3), (4, .int x4), (5, .int x5), (6, .int x6), (7, .int x7), (8, .int x8), (9, .int x9), (12, .int x12)]) hx hb dX7_odds_189 hl (by decide) rfl (fun ls hl => ?_)
    obtain ⟨v15, ev15, hf⟩ := bnd_some hf
    refine lv_iinc (v := v15) (lv' := [(12, .int v15), (11, .int v14), (10, .int v7), (2, .int x2), (3, .int x3), (4, .int x4), (5, .int x5), (6, .int x6), (7, .int x7), (8, .int x8), (9, .int x9)]) hx hb dX7_odds_191 hl (k := 10) rfl (by rw [ev15]; rfl) (by decide) rfl (fun ls hl => ?_)
    refine lv_goto (tgt := 141) hx hb dX7_odds_194 (by decide) ?_
    exact hk141 _ _ _ _ _ _ _ _ _ _ _ _ _ _ _ hf  hP hS (lv_sub hl [3, 4, 5, 6, 7, 8, 9, 10, 2, 1, 0] rfl)
def P_X7_odds_L141 (k122 : PSt → Int32 → Int32 → Int32 → Int32 → Int32 → Int32 → Int32 → Int32 → Option (Int32 × PSt)) (N : Nat) : Nat → PSt → Int32 → Int32 → Int32 → Int32 → Int32 → Int32 → Int32 → Int32 → Int32 → Int32 → Int32 → Option (Int32 × PSt)
  | 0 => fun _ _ _ _ _ _ _ _ _ _ _ _ => none
  | n + 1 => fun S x2 x3 x4 x5 x6 x7 x8 x9 x10 x11 x12 => if x6 ≤ x12 then (if x3 < x11 then (bnd (x7 + (0 : Int32)) fun v18 => bnd (x9 + (1 : Int32)) fun v19 => k122 S x2 x3 x4 x5 x6 v18 x8 v19) else (bnd (x7 + x10) fun v20 => bnd (x9 + (1 : Int32)) fun v21 => k122 S x2 x3 x4 x5 x6 v20 x8 v21)) else (cal2 (P_X7_has N S x9 x12) fun r24 S22 => if r24 = (0 : Int32) then (P_X7_odds_L168 k122 (P_X7_odds_L141 k122 N n) N S22 x2 x3 x4 x5 x6 x7 x8 x9 x11 x12 x10 ((10 : Int32) - x2)) else (P_X7_odds_L168 k122 (P_X7_odds_L141 k122 N n) N S22 x2 x3 x4 x5 x6 x7 x8 x9 x11 x12 x10 x2))
set_option maxHeartbeats 4000000 in
set_option maxRecDepth 100000 in
theorem w_X7_odds_L141 {N : Nat} {S' : PSt} {r : Int32} (hX : Mx p s m args c meth cX7_odds RX7 13 (some .int) D cy ad tb) {k122 : PSt → Int32 → Int32 → Int32 → Int32 → Int32 → Int32 → Int32 → Int32 → Option (Int32 × PSt)} (hk122 : ∀ (S : PSt) (x2 : Int32) (x3 : Int32) (x4 : Int32) (x5 : Int32) (x6 : Int32) (x7 : Int32) (x8 : Int32) (x9 : Int32) (H : Heap) (locs : List Loc) (ls : Array Slot), k122 S x2 x3 x4 x5 x6 x7 x8 x9 = some (r, S') → va_P D vwCl (pW cy ad S) H → va_S (pA ad s.heap.size) s.heap H locs → lv_has ls 13 [(2, .int x2), (3, .int x3), (4, .int x4), (5, .int x5), (6, .int x6), (7, .int x7), (8, .int x8), (9, .int x9)] → W p l e (rmd 5) s m args below meth c H locs 0 0 (Qz D cy ad below args s S' (some (.int r))) (F0 m 122 ls [])) : ∀ (n : Nat), ∀ (S : PSt) (x2 : Int32) (x3 : Int32) (x4 : Int32) (x5 : Int32) (x6 : Int32) (x7 : Int32) (x8 : Int32) (x9 : Int32) (x10 : Int32) (x11 : Int32) (x12 : Int32) (H : Heap) (locs : List Loc) (ls : Array Slot), P_X7_odds_L141 k122 N n S x2 x3 x4 x5 x6 x7 x8 x9 x10 x11 x12 = some (r, S') → va_P D vwCl (pW cy ad S) H → va_S (pA ad s.heap.size) s.heap H locs → lv_has ls 13 [(2, .int x2), (3, .int x3), (4, .int x4), (5, .int x5), (6, .int x6), (7, .int x7), (8, .int x8), (9, .int x9), (10, .int x10), (11, .int x11), (12, .int x12)] → W p l e (rmd 5) s m args below meth c H locs 0 0 (Qz D cy ad below args s S' (some (.int r))) (F0 m 141 ls []) := by
  have hX0 := hX
  obtain ⟨hC, hml, hr, hlk⟩ := hX0
  have hx := hC.1
  have hb := hC.2.1
  intro n
  induction n with
  | zero => intro S x2 x3 x4 x5 x6 x7 x8 x9 x10 x11 x12 H locs ls hf; exact absurd hf (by intro h; cases h)
  | succ n ih =>
    intro S x2 x3 x4 x5 x6 x7 x8 x9 x10 x11 x12 H locs ls hf  hP hS hl
    rw [P_X7_odds_L141] at hf
    refine lv_iload hx hb dX7_odds_141 (lv_at hl 10 rfl) ?_
    refine lv_iload hx hb dX7_odds_143 (lv_at hl 4 rfl) ?_
    refine lv_icmp_ge (tgt := 197) hx hb dX7_odds_145 (by decide) (fun c16 => ?_) (fun c16 => ?_)
    · replace hf := ite_t c16 hf
      refine lv_iload hx hb dX7_odds_197 (lv_at hl 5 rfl) ?_
      refine lv_iload hx hb dX7_odds_199 (lv_at hl 9 rfl) ?_
      refine lv_iload_n hx hb dX7_odds_201 rfl (lv_at hl 1 rfl) ?_
      refine lv_icmp_gt (tgt := 210) hx hb dX7_odds_202 (by decide) (fun c17 => ?_) (fun c17 => ?_)
      · replace hf := ite_t c17 hf
        refine lv_iconst (v := 0) hx hb dX7_odds_210 (by decide) ?_
        refine lv_iadd hx hb dX7_odds_211 ?_
        obtain ⟨v18, ev18, hf⟩ := bnd_some hf
        refine pg_top ev18 ?_
        refine lv_istore (lv' := [(7, .int v18), (2, .int x2), (3, .int x3), (4, .int x4), (5, .int x5), (6, .int x6), (8, .int x8), (9, .int x9), (10, .int x10), (11, .int x11), (12, .int x12)]) hx hb dX7_odds_212 hl (by decide) rfl (fun ls hl => ?_)
        obtain ⟨v19, ev19, hf⟩ := bnd_some hf
        refine lv_iinc (v := v19) (lv' := [(9, .int v19), (7, .int v18), (2, .int x2), (3, .int x3), (4, .int x4), (5, .int x5), (6, .int x6), (8, .int x8), (10, .int x10), (11, .int x11), (12, .int x12)]) hx hb dX7_odds_214 hl (k := 7) rfl (by rw [ev19]; rfl) (by decide) rfl (fun ls hl => ?_)
        refine lv_goto (tgt := 122) hx hb dX7_odds_217 (by decide) ?_
        exact hk122 _ _ _ _ _ _ _ _ _ _ _ _ hf  hP hS (lv_sub hl [2, 3, 4, 5, 6, 1, 7, 0] rfl)
      · replace hf := ite_f c17 hf
        refine lv_iload hx hb dX7_odds_205 (lv_at hl 8 rfl) ?_
        refine lv_goto (tgt := 211) hx hb dX7_odds_207 (by decide) ?_
        refine lv_iadd hx hb dX7_odds_211 ?_
        obtain ⟨v20, ev20, hf⟩ := bnd_some hf
        refine pg_top ev20 ?_
        refine lv_istore (lv' := [(7, .int v20), (2, .int x2), (3, .int x3), (4, .int x4), (5, .int x5), (6, .int x6), (8, .int x8), (9, .int x9), (10, .int x10), (11, .int x11), (12, .int x12)]) hx hb dX7_odds_212 hl (by decide) rfl (fun ls hl => ?_)
        obtain ⟨v21, ev21, hf⟩ := bnd_some hf
        refine lv_iinc (v := v21) (lv' := [(9, .int v21), (7, .int v20), (2, .int x2), (3, .int x3), (4, .int x4), (5, .int x5), (6, .int x6), (8, .int x8), (10, .int x10), (11, .int x11), (12, .int x12)]) hx hb dX7_odds_214 hl (k := 7) rfl (by rw [ev21]; rfl) (by decide) rfl (fun ls hl => ?_)
        refine lv_goto (tgt := 122) hx hb dX7_odds_217 (by decide) ?_
        exact hk122 _ _ _ _ _ _ _ _ _ _ _ _ hf  hP hS (lv_sub hl [2, 3, 4, 5, 6, 1, 7, 0] rfl)
    · replace hf := ite_f c16 hf
      refine lv_iload hx hb dX7_odds_148 (lv_at hl 8 rfl) ?_
      refine lv_iload hx hb dX7_odds_150 (lv_at hl 7 rfl) ?_
      refine lv_iload hx hb dX7_odds_152 (lv_at hl 10 rfl) ?_
      obtain ⟨r24, S22, q23, hf⟩ := cal2_some hf
      refine pg_callS (As := [.int x9, .int x12]) (rest := [.int x10]) (st1 := [.int r24, .int x10]) hC hml hP hS (c_X7_has l hC.2.2.2.2.2.1 q23) ⟨by decide, by decide, rfl, rfl⟩ ⟨rfl, rfl⟩ (by decide) rfl rfl ⟨mk_X7_209, mi_X7_has⟩ hd_X7_has rfl hl.1 (Nat.le_of_ble_eq_true rfl) dX7_odds_154 (fun H locs hP hS => ?_)
      refine lv_if_eq (tgt := 164) hx hb dX7_odds_157 (by decide) (fun c25 => ?_) (fun c25 => ?_)
      · replace hf := ite_t c25 hf
        refine lv_bipush (v := 10) hx hb dX7_odds_164 (by decide) ?_
        refine lv_iload_n hx hb dX7_odds_166 rfl (lv_at hl 0 rfl) ?_
        refine lv_isub hx hb dX7_odds_167 ?_
        exact w_X7_odds_L168 hX hk122 ih _ _ _ _ _ _ _ _ _ _ _ _ _ _ _ _ hf  hP hS (lv_sub hl [0, 1, 2, 3, 4, 5, 6, 7, 9, 10] rfl)
      · replace hf := ite_f c25 hf
        refine lv_iload_n hx hb dX7_odds_160 rfl (lv_at hl 0 rfl) ?_
        refine lv_goto (tgt := 168) hx hb dX7_odds_161 (by decide) ?_
        exact w_X7_odds_L168 hX hk122 ih _ _ _ _ _ _ _ _ _ _ _ _ _ _ _ _ hf  hP hS (lv_sub hl [0, 1, 2, 3, 4, 5, 6, 7, 9, 10] rfl)
def P_X7_odds_L122 (N : Nat) : Nat → PSt → Int32 → Int32 → Int32 → Int32 → Int32 → Int32 → Int32 → Int32 → Option (Int32 × PSt)
  | 0 => fun _ _ _ _ _ _ _ _ _ => none
  | n + 1 => fun S x2 x3 x4 x5 x6 x7 x8 x9 => if ((1 : Int32) <<< (x6 &&& 31)) ≤ x9 then (P_X7_odds_L228 N N S x4 x7 x8 x7 x8) else (P_X7_odds_L141 (P_X7_odds_L122 N n) N N S x2 x3 x4 x5 x6 x7 x8 x9 (1 : Int32) x5 (0 : Int32))
set_option maxHeartbeats 4000000 in
set_option maxRecDepth 100000 in
theorem w_X7_odds_L122 {N : Nat} {S' : PSt} {r : Int32} (hX : Mx p s m args c meth cX7_odds RX7 13 (some .int) D cy ad tb) : ∀ (n : Nat), ∀ (S : PSt) (x2 : Int32) (x3 : Int32) (x4 : Int32) (x5 : Int32) (x6 : Int32) (x7 : Int32) (x8 : Int32) (x9 : Int32) (H : Heap) (locs : List Loc) (ls : Array Slot), P_X7_odds_L122 N n S x2 x3 x4 x5 x6 x7 x8 x9 = some (r, S') → va_P D vwCl (pW cy ad S) H → va_S (pA ad s.heap.size) s.heap H locs → lv_has ls 13 [(2, .int x2), (3, .int x3), (4, .int x4), (5, .int x5), (6, .int x6), (7, .int x7), (8, .int x8), (9, .int x9)] → W p l e (rmd 5) s m args below meth c H locs 0 0 (Qz D cy ad below args s S' (some (.int r))) (F0 m 122 ls []) := by
  have hX0 := hX
  obtain ⟨hC, hml, hr, hlk⟩ := hX0
  have hx := hC.1
  have hb := hC.2.1
  intro n
  induction n with
  | zero => intro S x2 x3 x4 x5 x6 x7 x8 x9 H locs ls hf; exact absurd hf (by intro h; cases h)
  | succ n ih =>
    intro S x2 x3 x4 x5 x6 x7 x8 x9 H locs ls hf  hP hS hl
    rw [P_X7_odds_L122] at hf
    refine lv_iload hx hb dX7_odds_122 (lv_at hl 7 rfl) ?_
    refine lv_iconst (v := 1) hx hb dX7_odds_124 (by decide) ?_
    refine lv_iload hx hb dX7_odds_125 (lv_at hl 4 rfl) ?_
    refine lv_ishl hx hb dX7_odds_127 ?_
    refine lv_icmp_ge (tgt := 220) hx hb dX7_odds_128 (by decide) (fun c26 => ?_) (fun c26 => ?_)
    · replace hf := ite_t c26 hf
      refine lv_iload hx hb dX7_odds_220 (lv_at hl 5 rfl) ?_
      refine lv_istore (lv' := [(9, .int x7), (2, .int x2), (3, .int x3), (4, .int x4), (5, .int x5), (6, .int x6), (7, .int x7), (8, .int x8)]) hx hb dX7_odds_222 hl (by decide) rfl (fun ls hl => ?_)
      refine lv_iload hx hb dX7_odds_224 (lv_at hl 7 rfl) ?_
      refine lv_istore (lv' := [(10, .int x8), (9, .int x7), (2, .int x2), (3, .int x3), (4, .int x4), (5, .int x5), (6, .int x6), (7, .int x7), (8, .int x8)]) hx hb dX7_odds_226 hl (by decide) rfl (fun ls hl => ?_)
      exact w_X7_odds_L228 hX _ _ _ _ _ _ _ _ _ _ hf  hP hS (lv_sub hl [4, 7, 8, 1, 0] rfl)
    · replace hf := ite_f c26 hf
      refine lv_iconst (v := 1) hx hb dX7_odds_131 (by decide) ?_
      refine lv_istore (lv' := [(10, .int (1 : Int32)), (2, .int x2), (3, .int x3), (4, .int x4), (5, .int x5), (6, .int x6), (7, .int x7), (8, .int x8), (9, .int x9)]) hx hb dX7_odds_132 hl (by decide) rfl (fun ls hl => ?_)
      refine lv_iload hx hb dX7_odds_134 (lv_at hl 4 rfl) ?_
      refine lv_istore (lv' := [(11, .int x5), (10, .int (1 : Int32)), (2, .int x2), (3, .int x3), (4, .int x4), (5, .int x5), (6, .int x6), (7, .int x7), (8, .int x8), (9, .int x9)]) hx hb dX7_odds_136 hl (by decide) rfl (fun ls hl => ?_)
      refine lv_iconst (v := 0) hx hb dX7_odds_138 (by decide) ?_
      refine lv_istore (lv' := [(12, .int (0 : Int32)), (11, .int x5), (10, .int (1 : Int32)), (2, .int x2), (3, .int x3), (4, .int x4), (5, .int x5), (6, .int x6), (7, .int x7), (8, .int x8), (9, .int x9)]) hx hb dX7_odds_139 hl (by decide) rfl (fun ls hl => ?_)
      exact w_X7_odds_L141 hX ih _ _ _ _ _ _ _ _ _ _ _ _ _ _ _ _ hf  hP hS (lv_sub hl [3, 4, 5, 6, 7, 8, 9, 10, 2, 1, 0] rfl)
def P_X7_odds_L99 (N : Nat) : Nat → PSt → Int32 → Int32 → Int32 → Int32 → Int32 → Int32 → Int32 → Int32 → Option (Int32 × PSt)
  | 0 => fun _ _ _ _ _ _ _ _ _ => none
  | n + 1 => fun S x2 x3 x4 x5 x6 x7 x8 x9 => if x6 ≤ x9 then (P_X7_odds_L122 N N S x2 x3 x4 x5 x6 x7 x8 (0 : Int32)) else (bnd (x8 * (10 : Int32)) fun v28 => bnd (x9 + (1 : Int32)) fun v29 => P_X7_odds_L99 N n S x2 x3 x4 x5 x6 x7 v28 v29)
set_option maxHeartbeats 4000000 in
set_option maxRecDepth 100000 in
theorem w_X7_odds_L99 {N : Nat} {S' : PSt} {r : Int32} (hX : Mx p s m args c meth cX7_odds RX7 13 (some .int) D cy ad tb) : ∀ (n : Nat), ∀ (S : PSt) (x2 : Int32) (x3 : Int32) (x4 : Int32) (x5 : Int32) (x6 : Int32) (x7 : Int32) (x8 : Int32) (x9 : Int32) (H : Heap) (locs : List Loc) (ls : Array Slot), P_X7_odds_L99 N n S x2 x3 x4 x5 x6 x7 x8 x9 = some (r, S') → va_P D vwCl (pW cy ad S) H → va_S (pA ad s.heap.size) s.heap H locs → lv_has ls 13 [(2, .int x2), (3, .int x3), (4, .int x4), (5, .int x5), (6, .int x6), (7, .int x7), (8, .int x8), (9, .int x9)] → W p l e (rmd 5) s m args below meth c H locs 0 0 (Qz D cy ad below args s S' (some (.int r))) (F0 m 99 ls []) := by
  have hX0 := hX
  obtain ⟨hC, hml, hr, hlk⟩ := hX0
  have hx := hC.1
  have hb := hC.2.1
  intro n
  induction n with
  | zero => intro S x2 x3 x4 x5 x6 x7 x8 x9 H locs ls hf; exact absurd hf (by intro h; cases h)
  | succ n ih =>
    intro S x2 x3 x4 x5 x6 x7 x8 x9 H locs ls hf  hP hS hl
    rw [P_X7_odds_L99] at hf
    refine lv_iload hx hb dX7_odds_99 (lv_at hl 7 rfl) ?_
    refine lv_iload hx hb dX7_odds_101 (lv_at hl 4 rfl) ?_
    refine lv_icmp_ge (tgt := 119) hx hb dX7_odds_103 (by decide) (fun c27 => ?_) (fun c27 => ?_)
    · replace hf := ite_t c27 hf
      refine lv_iconst (v := 0) hx hb dX7_odds_119 (by decide) ?_
      refine lv_istore (lv' := [(9, .int (0 : Int32)), (2, .int x2), (3, .int x3), (4, .int x4), (5, .int x5), (6, .int x6), (7, .int x7), (8, .int x8)]) hx hb dX7_odds_120 hl (by decide) rfl (fun ls hl => ?_)
      exact w_X7_odds_L122 hX _ _ _ _ _ _ _ _ _ _ _ _ _ hf  hP hS (lv_sub hl [1, 2, 3, 4, 5, 6, 7, 0] rfl)
    · replace hf := ite_f c27 hf
      refine lv_iload hx hb dX7_odds_106 (lv_at hl 6 rfl) ?_
      refine lv_bipush (v := 10) hx hb dX7_odds_108 (by decide) ?_
      refine lv_imul hx hb dX7_odds_110 ?_
      obtain ⟨v28, ev28, hf⟩ := bnd_some hf
      refine pg_top ev28 ?_
      refine lv_istore (lv' := [(8, .int v28), (2, .int x2), (3, .int x3), (4, .int x4), (5, .int x5), (6, .int x6), (7, .int x7), (9, .int x9)]) hx hb dX7_odds_111 hl (by decide) rfl (fun ls hl => ?_)
      obtain ⟨v29, ev29, hf⟩ := bnd_some hf
      refine lv_iinc (v := v29) (lv' := [(9, .int v29), (8, .int v28), (2, .int x2), (3, .int x3), (4, .int x4), (5, .int x5), (6, .int x6), (7, .int x7)]) hx hb dX7_odds_113 hl (k := 7) rfl (by rw [ev29]; rfl) (by decide) rfl (fun ls hl => ?_)
      refine lv_goto (tgt := 99) hx hb dX7_odds_116 (by decide) ?_
      exact ih _ _ _ _ _ _ _ _ _ _ _ _ hf  hP hS (lv_sub hl [2, 3, 4, 5, 6, 7, 1, 0] rfl)
def P_X7_odds_L59 (N : Nat) : Nat → PSt → Int32 → Int32 → Int32 → Int32 → Int32 → Int32 → Option (Int32 × PSt)
  | 0 => fun _ _ _ _ _ _ _ => none
  | n + 1 => fun S x2 x3 x4 x5 x6 x7 => if (gI S 702 158) ≤ x7 then (P_X7_odds_L99 N N S x2 x3 x4 x5 x6 (0 : Int32) (1 : Int32) (0 : Int32)) else (gd (bin (((4 : Int32) * x7) + (2 : Int32)) (ln 160)) <| bnd (x6 + (gA S 160 (((4 : Int32) * x7) + (2 : Int32)).toNatClampNeg)) fun v32 => bnd (x7 + (1 : Int32)) fun v33 => P_X7_odds_L59 N n S x2 x3 x4 x5 v32 v33)
set_option maxHeartbeats 4000000 in
set_option maxRecDepth 100000 in
theorem w_X7_odds_L59 {N : Nat} {S' : PSt} {r : Int32} (hX : Mx p s m args c meth cX7_odds RX7 13 (some .int) D cy ad tb) : ∀ (n : Nat), ∀ (S : PSt) (x2 : Int32) (x3 : Int32) (x4 : Int32) (x5 : Int32) (x6 : Int32) (x7 : Int32) (H : Heap) (locs : List Loc) (ls : Array Slot), P_X7_odds_L59 N n S x2 x3 x4 x5 x6 x7 = some (r, S') → va_P D vwCl (pW cy ad S) H → va_S (pA ad s.heap.size) s.heap H locs → lv_has ls 13 [(0, .ref (ad 158)), (2, .int x2), (3, .int x3), (4, .int x4), (5, .int x5), (6, .int x6), (7, .int x7)] → W p l e (rmd 5) s m args below meth c H locs 0 0 (Qz D cy ad below args s S' (some (.int r))) (F0 m 59 ls []) := by
  have hX0 := hX
  obtain ⟨hC, hml, hr, hlk⟩ := hX0
  have hx := hC.1
  have hb := hC.2.1
  intro n
  induction n with
  | zero => intro S x2 x3 x4 x5 x6 x7 H locs ls hf; exact absurd hf (by intro h; cases h)
  | succ n ih =>
    intro S x2 x3 x4 x5 x6 x7 H locs ls hf  hP hS hl
    rw [P_X7_odds_L59] at hf
    refine lv_iload hx hb dX7_odds_59 (lv_at hl 6 rfl) ?_
    refine lv_aload_n hx hb dX7_odds_61 rfl (lv_at hl 0 rfl) ?_
    refine gf_X7_76 hC hP k_158 (v := .int (gI S 702 158)) rfl dX7_odds_62 ?_
    refine lv_icmp_ge (tgt := 90) hx hb dX7_odds_65 (by decide) (fun c30 => ?_) (fun c30 => ?_)
    · replace hf := ite_t c30 hf
      refine lv_iconst (v := 0) hx hb dX7_odds_90 (by decide) ?_
      refine lv_istore (lv' := [(7, .int (0 : Int32)), (0, .ref (ad 158)), (2, .int x2), (3, .int x3), (4, .int x4), (5, .int x5), (6, .int x6)]) hx hb dX7_odds_91 hl (by decide) rfl (fun ls hl => ?_)
      refine lv_iconst (v := 1) hx hb dX7_odds_93 (by decide) ?_
      refine lv_istore (lv' := [(8, .int (1 : Int32)), (7, .int (0 : Int32)), (0, .ref (ad 158)), (2, .int x2), (3, .int x3), (4, .int x4), (5, .int x5), (6, .int x6)]) hx hb dX7_odds_94 hl (by decide) rfl (fun ls hl => ?_)
      refine lv_iconst (v := 0) hx hb dX7_odds_96 (by decide) ?_
      refine lv_istore (lv' := [(9, .int (0 : Int32)), (8, .int (1 : Int32)), (7, .int (0 : Int32)), (0, .ref (ad 158)), (2, .int x2), (3, .int x3), (4, .int x4), (5, .int x5), (6, .int x6)]) hx hb dX7_odds_97 hl (by decide) rfl (fun ls hl => ?_)
      exact w_X7_odds_L99 hX _ _ _ _ _ _ _ _ _ _ _ _ _ hf  hP hS (lv_sub hl [4, 5, 6, 7, 8, 2, 1, 0] rfl)
    · replace hf := ite_f c30 hf
      refine lv_iload hx hb dX7_odds_68 (lv_at hl 5 rfl) ?_
      refine lv_aload_n hx hb dX7_odds_70 rfl (lv_at hl 0 rfl) ?_
      refine gf_X7_13 hC hP k_158 (v := .ref (ad 160)) rfl dX7_odds_71 ?_
      refine lv_iconst (v := 4) hx hb dX7_odds_74 (by decide) ?_
      refine lv_iload hx hb dX7_odds_75 (lv_at hl 6 rfl) ?_
      refine lv_imul hx hb dX7_odds_77 ?_
      refine lv_iconst (v := 2) hx hb dX7_odds_78 (by decide) ?_
      refine lv_iadd hx hb dX7_odds_79 ?_
      obtain ⟨h31, hf⟩ := gd_some hf
      refine pg_iald hC hP k_160 (bin_in h31) dX7_odds_80 ?_
      refine lv_iadd hx hb dX7_odds_81 ?_
      obtain ⟨v32, ev32, hf⟩ := bnd_some hf
      refine pg_top ev32 ?_
      refine lv_istore (lv' := [(6, .int v32), (0, .ref (ad 158)), (2, .int x2), (3, .int x3), (4, .int x4), (5, .int x5), (7, .int x7)]) hx hb dX7_odds_82 hl (by decide) rfl (fun ls hl => ?_)
      obtain ⟨v33, ev33, hf⟩ := bnd_some hf
      refine lv_iinc (v := v33) (lv' := [(7, .int v33), (6, .int v32), (0, .ref (ad 158)), (2, .int x2), (3, .int x3), (4, .int x4), (5, .int x5)]) hx hb dX7_odds_84 hl (k := 6) rfl (by rw [ev33]; rfl) (by decide) rfl (fun ls hl => ?_)
      refine lv_goto (tgt := 59) hx hb dX7_odds_87 (by decide) ?_
      exact ih _ _ _ _ _ _ _ _ _ _ hf  hP hS (lv_sub hl [2, 3, 4, 5, 6, 1, 0] rfl)
def P_X7_odds (N : Nat) (S : PSt) (x1 : Int32) (x2 : Int32) (x3 : Int32) (x4 : Int32) : Option (Int32 × PSt) := cal2 (P_X7_isPair N S x1) fun r36 S34 => if r36 = (0 : Int32) then (some ((-1 : Int32), S34)) else (cal2 (P_X7_in N S34 x2 (0 : Int32) (10 : Int32)) fun r40 S38 => if r40 = (0 : Int32) then (some ((-1 : Int32), S38)) else (cal2 (P_X7_in N S38 x3 (0 : Int32) (9999 : Int32)) fun r44 S42 => if r44 = (0 : Int32) then (some ((-1 : Int32), S42)) else (cal2 (P_X7_in N S42 x4 (0 : Int32) (1 : Int32)) fun r48 S46 => if r48 = (0 : Int32) then (some ((-1 : Int32), S46)) else (cal2 (P_X7_walksAll N S46 x1) fun r52 S50 => bnd (gA S50 161 (0 : Int32).toNatClampNeg) fun v53 => P_X7_odds_L59 N N S50 x2 x3 x4 r52 (0 : Int32) v53))))
set_option maxHeartbeats 4000000 in
set_option maxRecDepth 100000 in
theorem c_X7_odds (l : Launch) {D : va_G} {cy : Nat → ClassId} {ad tb : Nat → Nat} (hJ : pJ ad) {N : Nat} {S S' : PSt} {x1 : Int32} {x2 : Int32} {x3 : Int32} {x4 : Int32} {r : Int32} (hf : P_X7_odds N S x1 x2 x3 x4 = some (r, S')) : Ct l 5 yX7_odds cX7_odds 13 (some .int) D cy ad tb S S' [.ref (ad 158), .int x1, .int x2, .int x3, .int x4] (some (.int r)) := by
  refine Ct_of hJ (by decide) (Nat.le_of_ble_eq_true rfl) (fun p e s m below meth c ls hX hP hS hl => ?_)
  have hl : lv_has ls 13 [(0, .ref (ad 158)), (1, .int x1), (2, .int x2), (3, .int x3), (4, .int x4)] := hl
  have hX0 := hX
  obtain ⟨hC, hml, hr, hlk⟩ := hX0
  have hx := hC.1
  have hb := hC.2.1
  unfold P_X7_odds at hf
  refine lv_aload_n hx hb dX7_odds_0 rfl (lv_at hl 0 rfl) ?_
  refine lv_iload_n hx hb dX7_odds_1 rfl (lv_at hl 1 rfl) ?_
  obtain ⟨r36, S34, q35, hf⟩ := cal2_some hf
  refine pg_callV (As := [.int x1]) (rest := []) (st1 := [.int r36]) (ci := 7) hC hml hP hS (c_X7_isPair l hC.2.2.2.2.2.1 q35) ⟨by decide, by decide, rfl, rfl⟩ ⟨rfl, rfl⟩ (by decide) rfl (by decide) k_158 rfl rfl ⟨mk_X7_164, mi_X7_isPair⟩ hd_X7_isPair rfl hl.1 (Nat.le_of_ble_eq_true rfl) dX7_odds_2 (fun H locs hP hS => ?_)
  refine lv_if_eq (tgt := 39) hx hb dX7_odds_5 (by decide) (fun c37 => ?_) (fun c37 => ?_)
  · replace hf := ite_t c37 hf
    refine lv_iconst (v := -1) hx hb dX7_odds_39 (by decide) ?_
    exact pg_iret hC hr hlk hP hS hf dX7_odds_40
  · replace hf := ite_f c37 hf
    refine lv_iload_n hx hb dX7_odds_8 rfl (lv_at hl 2 rfl) ?_
    refine lv_iconst (v := 0) hx hb dX7_odds_9 (by decide) ?_
    refine lv_bipush (v := 10) hx hb dX7_odds_10 (by decide) ?_
    obtain ⟨r40, S38, q39, hf⟩ := cal2_some hf
    refine pg_callS (As := [.int x2, .int (0 : Int32), .int (10 : Int32)]) (rest := []) (st1 := [.int r40]) hC hml hP hS (c_X7_in l hC.2.2.2.2.2.1 q39) ⟨by decide, by decide, rfl, rfl⟩ ⟨rfl, rfl⟩ (by decide) rfl rfl ⟨mk_X7_72, mi_X7_in⟩ hd_X7_in rfl hl.1 (Nat.le_of_ble_eq_true rfl) dX7_odds_12 (fun H locs hP hS => ?_)
    refine lv_if_eq (tgt := 39) hx hb dX7_odds_15 (by decide) (fun c41 => ?_) (fun c41 => ?_)
    · replace hf := ite_t c41 hf
      refine lv_iconst (v := -1) hx hb dX7_odds_39 (by decide) ?_
      exact pg_iret hC hr hlk hP hS hf dX7_odds_40
    · replace hf := ite_f c41 hf
      refine lv_iload_n hx hb dX7_odds_18 rfl (lv_at hl 3 rfl) ?_
      refine lv_iconst (v := 0) hx hb dX7_odds_19 (by decide) ?_
      refine lv_sipush (v := 9999) hx hb dX7_odds_20 (by decide) ?_
      obtain ⟨r44, S42, q43, hf⟩ := cal2_some hf
      refine pg_callS (As := [.int x3, .int (0 : Int32), .int (9999 : Int32)]) (rest := []) (st1 := [.int r44]) hC hml hP hS (c_X7_in l hC.2.2.2.2.2.1 q43) ⟨by decide, by decide, rfl, rfl⟩ ⟨rfl, rfl⟩ (by decide) rfl rfl ⟨mk_X7_72, mi_X7_in⟩ hd_X7_in rfl hl.1 (Nat.le_of_ble_eq_true rfl) dX7_odds_23 (fun H locs hP hS => ?_)
      refine lv_if_eq (tgt := 39) hx hb dX7_odds_26 (by decide) (fun c45 => ?_) (fun c45 => ?_)
      · replace hf := ite_t c45 hf
        refine lv_iconst (v := -1) hx hb dX7_odds_39 (by decide) ?_
        exact pg_iret hC hr hlk hP hS hf dX7_odds_40
      · replace hf := ite_f c45 hf
        refine lv_iload hx hb dX7_odds_29 (lv_at hl 4 rfl) ?_
        refine lv_iconst (v := 0) hx hb dX7_odds_31 (by decide) ?_
        refine lv_iconst (v := 1) hx hb dX7_odds_32 (by decide) ?_
        obtain ⟨r48, S46, q47, hf⟩ := cal2_some hf
        refine pg_callS (As := [.int x4, .int (0 : Int32), .int (1 : Int32)]) (rest := []) (st1 := [.int r48]) hC hml hP hS (c_X7_in l hC.2.2.2.2.2.1 q47) ⟨by decide, by decide, rfl, rfl⟩ ⟨rfl, rfl⟩ (by decide) rfl rfl ⟨mk_X7_72, mi_X7_in⟩ hd_X7_in rfl hl.1 (Nat.le_of_ble_eq_true rfl) dX7_odds_33 (fun H locs hP hS => ?_)
        refine lv_if_ne (tgt := 41) hx hb dX7_odds_36 (by decide) (fun c49 => ?_) (fun c49 => ?_)
        · replace hf := ite_f c49 hf
          refine lv_aload_n hx hb dX7_odds_41 rfl (lv_at hl 0 rfl) ?_
          refine lv_iload_n hx hb dX7_odds_42 rfl (lv_at hl 1 rfl) ?_
          obtain ⟨r52, S50, q51, hf⟩ := cal2_some hf
          refine pg_callV (As := [.int x1]) (rest := []) (st1 := [.int r52]) (ci := 7) hC hml hP hS (c_X7_walksAll l hC.2.2.2.2.2.1 q51) ⟨by decide, by decide, rfl, rfl⟩ ⟨rfl, rfl⟩ (by decide) rfl (by decide) k_158 rfl rfl ⟨mk_X7_212, mi_X7_walksAll⟩ hd_X7_walksAll rfl hl.1 (Nat.le_of_ble_eq_true rfl) dX7_odds_43 (fun H locs hP hS => ?_)
          refine lv_istore (lv' := [(5, .int r52), (0, .ref (ad 158)), (1, .int x1), (2, .int x2), (3, .int x3), (4, .int x4)]) hx hb dX7_odds_46 hl (by decide) rfl (fun ls hl => ?_)
          refine lv_iconst (v := 0) hx hb dX7_odds_48 (by decide) ?_
          refine lv_istore (lv' := [(6, .int (0 : Int32)), (5, .int r52), (0, .ref (ad 158)), (1, .int x1), (2, .int x2), (3, .int x3), (4, .int x4)]) hx hb dX7_odds_49 hl (by decide) rfl (fun ls hl => ?_)
          refine lv_aload_n hx hb dX7_odds_51 rfl (lv_at hl 2 rfl) ?_
          refine gf_X7_20 hC hP k_158 (v := .ref (ad 161)) rfl dX7_odds_52 ?_
          refine lv_iconst (v := 0) hx hb dX7_odds_55 (by decide) ?_
          refine pg_iald hC hP k_161 (bin_in (by decide +kernel)) dX7_odds_56 ?_
          obtain ⟨v53, ev53, hf⟩ := bnd_some hf
          refine pg_top ev53 ?_
          refine lv_istore (lv' := [(7, .int v53), (6, .int (0 : Int32)), (5, .int r52), (0, .ref (ad 158)), (1, .int x1), (2, .int x2), (3, .int x3), (4, .int x4)]) hx hb dX7_odds_57 hl (by decide) rfl (fun ls hl => ?_)
          exact w_X7_odds_L59 hX _ _ _ _ _ _ _ _ _ _ _ hf  hP hS (lv_sub hl [3, 5, 6, 7, 2, 1, 0] rfl)
        · replace hf := ite_t c49 hf
          refine lv_iconst (v := -1) hx hb dX7_odds_39 (by decide) ?_
          exact pg_iret hC hr hlk hP hS hf dX7_odds_40
def P_X7_saw (N : Nat) (S : PSt) (x1 : Int32) (x2 : Int32) : Option (Int32 × PSt) := cal2 (P_X7_isStretch N S x1) fun r3 S1 => if r3 = (0 : Int32) then (some ((-1 : Int32), S1)) else (gd (bin (((4 : Int32) * x1) + (3 : Int32)) (ln 160)) <| if (gA S1 160 (((4 : Int32) * x1) + (3 : Int32)).toNatClampNeg) = (0 : Int32) then (some ((-1 : Int32), S1)) else (cal2 (P_X7_in N S1 x2 (0 : Int32) (9999 : Int32)) fun r9 S7 => if r9 = (0 : Int32) then (some ((-1 : Int32), S7)) else (if (gI S7 711 158) = (6 : Int32) then (some ((-3 : Int32), S7)) else (gd (bin ((2 : Int32) * (gI S7 711 158)) (ln 165)) <| bnd (sA S7 165 ((2 : Int32) * (gI S7 711 158)).toNatClampNeg x1) fun S13 => gd (bin (((2 : Int32) * (gI S13 711 158)) + (1 : Int32)) (ln 165)) <| bnd (sA S13 165 (((2 : Int32) * (gI S13 711 158)) + (1 : Int32)).toNatClampNeg x2) fun S15 => bnd (sI S15 711 158 ((gI S15 711 158) + (1 : Int32))) fun S16 => some ((gI S16 711 158), S16)))))
set_option maxHeartbeats 4000000 in
set_option maxRecDepth 100000 in
theorem c_X7_saw (l : Launch) {D : va_G} {cy : Nat → ClassId} {ad tb : Nat → Nat} (hJ : pJ ad) {N : Nat} {S S' : PSt} {x1 : Int32} {x2 : Int32} {r : Int32} (hf : P_X7_saw N S x1 x2 = some (r, S')) : Ct l 3 yX7_saw cX7_saw 3 (some .int) D cy ad tb S S' [.ref (ad 158), .int x1, .int x2] (some (.int r)) := by
  refine Ct_of hJ (by decide) (Nat.le_of_ble_eq_true rfl) (fun p e s m below meth c ls hX hP hS hl => ?_)
  have hl : lv_has ls 3 [(0, .ref (ad 158)), (1, .int x1), (2, .int x2)] := hl
  have hX0 := hX
  obtain ⟨hC, hml, hr, hlk⟩ := hX0
  have hx := hC.1
  have hb := hC.2.1
  unfold P_X7_saw at hf
  refine lv_aload_n hx hb dX7_saw_0 rfl (lv_at hl 0 rfl) ?_
  refine lv_iload_n hx hb dX7_saw_1 rfl (lv_at hl 1 rfl) ?_
  obtain ⟨r3, S1, q2, hf⟩ := cal2_some hf
  refine pg_callV (As := [.int x1]) (rest := []) (st1 := [.int r3]) (ci := 7) hC hml hP hS (c_X7_isStretch l hC.2.2.2.2.2.1 q2) ⟨by decide, by decide, rfl, rfl⟩ ⟨rfl, rfl⟩ (by decide) rfl (by decide) k_158 rfl rfl ⟨mk_X7_161, mi_X7_isStretch⟩ hd_X7_isStretch rfl hl.1 (Nat.le_of_ble_eq_true rfl) dX7_saw_2 (fun H locs hP hS => ?_)
  refine lv_if_eq (tgt := 32) hx hb dX7_saw_5 (by decide) (fun c4 => ?_) (fun c4 => ?_)
  · replace hf := ite_t c4 hf
    refine lv_iconst (v := -1) hx hb dX7_saw_32 (by decide) ?_
    exact pg_iret hC hr hlk hP hS hf dX7_saw_33
  · replace hf := ite_f c4 hf
    refine lv_aload_n hx hb dX7_saw_8 rfl (lv_at hl 0 rfl) ?_
    refine gf_X7_13 hC hP k_158 (v := .ref (ad 160)) rfl dX7_saw_9 ?_
    refine lv_iconst (v := 4) hx hb dX7_saw_12 (by decide) ?_
    refine lv_iload_n hx hb dX7_saw_13 rfl (lv_at hl 1 rfl) ?_
    refine lv_imul hx hb dX7_saw_14 ?_
    refine lv_iconst (v := 3) hx hb dX7_saw_15 (by decide) ?_
    refine lv_iadd hx hb dX7_saw_16 ?_
    obtain ⟨h5, hf⟩ := gd_some hf
    refine pg_iald hC hP k_160 (bin_in h5) dX7_saw_17 ?_
    refine lv_if_eq (tgt := 32) hx hb dX7_saw_18 (by decide) (fun c6 => ?_) (fun c6 => ?_)
    · replace hf := ite_t c6 hf
      refine lv_iconst (v := -1) hx hb dX7_saw_32 (by decide) ?_
      exact pg_iret hC hr hlk hP hS hf dX7_saw_33
    · replace hf := ite_f c6 hf
      refine lv_iload_n hx hb dX7_saw_21 rfl (lv_at hl 2 rfl) ?_
      refine lv_iconst (v := 0) hx hb dX7_saw_22 (by decide) ?_
      refine lv_sipush (v := 9999) hx hb dX7_saw_23 (by decide) ?_
      obtain ⟨r9, S7, q8, hf⟩ := cal2_some hf
      refine pg_callS (As := [.int x2, .int (0 : Int32), .int (9999 : Int32)]) (rest := []) (st1 := [.int r9]) hC hml hP hS (c_X7_in l hC.2.2.2.2.2.1 q8) ⟨by decide, by decide, rfl, rfl⟩ ⟨rfl, rfl⟩ (by decide) rfl rfl ⟨mk_X7_72, mi_X7_in⟩ hd_X7_in rfl hl.1 (Nat.le_of_ble_eq_true rfl) dX7_saw_26 (fun H locs hP hS => ?_)
      refine lv_if_ne (tgt := 34) hx hb dX7_saw_29 (by decide) (fun c10 => ?_) (fun c10 => ?_)
      · replace hf := ite_f c10 hf
        refine lv_aload_n hx hb dX7_saw_34 rfl (lv_at hl 0 rfl) ?_
        refine gf_X7_140 hC hP k_158 (v := .int (gI S7 711 158)) rfl dX7_saw_35 ?_
        refine lv_bipush (v := 6) hx hb dX7_saw_38 (by decide) ?_
        refine lv_icmp_ne (tgt := 46) hx hb dX7_saw_40 (by decide) (fun c11 => ?_) (fun c11 => ?_)
        · replace hf := ite_f c11 hf
          refine lv_aload_n hx hb dX7_saw_46 rfl (lv_at hl 0 rfl) ?_
          refine gf_X7_33 hC hP k_158 (v := .ref (ad 165)) rfl dX7_saw_47 ?_
          refine lv_iconst (v := 2) hx hb dX7_saw_50 (by decide) ?_
          refine lv_aload_n hx hb dX7_saw_51 rfl (lv_at hl 0 rfl) ?_
          refine gf_X7_140 hC hP k_158 (v := .int (gI S7 711 158)) rfl dX7_saw_52 ?_
          refine lv_imul hx hb dX7_saw_55 ?_
          refine lv_iload_n hx hb dX7_saw_56 rfl (lv_at hl 1 rfl) ?_
          obtain ⟨h12, hf⟩ := gd_some hf
          obtain ⟨S13, eS13, hf⟩ := bnd_some hf
          refine pg_iast hC hP hS k_165 (bin_in h12) dX7_saw_57 (fun H locs hP hS => ?_)
          rw [← eS13] at hP
          refine lv_aload_n hx hb dX7_saw_58 rfl (lv_at hl 0 rfl) ?_
          refine gf_X7_33 hC hP k_158 (v := .ref (ad 165)) rfl dX7_saw_59 ?_
          refine lv_iconst (v := 2) hx hb dX7_saw_62 (by decide) ?_
          refine lv_aload_n hx hb dX7_saw_63 rfl (lv_at hl 0 rfl) ?_
          refine gf_X7_140 hC hP k_158 (v := .int (gI S13 711 158)) rfl dX7_saw_64 ?_
          refine lv_imul hx hb dX7_saw_67 ?_
          refine lv_iconst (v := 1) hx hb dX7_saw_68 (by decide) ?_
          refine lv_iadd hx hb dX7_saw_69 ?_
          refine lv_iload_n hx hb dX7_saw_70 rfl (lv_at hl 2 rfl) ?_
          obtain ⟨h14, hf⟩ := gd_some hf
          obtain ⟨S15, eS15, hf⟩ := bnd_some hf
          refine pg_iast hC hP hS k_165 (bin_in h14) dX7_saw_71 (fun H locs hP hS => ?_)
          rw [← eS15] at hP
          refine lv_aload_n hx hb dX7_saw_72 rfl (lv_at hl 0 rfl) ?_
          refine lv_dup hx hb dX7_saw_73 rfl ?_
          refine gf_X7_140 hC hP k_158 (v := .int (gI S15 711 158)) rfl dX7_saw_74 ?_
          refine lv_iconst (v := 1) hx hb dX7_saw_77 (by decide) ?_
          refine lv_iadd hx hb dX7_saw_78 ?_
          obtain ⟨S16, eS16, hf⟩ := bnd_some hf
          refine pf_X7_140 hC hP hS k_158 eS16 dX7_saw_79 (fun H locs hP hS => ?_)
          refine lv_aload_n hx hb dX7_saw_82 rfl (lv_at hl 0 rfl) ?_
          refine gf_X7_140 hC hP k_158 (v := .int (gI S16 711 158)) rfl dX7_saw_83 ?_
          exact pg_iret hC hr hlk hP hS hf dX7_saw_86
        · replace hf := ite_t c11 hf
          refine lv_bipush (v := -3) hx hb dX7_saw_43 (by decide) ?_
          exact pg_iret hC hr hlk hP hS hf dX7_saw_45
      · replace hf := ite_t c10 hf
        refine lv_iconst (v := -1) hx hb dX7_saw_32 (by decide) ?_
        exact pg_iret hC hr hlk hP hS hf dX7_saw_33
def P_X7_forget (N : Nat) (S : PSt) : Option (Int32 × PSt) := bnd (gI S 711 158) fun v1 => bnd (sI S 711 158 (0 : Int32)) fun S2 => some (v1, S2)
set_option maxHeartbeats 4000000 in
set_option maxRecDepth 100000 in
theorem c_X7_forget (l : Launch) {D : va_G} {cy : Nat → ClassId} {ad tb : Nat → Nat} (hJ : pJ ad) {N : Nat} {S S' : PSt} {r : Int32} (hf : P_X7_forget N S = some (r, S')) : Ct l 1 yX7_forget cX7_forget 2 (some .int) D cy ad tb S S' [.ref (ad 158)] (some (.int r)) := by
  refine Ct_of hJ (by decide) (Nat.le_of_ble_eq_true rfl) (fun p e s m below meth c ls hX hP hS hl => ?_)
  have hl : lv_has ls 2 [(0, .ref (ad 158))] := hl
  have hX0 := hX
  obtain ⟨hC, hml, hr, hlk⟩ := hX0
  have hx := hC.1
  have hb := hC.2.1
  unfold P_X7_forget at hf
  refine lv_aload_n hx hb dX7_forget_0 rfl (lv_at hl 0 rfl) ?_
  refine gf_X7_140 hC hP k_158 (v := .int (gI S 711 158)) rfl dX7_forget_1 ?_
  obtain ⟨v1, ev1, hf⟩ := bnd_some hf
  refine pg_top ev1 ?_
  refine lv_istore_n (lv' := [(1, .int v1), (0, .ref (ad 158))]) hx hb dX7_forget_4 rfl hl (by decide) rfl (fun ls hl => ?_)
  refine lv_aload_n hx hb dX7_forget_5 rfl (lv_at hl 1 rfl) ?_
  refine lv_iconst (v := 0) hx hb dX7_forget_6 (by decide) ?_
  obtain ⟨S2, eS2, hf⟩ := bnd_some hf
  refine pf_X7_140 hC hP hS k_158 eS2 dX7_forget_7 (fun H locs hP hS => ?_)
  refine lv_iload_n hx hb dX7_forget_10 rfl (lv_at hl 0 rfl) ?_
  exact pg_iret hC hr hlk hP hS hf dX7_forget_11
def P_X7_findFits_L2 (N : Nat) : Nat → PSt → Int32 → Option PSt
  | 0 => fun _ _ => none
  | n + 1 => fun S x1 => if (4 : Int32) ≤ x1 then (bnd (sA S 171 (0 : Int32).toNatClampNeg (0 : Int32)) fun S2 => bnd (sA S2 172 (0 : Int32).toNatClampNeg (-9 : Int32)) fun S3 => cal1 (P_X7_search N S3 (0 : Int32) (2 : Int32)) fun S4 => some S4) else (gd (bin x1 (ln 170)) <| bnd (sA S 170 x1.toNatClampNeg (0 : Int32)) fun S7 => bnd (x1 + (1 : Int32)) fun v8 => P_X7_findFits_L2 N n S7 v8)
set_option maxHeartbeats 4000000 in
set_option maxRecDepth 100000 in
theorem w_X7_findFits_L2 {N : Nat} {S' : PSt} (hX : Mx p s m args c meth cX7_findFits RX7 2 none D cy ad tb) : ∀ (n : Nat), ∀ (S : PSt) (x1 : Int32) (H : Heap) (locs : List Loc) (ls : Array Slot), P_X7_findFits_L2 N n S x1 = some S' → va_P D vwCl (pW cy ad S) H → va_S (pA ad s.heap.size) s.heap H locs → lv_has ls 2 [(0, .ref (ad 158)), (1, .int x1)] → W p l e (rmd 6) s m args below meth c H locs 0 0 (Qz D cy ad below args s S' none) (F0 m 2 ls []) := by
  have hX0 := hX
  obtain ⟨hC, hml, hr, hlk⟩ := hX0
  have hx := hC.1
  have hb := hC.2.1
  intro n
  induction n with
  | zero => intro S x1 H locs ls hf; exact absurd hf (by intro h; cases h)
  | succ n ih =>
    intro S x1 H locs ls hf  hP hS hl
    rw [P_X7_findFits_L2] at hf
    refine lv_iload_n hx hb dX7_findFits_2 rfl (lv_at hl 1 rfl) ?_
    refine lv_iconst (v := 4) hx hb dX7_findFits_3 (by decide) ?_
    refine lv_icmp_ge (tgt := 20) hx hb dX7_findFits_4 (by decide) (fun c1 => ?_) (fun c1 => ?_)
    · replace hf := ite_t c1 hf
      refine lv_aload_n hx hb dX7_findFits_20 rfl (lv_at hl 0 rfl) ?_
      refine gf_X7_51 hC hP k_158 (v := .ref (ad 171)) rfl dX7_findFits_21 ?_
      refine lv_iconst (v := 0) hx hb dX7_findFits_24 (by decide) ?_
      refine lv_iconst (v := 0) hx hb dX7_findFits_25 (by decide) ?_
      obtain ⟨S2, eS2, hf⟩ := bnd_some hf
      refine pg_iast hC hP hS k_171 (bin_in (by decide +kernel)) dX7_findFits_26 (fun H locs hP hS => ?_)
      rw [← eS2] at hP
      refine lv_aload_n hx hb dX7_findFits_27 rfl (lv_at hl 0 rfl) ?_
      refine gf_X7_54 hC hP k_158 (v := .ref (ad 172)) rfl dX7_findFits_28 ?_
      refine lv_iconst (v := 0) hx hb dX7_findFits_31 (by decide) ?_
      refine lv_bipush (v := -9) hx hb dX7_findFits_32 (by decide) ?_
      obtain ⟨S3, eS3, hf⟩ := bnd_some hf
      refine pg_iast hC hP hS k_172 (bin_in (by decide +kernel)) dX7_findFits_34 (fun H locs hP hS => ?_)
      rw [← eS3] at hP
      refine lv_aload_n hx hb dX7_findFits_35 rfl (lv_at hl 0 rfl) ?_
      refine lv_iconst (v := 0) hx hb dX7_findFits_36 (by decide) ?_
      refine lv_iconst (v := 2) hx hb dX7_findFits_37 (by decide) ?_
      obtain ⟨S4, q5, hf⟩ := cal1_some hf
      refine pg_callV (As := [.int (0 : Int32), .int (2 : Int32)]) (rest := []) (st1 := []) (ci := 7) hC hml hP hS (c_X7_search l hC.2.2.2.2.2.1 q5) ⟨by decide, by decide, rfl, rfl⟩ ⟨rfl, rfl⟩ (by decide) rfl (by decide) k_158 rfl rfl ⟨mk_X7_196, mi_X7_search⟩ hd_X7_search rfl hl.1 (Nat.le_of_ble_eq_true rfl) dX7_findFits_38 (fun H locs hP hS => ?_)
      exact pg_vret hC hr hlk hP hS hf dX7_findFits_41
    · replace hf := ite_f c1 hf
      refine lv_aload_n hx hb dX7_findFits_7 rfl (lv_at hl 0 rfl) ?_
      refine gf_X7_48 hC hP k_158 (v := .ref (ad 170)) rfl dX7_findFits_8 ?_
      refine lv_iload_n hx hb dX7_findFits_11 rfl (lv_at hl 1 rfl) ?_
      refine lv_iconst (v := 0) hx hb dX7_findFits_12 (by decide) ?_
      obtain ⟨h6, hf⟩ := gd_some hf
      obtain ⟨S7, eS7, hf⟩ := bnd_some hf
      refine pg_iast hC hP hS k_170 (bin_in h6) dX7_findFits_13 (fun H locs hP hS => ?_)
      rw [← eS7] at hP
      obtain ⟨v8, ev8, hf⟩ := bnd_some hf
      refine lv_iinc (v := v8) (lv' := [(1, .int v8), (0, .ref (ad 158))]) hx hb dX7_findFits_14 hl (k := 1) rfl (by rw [ev8]; rfl) (by decide) rfl (fun ls hl => ?_)
      refine lv_goto (tgt := 2) hx hb dX7_findFits_17 (by decide) ?_
      exact ih _ _ _ _ _ hf  hP hS (lv_sub hl [1, 0] rfl)
def P_X7_findFits (N : Nat) (S : PSt) : Option PSt := P_X7_findFits_L2 N N S (0 : Int32)
set_option maxHeartbeats 4000000 in
set_option maxRecDepth 100000 in
theorem c_X7_findFits (l : Launch) {D : va_G} {cy : Nat → ClassId} {ad tb : Nat → Nat} (hJ : pJ ad) {N : Nat} {S S' : PSt} (hf : P_X7_findFits N S = some S') : Ct l 6 yX7_findFits cX7_findFits 2 none D cy ad tb S S' [.ref (ad 158)] none := by
  refine Ct_of hJ (by decide) (Nat.le_of_ble_eq_true rfl) (fun p e s m below meth c ls hX hP hS hl => ?_)
  have hl : lv_has ls 2 [(0, .ref (ad 158))] := hl
  have hX0 := hX
  obtain ⟨hC, hml, hr, hlk⟩ := hX0
  have hx := hC.1
  have hb := hC.2.1
  unfold P_X7_findFits at hf
  refine lv_iconst (v := 0) hx hb dX7_findFits_0 (by decide) ?_
  refine lv_istore_n (lv' := [(1, .int (0 : Int32)), (0, .ref (ad 158))]) hx hb dX7_findFits_1 rfl hl (by decide) rfl (fun ls hl => ?_)
  exact w_X7_findFits_L2 hX _ _ _ _ _ _ hf  hP hS (lv_sub hl [1, 0] rfl)
def P_X7_fits (N : Nat) (S : PSt) (x1 : Int32) : Option (Int32 × PSt) := cal2 (P_X7_in N S x1 (-1 : Int32) ((gI S 702 158) - (1 : Int32))) fun r3 S1 => if r3 = (0 : Int32) then (some ((-1 : Int32), S1)) else (cal1 (P_X7_findFits N S1) fun S5 => if (0 : Int32) ≤ x1 then (if (gI S5 732 158) = (0 : Int32) then (some ((-9 : Int32), S5)) else (gd (bin x1 (ln 174)) <| some ((gA S5 174 x1.toNatClampNeg), S5))) else (some ((gI S5 732 158), S5)))
set_option maxHeartbeats 4000000 in
set_option maxRecDepth 100000 in
theorem c_X7_fits (l : Launch) {D : va_G} {cy : Nat → ClassId} {ad tb : Nat → Nat} (hJ : pJ ad) {N : Nat} {S S' : PSt} {x1 : Int32} {r : Int32} (hf : P_X7_fits N S x1 = some (r, S')) : Ct l 7 yX7_fits cX7_fits 2 (some .int) D cy ad tb S S' [.ref (ad 158), .int x1] (some (.int r)) := by
  refine Ct_of hJ (by decide) (Nat.le_of_ble_eq_true rfl) (fun p e s m below meth c ls hX hP hS hl => ?_)
  have hl : lv_has ls 2 [(0, .ref (ad 158)), (1, .int x1)] := hl
  have hX0 := hX
  obtain ⟨hC, hml, hr, hlk⟩ := hX0
  have hx := hC.1
  have hb := hC.2.1
  unfold P_X7_fits at hf
  refine lv_iload_n hx hb dX7_fits_0 rfl (lv_at hl 1 rfl) ?_
  refine lv_iconst (v := -1) hx hb dX7_fits_1 (by decide) ?_
  refine lv_aload_n hx hb dX7_fits_2 rfl (lv_at hl 0 rfl) ?_
  refine gf_X7_76 hC hP k_158 (v := .int (gI S 702 158)) rfl dX7_fits_3 ?_
  refine lv_iconst (v := 1) hx hb dX7_fits_6 (by decide) ?_
  refine lv_isub hx hb dX7_fits_7 ?_
  obtain ⟨r3, S1, q2, hf⟩ := cal2_some hf
  refine pg_callS (As := [.int x1, .int (-1 : Int32), .int ((gI S 702 158) - (1 : Int32))]) (rest := []) (st1 := [.int r3]) hC hml hP hS (c_X7_in l hC.2.2.2.2.2.1 q2) ⟨by decide, by decide, rfl, rfl⟩ ⟨rfl, rfl⟩ (by decide) rfl rfl ⟨mk_X7_72, mi_X7_in⟩ hd_X7_in rfl hl.1 (Nat.le_of_ble_eq_true rfl) dX7_fits_8 (fun H locs hP hS => ?_)
  refine lv_if_ne (tgt := 16) hx hb dX7_fits_11 (by decide) (fun c4 => ?_) (fun c4 => ?_)
  · replace hf := ite_f c4 hf
    refine lv_aload_n hx hb dX7_fits_16 rfl (lv_at hl 0 rfl) ?_
    obtain ⟨S5, q6, hf⟩ := cal1_some hf
    refine pg_callV (As := []) (rest := []) (st1 := []) (ci := 7) hC hml hP hS (c_X7_findFits l hC.2.2.2.2.2.1 q6) ⟨by decide, by decide, rfl, rfl⟩ ⟨rfl, rfl⟩ (by decide) rfl (by decide) k_158 rfl rfl ⟨mk_X7_215, mi_X7_findFits⟩ hd_X7_findFits rfl hl.1 (Nat.le_of_ble_eq_true rfl) dX7_fits_17 (fun H locs hP hS => ?_)
    refine lv_iload_n hx hb dX7_fits_20 rfl (lv_at hl 1 rfl) ?_
    refine lv_if_ge (tgt := 31) hx hb dX7_fits_21 (by decide) (fun c7 => ?_) (fun c7 => ?_)
    · replace hf := ite_t c7 hf
      refine lv_aload_n hx hb dX7_fits_31 rfl (lv_at hl 0 rfl) ?_
      refine gf_X7_179 hC hP k_158 (v := .int (gI S5 732 158)) rfl dX7_fits_32 ?_
      refine lv_if_ne (tgt := 43) hx hb dX7_fits_35 (by decide) (fun c8 => ?_) (fun c8 => ?_)
      · replace hf := ite_f c8 hf
        refine lv_aload_n hx hb dX7_fits_43 rfl (lv_at hl 0 rfl) ?_
        refine gf_X7_60 hC hP k_158 (v := .ref (ad 174)) rfl dX7_fits_44 ?_
        refine lv_iload_n hx hb dX7_fits_47 rfl (lv_at hl 1 rfl) ?_
        obtain ⟨h9, hf⟩ := gd_some hf
        refine pg_iald hC hP k_174 (bin_in h9) dX7_fits_48 ?_
        exact pg_iret hC hr hlk hP hS hf dX7_fits_49
      · replace hf := ite_t c8 hf
        refine lv_bipush (v := -9) hx hb dX7_fits_38 (by decide) ?_
        refine lv_goto (tgt := 49) hx hb dX7_fits_40 (by decide) ?_
        exact pg_iret hC hr hlk hP hS hf dX7_fits_49
    · replace hf := ite_f c7 hf
      refine lv_aload_n hx hb dX7_fits_24 rfl (lv_at hl 0 rfl) ?_
      refine gf_X7_179 hC hP k_158 (v := .int (gI S5 732 158)) rfl dX7_fits_25 ?_
      refine lv_goto (tgt := 49) hx hb dX7_fits_28 (by decide) ?_
      exact pg_iret hC hr hlk hP hS hf dX7_fits_49
  · replace hf := ite_t c4 hf
    refine lv_iconst (v := -1) hx hb dX7_fits_14 (by decide) ?_
    exact pg_iret hC hr hlk hP hS hf dX7_fits_15
def P_X7_surely (N : Nat) (S : PSt) (x1 : Int32) : Option (Int32 × PSt) := cal2 (P_X7_isStretch N S x1) fun r3 S1 => if r3 = (0 : Int32) then (some ((-1 : Int32), S1)) else (cal1 (P_X7_findFits N S1) fun S5 => if (gI S5 732 158) = (0 : Int32) then (some ((0 : Int32), S5)) else (gd (bin x1 (ln 175)) <| some ((gA S5 175 x1.toNatClampNeg), S5)))
set_option maxHeartbeats 4000000 in
set_option maxRecDepth 100000 in
theorem c_X7_surely (l : Launch) {D : va_G} {cy : Nat → ClassId} {ad tb : Nat → Nat} (hJ : pJ ad) {N : Nat} {S S' : PSt} {x1 : Int32} {r : Int32} (hf : P_X7_surely N S x1 = some (r, S')) : Ct l 7 yX7_surely cX7_surely 2 (some .int) D cy ad tb S S' [.ref (ad 158), .int x1] (some (.int r)) := by
  refine Ct_of hJ (by decide) (Nat.le_of_ble_eq_true rfl) (fun p e s m below meth c ls hX hP hS hl => ?_)
  have hl : lv_has ls 2 [(0, .ref (ad 158)), (1, .int x1)] := hl
  have hX0 := hX
  obtain ⟨hC, hml, hr, hlk⟩ := hX0
  have hx := hC.1
  have hb := hC.2.1
  unfold P_X7_surely at hf
  refine lv_aload_n hx hb dX7_surely_0 rfl (lv_at hl 0 rfl) ?_
  refine lv_iload_n hx hb dX7_surely_1 rfl (lv_at hl 1 rfl) ?_
  obtain ⟨r3, S1, q2, hf⟩ := cal2_some hf
  refine pg_callV (As := [.int x1]) (rest := []) (st1 := [.int r3]) (ci := 7) hC hml hP hS (c_X7_isStretch l hC.2.2.2.2.2.1 q2) ⟨by decide, by decide, rfl, rfl⟩ ⟨rfl, rfl⟩ (by decide) rfl (by decide) k_158 rfl rfl ⟨mk_X7_161, mi_X7_isStretch⟩ hd_X7_isStretch rfl hl.1 (Nat.le_of_ble_eq_true rfl) dX7_surely_2 (fun H locs hP hS => ?_)
  refine lv_if_ne (tgt := 10) hx hb dX7_surely_5 (by decide) (fun c4 => ?_) (fun c4 => ?_)
  · replace hf := ite_f c4 hf
    refine lv_aload_n hx hb dX7_surely_10 rfl (lv_at hl 0 rfl) ?_
    obtain ⟨S5, q6, hf⟩ := cal1_some hf
    refine pg_callV (As := []) (rest := []) (st1 := []) (ci := 7) hC hml hP hS (c_X7_findFits l hC.2.2.2.2.2.1 q6) ⟨by decide, by decide, rfl, rfl⟩ ⟨rfl, rfl⟩ (by decide) rfl (by decide) k_158 rfl rfl ⟨mk_X7_215, mi_X7_findFits⟩ hd_X7_findFits rfl hl.1 (Nat.le_of_ble_eq_true rfl) dX7_surely_11 (fun H locs hP hS => ?_)
    refine lv_aload_n hx hb dX7_surely_14 rfl (lv_at hl 0 rfl) ?_
    refine gf_X7_179 hC hP k_158 (v := .int (gI S5 732 158)) rfl dX7_surely_15 ?_
    refine lv_if_ne (tgt := 25) hx hb dX7_surely_18 (by decide) (fun c7 => ?_) (fun c7 => ?_)
    · replace hf := ite_f c7 hf
      refine lv_aload_n hx hb dX7_surely_25 rfl (lv_at hl 0 rfl) ?_
      refine gf_X7_63 hC hP k_158 (v := .ref (ad 175)) rfl dX7_surely_26 ?_
      refine lv_iload_n hx hb dX7_surely_29 rfl (lv_at hl 1 rfl) ?_
      obtain ⟨h8, hf⟩ := gd_some hf
      refine pg_iald hC hP k_175 (bin_in h8) dX7_surely_30 ?_
      exact pg_iret hC hr hlk hP hS hf dX7_surely_31
    · replace hf := ite_t c7 hf
      refine lv_iconst (v := 0) hx hb dX7_surely_21 (by decide) ?_
      refine lv_goto (tgt := 31) hx hb dX7_surely_22 (by decide) ?_
      exact pg_iret hC hr hlk hP hS hf dX7_surely_31
  · replace hf := ite_t c4 hf
    refine lv_iconst (v := -1) hx hb dX7_surely_8 (by decide) ?_
    exact pg_iret hC hr hlk hP hS hf dX7_surely_9
def P_X7_stepMark (N : Nat) (S : PSt) (x1 : Int32) : Option (Int32 × PSt) := bnd (sJ S 713 158 ((gJ S 713 158) + (1 : Int64))) fun S1 => gd (bin ((4 : Int32) * x1) (ln 160)) <| some ((gA S1 160 ((4 : Int32) * x1).toNatClampNeg), S1)
set_option maxHeartbeats 4000000 in
set_option maxRecDepth 100000 in
theorem c_X7_stepMark (l : Launch) {D : va_G} {cy : Nat → ClassId} {ad tb : Nat → Nat} (hJ : pJ ad) {N : Nat} {S S' : PSt} {x1 : Int32} {r : Int32} (hf : P_X7_stepMark N S x1 = some (r, S')) : Ct l 1 yX7_stepMark cX7_stepMark 2 (some .int) D cy ad tb S S' [.ref (ad 158), .int x1] (some (.int r)) := by
  refine Ct_of hJ (by decide) (Nat.le_of_ble_eq_true rfl) (fun p e s m below meth c ls hX hP hS hl => ?_)
  have hl : lv_has ls 2 [(0, .ref (ad 158)), (1, .int x1)] := hl
  have hX0 := hX
  obtain ⟨hC, hml, hr, hlk⟩ := hX0
  have hx := hC.1
  have hb := hC.2.1
  unfold P_X7_stepMark at hf
  refine lv_aload_n hx hb dX7_stepMark_0 rfl (lv_at hl 0 rfl) ?_
  refine lv_dup hx hb dX7_stepMark_1 rfl ?_
  refine gf_X7_218 hC hP k_158 (v := .long (gJ S 713 158)) rfl dX7_stepMark_2 ?_
  refine lv_lconst (v := 1) hx hb dX7_stepMark_5 (by decide) ?_
  refine lv_ladd hx hb dX7_stepMark_6 ?_
  obtain ⟨S1, eS1, hf⟩ := bnd_some hf
  refine pf_X7_218 hC hP hS k_158 eS1 dX7_stepMark_7 (fun H locs hP hS => ?_)
  refine lv_aload_n hx hb dX7_stepMark_10 rfl (lv_at hl 0 rfl) ?_
  refine gf_X7_13 hC hP k_158 (v := .ref (ad 160)) rfl dX7_stepMark_11 ?_
  refine lv_iconst (v := 4) hx hb dX7_stepMark_14 (by decide) ?_
  refine lv_iload_n hx hb dX7_stepMark_15 rfl (lv_at hl 1 rfl) ?_
  refine lv_imul hx hb dX7_stepMark_16 ?_
  obtain ⟨h2, hf⟩ := gd_some hf
  refine pg_iald hC hP k_160 (bin_in h2) dX7_stepMark_17 ?_
  exact pg_iret hC hr hlk hP hS hf dX7_stepMark_18
def P_X7_firmMark (N : Nat) (S : PSt) (x1 : Int32) : Option (Int32 × PSt) := bnd (sJ S 713 158 ((gJ S 713 158) + (10 : Int64))) fun S1 => cal2 (P_X7_stepMark N S1 x1) fun r4 S2 => gd (bin (((4 : Int32) * x1) + (1 : Int32)) (ln 160)) <| some ((r4 + (gA S2 160 (((4 : Int32) * x1) + (1 : Int32)).toNatClampNeg)), S2)
set_option maxHeartbeats 4000000 in
set_option maxRecDepth 100000 in
theorem c_X7_firmMark (l : Launch) {D : va_G} {cy : Nat → ClassId} {ad tb : Nat → Nat} (hJ : pJ ad) {N : Nat} {S S' : PSt} {x1 : Int32} {r : Int32} (hf : P_X7_firmMark N S x1 = some (r, S')) : Ct l 2 yX7_firmMark cX7_firmMark 2 (some .int) D cy ad tb S S' [.ref (ad 158), .int x1] (some (.int r)) := by
  refine Ct_of hJ (by decide) (Nat.le_of_ble_eq_true rfl) (fun p e s m below meth c ls hX hP hS hl => ?_)
  have hl : lv_has ls 2 [(0, .ref (ad 158)), (1, .int x1)] := hl
  have hX0 := hX
  obtain ⟨hC, hml, hr, hlk⟩ := hX0
  have hx := hC.1
  have hb := hC.2.1
  unfold P_X7_firmMark at hf
  refine lv_aload_n hx hb dX7_firmMark_0 rfl (lv_at hl 0 rfl) ?_
  refine lv_dup hx hb dX7_firmMark_1 rfl ?_
  refine gf_X7_218 hC hP k_158 (v := .long (gJ S 713 158)) rfl dX7_firmMark_2 ?_
  refine lv_ldc2 (v := 10) hx hb hC.2.2.2.1 (hC.2.2.1 _ kc_X7_222) dX7_firmMark_5 ?_
  refine lv_ladd hx hb dX7_firmMark_8 ?_
  obtain ⟨S1, eS1, hf⟩ := bnd_some hf
  refine pf_X7_218 hC hP hS k_158 eS1 dX7_firmMark_9 (fun H locs hP hS => ?_)
  refine lv_aload_n hx hb dX7_firmMark_12 rfl (lv_at hl 0 rfl) ?_
  refine lv_iload_n hx hb dX7_firmMark_13 rfl (lv_at hl 1 rfl) ?_
  obtain ⟨r4, S2, q3, hf⟩ := cal2_some hf
  refine pg_callV (As := [.int x1]) (rest := []) (st1 := [.int r4]) (ci := 7) hC hml hP hS (c_X7_stepMark l hC.2.2.2.2.2.1 q3) ⟨by decide, by decide, rfl, rfl⟩ ⟨rfl, rfl⟩ (by decide) rfl (by decide) k_158 rfl rfl ⟨mk_X7_224, mi_X7_stepMark⟩ hd_X7_stepMark rfl hl.1 (Nat.le_of_ble_eq_true rfl) dX7_firmMark_14 (fun H locs hP hS => ?_)
  refine lv_aload_n hx hb dX7_firmMark_17 rfl (lv_at hl 0 rfl) ?_
  refine gf_X7_13 hC hP k_158 (v := .ref (ad 160)) rfl dX7_firmMark_18 ?_
  refine lv_iconst (v := 4) hx hb dX7_firmMark_21 (by decide) ?_
  refine lv_iload_n hx hb dX7_firmMark_22 rfl (lv_at hl 1 rfl) ?_
  refine lv_imul hx hb dX7_firmMark_23 ?_
  refine lv_iconst (v := 1) hx hb dX7_firmMark_24 (by decide) ?_
  refine lv_iadd hx hb dX7_firmMark_25 ?_
  obtain ⟨h5, hf⟩ := gd_some hf
  refine pg_iald hC hP k_160 (bin_in h5) dX7_firmMark_26 ?_
  refine lv_iadd hx hb dX7_firmMark_27 ?_
  exact pg_iret hC hr hlk hP hS hf dX7_firmMark_28
def P_X7_slimyMark_L16 (N : Nat) : Nat → PSt → Int32 → Int32 → Int32 → Option (Int32 × PSt)
  | 0 => fun _ _ _ _ => none
  | n + 1 => fun S x1 x2 x3 => if (gI S 700 158) ≤ x3 then (cal2 (P_X7_stepMark N S x1) fun r4 S2 => some ((r4 - x2), S2)) else (gd (bin ((3 : Int32) + x3) (ln 161)) <| bnd (x2 + (gA S 161 ((3 : Int32) + x3).toNatClampNeg)) fun v6 => bnd (x3 + (1 : Int32)) fun v7 => P_X7_slimyMark_L16 N n S x1 v6 v7)
set_option maxHeartbeats 4000000 in
set_option maxRecDepth 100000 in
theorem w_X7_slimyMark_L16 {N : Nat} {S' : PSt} {r : Int32} (hX : Mx p s m args c meth cX7_slimyMark RX7 4 (some .int) D cy ad tb) : ∀ (n : Nat), ∀ (S : PSt) (x1 : Int32) (x2 : Int32) (x3 : Int32) (H : Heap) (locs : List Loc) (ls : Array Slot), P_X7_slimyMark_L16 N n S x1 x2 x3 = some (r, S') → va_P D vwCl (pW cy ad S) H → va_S (pA ad s.heap.size) s.heap H locs → lv_has ls 4 [(0, .ref (ad 158)), (1, .int x1), (2, .int x2), (3, .int x3)] → W p l e (rmd 2) s m args below meth c H locs 0 0 (Qz D cy ad below args s S' (some (.int r))) (F0 m 16 ls []) := by
  have hX0 := hX
  obtain ⟨hC, hml, hr, hlk⟩ := hX0
  have hx := hC.1
  have hb := hC.2.1
  intro n
  induction n with
  | zero => intro S x1 x2 x3 H locs ls hf; exact absurd hf (by intro h; cases h)
  | succ n ih =>
    intro S x1 x2 x3 H locs ls hf  hP hS hl
    rw [P_X7_slimyMark_L16] at hf
    refine lv_iload_n hx hb dX7_slimyMark_16 rfl (lv_at hl 3 rfl) ?_
    refine lv_aload_n hx hb dX7_slimyMark_17 rfl (lv_at hl 0 rfl) ?_
    refine gf_X7_69 hC hP k_158 (v := .int (gI S 700 158)) rfl dX7_slimyMark_18 ?_
    refine lv_icmp_ge (tgt := 41) hx hb dX7_slimyMark_21 (by decide) (fun c1 => ?_) (fun c1 => ?_)
    · replace hf := ite_t c1 hf
      refine lv_aload_n hx hb dX7_slimyMark_41 rfl (lv_at hl 0 rfl) ?_
      refine lv_iload_n hx hb dX7_slimyMark_42 rfl (lv_at hl 1 rfl) ?_
      obtain ⟨r4, S2, q3, hf⟩ := cal2_some hf
      refine pg_callV (As := [.int x1]) (rest := []) (st1 := [.int r4]) (ci := 7) hC hml hP hS (c_X7_stepMark l hC.2.2.2.2.2.1 q3) ⟨by decide, by decide, rfl, rfl⟩ ⟨rfl, rfl⟩ (by decide) rfl (by decide) k_158 rfl rfl ⟨mk_X7_224, mi_X7_stepMark⟩ hd_X7_stepMark rfl hl.1 (Nat.le_of_ble_eq_true rfl) dX7_slimyMark_43 (fun H locs hP hS => ?_)
      refine lv_iload_n hx hb dX7_slimyMark_46 rfl (lv_at hl 2 rfl) ?_
      refine lv_isub hx hb dX7_slimyMark_47 ?_
      exact pg_iret hC hr hlk hP hS hf dX7_slimyMark_48
    · replace hf := ite_f c1 hf
      refine lv_iload_n hx hb dX7_slimyMark_24 rfl (lv_at hl 2 rfl) ?_
      refine lv_aload_n hx hb dX7_slimyMark_25 rfl (lv_at hl 0 rfl) ?_
      refine gf_X7_20 hC hP k_158 (v := .ref (ad 161)) rfl dX7_slimyMark_26 ?_
      refine lv_iconst (v := 3) hx hb dX7_slimyMark_29 (by decide) ?_
      refine lv_iload_n hx hb dX7_slimyMark_30 rfl (lv_at hl 3 rfl) ?_
      refine lv_iadd hx hb dX7_slimyMark_31 ?_
      obtain ⟨h5, hf⟩ := gd_some hf
      refine pg_iald hC hP k_161 (bin_in h5) dX7_slimyMark_32 ?_
      refine lv_iadd hx hb dX7_slimyMark_33 ?_
      obtain ⟨v6, ev6, hf⟩ := bnd_some hf
      refine pg_top ev6 ?_
      refine lv_istore_n (lv' := [(2, .int v6), (0, .ref (ad 158)), (1, .int x1), (3, .int x3)]) hx hb dX7_slimyMark_34 rfl hl (by decide) rfl (fun ls hl => ?_)
      obtain ⟨v7, ev7, hf⟩ := bnd_some hf
      refine lv_iinc (v := v7) (lv' := [(3, .int v7), (2, .int v6), (0, .ref (ad 158)), (1, .int x1)]) hx hb dX7_slimyMark_35 hl (k := 3) rfl (by rw [ev7]; rfl) (by decide) rfl (fun ls hl => ?_)
      refine lv_goto (tgt := 16) hx hb dX7_slimyMark_38 (by decide) ?_
      exact ih _ _ _ _ _ _ _ hf  hP hS (lv_sub hl [2, 3, 1, 0] rfl)
def P_X7_slimyMark (N : Nat) (S : PSt) (x1 : Int32) : Option (Int32 × PSt) := bnd (sJ S 713 158 ((gJ S 713 158) + (100 : Int64))) fun S8 => P_X7_slimyMark_L16 N N S8 x1 (0 : Int32) (0 : Int32)
set_option maxHeartbeats 4000000 in
set_option maxRecDepth 100000 in
theorem c_X7_slimyMark (l : Launch) {D : va_G} {cy : Nat → ClassId} {ad tb : Nat → Nat} (hJ : pJ ad) {N : Nat} {S S' : PSt} {x1 : Int32} {r : Int32} (hf : P_X7_slimyMark N S x1 = some (r, S')) : Ct l 2 yX7_slimyMark cX7_slimyMark 4 (some .int) D cy ad tb S S' [.ref (ad 158), .int x1] (some (.int r)) := by
  refine Ct_of hJ (by decide) (Nat.le_of_ble_eq_true rfl) (fun p e s m below meth c ls hX hP hS hl => ?_)
  have hl : lv_has ls 4 [(0, .ref (ad 158)), (1, .int x1)] := hl
  have hX0 := hX
  obtain ⟨hC, hml, hr, hlk⟩ := hX0
  have hx := hC.1
  have hb := hC.2.1
  unfold P_X7_slimyMark at hf
  refine lv_aload_n hx hb dX7_slimyMark_0 rfl (lv_at hl 0 rfl) ?_
  refine lv_dup hx hb dX7_slimyMark_1 rfl ?_
  refine gf_X7_218 hC hP k_158 (v := .long (gJ S 713 158)) rfl dX7_slimyMark_2 ?_
  refine lv_ldc2 (v := 100) hx hb hC.2.2.2.1 (hC.2.2.1 _ kc_X7_227) dX7_slimyMark_5 ?_
  refine lv_ladd hx hb dX7_slimyMark_8 ?_
  obtain ⟨S8, eS8, hf⟩ := bnd_some hf
  refine pf_X7_218 hC hP hS k_158 eS8 dX7_slimyMark_9 (fun H locs hP hS => ?_)
  refine lv_iconst (v := 0) hx hb dX7_slimyMark_12 (by decide) ?_
  refine lv_istore_n (lv' := [(2, .int (0 : Int32)), (0, .ref (ad 158)), (1, .int x1)]) hx hb dX7_slimyMark_13 rfl hl (by decide) rfl (fun ls hl => ?_)
  refine lv_iconst (v := 0) hx hb dX7_slimyMark_14 (by decide) ?_
  refine lv_istore_n (lv' := [(3, .int (0 : Int32)), (2, .int (0 : Int32)), (0, .ref (ad 158)), (1, .int x1)]) hx hb dX7_slimyMark_15 rfl hl (by decide) rfl (fun ls hl => ?_)
  exact w_X7_slimyMark_L16 hX _ _ _ _ _ _ _ _ hf  hP hS (lv_sub hl [2, 3, 1, 0] rfl)
def P_X7_shafts_L4 (N : Nat) : Nat → PSt → Int32 → Int32 → Option (Int32 × PSt)
  | 0 => fun _ _ _ => none
  | n + 1 => fun S x1 x2 => if (gI S 702 158) ≤ x2 then (some (x1, S)) else (gd (bin (((4 : Int32) * x2) + (3 : Int32)) (ln 160)) <| bnd (x1 + (gA S 160 (((4 : Int32) * x2) + (3 : Int32)).toNatClampNeg)) fun v3 => bnd (x2 + (1 : Int32)) fun v4 => P_X7_shafts_L4 N n S v3 v4)
set_option maxHeartbeats 4000000 in
set_option maxRecDepth 100000 in
theorem w_X7_shafts_L4 {N : Nat} {S' : PSt} {r : Int32} (hX : Mx p s m args c meth cX7_shafts RX7 3 (some .int) D cy ad tb) : ∀ (n : Nat), ∀ (S : PSt) (x1 : Int32) (x2 : Int32) (H : Heap) (locs : List Loc) (ls : Array Slot), P_X7_shafts_L4 N n S x1 x2 = some (r, S') → va_P D vwCl (pW cy ad S) H → va_S (pA ad s.heap.size) s.heap H locs → lv_has ls 3 [(0, .ref (ad 158)), (1, .int x1), (2, .int x2)] → W p l e (rmd 1) s m args below meth c H locs 0 0 (Qz D cy ad below args s S' (some (.int r))) (F0 m 4 ls []) := by
  have hX0 := hX
  obtain ⟨hC, hml, hr, hlk⟩ := hX0
  have hx := hC.1
  have hb := hC.2.1
  intro n
  induction n with
  | zero => intro S x1 x2 H locs ls hf; exact absurd hf (by intro h; cases h)
  | succ n ih =>
    intro S x1 x2 H locs ls hf  hP hS hl
    rw [P_X7_shafts_L4] at hf
    refine lv_iload_n hx hb dX7_shafts_4 rfl (lv_at hl 2 rfl) ?_
    refine lv_aload_n hx hb dX7_shafts_5 rfl (lv_at hl 0 rfl) ?_
    refine gf_X7_76 hC hP k_158 (v := .int (gI S 702 158)) rfl dX7_shafts_6 ?_
    refine lv_icmp_ge (tgt := 31) hx hb dX7_shafts_9 (by decide) (fun c1 => ?_) (fun c1 => ?_)
    · replace hf := ite_t c1 hf
      refine lv_iload_n hx hb dX7_shafts_31 rfl (lv_at hl 1 rfl) ?_
      exact pg_iret hC hr hlk hP hS hf dX7_shafts_32
    · replace hf := ite_f c1 hf
      refine lv_iload_n hx hb dX7_shafts_12 rfl (lv_at hl 1 rfl) ?_
      refine lv_aload_n hx hb dX7_shafts_13 rfl (lv_at hl 0 rfl) ?_
      refine gf_X7_13 hC hP k_158 (v := .ref (ad 160)) rfl dX7_shafts_14 ?_
      refine lv_iconst (v := 4) hx hb dX7_shafts_17 (by decide) ?_
      refine lv_iload_n hx hb dX7_shafts_18 rfl (lv_at hl 2 rfl) ?_
      refine lv_imul hx hb dX7_shafts_19 ?_
      refine lv_iconst (v := 3) hx hb dX7_shafts_20 (by decide) ?_
      refine lv_iadd hx hb dX7_shafts_21 ?_
      obtain ⟨h2, hf⟩ := gd_some hf
      refine pg_iald hC hP k_160 (bin_in h2) dX7_shafts_22 ?_
      refine lv_iadd hx hb dX7_shafts_23 ?_
      obtain ⟨v3, ev3, hf⟩ := bnd_some hf
      refine pg_top ev3 ?_
      refine lv_istore_n (lv' := [(1, .int v3), (0, .ref (ad 158)), (2, .int x2)]) hx hb dX7_shafts_24 rfl hl (by decide) rfl (fun ls hl => ?_)
      obtain ⟨v4, ev4, hf⟩ := bnd_some hf
      refine lv_iinc (v := v4) (lv' := [(2, .int v4), (1, .int v3), (0, .ref (ad 158))]) hx hb dX7_shafts_25 hl (k := 2) rfl (by rw [ev4]; rfl) (by decide) rfl (fun ls hl => ?_)
      refine lv_goto (tgt := 4) hx hb dX7_shafts_28 (by decide) ?_
      exact ih _ _ _ _ _ _ hf  hP hS (lv_sub hl [2, 1, 0] rfl)
def P_X7_shafts (N : Nat) (S : PSt) : Option (Int32 × PSt) := P_X7_shafts_L4 N N S (0 : Int32) (0 : Int32)
set_option maxHeartbeats 4000000 in
set_option maxRecDepth 100000 in
theorem c_X7_shafts (l : Launch) {D : va_G} {cy : Nat → ClassId} {ad tb : Nat → Nat} (hJ : pJ ad) {N : Nat} {S S' : PSt} {r : Int32} (hf : P_X7_shafts N S = some (r, S')) : Ct l 1 yX7_shafts cX7_shafts 3 (some .int) D cy ad tb S S' [.ref (ad 158)] (some (.int r)) := by
  refine Ct_of hJ (by decide) (Nat.le_of_ble_eq_true rfl) (fun p e s m below meth c ls hX hP hS hl => ?_)
  have hl : lv_has ls 3 [(0, .ref (ad 158))] := hl
  have hX0 := hX
  obtain ⟨hC, hml, hr, hlk⟩ := hX0
  have hx := hC.1
  have hb := hC.2.1
  unfold P_X7_shafts at hf
  refine lv_iconst (v := 0) hx hb dX7_shafts_0 (by decide) ?_
  refine lv_istore_n (lv' := [(1, .int (0 : Int32)), (0, .ref (ad 158))]) hx hb dX7_shafts_1 rfl hl (by decide) rfl (fun ls hl => ?_)
  refine lv_iconst (v := 0) hx hb dX7_shafts_2 (by decide) ?_
  refine lv_istore_n (lv' := [(2, .int (0 : Int32)), (1, .int (0 : Int32)), (0, .ref (ad 158))]) hx hb dX7_shafts_3 rfl hl (by decide) rfl (fun ls hl => ?_)
  exact w_X7_shafts_L4 hX _ _ _ _ _ _ _ hf  hP hS (lv_sub hl [2, 1, 0] rfl)
def P_X7_mark (N : Nat) (S : PSt) (x1 : Int32) (x2 : Int32) : Option (Int32 × PSt) := cal2 (P_X7_in N S x1 (0 : Int32) (5 : Int32)) fun r3 S1 => if r3 = (0 : Int32) then (some ((-1000000 : Int32), S1)) else (cal2 (P_X7_isStretch N S1 x2) fun r7 S5 => if r7 = (0 : Int32) then (some ((-1000000 : Int32), S5)) else (if x1 = (0 : Int32) then (cal2 (P_X7_stepMark N S5 x2) fun r12 S10 => some (r12, S10)) else (if x1 = (1 : Int32) then (cal2 (P_X7_firmMark N S5 x2) fun r16 S14 => some (r16, S14)) else (if x1 = (2 : Int32) then (cal2 (P_X7_slimyMark N S5 x2) fun r20 S18 => some (r20, S18)) else (if x1 = (3 : Int32) then (bnd (sJ S5 713 158 ((gJ S5 713 158) + (1000 : Int64))) fun S22 => cal2 (P_X7_firmMark N S22 x2) fun r25 S23 => some (((2 : Int32) * r25), S23)) else (if x1 = (4 : Int32) then (bnd (sJ S5 713 158 ((gJ S5 713 158) + (10000 : Int64))) fun S27 => cal2 (P_X7_slimyMark N S27 x2) fun r30 S28 => cal2 (P_X7_shafts N S28) fun r33 S31 => some ((r30 + r33), S31)) else (bnd (sJ S5 713 158 ((gJ S5 713 158) + (100000 : Int64))) fun S34 => cal2 (P_X7_stepMark N S34 x2) fun r37 S35 => some ((r37 + (gA S35 161 (1 : Int32).toNatClampNeg)), S35))))))))
set_option maxHeartbeats 4000000 in
set_option maxRecDepth 100000 in
theorem c_X7_mark (l : Launch) {D : va_G} {cy : Nat → ClassId} {ad tb : Nat → Nat} (hJ : pJ ad) {N : Nat} {S S' : PSt} {x1 : Int32} {x2 : Int32} {r : Int32} (hf : P_X7_mark N S x1 x2 = some (r, S')) : Ct l 3 yX7_mark cX7_mark 3 (some .int) D cy ad tb S S' [.ref (ad 158), .int x1, .int x2] (some (.int r)) := by
  refine Ct_of hJ (by decide) (Nat.le_of_ble_eq_true rfl) (fun p e s m below meth c ls hX hP hS hl => ?_)
  have hl : lv_has ls 3 [(0, .ref (ad 158)), (1, .int x1), (2, .int x2)] := hl
  have hX0 := hX
  obtain ⟨hC, hml, hr, hlk⟩ := hX0
  have hx := hC.1
  have hb := hC.2.1
  unfold P_X7_mark at hf
  refine lv_iload_n hx hb dX7_mark_0 rfl (lv_at hl 1 rfl) ?_
  refine lv_iconst (v := 0) hx hb dX7_mark_1 (by decide) ?_
  refine lv_iconst (v := 5) hx hb dX7_mark_2 (by decide) ?_
  obtain ⟨r3, S1, q2, hf⟩ := cal2_some hf
  refine pg_callS (As := [.int x1, .int (0 : Int32), .int (5 : Int32)]) (rest := []) (st1 := [.int r3]) hC hml hP hS (c_X7_in l hC.2.2.2.2.2.1 q2) ⟨by decide, by decide, rfl, rfl⟩ ⟨rfl, rfl⟩ (by decide) rfl rfl ⟨mk_X7_72, mi_X7_in⟩ hd_X7_in rfl hl.1 (Nat.le_of_ble_eq_true rfl) dX7_mark_3 (fun H locs hP hS => ?_)
  refine lv_if_eq (tgt := 17) hx hb dX7_mark_6 (by decide) (fun c4 => ?_) (fun c4 => ?_)
  · replace hf := ite_t c4 hf
    refine lv_ldc (v := -1000000) hx hb hC.2.2.2.1 (hC.2.2.1 _ kc_X7_229) dX7_mark_17 ?_
    exact pg_iret hC hr hlk hP hS hf dX7_mark_19
  · replace hf := ite_f c4 hf
    refine lv_aload_n hx hb dX7_mark_9 rfl (lv_at hl 0 rfl) ?_
    refine lv_iload_n hx hb dX7_mark_10 rfl (lv_at hl 2 rfl) ?_
    obtain ⟨r7, S5, q6, hf⟩ := cal2_some hf
    refine pg_callV (As := [.int x2]) (rest := []) (st1 := [.int r7]) (ci := 7) hC hml hP hS (c_X7_isStretch l hC.2.2.2.2.2.1 q6) ⟨by decide, by decide, rfl, rfl⟩ ⟨rfl, rfl⟩ (by decide) rfl (by decide) k_158 rfl rfl ⟨mk_X7_161, mi_X7_isStretch⟩ hd_X7_isStretch rfl hl.1 (Nat.le_of_ble_eq_true rfl) dX7_mark_11 (fun H locs hP hS => ?_)
    refine lv_if_ne (tgt := 20) hx hb dX7_mark_14 (by decide) (fun c8 => ?_) (fun c8 => ?_)
    · replace hf := ite_f c8 hf
      refine lv_iload_n hx hb dX7_mark_20 rfl (lv_at hl 1 rfl) ?_
      by_cases c9 : x1 = (0 : Int32)
      · replace hf := ite_t c9 hf
        refine lv_tableIn (off := 35) (tgt := 56) hx hb dX7_mark_21 (by rw [c9]; decide) (by rw [c9]; decide) (by rw [c9]; decide) (by decide) ?_
        refine lv_aload_n hx hb dX7_mark_56 rfl (lv_at hl 0 rfl) ?_
        refine lv_iload_n hx hb dX7_mark_57 rfl (lv_at hl 2 rfl) ?_
        obtain ⟨r12, S10, q11, hf⟩ := cal2_some hf
        refine pg_callV (As := [.int x2]) (rest := []) (st1 := [.int r12]) (ci := 7) hC hml hP hS (c_X7_stepMark l hC.2.2.2.2.2.1 q11) ⟨by decide, by decide, rfl, rfl⟩ ⟨rfl, rfl⟩ (by decide) rfl (by decide) k_158 rfl rfl ⟨mk_X7_224, mi_X7_stepMark⟩ hd_X7_stepMark rfl hl.1 (Nat.le_of_ble_eq_true rfl) dX7_mark_58 (fun H locs hP hS => ?_)
        exact pg_iret hC hr hlk hP hS hf dX7_mark_61
      · replace hf := ite_f c9 hf
        by_cases c13 : x1 = (1 : Int32)
        · replace hf := ite_t c13 hf
          refine lv_tableIn (off := 41) (tgt := 62) hx hb dX7_mark_21 (by rw [c13]; decide) (by rw [c13]; decide) (by rw [c13]; decide) (by decide) ?_
          refine lv_aload_n hx hb dX7_mark_62 rfl (lv_at hl 0 rfl) ?_
          refine lv_iload_n hx hb dX7_mark_63 rfl (lv_at hl 2 rfl) ?_
          obtain ⟨r16, S14, q15, hf⟩ := cal2_some hf
          refine pg_callV (As := [.int x2]) (rest := []) (st1 := [.int r16]) (ci := 7) hC hml hP hS (c_X7_firmMark l hC.2.2.2.2.2.1 q15) ⟨by decide, by decide, rfl, rfl⟩ ⟨rfl, rfl⟩ (by decide) rfl (by decide) k_158 rfl rfl ⟨mk_X7_230, mi_X7_firmMark⟩ hd_X7_firmMark rfl hl.1 (Nat.le_of_ble_eq_true rfl) dX7_mark_64 (fun H locs hP hS => ?_)
          exact pg_iret hC hr hlk hP hS hf dX7_mark_67
        · replace hf := ite_f c13 hf
          by_cases c17 : x1 = (2 : Int32)
          · replace hf := ite_t c17 hf
            refine lv_tableIn (off := 47) (tgt := 68) hx hb dX7_mark_21 (by rw [c17]; decide) (by rw [c17]; decide) (by rw [c17]; decide) (by decide) ?_
            refine lv_aload_n hx hb dX7_mark_68 rfl (lv_at hl 0 rfl) ?_
            refine lv_iload_n hx hb dX7_mark_69 rfl (lv_at hl 2 rfl) ?_
            obtain ⟨r20, S18, q19, hf⟩ := cal2_some hf
            refine pg_callV (As := [.int x2]) (rest := []) (st1 := [.int r20]) (ci := 7) hC hml hP hS (c_X7_slimyMark l hC.2.2.2.2.2.1 q19) ⟨by decide, by decide, rfl, rfl⟩ ⟨rfl, rfl⟩ (by decide) rfl (by decide) k_158 rfl rfl ⟨mk_X7_233, mi_X7_slimyMark⟩ hd_X7_slimyMark rfl hl.1 (Nat.le_of_ble_eq_true rfl) dX7_mark_70 (fun H locs hP hS => ?_)
            exact pg_iret hC hr hlk hP hS hf dX7_mark_73
          · replace hf := ite_f c17 hf
            by_cases c21 : x1 = (3 : Int32)
            · replace hf := ite_t c21 hf
              refine lv_tableIn (off := 53) (tgt := 74) hx hb dX7_mark_21 (by rw [c21]; decide) (by rw [c21]; decide) (by rw [c21]; decide) (by decide) ?_
              refine lv_aload_n hx hb dX7_mark_74 rfl (lv_at hl 0 rfl) ?_
              refine lv_dup hx hb dX7_mark_75 rfl ?_
              refine gf_X7_218 hC hP k_158 (v := .long (gJ S5 713 158)) rfl dX7_mark_76 ?_
              refine lv_ldc2 (v := 1000) hx hb hC.2.2.2.1 (hC.2.2.1 _ kc_X7_236) dX7_mark_79 ?_
              refine lv_ladd hx hb dX7_mark_82 ?_
              obtain ⟨S22, eS22, hf⟩ := bnd_some hf
              refine pf_X7_218 hC hP hS k_158 eS22 dX7_mark_83 (fun H locs hP hS => ?_)
              refine lv_iconst (v := 2) hx hb dX7_mark_86 (by decide) ?_
              refine lv_aload_n hx hb dX7_mark_87 rfl (lv_at hl 0 rfl) ?_
              refine lv_iload_n hx hb dX7_mark_88 rfl (lv_at hl 2 rfl) ?_
              obtain ⟨r25, S23, q24, hf⟩ := cal2_some hf
              refine pg_callV (As := [.int x2]) (rest := [.int (2 : Int32)]) (st1 := [.int r25, .int (2 : Int32)]) (ci := 7) hC hml hP hS (c_X7_firmMark l hC.2.2.2.2.2.1 q24) ⟨by decide, by decide, rfl, rfl⟩ ⟨rfl, rfl⟩ (by decide) rfl (by decide) k_158 rfl rfl ⟨mk_X7_230, mi_X7_firmMark⟩ hd_X7_firmMark rfl hl.1 (Nat.le_of_ble_eq_true rfl) dX7_mark_89 (fun H locs hP hS => ?_)
              refine lv_imul hx hb dX7_mark_92 ?_
              exact pg_iret hC hr hlk hP hS hf dX7_mark_93
            · replace hf := ite_f c21 hf
              by_cases c26 : x1 = (4 : Int32)
              · replace hf := ite_t c26 hf
                refine lv_tableIn (off := 73) (tgt := 94) hx hb dX7_mark_21 (by rw [c26]; decide) (by rw [c26]; decide) (by rw [c26]; decide) (by decide) ?_
                refine lv_aload_n hx hb dX7_mark_94 rfl (lv_at hl 0 rfl) ?_
                refine lv_dup hx hb dX7_mark_95 rfl ?_
                refine gf_X7_218 hC hP k_158 (v := .long (gJ S5 713 158)) rfl dX7_mark_96 ?_
                refine lv_ldc2 (v := 10000) hx hb hC.2.2.2.1 (hC.2.2.1 _ kc_X7_238) dX7_mark_99 ?_
                refine lv_ladd hx hb dX7_mark_102 ?_
                obtain ⟨S27, eS27, hf⟩ := bnd_some hf
                refine pf_X7_218 hC hP hS k_158 eS27 dX7_mark_103 (fun H locs hP hS => ?_)
                refine lv_aload_n hx hb dX7_mark_106 rfl (lv_at hl 0 rfl) ?_
                refine lv_iload_n hx hb dX7_mark_107 rfl (lv_at hl 2 rfl) ?_
                obtain ⟨r30, S28, q29, hf⟩ := cal2_some hf
                refine pg_callV (As := [.int x2]) (rest := []) (st1 := [.int r30]) (ci := 7) hC hml hP hS (c_X7_slimyMark l hC.2.2.2.2.2.1 q29) ⟨by decide, by decide, rfl, rfl⟩ ⟨rfl, rfl⟩ (by decide) rfl (by decide) k_158 rfl rfl ⟨mk_X7_233, mi_X7_slimyMark⟩ hd_X7_slimyMark rfl hl.1 (Nat.le_of_ble_eq_true rfl) dX7_mark_108 (fun H locs hP hS => ?_)
                refine lv_aload_n hx hb dX7_mark_111 rfl (lv_at hl 0 rfl) ?_
                obtain ⟨r33, S31, q32, hf⟩ := cal2_some hf
                refine pg_callV (As := []) (rest := [.int r30]) (st1 := [.int r33, .int r30]) (ci := 7) hC hml hP hS (c_X7_shafts l hC.2.2.2.2.2.1 q32) ⟨by decide, by decide, rfl, rfl⟩ ⟨rfl, rfl⟩ (by decide) rfl (by decide) k_158 rfl rfl ⟨mk_X7_240, mi_X7_shafts⟩ hd_X7_shafts rfl hl.1 (Nat.le_of_ble_eq_true rfl) dX7_mark_112 (fun H locs hP hS => ?_)
                refine lv_iadd hx hb dX7_mark_115 ?_
                exact pg_iret hC hr hlk hP hS hf dX7_mark_116
              · replace hf := ite_f c26 hf
                refine lv_tableOut (tgt := 117) hx hb dX7_mark_21 (sw_out 0 4 (fun k h1 h2 hk => by
                  rcases (show k = 0 ∨ k = 1 ∨ k = 2 ∨ k = 3 ∨ k = 4 by omega) with h | h | h | h | h
                  · subst h; exact c9 (hk.trans (by decide))
                  · subst h; exact c13 (hk.trans (by decide))
                  · subst h; exact c17 (hk.trans (by decide))
                  · subst h; exact c21 (hk.trans (by decide))
                  · subst h; exact c26 (hk.trans (by decide)))) (by decide) ?_
                refine lv_aload_n hx hb dX7_mark_117 rfl (lv_at hl 0 rfl) ?_
                refine lv_dup hx hb dX7_mark_118 rfl ?_
                refine gf_X7_218 hC hP k_158 (v := .long (gJ S5 713 158)) rfl dX7_mark_119 ?_
                refine lv_ldc2 (v := 100000) hx hb hC.2.2.2.1 (hC.2.2.1 _ kc_X7_244) dX7_mark_122 ?_
                refine lv_ladd hx hb dX7_mark_125 ?_
                obtain ⟨S34, eS34, hf⟩ := bnd_some hf
                refine pf_X7_218 hC hP hS k_158 eS34 dX7_mark_126 (fun H locs hP hS => ?_)
                refine lv_aload_n hx hb dX7_mark_129 rfl (lv_at hl 0 rfl) ?_
                refine lv_iload_n hx hb dX7_mark_130 rfl (lv_at hl 2 rfl) ?_
                obtain ⟨r37, S35, q36, hf⟩ := cal2_some hf
                refine pg_callV (As := [.int x2]) (rest := []) (st1 := [.int r37]) (ci := 7) hC hml hP hS (c_X7_stepMark l hC.2.2.2.2.2.1 q36) ⟨by decide, by decide, rfl, rfl⟩ ⟨rfl, rfl⟩ (by decide) rfl (by decide) k_158 rfl rfl ⟨mk_X7_224, mi_X7_stepMark⟩ hd_X7_stepMark rfl hl.1 (Nat.le_of_ble_eq_true rfl) dX7_mark_131 (fun H locs hP hS => ?_)
                refine lv_aload_n hx hb dX7_mark_134 rfl (lv_at hl 0 rfl) ?_
                refine gf_X7_20 hC hP k_158 (v := .ref (ad 161)) rfl dX7_mark_135 ?_
                refine lv_iconst (v := 1) hx hb dX7_mark_138 (by decide) ?_
                refine pg_iald hC hP k_161 (bin_in (by decide +kernel)) dX7_mark_139 ?_
                refine lv_iadd hx hb dX7_mark_140 ?_
                exact pg_iret hC hr hlk hP hS hf dX7_mark_141
    · replace hf := ite_t c8 hf
      refine lv_ldc (v := -1000000) hx hb hC.2.2.2.1 (hC.2.2.1 _ kc_X7_229) dX7_mark_17 ?_
      exact pg_iret hC hr hlk hP hS hf dX7_mark_19
def P_X7_keep_L59 (N : Nat) : Nat → PSt → Int32 → Int32 → Int32 → Option (Int32 × PSt)
  | 0 => fun _ _ _ _ => none
  | n + 1 => fun S x1 x2 x3 => if (70 : Int32) ≤ x3 then (gd (bin x1 (ln 164)) <| bnd (sA S 164 x1.toNatClampNeg (vp_nar .boolean (1 : Int32))) fun S3 => some ((gA S3 161 (1 : Int32).toNatClampNeg), S3)) else (gd (bin x3 (ln 162)) <| gd (bin (((x2 + (7 : Int32)) + (1 : Int32)) + x3) (ln 163)) <| bnd (sA S 163 (((x2 + (7 : Int32)) + (1 : Int32)) + x3).toNatClampNeg (gA S 162 x3.toNatClampNeg)) fun S6 => bnd (x3 + (1 : Int32)) fun v7 => P_X7_keep_L59 N n S6 x1 x2 v7)
set_option maxHeartbeats 4000000 in
set_option maxRecDepth 100000 in
theorem w_X7_keep_L59 {N : Nat} {S' : PSt} {r : Int32} (hX : Mx p s m args c meth cX7_keep RX7 4 (some .int) D cy ad tb) : ∀ (n : Nat), ∀ (S : PSt) (x1 : Int32) (x2 : Int32) (x3 : Int32) (H : Heap) (locs : List Loc) (ls : Array Slot), P_X7_keep_L59 N n S x1 x2 x3 = some (r, S') → va_P D vwCl (pW cy ad S) H → va_S (pA ad s.heap.size) s.heap H locs → lv_has ls 4 [(0, .ref (ad 158)), (1, .int x1), (2, .int x2), (3, .int x3)] → W p l e (rmd 2) s m args below meth c H locs 0 0 (Qz D cy ad below args s S' (some (.int r))) (F0 m 59 ls []) := by
  have hX0 := hX
  obtain ⟨hC, hml, hr, hlk⟩ := hX0
  have hx := hC.1
  have hb := hC.2.1
  intro n
  induction n with
  | zero => intro S x1 x2 x3 H locs ls hf; exact absurd hf (by intro h; cases h)
  | succ n ih =>
    intro S x1 x2 x3 H locs ls hf  hP hS hl
    rw [P_X7_keep_L59] at hf
    refine lv_iload_n hx hb dX7_keep_59 rfl (lv_at hl 3 rfl) ?_
    refine lv_bipush (v := 70) hx hb dX7_keep_60 (by decide) ?_
    refine lv_icmp_ge (tgt := 90) hx hb dX7_keep_62 (by decide) (fun c1 => ?_) (fun c1 => ?_)
    · replace hf := ite_t c1 hf
      refine lv_aload_n hx hb dX7_keep_90 rfl (lv_at hl 0 rfl) ?_
      refine gf_X7_29 hC hP k_158 (v := .ref (ad 164)) rfl dX7_keep_91 ?_
      refine lv_iload_n hx hb dX7_keep_94 rfl (lv_at hl 1 rfl) ?_
      refine lv_iconst (v := 1) hx hb dX7_keep_95 (by decide) ?_
      obtain ⟨h2, hf⟩ := gd_some hf
      obtain ⟨S3, eS3, hf⟩ := bnd_some hf
      refine pg_zast hC hP hS k_164 (bin_in h2) dX7_keep_96 (fun H locs hP hS => ?_)
      rw [← eS3] at hP
      refine lv_aload_n hx hb dX7_keep_97 rfl (lv_at hl 0 rfl) ?_
      refine gf_X7_20 hC hP k_158 (v := .ref (ad 161)) rfl dX7_keep_98 ?_
      refine lv_iconst (v := 1) hx hb dX7_keep_101 (by decide) ?_
      refine pg_iald hC hP k_161 (bin_in (by decide +kernel)) dX7_keep_102 ?_
      exact pg_iret hC hr hlk hP hS hf dX7_keep_103
    · replace hf := ite_f c1 hf
      refine lv_aload_n hx hb dX7_keep_65 rfl (lv_at hl 0 rfl) ?_
      refine gf_X7_26 hC hP k_158 (v := .ref (ad 163)) rfl dX7_keep_66 ?_
      refine lv_iload_n hx hb dX7_keep_69 rfl (lv_at hl 2 rfl) ?_
      refine lv_bipush (v := 7) hx hb dX7_keep_70 (by decide) ?_
      refine lv_iadd hx hb dX7_keep_72 ?_
      refine lv_iconst (v := 1) hx hb dX7_keep_73 (by decide) ?_
      refine lv_iadd hx hb dX7_keep_74 ?_
      refine lv_iload_n hx hb dX7_keep_75 rfl (lv_at hl 3 rfl) ?_
      refine lv_iadd hx hb dX7_keep_76 ?_
      refine lv_aload_n hx hb dX7_keep_77 rfl (lv_at hl 0 rfl) ?_
      refine gf_X7_23 hC hP k_158 (v := .ref (ad 162)) rfl dX7_keep_78 ?_
      refine lv_iload_n hx hb dX7_keep_81 rfl (lv_at hl 3 rfl) ?_
      obtain ⟨h4, hf⟩ := gd_some hf
      refine pg_iald hC hP k_162 (bin_in h4) dX7_keep_82 ?_
      obtain ⟨h5, hf⟩ := gd_some hf
      obtain ⟨S6, eS6, hf⟩ := bnd_some hf
      refine pg_iast hC hP hS k_163 (bin_in h5) dX7_keep_83 (fun H locs hP hS => ?_)
      rw [← eS6] at hP
      obtain ⟨v7, ev7, hf⟩ := bnd_some hf
      refine lv_iinc (v := v7) (lv' := [(3, .int v7), (0, .ref (ad 158)), (1, .int x1), (2, .int x2)]) hx hb dX7_keep_84 hl (k := 3) rfl (by rw [ev7]; rfl) (by decide) rfl (fun ls hl => ?_)
      refine lv_goto (tgt := 59) hx hb dX7_keep_87 (by decide) ?_
      exact ih _ _ _ _ _ _ _ hf  hP hS (lv_sub hl [1, 2, 3, 0] rfl)
def P_X7_keep_L18 (N : Nat) : Nat → PSt → Int32 → Int32 → Int32 → Option (Int32 × PSt)
  | 0 => fun _ _ _ _ => none
  | n + 1 => fun S x1 x2 x3 => if (7 : Int32) ≤ x3 then (gd (bin (x2 + (7 : Int32)) (ln 163)) <| bnd (sA S 163 (x2 + (7 : Int32)).toNatClampNeg (gI S 708 158)) fun S10 => P_X7_keep_L59 N N S10 x1 x2 (0 : Int32)) else (gd (bin x3 (ln 161)) <| gd (bin (x2 + x3) (ln 163)) <| bnd (sA S 163 (x2 + x3).toNatClampNeg (gA S 161 x3.toNatClampNeg)) fun S13 => bnd (x3 + (1 : Int32)) fun v14 => P_X7_keep_L18 N n S13 x1 x2 v14)
set_option maxHeartbeats 4000000 in
set_option maxRecDepth 100000 in
theorem w_X7_keep_L18 {N : Nat} {S' : PSt} {r : Int32} (hX : Mx p s m args c meth cX7_keep RX7 4 (some .int) D cy ad tb) : ∀ (n : Nat), ∀ (S : PSt) (x1 : Int32) (x2 : Int32) (x3 : Int32) (H : Heap) (locs : List Loc) (ls : Array Slot), P_X7_keep_L18 N n S x1 x2 x3 = some (r, S') → va_P D vwCl (pW cy ad S) H → va_S (pA ad s.heap.size) s.heap H locs → lv_has ls 4 [(0, .ref (ad 158)), (1, .int x1), (2, .int x2), (3, .int x3)] → W p l e (rmd 2) s m args below meth c H locs 0 0 (Qz D cy ad below args s S' (some (.int r))) (F0 m 18 ls []) := by
  have hX0 := hX
  obtain ⟨hC, hml, hr, hlk⟩ := hX0
  have hx := hC.1
  have hb := hC.2.1
  intro n
  induction n with
  | zero => intro S x1 x2 x3 H locs ls hf; exact absurd hf (by intro h; cases h)
  | succ n ih =>
    intro S x1 x2 x3 H locs ls hf  hP hS hl
    rw [P_X7_keep_L18] at hf
    refine lv_iload_n hx hb dX7_keep_18 rfl (lv_at hl 3 rfl) ?_
    refine lv_bipush (v := 7) hx hb dX7_keep_19 (by decide) ?_
    refine lv_icmp_ge (tgt := 44) hx hb dX7_keep_21 (by decide) (fun c8 => ?_) (fun c8 => ?_)
    · replace hf := ite_t c8 hf
      refine lv_aload_n hx hb dX7_keep_44 rfl (lv_at hl 0 rfl) ?_
      refine gf_X7_26 hC hP k_158 (v := .ref (ad 163)) rfl dX7_keep_45 ?_
      refine lv_iload_n hx hb dX7_keep_48 rfl (lv_at hl 2 rfl) ?_
      refine lv_bipush (v := 7) hx hb dX7_keep_49 (by decide) ?_
      refine lv_iadd hx hb dX7_keep_51 ?_
      refine lv_aload_n hx hb dX7_keep_52 rfl (lv_at hl 0 rfl) ?_
      refine gf_X7_137 hC hP k_158 (v := .int (gI S 708 158)) rfl dX7_keep_53 ?_
      obtain ⟨h9, hf⟩ := gd_some hf
      obtain ⟨S10, eS10, hf⟩ := bnd_some hf
      refine pg_iast hC hP hS k_163 (bin_in h9) dX7_keep_56 (fun H locs hP hS => ?_)
      rw [← eS10] at hP
      refine lv_iconst (v := 0) hx hb dX7_keep_57 (by decide) ?_
      refine lv_istore_n (lv' := [(3, .int (0 : Int32)), (0, .ref (ad 158)), (1, .int x1), (2, .int x2)]) hx hb dX7_keep_58 rfl hl (by decide) rfl (fun ls hl => ?_)
      exact w_X7_keep_L59 hX _ _ _ _ _ _ _ _ hf  hP hS (lv_sub hl [1, 2, 3, 0] rfl)
    · replace hf := ite_f c8 hf
      refine lv_aload_n hx hb dX7_keep_24 rfl (lv_at hl 0 rfl) ?_
      refine gf_X7_26 hC hP k_158 (v := .ref (ad 163)) rfl dX7_keep_25 ?_
      refine lv_iload_n hx hb dX7_keep_28 rfl (lv_at hl 2 rfl) ?_
      refine lv_iload_n hx hb dX7_keep_29 rfl (lv_at hl 3 rfl) ?_
      refine lv_iadd hx hb dX7_keep_30 ?_
      refine lv_aload_n hx hb dX7_keep_31 rfl (lv_at hl 0 rfl) ?_
      refine gf_X7_20 hC hP k_158 (v := .ref (ad 161)) rfl dX7_keep_32 ?_
      refine lv_iload_n hx hb dX7_keep_35 rfl (lv_at hl 3 rfl) ?_
      obtain ⟨h11, hf⟩ := gd_some hf
      refine pg_iald hC hP k_161 (bin_in h11) dX7_keep_36 ?_
      obtain ⟨h12, hf⟩ := gd_some hf
      obtain ⟨S13, eS13, hf⟩ := bnd_some hf
      refine pg_iast hC hP hS k_163 (bin_in h12) dX7_keep_37 (fun H locs hP hS => ?_)
      rw [← eS13] at hP
      obtain ⟨v14, ev14, hf⟩ := bnd_some hf
      refine lv_iinc (v := v14) (lv' := [(3, .int v14), (0, .ref (ad 158)), (1, .int x1), (2, .int x2)]) hx hb dX7_keep_38 hl (k := 3) rfl (by rw [ev14]; rfl) (by decide) rfl (fun ls hl => ?_)
      refine lv_goto (tgt := 18) hx hb dX7_keep_41 (by decide) ?_
      exact ih _ _ _ _ _ _ _ hf  hP hS (lv_sub hl [1, 2, 3, 0] rfl)
def P_X7_keep (N : Nat) (S : PSt) (x1 : Int32) : Option (Int32 × PSt) := cal2 (P_X7_in N S x1 (0 : Int32) (1 : Int32)) fun r17 S15 => if r17 = (0 : Int32) then (some ((-1 : Int32), S15)) else (bnd ((78 : Int32) * x1) fun v19 => P_X7_keep_L18 N N S15 x1 v19 (0 : Int32))
set_option maxHeartbeats 4000000 in
set_option maxRecDepth 100000 in
theorem c_X7_keep (l : Launch) {D : va_G} {cy : Nat → ClassId} {ad tb : Nat → Nat} (hJ : pJ ad) {N : Nat} {S S' : PSt} {x1 : Int32} {r : Int32} (hf : P_X7_keep N S x1 = some (r, S')) : Ct l 2 yX7_keep cX7_keep 4 (some .int) D cy ad tb S S' [.ref (ad 158), .int x1] (some (.int r)) := by
  refine Ct_of hJ (by decide) (Nat.le_of_ble_eq_true rfl) (fun p e s m below meth c ls hX hP hS hl => ?_)
  have hl : lv_has ls 4 [(0, .ref (ad 158)), (1, .int x1)] := hl
  have hX0 := hX
  obtain ⟨hC, hml, hr, hlk⟩ := hX0
  have hx := hC.1
  have hb := hC.2.1
  unfold P_X7_keep at hf
  refine lv_iload_n hx hb dX7_keep_0 rfl (lv_at hl 1 rfl) ?_
  refine lv_iconst (v := 0) hx hb dX7_keep_1 (by decide) ?_
  refine lv_iconst (v := 1) hx hb dX7_keep_2 (by decide) ?_
  obtain ⟨r17, S15, q16, hf⟩ := cal2_some hf
  refine pg_callS (As := [.int x1, .int (0 : Int32), .int (1 : Int32)]) (rest := []) (st1 := [.int r17]) hC hml hP hS (c_X7_in l hC.2.2.2.2.2.1 q16) ⟨by decide, by decide, rfl, rfl⟩ ⟨rfl, rfl⟩ (by decide) rfl rfl ⟨mk_X7_72, mi_X7_in⟩ hd_X7_in rfl hl.1 (Nat.le_of_ble_eq_true rfl) dX7_keep_3 (fun H locs hP hS => ?_)
  refine lv_if_ne (tgt := 11) hx hb dX7_keep_6 (by decide) (fun c18 => ?_) (fun c18 => ?_)
  · replace hf := ite_f c18 hf
    refine lv_bipush (v := 78) hx hb dX7_keep_11 (by decide) ?_
    refine lv_iload_n hx hb dX7_keep_13 rfl (lv_at hl 1 rfl) ?_
    refine lv_imul hx hb dX7_keep_14 ?_
    obtain ⟨v19, ev19, hf⟩ := bnd_some hf
    refine pg_top ev19 ?_
    refine lv_istore_n (lv' := [(2, .int v19), (0, .ref (ad 158)), (1, .int x1)]) hx hb dX7_keep_15 rfl hl (by decide) rfl (fun ls hl => ?_)
    refine lv_iconst (v := 0) hx hb dX7_keep_16 (by decide) ?_
    refine lv_istore_n (lv' := [(3, .int (0 : Int32)), (2, .int v19), (0, .ref (ad 158)), (1, .int x1)]) hx hb dX7_keep_17 rfl hl (by decide) rfl (fun ls hl => ?_)
    exact w_X7_keep_L18 hX _ _ _ _ _ _ _ _ hf  hP hS (lv_sub hl [2, 3, 1, 0] rfl)
  · replace hf := ite_t c18 hf
    refine lv_iconst (v := -1) hx hb dX7_keep_9 (by decide) ?_
    exact pg_iret hC hr hlk hP hS hf dX7_keep_10
def P_X7_back_L71 (N : Nat) : Nat → PSt → Int32 → Int32 → Option (Int32 × PSt)
  | 0 => fun _ _ _ => none
  | n + 1 => fun S x2 x3 => if (70 : Int32) ≤ x3 then (some ((gA S 161 (1 : Int32).toNatClampNeg), S)) else (gd (bin (((x2 + (7 : Int32)) + (1 : Int32)) + x3) (ln 163)) <| gd (bin x3 (ln 162)) <| bnd (sA S 162 x3.toNatClampNeg (gA S 163 (((x2 + (7 : Int32)) + (1 : Int32)) + x3).toNatClampNeg)) fun S4 => bnd (x3 + (1 : Int32)) fun v5 => P_X7_back_L71 N n S4 x2 v5)
set_option maxHeartbeats 4000000 in
set_option maxRecDepth 100000 in
theorem w_X7_back_L71 {N : Nat} {S' : PSt} {r : Int32} (hX : Mx p s m args c meth cX7_back RX7 4 (some .int) D cy ad tb) : ∀ (n : Nat), ∀ (S : PSt) (x2 : Int32) (x3 : Int32) (H : Heap) (locs : List Loc) (ls : Array Slot), P_X7_back_L71 N n S x2 x3 = some (r, S') → va_P D vwCl (pW cy ad S) H → va_S (pA ad s.heap.size) s.heap H locs → lv_has ls 4 [(0, .ref (ad 158)), (2, .int x2), (3, .int x3)] → W p l e (rmd 2) s m args below meth c H locs 0 0 (Qz D cy ad below args s S' (some (.int r))) (F0 m 71 ls []) := by
  have hX0 := hX
  obtain ⟨hC, hml, hr, hlk⟩ := hX0
  have hx := hC.1
  have hb := hC.2.1
  intro n
  induction n with
  | zero => intro S x2 x3 H locs ls hf; exact absurd hf (by intro h; cases h)
  | succ n ih =>
    intro S x2 x3 H locs ls hf  hP hS hl
    rw [P_X7_back_L71] at hf
    refine lv_iload_n hx hb dX7_back_71 rfl (lv_at hl 2 rfl) ?_
    refine lv_bipush (v := 70) hx hb dX7_back_72 (by decide) ?_
    refine lv_icmp_ge (tgt := 102) hx hb dX7_back_74 (by decide) (fun c1 => ?_) (fun c1 => ?_)
    · replace hf := ite_t c1 hf
      refine lv_aload_n hx hb dX7_back_102 rfl (lv_at hl 0 rfl) ?_
      refine gf_X7_20 hC hP k_158 (v := .ref (ad 161)) rfl dX7_back_103 ?_
      refine lv_iconst (v := 1) hx hb dX7_back_106 (by decide) ?_
      refine pg_iald hC hP k_161 (bin_in (by decide +kernel)) dX7_back_107 ?_
      exact pg_iret hC hr hlk hP hS hf dX7_back_108
    · replace hf := ite_f c1 hf
      refine lv_aload_n hx hb dX7_back_77 rfl (lv_at hl 0 rfl) ?_
      refine gf_X7_23 hC hP k_158 (v := .ref (ad 162)) rfl dX7_back_78 ?_
      refine lv_iload_n hx hb dX7_back_81 rfl (lv_at hl 2 rfl) ?_
      refine lv_aload_n hx hb dX7_back_82 rfl (lv_at hl 0 rfl) ?_
      refine gf_X7_26 hC hP k_158 (v := .ref (ad 163)) rfl dX7_back_83 ?_
      refine lv_iload_n hx hb dX7_back_86 rfl (lv_at hl 1 rfl) ?_
      refine lv_bipush (v := 7) hx hb dX7_back_87 (by decide) ?_
      refine lv_iadd hx hb dX7_back_89 ?_
      refine lv_iconst (v := 1) hx hb dX7_back_90 (by decide) ?_
      refine lv_iadd hx hb dX7_back_91 ?_
      refine lv_iload_n hx hb dX7_back_92 rfl (lv_at hl 2 rfl) ?_
      refine lv_iadd hx hb dX7_back_93 ?_
      obtain ⟨h2, hf⟩ := gd_some hf
      refine pg_iald hC hP k_163 (bin_in h2) dX7_back_94 ?_
      obtain ⟨h3, hf⟩ := gd_some hf
      obtain ⟨S4, eS4, hf⟩ := bnd_some hf
      refine pg_iast hC hP hS k_162 (bin_in h3) dX7_back_95 (fun H locs hP hS => ?_)
      rw [← eS4] at hP
      obtain ⟨v5, ev5, hf⟩ := bnd_some hf
      refine lv_iinc (v := v5) (lv' := [(3, .int v5), (0, .ref (ad 158)), (2, .int x2)]) hx hb dX7_back_96 hl (k := 2) rfl (by rw [ev5]; rfl) (by decide) rfl (fun ls hl => ?_)
      refine lv_goto (tgt := 71) hx hb dX7_back_99 (by decide) ?_
      exact ih _ _ _ _ _ _ hf  hP hS (lv_sub hl [1, 2, 0] rfl)
def P_X7_back_L30 (N : Nat) : Nat → PSt → Int32 → Int32 → Option (Int32 × PSt)
  | 0 => fun _ _ _ => none
  | n + 1 => fun S x2 x3 => if (7 : Int32) ≤ x3 then (gd (bin (x2 + (7 : Int32)) (ln 163)) <| bnd (sI S 708 158 (gA S 163 (x2 + (7 : Int32)).toNatClampNeg)) fun S8 => P_X7_back_L71 N N S8 x2 (0 : Int32)) else (gd (bin (x2 + x3) (ln 163)) <| gd (bin x3 (ln 161)) <| bnd (sA S 161 x3.toNatClampNeg (gA S 163 (x2 + x3).toNatClampNeg)) fun S11 => bnd (x3 + (1 : Int32)) fun v12 => P_X7_back_L30 N n S11 x2 v12)
set_option maxHeartbeats 4000000 in
set_option maxRecDepth 100000 in
theorem w_X7_back_L30 {N : Nat} {S' : PSt} {r : Int32} (hX : Mx p s m args c meth cX7_back RX7 4 (some .int) D cy ad tb) : ∀ (n : Nat), ∀ (S : PSt) (x2 : Int32) (x3 : Int32) (H : Heap) (locs : List Loc) (ls : Array Slot), P_X7_back_L30 N n S x2 x3 = some (r, S') → va_P D vwCl (pW cy ad S) H → va_S (pA ad s.heap.size) s.heap H locs → lv_has ls 4 [(0, .ref (ad 158)), (2, .int x2), (3, .int x3)] → W p l e (rmd 2) s m args below meth c H locs 0 0 (Qz D cy ad below args s S' (some (.int r))) (F0 m 30 ls []) := by
  have hX0 := hX
  obtain ⟨hC, hml, hr, hlk⟩ := hX0
  have hx := hC.1
  have hb := hC.2.1
  intro n
  induction n with
  | zero => intro S x2 x3 H locs ls hf; exact absurd hf (by intro h; cases h)
  | succ n ih =>
    intro S x2 x3 H locs ls hf  hP hS hl
    rw [P_X7_back_L30] at hf
    refine lv_iload_n hx hb dX7_back_30 rfl (lv_at hl 2 rfl) ?_
    refine lv_bipush (v := 7) hx hb dX7_back_31 (by decide) ?_
    refine lv_icmp_ge (tgt := 56) hx hb dX7_back_33 (by decide) (fun c6 => ?_) (fun c6 => ?_)
    · replace hf := ite_t c6 hf
      refine lv_aload_n hx hb dX7_back_56 rfl (lv_at hl 0 rfl) ?_
      refine lv_aload_n hx hb dX7_back_57 rfl (lv_at hl 0 rfl) ?_
      refine gf_X7_26 hC hP k_158 (v := .ref (ad 163)) rfl dX7_back_58 ?_
      refine lv_iload_n hx hb dX7_back_61 rfl (lv_at hl 1 rfl) ?_
      refine lv_bipush (v := 7) hx hb dX7_back_62 (by decide) ?_
      refine lv_iadd hx hb dX7_back_64 ?_
      obtain ⟨h7, hf⟩ := gd_some hf
      refine pg_iald hC hP k_163 (bin_in h7) dX7_back_65 ?_
      obtain ⟨S8, eS8, hf⟩ := bnd_some hf
      refine pf_X7_137 hC hP hS k_158 eS8 dX7_back_66 (fun H locs hP hS => ?_)
      refine lv_iconst (v := 0) hx hb dX7_back_69 (by decide) ?_
      refine lv_istore_n (lv' := [(3, .int (0 : Int32)), (0, .ref (ad 158)), (2, .int x2)]) hx hb dX7_back_70 rfl hl (by decide) rfl (fun ls hl => ?_)
      exact w_X7_back_L71 hX _ _ _ _ _ _ _ hf  hP hS (lv_sub hl [1, 2, 0] rfl)
    · replace hf := ite_f c6 hf
      refine lv_aload_n hx hb dX7_back_36 rfl (lv_at hl 0 rfl) ?_
      refine gf_X7_20 hC hP k_158 (v := .ref (ad 161)) rfl dX7_back_37 ?_
      refine lv_iload_n hx hb dX7_back_40 rfl (lv_at hl 2 rfl) ?_
      refine lv_aload_n hx hb dX7_back_41 rfl (lv_at hl 0 rfl) ?_
      refine gf_X7_26 hC hP k_158 (v := .ref (ad 163)) rfl dX7_back_42 ?_
      refine lv_iload_n hx hb dX7_back_45 rfl (lv_at hl 1 rfl) ?_
      refine lv_iload_n hx hb dX7_back_46 rfl (lv_at hl 2 rfl) ?_
      refine lv_iadd hx hb dX7_back_47 ?_
      obtain ⟨h9, hf⟩ := gd_some hf
      refine pg_iald hC hP k_163 (bin_in h9) dX7_back_48 ?_
      obtain ⟨h10, hf⟩ := gd_some hf
      obtain ⟨S11, eS11, hf⟩ := bnd_some hf
      refine pg_iast hC hP hS k_161 (bin_in h10) dX7_back_49 (fun H locs hP hS => ?_)
      rw [← eS11] at hP
      obtain ⟨v12, ev12, hf⟩ := bnd_some hf
      refine lv_iinc (v := v12) (lv' := [(3, .int v12), (0, .ref (ad 158)), (2, .int x2)]) hx hb dX7_back_50 hl (k := 2) rfl (by rw [ev12]; rfl) (by decide) rfl (fun ls hl => ?_)
      refine lv_goto (tgt := 30) hx hb dX7_back_53 (by decide) ?_
      exact ih _ _ _ _ _ _ hf  hP hS (lv_sub hl [1, 2, 0] rfl)
def P_X7_back (N : Nat) (S : PSt) (x1 : Int32) : Option (Int32 × PSt) := cal2 (P_X7_in N S x1 (0 : Int32) (1 : Int32)) fun r15 S13 => if r15 = (0 : Int32) then (some ((-1 : Int32), S13)) else (gd (bin x1 (ln 164)) <| if (gA S13 164 x1.toNatClampNeg) = (0 : Int32) then (some ((-2 : Int32), S13)) else (bnd ((78 : Int32) * x1) fun v19 => P_X7_back_L30 N N S13 v19 (0 : Int32)))
set_option maxHeartbeats 4000000 in
set_option maxRecDepth 100000 in
theorem c_X7_back (l : Launch) {D : va_G} {cy : Nat → ClassId} {ad tb : Nat → Nat} (hJ : pJ ad) {N : Nat} {S S' : PSt} {x1 : Int32} {r : Int32} (hf : P_X7_back N S x1 = some (r, S')) : Ct l 2 yX7_back cX7_back 4 (some .int) D cy ad tb S S' [.ref (ad 158), .int x1] (some (.int r)) := by
  refine Ct_of hJ (by decide) (Nat.le_of_ble_eq_true rfl) (fun p e s m below meth c ls hX hP hS hl => ?_)
  have hl : lv_has ls 4 [(0, .ref (ad 158)), (1, .int x1)] := hl
  have hX0 := hX
  obtain ⟨hC, hml, hr, hlk⟩ := hX0
  have hx := hC.1
  have hb := hC.2.1
  unfold P_X7_back at hf
  refine lv_iload_n hx hb dX7_back_0 rfl (lv_at hl 1 rfl) ?_
  refine lv_iconst (v := 0) hx hb dX7_back_1 (by decide) ?_
  refine lv_iconst (v := 1) hx hb dX7_back_2 (by decide) ?_
  obtain ⟨r15, S13, q14, hf⟩ := cal2_some hf
  refine pg_callS (As := [.int x1, .int (0 : Int32), .int (1 : Int32)]) (rest := []) (st1 := [.int r15]) hC hml hP hS (c_X7_in l hC.2.2.2.2.2.1 q14) ⟨by decide, by decide, rfl, rfl⟩ ⟨rfl, rfl⟩ (by decide) rfl rfl ⟨mk_X7_72, mi_X7_in⟩ hd_X7_in rfl hl.1 (Nat.le_of_ble_eq_true rfl) dX7_back_3 (fun H locs hP hS => ?_)
  refine lv_if_ne (tgt := 11) hx hb dX7_back_6 (by decide) (fun c16 => ?_) (fun c16 => ?_)
  · replace hf := ite_f c16 hf
    refine lv_aload_n hx hb dX7_back_11 rfl (lv_at hl 0 rfl) ?_
    refine gf_X7_29 hC hP k_158 (v := .ref (ad 164)) rfl dX7_back_12 ?_
    refine lv_iload_n hx hb dX7_back_15 rfl (lv_at hl 1 rfl) ?_
    obtain ⟨h17, hf⟩ := gd_some hf
    refine pg_zald hC hP k_164 (bin_in h17) dX7_back_16 ?_
    refine lv_if_ne (tgt := 23) hx hb dX7_back_17 (by decide) (fun c18 => ?_) (fun c18 => ?_)
    · replace hf := ite_f c18 hf
      refine lv_bipush (v := 78) hx hb dX7_back_23 (by decide) ?_
      refine lv_iload_n hx hb dX7_back_25 rfl (lv_at hl 1 rfl) ?_
      refine lv_imul hx hb dX7_back_26 ?_
      obtain ⟨v19, ev19, hf⟩ := bnd_some hf
      refine pg_top ev19 ?_
      refine lv_istore_n (lv' := [(2, .int v19), (0, .ref (ad 158)), (1, .int x1)]) hx hb dX7_back_27 rfl hl (by decide) rfl (fun ls hl => ?_)
      refine lv_iconst (v := 0) hx hb dX7_back_28 (by decide) ?_
      refine lv_istore_n (lv' := [(3, .int (0 : Int32)), (2, .int v19), (0, .ref (ad 158)), (1, .int x1)]) hx hb dX7_back_29 rfl hl (by decide) rfl (fun ls hl => ?_)
      exact w_X7_back_L30 hX _ _ _ _ _ _ _ hf  hP hS (lv_sub hl [2, 1, 0] rfl)
    · replace hf := ite_t c18 hf
      refine lv_bipush (v := -2) hx hb dX7_back_20 (by decide) ?_
      exact pg_iret hC hr hlk hP hS hf dX7_back_22
  · replace hf := ite_t c16 hf
    refine lv_iconst (v := -1) hx hb dX7_back_9 (by decide) ?_
    exact pg_iret hC hr hlk hP hS hf dX7_back_10
def P_X7_count (N : Nat) (S : PSt) (x1 : Int32) : Option (Int32 × PSt) := if x1 = (0 : Int32) then (some ((gI S 700 158), S)) else (if x1 = (1 : Int32) then (some ((gI S 702 158), S)) else (if x1 = (2 : Int32) then (some ((gI S 704 158), S)) else (if x1 = (3 : Int32) then (some ((gI S 705 158), S)) else (if x1 = (4 : Int32) then (some ((gI S 711 158), S)) else (if x1 = (5 : Int32) then (some ((gI S 708 158), S)) else (if x1 = (6 : Int32) then (some ((gI S 715 158), S)) else (some ((-1 : Int32), S))))))))
set_option maxHeartbeats 4000000 in
set_option maxRecDepth 100000 in
theorem c_X7_count (l : Launch) {D : va_G} {cy : Nat → ClassId} {ad tb : Nat → Nat} (hJ : pJ ad) {N : Nat} {S S' : PSt} {x1 : Int32} {r : Int32} (hf : P_X7_count N S x1 = some (r, S')) : Ct l 1 yX7_count cX7_count 2 (some .int) D cy ad tb S S' [.ref (ad 158), .int x1] (some (.int r)) := by
  refine Ct_of hJ (by decide) (Nat.le_of_ble_eq_true rfl) (fun p e s m below meth c ls hX hP hS hl => ?_)
  have hl : lv_has ls 2 [(0, .ref (ad 158)), (1, .int x1)] := hl
  have hX0 := hX
  obtain ⟨hC, hml, hr, hlk⟩ := hX0
  have hx := hC.1
  have hb := hC.2.1
  unfold P_X7_count at hf
  refine lv_iload_n hx hb dX7_count_0 rfl (lv_at hl 1 rfl) ?_
  by_cases c1 : x1 = (0 : Int32)
  · replace hf := ite_t c1 hf
    refine lv_tableIn (off := 43) (tgt := 44) hx hb dX7_count_1 (by rw [c1]; decide) (by rw [c1]; decide) (by rw [c1]; decide) (by decide) ?_
    refine lv_aload_n hx hb dX7_count_44 rfl (lv_at hl 0 rfl) ?_
    refine gf_X7_69 hC hP k_158 (v := .int (gI S 700 158)) rfl dX7_count_45 ?_
    exact pg_iret hC hr hlk hP hS hf dX7_count_48
  · replace hf := ite_f c1 hf
    by_cases c2 : x1 = (1 : Int32)
    · replace hf := ite_t c2 hf
      refine lv_tableIn (off := 48) (tgt := 49) hx hb dX7_count_1 (by rw [c2]; decide) (by rw [c2]; decide) (by rw [c2]; decide) (by decide) ?_
      refine lv_aload_n hx hb dX7_count_49 rfl (lv_at hl 0 rfl) ?_
      refine gf_X7_76 hC hP k_158 (v := .int (gI S 702 158)) rfl dX7_count_50 ?_
      exact pg_iret hC hr hlk hP hS hf dX7_count_53
    · replace hf := ite_f c2 hf
      by_cases c3 : x1 = (2 : Int32)
      · replace hf := ite_t c3 hf
        refine lv_tableIn (off := 53) (tgt := 54) hx hb dX7_count_1 (by rw [c3]; decide) (by rw [c3]; decide) (by rw [c3]; decide) (by decide) ?_
        refine lv_aload_n hx hb dX7_count_54 rfl (lv_at hl 0 rfl) ?_
        refine gf_X7_16 hC hP k_158 (v := .int (gI S 704 158)) rfl dX7_count_55 ?_
        exact pg_iret hC hr hlk hP hS hf dX7_count_58
      · replace hf := ite_f c3 hf
        by_cases c4 : x1 = (3 : Int32)
        · replace hf := ite_t c4 hf
          refine lv_tableIn (off := 58) (tgt := 59) hx hb dX7_count_1 (by rw [c4]; decide) (by rw [c4]; decide) (by rw [c4]; decide) (by decide) ?_
          refine lv_aload_n hx hb dX7_count_59 rfl (lv_at hl 0 rfl) ?_
          refine gf_X7_134 hC hP k_158 (v := .int (gI S 705 158)) rfl dX7_count_60 ?_
          exact pg_iret hC hr hlk hP hS hf dX7_count_63
        · replace hf := ite_f c4 hf
          by_cases c5 : x1 = (4 : Int32)
          · replace hf := ite_t c5 hf
            refine lv_tableIn (off := 63) (tgt := 64) hx hb dX7_count_1 (by rw [c5]; decide) (by rw [c5]; decide) (by rw [c5]; decide) (by decide) ?_
            refine lv_aload_n hx hb dX7_count_64 rfl (lv_at hl 0 rfl) ?_
            refine gf_X7_140 hC hP k_158 (v := .int (gI S 711 158)) rfl dX7_count_65 ?_
            exact pg_iret hC hr hlk hP hS hf dX7_count_68
          · replace hf := ite_f c5 hf
            by_cases c6 : x1 = (5 : Int32)
            · replace hf := ite_t c6 hf
              refine lv_tableIn (off := 68) (tgt := 69) hx hb dX7_count_1 (by rw [c6]; decide) (by rw [c6]; decide) (by rw [c6]; decide) (by decide) ?_
              refine lv_aload_n hx hb dX7_count_69 rfl (lv_at hl 0 rfl) ?_
              refine gf_X7_137 hC hP k_158 (v := .int (gI S 708 158)) rfl dX7_count_70 ?_
              exact pg_iret hC hr hlk hP hS hf dX7_count_73
            · replace hf := ite_f c6 hf
              by_cases c7 : x1 = (6 : Int32)
              · replace hf := ite_t c7 hf
                refine lv_tableIn (off := 73) (tgt := 74) hx hb dX7_count_1 (by rw [c7]; decide) (by rw [c7]; decide) (by rw [c7]; decide) (by decide) ?_
                refine lv_aload_n hx hb dX7_count_74 rfl (lv_at hl 0 rfl) ?_
                refine gf_X7_83 hC hP k_158 (v := .int (gI S 715 158)) rfl dX7_count_75 ?_
                exact pg_iret hC hr hlk hP hS hf dX7_count_78
              · replace hf := ite_f c7 hf
                refine lv_tableOut (tgt := 79) hx hb dX7_count_1 (sw_out 0 6 (fun k h1 h2 hk => by
                  rcases (show k = 0 ∨ k = 1 ∨ k = 2 ∨ k = 3 ∨ k = 4 ∨ k = 5 ∨ k = 6 by omega) with h | h | h | h | h | h | h
                  · subst h; exact c1 (hk.trans (by decide))
                  · subst h; exact c2 (hk.trans (by decide))
                  · subst h; exact c3 (hk.trans (by decide))
                  · subst h; exact c4 (hk.trans (by decide))
                  · subst h; exact c5 (hk.trans (by decide))
                  · subst h; exact c6 (hk.trans (by decide))
                  · subst h; exact c7 (hk.trans (by decide)))) (by decide) ?_
                refine lv_iconst (v := -1) hx hb dX7_count_79 (by decide) ?_
                exact pg_iret hC hr hlk hP hS hf dX7_count_80
def P_X7_trace (N : Nat) (S : PSt) : Option (Int64 × PSt) := some ((gJ S 713 158), S)
set_option maxHeartbeats 4000000 in
set_option maxRecDepth 100000 in
theorem c_X7_trace (l : Launch) {D : va_G} {cy : Nat → ClassId} {ad tb : Nat → Nat} (hJ : pJ ad) {N : Nat} {S S' : PSt} {r : Int64} (hf : P_X7_trace N S = some (r, S')) : Ct l 1 yX7_trace cX7_trace 1 (some .long) D cy ad tb S S' [.ref (ad 158)] (some (.long r)) := by
  refine Ct_of hJ (by decide) (Nat.le_of_ble_eq_true rfl) (fun p e s m below meth c ls hX hP hS hl => ?_)
  have hl : lv_has ls 1 [(0, .ref (ad 158))] := hl
  have hX0 := hX
  obtain ⟨hC, hml, hr, hlk⟩ := hX0
  have hx := hC.1
  have hb := hC.2.1
  unfold P_X7_trace at hf
  refine lv_aload_n hx hb dX7_trace_0 rfl (lv_at hl 0 rfl) ?_
  refine gf_X7_218 hC hP k_158 (v := .long (gJ S 713 158)) rfl dX7_trace_1 ?_
  exact pg_lret hC hr hlk hP hS hf dX7_trace_4
end GEN
