section GEN
variable {p : Program} {l : Launch} {e : Env} {s : State} {m : MethodId} {args : Array Value} {below : List Frame} {meth : Method} {c : Code} {D : va_G} {cy : Nat → ClassId} {ad tb : Nat → Nat}
def P_X2_isDigit (N : Nat) (S : PSt) (x0 : Int32) : Option (Int32 × PSt) := if x0 < (48 : Int32) then (some ((0 : Int32), S)) else (if (57 : Int32) < x0 then (some ((0 : Int32), S)) else (some ((1 : Int32), S)))
set_option maxHeartbeats 4000000 in
set_option maxRecDepth 100000 in
theorem c_X2_isDigit (l : Launch) {D : va_G} {cy : Nat → ClassId} {ad tb : Nat → Nat} (hJ : pJ ad) {N : Nat} {S S' : PSt} {x0 : Int32} {r : Int32} (hf : P_X2_isDigit N S x0 = some (r, S')) : Ct l 1 yX2_isDigit cX2_isDigit 1 (some .boolean) D cy ad tb S S' [.int x0] (some (.int r)) := by
  refine Ct_of hJ (by decide) (Nat.le_of_ble_eq_true rfl) (fun p e s m below meth c ls hX hP hS hl => ?_)
  have hl : lv_has ls 1 [(0, .int x0)] := hl
  have hX0 := hX
  obtain ⟨hC, hml, hr, hlk⟩ := hX0
  have hx := hC.1
  have hb := hC.2.1
  unfold P_X2_isDigit at hf
  refine lv_iload_n hx hb dX2_isDigit_0 rfl (lv_at hl 0 rfl) ?_
  refine lv_bipush (v := 48) hx hb dX2_isDigit_1 (by decide) ?_
  refine lv_icmp_lt (tgt := 16) hx hb dX2_isDigit_3 (by decide) (fun c1 => ?_) (fun c1 => ?_)
  · replace hf := ite_t c1 hf
    refine lv_iconst (v := 0) hx hb dX2_isDigit_16 (by decide) ?_
    exact pg_zret hC hr hlk hP hS (by decide) hf dX2_isDigit_17
  · replace hf := ite_f c1 hf
    refine lv_iload_n hx hb dX2_isDigit_6 rfl (lv_at hl 0 rfl) ?_
    refine lv_bipush (v := 57) hx hb dX2_isDigit_7 (by decide) ?_
    refine lv_icmp_gt (tgt := 16) hx hb dX2_isDigit_9 (by decide) (fun c2 => ?_) (fun c2 => ?_)
    · replace hf := ite_t c2 hf
      refine lv_iconst (v := 0) hx hb dX2_isDigit_16 (by decide) ?_
      exact pg_zret hC hr hlk hP hS (by decide) hf dX2_isDigit_17
    · replace hf := ite_f c2 hf
      refine lv_iconst (v := 1) hx hb dX2_isDigit_12 (by decide) ?_
      refine lv_goto (tgt := 17) hx hb dX2_isDigit_13 (by decide) ?_
      exact pg_zret hC hr hlk hP hS (by decide) hf dX2_isDigit_17
def P_X2_isLetter (N : Nat) (S : PSt) (x0 : Int32) : Option (Int32 × PSt) := if x0 < (97 : Int32) then (some ((0 : Int32), S)) else (if (122 : Int32) < x0 then (some ((0 : Int32), S)) else (some ((1 : Int32), S)))
set_option maxHeartbeats 4000000 in
set_option maxRecDepth 100000 in
theorem c_X2_isLetter (l : Launch) {D : va_G} {cy : Nat → ClassId} {ad tb : Nat → Nat} (hJ : pJ ad) {N : Nat} {S S' : PSt} {x0 : Int32} {r : Int32} (hf : P_X2_isLetter N S x0 = some (r, S')) : Ct l 1 yX2_isLetter cX2_isLetter 1 (some .boolean) D cy ad tb S S' [.int x0] (some (.int r)) := by
  refine Ct_of hJ (by decide) (Nat.le_of_ble_eq_true rfl) (fun p e s m below meth c ls hX hP hS hl => ?_)
  have hl : lv_has ls 1 [(0, .int x0)] := hl
  have hX0 := hX
  obtain ⟨hC, hml, hr, hlk⟩ := hX0
  have hx := hC.1
  have hb := hC.2.1
  unfold P_X2_isLetter at hf
  refine lv_iload_n hx hb dX2_isLetter_0 rfl (lv_at hl 0 rfl) ?_
  refine lv_bipush (v := 97) hx hb dX2_isLetter_1 (by decide) ?_
  refine lv_icmp_lt (tgt := 16) hx hb dX2_isLetter_3 (by decide) (fun c1 => ?_) (fun c1 => ?_)
  · replace hf := ite_t c1 hf
    refine lv_iconst (v := 0) hx hb dX2_isLetter_16 (by decide) ?_
    exact pg_zret hC hr hlk hP hS (by decide) hf dX2_isLetter_17
  · replace hf := ite_f c1 hf
    refine lv_iload_n hx hb dX2_isLetter_6 rfl (lv_at hl 0 rfl) ?_
    refine lv_bipush (v := 122) hx hb dX2_isLetter_7 (by decide) ?_
    refine lv_icmp_gt (tgt := 16) hx hb dX2_isLetter_9 (by decide) (fun c2 => ?_) (fun c2 => ?_)
    · replace hf := ite_t c2 hf
      refine lv_iconst (v := 0) hx hb dX2_isLetter_16 (by decide) ?_
      exact pg_zret hC hr hlk hP hS (by decide) hf dX2_isLetter_17
    · replace hf := ite_f c2 hf
      refine lv_iconst (v := 1) hx hb dX2_isLetter_12 (by decide) ?_
      refine lv_goto (tgt := 17) hx hb dX2_isLetter_13 (by decide) ?_
      exact pg_zret hC hr hlk hP hS (by decide) hf dX2_isLetter_17
def P_X2_takeLetters_L71 (N : Nat) (S : PSt) (y1 : Int32) : Option PSt := bnd (sI S 204 1 y1) fun S1 => some S1
set_option maxHeartbeats 4000000 in
set_option maxRecDepth 100000 in
theorem w_X2_takeLetters_L71 {N : Nat} {S' : PSt} (hX : Mx p s m args c meth cX2_takeLetters RX2 1 none D cy ad tb) : ∀ (S : PSt) (y1 : Int32) (H : Heap) (locs : List Loc) (ls : Array Slot), P_X2_takeLetters_L71 N S y1 = some S' → va_P D vwCl (pW cy ad S) H → va_S (pA ad s.heap.size) s.heap H locs → lv_has ls 1 [] → W p l e (rmd 2) s m args below meth c H locs 0 0 (Qz D cy ad below args s S' none) (F0 m 71 ls [.int y1, .ref (ad 1)]) := by
  have hX0 := hX
  obtain ⟨hC, hml, hr, hlk⟩ := hX0
  have hx := hC.1
  have hb := hC.2.1
  intro S y1 H locs ls hf  hP hS hl
  unfold P_X2_takeLetters_L71 at hf
  obtain ⟨S1, eS1, hf⟩ := bnd_some hf
  refine pf_X2_50 hC hP hS k_1 eS1 dX2_takeLetters_71 (fun H locs hP hS => ?_)
  exact pg_vret hC hr hlk hP hS hf dX2_takeLetters_74
def P_X2_takeLetters_L44 (N : Nat) (S : PSt) : Option PSt := if (gI S 205 1) = ((gI S 203 1) + (1 : Int32)) then (gd (bin (gI S 203 1) (ln 2)) <| P_X2_takeLetters_L71 N S (gA S 2 (gI S 203 1).toNatClampNeg)) else (P_X2_takeLetters_L71 N S (0 : Int32))
set_option maxHeartbeats 4000000 in
set_option maxRecDepth 100000 in
theorem w_X2_takeLetters_L44 {N : Nat} {S' : PSt} (hX : Mx p s m args c meth cX2_takeLetters RX2 1 none D cy ad tb) : ∀ (S : PSt) (H : Heap) (locs : List Loc) (ls : Array Slot), P_X2_takeLetters_L44 N S  = some S' → va_P D vwCl (pW cy ad S) H → va_S (pA ad s.heap.size) s.heap H locs → lv_has ls 1 [(0, .ref (ad 1))] → W p l e (rmd 2) s m args below meth c H locs 0 0 (Qz D cy ad below args s S' none) (F0 m 44 ls []) := by
  have hX0 := hX
  obtain ⟨hC, hml, hr, hlk⟩ := hX0
  have hx := hC.1
  have hb := hC.2.1
  intro S  H locs ls hf  hP hS hl
  unfold P_X2_takeLetters_L44 at hf
  refine lv_aload_n hx hb dX2_takeLetters_44 rfl (lv_at hl 0 rfl) ?_
  refine lv_aload_n hx hb dX2_takeLetters_45 rfl (lv_at hl 0 rfl) ?_
  refine gf_X2_23 hC hP k_1 (v := .int (gI S 205 1)) rfl dX2_takeLetters_46 ?_
  refine lv_aload_n hx hb dX2_takeLetters_49 rfl (lv_at hl 0 rfl) ?_
  refine gf_X2_44 hC hP k_1 (v := .int (gI S 203 1)) rfl dX2_takeLetters_50 ?_
  refine lv_iconst (v := 1) hx hb dX2_takeLetters_53 (by decide) ?_
  refine lv_iadd hx hb dX2_takeLetters_54 ?_
  refine lv_icmp_ne (tgt := 70) hx hb dX2_takeLetters_55 (by decide) (fun c2 => ?_) (fun c2 => ?_)
  · replace hf := ite_f c2 hf
    refine lv_iconst (v := 0) hx hb dX2_takeLetters_70 (by decide) ?_
    exact w_X2_takeLetters_L71 hX _ _ _ _ _ hf  hP hS (lv_sub hl [] rfl)
  · replace hf := ite_t c2 hf
    refine lv_aload_n hx hb dX2_takeLetters_58 rfl (lv_at hl 0 rfl) ?_
    refine gf_X2_9 hC hP k_1 (v := .ref (ad 2)) rfl dX2_takeLetters_59 ?_
    refine lv_aload_n hx hb dX2_takeLetters_62 rfl (lv_at hl 0 rfl) ?_
    refine gf_X2_44 hC hP k_1 (v := .int (gI S 203 1)) rfl dX2_takeLetters_63 ?_
    obtain ⟨h3, hf⟩ := gd_some hf
    refine pg_iald hC hP k_2 (bin_in h3) dX2_takeLetters_66 ?_
    refine lv_goto (tgt := 71) hx hb dX2_takeLetters_67 (by decide) ?_
    exact w_X2_takeLetters_L71 hX _ _ _ _ _ hf  hP hS (lv_sub hl [] rfl)
def P_X2_takeLetters_L5 (N : Nat) : Nat → PSt → Option PSt
  | 0 => fun _ => none
  | n + 1 => fun S => if (gI S 200 1) ≤ (gI S 205 1) then (P_X2_takeLetters_L44 N S) else (gd (bin (gI S 205 1) (ln 2)) <| cal2 (P_X2_isLetter N S (gA S 2 (gI S 205 1).toNatClampNeg)) fun r8 S6 => if r8 = (0 : Int32) then (P_X2_takeLetters_L44 N S6) else (bnd (sI S6 205 1 ((gI S6 205 1) + (1 : Int32))) fun S10 => P_X2_takeLetters_L5 N n S10))
set_option maxHeartbeats 4000000 in
set_option maxRecDepth 100000 in
theorem w_X2_takeLetters_L5 {N : Nat} {S' : PSt} (hX : Mx p s m args c meth cX2_takeLetters RX2 1 none D cy ad tb) : ∀ (n : Nat), ∀ (S : PSt) (H : Heap) (locs : List Loc) (ls : Array Slot), P_X2_takeLetters_L5 N n S  = some S' → va_P D vwCl (pW cy ad S) H → va_S (pA ad s.heap.size) s.heap H locs → lv_has ls 1 [(0, .ref (ad 1))] → W p l e (rmd 2) s m args below meth c H locs 0 0 (Qz D cy ad below args s S' none) (F0 m 5 ls []) := by
  have hX0 := hX
  obtain ⟨hC, hml, hr, hlk⟩ := hX0
  have hx := hC.1
  have hb := hC.2.1
  intro n
  induction n with
  | zero => intro S  H locs ls hf; exact absurd hf (by intro h; cases h)
  | succ n ih =>
    intro S  H locs ls hf  hP hS hl
    rw [P_X2_takeLetters_L5] at hf
    refine lv_aload_n hx hb dX2_takeLetters_5 rfl (lv_at hl 0 rfl) ?_
    refine gf_X2_23 hC hP k_1 (v := .int (gI S 205 1)) rfl dX2_takeLetters_6 ?_
    refine lv_aload_n hx hb dX2_takeLetters_9 rfl (lv_at hl 0 rfl) ?_
    refine gf_X2_101 hC hP k_1 (v := .int (gI S 200 1)) rfl dX2_takeLetters_10 ?_
    refine lv_icmp_ge (tgt := 44) hx hb dX2_takeLetters_13 (by decide) (fun c4 => ?_) (fun c4 => ?_)
    · replace hf := ite_t c4 hf
      exact w_X2_takeLetters_L44 hX _  _ _ _ hf  hP hS (lv_sub hl [0] rfl)
    · replace hf := ite_f c4 hf
      refine lv_aload_n hx hb dX2_takeLetters_16 rfl (lv_at hl 0 rfl) ?_
      refine gf_X2_9 hC hP k_1 (v := .ref (ad 2)) rfl dX2_takeLetters_17 ?_
      refine lv_aload_n hx hb dX2_takeLetters_20 rfl (lv_at hl 0 rfl) ?_
      refine gf_X2_23 hC hP k_1 (v := .int (gI S 205 1)) rfl dX2_takeLetters_21 ?_
      obtain ⟨h5, hf⟩ := gd_some hf
      refine pg_iald hC hP k_2 (bin_in h5) dX2_takeLetters_24 ?_
      obtain ⟨r8, S6, q7, hf⟩ := cal2_some hf
      refine pg_callS (As := [.int (gA S 2 (gI S 205 1).toNatClampNeg)]) (rest := []) (st1 := [.int r8]) hC hml hP hS (c_X2_isLetter l hC.2.2.2.2.2.1 q7) ⟨by decide, by decide, rfl, rfl⟩ ⟨rfl, rfl⟩ (by decide) rfl rfl ⟨mk_X2_104, mi_X2_isLetter⟩ hd_X2_isLetter rfl hl.1 (Nat.le_of_ble_eq_true rfl) dX2_takeLetters_25 (fun H locs hP hS => ?_)
      refine lv_if_eq (tgt := 44) hx hb dX2_takeLetters_28 (by decide) (fun c9 => ?_) (fun c9 => ?_)
      · replace hf := ite_t c9 hf
        exact w_X2_takeLetters_L44 hX _  _ _ _ hf  hP hS (lv_sub hl [0] rfl)
      · replace hf := ite_f c9 hf
        refine lv_aload_n hx hb dX2_takeLetters_31 rfl (lv_at hl 0 rfl) ?_
        refine lv_dup hx hb dX2_takeLetters_32 rfl ?_
        refine gf_X2_23 hC hP k_1 (v := .int (gI S6 205 1)) rfl dX2_takeLetters_33 ?_
        refine lv_iconst (v := 1) hx hb dX2_takeLetters_36 (by decide) ?_
        refine lv_iadd hx hb dX2_takeLetters_37 ?_
        obtain ⟨S10, eS10, hf⟩ := bnd_some hf
        refine pf_X2_23 hC hP hS k_1 eS10 dX2_takeLetters_38 (fun H locs hP hS => ?_)
        refine lv_goto (tgt := 5) hx hb dX2_takeLetters_41 (by decide) ?_
        exact ih _  _ _ _ hf  hP hS (lv_sub hl [0] rfl)
def P_X2_takeLetters (N : Nat) (S : PSt) : Option PSt := bnd (sI S 202 1 (1 : Int32)) fun S11 => P_X2_takeLetters_L5 N N S11
set_option maxHeartbeats 4000000 in
set_option maxRecDepth 100000 in
theorem c_X2_takeLetters (l : Launch) {D : va_G} {cy : Nat → ClassId} {ad tb : Nat → Nat} (hJ : pJ ad) {N : Nat} {S S' : PSt} (hf : P_X2_takeLetters N S = some S') : Ct l 2 yX2_takeLetters cX2_takeLetters 1 none D cy ad tb S S' [.ref (ad 1)] none := by
  refine Ct_of hJ (by decide) (Nat.le_of_ble_eq_true rfl) (fun p e s m below meth c ls hX hP hS hl => ?_)
  have hl : lv_has ls 1 [(0, .ref (ad 1))] := hl
  have hX0 := hX
  obtain ⟨hC, hml, hr, hlk⟩ := hX0
  have hx := hC.1
  have hb := hC.2.1
  unfold P_X2_takeLetters at hf
  refine lv_aload_n hx hb dX2_takeLetters_0 rfl (lv_at hl 0 rfl) ?_
  refine lv_iconst (v := 1) hx hb dX2_takeLetters_1 (by decide) ?_
  obtain ⟨S11, eS11, hf⟩ := bnd_some hf
  refine pf_X2_37 hC hP hS k_1 eS11 dX2_takeLetters_2 (fun H locs hP hS => ?_)
  exact w_X2_takeLetters_L5 hX _ _  _ _ _ hf  hP hS (lv_sub hl [0] rfl)
def P_X2_takeNumber_L120 (N : Nat) (S : PSt) (y1 : Int32) : Option PSt := bnd (sI S 202 1 y1) fun S1 => some S1
set_option maxHeartbeats 4000000 in
set_option maxRecDepth 100000 in
theorem w_X2_takeNumber_L120 {N : Nat} {S' : PSt} (hX : Mx p s m args c meth cX2_takeNumber RX2 2 none D cy ad tb) : ∀ (S : PSt) (y1 : Int32) (H : Heap) (locs : List Loc) (ls : Array Slot), P_X2_takeNumber_L120 N S y1 = some S' → va_P D vwCl (pW cy ad S) H → va_S (pA ad s.heap.size) s.heap H locs → lv_has ls 2 [] → W p l e (rmd 2) s m args below meth c H locs 0 0 (Qz D cy ad below args s S' none) (F0 m 120 ls [.int y1, .ref (ad 1)]) := by
  have hX0 := hX
  obtain ⟨hC, hml, hr, hlk⟩ := hX0
  have hx := hC.1
  have hb := hC.2.1
  intro S y1 H locs ls hf  hP hS hl
  unfold P_X2_takeNumber_L120 at hf
  obtain ⟨S1, eS1, hf⟩ := bnd_some hf
  refine pf_X2_37 hC hP hS k_1 eS1 dX2_takeNumber_120 (fun H locs hP hS => ?_)
  exact pg_vret hC hr hlk hP hS hf dX2_takeNumber_123
def P_X2_takeNumber_L115 (N : Nat) (S : PSt) : Option PSt := P_X2_takeNumber_L120 N S (4 : Int32)
set_option maxHeartbeats 4000000 in
set_option maxRecDepth 100000 in
theorem w_X2_takeNumber_L115 {N : Nat} {S' : PSt} (hX : Mx p s m args c meth cX2_takeNumber RX2 2 none D cy ad tb) : ∀ (S : PSt) (H : Heap) (locs : List Loc) (ls : Array Slot), P_X2_takeNumber_L115 N S  = some S' → va_P D vwCl (pW cy ad S) H → va_S (pA ad s.heap.size) s.heap H locs → lv_has ls 2 [] → W p l e (rmd 2) s m args below meth c H locs 0 0 (Qz D cy ad below args s S' none) (F0 m 115 ls [.ref (ad 1)]) := by
  have hX0 := hX
  obtain ⟨hC, hml, hr, hlk⟩ := hX0
  have hx := hC.1
  have hb := hC.2.1
  intro S  H locs ls hf  hP hS hl
  unfold P_X2_takeNumber_L115 at hf
  refine lv_iconst (v := 4) hx hb dX2_takeNumber_115 (by decide) ?_
  refine lv_goto (tgt := 120) hx hb dX2_takeNumber_116 (by decide) ?_
  exact w_X2_takeNumber_L120 hX _ _ _ _ _ hf  hP hS (lv_sub hl [] rfl)
def P_X2_takeNumber_L100 (N : Nat) (S : PSt) (y0 : Int32) : Option PSt := if y0 = (0 : Int32) then (if (gI S 204 1) ≤ (99 : Int32) then (P_X2_takeNumber_L120 N S (2 : Int32)) else (P_X2_takeNumber_L115 N S)) else (P_X2_takeNumber_L115 N S)
set_option maxHeartbeats 4000000 in
set_option maxRecDepth 100000 in
theorem w_X2_takeNumber_L100 {N : Nat} {S' : PSt} (hX : Mx p s m args c meth cX2_takeNumber RX2 2 none D cy ad tb) : ∀ (S : PSt) (y0 : Int32) (H : Heap) (locs : List Loc) (ls : Array Slot), P_X2_takeNumber_L100 N S y0 = some S' → va_P D vwCl (pW cy ad S) H → va_S (pA ad s.heap.size) s.heap H locs → lv_has ls 2 [(0, .ref (ad 1))] → W p l e (rmd 2) s m args below meth c H locs 0 0 (Qz D cy ad below args s S' none) (F0 m 100 ls [.int y0]) := by
  have hX0 := hX
  obtain ⟨hC, hml, hr, hlk⟩ := hX0
  have hx := hC.1
  have hb := hC.2.1
  intro S y0 H locs ls hf  hP hS hl
  unfold P_X2_takeNumber_L100 at hf
  refine lv_istore_n (lv' := [(1, .int y0), (0, .ref (ad 1))]) hx hb dX2_takeNumber_100 rfl hl (by decide) rfl (fun ls hl => ?_)
  refine lv_aload_n hx hb dX2_takeNumber_101 rfl (lv_at hl 1 rfl) ?_
  refine lv_iload_n hx hb dX2_takeNumber_102 rfl (lv_at hl 0 rfl) ?_
  refine lv_if_ne (tgt := 115) hx hb dX2_takeNumber_103 (by decide) (fun c2 => ?_) (fun c2 => ?_)
  · replace hf := ite_f c2 hf
    exact w_X2_takeNumber_L115 hX _  _ _ _ hf  hP hS (lv_sub hl [] rfl)
  · replace hf := ite_t c2 hf
    refine lv_aload_n hx hb dX2_takeNumber_106 rfl (lv_at hl 1 rfl) ?_
    refine gf_X2_50 hC hP k_1 (v := .int (gI S 204 1)) rfl dX2_takeNumber_107 ?_
    refine lv_bipush (v := 99) hx hb dX2_takeNumber_110 (by decide) ?_
    refine lv_icmp_le (tgt := 119) hx hb dX2_takeNumber_112 (by decide) (fun c3 => ?_) (fun c3 => ?_)
    · replace hf := ite_t c3 hf
      refine lv_iconst (v := 2) hx hb dX2_takeNumber_119 (by decide) ?_
      exact w_X2_takeNumber_L120 hX _ _ _ _ _ hf  hP hS (lv_sub hl [] rfl)
    · replace hf := ite_f c3 hf
      exact w_X2_takeNumber_L115 hX _  _ _ _ hf  hP hS (lv_sub hl [] rfl)
def P_X2_takeNumber_L99 (N : Nat) (S : PSt) : Option PSt := P_X2_takeNumber_L100 N S (0 : Int32)
set_option maxHeartbeats 4000000 in
set_option maxRecDepth 100000 in
theorem w_X2_takeNumber_L99 {N : Nat} {S' : PSt} (hX : Mx p s m args c meth cX2_takeNumber RX2 2 none D cy ad tb) : ∀ (S : PSt) (H : Heap) (locs : List Loc) (ls : Array Slot), P_X2_takeNumber_L99 N S  = some S' → va_P D vwCl (pW cy ad S) H → va_S (pA ad s.heap.size) s.heap H locs → lv_has ls 2 [(0, .ref (ad 1))] → W p l e (rmd 2) s m args below meth c H locs 0 0 (Qz D cy ad below args s S' none) (F0 m 99 ls []) := by
  have hX0 := hX
  obtain ⟨hC, hml, hr, hlk⟩ := hX0
  have hx := hC.1
  have hb := hC.2.1
  intro S  H locs ls hf  hP hS hl
  unfold P_X2_takeNumber_L99 at hf
  refine lv_iconst (v := 0) hx hb dX2_takeNumber_99 (by decide) ?_
  exact w_X2_takeNumber_L100 hX _ _ _ _ _ hf  hP hS (lv_sub hl [0] rfl)
def P_X2_takeNumber_L68 (N : Nat) (S : PSt) : Option PSt := gd (bin (gI S 203 1) (ln 2)) <| if (gA S 2 (gI S 203 1).toNatClampNeg) = (48 : Int32) then (if (gI S 205 1) ≤ ((gI S 203 1) + (1 : Int32)) then (P_X2_takeNumber_L99 N S) else (P_X2_takeNumber_L100 N S (1 : Int32))) else (P_X2_takeNumber_L99 N S)
set_option maxHeartbeats 4000000 in
set_option maxRecDepth 100000 in
theorem w_X2_takeNumber_L68 {N : Nat} {S' : PSt} (hX : Mx p s m args c meth cX2_takeNumber RX2 2 none D cy ad tb) : ∀ (S : PSt) (H : Heap) (locs : List Loc) (ls : Array Slot), P_X2_takeNumber_L68 N S  = some S' → va_P D vwCl (pW cy ad S) H → va_S (pA ad s.heap.size) s.heap H locs → lv_has ls 2 [(0, .ref (ad 1))] → W p l e (rmd 2) s m args below meth c H locs 0 0 (Qz D cy ad below args s S' none) (F0 m 68 ls []) := by
  have hX0 := hX
  obtain ⟨hC, hml, hr, hlk⟩ := hX0
  have hx := hC.1
  have hb := hC.2.1
  intro S  H locs ls hf  hP hS hl
  unfold P_X2_takeNumber_L68 at hf
  refine lv_aload_n hx hb dX2_takeNumber_68 rfl (lv_at hl 0 rfl) ?_
  refine gf_X2_9 hC hP k_1 (v := .ref (ad 2)) rfl dX2_takeNumber_69 ?_
  refine lv_aload_n hx hb dX2_takeNumber_72 rfl (lv_at hl 0 rfl) ?_
  refine gf_X2_44 hC hP k_1 (v := .int (gI S 203 1)) rfl dX2_takeNumber_73 ?_
  obtain ⟨h4, hf⟩ := gd_some hf
  refine pg_iald hC hP k_2 (bin_in h4) dX2_takeNumber_76 ?_
  refine lv_bipush (v := 48) hx hb dX2_takeNumber_77 (by decide) ?_
  refine lv_icmp_ne (tgt := 99) hx hb dX2_takeNumber_79 (by decide) (fun c5 => ?_) (fun c5 => ?_)
  · replace hf := ite_f c5 hf
    exact w_X2_takeNumber_L99 hX _  _ _ _ hf  hP hS (lv_sub hl [0] rfl)
  · replace hf := ite_t c5 hf
    refine lv_aload_n hx hb dX2_takeNumber_82 rfl (lv_at hl 0 rfl) ?_
    refine gf_X2_23 hC hP k_1 (v := .int (gI S 205 1)) rfl dX2_takeNumber_83 ?_
    refine lv_aload_n hx hb dX2_takeNumber_86 rfl (lv_at hl 0 rfl) ?_
    refine gf_X2_44 hC hP k_1 (v := .int (gI S 203 1)) rfl dX2_takeNumber_87 ?_
    refine lv_iconst (v := 1) hx hb dX2_takeNumber_90 (by decide) ?_
    refine lv_iadd hx hb dX2_takeNumber_91 ?_
    refine lv_icmp_le (tgt := 99) hx hb dX2_takeNumber_92 (by decide) (fun c6 => ?_) (fun c6 => ?_)
    · replace hf := ite_t c6 hf
      exact w_X2_takeNumber_L99 hX _  _ _ _ hf  hP hS (lv_sub hl [0] rfl)
    · replace hf := ite_f c6 hf
      refine lv_iconst (v := 1) hx hb dX2_takeNumber_95 (by decide) ?_
      refine lv_goto (tgt := 100) hx hb dX2_takeNumber_96 (by decide) ?_
      exact w_X2_takeNumber_L100 hX _ _ _ _ _ hf  hP hS (lv_sub hl [0] rfl)
def P_X2_takeNumber_L0 (N : Nat) : Nat → PSt → Option PSt
  | 0 => fun _ => none
  | n + 1 => fun S => if (gI S 200 1) ≤ (gI S 205 1) then (P_X2_takeNumber_L68 N S) else (gd (bin (gI S 205 1) (ln 2)) <| cal2 (P_X2_isDigit N S (gA S 2 (gI S 205 1).toNatClampNeg)) fun r11 S9 => if r11 = (0 : Int32) then (P_X2_takeNumber_L68 N S9) else (gd (bin (gI S9 205 1) (ln 2)) <| bnd (sI S9 204 1 (if (100 : Int32) < ((((gI S9 204 1) * (10 : Int32)) + (gA S9 2 (gI S9 205 1).toNatClampNeg)) - (48 : Int32)) then (100 : Int32) else ((((gI S9 204 1) * (10 : Int32)) + (gA S9 2 (gI S9 205 1).toNatClampNeg)) - (48 : Int32)))) fun S14 => bnd (sI S14 205 1 ((gI S14 205 1) + (1 : Int32))) fun S15 => P_X2_takeNumber_L0 N n S15))
set_option maxHeartbeats 4000000 in
set_option maxRecDepth 100000 in
theorem w_X2_takeNumber_L0 {N : Nat} {S' : PSt} (hX : Mx p s m args c meth cX2_takeNumber RX2 2 none D cy ad tb) : ∀ (n : Nat), ∀ (S : PSt) (H : Heap) (locs : List Loc) (ls : Array Slot), P_X2_takeNumber_L0 N n S  = some S' → va_P D vwCl (pW cy ad S) H → va_S (pA ad s.heap.size) s.heap H locs → lv_has ls 2 [(0, .ref (ad 1))] → W p l e (rmd 2) s m args below meth c H locs 0 0 (Qz D cy ad below args s S' none) (F0 m 0 ls []) := by
  have hX0 := hX
  obtain ⟨hC, hml, hr, hlk⟩ := hX0
  have hx := hC.1
  have hb := hC.2.1
  intro n
  induction n with
  | zero => intro S  H locs ls hf; exact absurd hf (by intro h; cases h)
  | succ n ih =>
    intro S  H locs ls hf  hP hS hl
    rw [P_X2_takeNumber_L0] at hf
    refine lv_aload_n hx hb dX2_takeNumber_0 rfl (lv_at hl 0 rfl) ?_
    refine gf_X2_23 hC hP k_1 (v := .int (gI S 205 1)) rfl dX2_takeNumber_1 ?_
    refine lv_aload_n hx hb dX2_takeNumber_4 rfl (lv_at hl 0 rfl) ?_
    refine gf_X2_101 hC hP k_1 (v := .int (gI S 200 1)) rfl dX2_takeNumber_5 ?_
    refine lv_icmp_ge (tgt := 68) hx hb dX2_takeNumber_8 (by decide) (fun c7 => ?_) (fun c7 => ?_)
    · replace hf := ite_t c7 hf
      exact w_X2_takeNumber_L68 hX _  _ _ _ hf  hP hS (lv_sub hl [0] rfl)
    · replace hf := ite_f c7 hf
      refine lv_aload_n hx hb dX2_takeNumber_11 rfl (lv_at hl 0 rfl) ?_
      refine gf_X2_9 hC hP k_1 (v := .ref (ad 2)) rfl dX2_takeNumber_12 ?_
      refine lv_aload_n hx hb dX2_takeNumber_15 rfl (lv_at hl 0 rfl) ?_
      refine gf_X2_23 hC hP k_1 (v := .int (gI S 205 1)) rfl dX2_takeNumber_16 ?_
      obtain ⟨h8, hf⟩ := gd_some hf
      refine pg_iald hC hP k_2 (bin_in h8) dX2_takeNumber_19 ?_
      obtain ⟨r11, S9, q10, hf⟩ := cal2_some hf
      refine pg_callS (As := [.int (gA S 2 (gI S 205 1).toNatClampNeg)]) (rest := []) (st1 := [.int r11]) hC hml hP hS (c_X2_isDigit l hC.2.2.2.2.2.1 q10) ⟨by decide, by decide, rfl, rfl⟩ ⟨rfl, rfl⟩ (by decide) rfl rfl ⟨mk_X2_111, mi_X2_isDigit⟩ hd_X2_isDigit rfl hl.1 (Nat.le_of_ble_eq_true rfl) dX2_takeNumber_20 (fun H locs hP hS => ?_)
      refine lv_if_eq (tgt := 68) hx hb dX2_takeNumber_23 (by decide) (fun c12 => ?_) (fun c12 => ?_)
      · replace hf := ite_t c12 hf
        exact w_X2_takeNumber_L68 hX _  _ _ _ hf  hP hS (lv_sub hl [0] rfl)
      · replace hf := ite_f c12 hf
        refine lv_aload_n hx hb dX2_takeNumber_26 rfl (lv_at hl 0 rfl) ?_
        refine lv_aload_n hx hb dX2_takeNumber_27 rfl (lv_at hl 0 rfl) ?_
        refine gf_X2_50 hC hP k_1 (v := .int (gI S9 204 1)) rfl dX2_takeNumber_28 ?_
        refine lv_bipush (v := 10) hx hb dX2_takeNumber_31 (by decide) ?_
        refine lv_imul hx hb dX2_takeNumber_33 ?_
        refine lv_aload_n hx hb dX2_takeNumber_34 rfl (lv_at hl 0 rfl) ?_
        refine gf_X2_9 hC hP k_1 (v := .ref (ad 2)) rfl dX2_takeNumber_35 ?_
        refine lv_aload_n hx hb dX2_takeNumber_38 rfl (lv_at hl 0 rfl) ?_
        refine gf_X2_23 hC hP k_1 (v := .int (gI S9 205 1)) rfl dX2_takeNumber_39 ?_
        obtain ⟨h13, hf⟩ := gd_some hf
        refine pg_iald hC hP k_2 (bin_in h13) dX2_takeNumber_42 ?_
        refine lv_iadd hx hb dX2_takeNumber_43 ?_
        refine lv_bipush (v := 48) hx hb dX2_takeNumber_44 (by decide) ?_
        refine lv_isub hx hb dX2_takeNumber_46 ?_
        refine lv_bipush (v := 100) hx hb dX2_takeNumber_47 (by decide) ?_
        refine pg_min hC (hml.trans hl.1.symm) ⟨by decide, by decide, rfl, rfl⟩ ⟨rfl, rfl⟩ kl_X2_117 (Nat.le_of_ble_eq_true rfl) dX2_takeNumber_49 ?_
        obtain ⟨S14, eS14, hf⟩ := bnd_some hf
        refine pf_X2_50 hC hP hS k_1 eS14 dX2_takeNumber_52 (fun H locs hP hS => ?_)
        refine lv_aload_n hx hb dX2_takeNumber_55 rfl (lv_at hl 0 rfl) ?_
        refine lv_dup hx hb dX2_takeNumber_56 rfl ?_
        refine gf_X2_23 hC hP k_1 (v := .int (gI S14 205 1)) rfl dX2_takeNumber_57 ?_
        refine lv_iconst (v := 1) hx hb dX2_takeNumber_60 (by decide) ?_
        refine lv_iadd hx hb dX2_takeNumber_61 ?_
        obtain ⟨S15, eS15, hf⟩ := bnd_some hf
        refine pf_X2_23 hC hP hS k_1 eS15 dX2_takeNumber_62 (fun H locs hP hS => ?_)
        refine lv_goto (tgt := 0) hx hb dX2_takeNumber_65 (by decide) ?_
        exact ih _  _ _ _ hf  hP hS (lv_sub hl [0] rfl)
def P_X2_takeNumber (N : Nat) (S : PSt) : Option PSt := P_X2_takeNumber_L0 N N S
set_option maxHeartbeats 4000000 in
set_option maxRecDepth 100000 in
theorem c_X2_takeNumber (l : Launch) {D : va_G} {cy : Nat → ClassId} {ad tb : Nat → Nat} (hJ : pJ ad) {N : Nat} {S S' : PSt} (hf : P_X2_takeNumber N S = some S') : Ct l 2 yX2_takeNumber cX2_takeNumber 2 none D cy ad tb S S' [.ref (ad 1)] none := by
  refine Ct_of hJ (by decide) (Nat.le_of_ble_eq_true rfl) (fun p e s m below meth c ls hX hP hS hl => ?_)
  have hl : lv_has ls 2 [(0, .ref (ad 1))] := hl
  have hX0 := hX
  obtain ⟨hC, hml, hr, hlk⟩ := hX0
  have hx := hC.1
  have hb := hC.2.1
  unfold P_X2_takeNumber at hf
  exact w_X2_takeNumber_L0 hX _ _  _ _ _ hf  hP hS (lv_sub hl [0] rfl)
def P_X2_nextToken_L134 (N : Nat) (S : PSt) (y1 : Int32) : Option PSt := bnd (sI S 202 1 y1) fun S1 => bnd (sI S1 205 1 ((gI S1 205 1) + (1 : Int32))) fun S2 => some S2
set_option maxHeartbeats 4000000 in
set_option maxRecDepth 100000 in
theorem w_X2_nextToken_L134 {N : Nat} {S' : PSt} (hX : Mx p s m args c meth cX2_nextToken RX2 1 none D cy ad tb) : ∀ (S : PSt) (y1 : Int32) (H : Heap) (locs : List Loc) (ls : Array Slot), P_X2_nextToken_L134 N S y1 = some S' → va_P D vwCl (pW cy ad S) H → va_S (pA ad s.heap.size) s.heap H locs → lv_has ls 1 [(0, .ref (ad 1))] → W p l e (rmd 3) s m args below meth c H locs 0 0 (Qz D cy ad below args s S' none) (F0 m 134 ls [.int y1, .ref (ad 1)]) := by
  have hX0 := hX
  obtain ⟨hC, hml, hr, hlk⟩ := hX0
  have hx := hC.1
  have hb := hC.2.1
  intro S y1 H locs ls hf  hP hS hl
  unfold P_X2_nextToken_L134 at hf
  obtain ⟨S1, eS1, hf⟩ := bnd_some hf
  refine pf_X2_37 hC hP hS k_1 eS1 dX2_nextToken_134 (fun H locs hP hS => ?_)
  refine lv_aload_n hx hb dX2_nextToken_137 rfl (lv_at hl 0 rfl) ?_
  refine lv_dup hx hb dX2_nextToken_138 rfl ?_
  refine gf_X2_23 hC hP k_1 (v := .int (gI S1 205 1)) rfl dX2_nextToken_139 ?_
  refine lv_iconst (v := 1) hx hb dX2_nextToken_142 (by decide) ?_
  refine lv_iadd hx hb dX2_nextToken_143 ?_
  obtain ⟨S2, eS2, hf⟩ := bnd_some hf
  refine pf_X2_23 hC hP hS k_1 eS2 dX2_nextToken_144 (fun H locs hP hS => ?_)
  exact pg_vret hC hr hlk hP hS hf dX2_nextToken_147
def P_X2_nextToken_L38 (N : Nat) (S : PSt) : Option PSt := bnd (sI S 203 1 (gI S 205 1)) fun S3 => bnd (sI S3 204 1 (0 : Int32)) fun S4 => if (gI S4 205 1) < (gI S4 200 1) then (gd (bin (gI S4 205 1) (ln 2)) <| cal2 (P_X2_isLetter N S4 (gA S4 2 (gI S4 205 1).toNatClampNeg)) fun r9 S7 => if r9 = (0 : Int32) then (gd (bin (gI S7 205 1) (ln 2)) <| cal2 (P_X2_isDigit N S7 (gA S7 2 (gI S7 205 1).toNatClampNeg)) fun r14 S12 => if r14 = (0 : Int32) then (gd (bin (gI S12 205 1) (ln 2)) <| if (gA S12 2 (gI S12 205 1).toNatClampNeg) = (59 : Int32) then (P_X2_nextToken_L134 N S12 (3 : Int32)) else (P_X2_nextToken_L134 N S12 (4 : Int32))) else (cal1 (P_X2_takeNumber N S12) fun S18 => some S18)) else (cal1 (P_X2_takeLetters N S7) fun S20 => some S20)) else (bnd (sI S4 202 1 (0 : Int32)) fun S22 => some S22)
set_option maxHeartbeats 4000000 in
set_option maxRecDepth 100000 in
theorem w_X2_nextToken_L38 {N : Nat} {S' : PSt} (hX : Mx p s m args c meth cX2_nextToken RX2 1 none D cy ad tb) : ∀ (S : PSt) (H : Heap) (locs : List Loc) (ls : Array Slot), P_X2_nextToken_L38 N S  = some S' → va_P D vwCl (pW cy ad S) H → va_S (pA ad s.heap.size) s.heap H locs → lv_has ls 1 [(0, .ref (ad 1))] → W p l e (rmd 3) s m args below meth c H locs 0 0 (Qz D cy ad below args s S' none) (F0 m 38 ls []) := by
  have hX0 := hX
  obtain ⟨hC, hml, hr, hlk⟩ := hX0
  have hx := hC.1
  have hb := hC.2.1
  intro S  H locs ls hf  hP hS hl
  unfold P_X2_nextToken_L38 at hf
  refine lv_aload_n hx hb dX2_nextToken_38 rfl (lv_at hl 0 rfl) ?_
  refine lv_aload_n hx hb dX2_nextToken_39 rfl (lv_at hl 0 rfl) ?_
  refine gf_X2_23 hC hP k_1 (v := .int (gI S 205 1)) rfl dX2_nextToken_40 ?_
  obtain ⟨S3, eS3, hf⟩ := bnd_some hf
  refine pf_X2_44 hC hP hS k_1 eS3 dX2_nextToken_43 (fun H locs hP hS => ?_)
  refine lv_aload_n hx hb dX2_nextToken_46 rfl (lv_at hl 0 rfl) ?_
  refine lv_iconst (v := 0) hx hb dX2_nextToken_47 (by decide) ?_
  obtain ⟨S4, eS4, hf⟩ := bnd_some hf
  refine pf_X2_50 hC hP hS k_1 eS4 dX2_nextToken_48 (fun H locs hP hS => ?_)
  refine lv_aload_n hx hb dX2_nextToken_51 rfl (lv_at hl 0 rfl) ?_
  refine gf_X2_23 hC hP k_1 (v := .int (gI S4 205 1)) rfl dX2_nextToken_52 ?_
  refine lv_aload_n hx hb dX2_nextToken_55 rfl (lv_at hl 0 rfl) ?_
  refine gf_X2_101 hC hP k_1 (v := .int (gI S4 200 1)) rfl dX2_nextToken_56 ?_
  refine lv_icmp_lt (tgt := 70) hx hb dX2_nextToken_59 (by decide) (fun c5 => ?_) (fun c5 => ?_)
  · replace hf := ite_t c5 hf
    refine lv_aload_n hx hb dX2_nextToken_70 rfl (lv_at hl 0 rfl) ?_
    refine gf_X2_9 hC hP k_1 (v := .ref (ad 2)) rfl dX2_nextToken_71 ?_
    refine lv_aload_n hx hb dX2_nextToken_74 rfl (lv_at hl 0 rfl) ?_
    refine gf_X2_23 hC hP k_1 (v := .int (gI S4 205 1)) rfl dX2_nextToken_75 ?_
    obtain ⟨h6, hf⟩ := gd_some hf
    refine pg_iald hC hP k_2 (bin_in h6) dX2_nextToken_78 ?_
    obtain ⟨r9, S7, q8, hf⟩ := cal2_some hf
    refine pg_callS (As := [.int (gA S4 2 (gI S4 205 1).toNatClampNeg)]) (rest := []) (st1 := [.int r9]) hC hml hP hS (c_X2_isLetter l hC.2.2.2.2.2.1 q8) ⟨by decide, by decide, rfl, rfl⟩ ⟨rfl, rfl⟩ (by decide) rfl rfl ⟨mk_X2_104, mi_X2_isLetter⟩ hd_X2_isLetter rfl hl.1 (Nat.le_of_ble_eq_true rfl) dX2_nextToken_79 (fun H locs hP hS => ?_)
    refine lv_if_eq (tgt := 92) hx hb dX2_nextToken_82 (by decide) (fun c10 => ?_) (fun c10 => ?_)
    · replace hf := ite_t c10 hf
      refine lv_aload_n hx hb dX2_nextToken_92 rfl (lv_at hl 0 rfl) ?_
      refine gf_X2_9 hC hP k_1 (v := .ref (ad 2)) rfl dX2_nextToken_93 ?_
      refine lv_aload_n hx hb dX2_nextToken_96 rfl (lv_at hl 0 rfl) ?_
      refine gf_X2_23 hC hP k_1 (v := .int (gI S7 205 1)) rfl dX2_nextToken_97 ?_
      obtain ⟨h11, hf⟩ := gd_some hf
      refine pg_iald hC hP k_2 (bin_in h11) dX2_nextToken_100 ?_
      obtain ⟨r14, S12, q13, hf⟩ := cal2_some hf
      refine pg_callS (As := [.int (gA S7 2 (gI S7 205 1).toNatClampNeg)]) (rest := []) (st1 := [.int r14]) hC hml hP hS (c_X2_isDigit l hC.2.2.2.2.2.1 q13) ⟨by decide, by decide, rfl, rfl⟩ ⟨rfl, rfl⟩ (by decide) rfl rfl ⟨mk_X2_111, mi_X2_isDigit⟩ hd_X2_isDigit rfl hl.1 (Nat.le_of_ble_eq_true rfl) dX2_nextToken_101 (fun H locs hP hS => ?_)
      refine lv_if_eq (tgt := 114) hx hb dX2_nextToken_104 (by decide) (fun c15 => ?_) (fun c15 => ?_)
      · replace hf := ite_t c15 hf
        refine lv_aload_n hx hb dX2_nextToken_114 rfl (lv_at hl 0 rfl) ?_
        refine lv_aload_n hx hb dX2_nextToken_115 rfl (lv_at hl 0 rfl) ?_
        refine gf_X2_9 hC hP k_1 (v := .ref (ad 2)) rfl dX2_nextToken_116 ?_
        refine lv_aload_n hx hb dX2_nextToken_119 rfl (lv_at hl 0 rfl) ?_
        refine gf_X2_23 hC hP k_1 (v := .int (gI S12 205 1)) rfl dX2_nextToken_120 ?_
        obtain ⟨h16, hf⟩ := gd_some hf
        refine pg_iald hC hP k_2 (bin_in h16) dX2_nextToken_123 ?_
        refine lv_bipush (v := 59) hx hb dX2_nextToken_124 (by decide) ?_
        refine lv_icmp_ne (tgt := 133) hx hb dX2_nextToken_126 (by decide) (fun c17 => ?_) (fun c17 => ?_)
        · replace hf := ite_f c17 hf
          refine lv_iconst (v := 4) hx hb dX2_nextToken_133 (by decide) ?_
          exact w_X2_nextToken_L134 hX _ _ _ _ _ hf  hP hS (lv_sub hl [0] rfl)
        · replace hf := ite_t c17 hf
          refine lv_iconst (v := 3) hx hb dX2_nextToken_129 (by decide) ?_
          refine lv_goto (tgt := 134) hx hb dX2_nextToken_130 (by decide) ?_
          exact w_X2_nextToken_L134 hX _ _ _ _ _ hf  hP hS (lv_sub hl [0] rfl)
      · replace hf := ite_f c15 hf
        refine lv_aload_n hx hb dX2_nextToken_107 rfl (lv_at hl 0 rfl) ?_
        obtain ⟨S18, q19, hf⟩ := cal1_some hf
        refine pg_callV (As := []) (rest := []) (st1 := []) (ci := 2) hC hml hP hS (c_X2_takeNumber l hC.2.2.2.2.2.1 q19) ⟨by decide, by decide, rfl, rfl⟩ ⟨rfl, rfl⟩ (by decide) rfl (by decide) k_1 rfl rfl ⟨mk_X2_114, mi_X2_takeNumber⟩ hd_X2_takeNumber rfl hl.1 (Nat.le_of_ble_eq_true rfl) dX2_nextToken_108 (fun H locs hP hS => ?_)
        refine lv_goto (tgt := 147) hx hb dX2_nextToken_111 (by decide) ?_
        exact pg_vret hC hr hlk hP hS hf dX2_nextToken_147
    · replace hf := ite_f c10 hf
      refine lv_aload_n hx hb dX2_nextToken_85 rfl (lv_at hl 0 rfl) ?_
      obtain ⟨S20, q21, hf⟩ := cal1_some hf
      refine pg_callV (As := []) (rest := []) (st1 := []) (ci := 2) hC hml hP hS (c_X2_takeLetters l hC.2.2.2.2.2.1 q21) ⟨by decide, by decide, rfl, rfl⟩ ⟨rfl, rfl⟩ (by decide) rfl (by decide) k_1 rfl rfl ⟨mk_X2_108, mi_X2_takeLetters⟩ hd_X2_takeLetters rfl hl.1 (Nat.le_of_ble_eq_true rfl) dX2_nextToken_86 (fun H locs hP hS => ?_)
      refine lv_goto (tgt := 147) hx hb dX2_nextToken_89 (by decide) ?_
      exact pg_vret hC hr hlk hP hS hf dX2_nextToken_147
  · replace hf := ite_f c5 hf
    refine lv_aload_n hx hb dX2_nextToken_62 rfl (lv_at hl 0 rfl) ?_
    refine lv_iconst (v := 0) hx hb dX2_nextToken_63 (by decide) ?_
    obtain ⟨S22, eS22, hf⟩ := bnd_some hf
    refine pf_X2_37 hC hP hS k_1 eS22 dX2_nextToken_64 (fun H locs hP hS => ?_)
    refine lv_goto (tgt := 147) hx hb dX2_nextToken_67 (by decide) ?_
    exact pg_vret hC hr hlk hP hS hf dX2_nextToken_147
def P_X2_nextToken_L0 (N : Nat) : Nat → PSt → Option PSt
  | 0 => fun _ => none
  | n + 1 => fun S => if (gI S 200 1) ≤ (gI S 205 1) then (P_X2_nextToken_L38 N S) else (gd (bin (gI S 205 1) (ln 2)) <| if (gA S 2 (gI S 205 1).toNatClampNeg) = (32 : Int32) then (bnd (sI S 205 1 ((gI S 205 1) + (1 : Int32))) fun S26 => P_X2_nextToken_L0 N n S26) else (P_X2_nextToken_L38 N S))
set_option maxHeartbeats 4000000 in
set_option maxRecDepth 100000 in
theorem w_X2_nextToken_L0 {N : Nat} {S' : PSt} (hX : Mx p s m args c meth cX2_nextToken RX2 1 none D cy ad tb) : ∀ (n : Nat), ∀ (S : PSt) (H : Heap) (locs : List Loc) (ls : Array Slot), P_X2_nextToken_L0 N n S  = some S' → va_P D vwCl (pW cy ad S) H → va_S (pA ad s.heap.size) s.heap H locs → lv_has ls 1 [(0, .ref (ad 1))] → W p l e (rmd 3) s m args below meth c H locs 0 0 (Qz D cy ad below args s S' none) (F0 m 0 ls []) := by
  have hX0 := hX
  obtain ⟨hC, hml, hr, hlk⟩ := hX0
  have hx := hC.1
  have hb := hC.2.1
  intro n
  induction n with
  | zero => intro S  H locs ls hf; exact absurd hf (by intro h; cases h)
  | succ n ih =>
    intro S  H locs ls hf  hP hS hl
    rw [P_X2_nextToken_L0] at hf
    refine lv_aload_n hx hb dX2_nextToken_0 rfl (lv_at hl 0 rfl) ?_
    refine gf_X2_23 hC hP k_1 (v := .int (gI S 205 1)) rfl dX2_nextToken_1 ?_
    refine lv_aload_n hx hb dX2_nextToken_4 rfl (lv_at hl 0 rfl) ?_
    refine gf_X2_101 hC hP k_1 (v := .int (gI S 200 1)) rfl dX2_nextToken_5 ?_
    refine lv_icmp_ge (tgt := 38) hx hb dX2_nextToken_8 (by decide) (fun c23 => ?_) (fun c23 => ?_)
    · replace hf := ite_t c23 hf
      exact w_X2_nextToken_L38 hX _  _ _ _ hf  hP hS (lv_sub hl [0] rfl)
    · replace hf := ite_f c23 hf
      refine lv_aload_n hx hb dX2_nextToken_11 rfl (lv_at hl 0 rfl) ?_
      refine gf_X2_9 hC hP k_1 (v := .ref (ad 2)) rfl dX2_nextToken_12 ?_
      refine lv_aload_n hx hb dX2_nextToken_15 rfl (lv_at hl 0 rfl) ?_
      refine gf_X2_23 hC hP k_1 (v := .int (gI S 205 1)) rfl dX2_nextToken_16 ?_
      obtain ⟨h24, hf⟩ := gd_some hf
      refine pg_iald hC hP k_2 (bin_in h24) dX2_nextToken_19 ?_
      refine lv_bipush (v := 32) hx hb dX2_nextToken_20 (by decide) ?_
      refine lv_icmp_ne (tgt := 38) hx hb dX2_nextToken_22 (by decide) (fun c25 => ?_) (fun c25 => ?_)
      · replace hf := ite_f c25 hf
        exact w_X2_nextToken_L38 hX _  _ _ _ hf  hP hS (lv_sub hl [0] rfl)
      · replace hf := ite_t c25 hf
        refine lv_aload_n hx hb dX2_nextToken_25 rfl (lv_at hl 0 rfl) ?_
        refine lv_dup hx hb dX2_nextToken_26 rfl ?_
        refine gf_X2_23 hC hP k_1 (v := .int (gI S 205 1)) rfl dX2_nextToken_27 ?_
        refine lv_iconst (v := 1) hx hb dX2_nextToken_30 (by decide) ?_
        refine lv_iadd hx hb dX2_nextToken_31 ?_
        obtain ⟨S26, eS26, hf⟩ := bnd_some hf
        refine pf_X2_23 hC hP hS k_1 eS26 dX2_nextToken_32 (fun H locs hP hS => ?_)
        refine lv_goto (tgt := 0) hx hb dX2_nextToken_35 (by decide) ?_
        exact ih _  _ _ _ hf  hP hS (lv_sub hl [0] rfl)
def P_X2_nextToken (N : Nat) (S : PSt) : Option PSt := P_X2_nextToken_L0 N N S
set_option maxHeartbeats 4000000 in
set_option maxRecDepth 100000 in
theorem c_X2_nextToken (l : Launch) {D : va_G} {cy : Nat → ClassId} {ad tb : Nat → Nat} (hJ : pJ ad) {N : Nat} {S S' : PSt} (hf : P_X2_nextToken N S = some S') : Ct l 3 yX2_nextToken cX2_nextToken 1 none D cy ad tb S S' [.ref (ad 1)] none := by
  refine Ct_of hJ (by decide) (Nat.le_of_ble_eq_true rfl) (fun p e s m below meth c ls hX hP hS hl => ?_)
  have hl : lv_has ls 1 [(0, .ref (ad 1))] := hl
  have hX0 := hX
  obtain ⟨hC, hml, hr, hlk⟩ := hX0
  have hx := hC.1
  have hb := hC.2.1
  unfold P_X2_nextToken at hf
  exact w_X2_nextToken_L0 hX _ _  _ _ _ hf  hP hS (lv_sub hl [0] rfl)
def P_X2_boundsOf (N : Nat) (S : PSt) (x0 : Int32) : Option (Nat × PSt) := if x0 = (99 : Int32) then (some (2, S)) else (if x0 = (116 : Int32) then (some (1, S)) else (if x0 = (119 : Int32) then (some (0, S)) else (some (3, S))))
set_option maxHeartbeats 4000000 in
set_option maxRecDepth 100000 in
theorem c_X2_boundsOf (l : Launch) {D : va_G} {cy : Nat → ClassId} {ad tb : Nat → Nat} (hJ : pJ ad) {N : Nat} {S S' : PSt} {x0 : Int32} {r : Nat} (hf : P_X2_boundsOf N S x0 = some (r, S')) : Ct l 1 yX2_boundsOf cX2_boundsOf 1 (some (.array .int)) D cy ad tb S S' [.int x0] (some (.ref (tb r))) := by
  refine Ct_of hJ (by decide) (Nat.le_of_ble_eq_true rfl) (fun p e s m below meth c ls hX hP hS hl => ?_)
  have hl : lv_has ls 1 [(0, .int x0)] := hl
  have hX0 := hX
  obtain ⟨hC, hml, hr, hlk⟩ := hX0
  have hx := hC.1
  have hb := hC.2.1
  unfold P_X2_boundsOf at hf
  refine lv_iload_n hx hb dX2_boundsOf_0 rfl (lv_at hl 0 rfl) ?_
  by_cases c1 : x0 = (99 : Int32)
  · replace hf := ite_t c1 hf
    refine lv_lookup (off := 43) (tgt := 44) hx hb dX2_boundsOf_1 (by decide) (by rw [c1]; decide) (by decide) ?_
    refine pg_sget (b := 2) hC hS (by decide) sg_X2_81 dX2_boundsOf_44 ?_
    exact pg_sret hC hr hlk hP hS hf dX2_boundsOf_47
  · replace hf := ite_f c1 hf
    by_cases c2 : x0 = (116 : Int32)
    · replace hf := ite_t c2 hf
      refine lv_lookup (off := 39) (tgt := 40) hx hb dX2_boundsOf_1 (by decide) (by rw [c2]; decide) (by decide) ?_
      refine pg_sget (b := 1) hC hS (by decide) sg_X2_78 dX2_boundsOf_40 ?_
      exact pg_sret hC hr hlk hP hS hf dX2_boundsOf_43
    · replace hf := ite_f c2 hf
      by_cases c3 : x0 = (119 : Int32)
      · replace hf := ite_t c3 hf
        refine lv_lookup (off := 35) (tgt := 36) hx hb dX2_boundsOf_1 (by decide) (by rw [c3]; decide) (by decide) ?_
        refine pg_sget (b := 0) hC hS (by decide) sg_X2_75 dX2_boundsOf_36 ?_
        exact pg_sret hC hr hlk hP hS hf dX2_boundsOf_39
      · replace hf := ite_f c3 hf
        refine lv_lookup (off := 47) (tgt := 48) hx hb dX2_boundsOf_1 (by decide) (lk_out (fun k hk h => by
          simp only [List.map_cons, List.map_nil, List.mem_cons, List.not_mem_nil, or_false] at hk
          rcases hk with hk | hk | hk
          · subst hk; exact c1 (by apply Int32.toInt_inj.mp; rw [h]; decide)
          · subst hk; exact c2 (by apply Int32.toInt_inj.mp; rw [h]; decide)
          · subst hk; exact c3 (by apply Int32.toInt_inj.mp; rw [h]; decide))) (by decide) ?_
        refine pg_sget (b := 3) hC hS (by decide) sg_X2_84 dX2_boundsOf_48 ?_
        exact pg_sret hC hr hlk hP hS hf dX2_boundsOf_51
def P_X2_mayBegin (N : Nat) (S : PSt) (a1 : Nat) (x2 : Int32) : Option (Int32 × PSt) := if x2 = (99 : Int32) then (if (gI S 206 1) = (0 : Int32) then (some ((1 : Int32), S)) else (some ((0 : Int32), S))) else (if x2 = (104 : Int32) then (if (gI S 207 1) = (0 : Int32) then (some ((1 : Int32), S)) else (some ((0 : Int32), S))) else (if x2 = (116 : Int32) then (if (6 : Int32) ≤ (gI S 401 a1) then (some ((0 : Int32), S)) else (some ((1 : Int32), S))) else (if x2 = (119 : Int32) then (if (4 : Int32) ≤ (gI S 400 a1) then (some ((0 : Int32), S)) else (some ((1 : Int32), S))) else (some ((0 : Int32), S)))))
set_option maxHeartbeats 4000000 in
set_option maxRecDepth 100000 in
theorem c_X2_mayBegin (l : Launch) {D : va_G} {cy : Nat → ClassId} {ad tb : Nat → Nat} (hJ : pJ ad) {N : Nat} {S S' : PSt} {a1 : Nat} {x2 : Int32} {r : Int32} (hf : P_X2_mayBegin N S a1 x2 = some (r, S')) (h_a1 : kd a1 = 4) : Ct l 1 yX2_mayBegin cX2_mayBegin 3 (some .boolean) D cy ad tb S S' [.ref (ad 1), .ref (ad a1), .int x2] (some (.int r)) := by
  refine Ct_of hJ (by decide) (Nat.le_of_ble_eq_true rfl) (fun p e s m below meth c ls hX hP hS hl => ?_)
  have hl : lv_has ls 3 [(0, .ref (ad 1)), (1, .ref (ad a1)), (2, .int x2)] := hl
  have hX0 := hX
  obtain ⟨hC, hml, hr, hlk⟩ := hX0
  have hx := hC.1
  have hb := hC.2.1
  unfold P_X2_mayBegin at hf
  refine lv_iload_n hx hb dX2_mayBegin_0 rfl (lv_at hl 2 rfl) ?_
  by_cases c1 : x2 = (99 : Int32)
  · replace hf := ite_t c1 hf
    refine lv_lookup (off := 72) (tgt := 73) hx hb dX2_mayBegin_1 (by decide) (by rw [c1]; decide) (by decide) ?_
    refine lv_aload_n hx hb dX2_mayBegin_73 rfl (lv_at hl 0 rfl) ?_
    refine gf_X2_27 hC hP k_1 (v := .int (gI S 206 1)) rfl dX2_mayBegin_74 ?_
    refine lv_if_ne (tgt := 84) hx hb dX2_mayBegin_77 (by decide) (fun c2 => ?_) (fun c2 => ?_)
    · replace hf := ite_f c2 hf
      refine lv_iconst (v := 0) hx hb dX2_mayBegin_84 (by decide) ?_
      exact pg_zret hC hr hlk hP hS (by decide) hf dX2_mayBegin_85
    · replace hf := ite_t c2 hf
      refine lv_iconst (v := 1) hx hb dX2_mayBegin_80 (by decide) ?_
      refine lv_goto (tgt := 85) hx hb dX2_mayBegin_81 (by decide) ?_
      exact pg_zret hC hr hlk hP hS (by decide) hf dX2_mayBegin_85
  · replace hf := ite_f c1 hf
    by_cases c3 : x2 = (104 : Int32)
    · replace hf := ite_t c3 hf
      refine lv_lookup (off := 85) (tgt := 86) hx hb dX2_mayBegin_1 (by decide) (by rw [c3]; decide) (by decide) ?_
      refine lv_aload_n hx hb dX2_mayBegin_86 rfl (lv_at hl 0 rfl) ?_
      refine gf_X2_31 hC hP k_1 (v := .int (gI S 207 1)) rfl dX2_mayBegin_87 ?_
      refine lv_if_ne (tgt := 97) hx hb dX2_mayBegin_90 (by decide) (fun c4 => ?_) (fun c4 => ?_)
      · replace hf := ite_f c4 hf
        refine lv_iconst (v := 0) hx hb dX2_mayBegin_97 (by decide) ?_
        exact pg_zret hC hr hlk hP hS (by decide) hf dX2_mayBegin_98
      · replace hf := ite_t c4 hf
        refine lv_iconst (v := 1) hx hb dX2_mayBegin_93 (by decide) ?_
        refine lv_goto (tgt := 98) hx hb dX2_mayBegin_94 (by decide) ?_
        exact pg_zret hC hr hlk hP hS (by decide) hf dX2_mayBegin_98
    · replace hf := ite_f c3 hf
      by_cases c5 : x2 = (116 : Int32)
      · replace hf := ite_t c5 hf
        refine lv_lookup (off := 57) (tgt := 58) hx hb dX2_mayBegin_1 (by decide) (by rw [c5]; decide) (by decide) ?_
        refine lv_aload_n hx hb dX2_mayBegin_58 rfl (lv_at hl 1 rfl) ?_
        refine gf_X2_72 hC hP h_a1 (v := .int (gI S 401 a1)) rfl dX2_mayBegin_59 ?_
        refine lv_bipush (v := 6) hx hb dX2_mayBegin_62 (by decide) ?_
        refine lv_icmp_ge (tgt := 71) hx hb dX2_mayBegin_64 (by decide) (fun c6 => ?_) (fun c6 => ?_)
        · replace hf := ite_t c6 hf
          refine lv_iconst (v := 0) hx hb dX2_mayBegin_71 (by decide) ?_
          exact pg_zret hC hr hlk hP hS (by decide) hf dX2_mayBegin_72
        · replace hf := ite_f c6 hf
          refine lv_iconst (v := 1) hx hb dX2_mayBegin_67 (by decide) ?_
          refine lv_goto (tgt := 72) hx hb dX2_mayBegin_68 (by decide) ?_
          exact pg_zret hC hr hlk hP hS (by decide) hf dX2_mayBegin_72
      · replace hf := ite_f c5 hf
        by_cases c7 : x2 = (119 : Int32)
        · replace hf := ite_t c7 hf
          refine lv_lookup (off := 43) (tgt := 44) hx hb dX2_mayBegin_1 (by decide) (by rw [c7]; decide) (by decide) ?_
          refine lv_aload_n hx hb dX2_mayBegin_44 rfl (lv_at hl 1 rfl) ?_
          refine gf_X2_69 hC hP h_a1 (v := .int (gI S 400 a1)) rfl dX2_mayBegin_45 ?_
          refine lv_iconst (v := 4) hx hb dX2_mayBegin_48 (by decide) ?_
          refine lv_icmp_ge (tgt := 56) hx hb dX2_mayBegin_49 (by decide) (fun c8 => ?_) (fun c8 => ?_)
          · replace hf := ite_t c8 hf
            refine lv_iconst (v := 0) hx hb dX2_mayBegin_56 (by decide) ?_
            exact pg_zret hC hr hlk hP hS (by decide) hf dX2_mayBegin_57
          · replace hf := ite_f c8 hf
            refine lv_iconst (v := 1) hx hb dX2_mayBegin_52 (by decide) ?_
            refine lv_goto (tgt := 57) hx hb dX2_mayBegin_53 (by decide) ?_
            exact pg_zret hC hr hlk hP hS (by decide) hf dX2_mayBegin_57
        · replace hf := ite_f c7 hf
          refine lv_lookup (off := 98) (tgt := 99) hx hb dX2_mayBegin_1 (by decide) (lk_out (fun k hk h => by
            simp only [List.map_cons, List.map_nil, List.mem_cons, List.not_mem_nil, or_false] at hk
            rcases hk with hk | hk | hk | hk
            · subst hk; exact c1 (by apply Int32.toInt_inj.mp; rw [h]; decide)
            · subst hk; exact c3 (by apply Int32.toInt_inj.mp; rw [h]; decide)
            · subst hk; exact c5 (by apply Int32.toInt_inj.mp; rw [h]; decide)
            · subst hk; exact c7 (by apply Int32.toInt_inj.mp; rw [h]; decide))) (by decide) ?_
          refine lv_iconst (v := 0) hx hb dX2_mayBegin_99 (by decide) ?_
          exact pg_zret hC hr hlk hP hS (by decide) hf dX2_mayBegin_100
def P_X2_readNumbers_L77 (N : Nat) (S : PSt) : Option (Int32 × PSt) := cal1 (P_X2_nextToken N S) fun S1 => if (gI S1 202 1) = (3 : Int32) then (some ((1 : Int32), S1)) else (some ((0 : Int32), S1))
set_option maxHeartbeats 4000000 in
set_option maxRecDepth 100000 in
theorem w_X2_readNumbers_L77 {N : Nat} {S' : PSt} {r : Int32} (hX : Mx p s m args c meth cX2_readNumbers RX2 3 (some .boolean) D cy ad tb) : ∀ (S : PSt) (H : Heap) (locs : List Loc) (ls : Array Slot), P_X2_readNumbers_L77 N S  = some (r, S') → va_P D vwCl (pW cy ad S) H → va_S (pA ad s.heap.size) s.heap H locs → lv_has ls 3 [(0, .ref (ad 1))] → W p l e (rmd 4) s m args below meth c H locs 0 0 (Qz D cy ad below args s S' (some (.int r))) (F0 m 77 ls []) := by
  have hX0 := hX
  obtain ⟨hC, hml, hr, hlk⟩ := hX0
  have hx := hC.1
  have hb := hC.2.1
  intro S  H locs ls hf  hP hS hl
  unfold P_X2_readNumbers_L77 at hf
  refine lv_aload_n hx hb dX2_readNumbers_77 rfl (lv_at hl 0 rfl) ?_
  obtain ⟨S1, q2, hf⟩ := cal1_some hf
  refine pg_callV (As := []) (rest := []) (st1 := []) (ci := 2) hC hml hP hS (c_X2_nextToken l hC.2.2.2.2.2.1 q2) ⟨by decide, by decide, rfl, rfl⟩ ⟨rfl, rfl⟩ (by decide) rfl (by decide) k_1 rfl rfl ⟨mk_X2_34, mi_X2_nextToken⟩ hd_X2_nextToken rfl hl.1 (Nat.le_of_ble_eq_true rfl) dX2_readNumbers_78 (fun H locs hP hS => ?_)
  refine lv_aload_n hx hb dX2_readNumbers_81 rfl (lv_at hl 0 rfl) ?_
  refine gf_X2_37 hC hP k_1 (v := .int (gI S1 202 1)) rfl dX2_readNumbers_82 ?_
  refine lv_iconst (v := 3) hx hb dX2_readNumbers_85 (by decide) ?_
  refine lv_icmp_ne (tgt := 93) hx hb dX2_readNumbers_86 (by decide) (fun c3 => ?_) (fun c3 => ?_)
  · replace hf := ite_f c3 hf
    refine lv_iconst (v := 0) hx hb dX2_readNumbers_93 (by decide) ?_
    exact pg_zret hC hr hlk hP hS (by decide) hf dX2_readNumbers_94
  · replace hf := ite_t c3 hf
    refine lv_iconst (v := 1) hx hb dX2_readNumbers_89 (by decide) ?_
    refine lv_goto (tgt := 94) hx hb dX2_readNumbers_90 (by decide) ?_
    exact pg_zret hC hr hlk hP hS (by decide) hf dX2_readNumbers_94
def P_X2_readNumbers_L2 (N : Nat) : Nat → PSt → Nat → Int32 → Option (Int32 × PSt)
  | 0 => fun _ _ _ => none
  | n + 1 => fun S b1 x2 => if (Int32.ofNat (ln 3)) ≤ x2 then (P_X2_readNumbers_L77 N S) else (if (Int32.ofNat (stL b1)) ≤ (((2 : Int32) * x2) + (1 : Int32)) then (P_X2_readNumbers_L77 N S) else (cal1 (P_X2_nextToken N S) fun S6 => if (gI S6 202 1) = (2 : Int32) then (gd (bin ((2 : Int32) * x2) (stL b1)) <| if (gI S6 204 1) < (stV b1 ((2 : Int32) * x2).toNatClampNeg) then (some ((0 : Int32), S6)) else (gd (bin (((2 : Int32) * x2) + (1 : Int32)) (stL b1)) <| if (gI S6 204 1) ≤ (stV b1 (((2 : Int32) * x2) + (1 : Int32)).toNatClampNeg) then (gd (bin x2 (ln 3)) <| bnd (sA S6 3 x2.toNatClampNeg (gI S6 204 1)) fun S14 => bnd (x2 + (1 : Int32)) fun v15 => P_X2_readNumbers_L2 N n S14 b1 v15) else (some ((0 : Int32), S6)))) else (some ((0 : Int32), S6))))
set_option maxHeartbeats 4000000 in
set_option maxRecDepth 100000 in
theorem w_X2_readNumbers_L2 {N : Nat} {S' : PSt} {r : Int32} (hX : Mx p s m args c meth cX2_readNumbers RX2 3 (some .boolean) D cy ad tb) : ∀ (n : Nat), ∀ (S : PSt) (b1 : Nat) (x2 : Int32) (H : Heap) (locs : List Loc) (ls : Array Slot), P_X2_readNumbers_L2 N n S b1 x2 = some (r, S') → b1 < 4 → va_P D vwCl (pW cy ad S) H → va_S (pA ad s.heap.size) s.heap H locs → lv_has ls 3 [(0, .ref (ad 1)), (1, .ref (tb b1)), (2, .int x2)] → W p l e (rmd 4) s m args below meth c H locs 0 0 (Qz D cy ad below args s S' (some (.int r))) (F0 m 2 ls []) := by
  have hX0 := hX
  obtain ⟨hC, hml, hr, hlk⟩ := hX0
  have hx := hC.1
  have hb := hC.2.1
  intro n
  induction n with
  | zero => intro S b1 x2 H locs ls hf; exact absurd hf (by intro h; cases h)
  | succ n ih =>
    intro S b1 x2 H locs ls hf hb_b1 hP hS hl
    rw [P_X2_readNumbers_L2] at hf
    refine lv_iload_n hx hb dX2_readNumbers_2 rfl (lv_at hl 2 rfl) ?_
    refine lv_aload_n hx hb dX2_readNumbers_3 rfl (lv_at hl 0 rfl) ?_
    refine gf_X2_15 hC hP k_1 (v := .ref (ad 3)) rfl dX2_readNumbers_4 ?_
    refine pg_alen hC hP k_3 dX2_readNumbers_7 ?_
    refine lv_icmp_ge (tgt := 77) hx hb dX2_readNumbers_8 (by decide) (fun c4 => ?_) (fun c4 => ?_)
    · replace hf := ite_t c4 hf
      exact w_X2_readNumbers_L77 hX _  _ _ _ hf  hP hS (lv_sub hl [0] rfl)
    · replace hf := ite_f c4 hf
      refine lv_iconst (v := 2) hx hb dX2_readNumbers_11 (by decide) ?_
      refine lv_iload_n hx hb dX2_readNumbers_12 rfl (lv_at hl 2 rfl) ?_
      refine lv_imul hx hb dX2_readNumbers_13 ?_
      refine lv_iconst (v := 1) hx hb dX2_readNumbers_14 (by decide) ?_
      refine lv_iadd hx hb dX2_readNumbers_15 ?_
      refine lv_aload_n hx hb dX2_readNumbers_16 rfl (lv_at hl 1 rfl) ?_
      refine pg_slen hC hS hb_b1 dX2_readNumbers_17 ?_
      refine lv_icmp_ge (tgt := 77) hx hb dX2_readNumbers_18 (by decide) (fun c5 => ?_) (fun c5 => ?_)
      · replace hf := ite_t c5 hf
        exact w_X2_readNumbers_L77 hX _  _ _ _ hf  hP hS (lv_sub hl [0] rfl)
      · replace hf := ite_f c5 hf
        refine lv_aload_n hx hb dX2_readNumbers_21 rfl (lv_at hl 0 rfl) ?_
        obtain ⟨S6, q7, hf⟩ := cal1_some hf
        refine pg_callV (As := []) (rest := []) (st1 := []) (ci := 2) hC hml hP hS (c_X2_nextToken l hC.2.2.2.2.2.1 q7) ⟨by decide, by decide, rfl, rfl⟩ ⟨rfl, rfl⟩ (by decide) rfl (by decide) k_1 rfl rfl ⟨mk_X2_34, mi_X2_nextToken⟩ hd_X2_nextToken rfl hl.1 (Nat.le_of_ble_eq_true rfl) dX2_readNumbers_22 (fun H locs hP hS => ?_)
        refine lv_aload_n hx hb dX2_readNumbers_25 rfl (lv_at hl 0 rfl) ?_
        refine gf_X2_37 hC hP k_1 (v := .int (gI S6 202 1)) rfl dX2_readNumbers_26 ?_
        refine lv_iconst (v := 2) hx hb dX2_readNumbers_29 (by decide) ?_
        refine lv_icmp_ne (tgt := 59) hx hb dX2_readNumbers_30 (by decide) (fun c8 => ?_) (fun c8 => ?_)
        · replace hf := ite_f c8 hf
          refine lv_iconst (v := 0) hx hb dX2_readNumbers_59 (by decide) ?_
          exact pg_zret hC hr hlk hP hS (by decide) hf dX2_readNumbers_60
        · replace hf := ite_t c8 hf
          refine lv_aload_n hx hb dX2_readNumbers_33 rfl (lv_at hl 0 rfl) ?_
          refine gf_X2_50 hC hP k_1 (v := .int (gI S6 204 1)) rfl dX2_readNumbers_34 ?_
          refine lv_aload_n hx hb dX2_readNumbers_37 rfl (lv_at hl 1 rfl) ?_
          refine lv_iconst (v := 2) hx hb dX2_readNumbers_38 (by decide) ?_
          refine lv_iload_n hx hb dX2_readNumbers_39 rfl (lv_at hl 2 rfl) ?_
          refine lv_imul hx hb dX2_readNumbers_40 ?_
          obtain ⟨h9, hf⟩ := gd_some hf
          refine pg_sld hC hS hb_b1 (bin_in h9) dX2_readNumbers_41 ?_
          refine lv_icmp_lt (tgt := 59) hx hb dX2_readNumbers_42 (by decide) (fun c10 => ?_) (fun c10 => ?_)
          · replace hf := ite_t c10 hf
            refine lv_iconst (v := 0) hx hb dX2_readNumbers_59 (by decide) ?_
            exact pg_zret hC hr hlk hP hS (by decide) hf dX2_readNumbers_60
          · replace hf := ite_f c10 hf
            refine lv_aload_n hx hb dX2_readNumbers_45 rfl (lv_at hl 0 rfl) ?_
            refine gf_X2_50 hC hP k_1 (v := .int (gI S6 204 1)) rfl dX2_readNumbers_46 ?_
            refine lv_aload_n hx hb dX2_readNumbers_49 rfl (lv_at hl 1 rfl) ?_
            refine lv_iconst (v := 2) hx hb dX2_readNumbers_50 (by decide) ?_
            refine lv_iload_n hx hb dX2_readNumbers_51 rfl (lv_at hl 2 rfl) ?_
            refine lv_imul hx hb dX2_readNumbers_52 ?_
            refine lv_iconst (v := 1) hx hb dX2_readNumbers_53 (by decide) ?_
            refine lv_iadd hx hb dX2_readNumbers_54 ?_
            obtain ⟨h11, hf⟩ := gd_some hf
            refine pg_sld hC hS hb_b1 (bin_in h11) dX2_readNumbers_55 ?_
            refine lv_icmp_le (tgt := 61) hx hb dX2_readNumbers_56 (by decide) (fun c12 => ?_) (fun c12 => ?_)
            · replace hf := ite_t c12 hf
              refine lv_aload_n hx hb dX2_readNumbers_61 rfl (lv_at hl 0 rfl) ?_
              refine gf_X2_15 hC hP k_1 (v := .ref (ad 3)) rfl dX2_readNumbers_62 ?_
              refine lv_iload_n hx hb dX2_readNumbers_65 rfl (lv_at hl 2 rfl) ?_
              refine lv_aload_n hx hb dX2_readNumbers_66 rfl (lv_at hl 0 rfl) ?_
              refine gf_X2_50 hC hP k_1 (v := .int (gI S6 204 1)) rfl dX2_readNumbers_67 ?_
              obtain ⟨h13, hf⟩ := gd_some hf
              obtain ⟨S14, eS14, hf⟩ := bnd_some hf
              refine pg_iast hC hP hS k_3 (bin_in h13) dX2_readNumbers_70 (fun H locs hP hS => ?_)
              rw [← eS14] at hP
              obtain ⟨v15, ev15, hf⟩ := bnd_some hf
              refine lv_iinc (v := v15) (lv' := [(2, .int v15), (0, .ref (ad 1)), (1, .ref (tb b1))]) hx hb dX2_readNumbers_71 hl (k := 2) rfl (by rw [ev15]; rfl) (by decide) rfl (fun ls hl => ?_)
              refine lv_goto (tgt := 2) hx hb dX2_readNumbers_74 (by decide) ?_
              exact ih _ _ _ _ _ _ hf hb_b1 hP hS (lv_sub hl [1, 2, 0] rfl)
            · replace hf := ite_f c12 hf
              refine lv_iconst (v := 0) hx hb dX2_readNumbers_59 (by decide) ?_
              exact pg_zret hC hr hlk hP hS (by decide) hf dX2_readNumbers_60
def P_X2_readNumbers (N : Nat) (S : PSt) (b1 : Nat) : Option (Int32 × PSt) := P_X2_readNumbers_L2 N N S b1 (0 : Int32)
set_option maxHeartbeats 4000000 in
set_option maxRecDepth 100000 in
theorem c_X2_readNumbers (l : Launch) {D : va_G} {cy : Nat → ClassId} {ad tb : Nat → Nat} (hJ : pJ ad) {N : Nat} {S S' : PSt} {b1 : Nat} {r : Int32} (hf : P_X2_readNumbers N S b1 = some (r, S')) (hb_b1 : b1 < 4) : Ct l 4 yX2_readNumbers cX2_readNumbers 3 (some .boolean) D cy ad tb S S' [.ref (ad 1), .ref (tb b1)] (some (.int r)) := by
  refine Ct_of hJ (by decide) (Nat.le_of_ble_eq_true rfl) (fun p e s m below meth c ls hX hP hS hl => ?_)
  have hl : lv_has ls 3 [(0, .ref (ad 1)), (1, .ref (tb b1))] := hl
  have hX0 := hX
  obtain ⟨hC, hml, hr, hlk⟩ := hX0
  have hx := hC.1
  have hb := hC.2.1
  unfold P_X2_readNumbers at hf
  refine lv_iconst (v := 0) hx hb dX2_readNumbers_0 (by decide) ?_
  refine lv_istore_n (lv' := [(2, .int (0 : Int32)), (0, .ref (ad 1)), (1, .ref (tb b1))]) hx hb dX2_readNumbers_1 rfl hl (by decide) rfl (fun ls hl => ?_)
  exact w_X2_readNumbers_L2 hX _ _ _ _ _ _ _ hf hb_b1 hP hS (lv_sub hl [1, 2, 0] rfl)
def P_X2_tell (N : Nat) (S : PSt) (a1 : Nat) (x2 : Int32) : Option PSt := if x2 = (99 : Int32) then (bnd (sI S 206 1 (1 : Int32)) fun S2 => bnd (sI S2 402 a1 (gA S2 3 (0 : Int32).toNatClampNeg)) fun S3 => some S3) else (if x2 = (116 : Int32) then (cal1 (P_X4_addStretch N S a1 (gA S 3 (0 : Int32).toNatClampNeg) (gA S 3 (1 : Int32).toNatClampNeg) (gA S 3 (2 : Int32).toNatClampNeg) (gA S 3 (3 : Int32).toNatClampNeg)) fun S5 => some S5) else (if x2 = (119 : Int32) then (cal1 (P_X4_addWalker N S a1 (gA S 3 (0 : Int32).toNatClampNeg) (gA S 3 (1 : Int32).toNatClampNeg)) fun S8 => some S8) else (bnd (sI S 207 1 (1 : Int32)) fun S10 => bnd (sI S10 403 a1 (gA S10 3 (0 : Int32).toNatClampNeg)) fun S11 => some S11)))
set_option maxHeartbeats 4000000 in
set_option maxRecDepth 100000 in
theorem c_X2_tell (l : Launch) {D : va_G} {cy : Nat → ClassId} {ad tb : Nat → Nat} (hJ : pJ ad) {N : Nat} {S S' : PSt} {a1 : Nat} {x2 : Int32} (hf : P_X2_tell N S a1 x2 = some S') (h_a1 : kd a1 = 4) : Ct l 2 yX2_tell cX2_tell 3 none D cy ad tb S S' [.ref (ad 1), .ref (ad a1), .int x2] none := by
  refine Ct_of hJ (by decide) (Nat.le_of_ble_eq_true rfl) (fun p e s m below meth c ls hX hP hS hl => ?_)
  have hl : lv_has ls 3 [(0, .ref (ad 1)), (1, .ref (ad a1)), (2, .int x2)] := hl
  have hX0 := hX
  obtain ⟨hC, hml, hr, hlk⟩ := hX0
  have hx := hC.1
  have hb := hC.2.1
  unfold P_X2_tell at hf
  refine lv_iload_n hx hb dX2_tell_0 rfl (lv_at hl 2 rfl) ?_
  by_cases c1 : x2 = (99 : Int32)
  · replace hf := ite_t c1 hf
    refine lv_lookup (off := 85) (tgt := 86) hx hb dX2_tell_1 (by decide) (by rw [c1]; decide) (by decide) ?_
    refine lv_aload_n hx hb dX2_tell_86 rfl (lv_at hl 0 rfl) ?_
    refine lv_iconst (v := 1) hx hb dX2_tell_87 (by decide) ?_
    obtain ⟨S2, eS2, hf⟩ := bnd_some hf
    refine pf_X2_27 hC hP hS k_1 (by decide) eS2 dX2_tell_88 (fun H locs hP hS => ?_)
    refine lv_aload_n hx hb dX2_tell_91 rfl (lv_at hl 1 rfl) ?_
    refine lv_aload_n hx hb dX2_tell_92 rfl (lv_at hl 0 rfl) ?_
    refine gf_X2_15 hC hP k_1 (v := .ref (ad 3)) rfl dX2_tell_93 ?_
    refine lv_iconst (v := 0) hx hb dX2_tell_96 (by decide) ?_
    refine pg_iald hC hP k_3 (bin_in (by decide +kernel)) dX2_tell_97 ?_
    obtain ⟨S3, eS3, hf⟩ := bnd_some hf
    refine pf_X2_95 hC hP hS h_a1 eS3 dX2_tell_98 (fun H locs hP hS => ?_)
    refine lv_goto (tgt := 119) hx hb dX2_tell_101 (by decide) ?_
    exact pg_vret hC hr hlk hP hS hf dX2_tell_119
  · replace hf := ite_f c1 hf
    by_cases c4 : x2 = (116 : Int32)
    · replace hf := ite_t c4 hf
      refine lv_lookup (off := 54) (tgt := 55) hx hb dX2_tell_1 (by decide) (by rw [c4]; decide) (by decide) ?_
      refine lv_aload_n hx hb dX2_tell_55 rfl (lv_at hl 1 rfl) ?_
      refine lv_aload_n hx hb dX2_tell_56 rfl (lv_at hl 0 rfl) ?_
      refine gf_X2_15 hC hP k_1 (v := .ref (ad 3)) rfl dX2_tell_57 ?_
      refine lv_iconst (v := 0) hx hb dX2_tell_60 (by decide) ?_
      refine pg_iald hC hP k_3 (bin_in (by decide +kernel)) dX2_tell_61 ?_
      refine lv_aload_n hx hb dX2_tell_62 rfl (lv_at hl 0 rfl) ?_
      refine gf_X2_15 hC hP k_1 (v := .ref (ad 3)) rfl dX2_tell_63 ?_
      refine lv_iconst (v := 1) hx hb dX2_tell_66 (by decide) ?_
      refine pg_iald hC hP k_3 (bin_in (by decide +kernel)) dX2_tell_67 ?_
      refine lv_aload_n hx hb dX2_tell_68 rfl (lv_at hl 0 rfl) ?_
      refine gf_X2_15 hC hP k_1 (v := .ref (ad 3)) rfl dX2_tell_69 ?_
      refine lv_iconst (v := 2) hx hb dX2_tell_72 (by decide) ?_
      refine pg_iald hC hP k_3 (bin_in (by decide +kernel)) dX2_tell_73 ?_
      refine lv_aload_n hx hb dX2_tell_74 rfl (lv_at hl 0 rfl) ?_
      refine gf_X2_15 hC hP k_1 (v := .ref (ad 3)) rfl dX2_tell_75 ?_
      refine lv_iconst (v := 3) hx hb dX2_tell_78 (by decide) ?_
      refine pg_iald hC hP k_3 (bin_in (by decide +kernel)) dX2_tell_79 ?_
      obtain ⟨S5, q6, hf⟩ := cal1_some hf
      refine pg_callV (As := [.int (gA S 3 (0 : Int32).toNatClampNeg), .int (gA S 3 (1 : Int32).toNatClampNeg), .int (gA S 3 (2 : Int32).toNatClampNeg), .int (gA S 3 (3 : Int32).toNatClampNeg)]) (rest := []) (st1 := []) (ci := 4) hC hml hP hS (c_X4_addStretch l hC.2.2.2.2.2.1 q6 h_a1) ⟨by decide, by decide, rfl, rfl⟩ ⟨rfl, rfl⟩ (by decide) rfl (by decide) h_a1 rfl rfl ⟨mk_X2_91, mi_X4_addStretch⟩ hd_X4_addStretch rfl hl.1 (Nat.le_of_ble_eq_true rfl) dX2_tell_80 (fun H locs hP hS => ?_)
      refine lv_goto (tgt := 119) hx hb dX2_tell_83 (by decide) ?_
      exact pg_vret hC hr hlk hP hS hf dX2_tell_119
    · replace hf := ite_f c4 hf
      by_cases c7 : x2 = (119 : Int32)
      · replace hf := ite_t c7 hf
        refine lv_lookup (off := 35) (tgt := 36) hx hb dX2_tell_1 (by decide) (by rw [c7]; decide) (by decide) ?_
        refine lv_aload_n hx hb dX2_tell_36 rfl (lv_at hl 1 rfl) ?_
        refine lv_aload_n hx hb dX2_tell_37 rfl (lv_at hl 0 rfl) ?_
        refine gf_X2_15 hC hP k_1 (v := .ref (ad 3)) rfl dX2_tell_38 ?_
        refine lv_iconst (v := 0) hx hb dX2_tell_41 (by decide) ?_
        refine pg_iald hC hP k_3 (bin_in (by decide +kernel)) dX2_tell_42 ?_
        refine lv_aload_n hx hb dX2_tell_43 rfl (lv_at hl 0 rfl) ?_
        refine gf_X2_15 hC hP k_1 (v := .ref (ad 3)) rfl dX2_tell_44 ?_
        refine lv_iconst (v := 1) hx hb dX2_tell_47 (by decide) ?_
        refine pg_iald hC hP k_3 (bin_in (by decide +kernel)) dX2_tell_48 ?_
        obtain ⟨S8, q9, hf⟩ := cal1_some hf
        refine pg_callV (As := [.int (gA S 3 (0 : Int32).toNatClampNeg), .int (gA S 3 (1 : Int32).toNatClampNeg)]) (rest := []) (st1 := []) (ci := 4) hC hml hP hS (c_X4_addWalker l hC.2.2.2.2.2.1 q9 h_a1) ⟨by decide, by decide, rfl, rfl⟩ ⟨rfl, rfl⟩ (by decide) rfl (by decide) h_a1 rfl rfl ⟨mk_X2_87, mi_X4_addWalker⟩ hd_X4_addWalker rfl hl.1 (Nat.le_of_ble_eq_true rfl) dX2_tell_49 (fun H locs hP hS => ?_)
        refine lv_goto (tgt := 119) hx hb dX2_tell_52 (by decide) ?_
        exact pg_vret hC hr hlk hP hS hf dX2_tell_119
      · replace hf := ite_f c7 hf
        refine lv_lookup (off := 103) (tgt := 104) hx hb dX2_tell_1 (by decide) (lk_out (fun k hk h => by
          simp only [List.map_cons, List.map_nil, List.mem_cons, List.not_mem_nil, or_false] at hk
          rcases hk with hk | hk | hk
          · subst hk; exact c1 (by apply Int32.toInt_inj.mp; rw [h]; decide)
          · subst hk; exact c4 (by apply Int32.toInt_inj.mp; rw [h]; decide)
          · subst hk; exact c7 (by apply Int32.toInt_inj.mp; rw [h]; decide))) (by decide) ?_
        refine lv_aload_n hx hb dX2_tell_104 rfl (lv_at hl 0 rfl) ?_
        refine lv_iconst (v := 1) hx hb dX2_tell_105 (by decide) ?_
        obtain ⟨S10, eS10, hf⟩ := bnd_some hf
        refine pf_X2_31 hC hP hS k_1 (by decide) eS10 dX2_tell_106 (fun H locs hP hS => ?_)
        refine lv_aload_n hx hb dX2_tell_109 rfl (lv_at hl 1 rfl) ?_
        refine lv_aload_n hx hb dX2_tell_110 rfl (lv_at hl 0 rfl) ?_
        refine gf_X2_15 hC hP k_1 (v := .ref (ad 3)) rfl dX2_tell_111 ?_
        refine lv_iconst (v := 0) hx hb dX2_tell_114 (by decide) ?_
        refine pg_iald hC hP k_3 (bin_in (by decide +kernel)) dX2_tell_115 ?_
        obtain ⟨S11, eS11, hf⟩ := bnd_some hf
        refine pf_X2_98 hC hP hS h_a1 eS11 dX2_tell_116 (fun H locs hP hS => ?_)
        exact pg_vret hC hr hlk hP hS hf dX2_tell_119
def P_X2_readItem_L16 (N : Nat) (S : PSt) (a1 : Nat) (y0 : Int32) : Option (Int32 × PSt) := cal2 (P_X2_mayBegin N S a1 y0) fun r3 S1 => if r3 = (0 : Int32) then (some ((0 : Int32), S1)) else (cal2 (P_X2_boundsOf N S1 y0) fun b7 S5 => gd (decide (b7 < 4)) <| cal2 (P_X2_readNumbers N S5 b7) fun r11 S9 => if r11 = (0 : Int32) then (some ((0 : Int32), S9)) else (cal1 (P_X2_tell N S9 a1 y0) fun S13 => some ((1 : Int32), S13)))
set_option maxHeartbeats 4000000 in
set_option maxRecDepth 100000 in
theorem w_X2_readItem_L16 {N : Nat} {S' : PSt} {r : Int32} (hX : Mx p s m args c meth cX2_readItem RX2 3 (some .boolean) D cy ad tb) : ∀ (S : PSt) (a1 : Nat) (y0 : Int32) (H : Heap) (locs : List Loc) (ls : Array Slot), P_X2_readItem_L16 N S a1 y0 = some (r, S') → kd a1 = 4 → va_P D vwCl (pW cy ad S) H → va_S (pA ad s.heap.size) s.heap H locs → lv_has ls 3 [(0, .ref (ad 1)), (1, .ref (ad a1))] → W p l e (rmd 5) s m args below meth c H locs 0 0 (Qz D cy ad below args s S' (some (.int r))) (F0 m 16 ls [.int y0]) := by
  have hX0 := hX
  obtain ⟨hC, hml, hr, hlk⟩ := hX0
  have hx := hC.1
  have hb := hC.2.1
  intro S a1 y0 H locs ls hf h_a1 hP hS hl
  unfold P_X2_readItem_L16 at hf
  refine lv_istore_n (lv' := [(2, .int y0), (0, .ref (ad 1)), (1, .ref (ad a1))]) hx hb dX2_readItem_16 rfl hl (by decide) rfl (fun ls hl => ?_)
  refine lv_aload_n hx hb dX2_readItem_17 rfl (lv_at hl 1 rfl) ?_
  refine lv_aload_n hx hb dX2_readItem_18 rfl (lv_at hl 2 rfl) ?_
  refine lv_iload_n hx hb dX2_readItem_19 rfl (lv_at hl 0 rfl) ?_
  obtain ⟨r3, S1, q2, hf⟩ := cal2_some hf
  refine pg_callV (As := [.ref (ad a1), .int y0]) (rest := []) (st1 := [.int r3]) (ci := 2) hC hml hP hS (c_X2_mayBegin l hC.2.2.2.2.2.1 q2 h_a1) ⟨by decide, by decide, rfl, rfl⟩ ⟨rfl, rfl⟩ (by decide) rfl (by decide) k_1 rfl rfl ⟨mk_X2_53, mi_X2_mayBegin⟩ hd_X2_mayBegin rfl hl.1 (Nat.le_of_ble_eq_true rfl) dX2_readItem_20 (fun H locs hP hS => ?_)
  refine lv_if_eq (tgt := 37) hx hb dX2_readItem_23 (by decide) (fun c4 => ?_) (fun c4 => ?_)
  · replace hf := ite_t c4 hf
    refine lv_iconst (v := 0) hx hb dX2_readItem_37 (by decide) ?_
    exact pg_zret hC hr hlk hP hS (by decide) hf dX2_readItem_38
  · replace hf := ite_f c4 hf
    refine lv_aload_n hx hb dX2_readItem_26 rfl (lv_at hl 1 rfl) ?_
    refine lv_iload_n hx hb dX2_readItem_27 rfl (lv_at hl 0 rfl) ?_
    obtain ⟨b7, S5, q6, hf⟩ := cal2_some hf
    obtain ⟨h8, hf⟩ := gd_some hf
    refine pg_callS (As := [.int y0]) (rest := [.ref (ad 1)]) (st1 := [.ref (tb b7), .ref (ad 1)]) hC hml hP hS (c_X2_boundsOf l hC.2.2.2.2.2.1 q6) ⟨by decide, by decide, rfl, rfl⟩ ⟨rfl, rfl⟩ (by decide) rfl rfl ⟨mk_X2_57, mi_X2_boundsOf⟩ hd_X2_boundsOf rfl hl.1 (Nat.le_of_ble_eq_true rfl) dX2_readItem_28 (fun H locs hP hS => ?_)
    obtain ⟨r11, S9, q10, hf⟩ := cal2_some hf
    refine pg_callV (As := [.ref (tb b7)]) (rest := []) (st1 := [.int r11]) (ci := 2) hC hml hP hS (c_X2_readNumbers l hC.2.2.2.2.2.1 q10 (of_decide_eq_true h8)) ⟨by decide, by decide, rfl, rfl⟩ ⟨rfl, rfl⟩ (by decide) rfl (by decide) k_1 rfl rfl ⟨mk_X2_61, mi_X2_readNumbers⟩ hd_X2_readNumbers rfl hl.1 (Nat.le_of_ble_eq_true rfl) dX2_readItem_31 (fun H locs hP hS => ?_)
    refine lv_if_ne (tgt := 39) hx hb dX2_readItem_34 (by decide) (fun c12 => ?_) (fun c12 => ?_)
    · replace hf := ite_f c12 hf
      refine lv_aload_n hx hb dX2_readItem_39 rfl (lv_at hl 1 rfl) ?_
      refine lv_aload_n hx hb dX2_readItem_40 rfl (lv_at hl 2 rfl) ?_
      refine lv_iload_n hx hb dX2_readItem_41 rfl (lv_at hl 0 rfl) ?_
      obtain ⟨S13, q14, hf⟩ := cal1_some hf
      refine pg_callV (As := [.ref (ad a1), .int y0]) (rest := []) (st1 := []) (ci := 2) hC hml hP hS (c_X2_tell l hC.2.2.2.2.2.1 q14 h_a1) ⟨by decide, by decide, rfl, rfl⟩ ⟨rfl, rfl⟩ (by decide) rfl (by decide) k_1 rfl rfl ⟨mk_X2_65, mi_X2_tell⟩ hd_X2_tell rfl hl.1 (Nat.le_of_ble_eq_true rfl) dX2_readItem_42 (fun H locs hP hS => ?_)
      refine lv_iconst (v := 1) hx hb dX2_readItem_45 (by decide) ?_
      exact pg_zret hC hr hlk hP hS (by decide) hf dX2_readItem_46
    · replace hf := ite_t c12 hf
      refine lv_iconst (v := 0) hx hb dX2_readItem_37 (by decide) ?_
      exact pg_zret hC hr hlk hP hS (by decide) hf dX2_readItem_38
def P_X2_readItem (N : Nat) (S : PSt) (a1 : Nat) : Option (Int32 × PSt) := if (gI S 202 1) = (1 : Int32) then (P_X2_readItem_L16 N S a1 (gI S 204 1)) else (P_X2_readItem_L16 N S a1 (0 : Int32))
set_option maxHeartbeats 4000000 in
set_option maxRecDepth 100000 in
theorem c_X2_readItem (l : Launch) {D : va_G} {cy : Nat → ClassId} {ad tb : Nat → Nat} (hJ : pJ ad) {N : Nat} {S S' : PSt} {a1 : Nat} {r : Int32} (hf : P_X2_readItem N S a1 = some (r, S')) (h_a1 : kd a1 = 4) : Ct l 5 yX2_readItem cX2_readItem 3 (some .boolean) D cy ad tb S S' [.ref (ad 1), .ref (ad a1)] (some (.int r)) := by
  refine Ct_of hJ (by decide) (Nat.le_of_ble_eq_true rfl) (fun p e s m below meth c ls hX hP hS hl => ?_)
  have hl : lv_has ls 3 [(0, .ref (ad 1)), (1, .ref (ad a1))] := hl
  have hX0 := hX
  obtain ⟨hC, hml, hr, hlk⟩ := hX0
  have hx := hC.1
  have hb := hC.2.1
  unfold P_X2_readItem at hf
  refine lv_aload_n hx hb dX2_readItem_0 rfl (lv_at hl 0 rfl) ?_
  refine gf_X2_37 hC hP k_1 (v := .int (gI S 202 1)) rfl dX2_readItem_1 ?_
  refine lv_iconst (v := 1) hx hb dX2_readItem_4 (by decide) ?_
  refine lv_icmp_ne (tgt := 15) hx hb dX2_readItem_5 (by decide) (fun c15 => ?_) (fun c15 => ?_)
  · replace hf := ite_f c15 hf
    refine lv_iconst (v := 0) hx hb dX2_readItem_15 (by decide) ?_
    exact w_X2_readItem_L16 hX _ _ _ _ _ _ hf h_a1 hP hS (lv_sub hl [0, 1] rfl)
  · replace hf := ite_t c15 hf
    refine lv_aload_n hx hb dX2_readItem_8 rfl (lv_at hl 0 rfl) ?_
    refine gf_X2_50 hC hP k_1 (v := .int (gI S 204 1)) rfl dX2_readItem_9 ?_
    refine lv_goto (tgt := 16) hx hb dX2_readItem_12 (by decide) ?_
    exact w_X2_readItem_L16 hX _ _ _ _ _ _ hf h_a1 hP hS (lv_sub hl [0, 1] rfl)
def P_X2_readInto_L70 (N : Nat) (S : PSt) (a1 : Nat) (x2 : Int32) : Option (Int32 × PSt) := cal1 (P_X4_prepare N S a1) fun S1 => some (x2, S1)
set_option maxHeartbeats 4000000 in
set_option maxRecDepth 100000 in
theorem w_X2_readInto_L70 {N : Nat} {S' : PSt} {r : Int32} (hX : Mx p s m args c meth cX2_readInto RX2 4 (some .int) D cy ad tb) : ∀ (S : PSt) (a1 : Nat) (x2 : Int32) (H : Heap) (locs : List Loc) (ls : Array Slot), P_X2_readInto_L70 N S a1 x2 = some (r, S') → kd a1 = 4 → va_P D vwCl (pW cy ad S) H → va_S (pA ad s.heap.size) s.heap H locs → lv_has ls 4 [(1, .ref (ad a1)), (2, .int x2)] → W p l e (rmd 6) s m args below meth c H locs 0 0 (Qz D cy ad below args s S' (some (.int r))) (F0 m 70 ls []) := by
  have hX0 := hX
  obtain ⟨hC, hml, hr, hlk⟩ := hX0
  have hx := hC.1
  have hb := hC.2.1
  intro S a1 x2 H locs ls hf h_a1 hP hS hl
  unfold P_X2_readInto_L70 at hf
  refine lv_aload_n hx hb dX2_readInto_70 rfl (lv_at hl 0 rfl) ?_
  obtain ⟨S1, q2, hf⟩ := cal1_some hf
  refine pg_callV (As := []) (rest := []) (st1 := []) (ci := 4) hC hml hP hS (c_X4_prepare l hC.2.2.2.2.2.1 q2 h_a1) ⟨by decide, by decide, rfl, rfl⟩ ⟨rfl, rfl⟩ (by decide) rfl (by decide) h_a1 rfl rfl ⟨mk_X2_47, mi_X4_prepare⟩ hd_X4_prepare rfl hl.1 (Nat.le_of_ble_eq_true rfl) dX2_readInto_71 (fun H locs hP hS => ?_)
  refine lv_iload_n hx hb dX2_readInto_74 rfl (lv_at hl 1 rfl) ?_
  exact pg_iret hC hr hlk hP hS hf dX2_readInto_75
def P_X2_readInto_L27 (N : Nat) : Nat → PSt → Nat → Int32 → Int32 → Option (Int32 × PSt)
  | 0 => fun _ _ _ _ => none
  | n + 1 => fun S a1 x2 x3 => if (200 : Int32) ≤ x3 then (P_X2_readInto_L70 N S a1 x2) else (if (gI S 202 1) = (0 : Int32) then (P_X2_readInto_L70 N S a1 x2) else (cal2 (P_X2_readItem N S a1) fun r7 S5 => if r7 = (0 : Int32) then (some (((-10 : Int32) - (gI S5 203 1)), S5)) else (bnd (x2 + (1 : Int32)) fun v9 => cal1 (P_X2_nextToken N S5) fun S10 => bnd (x3 + (1 : Int32)) fun v12 => P_X2_readInto_L27 N n S10 a1 v9 v12)))
set_option maxHeartbeats 4000000 in
set_option maxRecDepth 100000 in
theorem w_X2_readInto_L27 {N : Nat} {S' : PSt} {r : Int32} (hX : Mx p s m args c meth cX2_readInto RX2 4 (some .int) D cy ad tb) : ∀ (n : Nat), ∀ (S : PSt) (a1 : Nat) (x2 : Int32) (x3 : Int32) (H : Heap) (locs : List Loc) (ls : Array Slot), P_X2_readInto_L27 N n S a1 x2 x3 = some (r, S') → kd a1 = 4 → va_P D vwCl (pW cy ad S) H → va_S (pA ad s.heap.size) s.heap H locs → lv_has ls 4 [(0, .ref (ad 1)), (1, .ref (ad a1)), (2, .int x2), (3, .int x3)] → W p l e (rmd 6) s m args below meth c H locs 0 0 (Qz D cy ad below args s S' (some (.int r))) (F0 m 27 ls []) := by
  have hX0 := hX
  obtain ⟨hC, hml, hr, hlk⟩ := hX0
  have hx := hC.1
  have hb := hC.2.1
  intro n
  induction n with
  | zero => intro S a1 x2 x3 H locs ls hf; exact absurd hf (by intro h; cases h)
  | succ n ih =>
    intro S a1 x2 x3 H locs ls hf h_a1 hP hS hl
    rw [P_X2_readInto_L27] at hf
    refine lv_iload_n hx hb dX2_readInto_27 rfl (lv_at hl 3 rfl) ?_
    refine lv_sipush (v := 200) hx hb dX2_readInto_28 (by decide) ?_
    refine lv_icmp_ge (tgt := 70) hx hb dX2_readInto_31 (by decide) (fun c3 => ?_) (fun c3 => ?_)
    · replace hf := ite_t c3 hf
      exact w_X2_readInto_L70 hX _ _ _ _ _ _ hf h_a1 hP hS (lv_sub hl [1, 2] rfl)
    · replace hf := ite_f c3 hf
      refine lv_aload_n hx hb dX2_readInto_34 rfl (lv_at hl 0 rfl) ?_
      refine gf_X2_37 hC hP k_1 (v := .int (gI S 202 1)) rfl dX2_readInto_35 ?_
      refine lv_if_eq (tgt := 70) hx hb dX2_readInto_38 (by decide) (fun c4 => ?_) (fun c4 => ?_)
      · replace hf := ite_t c4 hf
        exact w_X2_readInto_L70 hX _ _ _ _ _ _ hf h_a1 hP hS (lv_sub hl [1, 2] rfl)
      · replace hf := ite_f c4 hf
        refine lv_aload_n hx hb dX2_readInto_41 rfl (lv_at hl 0 rfl) ?_
        refine lv_aload_n hx hb dX2_readInto_42 rfl (lv_at hl 1 rfl) ?_
        obtain ⟨r7, S5, q6, hf⟩ := cal2_some hf
        refine pg_callV (As := [.ref (ad a1)]) (rest := []) (st1 := [.int r7]) (ci := 2) hC hml hP hS (c_X2_readItem l hC.2.2.2.2.2.1 q6 h_a1) ⟨by decide, by decide, rfl, rfl⟩ ⟨rfl, rfl⟩ (by decide) rfl (by decide) k_1 rfl rfl ⟨mk_X2_40, mi_X2_readItem⟩ hd_X2_readItem rfl hl.1 (Nat.le_of_ble_eq_true rfl) dX2_readInto_43 (fun H locs hP hS => ?_)
        refine lv_if_ne (tgt := 57) hx hb dX2_readInto_46 (by decide) (fun c8 => ?_) (fun c8 => ?_)
        · replace hf := ite_f c8 hf
          obtain ⟨v9, ev9, hf⟩ := bnd_some hf
          refine lv_iinc (v := v9) (lv' := [(2, .int v9), (0, .ref (ad 1)), (1, .ref (ad a1)), (3, .int x3)]) hx hb dX2_readInto_57 hl (k := 2) rfl (by rw [ev9]; rfl) (by decide) rfl (fun ls hl => ?_)
          refine lv_aload_n hx hb dX2_readInto_60 rfl (lv_at hl 1 rfl) ?_
          obtain ⟨S10, q11, hf⟩ := cal1_some hf
          refine pg_callV (As := []) (rest := []) (st1 := []) (ci := 2) hC hml hP hS (c_X2_nextToken l hC.2.2.2.2.2.1 q11) ⟨by decide, by decide, rfl, rfl⟩ ⟨rfl, rfl⟩ (by decide) rfl (by decide) k_1 rfl rfl ⟨mk_X2_34, mi_X2_nextToken⟩ hd_X2_nextToken rfl hl.1 (Nat.le_of_ble_eq_true rfl) dX2_readInto_61 (fun H locs hP hS => ?_)
          obtain ⟨v12, ev12, hf⟩ := bnd_some hf
          refine lv_iinc (v := v12) (lv' := [(3, .int v12), (2, .int v9), (0, .ref (ad 1)), (1, .ref (ad a1))]) hx hb dX2_readInto_64 hl (k := 3) rfl (by rw [ev12]; rfl) (by decide) rfl (fun ls hl => ?_)
          refine lv_goto (tgt := 27) hx hb dX2_readInto_67 (by decide) ?_
          exact ih _ _ _ _ _ _ _ hf h_a1 hP hS (lv_sub hl [2, 3, 1, 0] rfl)
        · replace hf := ite_t c8 hf
          refine lv_bipush (v := -10) hx hb dX2_readInto_49 (by decide) ?_
          refine lv_aload_n hx hb dX2_readInto_51 rfl (lv_at hl 0 rfl) ?_
          refine gf_X2_44 hC hP k_1 (v := .int (gI S5 203 1)) rfl dX2_readInto_52 ?_
          refine lv_isub hx hb dX2_readInto_55 ?_
          exact pg_iret hC hr hlk hP hS hf dX2_readInto_56
def P_X2_readInto (N : Nat) (S : PSt) (a1 : Nat) : Option (Int32 × PSt) := cal1 (P_X4_empty N S a1) fun S13 => bnd (sI S13 205 1 (0 : Int32)) fun S15 => bnd (sI S15 206 1 (0 : Int32)) fun S16 => bnd (sI S16 207 1 (0 : Int32)) fun S17 => cal1 (P_X2_nextToken N S17) fun S18 => P_X2_readInto_L27 N N S18 a1 (0 : Int32) (0 : Int32)
set_option maxHeartbeats 4000000 in
set_option maxRecDepth 100000 in
theorem c_X2_readInto (l : Launch) {D : va_G} {cy : Nat → ClassId} {ad tb : Nat → Nat} (hJ : pJ ad) {N : Nat} {S S' : PSt} {a1 : Nat} {r : Int32} (hf : P_X2_readInto N S a1 = some (r, S')) (h_a1 : kd a1 = 4) : Ct l 6 yX2_readInto cX2_readInto 4 (some .int) D cy ad tb S S' [.ref (ad 1), .ref (ad a1)] (some (.int r)) := by
  refine Ct_of hJ (by decide) (Nat.le_of_ble_eq_true rfl) (fun p e s m below meth c ls hX hP hS hl => ?_)
  have hl : lv_has ls 4 [(0, .ref (ad 1)), (1, .ref (ad a1))] := hl
  have hX0 := hX
  obtain ⟨hC, hml, hr, hlk⟩ := hX0
  have hx := hC.1
  have hb := hC.2.1
  unfold P_X2_readInto at hf
  refine lv_aload_n hx hb dX2_readInto_0 rfl (lv_at hl 1 rfl) ?_
  obtain ⟨S13, q14, hf⟩ := cal1_some hf
  refine pg_callV (As := []) (rest := []) (st1 := []) (ci := 4) hC hml hP hS (c_X4_empty l hC.2.2.2.2.2.1 q14 h_a1) ⟨by decide, by decide, rfl, rfl⟩ ⟨rfl, rfl⟩ (by decide) rfl (by decide) h_a1 rfl rfl ⟨mk_X2_18, mi_X4_empty⟩ hd_X4_empty rfl hl.1 (Nat.le_of_ble_eq_true rfl) dX2_readInto_1 (fun H locs hP hS => ?_)
  refine lv_aload_n hx hb dX2_readInto_4 rfl (lv_at hl 0 rfl) ?_
  refine lv_iconst (v := 0) hx hb dX2_readInto_5 (by decide) ?_
  obtain ⟨S15, eS15, hf⟩ := bnd_some hf
  refine pf_X2_23 hC hP hS k_1 eS15 dX2_readInto_6 (fun H locs hP hS => ?_)
  refine lv_aload_n hx hb dX2_readInto_9 rfl (lv_at hl 0 rfl) ?_
  refine lv_iconst (v := 0) hx hb dX2_readInto_10 (by decide) ?_
  obtain ⟨S16, eS16, hf⟩ := bnd_some hf
  refine pf_X2_27 hC hP hS k_1 (by decide) eS16 dX2_readInto_11 (fun H locs hP hS => ?_)
  refine lv_aload_n hx hb dX2_readInto_14 rfl (lv_at hl 0 rfl) ?_
  refine lv_iconst (v := 0) hx hb dX2_readInto_15 (by decide) ?_
  obtain ⟨S17, eS17, hf⟩ := bnd_some hf
  refine pf_X2_31 hC hP hS k_1 (by decide) eS17 dX2_readInto_16 (fun H locs hP hS => ?_)
  refine lv_iconst (v := 0) hx hb dX2_readInto_19 (by decide) ?_
  refine lv_istore_n (lv' := [(2, .int (0 : Int32)), (0, .ref (ad 1)), (1, .ref (ad a1))]) hx hb dX2_readInto_20 rfl hl (by decide) rfl (fun ls hl => ?_)
  refine lv_aload_n hx hb dX2_readInto_21 rfl (lv_at hl 1 rfl) ?_
  obtain ⟨S18, q19, hf⟩ := cal1_some hf
  refine pg_callV (As := []) (rest := []) (st1 := []) (ci := 2) hC hml hP hS (c_X2_nextToken l hC.2.2.2.2.2.1 q19) ⟨by decide, by decide, rfl, rfl⟩ ⟨rfl, rfl⟩ (by decide) rfl (by decide) k_1 rfl rfl ⟨mk_X2_34, mi_X2_nextToken⟩ hd_X2_nextToken rfl hl.1 (Nat.le_of_ble_eq_true rfl) dX2_readInto_22 (fun H locs hP hS => ?_)
  refine lv_iconst (v := 0) hx hb dX2_readInto_25 (by decide) ?_
  refine lv_istore_n (lv' := [(3, .int (0 : Int32)), (2, .int (0 : Int32)), (0, .ref (ad 1)), (1, .ref (ad a1))]) hx hb dX2_readInto_26 rfl hl (by decide) rfl (fun ls hl => ?_)
  exact w_X2_readInto_L27 hX _ _ _ _ _ _ _ _ hf h_a1 hP hS (lv_sub hl [2, 3, 1, 0] rfl)
end GEN
