section GEN
variable {p : Program} {l : Launch} {e : Env} {s : State} {m : MethodId} {args : Array Value} {below : List Frame} {meth : Method} {c : Code} {D : va_G} {cy : Nat → ClassId} {ad tb : Nat → Nat}
def P_X3_add (N : Nat) (S : PSt) (x1 : Int32) (x2 : Int32) : Option PSt := if (6 : Int32) ≤ (gI S 300 98) then (some S) else (gd (bin (gI S 300 98) (ln 101)) <| bnd (sA S 101 (gI S 300 98).toNatClampNeg x1) fun S3 => gd (bin (gI S3 300 98) (ln 102)) <| bnd (sA S3 102 (gI S3 300 98).toNatClampNeg x2) fun S5 => bnd (sI S5 300 98 ((gI S5 300 98) + (1 : Int32))) fun S6 => bnd (sI S6 301 98 (0 : Int32)) fun S7 => some S7)
set_option maxHeartbeats 4000000 in
set_option maxRecDepth 100000 in
theorem c_X3_add (l : Launch) {D : va_G} {cy : Nat → ClassId} {ad tb : Nat → Nat} (hJ : pJ ad) {N : Nat} {S S' : PSt} {x1 : Int32} {x2 : Int32} (hf : P_X3_add N S x1 x2 = some S') : Ct l 1 yX3_add cX3_add 3 none D cy ad tb S S' [.ref (ad 98), .int x1, .int x2] none := by
  refine Ct_of hJ (by decide) (Nat.le_of_ble_eq_true rfl) (fun p e s m below meth c ls hX hP hS hl => ?_)
  have hl : lv_has ls 3 [(0, .ref (ad 98)), (1, .int x1), (2, .int x2)] := hl
  have hX0 := hX
  obtain ⟨hC, hml, hr, hlk⟩ := hX0
  have hx := hC.1
  have hb := hC.2.1
  unfold P_X3_add at hf
  refine lv_aload_n hx hb dX3_add_0 rfl (lv_at hl 0 rfl) ?_
  refine gf_X3_37 hC hP k_98 (v := .int (gI S 300 98)) rfl dX3_add_1 ?_
  refine lv_bipush (v := 6) hx hb dX3_add_4 (by decide) ?_
  refine lv_icmp_ge (tgt := 44) hx hb dX3_add_6 (by decide) (fun c1 => ?_) (fun c1 => ?_)
  · replace hf := ite_t c1 hf
    exact pg_vret hC hr hlk hP hS hf dX3_add_44
  · replace hf := ite_f c1 hf
    refine lv_aload_n hx hb dX3_add_9 rfl (lv_at hl 0 rfl) ?_
    refine gf_X3_18 hC hP k_98 (v := .ref (ad 101)) rfl dX3_add_10 ?_
    refine lv_aload_n hx hb dX3_add_13 rfl (lv_at hl 0 rfl) ?_
    refine gf_X3_37 hC hP k_98 (v := .int (gI S 300 98)) rfl dX3_add_14 ?_
    refine lv_iload_n hx hb dX3_add_17 rfl (lv_at hl 1 rfl) ?_
    obtain ⟨h2, hf⟩ := gd_some hf
    obtain ⟨S3, eS3, hf⟩ := bnd_some hf
    refine pg_iast hC hP hS k_101 (bin_in h2) dX3_add_18 (fun H locs hP hS => ?_)
    rw [← eS3] at hP
    refine lv_aload_n hx hb dX3_add_19 rfl (lv_at hl 0 rfl) ?_
    refine gf_X3_21 hC hP k_98 (v := .ref (ad 102)) rfl dX3_add_20 ?_
    refine lv_aload_n hx hb dX3_add_23 rfl (lv_at hl 0 rfl) ?_
    refine gf_X3_37 hC hP k_98 (v := .int (gI S3 300 98)) rfl dX3_add_24 ?_
    refine lv_iload_n hx hb dX3_add_27 rfl (lv_at hl 2 rfl) ?_
    obtain ⟨h4, hf⟩ := gd_some hf
    obtain ⟨S5, eS5, hf⟩ := bnd_some hf
    refine pg_iast hC hP hS k_102 (bin_in h4) dX3_add_28 (fun H locs hP hS => ?_)
    rw [← eS5] at hP
    refine lv_aload_n hx hb dX3_add_29 rfl (lv_at hl 0 rfl) ?_
    refine lv_dup hx hb dX3_add_30 rfl ?_
    refine gf_X3_37 hC hP k_98 (v := .int (gI S5 300 98)) rfl dX3_add_31 ?_
    refine lv_iconst (v := 1) hx hb dX3_add_34 (by decide) ?_
    refine lv_iadd hx hb dX3_add_35 ?_
    obtain ⟨S6, eS6, hf⟩ := bnd_some hf
    refine pf_X3_37 hC hP hS k_98 eS6 dX3_add_36 (fun H locs hP hS => ?_)
    refine lv_aload_n hx hb dX3_add_39 rfl (lv_at hl 0 rfl) ?_
    refine lv_iconst (v := 0) hx hb dX3_add_40 (by decide) ?_
    obtain ⟨S7, eS7, hf⟩ := bnd_some hf
    refine pf_X3_41 hC hP hS k_98 (by decide) eS7 dX3_add_41 (fun H locs hP hS => ?_)
    exact pg_vret hC hr hlk hP hS hf dX3_add_44
def P_X3_gatherDue_L72 (k29 : PSt → Int32 → Option (Int32 × PSt)) (N : Nat) (S : PSt) (x1 : Int32) (x2 : Int32) : Option (Int32 × PSt) := gd (bin x1 (ln 102)) <| gd (bin x2 (ln 103)) <| bnd (sA S 103 x2.toNatClampNeg (gA S 102 x1.toNatClampNeg)) fun S3 => bnd (sI S3 308 98 (if (gI S3 308 98) < x2 then x2 else (gI S3 308 98))) fun S4 => bnd (x1 + (1 : Int32)) fun v5 => k29 S4 v5
set_option maxHeartbeats 4000000 in
set_option maxRecDepth 100000 in
theorem w_X3_gatherDue_L72 {N : Nat} {S' : PSt} {r : Int32} (hX : Mx p s m args c meth cX3_gatherDue RX3 3 (some .boolean) D cy ad tb) {k29 : PSt → Int32 → Option (Int32 × PSt)} (hk29 : ∀ (S : PSt) (x1 : Int32) (H : Heap) (locs : List Loc) (ls : Array Slot), k29 S x1 = some (r, S') → va_P D vwCl (pW cy ad S) H → va_S (pA ad s.heap.size) s.heap H locs → lv_has ls 3 [(0, .ref (ad 98)), (1, .int x1)] → W p l e (rmd 1) s m args below meth c H locs 0 0 (Qz D cy ad below args s S' (some (.int r))) (F0 m 29 ls [])) : ∀ (S : PSt) (x1 : Int32) (x2 : Int32) (H : Heap) (locs : List Loc) (ls : Array Slot), P_X3_gatherDue_L72 k29 N S x1 x2 = some (r, S') → va_P D vwCl (pW cy ad S) H → va_S (pA ad s.heap.size) s.heap H locs → lv_has ls 3 [(0, .ref (ad 98)), (1, .int x1), (2, .int x2)] → W p l e (rmd 1) s m args below meth c H locs 0 0 (Qz D cy ad below args s S' (some (.int r))) (F0 m 72 ls []) := by
  have hX0 := hX
  obtain ⟨hC, hml, hr, hlk⟩ := hX0
  have hx := hC.1
  have hb := hC.2.1
  intro S x1 x2 H locs ls hf  hP hS hl
  unfold P_X3_gatherDue_L72 at hf
  refine lv_aload_n hx hb dX3_gatherDue_72 rfl (lv_at hl 0 rfl) ?_
  refine gf_X3_24 hC hP k_98 (v := .ref (ad 103)) rfl dX3_gatherDue_73 ?_
  refine lv_iload_n hx hb dX3_gatherDue_76 rfl (lv_at hl 2 rfl) ?_
  refine lv_aload_n hx hb dX3_gatherDue_77 rfl (lv_at hl 0 rfl) ?_
  refine gf_X3_21 hC hP k_98 (v := .ref (ad 102)) rfl dX3_gatherDue_78 ?_
  refine lv_iload_n hx hb dX3_gatherDue_81 rfl (lv_at hl 1 rfl) ?_
  obtain ⟨h1, hf⟩ := gd_some hf
  refine pg_iald hC hP k_102 (bin_in h1) dX3_gatherDue_82 ?_
  obtain ⟨h2, hf⟩ := gd_some hf
  obtain ⟨S3, eS3, hf⟩ := bnd_some hf
  refine pg_iast hC hP hS k_103 (bin_in h2) dX3_gatherDue_83 (fun H locs hP hS => ?_)
  rw [← eS3] at hP
  refine lv_aload_n hx hb dX3_gatherDue_84 rfl (lv_at hl 0 rfl) ?_
  refine lv_aload_n hx hb dX3_gatherDue_85 rfl (lv_at hl 0 rfl) ?_
  refine gf_X3_59 hC hP k_98 (v := .int (gI S3 308 98)) rfl dX3_gatherDue_86 ?_
  refine lv_iload_n hx hb dX3_gatherDue_89 rfl (lv_at hl 2 rfl) ?_
  refine pg_max hC (hml.trans hl.1.symm) ⟨by decide, by decide, rfl, rfl⟩ ⟨rfl, rfl⟩ kl_X3_62 (Nat.le_of_ble_eq_true rfl) dX3_gatherDue_90 ?_
  obtain ⟨S4, eS4, hf⟩ := bnd_some hf
  refine pf_X3_59 hC hP hS k_98 eS4 dX3_gatherDue_93 (fun H locs hP hS => ?_)
  obtain ⟨v5, ev5, hf⟩ := bnd_some hf
  refine lv_iinc (v := v5) (lv' := [(1, .int v5), (0, .ref (ad 98)), (2, .int x2)]) hx hb dX3_gatherDue_96 hl (k := 1) rfl (by rw [ev5]; rfl) (by decide) rfl (fun ls hl => ?_)
  refine lv_goto (tgt := 29) hx hb dX3_gatherDue_99 (by decide) ?_
  exact hk29 _ _ _ _ _ hf  hP hS (lv_sub hl [1, 0] rfl)
def P_X3_gatherDue_L29 (N : Nat) : Nat → PSt → Int32 → Option (Int32 × PSt)
  | 0 => fun _ _ => none
  | n + 1 => fun S x1 => if (gI S 300 98) ≤ x1 then (some ((1 : Int32), S)) else (gd (bin x1 (ln 101)) <| bnd (gA S 101 x1.toNatClampNeg) fun v8 => gd (bin v8 (ln 103)) <| if (gA S 103 v8.toNatClampNeg) = (-9 : Int32) then (P_X3_gatherDue_L72 (P_X3_gatherDue_L29 N n) N S x1 v8) else (gd (bin v8 (ln 103)) <| gd (bin x1 (ln 102)) <| if (gA S 103 v8.toNatClampNeg) = (gA S 102 x1.toNatClampNeg) then (P_X3_gatherDue_L72 (P_X3_gatherDue_L29 N n) N S x1 v8) else (some ((0 : Int32), S))))
set_option maxHeartbeats 4000000 in
set_option maxRecDepth 100000 in
theorem w_X3_gatherDue_L29 {N : Nat} {S' : PSt} {r : Int32} (hX : Mx p s m args c meth cX3_gatherDue RX3 3 (some .boolean) D cy ad tb) : ∀ (n : Nat), ∀ (S : PSt) (x1 : Int32) (H : Heap) (locs : List Loc) (ls : Array Slot), P_X3_gatherDue_L29 N n S x1 = some (r, S') → va_P D vwCl (pW cy ad S) H → va_S (pA ad s.heap.size) s.heap H locs → lv_has ls 3 [(0, .ref (ad 98)), (1, .int x1)] → W p l e (rmd 1) s m args below meth c H locs 0 0 (Qz D cy ad below args s S' (some (.int r))) (F0 m 29 ls []) := by
  have hX0 := hX
  obtain ⟨hC, hml, hr, hlk⟩ := hX0
  have hx := hC.1
  have hb := hC.2.1
  intro n
  induction n with
  | zero => intro S x1 H locs ls hf; exact absurd hf (by intro h; cases h)
  | succ n ih =>
    intro S x1 H locs ls hf  hP hS hl
    rw [P_X3_gatherDue_L29] at hf
    refine lv_iload_n hx hb dX3_gatherDue_29 rfl (lv_at hl 1 rfl) ?_
    refine lv_aload_n hx hb dX3_gatherDue_30 rfl (lv_at hl 0 rfl) ?_
    refine gf_X3_37 hC hP k_98 (v := .int (gI S 300 98)) rfl dX3_gatherDue_31 ?_
    refine lv_icmp_ge (tgt := 102) hx hb dX3_gatherDue_34 (by decide) (fun c6 => ?_) (fun c6 => ?_)
    · replace hf := ite_t c6 hf
      refine lv_iconst (v := 1) hx hb dX3_gatherDue_102 (by decide) ?_
      exact pg_zret hC hr hlk hP hS (by decide) hf dX3_gatherDue_103
    · replace hf := ite_f c6 hf
      refine lv_aload_n hx hb dX3_gatherDue_37 rfl (lv_at hl 0 rfl) ?_
      refine gf_X3_18 hC hP k_98 (v := .ref (ad 101)) rfl dX3_gatherDue_38 ?_
      refine lv_iload_n hx hb dX3_gatherDue_41 rfl (lv_at hl 1 rfl) ?_
      obtain ⟨h7, hf⟩ := gd_some hf
      refine pg_iald hC hP k_101 (bin_in h7) dX3_gatherDue_42 ?_
      obtain ⟨v8, ev8, hf⟩ := bnd_some hf
      refine pg_top ev8 ?_
      refine lv_istore_n (lv' := [(2, .int v8), (0, .ref (ad 98)), (1, .int x1)]) hx hb dX3_gatherDue_43 rfl hl (by decide) rfl (fun ls hl => ?_)
      refine lv_aload_n hx hb dX3_gatherDue_44 rfl (lv_at hl 1 rfl) ?_
      refine gf_X3_24 hC hP k_98 (v := .ref (ad 103)) rfl dX3_gatherDue_45 ?_
      refine lv_iload_n hx hb dX3_gatherDue_48 rfl (lv_at hl 0 rfl) ?_
      obtain ⟨h9, hf⟩ := gd_some hf
      refine pg_iald hC hP k_103 (bin_in h9) dX3_gatherDue_49 ?_
      refine lv_bipush (v := -9) hx hb dX3_gatherDue_50 (by decide) ?_
      refine lv_icmp_eq (tgt := 72) hx hb dX3_gatherDue_52 (by decide) (fun c10 => ?_) (fun c10 => ?_)
      · replace hf := ite_t c10 hf
        exact w_X3_gatherDue_L72 hX ih _ _ _ _ _ _ hf  hP hS (lv_sub hl [1, 2, 0] rfl)
      · replace hf := ite_f c10 hf
        refine lv_aload_n hx hb dX3_gatherDue_55 rfl (lv_at hl 1 rfl) ?_
        refine gf_X3_24 hC hP k_98 (v := .ref (ad 103)) rfl dX3_gatherDue_56 ?_
        refine lv_iload_n hx hb dX3_gatherDue_59 rfl (lv_at hl 0 rfl) ?_
        obtain ⟨h11, hf⟩ := gd_some hf
        refine pg_iald hC hP k_103 (bin_in h11) dX3_gatherDue_60 ?_
        refine lv_aload_n hx hb dX3_gatherDue_61 rfl (lv_at hl 1 rfl) ?_
        refine gf_X3_21 hC hP k_98 (v := .ref (ad 102)) rfl dX3_gatherDue_62 ?_
        refine lv_iload_n hx hb dX3_gatherDue_65 rfl (lv_at hl 2 rfl) ?_
        obtain ⟨h12, hf⟩ := gd_some hf
        refine pg_iald hC hP k_102 (bin_in h12) dX3_gatherDue_66 ?_
        refine lv_icmp_eq (tgt := 72) hx hb dX3_gatherDue_67 (by decide) (fun c13 => ?_) (fun c13 => ?_)
        · replace hf := ite_t c13 hf
          exact w_X3_gatherDue_L72 hX ih _ _ _ _ _ _ hf  hP hS (lv_sub hl [1, 2, 0] rfl)
        · replace hf := ite_f c13 hf
          refine lv_iconst (v := 0) hx hb dX3_gatherDue_70 (by decide) ?_
          exact pg_zret hC hr hlk hP hS (by decide) hf dX3_gatherDue_71
def P_X3_gatherDue_L7 (N : Nat) : Nat → PSt → Int32 → Option (Int32 × PSt)
  | 0 => fun _ _ => none
  | n + 1 => fun S x1 => if (6 : Int32) ≤ x1 then (P_X3_gatherDue_L29 N N S (0 : Int32)) else (gd (bin x1 (ln 103)) <| bnd (sA S 103 x1.toNatClampNeg (-9 : Int32)) fun S16 => bnd (x1 + (1 : Int32)) fun v17 => P_X3_gatherDue_L7 N n S16 v17)
set_option maxHeartbeats 4000000 in
set_option maxRecDepth 100000 in
theorem w_X3_gatherDue_L7 {N : Nat} {S' : PSt} {r : Int32} (hX : Mx p s m args c meth cX3_gatherDue RX3 3 (some .boolean) D cy ad tb) : ∀ (n : Nat), ∀ (S : PSt) (x1 : Int32) (H : Heap) (locs : List Loc) (ls : Array Slot), P_X3_gatherDue_L7 N n S x1 = some (r, S') → va_P D vwCl (pW cy ad S) H → va_S (pA ad s.heap.size) s.heap H locs → lv_has ls 3 [(0, .ref (ad 98)), (1, .int x1)] → W p l e (rmd 1) s m args below meth c H locs 0 0 (Qz D cy ad below args s S' (some (.int r))) (F0 m 7 ls []) := by
  have hX0 := hX
  obtain ⟨hC, hml, hr, hlk⟩ := hX0
  have hx := hC.1
  have hb := hC.2.1
  intro n
  induction n with
  | zero => intro S x1 H locs ls hf; exact absurd hf (by intro h; cases h)
  | succ n ih =>
    intro S x1 H locs ls hf  hP hS hl
    rw [P_X3_gatherDue_L7] at hf
    refine lv_iload_n hx hb dX3_gatherDue_7 rfl (lv_at hl 1 rfl) ?_
    refine lv_bipush (v := 6) hx hb dX3_gatherDue_8 (by decide) ?_
    refine lv_icmp_ge (tgt := 27) hx hb dX3_gatherDue_10 (by decide) (fun c14 => ?_) (fun c14 => ?_)
    · replace hf := ite_t c14 hf
      refine lv_iconst (v := 0) hx hb dX3_gatherDue_27 (by decide) ?_
      refine lv_istore_n (lv' := [(1, .int (0 : Int32)), (0, .ref (ad 98))]) hx hb dX3_gatherDue_28 rfl hl (by decide) rfl (fun ls hl => ?_)
      exact w_X3_gatherDue_L29 hX _ _ _ _ _ _ hf  hP hS (lv_sub hl [1, 0] rfl)
    · replace hf := ite_f c14 hf
      refine lv_aload_n hx hb dX3_gatherDue_13 rfl (lv_at hl 0 rfl) ?_
      refine gf_X3_24 hC hP k_98 (v := .ref (ad 103)) rfl dX3_gatherDue_14 ?_
      refine lv_iload_n hx hb dX3_gatherDue_17 rfl (lv_at hl 1 rfl) ?_
      refine lv_bipush (v := -9) hx hb dX3_gatherDue_18 (by decide) ?_
      obtain ⟨h15, hf⟩ := gd_some hf
      obtain ⟨S16, eS16, hf⟩ := bnd_some hf
      refine pg_iast hC hP hS k_103 (bin_in h15) dX3_gatherDue_20 (fun H locs hP hS => ?_)
      rw [← eS16] at hP
      obtain ⟨v17, ev17, hf⟩ := bnd_some hf
      refine lv_iinc (v := v17) (lv' := [(1, .int v17), (0, .ref (ad 98))]) hx hb dX3_gatherDue_21 hl (k := 1) rfl (by rw [ev17]; rfl) (by decide) rfl (fun ls hl => ?_)
      refine lv_goto (tgt := 7) hx hb dX3_gatherDue_24 (by decide) ?_
      exact ih _ _ _ _ _ hf  hP hS (lv_sub hl [1, 0] rfl)
def P_X3_gatherDue (N : Nat) (S : PSt) : Option (Int32 × PSt) := bnd (sI S 308 98 (-1 : Int32)) fun S18 => P_X3_gatherDue_L7 N N S18 (0 : Int32)
set_option maxHeartbeats 4000000 in
set_option maxRecDepth 100000 in
theorem c_X3_gatherDue (l : Launch) {D : va_G} {cy : Nat → ClassId} {ad tb : Nat → Nat} (hJ : pJ ad) {N : Nat} {S S' : PSt} {r : Int32} (hf : P_X3_gatherDue N S = some (r, S')) : Ct l 1 yX3_gatherDue cX3_gatherDue 3 (some .boolean) D cy ad tb S S' [.ref (ad 98)] (some (.int r)) := by
  refine Ct_of hJ (by decide) (Nat.le_of_ble_eq_true rfl) (fun p e s m below meth c ls hX hP hS hl => ?_)
  have hl : lv_has ls 3 [(0, .ref (ad 98))] := hl
  have hX0 := hX
  obtain ⟨hC, hml, hr, hlk⟩ := hX0
  have hx := hC.1
  have hb := hC.2.1
  unfold P_X3_gatherDue at hf
  refine lv_aload_n hx hb dX3_gatherDue_0 rfl (lv_at hl 0 rfl) ?_
  refine lv_iconst (v := -1) hx hb dX3_gatherDue_1 (by decide) ?_
  obtain ⟨S18, eS18, hf⟩ := bnd_some hf
  refine pf_X3_59 hC hP hS k_98 eS18 dX3_gatherDue_2 (fun H locs hP hS => ?_)
  refine lv_iconst (v := 0) hx hb dX3_gatherDue_5 (by decide) ?_
  refine lv_istore_n (lv' := [(1, .int (0 : Int32)), (0, .ref (ad 98))]) hx hb dX3_gatherDue_6 rfl hl (by decide) rfl (fun ls hl => ?_)
  exact w_X3_gatherDue_L7 hX _ _ _ _ _ _ hf  hP hS (lv_sub hl [1, 0] rfl)
def P_X3_bitsOf (N : Nat) (S : PSt) (x0 : Int32) : Option (Int32 × PSt) := some ((((1 : Int32) <<< ((x0 / (10 : Int32)) &&& 31)) ||| ((1 : Int32) <<< ((x0 - x0 / (10 : Int32) * (10 : Int32)) &&& 31))), S)
set_option maxHeartbeats 4000000 in
set_option maxRecDepth 100000 in
theorem c_X3_bitsOf (l : Launch) {D : va_G} {cy : Nat → ClassId} {ad tb : Nat → Nat} (hJ : pJ ad) {N : Nat} {S S' : PSt} {x0 : Int32} {r : Int32} (hf : P_X3_bitsOf N S x0 = some (r, S')) : Ct l 1 yX3_bitsOf cX3_bitsOf 1 (some .int) D cy ad tb S S' [.int x0] (some (.int r)) := by
  refine Ct_of hJ (by decide) (Nat.le_of_ble_eq_true rfl) (fun p e s m below meth c ls hX hP hS hl => ?_)
  have hl : lv_has ls 1 [(0, .int x0)] := hl
  have hX0 := hX
  obtain ⟨hC, hml, hr, hlk⟩ := hX0
  have hx := hC.1
  have hb := hC.2.1
  unfold P_X3_bitsOf at hf
  refine lv_iconst (v := 1) hx hb dX3_bitsOf_0 (by decide) ?_
  refine lv_iload_n hx hb dX3_bitsOf_1 rfl (lv_at hl 0 rfl) ?_
  refine lv_bipush (v := 10) hx hb dX3_bitsOf_2 (by decide) ?_
  refine lv_idiv hx hb dX3_bitsOf_4 (by decide) ?_
  refine lv_ishl hx hb dX3_bitsOf_5 ?_
  refine lv_iconst (v := 1) hx hb dX3_bitsOf_6 (by decide) ?_
  refine lv_iload_n hx hb dX3_bitsOf_7 rfl (lv_at hl 0 rfl) ?_
  refine lv_bipush (v := 10) hx hb dX3_bitsOf_8 (by decide) ?_
  refine lv_irem hx hb dX3_bitsOf_10 (by decide) ?_
  refine lv_ishl hx hb dX3_bitsOf_11 ?_
  refine lv_ior hx hb dX3_bitsOf_12 ?_
  exact pg_iret hC hr hlk hP hS hf dX3_bitsOf_13
def P_X6_power_L4 (N : Nat) : Nat → PSt → Int32 → Int32 → Int32 → Int32 → Option (Int32 × PSt)
  | 0 => fun _ _ _ _ _ => none
  | n + 1 => fun S x0 x1 x2 x3 => if x1 ≤ x3 then (some (x2, S)) else (bnd (x2 * x0) fun v2 => bnd (x3 + (1 : Int32)) fun v3 => P_X6_power_L4 N n S x0 x1 v2 v3)
set_option maxHeartbeats 4000000 in
set_option maxRecDepth 100000 in
theorem w_X6_power_L4 {N : Nat} {S' : PSt} {r : Int32} (hX : Mx p s m args c meth cX6_power RX6 4 (some .int) D cy ad tb) : ∀ (n : Nat), ∀ (S : PSt) (x0 : Int32) (x1 : Int32) (x2 : Int32) (x3 : Int32) (H : Heap) (locs : List Loc) (ls : Array Slot), P_X6_power_L4 N n S x0 x1 x2 x3 = some (r, S') → va_P D vwCl (pW cy ad S) H → va_S (pA ad s.heap.size) s.heap H locs → lv_has ls 4 [(0, .int x0), (1, .int x1), (2, .int x2), (3, .int x3)] → W p l e (rmd 1) s m args below meth c H locs 0 0 (Qz D cy ad below args s S' (some (.int r))) (F0 m 4 ls []) := by
  have hX0 := hX
  obtain ⟨hC, hml, hr, hlk⟩ := hX0
  have hx := hC.1
  have hb := hC.2.1
  intro n
  induction n with
  | zero => intro S x0 x1 x2 x3 H locs ls hf; exact absurd hf (by intro h; cases h)
  | succ n ih =>
    intro S x0 x1 x2 x3 H locs ls hf  hP hS hl
    rw [P_X6_power_L4] at hf
    refine lv_iload_n hx hb dX6_power_4 rfl (lv_at hl 3 rfl) ?_
    refine lv_iload_n hx hb dX6_power_5 rfl (lv_at hl 1 rfl) ?_
    refine lv_icmp_ge (tgt := 19) hx hb dX6_power_6 (by decide) (fun c1 => ?_) (fun c1 => ?_)
    · replace hf := ite_t c1 hf
      refine lv_iload_n hx hb dX6_power_19 rfl (lv_at hl 2 rfl) ?_
      exact pg_iret hC hr hlk hP hS hf dX6_power_20
    · replace hf := ite_f c1 hf
      refine lv_iload_n hx hb dX6_power_9 rfl (lv_at hl 2 rfl) ?_
      refine lv_iload_n hx hb dX6_power_10 rfl (lv_at hl 0 rfl) ?_
      refine lv_imul hx hb dX6_power_11 ?_
      obtain ⟨v2, ev2, hf⟩ := bnd_some hf
      refine pg_top ev2 ?_
      refine lv_istore_n (lv' := [(2, .int v2), (0, .int x0), (1, .int x1), (3, .int x3)]) hx hb dX6_power_12 rfl hl (by decide) rfl (fun ls hl => ?_)
      obtain ⟨v3, ev3, hf⟩ := bnd_some hf
      refine lv_iinc (v := v3) (lv' := [(3, .int v3), (2, .int v2), (0, .int x0), (1, .int x1)]) hx hb dX6_power_13 hl (k := 3) rfl (by rw [ev3]; rfl) (by decide) rfl (fun ls hl => ?_)
      refine lv_goto (tgt := 4) hx hb dX6_power_16 (by decide) ?_
      exact ih _ _ _ _ _ _ _ _ hf  hP hS (lv_sub hl [2, 3, 1, 0] rfl)
def P_X6_power (N : Nat) (S : PSt) (x0 : Int32) (x1 : Int32) : Option (Int32 × PSt) := P_X6_power_L4 N N S x0 x1 (1 : Int32) (0 : Int32)
set_option maxHeartbeats 4000000 in
set_option maxRecDepth 100000 in
theorem c_X6_power (l : Launch) {D : va_G} {cy : Nat → ClassId} {ad tb : Nat → Nat} (hJ : pJ ad) {N : Nat} {S S' : PSt} {x0 : Int32} {x1 : Int32} {r : Int32} (hf : P_X6_power N S x0 x1 = some (r, S')) : Ct l 1 yX6_power cX6_power 4 (some .int) D cy ad tb S S' [.int x0, .int x1] (some (.int r)) := by
  refine Ct_of hJ (by decide) (Nat.le_of_ble_eq_true rfl) (fun p e s m below meth c ls hX hP hS hl => ?_)
  have hl : lv_has ls 4 [(0, .int x0), (1, .int x1)] := hl
  have hX0 := hX
  obtain ⟨hC, hml, hr, hlk⟩ := hX0
  have hx := hC.1
  have hb := hC.2.1
  unfold P_X6_power at hf
  refine lv_iconst (v := 1) hx hb dX6_power_0 (by decide) ?_
  refine lv_istore_n (lv' := [(2, .int (1 : Int32)), (0, .int x0), (1, .int x1)]) hx hb dX6_power_1 rfl hl (by decide) rfl (fun ls hl => ?_)
  refine lv_iconst (v := 0) hx hb dX6_power_2 (by decide) ?_
  refine lv_istore_n (lv' := [(3, .int (0 : Int32)), (2, .int (1 : Int32)), (0, .int x0), (1, .int x1)]) hx hb dX6_power_3 rfl hl (by decide) rfl (fun ls hl => ?_)
  exact w_X6_power_L4 hX _ _ _ _ _ _ _ _ _ hf  hP hS (lv_sub hl [2, 3, 1, 0] rfl)
def P_X3_addRows_L119 (k53 : PSt → Nat → Int32 → Int32 → Int32 → Option PSt) (N : Nat) (S : PSt) (a1 : Nat) (x2 : Int32) (x3 : Int32) (x4 : Int32) (y1 : Int32) (y2 : Int32) (y3 : Int32) : Option PSt := gd (bin y1 (ln 100)) <| bnd (sA S 100 y1.toNatClampNeg (y2 &&& y3)) fun S2 => bnd (x4 + (1 : Int32)) fun v3 => k53 S2 a1 x2 x3 v3
set_option maxHeartbeats 4000000 in
set_option maxRecDepth 100000 in
theorem w_X3_addRows_L119 {N : Nat} {S' : PSt} (hX : Mx p s m args c meth cX3_addRows RX3 5 none D cy ad tb) {k53 : PSt → Nat → Int32 → Int32 → Int32 → Option PSt} (hk53 : ∀ (S : PSt) (a1 : Nat) (x2 : Int32) (x3 : Int32) (x4 : Int32) (H : Heap) (locs : List Loc) (ls : Array Slot), k53 S a1 x2 x3 x4 = some S' → kd a1 = 4 → va_P D vwCl (pW cy ad S) H → va_S (pA ad s.heap.size) s.heap H locs → lv_has ls 5 [(0, .ref (ad 98)), (1, .ref (ad a1)), (2, .int x2), (3, .int x3), (4, .int x4)] → W p l e (rmd 2) s m args below meth c H locs 0 0 (Qz D cy ad below args s S' none) (F0 m 53 ls [])) : ∀ (S : PSt) (a1 : Nat) (x2 : Int32) (x3 : Int32) (x4 : Int32) (y1 : Int32) (y2 : Int32) (y3 : Int32) (H : Heap) (locs : List Loc) (ls : Array Slot), P_X3_addRows_L119 k53 N S a1 x2 x3 x4 y1 y2 y3 = some S' → kd a1 = 4 → va_P D vwCl (pW cy ad S) H → va_S (pA ad s.heap.size) s.heap H locs → lv_has ls 5 [(0, .ref (ad 98)), (1, .ref (ad a1)), (2, .int x2), (3, .int x3), (4, .int x4)] → W p l e (rmd 2) s m args below meth c H locs 0 0 (Qz D cy ad below args s S' none) (F0 m 119 ls [.int y3, .int y2, .int y1, .ref (ad 100)]) := by
  have hX0 := hX
  obtain ⟨hC, hml, hr, hlk⟩ := hX0
  have hx := hC.1
  have hb := hC.2.1
  intro S a1 x2 x3 x4 y1 y2 y3 H locs ls hf h_a1 hP hS hl
  unfold P_X3_addRows_L119 at hf
  refine lv_iand hx hb dX3_addRows_119 ?_
  obtain ⟨h1, hf⟩ := gd_some hf
  obtain ⟨S2, eS2, hf⟩ := bnd_some hf
  refine pg_iast hC hP hS k_100 (bin_in h1) dX3_addRows_120 (fun H locs hP hS => ?_)
  rw [← eS2] at hP
  obtain ⟨v3, ev3, hf⟩ := bnd_some hf
  refine lv_iinc (v := v3) (lv' := [(4, .int v3), (0, .ref (ad 98)), (1, .ref (ad a1)), (2, .int x2), (3, .int x3)]) hx hb dX3_addRows_121 hl (k := 4) rfl (by rw [ev3]; rfl) (by decide) rfl (fun ls hl => ?_)
  refine lv_goto (tgt := 53) hx hb dX3_addRows_124 (by decide) ?_
  exact hk53 _ _ _ _ _ _ _ _ hf h_a1 hP hS (lv_sub hl [1, 2, 3, 4, 0] rfl)
def P_X3_addRows_L109 (k53 : PSt → Nat → Int32 → Int32 → Int32 → Option PSt) (N : Nat) (S : PSt) (a1 : Nat) (x2 : Int32) (x3 : Int32) (x4 : Int32) (y1 : Int32) (y2 : Int32) : Option PSt := gd (bin x4 (ln 104)) <| cal2 (P_X3_bitsOf N S (gA S 104 x4.toNatClampNeg)) fun r7 S5 => P_X3_addRows_L119 k53 N S5 a1 x2 x3 x4 y1 y2 r7
set_option maxHeartbeats 4000000 in
set_option maxRecDepth 100000 in
theorem w_X3_addRows_L109 {N : Nat} {S' : PSt} (hX : Mx p s m args c meth cX3_addRows RX3 5 none D cy ad tb) {k53 : PSt → Nat → Int32 → Int32 → Int32 → Option PSt} (hk53 : ∀ (S : PSt) (a1 : Nat) (x2 : Int32) (x3 : Int32) (x4 : Int32) (H : Heap) (locs : List Loc) (ls : Array Slot), k53 S a1 x2 x3 x4 = some S' → kd a1 = 4 → va_P D vwCl (pW cy ad S) H → va_S (pA ad s.heap.size) s.heap H locs → lv_has ls 5 [(0, .ref (ad 98)), (1, .ref (ad a1)), (2, .int x2), (3, .int x3), (4, .int x4)] → W p l e (rmd 2) s m args below meth c H locs 0 0 (Qz D cy ad below args s S' none) (F0 m 53 ls [])) : ∀ (S : PSt) (a1 : Nat) (x2 : Int32) (x3 : Int32) (x4 : Int32) (y1 : Int32) (y2 : Int32) (H : Heap) (locs : List Loc) (ls : Array Slot), P_X3_addRows_L109 k53 N S a1 x2 x3 x4 y1 y2 = some S' → kd a1 = 4 → va_P D vwCl (pW cy ad S) H → va_S (pA ad s.heap.size) s.heap H locs → lv_has ls 5 [(0, .ref (ad 98)), (1, .ref (ad a1)), (2, .int x2), (3, .int x3), (4, .int x4)] → W p l e (rmd 2) s m args below meth c H locs 0 0 (Qz D cy ad below args s S' none) (F0 m 109 ls [.int y2, .int y1, .ref (ad 100)]) := by
  have hX0 := hX
  obtain ⟨hC, hml, hr, hlk⟩ := hX0
  have hx := hC.1
  have hb := hC.2.1
  intro S a1 x2 x3 x4 y1 y2 H locs ls hf h_a1 hP hS hl
  unfold P_X3_addRows_L109 at hf
  refine lv_aload_n hx hb dX3_addRows_109 rfl (lv_at hl 0 rfl) ?_
  refine gf_X3_27 hC hP k_98 (v := .ref (ad 104)) rfl dX3_addRows_110 ?_
  refine lv_iload hx hb dX3_addRows_113 (lv_at hl 4 rfl) ?_
  obtain ⟨h4, hf⟩ := gd_some hf
  refine pg_iald hC hP k_104 (bin_in h4) dX3_addRows_115 ?_
  obtain ⟨r7, S5, q6, hf⟩ := cal2_some hf
  refine pg_callS (As := [.int (gA S 104 x4.toNatClampNeg)]) (rest := [.int y2, .int y1, .ref (ad 100)]) (st1 := [.int r7, .int y2, .int y1, .ref (ad 100)]) hC hml hP hS (c_X3_bitsOf l hC.2.2.2.2.2.1 q6) ⟨by decide, by decide, rfl, rfl⟩ ⟨rfl, rfl⟩ (by decide) rfl rfl ⟨mk_X3_109, mi_X3_bitsOf⟩ hd_X3_bitsOf rfl hl.1 (Nat.le_of_ble_eq_true rfl) dX3_addRows_116 (fun H locs hP hS => ?_)
  exact w_X3_addRows_L119 hX hk53 _ _ _ _ _ _ _ _ _ _ _ hf h_a1 hP hS (lv_sub hl [0, 1, 2, 3, 4] rfl)
def P_X3_addRows_L83 (k53 : PSt → Nat → Int32 → Int32 → Int32 → Option PSt) (N : Nat) (S : PSt) (a1 : Nat) (x2 : Int32) (x3 : Int32) (x4 : Int32) : Option PSt := gd (bin x4 (ln 100)) <| if x4 < x2 then (P_X3_addRows_L109 k53 N S a1 x2 x3 x4 x4 (gA S 100 x4.toNatClampNeg)) else (if (gI S 404 a1) ≤ (1 : Int32) then (P_X3_addRows_L109 k53 N S a1 x2 x3 x4 x4 (gA S 100 x4.toNatClampNeg)) else (P_X3_addRows_L119 k53 N S a1 x2 x3 x4 x4 (gA S 100 x4.toNatClampNeg) (0 : Int32)))
set_option maxHeartbeats 4000000 in
set_option maxRecDepth 100000 in
theorem w_X3_addRows_L83 {N : Nat} {S' : PSt} (hX : Mx p s m args c meth cX3_addRows RX3 5 none D cy ad tb) {k53 : PSt → Nat → Int32 → Int32 → Int32 → Option PSt} (hk53 : ∀ (S : PSt) (a1 : Nat) (x2 : Int32) (x3 : Int32) (x4 : Int32) (H : Heap) (locs : List Loc) (ls : Array Slot), k53 S a1 x2 x3 x4 = some S' → kd a1 = 4 → va_P D vwCl (pW cy ad S) H → va_S (pA ad s.heap.size) s.heap H locs → lv_has ls 5 [(0, .ref (ad 98)), (1, .ref (ad a1)), (2, .int x2), (3, .int x3), (4, .int x4)] → W p l e (rmd 2) s m args below meth c H locs 0 0 (Qz D cy ad below args s S' none) (F0 m 53 ls [])) : ∀ (S : PSt) (a1 : Nat) (x2 : Int32) (x3 : Int32) (x4 : Int32) (H : Heap) (locs : List Loc) (ls : Array Slot), P_X3_addRows_L83 k53 N S a1 x2 x3 x4 = some S' → kd a1 = 4 → va_P D vwCl (pW cy ad S) H → va_S (pA ad s.heap.size) s.heap H locs → lv_has ls 5 [(0, .ref (ad 98)), (1, .ref (ad a1)), (2, .int x2), (3, .int x3), (4, .int x4)] → W p l e (rmd 2) s m args below meth c H locs 0 0 (Qz D cy ad below args s S' none) (F0 m 83 ls []) := by
  have hX0 := hX
  obtain ⟨hC, hml, hr, hlk⟩ := hX0
  have hx := hC.1
  have hb := hC.2.1
  intro S a1 x2 x3 x4 H locs ls hf h_a1 hP hS hl
  unfold P_X3_addRows_L83 at hf
  refine lv_aload_n hx hb dX3_addRows_83 rfl (lv_at hl 0 rfl) ?_
  refine gf_X3_15 hC hP k_98 (v := .ref (ad 100)) rfl dX3_addRows_84 ?_
  refine lv_iload hx hb dX3_addRows_87 (lv_at hl 4 rfl) ?_
  refine lv_dup2_11 hx hb dX3_addRows_89 rfl rfl ?_
  obtain ⟨h8, hf⟩ := gd_some hf
  refine pg_iald hC hP k_100 (bin_in h8) dX3_addRows_90 ?_
  refine lv_iload hx hb dX3_addRows_91 (lv_at hl 4 rfl) ?_
  refine lv_iload_n hx hb dX3_addRows_93 rfl (lv_at hl 2 rfl) ?_
  refine lv_icmp_lt (tgt := 109) hx hb dX3_addRows_94 (by decide) (fun c9 => ?_) (fun c9 => ?_)
  · replace hf := ite_t c9 hf
    exact w_X3_addRows_L109 hX hk53 _ _ _ _ _ _ _ _ _ _ hf h_a1 hP hS (lv_sub hl [0, 1, 2, 3, 4] rfl)
  · replace hf := ite_f c9 hf
    refine lv_aload_n hx hb dX3_addRows_97 rfl (lv_at hl 1 rfl) ?_
    refine gf_X3_76 hC hP h_a1 (v := .int (gI S 404 a1)) rfl dX3_addRows_98 ?_
    refine lv_iconst (v := 1) hx hb dX3_addRows_101 (by decide) ?_
    refine lv_icmp_le (tgt := 109) hx hb dX3_addRows_102 (by decide) (fun c10 => ?_) (fun c10 => ?_)
    · replace hf := ite_t c10 hf
      exact w_X3_addRows_L109 hX hk53 _ _ _ _ _ _ _ _ _ _ hf h_a1 hP hS (lv_sub hl [0, 1, 2, 3, 4] rfl)
    · replace hf := ite_f c10 hf
      refine lv_iconst (v := 0) hx hb dX3_addRows_105 (by decide) ?_
      refine lv_goto (tgt := 119) hx hb dX3_addRows_106 (by decide) ?_
      exact w_X3_addRows_L119 hX hk53 _ _ _ _ _ _ _ _ _ _ _ hf h_a1 hP hS (lv_sub hl [0, 1, 2, 3, 4] rfl)
def P_X3_addRows_L53 (N : Nat) : Nat → PSt → Nat → Int32 → Int32 → Int32 → Option PSt
  | 0 => fun _ _ _ _ _ => none
  | n + 1 => fun S a1 x2 x3 x4 => if (gI S 401 a1) ≤ x4 then (bnd (sI S 302 98 ((gI S 302 98) + x3)) fun S12 => some S12) else (if (gI S 302 98) = (0 : Int32) then (gd (bin x4 (ln 104)) <| gd (bin x4 (ln 99)) <| bnd (sA S 99 x4.toNatClampNeg (gA S 104 x4.toNatClampNeg)) fun S16 => P_X3_addRows_L83 (P_X3_addRows_L53 N n) N S16 a1 x2 x3 x4) else (P_X3_addRows_L83 (P_X3_addRows_L53 N n) N S a1 x2 x3 x4))
set_option maxHeartbeats 4000000 in
set_option maxRecDepth 100000 in
theorem w_X3_addRows_L53 {N : Nat} {S' : PSt} (hX : Mx p s m args c meth cX3_addRows RX3 5 none D cy ad tb) : ∀ (n : Nat), ∀ (S : PSt) (a1 : Nat) (x2 : Int32) (x3 : Int32) (x4 : Int32) (H : Heap) (locs : List Loc) (ls : Array Slot), P_X3_addRows_L53 N n S a1 x2 x3 x4 = some S' → kd a1 = 4 → va_P D vwCl (pW cy ad S) H → va_S (pA ad s.heap.size) s.heap H locs → lv_has ls 5 [(0, .ref (ad 98)), (1, .ref (ad a1)), (2, .int x2), (3, .int x3), (4, .int x4)] → W p l e (rmd 2) s m args below meth c H locs 0 0 (Qz D cy ad below args s S' none) (F0 m 53 ls []) := by
  have hX0 := hX
  obtain ⟨hC, hml, hr, hlk⟩ := hX0
  have hx := hC.1
  have hb := hC.2.1
  intro n
  induction n with
  | zero => intro S a1 x2 x3 x4 H locs ls hf; exact absurd hf (by intro h; cases h)
  | succ n ih =>
    intro S a1 x2 x3 x4 H locs ls hf h_a1 hP hS hl
    rw [P_X3_addRows_L53] at hf
    refine lv_iload hx hb dX3_addRows_53 (lv_at hl 4 rfl) ?_
    refine lv_aload_n hx hb dX3_addRows_55 rfl (lv_at hl 1 rfl) ?_
    refine gf_X3_68 hC hP h_a1 (v := .int (gI S 401 a1)) rfl dX3_addRows_56 ?_
    refine lv_icmp_ge (tgt := 127) hx hb dX3_addRows_59 (by decide) (fun c11 => ?_) (fun c11 => ?_)
    · replace hf := ite_t c11 hf
      refine lv_aload_n hx hb dX3_addRows_127 rfl (lv_at hl 0 rfl) ?_
      refine lv_dup hx hb dX3_addRows_128 rfl ?_
      refine gf_X3_45 hC hP k_98 (v := .int (gI S 302 98)) rfl dX3_addRows_129 ?_
      refine lv_iload_n hx hb dX3_addRows_132 rfl (lv_at hl 3 rfl) ?_
      refine lv_iadd hx hb dX3_addRows_133 ?_
      obtain ⟨S12, eS12, hf⟩ := bnd_some hf
      refine pf_X3_45 hC hP hS k_98 eS12 dX3_addRows_134 (fun H locs hP hS => ?_)
      exact pg_vret hC hr hlk hP hS hf dX3_addRows_137
    · replace hf := ite_f c11 hf
      refine lv_aload_n hx hb dX3_addRows_62 rfl (lv_at hl 0 rfl) ?_
      refine gf_X3_45 hC hP k_98 (v := .int (gI S 302 98)) rfl dX3_addRows_63 ?_
      refine lv_if_ne (tgt := 83) hx hb dX3_addRows_66 (by decide) (fun c13 => ?_) (fun c13 => ?_)
      · replace hf := ite_f c13 hf
        exact w_X3_addRows_L83 hX ih _ _ _ _ _ _ _ _ hf h_a1 hP hS (lv_sub hl [0, 1, 2, 3, 4] rfl)
      · replace hf := ite_t c13 hf
        refine lv_aload_n hx hb dX3_addRows_69 rfl (lv_at hl 0 rfl) ?_
        refine gf_X3_9 hC hP k_98 (v := .ref (ad 99)) rfl dX3_addRows_70 ?_
        refine lv_iload hx hb dX3_addRows_73 (lv_at hl 4 rfl) ?_
        refine lv_aload_n hx hb dX3_addRows_75 rfl (lv_at hl 0 rfl) ?_
        refine gf_X3_27 hC hP k_98 (v := .ref (ad 104)) rfl dX3_addRows_76 ?_
        refine lv_iload hx hb dX3_addRows_79 (lv_at hl 4 rfl) ?_
        obtain ⟨h14, hf⟩ := gd_some hf
        refine pg_iald hC hP k_104 (bin_in h14) dX3_addRows_81 ?_
        obtain ⟨h15, hf⟩ := gd_some hf
        obtain ⟨S16, eS16, hf⟩ := bnd_some hf
        refine pg_iast hC hP hS k_99 (bin_in h15) dX3_addRows_82 (fun H locs hP hS => ?_)
        rw [← eS16] at hP
        exact w_X3_addRows_L83 hX ih _ _ _ _ _ _ _ _ hf h_a1 hP hS (lv_sub hl [0, 1, 2, 3, 4] rfl)
def P_X3_addRows_L22 (N : Nat) : Nat → PSt → Nat → Int32 → Int32 → Int32 → Option PSt
  | 0 => fun _ _ _ _ _ => none
  | n + 1 => fun S a1 x2 x3 x4 => if (gI S 401 a1) ≤ x4 then (P_X3_addRows_L53 N N S a1 x2 x3 (0 : Int32)) else (gd (bin (0 : Int32) (ln (a1 + 7))) <| gd (bin x4 (ln 104)) <| bnd (sA S 104 x4.toNatClampNeg (gA S (a1 + 7) (0 : Int32).toNatClampNeg)) fun S20 => bnd (x4 + (1 : Int32)) fun v21 => P_X3_addRows_L22 N n S20 a1 x2 x3 v21)
set_option maxHeartbeats 4000000 in
set_option maxRecDepth 100000 in
theorem w_X3_addRows_L22 {N : Nat} {S' : PSt} (hX : Mx p s m args c meth cX3_addRows RX3 5 none D cy ad tb) : ∀ (n : Nat), ∀ (S : PSt) (a1 : Nat) (x2 : Int32) (x3 : Int32) (x4 : Int32) (H : Heap) (locs : List Loc) (ls : Array Slot), P_X3_addRows_L22 N n S a1 x2 x3 x4 = some S' → kd a1 = 4 → va_P D vwCl (pW cy ad S) H → va_S (pA ad s.heap.size) s.heap H locs → lv_has ls 5 [(0, .ref (ad 98)), (1, .ref (ad a1)), (2, .int x2), (3, .int x3), (4, .int x4)] → W p l e (rmd 2) s m args below meth c H locs 0 0 (Qz D cy ad below args s S' none) (F0 m 22 ls []) := by
  have hX0 := hX
  obtain ⟨hC, hml, hr, hlk⟩ := hX0
  have hx := hC.1
  have hb := hC.2.1
  intro n
  induction n with
  | zero => intro S a1 x2 x3 x4 H locs ls hf; exact absurd hf (by intro h; cases h)
  | succ n ih =>
    intro S a1 x2 x3 x4 H locs ls hf h_a1 hP hS hl
    rw [P_X3_addRows_L22] at hf
    refine lv_iload hx hb dX3_addRows_22 (lv_at hl 4 rfl) ?_
    refine lv_aload_n hx hb dX3_addRows_24 rfl (lv_at hl 1 rfl) ?_
    refine gf_X3_68 hC hP h_a1 (v := .int (gI S 401 a1)) rfl dX3_addRows_25 ?_
    refine lv_icmp_ge (tgt := 50) hx hb dX3_addRows_28 (by decide) (fun c17 => ?_) (fun c17 => ?_)
    · replace hf := ite_t c17 hf
      refine lv_iconst (v := 0) hx hb dX3_addRows_50 (by decide) ?_
      refine lv_istore (lv' := [(4, .int (0 : Int32)), (0, .ref (ad 98)), (1, .ref (ad a1)), (2, .int x2), (3, .int x3)]) hx hb dX3_addRows_51 hl (by decide) rfl (fun ls hl => ?_)
      exact w_X3_addRows_L53 hX _ _ _ _ _ _ _ _ _ hf h_a1 hP hS (lv_sub hl [1, 2, 3, 4, 0] rfl)
    · replace hf := ite_f c17 hf
      refine lv_aload_n hx hb dX3_addRows_31 rfl (lv_at hl 0 rfl) ?_
      refine gf_X3_27 hC hP k_98 (v := .ref (ad 104)) rfl dX3_addRows_32 ?_
      refine lv_iload hx hb dX3_addRows_35 (lv_at hl 4 rfl) ?_
      refine lv_aload_n hx hb dX3_addRows_37 rfl (lv_at hl 1 rfl) ?_
      refine gf_X3_79 hC hP h_a1 (v := .ref (ad (a1 + 7))) rfl dX3_addRows_38 ?_
      refine lv_iconst (v := 0) hx hb dX3_addRows_41 (by decide) ?_
      obtain ⟨h18, hf⟩ := gd_some hf
      refine pg_iald hC hP (ko_4_7 h_a1) (bin_in h18) dX3_addRows_42 ?_
      obtain ⟨h19, hf⟩ := gd_some hf
      obtain ⟨S20, eS20, hf⟩ := bnd_some hf
      refine pg_iast hC hP hS k_104 (bin_in h19) dX3_addRows_43 (fun H locs hP hS => ?_)
      rw [← eS20] at hP
      obtain ⟨v21, ev21, hf⟩ := bnd_some hf
      refine lv_iinc (v := v21) (lv' := [(4, .int v21), (0, .ref (ad 98)), (1, .ref (ad a1)), (2, .int x2), (3, .int x3)]) hx hb dX3_addRows_44 hl (k := 4) rfl (by rw [ev21]; rfl) (by decide) rfl (fun ls hl => ?_)
      refine lv_goto (tgt := 22) hx hb dX3_addRows_47 (by decide) ?_
      exact ih _ _ _ _ _ _ _ _ hf h_a1 hP hS (lv_sub hl [1, 2, 3, 4, 0] rfl)
def P_X3_addRows (N : Nat) (S : PSt) (a1 : Nat) (x2 : Int32) : Option PSt := cal2 (P_X6_power N S (gI S 404 a1) ((gI S 401 a1) - x2)) fun r24 S22 => if r24 = (0 : Int32) then (some S22) else (P_X3_addRows_L22 N N S22 a1 x2 r24 x2)
set_option maxHeartbeats 4000000 in
set_option maxRecDepth 100000 in
theorem c_X3_addRows (l : Launch) {D : va_G} {cy : Nat → ClassId} {ad tb : Nat → Nat} (hJ : pJ ad) {N : Nat} {S S' : PSt} {a1 : Nat} {x2 : Int32} (hf : P_X3_addRows N S a1 x2 = some S') (h_a1 : kd a1 = 4) : Ct l 2 yX3_addRows cX3_addRows 5 none D cy ad tb S S' [.ref (ad 98), .ref (ad a1), .int x2] none := by
  refine Ct_of hJ (by decide) (Nat.le_of_ble_eq_true rfl) (fun p e s m below meth c ls hX hP hS hl => ?_)
  have hl : lv_has ls 5 [(0, .ref (ad 98)), (1, .ref (ad a1)), (2, .int x2)] := hl
  have hX0 := hX
  obtain ⟨hC, hml, hr, hlk⟩ := hX0
  have hx := hC.1
  have hb := hC.2.1
  unfold P_X3_addRows at hf
  refine lv_aload_n hx hb dX3_addRows_0 rfl (lv_at hl 1 rfl) ?_
  refine gf_X3_76 hC hP h_a1 (v := .int (gI S 404 a1)) rfl dX3_addRows_1 ?_
  refine lv_aload_n hx hb dX3_addRows_4 rfl (lv_at hl 1 rfl) ?_
  refine gf_X3_68 hC hP h_a1 (v := .int (gI S 401 a1)) rfl dX3_addRows_5 ?_
  refine lv_iload_n hx hb dX3_addRows_8 rfl (lv_at hl 2 rfl) ?_
  refine lv_isub hx hb dX3_addRows_9 ?_
  obtain ⟨r24, S22, q23, hf⟩ := cal2_some hf
  refine pg_callSN (As := [.int (gI S 404 a1), .int ((gI S 401 a1) - x2)]) (rest := []) (st1 := [.int r24]) hC hml hP hS (c_X6_power l hC.2.2.2.2.2.1 q23) ⟨by decide, by decide, rfl, rfl⟩ ⟨rfl, rfl⟩ (by decide) (by decide +kernel) rfl rfl mi_X6_power hd_X6_power rfl hl.1 (Nat.le_of_ble_eq_true rfl) dX3_addRows_10 (fun H locs hP hS => ?_)
  refine lv_istore_n (lv' := [(3, .int r24), (0, .ref (ad 98)), (1, .ref (ad a1)), (2, .int x2)]) hx hb dX3_addRows_13 rfl hl (by decide) rfl (fun ls hl => ?_)
  refine lv_iload_n hx hb dX3_addRows_14 rfl (lv_at hl 0 rfl) ?_
  refine lv_if_ne (tgt := 19) hx hb dX3_addRows_15 (by decide) (fun c25 => ?_) (fun c25 => ?_)
  · replace hf := ite_f c25 hf
    refine lv_iload_n hx hb dX3_addRows_19 rfl (lv_at hl 3 rfl) ?_
    refine lv_istore (lv' := [(4, .int x2), (3, .int r24), (0, .ref (ad 98)), (1, .ref (ad a1)), (2, .int x2)]) hx hb dX3_addRows_20 hl (by decide) rfl (fun ls hl => ?_)
    exact w_X3_addRows_L22 hX _ _ _ _ _ _ _ _ _ hf h_a1 hP hS (lv_sub hl [2, 3, 4, 1, 0] rfl)
  · replace hf := ite_t c25 hf
    exact pg_vret hC hr hlk hP hS hf dX3_addRows_18
def P_X3_mayFit_L3 (N : Nat) : Nat → PSt → Nat → Int32 → Int32 → Int32 → Option (Int32 × PSt)
  | 0 => fun _ _ _ _ _ => none
  | n + 1 => fun S a1 x2 x3 x4 => if (gI S 401 a1) ≤ x4 then (some ((1 : Int32), S)) else (gd (bin x4 (ln 103)) <| if (gA S 103 x4.toNatClampNeg) = (-9 : Int32) then (bnd (x4 + (1 : Int32)) fun v4 => P_X3_mayFit_L3 N n S a1 x2 x3 v4) else (gd (bin (x4 + (1 : Int32)) (ln (a1 + 8))) <| gd (bin (x2 + (1 : Int32)) (ln (a1 + 8))) <| bnd ((x3 + (gA S (a1 + 8) (x4 + (1 : Int32)).toNatClampNeg)) - (gA S (a1 + 8) (x2 + (1 : Int32)).toNatClampNeg)) fun v7 => gd (bin (x4 + (1 : Int32)) (ln (a1 + 9))) <| gd (bin (x2 + (1 : Int32)) (ln (a1 + 9))) <| bnd ((x3 + (gA S (a1 + 9) (x4 + (1 : Int32)).toNatClampNeg)) - (gA S (a1 + 9) (x2 + (1 : Int32)).toNatClampNeg)) fun v10 => gd (bin x4 (ln 103)) <| if (gA S 103 x4.toNatClampNeg) < v7 then (some ((0 : Int32), S)) else (gd (bin x4 (ln 103)) <| if v10 < (gA S 103 x4.toNatClampNeg) then (some ((0 : Int32), S)) else (some ((1 : Int32), S)))))
set_option maxHeartbeats 4000000 in
set_option maxRecDepth 100000 in
theorem w_X3_mayFit_L3 {N : Nat} {S' : PSt} {r : Int32} (hX : Mx p s m args c meth cX3_mayFit RX3 7 (some .boolean) D cy ad tb) : ∀ (n : Nat), ∀ (S : PSt) (a1 : Nat) (x2 : Int32) (x3 : Int32) (x4 : Int32) (H : Heap) (locs : List Loc) (ls : Array Slot), P_X3_mayFit_L3 N n S a1 x2 x3 x4 = some (r, S') → kd a1 = 4 → va_P D vwCl (pW cy ad S) H → va_S (pA ad s.heap.size) s.heap H locs → lv_has ls 7 [(0, .ref (ad 98)), (1, .ref (ad a1)), (2, .int x2), (3, .int x3), (4, .int x4)] → W p l e (rmd 1) s m args below meth c H locs 0 0 (Qz D cy ad below args s S' (some (.int r))) (F0 m 3 ls []) := by
  have hX0 := hX
  obtain ⟨hC, hml, hr, hlk⟩ := hX0
  have hx := hC.1
  have hb := hC.2.1
  intro n
  induction n with
  | zero => intro S a1 x2 x3 x4 H locs ls hf; exact absurd hf (by intro h; cases h)
  | succ n ih =>
    intro S a1 x2 x3 x4 H locs ls hf h_a1 hP hS hl
    rw [P_X3_mayFit_L3] at hf
    refine lv_iload hx hb dX3_mayFit_3 (lv_at hl 4 rfl) ?_
    refine lv_aload_n hx hb dX3_mayFit_5 rfl (lv_at hl 1 rfl) ?_
    refine gf_X3_68 hC hP h_a1 (v := .int (gI S 401 a1)) rfl dX3_mayFit_6 ?_
    refine lv_icmp_ge (tgt := 104) hx hb dX3_mayFit_9 (by decide) (fun c1 => ?_) (fun c1 => ?_)
    · replace hf := ite_t c1 hf
      refine lv_iconst (v := 1) hx hb dX3_mayFit_104 (by decide) ?_
      exact pg_zret hC hr hlk hP hS (by decide) hf dX3_mayFit_105
    · replace hf := ite_f c1 hf
      refine lv_aload_n hx hb dX3_mayFit_12 rfl (lv_at hl 0 rfl) ?_
      refine gf_X3_24 hC hP k_98 (v := .ref (ad 103)) rfl dX3_mayFit_13 ?_
      refine lv_iload hx hb dX3_mayFit_16 (lv_at hl 4 rfl) ?_
      obtain ⟨h2, hf⟩ := gd_some hf
      refine pg_iald hC hP k_103 (bin_in h2) dX3_mayFit_18 ?_
      refine lv_bipush (v := -9) hx hb dX3_mayFit_19 (by decide) ?_
      refine lv_icmp_eq (tgt := 98) hx hb dX3_mayFit_21 (by decide) (fun c3 => ?_) (fun c3 => ?_)
      · replace hf := ite_t c3 hf
        obtain ⟨v4, ev4, hf⟩ := bnd_some hf
        refine lv_iinc (v := v4) (lv' := [(4, .int v4), (0, .ref (ad 98)), (1, .ref (ad a1)), (2, .int x2), (3, .int x3)]) hx hb dX3_mayFit_98 hl (k := 4) rfl (by rw [ev4]; rfl) (by decide) rfl (fun ls hl => ?_)
        refine lv_goto (tgt := 3) hx hb dX3_mayFit_101 (by decide) ?_
        exact ih _ _ _ _ _ _ _ _ hf h_a1 hP hS (lv_sub hl [1, 2, 3, 4, 0] rfl)
      · replace hf := ite_f c3 hf
        refine lv_iload_n hx hb dX3_mayFit_24 rfl (lv_at hl 3 rfl) ?_
        refine lv_aload_n hx hb dX3_mayFit_25 rfl (lv_at hl 1 rfl) ?_
        refine gf_X3_100 hC hP h_a1 (v := .ref (ad (a1 + 8))) rfl dX3_mayFit_26 ?_
        refine lv_iload hx hb dX3_mayFit_29 (lv_at hl 4 rfl) ?_
        refine lv_iconst (v := 1) hx hb dX3_mayFit_31 (by decide) ?_
        refine lv_iadd hx hb dX3_mayFit_32 ?_
        obtain ⟨h5, hf⟩ := gd_some hf
        refine pg_iald hC hP (ko_4_8 h_a1) (bin_in h5) dX3_mayFit_33 ?_
        refine lv_iadd hx hb dX3_mayFit_34 ?_
        refine lv_aload_n hx hb dX3_mayFit_35 rfl (lv_at hl 1 rfl) ?_
        refine gf_X3_100 hC hP h_a1 (v := .ref (ad (a1 + 8))) rfl dX3_mayFit_36 ?_
        refine lv_iload_n hx hb dX3_mayFit_39 rfl (lv_at hl 2 rfl) ?_
        refine lv_iconst (v := 1) hx hb dX3_mayFit_40 (by decide) ?_
        refine lv_iadd hx hb dX3_mayFit_41 ?_
        obtain ⟨h6, hf⟩ := gd_some hf
        refine pg_iald hC hP (ko_4_8 h_a1) (bin_in h6) dX3_mayFit_42 ?_
        refine lv_isub hx hb dX3_mayFit_43 ?_
        obtain ⟨v7, ev7, hf⟩ := bnd_some hf
        refine pg_top ev7 ?_
        refine lv_istore (lv' := [(5, .int v7), (0, .ref (ad 98)), (1, .ref (ad a1)), (2, .int x2), (3, .int x3), (4, .int x4)]) hx hb dX3_mayFit_44 hl (by decide) rfl (fun ls hl => ?_)
        refine lv_iload_n hx hb dX3_mayFit_46 rfl (lv_at hl 4 rfl) ?_
        refine lv_aload_n hx hb dX3_mayFit_47 rfl (lv_at hl 2 rfl) ?_
        refine gf_X3_103 hC hP h_a1 (v := .ref (ad (a1 + 9))) rfl dX3_mayFit_48 ?_
        refine lv_iload hx hb dX3_mayFit_51 (lv_at hl 5 rfl) ?_
        refine lv_iconst (v := 1) hx hb dX3_mayFit_53 (by decide) ?_
        refine lv_iadd hx hb dX3_mayFit_54 ?_
        obtain ⟨h8, hf⟩ := gd_some hf
        refine pg_iald hC hP (ko_4_9 h_a1) (bin_in h8) dX3_mayFit_55 ?_
        refine lv_iadd hx hb dX3_mayFit_56 ?_
        refine lv_aload_n hx hb dX3_mayFit_57 rfl (lv_at hl 2 rfl) ?_
        refine gf_X3_103 hC hP h_a1 (v := .ref (ad (a1 + 9))) rfl dX3_mayFit_58 ?_
        refine lv_iload_n hx hb dX3_mayFit_61 rfl (lv_at hl 3 rfl) ?_
        refine lv_iconst (v := 1) hx hb dX3_mayFit_62 (by decide) ?_
        refine lv_iadd hx hb dX3_mayFit_63 ?_
        obtain ⟨h9, hf⟩ := gd_some hf
        refine pg_iald hC hP (ko_4_9 h_a1) (bin_in h9) dX3_mayFit_64 ?_
        refine lv_isub hx hb dX3_mayFit_65 ?_
        obtain ⟨v10, ev10, hf⟩ := bnd_some hf
        refine pg_top ev10 ?_
        refine lv_istore (lv' := [(6, .int v10), (5, .int v7), (0, .ref (ad 98)), (1, .ref (ad a1)), (2, .int x2), (3, .int x3), (4, .int x4)]) hx hb dX3_mayFit_66 hl (by decide) rfl (fun ls hl => ?_)
        refine lv_iload hx hb dX3_mayFit_68 (lv_at hl 1 rfl) ?_
        refine lv_aload_n hx hb dX3_mayFit_70 rfl (lv_at hl 2 rfl) ?_
        refine gf_X3_24 hC hP k_98 (v := .ref (ad 103)) rfl dX3_mayFit_71 ?_
        refine lv_iload hx hb dX3_mayFit_74 (lv_at hl 6 rfl) ?_
        obtain ⟨h11, hf⟩ := gd_some hf
        refine pg_iald hC hP k_103 (bin_in h11) dX3_mayFit_76 ?_
        refine lv_icmp_gt (tgt := 96) hx hb dX3_mayFit_77 (by decide) (fun c12 => ?_) (fun c12 => ?_)
        · replace hf := ite_t c12 hf
          refine lv_iconst (v := 0) hx hb dX3_mayFit_96 (by decide) ?_
          exact pg_zret hC hr hlk hP hS (by decide) hf dX3_mayFit_97
        · replace hf := ite_f c12 hf
          refine lv_aload_n hx hb dX3_mayFit_80 rfl (lv_at hl 2 rfl) ?_
          refine gf_X3_24 hC hP k_98 (v := .ref (ad 103)) rfl dX3_mayFit_81 ?_
          refine lv_iload hx hb dX3_mayFit_84 (lv_at hl 6 rfl) ?_
          obtain ⟨h13, hf⟩ := gd_some hf
          refine pg_iald hC hP k_103 (bin_in h13) dX3_mayFit_86 ?_
          refine lv_iload hx hb dX3_mayFit_87 (lv_at hl 0 rfl) ?_
          refine lv_icmp_gt (tgt := 96) hx hb dX3_mayFit_89 (by decide) (fun c14 => ?_) (fun c14 => ?_)
          · replace hf := ite_t c14 hf
            refine lv_iconst (v := 0) hx hb dX3_mayFit_96 (by decide) ?_
            exact pg_zret hC hr hlk hP hS (by decide) hf dX3_mayFit_97
          · replace hf := ite_f c14 hf
            refine lv_iconst (v := 1) hx hb dX3_mayFit_92 (by decide) ?_
            refine lv_goto (tgt := 97) hx hb dX3_mayFit_93 (by decide) ?_
            exact pg_zret hC hr hlk hP hS (by decide) hf dX3_mayFit_97
def P_X3_mayFit (N : Nat) (S : PSt) (a1 : Nat) (x2 : Int32) (x3 : Int32) : Option (Int32 × PSt) := P_X3_mayFit_L3 N N S a1 x2 x3 x2
set_option maxHeartbeats 4000000 in
set_option maxRecDepth 100000 in
theorem c_X3_mayFit (l : Launch) {D : va_G} {cy : Nat → ClassId} {ad tb : Nat → Nat} (hJ : pJ ad) {N : Nat} {S S' : PSt} {a1 : Nat} {x2 : Int32} {x3 : Int32} {r : Int32} (hf : P_X3_mayFit N S a1 x2 x3 = some (r, S')) (h_a1 : kd a1 = 4) : Ct l 1 yX3_mayFit cX3_mayFit 7 (some .boolean) D cy ad tb S S' [.ref (ad 98), .ref (ad a1), .int x2, .int x3] (some (.int r)) := by
  refine Ct_of hJ (by decide) (Nat.le_of_ble_eq_true rfl) (fun p e s m below meth c ls hX hP hS hl => ?_)
  have hl : lv_has ls 7 [(0, .ref (ad 98)), (1, .ref (ad a1)), (2, .int x2), (3, .int x3)] := hl
  have hX0 := hX
  obtain ⟨hC, hml, hr, hlk⟩ := hX0
  have hx := hC.1
  have hb := hC.2.1
  unfold P_X3_mayFit at hf
  refine lv_iload_n hx hb dX3_mayFit_0 rfl (lv_at hl 2 rfl) ?_
  refine lv_istore (lv' := [(4, .int x2), (0, .ref (ad 98)), (1, .ref (ad a1)), (2, .int x2), (3, .int x3)]) hx hb dX3_mayFit_1 hl (by decide) rfl (fun ls hl => ?_)
  exact w_X3_mayFit_L3 hX _ _ _ _ _ _ _ _ _ hf h_a1 hP hS (lv_sub hl [1, 2, 3, 4, 0] rfl)
def P_X3_search_L49 (self : PSt → Nat → Int32 → Option PSt) (N : Nat) : Nat → PSt → Nat → Int32 → Nat → Nat → Int32 → Option PSt
  | 0 => fun _ _ _ _ _ _ => none
  | n + 1 => fun S a1 x2 a3 a4 x5 => if (gI S 404 a1) ≤ x5 then (some S) else (gd (bin x5 (ln (a1 + 7))) <| bnd (gA S (a1 + 7) x5.toNatClampNeg) fun v3 => cal2 (P_X0_minutesToWalk N S a3 a1 v3) fun r6 S4 => bnd ((gI S 1 a3) + r6) fun v7 => cal2 (P_X3_mayFit N S4 a1 x2 v7) fun r10 S8 => if r10 = (0 : Int32) then (bnd (x5 + (1 : Int32)) fun v12 => P_X3_search_L49 self N n S8 a1 x2 a3 a4 v12) else (cal1 (P_X0_copy N S8 a4 a3) fun S13 => cal1 (P_X0_walkOn N S13 a4 a1 v3 v7) fun S15 => gd (bin x2 (ln 104)) <| bnd (sA S15 104 x2.toNatClampNeg v3) fun S18 => cal1 (self S18 a1 (x2 + (1 : Int32))) fun S19 => bnd (x5 + (1 : Int32)) fun v21 => P_X3_search_L49 self N n S19 a1 x2 a3 a4 v21))
set_option maxHeartbeats 4000000 in
set_option maxRecDepth 100000 in
theorem w_X3_search_L49 {N : Nat} {S' : PSt} (hX : Mx p s m args c meth cX3_search RX3 8 none D cy ad tb) {self : PSt → Nat → Int32 → Option PSt} {d : Nat} (hself : ∀ (S S' : PSt) (a1 : Nat) (x2 : Int32), self S a1 x2 = some S' → kd a1 = 4 → Ct l (d + 3) yX3_search cX3_search 8 none D cy ad tb S S' [.ref (ad 98), .ref (ad a1), .int x2] none) : ∀ (n : Nat), ∀ (S : PSt) (a1 : Nat) (x2 : Int32) (a3 : Nat) (a4 : Nat) (x5 : Int32) (H : Heap) (locs : List Loc) (ls : Array Slot), P_X3_search_L49 self N n S a1 x2 a3 a4 x5 = some S' → kd a1 = 4 → kd a3 = 0 → kd a4 = 0 → va_P D vwCl (pW cy ad S) H → va_S (pA ad s.heap.size) s.heap H locs → lv_has ls 8 [(0, .ref (ad 98)), (1, .ref (ad a1)), (2, .int x2), (3, .ref (ad a3)), (4, .ref (ad a4)), (5, .int x5)] → W p l e (rmd (d + 4)) s m args below meth c H locs 0 0 (Qz D cy ad below args s S' none) (F0 m 49 ls []) := by
  have hX0 := hX
  obtain ⟨hC, hml, hr, hlk⟩ := hX0
  have hx := hC.1
  have hb := hC.2.1
  intro n
  induction n with
  | zero => intro S a1 x2 a3 a4 x5 H locs ls hf; exact absurd hf (by intro h; cases h)
  | succ n ih =>
    intro S a1 x2 a3 a4 x5 H locs ls hf h_a1 h_a3 h_a4 hP hS hl
    rw [P_X3_search_L49] at hf
    refine lv_iload hx hb dX3_search_49 (lv_at hl 5 rfl) ?_
    refine lv_aload_n hx hb dX3_search_51 rfl (lv_at hl 1 rfl) ?_
    refine gf_X3_76 hC hP h_a1 (v := .int (gI S 404 a1)) rfl dX3_search_52 ?_
    refine lv_icmp_ge (tgt := 130) hx hb dX3_search_55 (by decide) (fun c1 => ?_) (fun c1 => ?_)
    · replace hf := ite_t c1 hf
      exact pg_vret hC hr hlk hP hS hf dX3_search_130
    · replace hf := ite_f c1 hf
      refine lv_aload_n hx hb dX3_search_58 rfl (lv_at hl 1 rfl) ?_
      refine gf_X3_79 hC hP h_a1 (v := .ref (ad (a1 + 7))) rfl dX3_search_59 ?_
      refine lv_iload hx hb dX3_search_62 (lv_at hl 5 rfl) ?_
      obtain ⟨h2, hf⟩ := gd_some hf
      refine pg_iald hC hP (ko_4_7 h_a1) (bin_in h2) dX3_search_64 ?_
      obtain ⟨v3, ev3, hf⟩ := bnd_some hf
      refine pg_top ev3 ?_
      refine lv_istore (lv' := [(6, .int v3), (0, .ref (ad 98)), (1, .ref (ad a1)), (2, .int x2), (3, .ref (ad a3)), (4, .ref (ad a4)), (5, .int x5)]) hx hb dX3_search_65 hl (by decide) rfl (fun ls hl => ?_)
      refine lv_aload_n hx hb dX3_search_67 rfl (lv_at hl 4 rfl) ?_
      refine gf_X3_82 hC hP h_a3 (v := .int (gI S 1 a3)) rfl dX3_search_68 ?_
      refine lv_aload_n hx hb dX3_search_71 rfl (lv_at hl 4 rfl) ?_
      refine lv_aload_n hx hb dX3_search_72 rfl (lv_at hl 2 rfl) ?_
      refine lv_iload hx hb dX3_search_73 (lv_at hl 0 rfl) ?_
      obtain ⟨r6, S4, q5, hf⟩ := cal2_some hf
      refine pg_callV (As := [.ref (ad a1), .int v3]) (rest := [.int (gI S 1 a3)]) (st1 := [.int r6, .int (gI S 1 a3)]) (ci := 0) hC hml hP hS (c_X0_minutesToWalk l hC.2.2.2.2.2.1 q5 h_a3 h_a1) ⟨by show 3 + 1 ≤ d + 4; omega, by show 40 * (3 + 1) + 40 ≤ 40 * (d + 4) + 40; omega, rfl, rfl⟩ ⟨rfl, rfl⟩ (by decide) rfl (by decide) h_a3 rfl rfl ⟨mk_X3_84, mi_X0_minutesToWalk⟩ hd_X0_minutesToWalk rfl hl.1 (Nat.le_of_ble_eq_true rfl) dX3_search_75 (fun H locs hP hS => ?_)
      refine lv_iadd hx hb dX3_search_78 ?_
      obtain ⟨v7, ev7, hf⟩ := bnd_some hf
      refine pg_top ev7 ?_
      refine lv_istore (lv' := [(7, .int v7), (6, .int v3), (0, .ref (ad 98)), (1, .ref (ad a1)), (2, .int x2), (3, .ref (ad a3)), (4, .ref (ad a4)), (5, .int x5)]) hx hb dX3_search_79 hl (by decide) rfl (fun ls hl => ?_)
      refine lv_aload_n hx hb dX3_search_81 rfl (lv_at hl 2 rfl) ?_
      refine lv_aload_n hx hb dX3_search_82 rfl (lv_at hl 3 rfl) ?_
      refine lv_iload_n hx hb dX3_search_83 rfl (lv_at hl 4 rfl) ?_
      refine lv_iload hx hb dX3_search_84 (lv_at hl 0 rfl) ?_
      obtain ⟨r10, S8, q9, hf⟩ := cal2_some hf
      refine pg_callV (As := [.ref (ad a1), .int x2, .int v7]) (rest := []) (st1 := [.int r10]) (ci := 3) hC hml hP hS (c_X3_mayFit l hC.2.2.2.2.2.1 q9 h_a1) ⟨by show 1 + 1 ≤ d + 4; omega, by show 40 * (1 + 1) + 40 ≤ 40 * (d + 4) + 40; omega, rfl, rfl⟩ ⟨rfl, rfl⟩ (by decide) rfl (by decide) k_98 rfl rfl ⟨mk_X3_88, mi_X3_mayFit⟩ hd_X3_mayFit rfl hl.1 (Nat.le_of_ble_eq_true rfl) dX3_search_86 (fun H locs hP hS => ?_)
      refine lv_if_eq (tgt := 124) hx hb dX3_search_89 (by decide) (fun c11 => ?_) (fun c11 => ?_)
      · replace hf := ite_t c11 hf
        obtain ⟨v12, ev12, hf⟩ := bnd_some hf
        refine lv_iinc (v := v12) (lv' := [(5, .int v12), (7, .int v7), (6, .int v3), (0, .ref (ad 98)), (1, .ref (ad a1)), (2, .int x2), (3, .ref (ad a3)), (4, .ref (ad a4))]) hx hb dX3_search_124 hl (k := 7) rfl (by rw [ev12]; rfl) (by decide) rfl (fun ls hl => ?_)
        refine lv_goto (tgt := 49) hx hb dX3_search_127 (by decide) ?_
        exact ih _ _ _ _ _ _ _ _ _ hf h_a1 h_a3 h_a4 hP hS (lv_sub hl [3, 4, 5, 6, 7, 0] rfl)
      · replace hf := ite_f c11 hf
        refine lv_aload hx hb dX3_search_92 (lv_at hl 6 rfl) ?_
        refine lv_aload_n hx hb dX3_search_94 rfl (lv_at hl 5 rfl) ?_
        obtain ⟨S13, q14, hf⟩ := cal1_some hf
        refine pg_callV (As := [.ref (ad a3)]) (rest := []) (st1 := []) (ci := 0) hC hml hP hS (c_X0_copy l hC.2.2.2.2.2.1 q14 h_a4 h_a3) ⟨by show 1 + 1 ≤ d + 4; omega, by show 40 * (1 + 1) + 40 ≤ 40 * (d + 4) + 40; omega, rfl, rfl⟩ ⟨rfl, rfl⟩ (by decide) rfl (by decide) h_a4 rfl rfl ⟨mk_X3_92, mi_X0_copy⟩ hd_X0_copy rfl hl.1 (Nat.le_of_ble_eq_true rfl) dX3_search_95 (fun H locs hP hS => ?_)
        refine lv_aload hx hb dX3_search_98 (lv_at hl 6 rfl) ?_
        refine lv_aload_n hx hb dX3_search_100 rfl (lv_at hl 3 rfl) ?_
        refine lv_iload hx hb dX3_search_101 (lv_at hl 1 rfl) ?_
        refine lv_iload hx hb dX3_search_103 (lv_at hl 0 rfl) ?_
        obtain ⟨S15, q16, hf⟩ := cal1_some hf
        refine pg_callV (As := [.ref (ad a1), .int v3, .int v7]) (rest := []) (st1 := []) (ci := 0) hC hml hP hS (c_X0_walkOn l hC.2.2.2.2.2.1 q16 h_a4 h_a1) ⟨by show 2 + 1 ≤ d + 4; omega, by show 40 * (2 + 1) + 40 ≤ 40 * (d + 4) + 40; omega, rfl, rfl⟩ ⟨rfl, rfl⟩ (by decide) rfl (by decide) h_a4 rfl rfl ⟨mk_X3_96, mi_X0_walkOn⟩ hd_X0_walkOn rfl hl.1 (Nat.le_of_ble_eq_true rfl) dX3_search_105 (fun H locs hP hS => ?_)
        refine lv_aload_n hx hb dX3_search_108 rfl (lv_at hl 2 rfl) ?_
        refine gf_X3_27 hC hP k_98 (v := .ref (ad 104)) rfl dX3_search_109 ?_
        refine lv_iload_n hx hb dX3_search_112 rfl (lv_at hl 4 rfl) ?_
        refine lv_iload hx hb dX3_search_113 (lv_at hl 1 rfl) ?_
        obtain ⟨h17, hf⟩ := gd_some hf
        obtain ⟨S18, eS18, hf⟩ := bnd_some hf
        refine pg_iast hC hP hS k_104 (bin_in h17) dX3_search_115 (fun H locs hP hS => ?_)
        rw [← eS18] at hP
        refine lv_aload_n hx hb dX3_search_116 rfl (lv_at hl 2 rfl) ?_
        refine lv_aload_n hx hb dX3_search_117 rfl (lv_at hl 3 rfl) ?_
        refine lv_iload_n hx hb dX3_search_118 rfl (lv_at hl 4 rfl) ?_
        refine lv_iconst (v := 1) hx hb dX3_search_119 (by decide) ?_
        refine lv_iadd hx hb dX3_search_120 ?_
        obtain ⟨S19, q20, hf⟩ := cal1_some hf
        refine pg_callV (As := [.ref (ad a1), .int (x2 + (1 : Int32))]) (rest := []) (st1 := []) (ci := 3) hC hml hP hS (hself _ _ _ _ q20 h_a1) ⟨by show d + 3 + 1 ≤ d + 4; omega, by show 40 * (d + 3 + 1) + 40 ≤ 40 * (d + 4) + 40; omega, rfl, rfl⟩ ⟨rfl, rfl⟩ (by decide) rfl (by decide) k_98 rfl rfl ⟨mk_X3_55, mi_X3_search⟩ hd_X3_search rfl hl.1 (Nat.le_of_ble_eq_true rfl) dX3_search_121 (fun H locs hP hS => ?_)
        obtain ⟨v21, ev21, hf⟩ := bnd_some hf
        refine lv_iinc (v := v21) (lv' := [(5, .int v21), (7, .int v7), (6, .int v3), (0, .ref (ad 98)), (1, .ref (ad a1)), (2, .int x2), (3, .ref (ad a3)), (4, .ref (ad a4))]) hx hb dX3_search_124 hl (k := 7) rfl (by rw [ev21]; rfl) (by decide) rfl (fun ls hl => ?_)
        refine lv_goto (tgt := 49) hx hb dX3_search_127 (by decide) ?_
        exact ih _ _ _ _ _ _ _ _ _ hf h_a1 h_a3 h_a4 hP hS (lv_sub hl [3, 4, 5, 6, 7, 0] rfl)
def P_X3_search_L22 (self : PSt → Nat → Int32 → Option PSt) (N : Nat) (S : PSt) (a1 : Nat) (x2 : Int32) : Option PSt := cal1 (P_X3_addRows N S a1 x2) fun S22 => some S22
set_option maxHeartbeats 4000000 in
set_option maxRecDepth 100000 in
theorem w_X3_search_L22 {N : Nat} {S' : PSt} (hX : Mx p s m args c meth cX3_search RX3 8 none D cy ad tb) {self : PSt → Nat → Int32 → Option PSt} {d : Nat} (hself : ∀ (S S' : PSt) (a1 : Nat) (x2 : Int32), self S a1 x2 = some S' → kd a1 = 4 → Ct l (d + 3) yX3_search cX3_search 8 none D cy ad tb S S' [.ref (ad 98), .ref (ad a1), .int x2] none) : ∀ (S : PSt) (a1 : Nat) (x2 : Int32) (H : Heap) (locs : List Loc) (ls : Array Slot), P_X3_search_L22 self N S a1 x2 = some S' → kd a1 = 4 → va_P D vwCl (pW cy ad S) H → va_S (pA ad s.heap.size) s.heap H locs → lv_has ls 8 [(0, .ref (ad 98)), (1, .ref (ad a1)), (2, .int x2)] → W p l e (rmd (d + 4)) s m args below meth c H locs 0 0 (Qz D cy ad below args s S' none) (F0 m 22 ls []) := by
  have hX0 := hX
  obtain ⟨hC, hml, hr, hlk⟩ := hX0
  have hx := hC.1
  have hb := hC.2.1
  intro S a1 x2 H locs ls hf h_a1 hP hS hl
  unfold P_X3_search_L22 at hf
  refine lv_aload_n hx hb dX3_search_22 rfl (lv_at hl 0 rfl) ?_
  refine lv_aload_n hx hb dX3_search_23 rfl (lv_at hl 1 rfl) ?_
  refine lv_iload_n hx hb dX3_search_24 rfl (lv_at hl 2 rfl) ?_
  obtain ⟨S22, q23, hf⟩ := cal1_some hf
  refine pg_callV (As := [.ref (ad a1), .int x2]) (rest := []) (st1 := []) (ci := 3) hC hml hP hS (c_X3_addRows l hC.2.2.2.2.2.1 q23 h_a1) ⟨by show 2 + 1 ≤ d + 4; omega, by show 40 * (2 + 1) + 40 ≤ 40 * (d + 4) + 40; omega, rfl, rfl⟩ ⟨rfl, rfl⟩ (by decide) rfl (by decide) k_98 rfl rfl ⟨mk_X3_73, mi_X3_addRows⟩ hd_X3_addRows rfl hl.1 (Nat.le_of_ble_eq_true rfl) dX3_search_25 (fun H locs hP hS => ?_)
  exact pg_vret hC hr hlk hP hS hf dX3_search_28
def P_X3_search (N : Nat) : Nat → PSt → Nat → Int32 → Option PSt
  | 0 => fun _ _ _ => none
  | d + 1 => fun S a1 x2 => if (gI S 308 98) < x2 then (P_X3_search_L22 (P_X3_search N d) N S a1 x2) else (if (gI S 401 a1) ≤ x2 then (P_X3_search_L22 (P_X3_search N d) N S a1 x2) else (if x2 < (6 : Int32) then (gd (bin x2 (ln 105)) <| bnd (gQ S 105 x2.toNatClampNeg) fun t28 => gd (isk t28 0) <| gd (bin (x2 + (1 : Int32)) (ln 105)) <| bnd (gQ S 105 (x2 + (1 : Int32)).toNatClampNeg) fun t31 => gd (isk t31 0) <| P_X3_search_L49 (P_X3_search N d) N N S a1 x2 t28 t31 (0 : Int32)) else (P_X3_search_L22 (P_X3_search N d) N S a1 x2)))
set_option maxHeartbeats 4000000 in
set_option maxRecDepth 100000 in
theorem c_X3_search (l : Launch) {D : va_G} {cy : Nat → ClassId} {ad tb : Nat → Nat} (hJ : pJ ad) {N : Nat} : ∀ (d : Nat) (S S' : PSt) (a1 : Nat) (x2 : Int32), P_X3_search N d S a1 x2 = some S' → kd a1 = 4 → Ct l (d + 3) yX3_search cX3_search 8 none D cy ad tb S S' [.ref (ad 98), .ref (ad a1), .int x2] none := by
  intro d
  induction d with
  | zero => intro S S' a1 x2 hf; exact absurd hf (by intro h; cases h)
  | succ d ihd =>
    intro S S' a1 x2 hf h_a1
    have hself := ihd
    refine Ct_of hJ (by decide) (Nat.le_of_ble_eq_true rfl) (fun p e s m below meth c ls hX hP hS hl => ?_)
    have hl : lv_has ls 8 [(0, .ref (ad 98)), (1, .ref (ad a1)), (2, .int x2)] := hl
    have hX0 := hX
    obtain ⟨hC, hml, hr, hlk⟩ := hX0
    have hx := hC.1
    have hb := hC.2.1
    rw [P_X3_search] at hf
    refine lv_iload_n hx hb dX3_search_0 rfl (lv_at hl 2 rfl) ?_
    refine lv_aload_n hx hb dX3_search_1 rfl (lv_at hl 0 rfl) ?_
    refine gf_X3_59 hC hP k_98 (v := .int (gI S 308 98)) rfl dX3_search_2 ?_
    refine lv_icmp_gt (tgt := 22) hx hb dX3_search_5 (by decide) (fun c24 => ?_) (fun c24 => ?_)
    · replace hf := ite_t c24 hf
      exact w_X3_search_L22 hX hself _ _ _ _ _ _ hf h_a1 hP hS (lv_sub hl [0, 1, 2] rfl)
    · replace hf := ite_f c24 hf
      refine lv_iload_n hx hb dX3_search_8 rfl (lv_at hl 2 rfl) ?_
      refine lv_aload_n hx hb dX3_search_9 rfl (lv_at hl 1 rfl) ?_
      refine gf_X3_68 hC hP h_a1 (v := .int (gI S 401 a1)) rfl dX3_search_10 ?_
      refine lv_icmp_ge (tgt := 22) hx hb dX3_search_13 (by decide) (fun c25 => ?_) (fun c25 => ?_)
      · replace hf := ite_t c25 hf
        exact w_X3_search_L22 hX hself _ _ _ _ _ _ hf h_a1 hP hS (lv_sub hl [0, 1, 2] rfl)
      · replace hf := ite_f c25 hf
        refine lv_iload_n hx hb dX3_search_16 rfl (lv_at hl 2 rfl) ?_
        refine lv_bipush (v := 6) hx hb dX3_search_17 (by decide) ?_
        refine lv_icmp_lt (tgt := 29) hx hb dX3_search_19 (by decide) (fun c26 => ?_) (fun c26 => ?_)
        · replace hf := ite_t c26 hf
          refine lv_aload_n hx hb dX3_search_29 rfl (lv_at hl 0 rfl) ?_
          refine gf_X3_32 hC hP k_98 (v := .ref (ad 105)) rfl dX3_search_30 ?_
          refine lv_iload_n hx hb dX3_search_33 rfl (lv_at hl 2 rfl) ?_
          obtain ⟨h27, hf⟩ := gd_some hf
          obtain ⟨t28, et28, hf⟩ := bnd_some hf
          obtain ⟨h29, hf⟩ := gd_some hf
          have h_t28 := isk_eq h29
          refine pg_aldM hC hP k_105 (bin_in h27) dX3_search_34 ?_
          refine pg_topr et28 ?_
          refine lv_astore_n (lv' := [(3, .ref (ad t28)), (0, .ref (ad 98)), (1, .ref (ad a1)), (2, .int x2)]) hx hb dX3_search_35 rfl hl (by decide) rfl (fun ls hl => ?_)
          refine lv_aload_n hx hb dX3_search_36 rfl (lv_at hl 1 rfl) ?_
          refine gf_X3_32 hC hP k_98 (v := .ref (ad 105)) rfl dX3_search_37 ?_
          refine lv_iload_n hx hb dX3_search_40 rfl (lv_at hl 3 rfl) ?_
          refine lv_iconst (v := 1) hx hb dX3_search_41 (by decide) ?_
          refine lv_iadd hx hb dX3_search_42 ?_
          obtain ⟨h30, hf⟩ := gd_some hf
          obtain ⟨t31, et31, hf⟩ := bnd_some hf
          obtain ⟨h32, hf⟩ := gd_some hf
          have h_t31 := isk_eq h32
          refine pg_aldM hC hP k_105 (bin_in h30) dX3_search_43 ?_
          refine pg_topr et31 ?_
          refine lv_astore (lv' := [(4, .ref (ad t31)), (3, .ref (ad t28)), (0, .ref (ad 98)), (1, .ref (ad a1)), (2, .int x2)]) hx hb dX3_search_44 hl (by decide) rfl (fun ls hl => ?_)
          refine lv_iconst (v := 0) hx hb dX3_search_46 (by decide) ?_
          refine lv_istore (lv' := [(5, .int (0 : Int32)), (4, .ref (ad t31)), (3, .ref (ad t28)), (0, .ref (ad 98)), (1, .ref (ad a1)), (2, .int x2)]) hx hb dX3_search_47 hl (by decide) rfl (fun ls hl => ?_)
          exact w_X3_search_L49 hX hself _ _ _ _ _ _ _ _ _ _ hf h_a1 h_t28 h_t31 hP hS (lv_sub hl [3, 4, 5, 2, 1, 0] rfl)
        · replace hf := ite_f c26 hf
          exact w_X3_search_L22 hX hself _ _ _ _ _ _ hf h_a1 hP hS (lv_sub hl [0, 1, 2] rfl)
def P_X3_look_L20 (N : Nat) : Nat → PSt → Nat → Int32 → Option PSt
  | 0 => fun _ _ _ => none
  | n + 1 => fun S a1 x2 => if (6 : Int32) ≤ x2 then (cal2 (P_X3_gatherDue N S) fun r4 S2 => if r4 = (0 : Int32) then (some S2) else (bnd (gQ S2 105 (0 : Int32).toNatClampNeg) fun t6 => gd (isk t6 0) <| cal1 (P_X0_begin N S2 t6) fun S8 => cal1 (P_X3_search N 8 S8 a1 (0 : Int32)) fun S10 => some S10)) else (gd (bin x2 (ln 100)) <| bnd (sA S 100 x2.toNatClampNeg (15 : Int32)) fun S13 => bnd (x2 + (1 : Int32)) fun v14 => P_X3_look_L20 N n S13 a1 v14)
set_option maxHeartbeats 4000000 in
set_option maxRecDepth 100000 in
theorem w_X3_look_L20 {N : Nat} {S' : PSt} (hX : Mx p s m args c meth cX3_look RX3 3 none D cy ad tb) : ∀ (n : Nat), ∀ (S : PSt) (a1 : Nat) (x2 : Int32) (H : Heap) (locs : List Loc) (ls : Array Slot), P_X3_look_L20 N n S a1 x2 = some S' → kd a1 = 4 → va_P D vwCl (pW cy ad S) H → va_S (pA ad s.heap.size) s.heap H locs → lv_has ls 3 [(0, .ref (ad 98)), (1, .ref (ad a1)), (2, .int x2)] → W p l e (rmd 13) s m args below meth c H locs 0 0 (Qz D cy ad below args s S' none) (F0 m 20 ls []) := by
  have hX0 := hX
  obtain ⟨hC, hml, hr, hlk⟩ := hX0
  have hx := hC.1
  have hb := hC.2.1
  intro n
  induction n with
  | zero => intro S a1 x2 H locs ls hf; exact absurd hf (by intro h; cases h)
  | succ n ih =>
    intro S a1 x2 H locs ls hf h_a1 hP hS hl
    rw [P_X3_look_L20] at hf
    refine lv_iload_n hx hb dX3_look_20 rfl (lv_at hl 2 rfl) ?_
    refine lv_bipush (v := 6) hx hb dX3_look_21 (by decide) ?_
    refine lv_icmp_ge (tgt := 40) hx hb dX3_look_23 (by decide) (fun c1 => ?_) (fun c1 => ?_)
    · replace hf := ite_t c1 hf
      refine lv_aload_n hx hb dX3_look_40 rfl (lv_at hl 0 rfl) ?_
      obtain ⟨r4, S2, q3, hf⟩ := cal2_some hf
      refine pg_callV (As := []) (rest := []) (st1 := [.int r4]) (ci := 3) hC hml hP hS (c_X3_gatherDue l hC.2.2.2.2.2.1 q3) ⟨by decide, by decide, rfl, rfl⟩ ⟨rfl, rfl⟩ (by decide) rfl (by decide) k_98 rfl rfl ⟨mk_X3_48, mi_X3_gatherDue⟩ hd_X3_gatherDue rfl hl.1 (Nat.le_of_ble_eq_true rfl) dX3_look_41 (fun H locs hP hS => ?_)
      refine lv_if_eq (tgt := 62) hx hb dX3_look_44 (by decide) (fun c5 => ?_) (fun c5 => ?_)
      · replace hf := ite_t c5 hf
        exact pg_vret hC hr hlk hP hS hf dX3_look_62
      · replace hf := ite_f c5 hf
        refine lv_aload_n hx hb dX3_look_47 rfl (lv_at hl 0 rfl) ?_
        refine gf_X3_32 hC hP k_98 (v := .ref (ad 105)) rfl dX3_look_48 ?_
        refine lv_iconst (v := 0) hx hb dX3_look_51 (by decide) ?_
        obtain ⟨t6, et6, hf⟩ := bnd_some hf
        obtain ⟨h7, hf⟩ := gd_some hf
        have h_t6 := isk_eq h7
        refine pg_aldM hC hP k_105 (bin_in (by decide +kernel)) dX3_look_52 ?_
        refine pg_topr et6 ?_
        obtain ⟨S8, q9, hf⟩ := cal1_some hf
        refine pg_callV (As := []) (rest := []) (st1 := []) (ci := 0) hC hml hP hS (c_X0_begin l hC.2.2.2.2.2.1 q9 h_t6) ⟨by decide, by decide, rfl, rfl⟩ ⟨rfl, rfl⟩ (by decide) rfl (by decide) h_t6 rfl rfl ⟨mk_X3_52, mi_X0_begin⟩ hd_X0_begin rfl hl.1 (Nat.le_of_ble_eq_true rfl) dX3_look_53 (fun H locs hP hS => ?_)
        refine lv_aload_n hx hb dX3_look_56 rfl (lv_at hl 0 rfl) ?_
        refine lv_aload_n hx hb dX3_look_57 rfl (lv_at hl 1 rfl) ?_
        refine lv_iconst (v := 0) hx hb dX3_look_58 (by decide) ?_
        obtain ⟨S10, q11, hf⟩ := cal1_some hf
        refine pg_callV (As := [.ref (ad a1), .int (0 : Int32)]) (rest := []) (st1 := []) (ci := 3) hC hml hP hS (c_X3_search l hC.2.2.2.2.2.1 8 _ _ _ _ q11 h_a1) ⟨by decide, by decide, rfl, rfl⟩ ⟨rfl, rfl⟩ (by decide) rfl (by decide) k_98 rfl rfl ⟨mk_X3_55, mi_X3_search⟩ hd_X3_search rfl hl.1 (Nat.le_of_ble_eq_true rfl) dX3_look_59 (fun H locs hP hS => ?_)
        exact pg_vret hC hr hlk hP hS hf dX3_look_62
    · replace hf := ite_f c1 hf
      refine lv_aload_n hx hb dX3_look_26 rfl (lv_at hl 0 rfl) ?_
      refine gf_X3_15 hC hP k_98 (v := .ref (ad 100)) rfl dX3_look_27 ?_
      refine lv_iload_n hx hb dX3_look_30 rfl (lv_at hl 2 rfl) ?_
      refine lv_bipush (v := 15) hx hb dX3_look_31 (by decide) ?_
      obtain ⟨h12, hf⟩ := gd_some hf
      obtain ⟨S13, eS13, hf⟩ := bnd_some hf
      refine pg_iast hC hP hS k_100 (bin_in h12) dX3_look_33 (fun H locs hP hS => ?_)
      rw [← eS13] at hP
      obtain ⟨v14, ev14, hf⟩ := bnd_some hf
      refine lv_iinc (v := v14) (lv' := [(2, .int v14), (0, .ref (ad 98)), (1, .ref (ad a1))]) hx hb dX3_look_34 hl (k := 2) rfl (by rw [ev14]; rfl) (by decide) rfl (fun ls hl => ?_)
      refine lv_goto (tgt := 20) hx hb dX3_look_37 (by decide) ?_
      exact ih _ _ _ _ _ _ hf h_a1 hP hS (lv_sub hl [1, 2, 0] rfl)
def P_X3_look (N : Nat) (S : PSt) (a1 : Nat) : Option PSt := if (gI S 301 98) = (0 : Int32) then (bnd (sI S 301 98 (1 : Int32)) fun S16 => bnd (sI S16 302 98 (0 : Int32)) fun S17 => P_X3_look_L20 N N S17 a1 (0 : Int32)) else (some S)
set_option maxHeartbeats 4000000 in
set_option maxRecDepth 100000 in
theorem c_X3_look (l : Launch) {D : va_G} {cy : Nat → ClassId} {ad tb : Nat → Nat} (hJ : pJ ad) {N : Nat} {S S' : PSt} {a1 : Nat} (hf : P_X3_look N S a1 = some S') (h_a1 : kd a1 = 4) : Ct l 13 yX3_look cX3_look 3 none D cy ad tb S S' [.ref (ad 98), .ref (ad a1)] none := by
  refine Ct_of hJ (by decide) (Nat.le_of_ble_eq_true rfl) (fun p e s m below meth c ls hX hP hS hl => ?_)
  have hl : lv_has ls 3 [(0, .ref (ad 98)), (1, .ref (ad a1))] := hl
  have hX0 := hX
  obtain ⟨hC, hml, hr, hlk⟩ := hX0
  have hx := hC.1
  have hb := hC.2.1
  unfold P_X3_look at hf
  refine lv_aload_n hx hb dX3_look_0 rfl (lv_at hl 0 rfl) ?_
  refine gf_X3_41 hC hP k_98 (v := .int (gI S 301 98)) rfl dX3_look_1 ?_
  refine lv_if_eq (tgt := 8) hx hb dX3_look_4 (by decide) (fun c15 => ?_) (fun c15 => ?_)
  · replace hf := ite_t c15 hf
    refine lv_aload_n hx hb dX3_look_8 rfl (lv_at hl 0 rfl) ?_
    refine lv_iconst (v := 1) hx hb dX3_look_9 (by decide) ?_
    obtain ⟨S16, eS16, hf⟩ := bnd_some hf
    refine pf_X3_41 hC hP hS k_98 (by decide) eS16 dX3_look_10 (fun H locs hP hS => ?_)
    refine lv_aload_n hx hb dX3_look_13 rfl (lv_at hl 0 rfl) ?_
    refine lv_iconst (v := 0) hx hb dX3_look_14 (by decide) ?_
    obtain ⟨S17, eS17, hf⟩ := bnd_some hf
    refine pf_X3_45 hC hP hS k_98 eS17 dX3_look_15 (fun H locs hP hS => ?_)
    refine lv_iconst (v := 0) hx hb dX3_look_18 (by decide) ?_
    refine lv_istore_n (lv' := [(2, .int (0 : Int32)), (0, .ref (ad 98)), (1, .ref (ad a1))]) hx hb dX3_look_19 rfl hl (by decide) rfl (fun ls hl => ?_)
    exact w_X3_look_L20 hX _ _ _ _ _ _ _ hf h_a1 hP hS (lv_sub hl [1, 2, 0] rfl)
  · replace hf := ite_f c15 hf
    exact pg_vret hC hr hlk hP hS hf dX3_look_7
end GEN
