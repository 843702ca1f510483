theorem eqi_any {args : Array Value} {s : State} {tm : Term} {z : Int32} (h : (Cond.eq tm (.int z)).before args s = true) : tm.eval args s none [] s = some (.int z) := by
  cases hv : tm.eval args s none [] s with
  | none => simp [Cond.before, Cond.holds, Cond.value, hv] at h
  | some w =>
    have hz : (Term.int z).eval args s none [] s = some (.int z) := rfl
    simp only [Cond.before, Cond.holds, Cond.value, hv, hz] at h
    cases w <;> simp_all
section STF
variable {D : va_G} {cl : List vw_C} {H : Heap} {A : Nat → Prop}
theorem F2_refl : ∀ ws : va_W, F2 D cl H ws ws
  | [] => trivial
  | _ :: ws => ⟨cE_eq rfl, F2_refl ws⟩
theorem F2_of {ws ws' : va_W} (h : ws = ws') : F2 D cl H ws ws' := by subst h; exact F2_refl ws
theorem start_F2 (cy : Nat → ClassId) (F G ad : Nat → Nat) (had : ad = fun i => if i < 158 then F i else G (i - 158)) : F2 D cl H (([] ++ subX cy F) ++ subM cy G) (pW cy ad S0) := by
  have e : List.range 158 = List.range' 0 27 ++ List.range' 27 1 ++ List.range' 28 20 ++ List.range' 48 1 ++ List.range' 49 3 ++ List.range' 52 1 ++ List.range' 53 23 ++ List.range' 76 1 ++ List.range' 77 28 ++ List.range' 105 1 ++ List.range' 106 17 ++ List.range' 123 1 ++ List.range' 124 17 ++ List.range' 141 1 ++ List.range' 142 16 := by decide +kernel
  have e1 : List.range NR = (List.range' 0 27 ++ List.range' 27 1 ++ List.range' 28 20 ++ List.range' 48 1 ++ List.range' 49 3 ++ List.range' 52 1 ++ List.range' 53 23 ++ List.range' 76 1 ++ List.range' 77 28 ++ List.range' 105 1 ++ List.range' 106 17 ++ List.range' 123 1 ++ List.range' 124 17 ++ List.range' 141 1 ++ List.range' 142 16) ++ List.range' 158 18 := by decide +kernel
  have hlt : ∀ i, i < 158 → F i = ad i := fun i hi => by rw [had]; exact (if_pos hi).symm
  have sX : subX cy F = seg cy F 0 27 ++ seg cy F 27 1 ++ seg cy F 28 20 ++ seg cy F 48 1 ++ seg cy F 49 3 ++ seg cy F 52 1 ++ seg cy F 53 23 ++ seg cy F 76 1 ++ seg cy F 77 28 ++ seg cy F 105 1 ++ seg cy F 106 17 ++ seg cy F 123 1 ++ seg cy F 124 17 ++ seg cy F 141 1 ++ seg cy F 142 16 := by
    unfold subX seg
    rw [e]
    simp only [List.map_append]
  have sW : pW cy ad S0 = (seg cy ad 0 27 ++ seg cy ad 27 1 ++ seg cy ad 28 20 ++ seg cy ad 48 1 ++ seg cy ad 49 3 ++ seg cy ad 52 1 ++ seg cy ad 53 23 ++ seg cy ad 76 1 ++ seg cy ad 77 28 ++ seg cy ad 105 1 ++ seg cy ad 106 17 ++ seg cy ad 123 1 ++ seg cy ad 124 17 ++ seg cy ad 141 1 ++ seg cy ad 142 16) ++ seg cy ad 158 18 := by
    unfold pW seg
    rw [e1]
    simp only [List.map_append]
  rw [List.nil_append, sX, sW]
  refine F2.app ?_ (F2_of (by subst had; rfl))
  have s0 : F2 D cl H (seg cy F 0 27) (seg cy ad 0 27) := F2_of (by subst had; rfl)
  have s1 : F2 D cl H (seg cy F 27 1) (seg cy ad 27 1) := ⟨cE_arr (hlt 27 (by omega)) (fun i hi => congrArg some (hlt (27 + 1 + 2 * i) (by have : i < 10 := hi; omega))), trivial⟩
  have s2 : F2 D cl H (seg cy F 28 20) (seg cy ad 28 20) := F2_of (by subst had; rfl)
  have s3 : F2 D cl H (seg cy F 48 1) (seg cy ad 48 1) := ⟨cE_arr (hlt 48 (by omega)) (fun i hi => congrArg some (hlt (49 + 24 * i) (by have : i < 2 := hi; omega))), trivial⟩
  have s4 : F2 D cl H (seg cy F 49 3) (seg cy ad 49 3) := F2_of (by subst had; rfl)
  have s5 : F2 D cl H (seg cy F 52 1) (seg cy ad 52 1) := ⟨cE_arr (hlt 52 (by omega)) (fun i hi => congrArg some (hlt (52 + 1 + 2 * i) (by have : i < 10 := hi; omega))), trivial⟩
  have s6 : F2 D cl H (seg cy F 53 23) (seg cy ad 53 23) := F2_of (by subst had; rfl)
  have s7 : F2 D cl H (seg cy F 76 1) (seg cy ad 76 1) := ⟨cE_arr (hlt 76 (by omega)) (fun i hi => congrArg some (hlt (76 + 1 + 2 * i) (by have : i < 10 := hi; omega))), trivial⟩
  have s8 : F2 D cl H (seg cy F 77 28) (seg cy ad 77 28) := F2_of (by subst had; rfl)
  have s9 : F2 D cl H (seg cy F 105 1) (seg cy ad 105 1) := ⟨cE_arr (hlt 105 (by omega)) (fun i hi => congrArg some (hlt (105 + 1 + 2 * i) (by have : i < 7 := hi; omega))), trivial⟩
  have s10 : F2 D cl H (seg cy F 106 17) (seg cy ad 106 17) := F2_of (by subst had; rfl)
  have s11 : F2 D cl H (seg cy F 123 1) (seg cy ad 123 1) := ⟨cE_arr (hlt 123 (by omega)) (fun i hi => congrArg some (hlt (123 + 1 + 2 * i) (by have : i < 7 := hi; omega))), trivial⟩
  have s12 : F2 D cl H (seg cy F 124 17) (seg cy ad 124 17) := F2_of (by subst had; rfl)
  have s13 : F2 D cl H (seg cy F 141 1) (seg cy ad 141 1) := ⟨cE_arr (hlt 141 (by omega)) (fun i hi => congrArg some (hlt (141 + 1 + 2 * i) (by have : i < 7 := hi; omega))), trivial⟩
  have s14 : F2 D cl H (seg cy F 142 16) (seg cy ad 142 16) := F2_of (by subst had; rfl)
  exact ((((((((((((((s0.app s1).app s2).app s3).app s4).app s5).app s6).app s7).app s8).app s9).app s10).app s11).app s12).app s13).app s14)
end STF
/-- the tables of classes and array classes at the start -/
theorem start_K {args : Array Value} {s : State} (hts : ∀ w ∈ lw_tbl, w.before args s = true) : ∃ (D : va_G) (cy : Nat → ClassId), va_K D vwCl (tys cy) s := by
  obtain ⟨c0, iS0, hK0⟩ := u_known (C := RX0) (T := TX0) (N := 4) (n := 4) hts inX0 (hts (.instantiable RX0 4) (List.mem_of_getElem? (i := 198) (by decide +kernel)))
  obtain ⟨c1, iS1, hK1⟩ := u_known (C := RX1) (T := TX1) (N := 6) (n := 6) hts inX1 (hts (.instantiable RX1 6) (List.mem_of_getElem? (i := 286) (by decide +kernel)))
  obtain ⟨c2, iS2, hK2⟩ := u_known (C := RX2) (T := TX2) (N := 9) (n := 9) hts inX2 (hts (.instantiable RX2 9) (List.mem_of_getElem? (i := 78) (by decide +kernel)))
  obtain ⟨c3, iS3, hK3⟩ := u_known (C := RX3) (T := TX3) (N := 11) (n := 11) hts inX3 (hts (.instantiable RX3 11) (List.mem_of_getElem? (i := 238) (by decide +kernel)))
  obtain ⟨c4, iS4, hK4⟩ := u_known (C := RX4) (T := TX4) (N := 14) (n := 14) hts inX4 (hts (.instantiable RX4 14) (List.mem_of_getElem? (i := 115) (by decide +kernel)))
  obtain ⟨c5, iS5, hK5⟩ := u_known (C := RX5) (T := TX5) (N := 3) (n := 3) hts inX5 (hts (.instantiable RX5 3) (List.mem_of_getElem? (i := 192) (by decide +kernel)))
  obtain ⟨c6, iS6, hK6⟩ := u_known (C := RX6) (T := TX6) (N := 11) (n := 11) hts inX6 (hts (.instantiable RX6 11) (List.mem_of_getElem? (i := 70) (by decide +kernel)))
  obtain ⟨c7, iS7, hK7⟩ := u_known (C := RX7) (T := TX7) (N := 34) (n := 34) hts inX7 (hts (.instantiable RX7 34) (List.mem_of_getElem? (i := 749) (by decide +kernel)))
  obtain ⟨a8, k8, m8, e8, f8, g8⟩ := Cond.arrayClass_spec (hts (.arrayClass .int) (List.mem_of_getElem? (i := 113) (by decide +kernel)))
  obtain ⟨a9, k9, m9, e9, f9, g9⟩ := Cond.arrayClass_spec (hts (.arrayClass .boolean) (List.mem_of_getElem? (i := 284) (by decide +kernel)))
  obtain ⟨m10, a10, k10, b10, -, f10, g10, e10⟩ := Cond.arrayOver_spec (hts (.arrayOver (.object RX0)) (List.mem_of_getElem? (i := 223) (by decide +kernel)))
  obtain ⟨m11, a11, k11, b11, -, f11, g11, e11⟩ := Cond.arrayOver_spec (hts (.arrayOver (.object RX5)) (List.mem_of_getElem? (i := 236) (by decide +kernel)))
  refine ⟨(fun k => [c0, c1, c2, c3, c4, c5, c6, c7].getD k c0, fun k => [iS0, iS1, iS2, iS3, iS4, iS5, iS6, iS7].getD k iS0), fun k => [0, 0, 0, 0, 0, 0, 0, 0, a8, a9, a10, a11].getD k 0, ?_, ?_⟩
  · intro k q hq
    match k, hq with
    | 0, hq => cases hq; exact hK0
    | 1, hq => cases hq; exact hK1
    | 2, hq => cases hq; exact hK2
    | 3, hq => cases hq; exact hK3
    | 4, hq => cases hq; exact hK4
    | 5, hq => cases hq; exact hK5
    | 6, hq => cases hq; exact hK6
    | 7, hq => cases hq; exact hK7
    | k + 8, hq => simp [vwCl] at hq
  · intro k q hq
    match k, hq with
    | 0, hq => cases hq; exact ⟨fun N z => ⟨(fun k h => by cases h), k8, f8, m8, g8⟩, e8⟩
    | 1, hq => cases hq; exact ⟨fun N z => ⟨(fun k h => by cases h), k9, f9, m9, g9⟩, e9⟩
    | 2, hq => cases hq; exact ⟨fun N z => ⟨(fun k h => by cases h), k10, f10, m10, g10⟩, k10, m10, f10, g10, b10, e10⟩
    | 3, hq => cases hq; exact ⟨fun N z => ⟨(fun k h => by cases h), k11, f11, m11, g11⟩, k11, m11, f11, g11, b11, e11⟩
    | k + 4, hq => simp [tys] at hq
theorem start_N {args : Array Value} {s : State} (hts : ∀ w ∈ lw_tbl, w.before args s = true) : NX s := by
  refine ⟨fun q hq => ?_, va_AO.of (A := args) (hts _ (List.mem_of_getElem? (i := 223) (by decide +kernel))), va_AO.of (A := args) (hts _ (List.mem_of_getElem? (i := 236) (by decide +kernel)))⟩
  refine va_Nw.of rfl (A := args) (hts _ ?_)
  simp only [nestL, List.mem_cons, List.not_mem_nil, or_false] at hq
  rcases hq with h | h | h | h | h | h | h <;> subst h
  · exact List.mem_of_getElem? (i := 79) (by decide +kernel)
  · exact List.mem_of_getElem? (i := 116) (by decide +kernel)
  · exact List.mem_of_getElem? (i := 199) (by decide +kernel)
  · exact List.mem_of_getElem? (i := 244) (by decide +kernel)
  · exact List.mem_of_getElem? (i := 292) (by decide +kernel)
  · exact List.mem_of_getElem? (i := 316) (by decide +kernel)
  · exact List.mem_of_getElem? (i := 671) (by decide +kernel)
set_option maxRecDepth 100000 in
theorem start_T0 {args : Array Value} {s : State} {A : Nat → Prop} (hts : ∀ w ∈ lw_tbl, w.before args s = true) (hgv : (Jvm.Cond.and given_1 narrow_1).before args s = true) (hA : ∀ a : Nat, a < s.heap.size → ¬ A a) : ∃ t : Nat, va_Z RX2 (stN 0) "[I" (.ref t) A s s.heap ∧ va_T .int t (stL 0) (fun j => .int (stV 0 j)) A s s.heap := by
  have hs := flat_of_before _ hgv
  obtain ⟨t, h1, h2⟩ := va_Tof (tm := .static "BoatLeggers$Reader" "WALKER_BOUNDS" "[I") (ty := .int) (N := 4) (f := fun j => .int (stV 0 j)) (A := A) (by decide) (hs _ (by decide +kernel)) (eqi_any (hs (.eq (.length (.static "BoatLeggers$Reader" "WALKER_BOUNDS" "[I")) (.int 4)) (by decide +kernel))) (fun j hj => by
    rcases (show j = 0 ∨ j = 1 ∨ j = 2 ∨ j = 3 by omega) with rfl | rfl | rfl | rfl
    · exact eqi_any (hs (.eq (.elem (.static "BoatLeggers$Reader" "WALKER_BOUNDS" "[I") (.int 0)) (.int 1)) (by decide +kernel))
    · exact eqi_any (hs (.eq (.elem (.static "BoatLeggers$Reader" "WALKER_BOUNDS" "[I") (.int 1)) (.int 9)) (by decide +kernel))
    · exact eqi_any (hs (.eq (.elem (.static "BoatLeggers$Reader" "WALKER_BOUNDS" "[I") (.int 2)) (.int 1)) (by decide +kernel))
    · exact eqi_any (hs (.eq (.elem (.static "BoatLeggers$Reader" "WALKER_BOUNDS" "[I") (.int 3)) (.int 40)) (by decide +kernel))) hA
  exact ⟨t, va_Zref (hts (.laysStatic "BoatLeggers$Reader" "WALKER_BOUNDS" "[I") (List.mem_of_getElem? (i := 404) (by decide +kernel))) (hts (.initialized "BoatLeggers$Reader") (List.mem_of_getElem? (i := 61) (by decide +kernel))) h1 hA, h2⟩
set_option maxRecDepth 100000 in
theorem start_T1 {args : Array Value} {s : State} {A : Nat → Prop} (hts : ∀ w ∈ lw_tbl, w.before args s = true) (hgv : (Jvm.Cond.and given_1 narrow_1).before args s = true) (hA : ∀ a : Nat, a < s.heap.size → ¬ A a) : ∃ t : Nat, va_Z RX2 (stN 1) "[I" (.ref t) A s s.heap ∧ va_T .int t (stL 1) (fun j => .int (stV 1 j)) A s s.heap := by
  have hs := flat_of_before _ hgv
  obtain ⟨t, h1, h2⟩ := va_Tof (tm := .static "BoatLeggers$Reader" "STRETCH_BOUNDS" "[I") (ty := .int) (N := 8) (f := fun j => .int (stV 1 j)) (A := A) (by decide) (hs _ (by decide +kernel)) (eqi_any (hs (.eq (.length (.static "BoatLeggers$Reader" "STRETCH_BOUNDS" "[I")) (.int 8)) (by decide +kernel))) (fun j hj => by
    rcases (show j = 0 ∨ j = 1 ∨ j = 2 ∨ j = 3 ∨ j = 4 ∨ j = 5 ∨ j = 6 ∨ j = 7 by omega) with rfl | rfl | rfl | rfl | rfl | rfl | rfl | rfl
    · exact eqi_any (hs (.eq (.elem (.static "BoatLeggers$Reader" "STRETCH_BOUNDS" "[I") (.int 0)) (.int 1)) (by decide +kernel))
    · exact eqi_any (hs (.eq (.elem (.static "BoatLeggers$Reader" "STRETCH_BOUNDS" "[I") (.int 1)) (.int 9)) (by decide +kernel))
    · exact eqi_any (hs (.eq (.elem (.static "BoatLeggers$Reader" "STRETCH_BOUNDS" "[I") (.int 2)) (.int 2)) (by decide +kernel))
    · exact eqi_any (hs (.eq (.elem (.static "BoatLeggers$Reader" "STRETCH_BOUNDS" "[I") (.int 3)) (.int 18)) (by decide +kernel))
    · exact eqi_any (hs (.eq (.elem (.static "BoatLeggers$Reader" "STRETCH_BOUNDS" "[I") (.int 4)) (.int 0)) (by decide +kernel))
    · exact eqi_any (hs (.eq (.elem (.static "BoatLeggers$Reader" "STRETCH_BOUNDS" "[I") (.int 5)) (.int 1)) (by decide +kernel))
    · exact eqi_any (hs (.eq (.elem (.static "BoatLeggers$Reader" "STRETCH_BOUNDS" "[I") (.int 6)) (.int 0)) (by decide +kernel))
    · exact eqi_any (hs (.eq (.elem (.static "BoatLeggers$Reader" "STRETCH_BOUNDS" "[I") (.int 7)) (.int 1)) (by decide +kernel))) hA
  exact ⟨t, va_Zref (hts (.laysStatic "BoatLeggers$Reader" "STRETCH_BOUNDS" "[I") (List.mem_of_getElem? (i := 406) (by decide +kernel))) (hts (.initialized "BoatLeggers$Reader") (List.mem_of_getElem? (i := 61) (by decide +kernel))) h1 hA, h2⟩
set_option maxRecDepth 100000 in
theorem start_T2 {args : Array Value} {s : State} {A : Nat → Prop} (hts : ∀ w ∈ lw_tbl, w.before args s = true) (hgv : (Jvm.Cond.and given_1 narrow_1).before args s = true) (hA : ∀ a : Nat, a < s.heap.size → ¬ A a) : ∃ t : Nat, va_Z RX2 (stN 2) "[I" (.ref t) A s s.heap ∧ va_T .int t (stL 2) (fun j => .int (stV 2 j)) A s s.heap := by
  have hs := flat_of_before _ hgv
  obtain ⟨t, h1, h2⟩ := va_Tof (tm := .static "BoatLeggers$Reader" "CHANGE_BOUNDS" "[I") (ty := .int) (N := 2) (f := fun j => .int (stV 2 j)) (A := A) (by decide) (hs _ (by decide +kernel)) (eqi_any (hs (.eq (.length (.static "BoatLeggers$Reader" "CHANGE_BOUNDS" "[I")) (.int 2)) (by decide +kernel))) (fun j hj => by
    rcases (show j = 0 ∨ j = 1 by omega) with rfl | rfl
    · exact eqi_any (hs (.eq (.elem (.static "BoatLeggers$Reader" "CHANGE_BOUNDS" "[I") (.int 0)) (.int 0)) (by decide +kernel))
    · exact eqi_any (hs (.eq (.elem (.static "BoatLeggers$Reader" "CHANGE_BOUNDS" "[I") (.int 1)) (.int 9)) (by decide +kernel))) hA
  exact ⟨t, va_Zref (hts (.laysStatic "BoatLeggers$Reader" "CHANGE_BOUNDS" "[I") (List.mem_of_getElem? (i := 408) (by decide +kernel))) (hts (.initialized "BoatLeggers$Reader") (List.mem_of_getElem? (i := 61) (by decide +kernel))) h1 hA, h2⟩
set_option maxRecDepth 100000 in
theorem start_T3 {args : Array Value} {s : State} {A : Nat → Prop} (hts : ∀ w ∈ lw_tbl, w.before args s = true) (hgv : (Jvm.Cond.and given_1 narrow_1).before args s = true) (hA : ∀ a : Nat, a < s.heap.size → ¬ A a) : ∃ t : Nat, va_Z RX2 (stN 3) "[I" (.ref t) A s s.heap ∧ va_T .int t (stL 3) (fun j => .int (stV 3 j)) A s s.heap := by
  have hs := flat_of_before _ hgv
  obtain ⟨t, h1, h2⟩ := va_Tof (tm := .static "BoatLeggers$Reader" "HOURS_BOUNDS" "[I") (ty := .int) (N := 2) (f := fun j => .int (stV 3 j)) (A := A) (by decide) (hs _ (by decide +kernel)) (eqi_any (hs (.eq (.length (.static "BoatLeggers$Reader" "HOURS_BOUNDS" "[I")) (.int 2)) (by decide +kernel))) (fun j hj => by
    rcases (show j = 0 ∨ j = 1 by omega) with rfl | rfl
    · exact eqi_any (hs (.eq (.elem (.static "BoatLeggers$Reader" "HOURS_BOUNDS" "[I") (.int 0)) (.int 10)) (by decide +kernel))
    · exact eqi_any (hs (.eq (.elem (.static "BoatLeggers$Reader" "HOURS_BOUNDS" "[I") (.int 1)) (.int 99)) (by decide +kernel))) hA
  exact ⟨t, va_Zref (hts (.laysStatic "BoatLeggers$Reader" "HOURS_BOUNDS" "[I") (List.mem_of_getElem? (i := 410) (by decide +kernel))) (hts (.initialized "BoatLeggers$Reader") (List.mem_of_getElem? (i := 61) (by decide +kernel))) h1 hA, h2⟩
set_option maxHeartbeats 40000000 in
set_option maxRecDepth 100000 in
theorem whole_start_of {p : Program} {e : Env} {s : State} {m : MethodId} {below : List Frame} {meth : Method} {c : Code} (l : Launch) {b L : Nat} {xs : Nat → Int32} (hpure : ∃ (N n : Nat) (S' : PSt), P_L_law_L18 xs L N n S0 0 = some (1, S')) (C0 : lw_At p s m meth c b L xs) : W p l e room_1 s m #[Value.ref b] below meth c s.heap [] 0 0 (lw_Z below #[Value.ref b] s) (entryFrame m ([Value.ref b] : List Value).toArray 4) := by
  obtain ⟨hx, hb, hr, hml, hown, hts, hX, hbl, hlocks, hgv⟩ := C0
  obtain ⟨D, cy, hK⟩ := start_K hts
  have hN := start_N hts
  have htg : ∀ w ∈ lw_tg, w.before #[Value.ref b] s = true := fun w h => hts w (List.mem_filter.mp h).1
  have hC : Cz p s m #[Value.ref b] c code RL D cy := ⟨hx, hb, htg, hown, hK, hN⟩
  have hA : ∀ q : Nat, s.heap.size ≤ q → (fun q : Nat => s.heap.size ≤ q) q := fun _ h => h
  have hS : va_S (fun q : Nat => s.heap.size ≤ q) s.heap s.heap [] := va_S.rf
  have hP : va_P D vwCl [] s.heap := fun k q h => by simp at h
  have hD : va_D (fun q : Nat => s.heap.size ≤ q) [] := ⟨fun i j p q h => by simp at h, fun k q h => by simp at h⟩
  have hl := lv_entry ([.ref b]) (n := 4) (Nat.le_of_ble_eq_true rfl)
  rw [lg_entry_eq]
  generalize (lg_sl ([.ref b]) ++ List.replicate (4 - (lg_sl ([.ref b])).length) Slot.unset).toArray = ls at hl ⊢
  have hl : lv_has ls 4 [(0, .ref b)] := hl
  refine va_new (D := D) (ci := 6) (fs := [.null, .null, .null, .null, .null, .null, .null, .null, .null, .null, .long 0]) (C := RX6) (T := TX6) (N := 11) hx hb htg jX6 tyX6 tyX6_ok hown (htg _ (tg_at 69 (by decide +kernel) rfl)) (htg _ (tg_at 70 (by decide +kernel) rfl)) (htg _ (tg_at 60 (by decide +kernel) rfl)) hK hP hD hS hA rfl (fun j hj => by rcases (show j = 0 ∨ j = 1 ∨ j = 2 ∨ j = 3 ∨ j = 4 ∨ j = 5 ∨ j = 6 ∨ j = 7 ∨ j = 8 ∨ j = 9 ∨ j = 10 by omega) with rfl | rfl | rfl | rfl | rfl | rfl | rfl | rfl | rfl | rfl | rfl <;> rfl) (by decide) (by decide) dL_law_0 (fun q6 H hP hD hS => ?_)
  refine W.widen (k := 1) (n := 11) (by decide) (by decide) ?_
  refine lv_dup hx hb dL_law_3 rfl ?_
  refine kt_callI (As := []) (rst := fun z => [.ref z]) hC hml hP hD hS hA (k_X6_init l q6) ⟨by decide, by decide⟩ ⟨by decide, by decide⟩ (by decide) (tg_at 71 (by decide +kernel) rfl) rfl mi_X6_init hd_X6_init rfl hl.1 (Nat.le_of_ble_eq_true rfl) dL_law_4 (fun F H locs hP hD hS => ?_)
  refine W.widen (k := 158) (n := 943) (by decide) (by decide) ?_
  refine lv_astore_n (lv' := [(1, .ref (F 0)), (0, .ref b)]) hx hb dL_law_7 rfl hl (by decide) rfl (fun ls hl => ?_)
  refine va_new (D := D) (ci := 7) (fs := [.int 0, .null, .int 0, .null, .int 0, .int 0, .null, .null, .int 0, .null, .null, .int 0, .null, .long 0, .null, .int 0, .int 0, .int 0, .int 0, .int 0, .int 0, .int 0, .null, .int 0, .null, .null, .null, .null, .null, .null, .null, .null, .int 0, .int 0]) (C := RX7) (T := TX7) (N := 34) hx hb htg jX7 tyX7 tyX7_ok hown (htg _ (tg_at 748 (by decide +kernel) rfl)) (htg _ (tg_at 749 (by decide +kernel) rfl)) (htg _ (tg_at 67 (by decide +kernel) rfl)) hK hP hD hS hA rfl (fun j hj => by rcases (show j = 0 ∨ j = 1 ∨ j = 2 ∨ j = 3 ∨ j = 4 ∨ j = 5 ∨ j = 6 ∨ j = 7 ∨ j = 8 ∨ j = 9 ∨ j = 10 ∨ j = 11 ∨ j = 12 ∨ j = 13 ∨ j = 14 ∨ j = 15 ∨ j = 16 ∨ j = 17 ∨ j = 18 ∨ j = 19 ∨ j = 20 ∨ j = 21 ∨ j = 22 ∨ j = 23 ∨ j = 24 ∨ j = 25 ∨ j = 26 ∨ j = 27 ∨ j = 28 ∨ j = 29 ∨ j = 30 ∨ j = 31 ∨ j = 32 ∨ j = 33 by omega) with rfl | rfl | rfl | rfl | rfl | rfl | rfl | rfl | rfl | rfl | rfl | rfl | rfl | rfl | rfl | rfl | rfl | rfl | rfl | rfl | rfl | rfl | rfl | rfl | rfl | rfl | rfl | rfl | rfl | rfl | rfl | rfl | rfl | rfl <;> rfl) (by decide) (by decide) dL_law_8 (fun q7 H hP hD hS => ?_)
  refine W.widen (k := 159) (n := 977) (by decide) (by decide) ?_
  refine lv_dup hx hb dL_law_11 rfl ?_
  refine kt_callI (As := []) (rst := fun z => [.ref z]) hC hml hP hD hS hA (k_X7_init l q7) ⟨by decide, by decide⟩ ⟨by decide, by decide⟩ (by decide) (tg_at 750 (by decide +kernel) rfl) rfl mi_X7_init hd_X7_init rfl hl.1 (Nat.le_of_ble_eq_true rfl) dL_law_12 (fun G H locs hP hD hS => ?_)
  refine W.widen (k := 176) (n := 1551) (by decide) (by decide) ?_
  refine lv_astore_n (lv' := [(2, .ref (G 0)), (1, .ref (F 0)), (0, .ref b)]) hx hb dL_law_15 rfl hl (by decide) rfl (fun ls hl => ?_)
  refine lv_iconst (v := 0) hx hb dL_law_16 (by decide) ?_
  refine lv_istore_n (lv' := [(3, .int 0), (2, .ref (G 0)), (1, .ref (F 0)), (0, .ref b)]) hx hb dL_law_17 rfl hl (by decide) rfl (fun ls hl => ?_)
  obtain ⟨ad, had⟩ : ∃ ad : Nat → Nat, ad = fun i => if i < 158 then F i else G (i - 158) := ⟨_, rfl⟩
  obtain ⟨hP, hD⟩ := (start_F2 cy F G ad had).go hP hD
  have hJ : pJ ad := fun i j hi hj hij => hD.1 i j _ _ (pW_get hi) (pW_get hj) hij
  have hfresh : ∀ q, pA ad s.heap.size q → s.heap.size ≤ q := by
    intro q hq
    rcases hq with ⟨i, hi, rfl⟩ | h
    · exact hD.2 i _ (pW_get hi)
    · exact h
  have hnA : ∀ a : Nat, a < s.heap.size → ¬ pA ad s.heap.size a := fun a ha h => absurd (hfresh a h) (Nat.not_le.mpr ha)
  have hS2 : va_S (pA ad s.heap.size) s.heap H locs := ⟨hS.1, fun q h1 _ => hS.2.1 q h1 (Nat.not_le.mpr h1), fun q hq => Or.inr (hS.2.2 q hq)⟩
  obtain ⟨t0, z0, y0⟩ := start_T0 (A := pA ad s.heap.size) hts hgv hnA
  obtain ⟨t1, z1, y1⟩ := start_T1 (A := pA ad s.heap.size) hts hgv hnA
  obtain ⟨t2, z2, y2⟩ := start_T2 (A := pA ad s.heap.size) hts hgv hnA
  obtain ⟨t3, z3, y3⟩ := start_T3 (A := pA ad s.heap.size) hts hgv hnA
  have hE : Ex ad (fun b => [t0, t1, t2, t3].getD b 0) s := by
    refine ⟨hN.1, fun b hb => ?_⟩
    rcases (show b = 0 ∨ b = 1 ∨ b = 2 ∨ b = 3 by omega) with rfl | rfl | rfl | rfl
    · exact ⟨z0, y0⟩
    · exact ⟨z1, y1⟩
    · exact ⟨z2, y2⟩
    · exact ⟨z3, y3⟩
  obtain ⟨N, n, S', hf⟩ := hpure
  have e0 : ad 0 = F 0 := by rw [had]; rfl
  have e1 : ad 158 = G 0 := by rw [had]; rfl
  have hl : lv_has ls 4 [(0, .ref b), (1, .ref (ad 0)), (2, .ref (ad 158)), (3, .int 0)] := by rw [e0, e1]; exact lv_sub hl [3, 2, 1, 0] rfl
  exact w_L_law_L18 ⟨hx, hb, htg, hown, hK, hJ, hE⟩ hml hr hlocks hX hbl (hnA b hbl) hfresh n S0 0 H locs ls hf hP hS2 hl
