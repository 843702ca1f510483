/-! THE CLAIM OUT OF ONE WALK OF THE LAW'S BODY. Your part is whole_start (and what it stands on); all else here is the same for every law, but numbers. -/
def R_law : String := "BoatLeggersLaw"
def lw_P (b : Addr) (xs : List Int32) (args : Array Value) (s : State) : Prop := args = #[.ref b] ∧ s.IntsAt b xs ∧ xs.length ≤ 2560 ∧ (Jvm.Cond.and given_1 narrow_1).before args s = true
def lw_Q (_ : Array Value) (s : State) (o : Outcome) (t : State) : Prop := o = .returned (some (.int 1)) ∧ Framed s o t [] 600000 7302250
def lw_Z (below : List Frame) (a : Array Value) (s : State) : State → Prop := fun t => ∃ o, t.status = .running ∧ Ended t below o ∧ lw_Q a s o t
/-- the law's own end, with 1 on the stack, nothing written that was there before, its room as the claim has it -/
theorem lw_ret {p : Program} {l : Launch} {e : Env} {s : State} {m : MethodId} {below : List Frame} {meth : Method} {c : Code} {b : Nat} (hx : p.tables.exec = Jvm.exec) (hb : c.code = code) (hr : meth.sig.returnType = ret) (hlocks : meth.locks = false) {pc : Nat} {H : Heap} {ls : Array Slot} (hdg : decode code pc = .ok (.ireturn, 1)) : W p l e room_1 s m #[Value.ref b] below meth c H [] 600000 7302250 (lw_Z below #[Value.ref b] s) (F0 m pc ls [.int 1]) := by
  intro T hT X
  obtain ⟨fs, hret, hrun, hended, hW, hframe⟩ := X.leave (v := some (.int 1)) (hlocks := hlocks) (fun h => by rw [hr] at h; cases h)
  have hmeth' : T.vm.method? m = some meth := X.method'
  refine ⟨T.setFrames fs, ?_, .returned (some (.int 1)), hrun, hended, rfl, ⟨_, rfl⟩, hW, hframe⟩
  jvm_step X.here [X.here.top, hx, hb, hdg, hmeth', hr, ret, narrow_b1]
  (try refine ⟨rfl, ?_⟩); (try refine ⟨rfl, ?_⟩)
  first | (intro acts; rw [hret _ acts rfl rfl rfl]) | rw [hret _ _ rfl rfl rfl]
  exact Steps.refl _
/-- what holds at the law's entry: the machine, the code, the tables' words (any of lw_tbl by 'hts w (by decide +kernel)'), the script of L ints xs at the cell b, what the Statement gives of the start (any of its parts by flat_of_before) -/
def lw_At (p : Program) (s : State) (m : MethodId) (meth : Method) (c : Code) (b L : Nat) (xs : Nat → Int32) : Prop :=
  p.tables.exec = Jvm.exec ∧ c.code = code ∧ meth.sig.returnType = ret ∧ c.maxLocals = 4 ∧ s.vm.findClass R_law = some m.cls ∧ (∀ w ∈ lw_tbl, w.before #[Value.ref b] s = true) ∧ va_X b L xs s s.heap ∧ b < s.heap.size ∧ meth.locks = false ∧ (Jvm.Cond.and given_1 narrow_1).before #[Value.ref b] s = true

section LAWC
variable {p : Program} {l : Launch} {e : Env} {R : Room} {s : State} {m : MethodId} {args : Array Value} {below : List Frame} {meth : Method} {c : Code} {H : Heap} {locs : List Loc} {cells slots : Nat} {Q : State → Prop}
variable {cc : ByteArray} {own : String} {D : va_G} {cy : Nat → ClassId} {ad tb : Nat → Nat} {S : PSt} {pc : Nat} {ls : Array Slot} {rest : List Value} {a index : Nat}
theorem pg_callL {d nL maxL n ci : Nat} {y : MethodName} {bytes : ByteArray} {ret : Option FieldType} {S' : PSt} {r : Option Value} {As : List Value} {C : String} {T : u_T} {N : Nat} (hC : Cx p s m args c cc own D cy ad tb) (hml : c.maxLocals = nL) (hP : va_P D vwCl (pW cy ad S) H) (hS : va_S (pA ad s.heap.size) s.heap H locs)
    (hM : Ct l d y bytes maxL ret D cy ad tb S S' (.ref (ad a) :: As) r) (hR : d + 1 ≤ R.frames ∧ 40 * (d + 1) + 40 ≤ R.locals) (hz : cells ≤ R.cells ∧ slots ≤ R.slots) (hL : maxL ≤ 21)
    (hc : vwCl[ci]? = some (C, T, N)) (hci : ci < 8) (hka : kd a = ci) {st0 st1 : List Value} (hs0 : st0 = As.reverse ++ .ref (ad a) :: rest) (hs1 : r.toList ++ rest = st1) (hw : Cond.methodLink own index y ∈ lw_tg ∧ Cond.instanceMethod y ∈ lw_tg ∧ Cond.selects C y y ∈ lw_tg ∧ Cond.initialized C ∈ lw_tg ∧ Cond.code y bytes maxL ret ∈ lw_tg)
    (hd : y.cls = C ∧ y.cls ≠ "java/lang/invoke/MethodHandle" ∧ y.cls ≠ "java/lang/invoke/VarHandle" ∧ (parseMethodDescriptor y.desc).map (fun d => d.parameters.length) = some n) (hn : As.length = n) (hls : ls.size = nL) (hst : (rest.map fun v => v.category).sum ≤ 8) (hdg : decode cc pc = .ok (.invokevirtual index, 3))
    (kk : ∀ (H1 : Heap) (locs1 : List Loc), va_P D vwCl (pW cy ad S') H1 → va_S (pA ad s.heap.size) s.heap H1 locs1 → W p l e R s m args below meth c H1 locs1 cells slots Q (F0 m (pc + 3) ls st1)) : W p l e R s m args below meth c H locs cells slots Q (F0 m pc ls st0) := by
  subst hs0; subst hs1
  obtain ⟨hx, hb, hts, hown, hK, hJ, hE⟩ := hC
  obtain ⟨hR1, hR2⟩ := hR
  have hG : GoodIn lw_tg (wsV own index C y (wz y bytes maxL ret)) := by
    intro w h
    unfold wsV at h
    rcases List.mem_append.mp h with h | h
    · have h1 : w ∈ lw_tg := by
        simp only [List.mem_cons, List.not_mem_nil, or_false] at h
        rcases h with h | h | h | h <;> subst h
        · exact hw.1
        · exact hw.2.1
        · exact hw.2.2.1
        · exact hw.2.2.2.1
      exact ⟨h1, good_of_word (List.mem_filter.mp h1).2⟩
    · exact lw_tg_good y bytes maxL ret hw.2.2.2.2 w h
  have hlt : a < NR := kd_lt (by omega)
  refine pg_call (d := d) (S' := S') (sz := H.size) rfl hS (va_runV (own := own) (C := C) (index := index) (bytes := bytes) (maxL := maxL) (ret := ret) (n := n) (As := As) (rest := rest) (b := ad a) ⟨hx, hb, hml, hown, hts⟩ (hM H.size) (cwV n hts hG rfl rfl rfl hd ⟨hR1, by show 8 + (maxL + 11) + (40 * d + 40) ≤ R.locals; omega⟩) ⟨pg_blind, va_recv hK hP hc (q0 := a) (by rw [pW_get hlt, pF_obj hci hka]), fun U hU hW => ⟨rfl, by rw [hU], by rw [hU]; exact hP, va_K.moved hW.alike hK, hE.go hS hU hW⟩⟩ rfl hn hls rfl (lv_room hst) hdg ⟨by omega, by omega⟩) kk
end LAWC

theorem mk_L_13 : Cond.methodLink RL 13 yX6_type ∈ lw_tg := (tg_at 351 (by decide +kernel) rfl)
theorem mk_L_17 : Cond.methodLink RL 17 yX7_type ∈ lw_tg := (tg_at 861 (by decide +kernel) rfl)
theorem mk_L_18 : Cond.methodLink RL 18 yX6_clear ∈ lw_tg := (tg_at 355 (by decide +kernel) rfl)
theorem mk_L_22 : Cond.methodLink RL 22 yX7_clear ∈ lw_tg := (tg_at 868 (by decide +kernel) rfl)
theorem mk_L_23 : Cond.methodLink RL 23 yX6_tunnel ∈ lw_tg := (tg_at 359 (by decide +kernel) rfl)
theorem mk_L_26 : Cond.methodLink RL 26 yX7_tunnel ∈ lw_tg := (tg_at 872 (by decide +kernel) rfl)
theorem mk_L_27 : Cond.methodLink RL 27 yX6_walker ∈ lw_tg := (tg_at 455 (by decide +kernel) rfl)
theorem mk_L_31 : Cond.methodLink RL 31 yX7_walker ∈ lw_tg := (tg_at 906 (by decide +kernel) rfl)
theorem mk_L_32 : Cond.methodLink RL 32 yX6_stretch ∈ lw_tg := (tg_at 463 (by decide +kernel) rfl)
theorem mk_L_35 : Cond.methodLink RL 35 yX7_stretch ∈ lw_tg := (tg_at 914 (by decide +kernel) rfl)
theorem mk_L_36 : Cond.methodLink RL 36 yX6_takes ∈ lw_tg := (tg_at 471 (by decide +kernel) rfl)
theorem mk_L_39 : Cond.methodLink RL 39 yX7_takes ∈ lw_tg := (tg_at 922 (by decide +kernel) rfl)
theorem mk_L_40 : Cond.methodLink RL 40 yX6_walks ∈ lw_tg := (tg_at 488 (by decide +kernel) rfl)
theorem mk_L_43 : Cond.methodLink RL 43 yX7_walks ∈ lw_tg := (tg_at 942 (by decide +kernel) rfl)
theorem mk_L_44 : Cond.methodLink RL 44 yX6_backs ∈ lw_tg := (tg_at 519 (by decide +kernel) rfl)
theorem mk_L_47 : Cond.methodLink RL 47 yX7_backs ∈ lw_tg := (tg_at 962 (by decide +kernel) rfl)
theorem mk_L_48 : Cond.methodLink RL 48 yX6_rests ∈ lw_tg := (tg_at 524 (by decide +kernel) rfl)
theorem mk_L_51 : Cond.methodLink RL 51 yX7_rests ∈ lw_tg := (tg_at 966 (by decide +kernel) rfl)
theorem mk_L_52 : Cond.methodLink RL 52 yX6_undo ∈ lw_tg := (tg_at 532 (by decide +kernel) rfl)
theorem mk_L_55 : Cond.methodLink RL 55 yX7_undo ∈ lw_tg := (tg_at 970 (by decide +kernel) rfl)
theorem mk_L_56 : Cond.methodLink RL 56 yX6_now ∈ lw_tg := (tg_at 540 (by decide +kernel) rfl)
theorem mk_L_59 : Cond.methodLink RL 59 yX7_now ∈ lw_tg := (tg_at 974 (by decide +kernel) rfl)
theorem mk_L_60 : Cond.methodLink RL 60 yX6_best ∈ lw_tg := (tg_at 557 (by decide +kernel) rfl)
theorem mk_L_63 : Cond.methodLink RL 63 yX7_best ∈ lw_tg := (tg_at 982 (by decide +kernel) rfl)
theorem mk_L_64 : Cond.methodLink RL 64 yX6_fresh ∈ lw_tg := (tg_at 585 (by decide +kernel) rfl)
theorem mk_L_67 : Cond.methodLink RL 67 yX7_fresh ∈ lw_tg := (tg_at 1010 (by decide +kernel) rfl)
theorem mk_L_68 : Cond.methodLink RL 68 yX6_hired ∈ lw_tg := (tg_at 589 (by decide +kernel) rfl)
theorem mk_L_72 : Cond.methodLink RL 72 yX7_hired ∈ lw_tg := (tg_at 1014 (by decide +kernel) rfl)
theorem mk_L_73 : Cond.methodLink RL 73 yX6_goIn ∈ lw_tg := (tg_at 602 (by decide +kernel) rfl)
theorem mk_L_76 : Cond.methodLink RL 76 yX7_goIn ∈ lw_tg := (tg_at 1029 (by decide +kernel) rfl)
theorem mk_L_77 : Cond.methodLink RL 77 yX6_meets ∈ lw_tg := (tg_at 614 (by decide +kernel) rfl)
theorem mk_L_81 : Cond.methodLink RL 81 yX7_meets ∈ lw_tg := (tg_at 1037 (by decide +kernel) rfl)
theorem mk_L_82 : Cond.methodLink RL 82 yX6_odds ∈ lw_tg := (tg_at 622 (by decide +kernel) rfl)
theorem mk_L_85 : Cond.methodLink RL 85 yX7_odds ∈ lw_tg := (tg_at 1041 (by decide +kernel) rfl)
theorem mk_L_86 : Cond.methodLink RL 86 yX6_saw ∈ lw_tg := (tg_at 637 (by decide +kernel) rfl)
theorem mk_L_89 : Cond.methodLink RL 89 yX7_saw ∈ lw_tg := (tg_at 1045 (by decide +kernel) rfl)
theorem mk_L_90 : Cond.methodLink RL 90 yX6_forget ∈ lw_tg := (tg_at 645 (by decide +kernel) rfl)
theorem mk_L_93 : Cond.methodLink RL 93 yX7_forget ∈ lw_tg := (tg_at 1049 (by decide +kernel) rfl)
theorem mk_L_94 : Cond.methodLink RL 94 yX6_fits ∈ lw_tg := (tg_at 649 (by decide +kernel) rfl)
theorem mk_L_97 : Cond.methodLink RL 97 yX7_fits ∈ lw_tg := (tg_at 1053 (by decide +kernel) rfl)
theorem mk_L_98 : Cond.methodLink RL 98 yX6_surely ∈ lw_tg := (tg_at 682 (by decide +kernel) rfl)
theorem mk_L_101 : Cond.methodLink RL 101 yX7_surely ∈ lw_tg := (tg_at 1061 (by decide +kernel) rfl)
theorem mk_L_102 : Cond.methodLink RL 102 yX6_mark ∈ lw_tg := (tg_at 686 (by decide +kernel) rfl)
theorem mk_L_105 : Cond.methodLink RL 105 yX7_mark ∈ lw_tg := (tg_at 1065 (by decide +kernel) rfl)
theorem mk_L_106 : Cond.methodLink RL 106 yX6_keep ∈ lw_tg := (tg_at 728 (by decide +kernel) rfl)
theorem mk_L_109 : Cond.methodLink RL 109 yX7_keep ∈ lw_tg := (tg_at 1091 (by decide +kernel) rfl)
theorem mk_L_110 : Cond.methodLink RL 110 yX6_back ∈ lw_tg := (tg_at 736 (by decide +kernel) rfl)
theorem mk_L_113 : Cond.methodLink RL 113 yX7_back ∈ lw_tg := (tg_at 1095 (by decide +kernel) rfl)
theorem mk_L_114 : Cond.methodLink RL 114 yX6_count ∈ lw_tg := (tg_at 740 (by decide +kernel) rfl)
theorem mk_L_117 : Cond.methodLink RL 117 yX7_count ∈ lw_tg := (tg_at 1099 (by decide +kernel) rfl)
theorem mk_L_118 : Cond.methodLink RL 118 yX6_trace ∈ lw_tg := (tg_at 744 (by decide +kernel) rfl)
theorem mk_L_122 : Cond.methodLink RL 122 yX7_trace ∈ lw_tg := (tg_at 1103 (by decide +kernel) rfl)
theorem hd_X6_back : yX6_back.cls = RX6 ∧ yX6_back.cls ≠ "java/lang/invoke/MethodHandle" ∧ yX6_back.cls ≠ "java/lang/invoke/VarHandle" ∧ (parseMethodDescriptor yX6_back.desc).map (fun d => d.parameters.length) = some 1 := by decide +kernel
theorem mi_X6_back : Cond.instanceMethod yX6_back ∈ lw_tg ∧ Cond.selects RX6 yX6_back yX6_back ∈ lw_tg ∧ Cond.initialized RX6 ∈ lw_tg ∧ Cond.code yX6_back cX6_back 2 (some .int) ∈ lw_tg := ⟨(tg_at 737 (by decide +kernel) rfl), (tg_at 738 (by decide +kernel) rfl), (tg_at 60 (by decide +kernel) rfl), (tg_at 739 (by decide +kernel) rfl)⟩
theorem hd_X6_backs : yX6_backs.cls = RX6 ∧ yX6_backs.cls ≠ "java/lang/invoke/MethodHandle" ∧ yX6_backs.cls ≠ "java/lang/invoke/VarHandle" ∧ (parseMethodDescriptor yX6_backs.desc).map (fun d => d.parameters.length) = some 0 := by decide +kernel
theorem mi_X6_backs : Cond.instanceMethod yX6_backs ∈ lw_tg ∧ Cond.selects RX6 yX6_backs yX6_backs ∈ lw_tg ∧ Cond.initialized RX6 ∈ lw_tg ∧ Cond.code yX6_backs cX6_backs 4 (some .int) ∈ lw_tg := ⟨(tg_at 520 (by decide +kernel) rfl), (tg_at 521 (by decide +kernel) rfl), (tg_at 60 (by decide +kernel) rfl), (tg_at 522 (by decide +kernel) rfl)⟩
theorem hd_X6_best : yX6_best.cls = RX6 ∧ yX6_best.cls ≠ "java/lang/invoke/MethodHandle" ∧ yX6_best.cls ≠ "java/lang/invoke/VarHandle" ∧ (parseMethodDescriptor yX6_best.desc).map (fun d => d.parameters.length) = some 1 := by decide +kernel
theorem mi_X6_best : Cond.instanceMethod yX6_best ∈ lw_tg ∧ Cond.selects RX6 yX6_best yX6_best ∈ lw_tg ∧ Cond.initialized RX6 ∈ lw_tg ∧ Cond.code yX6_best cX6_best 2 (some .int) ∈ lw_tg := ⟨(tg_at 558 (by decide +kernel) rfl), (tg_at 559 (by decide +kernel) rfl), (tg_at 60 (by decide +kernel) rfl), (tg_at 560 (by decide +kernel) rfl)⟩
theorem hd_X6_clear : yX6_clear.cls = RX6 ∧ yX6_clear.cls ≠ "java/lang/invoke/MethodHandle" ∧ yX6_clear.cls ≠ "java/lang/invoke/VarHandle" ∧ (parseMethodDescriptor yX6_clear.desc).map (fun d => d.parameters.length) = some 0 := by decide +kernel
theorem mi_X6_clear : Cond.instanceMethod yX6_clear ∈ lw_tg ∧ Cond.selects RX6 yX6_clear yX6_clear ∈ lw_tg ∧ Cond.initialized RX6 ∈ lw_tg ∧ Cond.code yX6_clear cX6_clear 2 (some .int) ∈ lw_tg := ⟨(tg_at 356 (by decide +kernel) rfl), (tg_at 357 (by decide +kernel) rfl), (tg_at 60 (by decide +kernel) rfl), (tg_at 358 (by decide +kernel) rfl)⟩
theorem hd_X6_count : yX6_count.cls = RX6 ∧ yX6_count.cls ≠ "java/lang/invoke/MethodHandle" ∧ yX6_count.cls ≠ "java/lang/invoke/VarHandle" ∧ (parseMethodDescriptor yX6_count.desc).map (fun d => d.parameters.length) = some 1 := by decide +kernel
theorem mi_X6_count : Cond.instanceMethod yX6_count ∈ lw_tg ∧ Cond.selects RX6 yX6_count yX6_count ∈ lw_tg ∧ Cond.initialized RX6 ∈ lw_tg ∧ Cond.code yX6_count cX6_count 2 (some .int) ∈ lw_tg := ⟨(tg_at 741 (by decide +kernel) rfl), (tg_at 742 (by decide +kernel) rfl), (tg_at 60 (by decide +kernel) rfl), (tg_at 743 (by decide +kernel) rfl)⟩
theorem hd_X6_fits : yX6_fits.cls = RX6 ∧ yX6_fits.cls ≠ "java/lang/invoke/MethodHandle" ∧ yX6_fits.cls ≠ "java/lang/invoke/VarHandle" ∧ (parseMethodDescriptor yX6_fits.desc).map (fun d => d.parameters.length) = some 1 := by decide +kernel
theorem mi_X6_fits : Cond.instanceMethod yX6_fits ∈ lw_tg ∧ Cond.selects RX6 yX6_fits yX6_fits ∈ lw_tg ∧ Cond.initialized RX6 ∈ lw_tg ∧ Cond.code yX6_fits cX6_fits 2 (some .int) ∈ lw_tg := ⟨(tg_at 650 (by decide +kernel) rfl), (tg_at 651 (by decide +kernel) rfl), (tg_at 60 (by decide +kernel) rfl), (tg_at 652 (by decide +kernel) rfl)⟩
theorem hd_X6_forget : yX6_forget.cls = RX6 ∧ yX6_forget.cls ≠ "java/lang/invoke/MethodHandle" ∧ yX6_forget.cls ≠ "java/lang/invoke/VarHandle" ∧ (parseMethodDescriptor yX6_forget.desc).map (fun d => d.parameters.length) = some 0 := by decide +kernel
theorem mi_X6_forget : Cond.instanceMethod yX6_forget ∈ lw_tg ∧ Cond.selects RX6 yX6_forget yX6_forget ∈ lw_tg ∧ Cond.initialized RX6 ∈ lw_tg ∧ Cond.code yX6_forget cX6_forget 2 (some .int) ∈ lw_tg := ⟨(tg_at 646 (by decide +kernel) rfl), (tg_at 647 (by decide +kernel) rfl), (tg_at 60 (by decide +kernel) rfl), (tg_at 648 (by decide +kernel) rfl)⟩
theorem hd_X6_fresh : yX6_fresh.cls = RX6 ∧ yX6_fresh.cls ≠ "java/lang/invoke/MethodHandle" ∧ yX6_fresh.cls ≠ "java/lang/invoke/VarHandle" ∧ (parseMethodDescriptor yX6_fresh.desc).map (fun d => d.parameters.length) = some 1 := by decide +kernel
theorem mi_X6_fresh : Cond.instanceMethod yX6_fresh ∈ lw_tg ∧ Cond.selects RX6 yX6_fresh yX6_fresh ∈ lw_tg ∧ Cond.initialized RX6 ∈ lw_tg ∧ Cond.code yX6_fresh cX6_fresh 2 (some .int) ∈ lw_tg := ⟨(tg_at 586 (by decide +kernel) rfl), (tg_at 587 (by decide +kernel) rfl), (tg_at 60 (by decide +kernel) rfl), (tg_at 588 (by decide +kernel) rfl)⟩
theorem hd_X6_goIn : yX6_goIn.cls = RX6 ∧ yX6_goIn.cls ≠ "java/lang/invoke/MethodHandle" ∧ yX6_goIn.cls ≠ "java/lang/invoke/VarHandle" ∧ (parseMethodDescriptor yX6_goIn.desc).map (fun d => d.parameters.length) = some 1 := by decide +kernel
theorem mi_X6_goIn : Cond.instanceMethod yX6_goIn ∈ lw_tg ∧ Cond.selects RX6 yX6_goIn yX6_goIn ∈ lw_tg ∧ Cond.initialized RX6 ∈ lw_tg ∧ Cond.code yX6_goIn cX6_goIn 5 (some .int) ∈ lw_tg := ⟨(tg_at 603 (by decide +kernel) rfl), (tg_at 604 (by decide +kernel) rfl), (tg_at 60 (by decide +kernel) rfl), (tg_at 605 (by decide +kernel) rfl)⟩
theorem hd_X6_hired : yX6_hired.cls = RX6 ∧ yX6_hired.cls ≠ "java/lang/invoke/MethodHandle" ∧ yX6_hired.cls ≠ "java/lang/invoke/VarHandle" ∧ (parseMethodDescriptor yX6_hired.desc).map (fun d => d.parameters.length) = some 3 := by decide +kernel
theorem mi_X6_hired : Cond.instanceMethod yX6_hired ∈ lw_tg ∧ Cond.selects RX6 yX6_hired yX6_hired ∈ lw_tg ∧ Cond.initialized RX6 ∈ lw_tg ∧ Cond.code yX6_hired cX6_hired 12 (some .int) ∈ lw_tg := ⟨(tg_at 590 (by decide +kernel) rfl), (tg_at 591 (by decide +kernel) rfl), (tg_at 60 (by decide +kernel) rfl), (tg_at 592 (by decide +kernel) rfl)⟩
theorem hd_X6_keep : yX6_keep.cls = RX6 ∧ yX6_keep.cls ≠ "java/lang/invoke/MethodHandle" ∧ yX6_keep.cls ≠ "java/lang/invoke/VarHandle" ∧ (parseMethodDescriptor yX6_keep.desc).map (fun d => d.parameters.length) = some 1 := by decide +kernel
theorem mi_X6_keep : Cond.instanceMethod yX6_keep ∈ lw_tg ∧ Cond.selects RX6 yX6_keep yX6_keep ∈ lw_tg ∧ Cond.initialized RX6 ∈ lw_tg ∧ Cond.code yX6_keep cX6_keep 2 (some .int) ∈ lw_tg := ⟨(tg_at 729 (by decide +kernel) rfl), (tg_at 730 (by decide +kernel) rfl), (tg_at 60 (by decide +kernel) rfl), (tg_at 731 (by decide +kernel) rfl)⟩
theorem hd_X6_mark : yX6_mark.cls = RX6 ∧ yX6_mark.cls ≠ "java/lang/invoke/MethodHandle" ∧ yX6_mark.cls ≠ "java/lang/invoke/VarHandle" ∧ (parseMethodDescriptor yX6_mark.desc).map (fun d => d.parameters.length) = some 2 := by decide +kernel
theorem mi_X6_mark : Cond.instanceMethod yX6_mark ∈ lw_tg ∧ Cond.selects RX6 yX6_mark yX6_mark ∈ lw_tg ∧ Cond.initialized RX6 ∈ lw_tg ∧ Cond.code yX6_mark cX6_mark 3 (some .int) ∈ lw_tg := ⟨(tg_at 687 (by decide +kernel) rfl), (tg_at 688 (by decide +kernel) rfl), (tg_at 60 (by decide +kernel) rfl), (tg_at 689 (by decide +kernel) rfl)⟩
theorem hd_X6_meets : yX6_meets.cls = RX6 ∧ yX6_meets.cls ≠ "java/lang/invoke/MethodHandle" ∧ yX6_meets.cls ≠ "java/lang/invoke/VarHandle" ∧ (parseMethodDescriptor yX6_meets.desc).map (fun d => d.parameters.length) = some 4 := by decide +kernel
theorem mi_X6_meets : Cond.instanceMethod yX6_meets ∈ lw_tg ∧ Cond.selects RX6 yX6_meets yX6_meets ∈ lw_tg ∧ Cond.initialized RX6 ∈ lw_tg ∧ Cond.code yX6_meets cX6_meets 8 (some .int) ∈ lw_tg := ⟨(tg_at 615 (by decide +kernel) rfl), (tg_at 616 (by decide +kernel) rfl), (tg_at 60 (by decide +kernel) rfl), (tg_at 617 (by decide +kernel) rfl)⟩
theorem hd_X6_now : yX6_now.cls = RX6 ∧ yX6_now.cls ≠ "java/lang/invoke/MethodHandle" ∧ yX6_now.cls ≠ "java/lang/invoke/VarHandle" ∧ (parseMethodDescriptor yX6_now.desc).map (fun d => d.parameters.length) = some 1 := by decide +kernel
theorem mi_X6_now : Cond.instanceMethod yX6_now ∈ lw_tg ∧ Cond.selects RX6 yX6_now yX6_now ∈ lw_tg ∧ Cond.initialized RX6 ∈ lw_tg ∧ Cond.code yX6_now cX6_now 3 (some .int) ∈ lw_tg := ⟨(tg_at 541 (by decide +kernel) rfl), (tg_at 542 (by decide +kernel) rfl), (tg_at 60 (by decide +kernel) rfl), (tg_at 543 (by decide +kernel) rfl)⟩
theorem hd_X6_odds : yX6_odds.cls = RX6 ∧ yX6_odds.cls ≠ "java/lang/invoke/MethodHandle" ∧ yX6_odds.cls ≠ "java/lang/invoke/VarHandle" ∧ (parseMethodDescriptor yX6_odds.desc).map (fun d => d.parameters.length) = some 4 := by decide +kernel
theorem mi_X6_odds : Cond.instanceMethod yX6_odds ∈ lw_tg ∧ Cond.selects RX6 yX6_odds yX6_odds ∈ lw_tg ∧ Cond.initialized RX6 ∈ lw_tg ∧ Cond.code yX6_odds cX6_odds 11 (some .int) ∈ lw_tg := ⟨(tg_at 623 (by decide +kernel) rfl), (tg_at 624 (by decide +kernel) rfl), (tg_at 60 (by decide +kernel) rfl), (tg_at 625 (by decide +kernel) rfl)⟩
theorem hd_X6_rests : yX6_rests.cls = RX6 ∧ yX6_rests.cls ≠ "java/lang/invoke/MethodHandle" ∧ yX6_rests.cls ≠ "java/lang/invoke/VarHandle" ∧ (parseMethodDescriptor yX6_rests.desc).map (fun d => d.parameters.length) = some 1 := by decide +kernel
theorem mi_X6_rests : Cond.instanceMethod yX6_rests ∈ lw_tg ∧ Cond.selects RX6 yX6_rests yX6_rests ∈ lw_tg ∧ Cond.initialized RX6 ∈ lw_tg ∧ Cond.code yX6_rests cX6_rests 2 (some .int) ∈ lw_tg := ⟨(tg_at 525 (by decide +kernel) rfl), (tg_at 526 (by decide +kernel) rfl), (tg_at 60 (by decide +kernel) rfl), (tg_at 527 (by decide +kernel) rfl)⟩
theorem hd_X6_saw : yX6_saw.cls = RX6 ∧ yX6_saw.cls ≠ "java/lang/invoke/MethodHandle" ∧ yX6_saw.cls ≠ "java/lang/invoke/VarHandle" ∧ (parseMethodDescriptor yX6_saw.desc).map (fun d => d.parameters.length) = some 2 := by decide +kernel
theorem mi_X6_saw : Cond.instanceMethod yX6_saw ∈ lw_tg ∧ Cond.selects RX6 yX6_saw yX6_saw ∈ lw_tg ∧ Cond.initialized RX6 ∈ lw_tg ∧ Cond.code yX6_saw cX6_saw 3 (some .int) ∈ lw_tg := ⟨(tg_at 638 (by decide +kernel) rfl), (tg_at 639 (by decide +kernel) rfl), (tg_at 60 (by decide +kernel) rfl), (tg_at 640 (by decide +kernel) rfl)⟩
theorem hd_X6_stretch : yX6_stretch.cls = RX6 ∧ yX6_stretch.cls ≠ "java/lang/invoke/MethodHandle" ∧ yX6_stretch.cls ≠ "java/lang/invoke/VarHandle" ∧ (parseMethodDescriptor yX6_stretch.desc).map (fun d => d.parameters.length) = some 2 := by decide +kernel
theorem mi_X6_stretch : Cond.instanceMethod yX6_stretch ∈ lw_tg ∧ Cond.selects RX6 yX6_stretch yX6_stretch ∈ lw_tg ∧ Cond.initialized RX6 ∈ lw_tg ∧ Cond.code yX6_stretch cX6_stretch 3 (some .int) ∈ lw_tg := ⟨(tg_at 464 (by decide +kernel) rfl), (tg_at 465 (by decide +kernel) rfl), (tg_at 60 (by decide +kernel) rfl), (tg_at 466 (by decide +kernel) rfl)⟩
theorem hd_X6_surely : yX6_surely.cls = RX6 ∧ yX6_surely.cls ≠ "java/lang/invoke/MethodHandle" ∧ yX6_surely.cls ≠ "java/lang/invoke/VarHandle" ∧ (parseMethodDescriptor yX6_surely.desc).map (fun d => d.parameters.length) = some 1 := by decide +kernel
theorem mi_X6_surely : Cond.instanceMethod yX6_surely ∈ lw_tg ∧ Cond.selects RX6 yX6_surely yX6_surely ∈ lw_tg ∧ Cond.initialized RX6 ∈ lw_tg ∧ Cond.code yX6_surely cX6_surely 2 (some .int) ∈ lw_tg := ⟨(tg_at 683 (by decide +kernel) rfl), (tg_at 684 (by decide +kernel) rfl), (tg_at 60 (by decide +kernel) rfl), (tg_at 685 (by decide +kernel) rfl)⟩
theorem hd_X6_takes : yX6_takes.cls = RX6 ∧ yX6_takes.cls ≠ "java/lang/invoke/MethodHandle" ∧ yX6_takes.cls ≠ "java/lang/invoke/VarHandle" ∧ (parseMethodDescriptor yX6_takes.desc).map (fun d => d.parameters.length) = some 2 := by decide +kernel
theorem mi_X6_takes : Cond.instanceMethod yX6_takes ∈ lw_tg ∧ Cond.selects RX6 yX6_takes yX6_takes ∈ lw_tg ∧ Cond.initialized RX6 ∈ lw_tg ∧ Cond.code yX6_takes cX6_takes 3 (some .int) ∈ lw_tg := ⟨(tg_at 472 (by decide +kernel) rfl), (tg_at 473 (by decide +kernel) rfl), (tg_at 60 (by decide +kernel) rfl), (tg_at 474 (by decide +kernel) rfl)⟩
theorem hd_X6_trace : yX6_trace.cls = RX6 ∧ yX6_trace.cls ≠ "java/lang/invoke/MethodHandle" ∧ yX6_trace.cls ≠ "java/lang/invoke/VarHandle" ∧ (parseMethodDescriptor yX6_trace.desc).map (fun d => d.parameters.length) = some 0 := by decide +kernel
theorem mi_X6_trace : Cond.instanceMethod yX6_trace ∈ lw_tg ∧ Cond.selects RX6 yX6_trace yX6_trace ∈ lw_tg ∧ Cond.initialized RX6 ∈ lw_tg ∧ Cond.code yX6_trace cX6_trace 1 (some .long) ∈ lw_tg := ⟨(tg_at 745 (by decide +kernel) rfl), (tg_at 746 (by decide +kernel) rfl), (tg_at 60 (by decide +kernel) rfl), (tg_at 747 (by decide +kernel) rfl)⟩
theorem hd_X6_tunnel : yX6_tunnel.cls = RX6 ∧ yX6_tunnel.cls ≠ "java/lang/invoke/MethodHandle" ∧ yX6_tunnel.cls ≠ "java/lang/invoke/VarHandle" ∧ (parseMethodDescriptor yX6_tunnel.desc).map (fun d => d.parameters.length) = some 0 := by decide +kernel
theorem mi_X6_tunnel : Cond.instanceMethod yX6_tunnel ∈ lw_tg ∧ Cond.selects RX6 yX6_tunnel yX6_tunnel ∈ lw_tg ∧ Cond.initialized RX6 ∈ lw_tg ∧ Cond.code yX6_tunnel cX6_tunnel 4 (some .int) ∈ lw_tg := ⟨(tg_at 360 (by decide +kernel) rfl), (tg_at 361 (by decide +kernel) rfl), (tg_at 60 (by decide +kernel) rfl), (tg_at 362 (by decide +kernel) rfl)⟩
theorem hd_X6_type : yX6_type.cls = RX6 ∧ yX6_type.cls ≠ "java/lang/invoke/MethodHandle" ∧ yX6_type.cls ≠ "java/lang/invoke/VarHandle" ∧ (parseMethodDescriptor yX6_type.desc).map (fun d => d.parameters.length) = some 1 := by decide +kernel
theorem mi_X6_type : Cond.instanceMethod yX6_type ∈ lw_tg ∧ Cond.selects RX6 yX6_type yX6_type ∈ lw_tg ∧ Cond.initialized RX6 ∈ lw_tg ∧ Cond.code yX6_type cX6_type 2 (some .int) ∈ lw_tg := ⟨(tg_at 352 (by decide +kernel) rfl), (tg_at 353 (by decide +kernel) rfl), (tg_at 60 (by decide +kernel) rfl), (tg_at 354 (by decide +kernel) rfl)⟩
theorem hd_X6_undo : yX6_undo.cls = RX6 ∧ yX6_undo.cls ≠ "java/lang/invoke/MethodHandle" ∧ yX6_undo.cls ≠ "java/lang/invoke/VarHandle" ∧ (parseMethodDescriptor yX6_undo.desc).map (fun d => d.parameters.length) = some 0 := by decide +kernel
theorem mi_X6_undo : Cond.instanceMethod yX6_undo ∈ lw_tg ∧ Cond.selects RX6 yX6_undo yX6_undo ∈ lw_tg ∧ Cond.initialized RX6 ∈ lw_tg ∧ Cond.code yX6_undo cX6_undo 1 (some .int) ∈ lw_tg := ⟨(tg_at 533 (by decide +kernel) rfl), (tg_at 534 (by decide +kernel) rfl), (tg_at 60 (by decide +kernel) rfl), (tg_at 535 (by decide +kernel) rfl)⟩
theorem hd_X6_walker : yX6_walker.cls = RX6 ∧ yX6_walker.cls ≠ "java/lang/invoke/MethodHandle" ∧ yX6_walker.cls ≠ "java/lang/invoke/VarHandle" ∧ (parseMethodDescriptor yX6_walker.desc).map (fun d => d.parameters.length) = some 2 := by decide +kernel
theorem mi_X6_walker : Cond.instanceMethod yX6_walker ∈ lw_tg ∧ Cond.selects RX6 yX6_walker yX6_walker ∈ lw_tg ∧ Cond.initialized RX6 ∈ lw_tg ∧ Cond.code yX6_walker cX6_walker 3 (some .int) ∈ lw_tg := ⟨(tg_at 456 (by decide +kernel) rfl), (tg_at 457 (by decide +kernel) rfl), (tg_at 60 (by decide +kernel) rfl), (tg_at 458 (by decide +kernel) rfl)⟩
theorem hd_X6_walks : yX6_walks.cls = RX6 ∧ yX6_walks.cls ≠ "java/lang/invoke/MethodHandle" ∧ yX6_walks.cls ≠ "java/lang/invoke/VarHandle" ∧ (parseMethodDescriptor yX6_walks.desc).map (fun d => d.parameters.length) = some 1 := by decide +kernel
theorem mi_X6_walks : Cond.instanceMethod yX6_walks ∈ lw_tg ∧ Cond.selects RX6 yX6_walks yX6_walks ∈ lw_tg ∧ Cond.initialized RX6 ∈ lw_tg ∧ Cond.code yX6_walks cX6_walks 4 (some .int) ∈ lw_tg := ⟨(tg_at 489 (by decide +kernel) rfl), (tg_at 490 (by decide +kernel) rfl), (tg_at 60 (by decide +kernel) rfl), (tg_at 491 (by decide +kernel) rfl)⟩
theorem hd_X7_back : yX7_back.cls = RX7 ∧ yX7_back.cls ≠ "java/lang/invoke/MethodHandle" ∧ yX7_back.cls ≠ "java/lang/invoke/VarHandle" ∧ (parseMethodDescriptor yX7_back.desc).map (fun d => d.parameters.length) = some 1 := by decide +kernel
theorem mi_X7_back : Cond.instanceMethod yX7_back ∈ lw_tg ∧ Cond.selects RX7 yX7_back yX7_back ∈ lw_tg ∧ Cond.initialized RX7 ∈ lw_tg ∧ Cond.code yX7_back cX7_back 4 (some .int) ∈ lw_tg := ⟨(tg_at 1096 (by decide +kernel) rfl), (tg_at 1097 (by decide +kernel) rfl), (tg_at 67 (by decide +kernel) rfl), (tg_at 1098 (by decide +kernel) rfl)⟩
theorem hd_X7_backs : yX7_backs.cls = RX7 ∧ yX7_backs.cls ≠ "java/lang/invoke/MethodHandle" ∧ yX7_backs.cls ≠ "java/lang/invoke/VarHandle" ∧ (parseMethodDescriptor yX7_backs.desc).map (fun d => d.parameters.length) = some 0 := by decide +kernel
theorem mi_X7_backs : Cond.instanceMethod yX7_backs ∈ lw_tg ∧ Cond.selects RX7 yX7_backs yX7_backs ∈ lw_tg ∧ Cond.initialized RX7 ∈ lw_tg ∧ Cond.code yX7_backs cX7_backs 3 (some .int) ∈ lw_tg := ⟨(tg_at 963 (by decide +kernel) rfl), (tg_at 964 (by decide +kernel) rfl), (tg_at 67 (by decide +kernel) rfl), (tg_at 965 (by decide +kernel) rfl)⟩
theorem hd_X7_best : yX7_best.cls = RX7 ∧ yX7_best.cls ≠ "java/lang/invoke/MethodHandle" ∧ yX7_best.cls ≠ "java/lang/invoke/VarHandle" ∧ (parseMethodDescriptor yX7_best.desc).map (fun d => d.parameters.length) = some 1 := by decide +kernel
theorem mi_X7_best : Cond.instanceMethod yX7_best ∈ lw_tg ∧ Cond.selects RX7 yX7_best yX7_best ∈ lw_tg ∧ Cond.initialized RX7 ∈ lw_tg ∧ Cond.code yX7_best cX7_best 2 (some .int) ∈ lw_tg := ⟨(tg_at 983 (by decide +kernel) rfl), (tg_at 984 (by decide +kernel) rfl), (tg_at 67 (by decide +kernel) rfl), (tg_at 985 (by decide +kernel) rfl)⟩
theorem hd_X7_clear : yX7_clear.cls = RX7 ∧ yX7_clear.cls ≠ "java/lang/invoke/MethodHandle" ∧ yX7_clear.cls ≠ "java/lang/invoke/VarHandle" ∧ (parseMethodDescriptor yX7_clear.desc).map (fun d => d.parameters.length) = some 0 := by decide +kernel
theorem mi_X7_clear : Cond.instanceMethod yX7_clear ∈ lw_tg ∧ Cond.selects RX7 yX7_clear yX7_clear ∈ lw_tg ∧ Cond.initialized RX7 ∈ lw_tg ∧ Cond.code yX7_clear cX7_clear 2 (some .int) ∈ lw_tg := ⟨(tg_at 869 (by decide +kernel) rfl), (tg_at 870 (by decide +kernel) rfl), (tg_at 67 (by decide +kernel) rfl), (tg_at 871 (by decide +kernel) rfl)⟩
theorem hd_X7_count : yX7_count.cls = RX7 ∧ yX7_count.cls ≠ "java/lang/invoke/MethodHandle" ∧ yX7_count.cls ≠ "java/lang/invoke/VarHandle" ∧ (parseMethodDescriptor yX7_count.desc).map (fun d => d.parameters.length) = some 1 := by decide +kernel
theorem mi_X7_count : Cond.instanceMethod yX7_count ∈ lw_tg ∧ Cond.selects RX7 yX7_count yX7_count ∈ lw_tg ∧ Cond.initialized RX7 ∈ lw_tg ∧ Cond.code yX7_count cX7_count 2 (some .int) ∈ lw_tg := ⟨(tg_at 1100 (by decide +kernel) rfl), (tg_at 1101 (by decide +kernel) rfl), (tg_at 67 (by decide +kernel) rfl), (tg_at 1102 (by decide +kernel) rfl)⟩
theorem hd_X7_fits : yX7_fits.cls = RX7 ∧ yX7_fits.cls ≠ "java/lang/invoke/MethodHandle" ∧ yX7_fits.cls ≠ "java/lang/invoke/VarHandle" ∧ (parseMethodDescriptor yX7_fits.desc).map (fun d => d.parameters.length) = some 1 := by decide +kernel
theorem mi_X7_fits : Cond.instanceMethod yX7_fits ∈ lw_tg ∧ Cond.selects RX7 yX7_fits yX7_fits ∈ lw_tg ∧ Cond.initialized RX7 ∈ lw_tg ∧ Cond.code yX7_fits cX7_fits 2 (some .int) ∈ lw_tg := ⟨(tg_at 1054 (by decide +kernel) rfl), (tg_at 1055 (by decide +kernel) rfl), (tg_at 67 (by decide +kernel) rfl), (tg_at 1056 (by decide +kernel) rfl)⟩
theorem hd_X7_forget : yX7_forget.cls = RX7 ∧ yX7_forget.cls ≠ "java/lang/invoke/MethodHandle" ∧ yX7_forget.cls ≠ "java/lang/invoke/VarHandle" ∧ (parseMethodDescriptor yX7_forget.desc).map (fun d => d.parameters.length) = some 0 := by decide +kernel
theorem mi_X7_forget : Cond.instanceMethod yX7_forget ∈ lw_tg ∧ Cond.selects RX7 yX7_forget yX7_forget ∈ lw_tg ∧ Cond.initialized RX7 ∈ lw_tg ∧ Cond.code yX7_forget cX7_forget 2 (some .int) ∈ lw_tg := ⟨(tg_at 1050 (by decide +kernel) rfl), (tg_at 1051 (by decide +kernel) rfl), (tg_at 67 (by decide +kernel) rfl), (tg_at 1052 (by decide +kernel) rfl)⟩
theorem hd_X7_fresh : yX7_fresh.cls = RX7 ∧ yX7_fresh.cls ≠ "java/lang/invoke/MethodHandle" ∧ yX7_fresh.cls ≠ "java/lang/invoke/VarHandle" ∧ (parseMethodDescriptor yX7_fresh.desc).map (fun d => d.parameters.length) = some 1 := by decide +kernel
theorem mi_X7_fresh : Cond.instanceMethod yX7_fresh ∈ lw_tg ∧ Cond.selects RX7 yX7_fresh yX7_fresh ∈ lw_tg ∧ Cond.initialized RX7 ∈ lw_tg ∧ Cond.code yX7_fresh cX7_fresh 2 (some .int) ∈ lw_tg := ⟨(tg_at 1011 (by decide +kernel) rfl), (tg_at 1012 (by decide +kernel) rfl), (tg_at 67 (by decide +kernel) rfl), (tg_at 1013 (by decide +kernel) rfl)⟩
theorem hd_X7_goIn : yX7_goIn.cls = RX7 ∧ yX7_goIn.cls ≠ "java/lang/invoke/MethodHandle" ∧ yX7_goIn.cls ≠ "java/lang/invoke/VarHandle" ∧ (parseMethodDescriptor yX7_goIn.desc).map (fun d => d.parameters.length) = some 1 := by decide +kernel
theorem mi_X7_goIn : Cond.instanceMethod yX7_goIn ∈ lw_tg ∧ Cond.selects RX7 yX7_goIn yX7_goIn ∈ lw_tg ∧ Cond.initialized RX7 ∈ lw_tg ∧ Cond.code yX7_goIn cX7_goIn 5 (some .int) ∈ lw_tg := ⟨(tg_at 1030 (by decide +kernel) rfl), (tg_at 1031 (by decide +kernel) rfl), (tg_at 67 (by decide +kernel) rfl), (tg_at 1032 (by decide +kernel) rfl)⟩
theorem hd_X7_hired : yX7_hired.cls = RX7 ∧ yX7_hired.cls ≠ "java/lang/invoke/MethodHandle" ∧ yX7_hired.cls ≠ "java/lang/invoke/VarHandle" ∧ (parseMethodDescriptor yX7_hired.desc).map (fun d => d.parameters.length) = some 3 := by decide +kernel
theorem mi_X7_hired : Cond.instanceMethod yX7_hired ∈ lw_tg ∧ Cond.selects RX7 yX7_hired yX7_hired ∈ lw_tg ∧ Cond.initialized RX7 ∈ lw_tg ∧ Cond.code yX7_hired cX7_hired 11 (some .int) ∈ lw_tg := ⟨(tg_at 1015 (by decide +kernel) rfl), (tg_at 1016 (by decide +kernel) rfl), (tg_at 67 (by decide +kernel) rfl), (tg_at 1017 (by decide +kernel) rfl)⟩
theorem hd_X7_keep : yX7_keep.cls = RX7 ∧ yX7_keep.cls ≠ "java/lang/invoke/MethodHandle" ∧ yX7_keep.cls ≠ "java/lang/invoke/VarHandle" ∧ (parseMethodDescriptor yX7_keep.desc).map (fun d => d.parameters.length) = some 1 := by decide +kernel
theorem mi_X7_keep : Cond.instanceMethod yX7_keep ∈ lw_tg ∧ Cond.selects RX7 yX7_keep yX7_keep ∈ lw_tg ∧ Cond.initialized RX7 ∈ lw_tg ∧ Cond.code yX7_keep cX7_keep 4 (some .int) ∈ lw_tg := ⟨(tg_at 1092 (by decide +kernel) rfl), (tg_at 1093 (by decide +kernel) rfl), (tg_at 67 (by decide +kernel) rfl), (tg_at 1094 (by decide +kernel) rfl)⟩
theorem hd_X7_mark : yX7_mark.cls = RX7 ∧ yX7_mark.cls ≠ "java/lang/invoke/MethodHandle" ∧ yX7_mark.cls ≠ "java/lang/invoke/VarHandle" ∧ (parseMethodDescriptor yX7_mark.desc).map (fun d => d.parameters.length) = some 2 := by decide +kernel
theorem mi_X7_mark : Cond.instanceMethod yX7_mark ∈ lw_tg ∧ Cond.selects RX7 yX7_mark yX7_mark ∈ lw_tg ∧ Cond.initialized RX7 ∈ lw_tg ∧ Cond.code yX7_mark cX7_mark 3 (some .int) ∈ lw_tg := ⟨(tg_at 1066 (by decide +kernel) rfl), (tg_at 1067 (by decide +kernel) rfl), (tg_at 67 (by decide +kernel) rfl), (tg_at 1068 (by decide +kernel) rfl)⟩
theorem hd_X7_meets : yX7_meets.cls = RX7 ∧ yX7_meets.cls ≠ "java/lang/invoke/MethodHandle" ∧ yX7_meets.cls ≠ "java/lang/invoke/VarHandle" ∧ (parseMethodDescriptor yX7_meets.desc).map (fun d => d.parameters.length) = some 4 := by decide +kernel
theorem mi_X7_meets : Cond.instanceMethod yX7_meets ∈ lw_tg ∧ Cond.selects RX7 yX7_meets yX7_meets ∈ lw_tg ∧ Cond.initialized RX7 ∈ lw_tg ∧ Cond.code yX7_meets cX7_meets 11 (some .int) ∈ lw_tg := ⟨(tg_at 1038 (by decide +kernel) rfl), (tg_at 1039 (by decide +kernel) rfl), (tg_at 67 (by decide +kernel) rfl), (tg_at 1040 (by decide +kernel) rfl)⟩
theorem hd_X7_now : yX7_now.cls = RX7 ∧ yX7_now.cls ≠ "java/lang/invoke/MethodHandle" ∧ yX7_now.cls ≠ "java/lang/invoke/VarHandle" ∧ (parseMethodDescriptor yX7_now.desc).map (fun d => d.parameters.length) = some 1 := by decide +kernel
theorem mi_X7_now : Cond.instanceMethod yX7_now ∈ lw_tg ∧ Cond.selects RX7 yX7_now yX7_now ∈ lw_tg ∧ Cond.initialized RX7 ∈ lw_tg ∧ Cond.code yX7_now cX7_now 5 (some .int) ∈ lw_tg := ⟨(tg_at 975 (by decide +kernel) rfl), (tg_at 976 (by decide +kernel) rfl), (tg_at 67 (by decide +kernel) rfl), (tg_at 977 (by decide +kernel) rfl)⟩
theorem hd_X7_odds : yX7_odds.cls = RX7 ∧ yX7_odds.cls ≠ "java/lang/invoke/MethodHandle" ∧ yX7_odds.cls ≠ "java/lang/invoke/VarHandle" ∧ (parseMethodDescriptor yX7_odds.desc).map (fun d => d.parameters.length) = some 4 := by decide +kernel
theorem mi_X7_odds : Cond.instanceMethod yX7_odds ∈ lw_tg ∧ Cond.selects RX7 yX7_odds yX7_odds ∈ lw_tg ∧ Cond.initialized RX7 ∈ lw_tg ∧ Cond.code yX7_odds cX7_odds 13 (some .int) ∈ lw_tg := ⟨(tg_at 1042 (by decide +kernel) rfl), (tg_at 1043 (by decide +kernel) rfl), (tg_at 67 (by decide +kernel) rfl), (tg_at 1044 (by decide +kernel) rfl)⟩
theorem hd_X7_rests : yX7_rests.cls = RX7 ∧ yX7_rests.cls ≠ "java/lang/invoke/MethodHandle" ∧ yX7_rests.cls ≠ "java/lang/invoke/VarHandle" ∧ (parseMethodDescriptor yX7_rests.desc).map (fun d => d.parameters.length) = some 1 := by decide +kernel
theorem mi_X7_rests : Cond.instanceMethod yX7_rests ∈ lw_tg ∧ Cond.selects RX7 yX7_rests yX7_rests ∈ lw_tg ∧ Cond.initialized RX7 ∈ lw_tg ∧ Cond.code yX7_rests cX7_rests 2 (some .int) ∈ lw_tg := ⟨(tg_at 967 (by decide +kernel) rfl), (tg_at 968 (by decide +kernel) rfl), (tg_at 67 (by decide +kernel) rfl), (tg_at 969 (by decide +kernel) rfl)⟩
theorem hd_X7_saw : yX7_saw.cls = RX7 ∧ yX7_saw.cls ≠ "java/lang/invoke/MethodHandle" ∧ yX7_saw.cls ≠ "java/lang/invoke/VarHandle" ∧ (parseMethodDescriptor yX7_saw.desc).map (fun d => d.parameters.length) = some 2 := by decide +kernel
theorem mi_X7_saw : Cond.instanceMethod yX7_saw ∈ lw_tg ∧ Cond.selects RX7 yX7_saw yX7_saw ∈ lw_tg ∧ Cond.initialized RX7 ∈ lw_tg ∧ Cond.code yX7_saw cX7_saw 3 (some .int) ∈ lw_tg := ⟨(tg_at 1046 (by decide +kernel) rfl), (tg_at 1047 (by decide +kernel) rfl), (tg_at 67 (by decide +kernel) rfl), (tg_at 1048 (by decide +kernel) rfl)⟩
theorem hd_X7_stretch : yX7_stretch.cls = RX7 ∧ yX7_stretch.cls ≠ "java/lang/invoke/MethodHandle" ∧ yX7_stretch.cls ≠ "java/lang/invoke/VarHandle" ∧ (parseMethodDescriptor yX7_stretch.desc).map (fun d => d.parameters.length) = some 2 := by decide +kernel
theorem mi_X7_stretch : Cond.instanceMethod yX7_stretch ∈ lw_tg ∧ Cond.selects RX7 yX7_stretch yX7_stretch ∈ lw_tg ∧ Cond.initialized RX7 ∈ lw_tg ∧ Cond.code yX7_stretch cX7_stretch 3 (some .int) ∈ lw_tg := ⟨(tg_at 915 (by decide +kernel) rfl), (tg_at 916 (by decide +kernel) rfl), (tg_at 67 (by decide +kernel) rfl), (tg_at 917 (by decide +kernel) rfl)⟩
theorem hd_X7_surely : yX7_surely.cls = RX7 ∧ yX7_surely.cls ≠ "java/lang/invoke/MethodHandle" ∧ yX7_surely.cls ≠ "java/lang/invoke/VarHandle" ∧ (parseMethodDescriptor yX7_surely.desc).map (fun d => d.parameters.length) = some 1 := by decide +kernel
theorem mi_X7_surely : Cond.instanceMethod yX7_surely ∈ lw_tg ∧ Cond.selects RX7 yX7_surely yX7_surely ∈ lw_tg ∧ Cond.initialized RX7 ∈ lw_tg ∧ Cond.code yX7_surely cX7_surely 2 (some .int) ∈ lw_tg := ⟨(tg_at 1062 (by decide +kernel) rfl), (tg_at 1063 (by decide +kernel) rfl), (tg_at 67 (by decide +kernel) rfl), (tg_at 1064 (by decide +kernel) rfl)⟩
theorem hd_X7_takes : yX7_takes.cls = RX7 ∧ yX7_takes.cls ≠ "java/lang/invoke/MethodHandle" ∧ yX7_takes.cls ≠ "java/lang/invoke/VarHandle" ∧ (parseMethodDescriptor yX7_takes.desc).map (fun d => d.parameters.length) = some 2 := by decide +kernel
theorem mi_X7_takes : Cond.instanceMethod yX7_takes ∈ lw_tg ∧ Cond.selects RX7 yX7_takes yX7_takes ∈ lw_tg ∧ Cond.initialized RX7 ∈ lw_tg ∧ Cond.code yX7_takes cX7_takes 3 (some .int) ∈ lw_tg := ⟨(tg_at 923 (by decide +kernel) rfl), (tg_at 924 (by decide +kernel) rfl), (tg_at 67 (by decide +kernel) rfl), (tg_at 925 (by decide +kernel) rfl)⟩
theorem hd_X7_trace : yX7_trace.cls = RX7 ∧ yX7_trace.cls ≠ "java/lang/invoke/MethodHandle" ∧ yX7_trace.cls ≠ "java/lang/invoke/VarHandle" ∧ (parseMethodDescriptor yX7_trace.desc).map (fun d => d.parameters.length) = some 0 := by decide +kernel
theorem mi_X7_trace : Cond.instanceMethod yX7_trace ∈ lw_tg ∧ Cond.selects RX7 yX7_trace yX7_trace ∈ lw_tg ∧ Cond.initialized RX7 ∈ lw_tg ∧ Cond.code yX7_trace cX7_trace 1 (some .long) ∈ lw_tg := ⟨(tg_at 1104 (by decide +kernel) rfl), (tg_at 1105 (by decide +kernel) rfl), (tg_at 67 (by decide +kernel) rfl), (tg_at 1106 (by decide +kernel) rfl)⟩
theorem hd_X7_tunnel : yX7_tunnel.cls = RX7 ∧ yX7_tunnel.cls ≠ "java/lang/invoke/MethodHandle" ∧ yX7_tunnel.cls ≠ "java/lang/invoke/VarHandle" ∧ (parseMethodDescriptor yX7_tunnel.desc).map (fun d => d.parameters.length) = some 0 := by decide +kernel
theorem mi_X7_tunnel : Cond.instanceMethod yX7_tunnel ∈ lw_tg ∧ Cond.selects RX7 yX7_tunnel yX7_tunnel ∈ lw_tg ∧ Cond.initialized RX7 ∈ lw_tg ∧ Cond.code yX7_tunnel cX7_tunnel 3 (some .int) ∈ lw_tg := ⟨(tg_at 873 (by decide +kernel) rfl), (tg_at 874 (by decide +kernel) rfl), (tg_at 67 (by decide +kernel) rfl), (tg_at 875 (by decide +kernel) rfl)⟩
theorem hd_X7_type : yX7_type.cls = RX7 ∧ yX7_type.cls ≠ "java/lang/invoke/MethodHandle" ∧ yX7_type.cls ≠ "java/lang/invoke/VarHandle" ∧ (parseMethodDescriptor yX7_type.desc).map (fun d => d.parameters.length) = some 1 := by decide +kernel
theorem mi_X7_type : Cond.instanceMethod yX7_type ∈ lw_tg ∧ Cond.selects RX7 yX7_type yX7_type ∈ lw_tg ∧ Cond.initialized RX7 ∈ lw_tg ∧ Cond.code yX7_type cX7_type 2 (some .int) ∈ lw_tg := ⟨(tg_at 862 (by decide +kernel) rfl), (tg_at 863 (by decide +kernel) rfl), (tg_at 67 (by decide +kernel) rfl), (tg_at 864 (by decide +kernel) rfl)⟩
theorem hd_X7_undo : yX7_undo.cls = RX7 ∧ yX7_undo.cls ≠ "java/lang/invoke/MethodHandle" ∧ yX7_undo.cls ≠ "java/lang/invoke/VarHandle" ∧ (parseMethodDescriptor yX7_undo.desc).map (fun d => d.parameters.length) = some 0 := by decide +kernel
theorem mi_X7_undo : Cond.instanceMethod yX7_undo ∈ lw_tg ∧ Cond.selects RX7 yX7_undo yX7_undo ∈ lw_tg ∧ Cond.initialized RX7 ∈ lw_tg ∧ Cond.code yX7_undo cX7_undo 2 (some .int) ∈ lw_tg := ⟨(tg_at 971 (by decide +kernel) rfl), (tg_at 972 (by decide +kernel) rfl), (tg_at 67 (by decide +kernel) rfl), (tg_at 973 (by decide +kernel) rfl)⟩
theorem hd_X7_walker : yX7_walker.cls = RX7 ∧ yX7_walker.cls ≠ "java/lang/invoke/MethodHandle" ∧ yX7_walker.cls ≠ "java/lang/invoke/VarHandle" ∧ (parseMethodDescriptor yX7_walker.desc).map (fun d => d.parameters.length) = some 2 := by decide +kernel
theorem mi_X7_walker : Cond.instanceMethod yX7_walker ∈ lw_tg ∧ Cond.selects RX7 yX7_walker yX7_walker ∈ lw_tg ∧ Cond.initialized RX7 ∈ lw_tg ∧ Cond.code yX7_walker cX7_walker 3 (some .int) ∈ lw_tg := ⟨(tg_at 907 (by decide +kernel) rfl), (tg_at 908 (by decide +kernel) rfl), (tg_at 67 (by decide +kernel) rfl), (tg_at 909 (by decide +kernel) rfl)⟩
theorem hd_X7_walks : yX7_walks.cls = RX7 ∧ yX7_walks.cls ≠ "java/lang/invoke/MethodHandle" ∧ yX7_walks.cls ≠ "java/lang/invoke/VarHandle" ∧ (parseMethodDescriptor yX7_walks.desc).map (fun d => d.parameters.length) = some 1 := by decide +kernel
theorem mi_X7_walks : Cond.instanceMethod yX7_walks ∈ lw_tg ∧ Cond.selects RX7 yX7_walks yX7_walks ∈ lw_tg ∧ Cond.initialized RX7 ∈ lw_tg ∧ Cond.code yX7_walks cX7_walks 2 (some .int) ∈ lw_tg := ⟨(tg_at 943 (by decide +kernel) rfl), (tg_at 944 (by decide +kernel) rfl), (tg_at 67 (by decide +kernel) rfl), (tg_at 945 (by decide +kernel) rfl)⟩
section LAWL
variable {p : Program} {l : Launch} {e : Env} {s : State} {m : MethodId} {below : List Frame} {meth : Method} {c : Code} {D : va_G} {cy : Nat → ClassId} {ad tb : Nat → Nat}
def P_L_law_L18 (xs : Nat → Int32) (L : Nat) (N : Nat) : Nat → PSt → Int32 → Option (Int32 × PSt)
  | 0 => fun _ _ => none
  | n + 1 => fun S x3 => if ((Int32.ofNat L) - (5 : Int32)) < x3 then (some ((1 : Int32), S)) else (gd (bin x3 L) <| bnd ((xs x3.toNatClampNeg) &&& (31 : Int32)) fun v3 => if v3 = (0 : Int32) then (gd (bin (x3 + (1 : Int32)) L) <| cal2 (P_X6_type N S (xs (x3 + (1 : Int32)).toNatClampNeg)) fun r8 S6 => gd (bin (x3 + (1 : Int32)) L) <| cal2 (P_X7_type N S6 (xs (x3 + (1 : Int32)).toNatClampNeg)) fun r12 S10 => if r8 = r12 then (bnd (x3 + (5 : Int32)) fun v14 => P_L_law_L18 xs L N n S10 v14) else (some ((0 : Int32), S10))) else (if v3 = (1 : Int32) then (cal2 (P_X6_clear N S) fun r18 S16 => cal2 (P_X7_clear N S16) fun r21 S19 => if r18 = r21 then (bnd (x3 + (5 : Int32)) fun v23 => P_L_law_L18 xs L N n S19 v23) else (some ((0 : Int32), S19))) else (if v3 = (2 : Int32) then (cal2 (P_X6_tunnel N S) fun r27 S25 => cal2 (P_X7_tunnel N S25) fun r30 S28 => if r27 = r30 then (bnd (x3 + (5 : Int32)) fun v32 => P_L_law_L18 xs L N n S28 v32) else (some ((0 : Int32), S28))) else (if v3 = (3 : Int32) then (gd (bin (x3 + (1 : Int32)) L) <| gd (bin (x3 + (2 : Int32)) L) <| cal2 (P_X6_walker N S (xs (x3 + (1 : Int32)).toNatClampNeg) (xs (x3 + (2 : Int32)).toNatClampNeg)) fun r38 S36 => gd (bin (x3 + (1 : Int32)) L) <| gd (bin (x3 + (2 : Int32)) L) <| cal2 (P_X7_walker N S36 (xs (x3 + (1 : Int32)).toNatClampNeg) (xs (x3 + (2 : Int32)).toNatClampNeg)) fun r43 S41 => if r38 = r43 then (bnd (x3 + (5 : Int32)) fun v45 => P_L_law_L18 xs L N n S41 v45) else (some ((0 : Int32), S41))) else (if v3 = (4 : Int32) then (gd (bin (x3 + (1 : Int32)) L) <| gd (bin (x3 + (2 : Int32)) L) <| cal2 (P_X6_stretch N S (xs (x3 + (1 : Int32)).toNatClampNeg) (xs (x3 + (2 : Int32)).toNatClampNeg)) fun r51 S49 => gd (bin (x3 + (1 : Int32)) L) <| gd (bin (x3 + (2 : Int32)) L) <| cal2 (P_X7_stretch N S49 (xs (x3 + (1 : Int32)).toNatClampNeg) (xs (x3 + (2 : Int32)).toNatClampNeg)) fun r56 S54 => if r51 = r56 then (bnd (x3 + (5 : Int32)) fun v58 => P_L_law_L18 xs L N n S54 v58) else (some ((0 : Int32), S54))) else (if v3 = (5 : Int32) then (gd (bin (x3 + (1 : Int32)) L) <| gd (bin (x3 + (2 : Int32)) L) <| cal2 (P_X6_takes N S (xs (x3 + (1 : Int32)).toNatClampNeg) (xs (x3 + (2 : Int32)).toNatClampNeg)) fun r64 S62 => gd (bin (x3 + (1 : Int32)) L) <| gd (bin (x3 + (2 : Int32)) L) <| cal2 (P_X7_takes N S62 (xs (x3 + (1 : Int32)).toNatClampNeg) (xs (x3 + (2 : Int32)).toNatClampNeg)) fun r69 S67 => if r64 = r69 then (bnd (x3 + (5 : Int32)) fun v71 => P_L_law_L18 xs L N n S67 v71) else (some ((0 : Int32), S67))) else (if v3 = (6 : Int32) then (gd (bin (x3 + (1 : Int32)) L) <| cal2 (P_X6_walks N S (xs (x3 + (1 : Int32)).toNatClampNeg)) fun r76 S74 => gd (bin (x3 + (1 : Int32)) L) <| cal2 (P_X7_walks N S74 (xs (x3 + (1 : Int32)).toNatClampNeg)) fun r80 S78 => if r76 = r80 then (bnd (x3 + (5 : Int32)) fun v82 => P_L_law_L18 xs L N n S78 v82) else (some ((0 : Int32), S78))) else (if v3 = (7 : Int32) then (cal2 (P_X6_backs N S) fun r86 S84 => cal2 (P_X7_backs N S84) fun r89 S87 => if r86 = r89 then (bnd (x3 + (5 : Int32)) fun v91 => P_L_law_L18 xs L N n S87 v91) else (some ((0 : Int32), S87))) else (if v3 = (8 : Int32) then (gd (bin (x3 + (1 : Int32)) L) <| cal2 (P_X6_rests N S (xs (x3 + (1 : Int32)).toNatClampNeg)) fun r96 S94 => gd (bin (x3 + (1 : Int32)) L) <| cal2 (P_X7_rests N S94 (xs (x3 + (1 : Int32)).toNatClampNeg)) fun r100 S98 => if r96 = r100 then (bnd (x3 + (5 : Int32)) fun v102 => P_L_law_L18 xs L N n S98 v102) else (some ((0 : Int32), S98))) else (if v3 = (9 : Int32) then (cal2 (P_X6_undo N S) fun r106 S104 => cal2 (P_X7_undo N S104) fun r109 S107 => if r106 = r109 then (bnd (x3 + (5 : Int32)) fun v111 => P_L_law_L18 xs L N n S107 v111) else (some ((0 : Int32), S107))) else (if v3 = (10 : Int32) then (gd (bin (x3 + (1 : Int32)) L) <| cal2 (P_X6_now N S (xs (x3 + (1 : Int32)).toNatClampNeg)) fun r116 S114 => gd (bin (x3 + (1 : Int32)) L) <| cal2 (P_X7_now N S114 (xs (x3 + (1 : Int32)).toNatClampNeg)) fun r120 S118 => if r116 = r120 then (bnd (x3 + (5 : Int32)) fun v122 => P_L_law_L18 xs L N n S118 v122) else (some ((0 : Int32), S118))) else (if v3 = (11 : Int32) then (gd (bin (x3 + (1 : Int32)) L) <| cal2 (P_X6_best N S (xs (x3 + (1 : Int32)).toNatClampNeg)) fun r127 S125 => gd (bin (x3 + (1 : Int32)) L) <| cal2 (P_X7_best N S125 (xs (x3 + (1 : Int32)).toNatClampNeg)) fun r131 S129 => if r127 = r131 then (bnd (x3 + (5 : Int32)) fun v133 => P_L_law_L18 xs L N n S129 v133) else (some ((0 : Int32), S129))) else (if v3 = (12 : Int32) then (gd (bin (x3 + (1 : Int32)) L) <| cal2 (P_X6_fresh N S (xs (x3 + (1 : Int32)).toNatClampNeg)) fun r138 S136 => gd (bin (x3 + (1 : Int32)) L) <| cal2 (P_X7_fresh N S136 (xs (x3 + (1 : Int32)).toNatClampNeg)) fun r142 S140 => if r138 = r142 then (bnd (x3 + (5 : Int32)) fun v144 => P_L_law_L18 xs L N n S140 v144) else (some ((0 : Int32), S140))) else (if v3 = (13 : Int32) then (gd (bin (x3 + (1 : Int32)) L) <| gd (bin (x3 + (2 : Int32)) L) <| gd (bin (x3 + (3 : Int32)) L) <| cal2 (P_X6_hired N S (xs (x3 + (1 : Int32)).toNatClampNeg) (xs (x3 + (2 : Int32)).toNatClampNeg) (xs (x3 + (3 : Int32)).toNatClampNeg)) fun r151 S149 => gd (bin (x3 + (1 : Int32)) L) <| gd (bin (x3 + (2 : Int32)) L) <| gd (bin (x3 + (3 : Int32)) L) <| cal2 (P_X7_hired N S149 (xs (x3 + (1 : Int32)).toNatClampNeg) (xs (x3 + (2 : Int32)).toNatClampNeg) (xs (x3 + (3 : Int32)).toNatClampNeg)) fun r157 S155 => if r151 = r157 then (bnd (x3 + (5 : Int32)) fun v159 => P_L_law_L18 xs L N n S155 v159) else (some ((0 : Int32), S155))) else (if v3 = (14 : Int32) then (gd (bin (x3 + (1 : Int32)) L) <| cal2 (P_X6_goIn N S (xs (x3 + (1 : Int32)).toNatClampNeg)) fun r164 S162 => gd (bin (x3 + (1 : Int32)) L) <| cal2 (P_X7_goIn N S162 (xs (x3 + (1 : Int32)).toNatClampNeg)) fun r168 S166 => if r164 = r168 then (bnd (x3 + (5 : Int32)) fun v170 => P_L_law_L18 xs L N n S166 v170) else (some ((0 : Int32), S166))) else (if v3 = (15 : Int32) then (gd (bin (x3 + (1 : Int32)) L) <| gd (bin (x3 + (2 : Int32)) L) <| gd (bin (x3 + (3 : Int32)) L) <| gd (bin (x3 + (4 : Int32)) L) <| cal2 (P_X6_meets N S (xs (x3 + (1 : Int32)).toNatClampNeg) (xs (x3 + (2 : Int32)).toNatClampNeg) (xs (x3 + (3 : Int32)).toNatClampNeg) (xs (x3 + (4 : Int32)).toNatClampNeg)) fun r178 S176 => gd (bin (x3 + (1 : Int32)) L) <| gd (bin (x3 + (2 : Int32)) L) <| gd (bin (x3 + (3 : Int32)) L) <| gd (bin (x3 + (4 : Int32)) L) <| cal2 (P_X7_meets N S176 (xs (x3 + (1 : Int32)).toNatClampNeg) (xs (x3 + (2 : Int32)).toNatClampNeg) (xs (x3 + (3 : Int32)).toNatClampNeg) (xs (x3 + (4 : Int32)).toNatClampNeg)) fun r185 S183 => if r178 = r185 then (bnd (x3 + (5 : Int32)) fun v187 => P_L_law_L18 xs L N n S183 v187) else (some ((0 : Int32), S183))) else (if v3 = (16 : Int32) then (gd (bin (x3 + (1 : Int32)) L) <| gd (bin (x3 + (2 : Int32)) L) <| gd (bin (x3 + (3 : Int32)) L) <| gd (bin (x3 + (4 : Int32)) L) <| cal2 (P_X6_odds N S (xs (x3 + (1 : Int32)).toNatClampNeg) (xs (x3 + (2 : Int32)).toNatClampNeg) (xs (x3 + (3 : Int32)).toNatClampNeg) (xs (x3 + (4 : Int32)).toNatClampNeg)) fun r195 S193 => gd (bin (x3 + (1 : Int32)) L) <| gd (bin (x3 + (2 : Int32)) L) <| gd (bin (x3 + (3 : Int32)) L) <| gd (bin (x3 + (4 : Int32)) L) <| cal2 (P_X7_odds N S193 (xs (x3 + (1 : Int32)).toNatClampNeg) (xs (x3 + (2 : Int32)).toNatClampNeg) (xs (x3 + (3 : Int32)).toNatClampNeg) (xs (x3 + (4 : Int32)).toNatClampNeg)) fun r202 S200 => if r195 = r202 then (bnd (x3 + (5 : Int32)) fun v204 => P_L_law_L18 xs L N n S200 v204) else (some ((0 : Int32), S200))) else (if v3 = (17 : Int32) then (gd (bin (x3 + (1 : Int32)) L) <| gd (bin (x3 + (2 : Int32)) L) <| cal2 (P_X6_saw N S (xs (x3 + (1 : Int32)).toNatClampNeg) (xs (x3 + (2 : Int32)).toNatClampNeg)) fun r210 S208 => gd (bin (x3 + (1 : Int32)) L) <| gd (bin (x3 + (2 : Int32)) L) <| cal2 (P_X7_saw N S208 (xs (x3 + (1 : Int32)).toNatClampNeg) (xs (x3 + (2 : Int32)).toNatClampNeg)) fun r215 S213 => if r210 = r215 then (bnd (x3 + (5 : Int32)) fun v217 => P_L_law_L18 xs L N n S213 v217) else (some ((0 : Int32), S213))) else (if v3 = (18 : Int32) then (cal2 (P_X6_forget N S) fun r221 S219 => cal2 (P_X7_forget N S219) fun r224 S222 => if r221 = r224 then (bnd (x3 + (5 : Int32)) fun v226 => P_L_law_L18 xs L N n S222 v226) else (some ((0 : Int32), S222))) else (if v3 = (19 : Int32) then (gd (bin (x3 + (1 : Int32)) L) <| cal2 (P_X6_fits N S (xs (x3 + (1 : Int32)).toNatClampNeg)) fun r231 S229 => gd (bin (x3 + (1 : Int32)) L) <| cal2 (P_X7_fits N S229 (xs (x3 + (1 : Int32)).toNatClampNeg)) fun r235 S233 => if r231 = r235 then (bnd (x3 + (5 : Int32)) fun v237 => P_L_law_L18 xs L N n S233 v237) else (some ((0 : Int32), S233))) else (if v3 = (20 : Int32) then (gd (bin (x3 + (1 : Int32)) L) <| cal2 (P_X6_surely N S (xs (x3 + (1 : Int32)).toNatClampNeg)) fun r242 S240 => gd (bin (x3 + (1 : Int32)) L) <| cal2 (P_X7_surely N S240 (xs (x3 + (1 : Int32)).toNatClampNeg)) fun r246 S244 => if r242 = r246 then (bnd (x3 + (5 : Int32)) fun v248 => P_L_law_L18 xs L N n S244 v248) else (some ((0 : Int32), S244))) else (if v3 = (21 : Int32) then (gd (bin (x3 + (1 : Int32)) L) <| gd (bin (x3 + (2 : Int32)) L) <| cal2 (P_X6_mark N S (xs (x3 + (1 : Int32)).toNatClampNeg) (xs (x3 + (2 : Int32)).toNatClampNeg)) fun r254 S252 => gd (bin (x3 + (1 : Int32)) L) <| gd (bin (x3 + (2 : Int32)) L) <| cal2 (P_X7_mark N S252 (xs (x3 + (1 : Int32)).toNatClampNeg) (xs (x3 + (2 : Int32)).toNatClampNeg)) fun r259 S257 => if r254 = r259 then (bnd (x3 + (5 : Int32)) fun v261 => P_L_law_L18 xs L N n S257 v261) else (some ((0 : Int32), S257))) else (if v3 = (22 : Int32) then (gd (bin (x3 + (1 : Int32)) L) <| cal2 (P_X6_keep N S (xs (x3 + (1 : Int32)).toNatClampNeg)) fun r266 S264 => gd (bin (x3 + (1 : Int32)) L) <| cal2 (P_X7_keep N S264 (xs (x3 + (1 : Int32)).toNatClampNeg)) fun r270 S268 => if r266 = r270 then (bnd (x3 + (5 : Int32)) fun v272 => P_L_law_L18 xs L N n S268 v272) else (some ((0 : Int32), S268))) else (if v3 = (23 : Int32) then (gd (bin (x3 + (1 : Int32)) L) <| cal2 (P_X6_back N S (xs (x3 + (1 : Int32)).toNatClampNeg)) fun r277 S275 => gd (bin (x3 + (1 : Int32)) L) <| cal2 (P_X7_back N S275 (xs (x3 + (1 : Int32)).toNatClampNeg)) fun r281 S279 => if r277 = r281 then (bnd (x3 + (5 : Int32)) fun v283 => P_L_law_L18 xs L N n S279 v283) else (some ((0 : Int32), S279))) else (if v3 = (24 : Int32) then (gd (bin (x3 + (1 : Int32)) L) <| cal2 (P_X6_count N S (xs (x3 + (1 : Int32)).toNatClampNeg)) fun r288 S286 => gd (bin (x3 + (1 : Int32)) L) <| cal2 (P_X7_count N S286 (xs (x3 + (1 : Int32)).toNatClampNeg)) fun r292 S290 => if r288 = r292 then (bnd (x3 + (5 : Int32)) fun v294 => P_L_law_L18 xs L N n S290 v294) else (some ((0 : Int32), S290))) else (if v3 = (25 : Int32) then (cal2 (P_X6_trace N S) fun r298 S296 => cal2 (P_X7_trace N S296) fun r301 S299 => if (lg_cmp r298 r301) = (0 : Int32) then (bnd (x3 + (5 : Int32)) fun v303 => P_L_law_L18 xs L N n S299 v303) else (some ((0 : Int32), S299))) else (bnd (x3 + (5 : Int32)) fun v304 => P_L_law_L18 xs L N n S v304)))))))))))))))))))))))))))
set_option maxHeartbeats 40000000 in
set_option maxRecDepth 100000 in
theorem w_L_law_L18 {N : Nat} {S' : PSt} {b L : Nat} {xs : Nat → Int32} (hC : Cx p s m #[Value.ref b] c code RL D cy ad tb) (hml : c.maxLocals = 4) (hr : meth.sig.returnType = ret) (hlk : meth.locks = false) (hXs : va_X b L xs s s.heap) (hbl : b < s.heap.size) (hbA : ¬ pA ad s.heap.size b) (hfresh : ∀ q, pA ad s.heap.size q → s.heap.size ≤ q) : ∀ (n : Nat), ∀ (S : PSt) (x3 : Int32) (H : Heap) (locs : List Loc) (ls : Array Slot), P_L_law_L18 xs L N n S x3 = some ((1 : Int32), S') → va_P D vwCl (pW cy ad S) H → va_S (pA ad s.heap.size) s.heap H locs → lv_has ls 4 [(0, .ref b), (1, .ref (ad 0)), (2, .ref (ad 158)), (3, .int x3)] → W p l e room_1 s m #[Value.ref b] below meth c H locs 176 1551 (lw_Z below #[Value.ref b] s) (F0 m 18 ls []) := by
  have hx := hC.1
  have hb := hC.2.1
  intro n
  induction n with
  | zero => intro S x3 H locs ls hf; exact absurd hf (by intro h; cases h)
  | succ n ih =>
    intro S x3 H locs ls hf hP hS hl
    rw [P_L_law_L18] at hf
    refine lv_iload_n hx hb dL_law_18 rfl (lv_at hl 3 rfl) ?_
    refine lv_aload_n hx hb dL_law_19 rfl (lv_at hl 0 rfl) ?_
    refine va_slen hx hb hXs hbl hbA hS dL_law_20 ?_
    refine lv_iconst (v := 5) hx hb dL_law_21 (by decide) ?_
    refine lv_isub hx hb dL_law_22 ?_
    refine lv_icmp_gt (tgt := 827) hx hb dL_law_23 (by decide) (fun c1 => ?_) (fun c1 => ?_)
    · replace hf := ite_t c1 hf
      refine lv_iconst (v := 1) hx hb dL_law_827 (by decide) ?_
      refine va_forget (fun q hq => hfresh _ (hS.2.2 q hq)) ?_
      refine W.widen (k := 600000) (n := 7302250) (by decide) (by decide) ?_
      exact lw_ret hx hb hr hlk dL_law_828
    · replace hf := ite_f c1 hf
      refine lv_aload_n hx hb dL_law_26 rfl (lv_at hl 0 rfl) ?_
      refine lv_iload_n hx hb dL_law_27 rfl (lv_at hl 3 rfl) ?_
      obtain ⟨h2, hf⟩ := gd_some hf
      refine va_sld hx hb hXs hbl hbA hS (bin_in h2) dL_law_28 ?_
      refine lv_bipush (v := 31) hx hb dL_law_29 (by decide) ?_
      refine lv_iand hx hb dL_law_31 ?_
      obtain ⟨v3, ev3, hf⟩ := bnd_some hf
      refine pg_top ev3 ?_
      by_cases c4 : v3 = (0 : Int32)
      · replace hf := ite_t c4 hf
        refine lv_tableIn (off := 120) (tgt := 152) hx hb dL_law_32 (by rw [c4]; decide) (by rw [c4]; decide) (by rw [c4]; decide) (by decide) ?_
        refine lv_aload_n hx hb dL_law_152 rfl (lv_at hl 1 rfl) ?_
        refine lv_aload_n hx hb dL_law_153 rfl (lv_at hl 0 rfl) ?_
        refine lv_iload_n hx hb dL_law_154 rfl (lv_at hl 3 rfl) ?_
        refine lv_iconst (v := 1) hx hb dL_law_155 (by decide) ?_
        refine lv_iadd hx hb dL_law_156 ?_
        obtain ⟨h5, hf⟩ := gd_some hf
        refine va_sld hx hb hXs hbl hbA hS (bin_in h5) dL_law_157 ?_
        obtain ⟨r8, S6, q7, hf⟩ := cal2_some hf
        refine pg_callL (As := [.int (xs (x3 + (1 : Int32)).toNatClampNeg)]) (rest := []) (st1 := [.int r8]) (ci := 6) hC hml hP hS (c_X6_type l hC.2.2.2.2.2.1 q7) ⟨by decide, by decide⟩ ⟨by decide, by decide⟩ (by decide) rfl (by decide) k_0 rfl rfl ⟨mk_L_13, mi_X6_type⟩ hd_X6_type rfl hl.1 (Nat.le_of_ble_eq_true rfl) dL_law_158 (fun H locs hP hS => ?_)
        refine lv_aload_n hx hb dL_law_161 rfl (lv_at hl 2 rfl) ?_
        refine lv_aload_n hx hb dL_law_162 rfl (lv_at hl 0 rfl) ?_
        refine lv_iload_n hx hb dL_law_163 rfl (lv_at hl 3 rfl) ?_
        refine lv_iconst (v := 1) hx hb dL_law_164 (by decide) ?_
        refine lv_iadd hx hb dL_law_165 ?_
        obtain ⟨h9, hf⟩ := gd_some hf
        refine va_sld hx hb hXs hbl hbA hS (bin_in h9) dL_law_166 ?_
        obtain ⟨r12, S10, q11, hf⟩ := cal2_some hf
        refine pg_callL (As := [.int (xs (x3 + (1 : Int32)).toNatClampNeg)]) (rest := [.int r8]) (st1 := [.int r12, .int r8]) (ci := 7) hC hml hP hS (c_X7_type l hC.2.2.2.2.2.1 q11) ⟨by decide, by decide⟩ ⟨by decide, by decide⟩ (by decide) rfl (by decide) k_158 rfl rfl ⟨mk_L_17, mi_X7_type⟩ hd_X7_type rfl hl.1 (Nat.le_of_ble_eq_true rfl) dL_law_167 (fun H locs hP hS => ?_)
        refine lv_icmp_eq (tgt := 821) hx hb dL_law_170 (by decide) (fun c13 => ?_) (fun c13 => ?_)
        · replace hf := ite_t c13 hf
          obtain ⟨v14, ev14, hf⟩ := bnd_some hf
          refine lv_iinc (v := v14) (lv' := [(3, .int v14), (0, .ref b), (1, .ref (ad 0)), (2, .ref (ad 158))]) hx hb dL_law_821 hl (k := 3) rfl (by rw [ev14]; rfl) (by decide) rfl (fun ls hl => ?_)
          refine lv_goto (tgt := 18) hx hb dL_law_824 (by decide) ?_
          exact ih _ _ _ _ _ hf hP hS (lv_sub hl [1, 2, 3, 0] rfl)
        · replace hf := ite_f c13 hf
          refine lv_iconst (v := 0) hx hb dL_law_173 (by decide) ?_
          exact absurd (show (0 : Int32) = 1 from congrArg Prod.fst (Option.some.inj hf)) (by decide)
      · replace hf := ite_f c4 hf
        by_cases c15 : v3 = (1 : Int32)
        · replace hf := ite_t c15 hf
          refine lv_tableIn (off := 143) (tgt := 175) hx hb dL_law_32 (by rw [c15]; decide) (by rw [c15]; decide) (by rw [c15]; decide) (by decide) ?_
          refine lv_aload_n hx hb dL_law_175 rfl (lv_at hl 1 rfl) ?_
          obtain ⟨r18, S16, q17, hf⟩ := cal2_some hf
          refine pg_callL (As := []) (rest := []) (st1 := [.int r18]) (ci := 6) hC hml hP hS (c_X6_clear l hC.2.2.2.2.2.1 q17) ⟨by decide, by decide⟩ ⟨by decide, by decide⟩ (by decide) rfl (by decide) k_0 rfl rfl ⟨mk_L_18, mi_X6_clear⟩ hd_X6_clear rfl hl.1 (Nat.le_of_ble_eq_true rfl) dL_law_176 (fun H locs hP hS => ?_)
          refine lv_aload_n hx hb dL_law_179 rfl (lv_at hl 2 rfl) ?_
          obtain ⟨r21, S19, q20, hf⟩ := cal2_some hf
          refine pg_callL (As := []) (rest := [.int r18]) (st1 := [.int r21, .int r18]) (ci := 7) hC hml hP hS (c_X7_clear l hC.2.2.2.2.2.1 q20) ⟨by decide, by decide⟩ ⟨by decide, by decide⟩ (by decide) rfl (by decide) k_158 rfl rfl ⟨mk_L_22, mi_X7_clear⟩ hd_X7_clear rfl hl.1 (Nat.le_of_ble_eq_true rfl) dL_law_180 (fun H locs hP hS => ?_)
          refine lv_icmp_eq (tgt := 821) hx hb dL_law_183 (by decide) (fun c22 => ?_) (fun c22 => ?_)
          · replace hf := ite_t c22 hf
            obtain ⟨v23, ev23, hf⟩ := bnd_some hf
            refine lv_iinc (v := v23) (lv' := [(3, .int v23), (0, .ref b), (1, .ref (ad 0)), (2, .ref (ad 158))]) hx hb dL_law_821 hl (k := 3) rfl (by rw [ev23]; rfl) (by decide) rfl (fun ls hl => ?_)
            refine lv_goto (tgt := 18) hx hb dL_law_824 (by decide) ?_
            exact ih _ _ _ _ _ hf hP hS (lv_sub hl [1, 2, 3, 0] rfl)
          · replace hf := ite_f c22 hf
            refine lv_iconst (v := 0) hx hb dL_law_186 (by decide) ?_
            exact absurd (show (0 : Int32) = 1 from congrArg Prod.fst (Option.some.inj hf)) (by decide)
        · replace hf := ite_f c15 hf
          by_cases c24 : v3 = (2 : Int32)
          · replace hf := ite_t c24 hf
            refine lv_tableIn (off := 156) (tgt := 188) hx hb dL_law_32 (by rw [c24]; decide) (by rw [c24]; decide) (by rw [c24]; decide) (by decide) ?_
            refine lv_aload_n hx hb dL_law_188 rfl (lv_at hl 1 rfl) ?_
            obtain ⟨r27, S25, q26, hf⟩ := cal2_some hf
            refine pg_callL (As := []) (rest := []) (st1 := [.int r27]) (ci := 6) hC hml hP hS (c_X6_tunnel l hC.2.2.2.2.2.1 q26) ⟨by decide, by decide⟩ ⟨by decide, by decide⟩ (by decide) rfl (by decide) k_0 rfl rfl ⟨mk_L_23, mi_X6_tunnel⟩ hd_X6_tunnel rfl hl.1 (Nat.le_of_ble_eq_true rfl) dL_law_189 (fun H locs hP hS => ?_)
            refine lv_aload_n hx hb dL_law_192 rfl (lv_at hl 2 rfl) ?_
            obtain ⟨r30, S28, q29, hf⟩ := cal2_some hf
            refine pg_callL (As := []) (rest := [.int r27]) (st1 := [.int r30, .int r27]) (ci := 7) hC hml hP hS (c_X7_tunnel l hC.2.2.2.2.2.1 q29) ⟨by decide, by decide⟩ ⟨by decide, by decide⟩ (by decide) rfl (by decide) k_158 rfl rfl ⟨mk_L_26, mi_X7_tunnel⟩ hd_X7_tunnel rfl hl.1 (Nat.le_of_ble_eq_true rfl) dL_law_193 (fun H locs hP hS => ?_)
            refine lv_icmp_eq (tgt := 821) hx hb dL_law_196 (by decide) (fun c31 => ?_) (fun c31 => ?_)
            · replace hf := ite_t c31 hf
              obtain ⟨v32, ev32, hf⟩ := bnd_some hf
              refine lv_iinc (v := v32) (lv' := [(3, .int v32), (0, .ref b), (1, .ref (ad 0)), (2, .ref (ad 158))]) hx hb dL_law_821 hl (k := 3) rfl (by rw [ev32]; rfl) (by decide) rfl (fun ls hl => ?_)
              refine lv_goto (tgt := 18) hx hb dL_law_824 (by decide) ?_
              exact ih _ _ _ _ _ hf hP hS (lv_sub hl [1, 2, 3, 0] rfl)
            · replace hf := ite_f c31 hf
              refine lv_iconst (v := 0) hx hb dL_law_199 (by decide) ?_
              exact absurd (show (0 : Int32) = 1 from congrArg Prod.fst (Option.some.inj hf)) (by decide)
          · replace hf := ite_f c24 hf
            by_cases c33 : v3 = (3 : Int32)
            · replace hf := ite_t c33 hf
              refine lv_tableIn (off := 169) (tgt := 201) hx hb dL_law_32 (by rw [c33]; decide) (by rw [c33]; decide) (by rw [c33]; decide) (by decide) ?_
              refine lv_aload_n hx hb dL_law_201 rfl (lv_at hl 1 rfl) ?_
              refine lv_aload_n hx hb dL_law_202 rfl (lv_at hl 0 rfl) ?_
              refine lv_iload_n hx hb dL_law_203 rfl (lv_at hl 3 rfl) ?_
              refine lv_iconst (v := 1) hx hb dL_law_204 (by decide) ?_
              refine lv_iadd hx hb dL_law_205 ?_
              obtain ⟨h34, hf⟩ := gd_some hf
              refine va_sld hx hb hXs hbl hbA hS (bin_in h34) dL_law_206 ?_
              refine lv_aload_n hx hb dL_law_207 rfl (lv_at hl 0 rfl) ?_
              refine lv_iload_n hx hb dL_law_208 rfl (lv_at hl 3 rfl) ?_
              refine lv_iconst (v := 2) hx hb dL_law_209 (by decide) ?_
              refine lv_iadd hx hb dL_law_210 ?_
              obtain ⟨h35, hf⟩ := gd_some hf
              refine va_sld hx hb hXs hbl hbA hS (bin_in h35) dL_law_211 ?_
              obtain ⟨r38, S36, q37, hf⟩ := cal2_some hf
              refine pg_callL (As := [.int (xs (x3 + (1 : Int32)).toNatClampNeg), .int (xs (x3 + (2 : Int32)).toNatClampNeg)]) (rest := []) (st1 := [.int r38]) (ci := 6) hC hml hP hS (c_X6_walker l hC.2.2.2.2.2.1 q37) ⟨by decide, by decide⟩ ⟨by decide, by decide⟩ (by decide) rfl (by decide) k_0 rfl rfl ⟨mk_L_27, mi_X6_walker⟩ hd_X6_walker rfl hl.1 (Nat.le_of_ble_eq_true rfl) dL_law_212 (fun H locs hP hS => ?_)
              refine lv_aload_n hx hb dL_law_215 rfl (lv_at hl 2 rfl) ?_
              refine lv_aload_n hx hb dL_law_216 rfl (lv_at hl 0 rfl) ?_
              refine lv_iload_n hx hb dL_law_217 rfl (lv_at hl 3 rfl) ?_
              refine lv_iconst (v := 1) hx hb dL_law_218 (by decide) ?_
              refine lv_iadd hx hb dL_law_219 ?_
              obtain ⟨h39, hf⟩ := gd_some hf
              refine va_sld hx hb hXs hbl hbA hS (bin_in h39) dL_law_220 ?_
              refine lv_aload_n hx hb dL_law_221 rfl (lv_at hl 0 rfl) ?_
              refine lv_iload_n hx hb dL_law_222 rfl (lv_at hl 3 rfl) ?_
              refine lv_iconst (v := 2) hx hb dL_law_223 (by decide) ?_
              refine lv_iadd hx hb dL_law_224 ?_
              obtain ⟨h40, hf⟩ := gd_some hf
              refine va_sld hx hb hXs hbl hbA hS (bin_in h40) dL_law_225 ?_
              obtain ⟨r43, S41, q42, hf⟩ := cal2_some hf
              refine pg_callL (As := [.int (xs (x3 + (1 : Int32)).toNatClampNeg), .int (xs (x3 + (2 : Int32)).toNatClampNeg)]) (rest := [.int r38]) (st1 := [.int r43, .int r38]) (ci := 7) hC hml hP hS (c_X7_walker l hC.2.2.2.2.2.1 q42) ⟨by decide, by decide⟩ ⟨by decide, by decide⟩ (by decide) rfl (by decide) k_158 rfl rfl ⟨mk_L_31, mi_X7_walker⟩ hd_X7_walker rfl hl.1 (Nat.le_of_ble_eq_true rfl) dL_law_226 (fun H locs hP hS => ?_)
              refine lv_icmp_eq (tgt := 821) hx hb dL_law_229 (by decide) (fun c44 => ?_) (fun c44 => ?_)
              · replace hf := ite_t c44 hf
                obtain ⟨v45, ev45, hf⟩ := bnd_some hf
                refine lv_iinc (v := v45) (lv' := [(3, .int v45), (0, .ref b), (1, .ref (ad 0)), (2, .ref (ad 158))]) hx hb dL_law_821 hl (k := 3) rfl (by rw [ev45]; rfl) (by decide) rfl (fun ls hl => ?_)
                refine lv_goto (tgt := 18) hx hb dL_law_824 (by decide) ?_
                exact ih _ _ _ _ _ hf hP hS (lv_sub hl [1, 2, 3, 0] rfl)
              · replace hf := ite_f c44 hf
                refine lv_iconst (v := 0) hx hb dL_law_232 (by decide) ?_
                exact absurd (show (0 : Int32) = 1 from congrArg Prod.fst (Option.some.inj hf)) (by decide)
            · replace hf := ite_f c33 hf
              by_cases c46 : v3 = (4 : Int32)
              · replace hf := ite_t c46 hf
                refine lv_tableIn (off := 202) (tgt := 234) hx hb dL_law_32 (by rw [c46]; decide) (by rw [c46]; decide) (by rw [c46]; decide) (by decide) ?_
                refine lv_aload_n hx hb dL_law_234 rfl (lv_at hl 1 rfl) ?_
                refine lv_aload_n hx hb dL_law_235 rfl (lv_at hl 0 rfl) ?_
                refine lv_iload_n hx hb dL_law_236 rfl (lv_at hl 3 rfl) ?_
                refine lv_iconst (v := 1) hx hb dL_law_237 (by decide) ?_
                refine lv_iadd hx hb dL_law_238 ?_
                obtain ⟨h47, hf⟩ := gd_some hf
                refine va_sld hx hb hXs hbl hbA hS (bin_in h47) dL_law_239 ?_
                refine lv_aload_n hx hb dL_law_240 rfl (lv_at hl 0 rfl) ?_
                refine lv_iload_n hx hb dL_law_241 rfl (lv_at hl 3 rfl) ?_
                refine lv_iconst (v := 2) hx hb dL_law_242 (by decide) ?_
                refine lv_iadd hx hb dL_law_243 ?_
                obtain ⟨h48, hf⟩ := gd_some hf
                refine va_sld hx hb hXs hbl hbA hS (bin_in h48) dL_law_244 ?_
                obtain ⟨r51, S49, q50, hf⟩ := cal2_some hf
                refine pg_callL (As := [.int (xs (x3 + (1 : Int32)).toNatClampNeg), .int (xs (x3 + (2 : Int32)).toNatClampNeg)]) (rest := []) (st1 := [.int r51]) (ci := 6) hC hml hP hS (c_X6_stretch l hC.2.2.2.2.2.1 q50) ⟨by decide, by decide⟩ ⟨by decide, by decide⟩ (by decide) rfl (by decide) k_0 rfl rfl ⟨mk_L_32, mi_X6_stretch⟩ hd_X6_stretch rfl hl.1 (Nat.le_of_ble_eq_true rfl) dL_law_245 (fun H locs hP hS => ?_)
                refine lv_aload_n hx hb dL_law_248 rfl (lv_at hl 2 rfl) ?_
                refine lv_aload_n hx hb dL_law_249 rfl (lv_at hl 0 rfl) ?_
                refine lv_iload_n hx hb dL_law_250 rfl (lv_at hl 3 rfl) ?_
                refine lv_iconst (v := 1) hx hb dL_law_251 (by decide) ?_
                refine lv_iadd hx hb dL_law_252 ?_
                obtain ⟨h52, hf⟩ := gd_some hf
                refine va_sld hx hb hXs hbl hbA hS (bin_in h52) dL_law_253 ?_
                refine lv_aload_n hx hb dL_law_254 rfl (lv_at hl 0 rfl) ?_
                refine lv_iload_n hx hb dL_law_255 rfl (lv_at hl 3 rfl) ?_
                refine lv_iconst (v := 2) hx hb dL_law_256 (by decide) ?_
                refine lv_iadd hx hb dL_law_257 ?_
                obtain ⟨h53, hf⟩ := gd_some hf
                refine va_sld hx hb hXs hbl hbA hS (bin_in h53) dL_law_258 ?_
                obtain ⟨r56, S54, q55, hf⟩ := cal2_some hf
                refine pg_callL (As := [.int (xs (x3 + (1 : Int32)).toNatClampNeg), .int (xs (x3 + (2 : Int32)).toNatClampNeg)]) (rest := [.int r51]) (st1 := [.int r56, .int r51]) (ci := 7) hC hml hP hS (c_X7_stretch l hC.2.2.2.2.2.1 q55) ⟨by decide, by decide⟩ ⟨by decide, by decide⟩ (by decide) rfl (by decide) k_158 rfl rfl ⟨mk_L_35, mi_X7_stretch⟩ hd_X7_stretch rfl hl.1 (Nat.le_of_ble_eq_true rfl) dL_law_259 (fun H locs hP hS => ?_)
                refine lv_icmp_eq (tgt := 821) hx hb dL_law_262 (by decide) (fun c57 => ?_) (fun c57 => ?_)
                · replace hf := ite_t c57 hf
                  obtain ⟨v58, ev58, hf⟩ := bnd_some hf
                  refine lv_iinc (v := v58) (lv' := [(3, .int v58), (0, .ref b), (1, .ref (ad 0)), (2, .ref (ad 158))]) hx hb dL_law_821 hl (k := 3) rfl (by rw [ev58]; rfl) (by decide) rfl (fun ls hl => ?_)
                  refine lv_goto (tgt := 18) hx hb dL_law_824 (by decide) ?_
                  exact ih _ _ _ _ _ hf hP hS (lv_sub hl [1, 2, 3, 0] rfl)
                · replace hf := ite_f c57 hf
                  refine lv_iconst (v := 0) hx hb dL_law_265 (by decide) ?_
                  exact absurd (show (0 : Int32) = 1 from congrArg Prod.fst (Option.some.inj hf)) (by decide)
              · replace hf := ite_f c46 hf
                by_cases c59 : v3 = (5 : Int32)
                · replace hf := ite_t c59 hf
                  refine lv_tableIn (off := 235) (tgt := 267) hx hb dL_law_32 (by rw [c59]; decide) (by rw [c59]; decide) (by rw [c59]; decide) (by decide) ?_
                  refine lv_aload_n hx hb dL_law_267 rfl (lv_at hl 1 rfl) ?_
                  refine lv_aload_n hx hb dL_law_268 rfl (lv_at hl 0 rfl) ?_
                  refine lv_iload_n hx hb dL_law_269 rfl (lv_at hl 3 rfl) ?_
                  refine lv_iconst (v := 1) hx hb dL_law_270 (by decide) ?_
                  refine lv_iadd hx hb dL_law_271 ?_
                  obtain ⟨h60, hf⟩ := gd_some hf
                  refine va_sld hx hb hXs hbl hbA hS (bin_in h60) dL_law_272 ?_
                  refine lv_aload_n hx hb dL_law_273 rfl (lv_at hl 0 rfl) ?_
                  refine lv_iload_n hx hb dL_law_274 rfl (lv_at hl 3 rfl) ?_
                  refine lv_iconst (v := 2) hx hb dL_law_275 (by decide) ?_
                  refine lv_iadd hx hb dL_law_276 ?_
                  obtain ⟨h61, hf⟩ := gd_some hf
                  refine va_sld hx hb hXs hbl hbA hS (bin_in h61) dL_law_277 ?_
                  obtain ⟨r64, S62, q63, hf⟩ := cal2_some hf
                  refine pg_callL (As := [.int (xs (x3 + (1 : Int32)).toNatClampNeg), .int (xs (x3 + (2 : Int32)).toNatClampNeg)]) (rest := []) (st1 := [.int r64]) (ci := 6) hC hml hP hS (c_X6_takes l hC.2.2.2.2.2.1 q63) ⟨by decide, by decide⟩ ⟨by decide, by decide⟩ (by decide) rfl (by decide) k_0 rfl rfl ⟨mk_L_36, mi_X6_takes⟩ hd_X6_takes rfl hl.1 (Nat.le_of_ble_eq_true rfl) dL_law_278 (fun H locs hP hS => ?_)
                  refine lv_aload_n hx hb dL_law_281 rfl (lv_at hl 2 rfl) ?_
                  refine lv_aload_n hx hb dL_law_282 rfl (lv_at hl 0 rfl) ?_
                  refine lv_iload_n hx hb dL_law_283 rfl (lv_at hl 3 rfl) ?_
                  refine lv_iconst (v := 1) hx hb dL_law_284 (by decide) ?_
                  refine lv_iadd hx hb dL_law_285 ?_
                  obtain ⟨h65, hf⟩ := gd_some hf
                  refine va_sld hx hb hXs hbl hbA hS (bin_in h65) dL_law_286 ?_
                  refine lv_aload_n hx hb dL_law_287 rfl (lv_at hl 0 rfl) ?_
                  refine lv_iload_n hx hb dL_law_288 rfl (lv_at hl 3 rfl) ?_
                  refine lv_iconst (v := 2) hx hb dL_law_289 (by decide) ?_
                  refine lv_iadd hx hb dL_law_290 ?_
                  obtain ⟨h66, hf⟩ := gd_some hf
                  refine va_sld hx hb hXs hbl hbA hS (bin_in h66) dL_law_291 ?_
                  obtain ⟨r69, S67, q68, hf⟩ := cal2_some hf
                  refine pg_callL (As := [.int (xs (x3 + (1 : Int32)).toNatClampNeg), .int (xs (x3 + (2 : Int32)).toNatClampNeg)]) (rest := [.int r64]) (st1 := [.int r69, .int r64]) (ci := 7) hC hml hP hS (c_X7_takes l hC.2.2.2.2.2.1 q68) ⟨by decide, by decide⟩ ⟨by decide, by decide⟩ (by decide) rfl (by decide) k_158 rfl rfl ⟨mk_L_39, mi_X7_takes⟩ hd_X7_takes rfl hl.1 (Nat.le_of_ble_eq_true rfl) dL_law_292 (fun H locs hP hS => ?_)
                  refine lv_icmp_eq (tgt := 821) hx hb dL_law_295 (by decide) (fun c70 => ?_) (fun c70 => ?_)
                  · replace hf := ite_t c70 hf
                    obtain ⟨v71, ev71, hf⟩ := bnd_some hf
                    refine lv_iinc (v := v71) (lv' := [(3, .int v71), (0, .ref b), (1, .ref (ad 0)), (2, .ref (ad 158))]) hx hb dL_law_821 hl (k := 3) rfl (by rw [ev71]; rfl) (by decide) rfl (fun ls hl => ?_)
                    refine lv_goto (tgt := 18) hx hb dL_law_824 (by decide) ?_
                    exact ih _ _ _ _ _ hf hP hS (lv_sub hl [1, 2, 3, 0] rfl)
                  · replace hf := ite_f c70 hf
                    refine lv_iconst (v := 0) hx hb dL_law_298 (by decide) ?_
                    exact absurd (show (0 : Int32) = 1 from congrArg Prod.fst (Option.some.inj hf)) (by decide)
                · replace hf := ite_f c59 hf
                  by_cases c72 : v3 = (6 : Int32)
                  · replace hf := ite_t c72 hf
                    refine lv_tableIn (off := 268) (tgt := 300) hx hb dL_law_32 (by rw [c72]; decide) (by rw [c72]; decide) (by rw [c72]; decide) (by decide) ?_
                    refine lv_aload_n hx hb dL_law_300 rfl (lv_at hl 1 rfl) ?_
                    refine lv_aload_n hx hb dL_law_301 rfl (lv_at hl 0 rfl) ?_
                    refine lv_iload_n hx hb dL_law_302 rfl (lv_at hl 3 rfl) ?_
                    refine lv_iconst (v := 1) hx hb dL_law_303 (by decide) ?_
                    refine lv_iadd hx hb dL_law_304 ?_
                    obtain ⟨h73, hf⟩ := gd_some hf
                    refine va_sld hx hb hXs hbl hbA hS (bin_in h73) dL_law_305 ?_
                    obtain ⟨r76, S74, q75, hf⟩ := cal2_some hf
                    refine pg_callL (As := [.int (xs (x3 + (1 : Int32)).toNatClampNeg)]) (rest := []) (st1 := [.int r76]) (ci := 6) hC hml hP hS (c_X6_walks l hC.2.2.2.2.2.1 q75) ⟨by decide, by decide⟩ ⟨by decide, by decide⟩ (by decide) rfl (by decide) k_0 rfl rfl ⟨mk_L_40, mi_X6_walks⟩ hd_X6_walks rfl hl.1 (Nat.le_of_ble_eq_true rfl) dL_law_306 (fun H locs hP hS => ?_)
                    refine lv_aload_n hx hb dL_law_309 rfl (lv_at hl 2 rfl) ?_
                    refine lv_aload_n hx hb dL_law_310 rfl (lv_at hl 0 rfl) ?_
                    refine lv_iload_n hx hb dL_law_311 rfl (lv_at hl 3 rfl) ?_
                    refine lv_iconst (v := 1) hx hb dL_law_312 (by decide) ?_
                    refine lv_iadd hx hb dL_law_313 ?_
                    obtain ⟨h77, hf⟩ := gd_some hf
                    refine va_sld hx hb hXs hbl hbA hS (bin_in h77) dL_law_314 ?_
                    obtain ⟨r80, S78, q79, hf⟩ := cal2_some hf
                    refine pg_callL (As := [.int (xs (x3 + (1 : Int32)).toNatClampNeg)]) (rest := [.int r76]) (st1 := [.int r80, .int r76]) (ci := 7) hC hml hP hS (c_X7_walks l hC.2.2.2.2.2.1 q79) ⟨by decide, by decide⟩ ⟨by decide, by decide⟩ (by decide) rfl (by decide) k_158 rfl rfl ⟨mk_L_43, mi_X7_walks⟩ hd_X7_walks rfl hl.1 (Nat.le_of_ble_eq_true rfl) dL_law_315 (fun H locs hP hS => ?_)
                    refine lv_icmp_eq (tgt := 821) hx hb dL_law_318 (by decide) (fun c81 => ?_) (fun c81 => ?_)
                    · replace hf := ite_t c81 hf
                      obtain ⟨v82, ev82, hf⟩ := bnd_some hf
                      refine lv_iinc (v := v82) (lv' := [(3, .int v82), (0, .ref b), (1, .ref (ad 0)), (2, .ref (ad 158))]) hx hb dL_law_821 hl (k := 3) rfl (by rw [ev82]; rfl) (by decide) rfl (fun ls hl => ?_)
                      refine lv_goto (tgt := 18) hx hb dL_law_824 (by decide) ?_
                      exact ih _ _ _ _ _ hf hP hS (lv_sub hl [1, 2, 3, 0] rfl)
                    · replace hf := ite_f c81 hf
                      refine lv_iconst (v := 0) hx hb dL_law_321 (by decide) ?_
                      exact absurd (show (0 : Int32) = 1 from congrArg Prod.fst (Option.some.inj hf)) (by decide)
                  · replace hf := ite_f c72 hf
                    by_cases c83 : v3 = (7 : Int32)
                    · replace hf := ite_t c83 hf
                      refine lv_tableIn (off := 291) (tgt := 323) hx hb dL_law_32 (by rw [c83]; decide) (by rw [c83]; decide) (by rw [c83]; decide) (by decide) ?_
                      refine lv_aload_n hx hb dL_law_323 rfl (lv_at hl 1 rfl) ?_
                      obtain ⟨r86, S84, q85, hf⟩ := cal2_some hf
                      refine pg_callL (As := []) (rest := []) (st1 := [.int r86]) (ci := 6) hC hml hP hS (c_X6_backs l hC.2.2.2.2.2.1 q85) ⟨by decide, by decide⟩ ⟨by decide, by decide⟩ (by decide) rfl (by decide) k_0 rfl rfl ⟨mk_L_44, mi_X6_backs⟩ hd_X6_backs rfl hl.1 (Nat.le_of_ble_eq_true rfl) dL_law_324 (fun H locs hP hS => ?_)
                      refine lv_aload_n hx hb dL_law_327 rfl (lv_at hl 2 rfl) ?_
                      obtain ⟨r89, S87, q88, hf⟩ := cal2_some hf
                      refine pg_callL (As := []) (rest := [.int r86]) (st1 := [.int r89, .int r86]) (ci := 7) hC hml hP hS (c_X7_backs l hC.2.2.2.2.2.1 q88) ⟨by decide, by decide⟩ ⟨by decide, by decide⟩ (by decide) rfl (by decide) k_158 rfl rfl ⟨mk_L_47, mi_X7_backs⟩ hd_X7_backs rfl hl.1 (Nat.le_of_ble_eq_true rfl) dL_law_328 (fun H locs hP hS => ?_)
                      refine lv_icmp_eq (tgt := 821) hx hb dL_law_331 (by decide) (fun c90 => ?_) (fun c90 => ?_)
                      · replace hf := ite_t c90 hf
                        obtain ⟨v91, ev91, hf⟩ := bnd_some hf
                        refine lv_iinc (v := v91) (lv' := [(3, .int v91), (0, .ref b), (1, .ref (ad 0)), (2, .ref (ad 158))]) hx hb dL_law_821 hl (k := 3) rfl (by rw [ev91]; rfl) (by decide) rfl (fun ls hl => ?_)
                        refine lv_goto (tgt := 18) hx hb dL_law_824 (by decide) ?_
                        exact ih _ _ _ _ _ hf hP hS (lv_sub hl [1, 2, 3, 0] rfl)
                      · replace hf := ite_f c90 hf
                        refine lv_iconst (v := 0) hx hb dL_law_334 (by decide) ?_
                        exact absurd (show (0 : Int32) = 1 from congrArg Prod.fst (Option.some.inj hf)) (by decide)
                    · replace hf := ite_f c83 hf
                      by_cases c92 : v3 = (8 : Int32)
                      · replace hf := ite_t c92 hf
                        refine lv_tableIn (off := 304) (tgt := 336) hx hb dL_law_32 (by rw [c92]; decide) (by rw [c92]; decide) (by rw [c92]; decide) (by decide) ?_
                        refine lv_aload_n hx hb dL_law_336 rfl (lv_at hl 1 rfl) ?_
                        refine lv_aload_n hx hb dL_law_337 rfl (lv_at hl 0 rfl) ?_
                        refine lv_iload_n hx hb dL_law_338 rfl (lv_at hl 3 rfl) ?_
                        refine lv_iconst (v := 1) hx hb dL_law_339 (by decide) ?_
                        refine lv_iadd hx hb dL_law_340 ?_
                        obtain ⟨h93, hf⟩ := gd_some hf
                        refine va_sld hx hb hXs hbl hbA hS (bin_in h93) dL_law_341 ?_
                        obtain ⟨r96, S94, q95, hf⟩ := cal2_some hf
                        refine pg_callL (As := [.int (xs (x3 + (1 : Int32)).toNatClampNeg)]) (rest := []) (st1 := [.int r96]) (ci := 6) hC hml hP hS (c_X6_rests l hC.2.2.2.2.2.1 q95) ⟨by decide, by decide⟩ ⟨by decide, by decide⟩ (by decide) rfl (by decide) k_0 rfl rfl ⟨mk_L_48, mi_X6_rests⟩ hd_X6_rests rfl hl.1 (Nat.le_of_ble_eq_true rfl) dL_law_342 (fun H locs hP hS => ?_)
                        refine lv_aload_n hx hb dL_law_345 rfl (lv_at hl 2 rfl) ?_
                        refine lv_aload_n hx hb dL_law_346 rfl (lv_at hl 0 rfl) ?_
                        refine lv_iload_n hx hb dL_law_347 rfl (lv_at hl 3 rfl) ?_
                        refine lv_iconst (v := 1) hx hb dL_law_348 (by decide) ?_
                        refine lv_iadd hx hb dL_law_349 ?_
                        obtain ⟨h97, hf⟩ := gd_some hf
                        refine va_sld hx hb hXs hbl hbA hS (bin_in h97) dL_law_350 ?_
                        obtain ⟨r100, S98, q99, hf⟩ := cal2_some hf
                        refine pg_callL (As := [.int (xs (x3 + (1 : Int32)).toNatClampNeg)]) (rest := [.int r96]) (st1 := [.int r100, .int r96]) (ci := 7) hC hml hP hS (c_X7_rests l hC.2.2.2.2.2.1 q99) ⟨by decide, by decide⟩ ⟨by decide, by decide⟩ (by decide) rfl (by decide) k_158 rfl rfl ⟨mk_L_51, mi_X7_rests⟩ hd_X7_rests rfl hl.1 (Nat.le_of_ble_eq_true rfl) dL_law_351 (fun H locs hP hS => ?_)
                        refine lv_icmp_eq (tgt := 821) hx hb dL_law_354 (by decide) (fun c101 => ?_) (fun c101 => ?_)
                        · replace hf := ite_t c101 hf
                          obtain ⟨v102, ev102, hf⟩ := bnd_some hf
                          refine lv_iinc (v := v102) (lv' := [(3, .int v102), (0, .ref b), (1, .ref (ad 0)), (2, .ref (ad 158))]) hx hb dL_law_821 hl (k := 3) rfl (by rw [ev102]; rfl) (by decide) rfl (fun ls hl => ?_)
                          refine lv_goto (tgt := 18) hx hb dL_law_824 (by decide) ?_
                          exact ih _ _ _ _ _ hf hP hS (lv_sub hl [1, 2, 3, 0] rfl)
                        · replace hf := ite_f c101 hf
                          refine lv_iconst (v := 0) hx hb dL_law_357 (by decide) ?_
                          exact absurd (show (0 : Int32) = 1 from congrArg Prod.fst (Option.some.inj hf)) (by decide)
                      · replace hf := ite_f c92 hf
                        by_cases c103 : v3 = (9 : Int32)
                        · replace hf := ite_t c103 hf
                          refine lv_tableIn (off := 327) (tgt := 359) hx hb dL_law_32 (by rw [c103]; decide) (by rw [c103]; decide) (by rw [c103]; decide) (by decide) ?_
                          refine lv_aload_n hx hb dL_law_359 rfl (lv_at hl 1 rfl) ?_
                          obtain ⟨r106, S104, q105, hf⟩ := cal2_some hf
                          refine pg_callL (As := []) (rest := []) (st1 := [.int r106]) (ci := 6) hC hml hP hS (c_X6_undo l hC.2.2.2.2.2.1 q105) ⟨by decide, by decide⟩ ⟨by decide, by decide⟩ (by decide) rfl (by decide) k_0 rfl rfl ⟨mk_L_52, mi_X6_undo⟩ hd_X6_undo rfl hl.1 (Nat.le_of_ble_eq_true rfl) dL_law_360 (fun H locs hP hS => ?_)
                          refine lv_aload_n hx hb dL_law_363 rfl (lv_at hl 2 rfl) ?_
                          obtain ⟨r109, S107, q108, hf⟩ := cal2_some hf
                          refine pg_callL (As := []) (rest := [.int r106]) (st1 := [.int r109, .int r106]) (ci := 7) hC hml hP hS (c_X7_undo l hC.2.2.2.2.2.1 q108) ⟨by decide, by decide⟩ ⟨by decide, by decide⟩ (by decide) rfl (by decide) k_158 rfl rfl ⟨mk_L_55, mi_X7_undo⟩ hd_X7_undo rfl hl.1 (Nat.le_of_ble_eq_true rfl) dL_law_364 (fun H locs hP hS => ?_)
                          refine lv_icmp_eq (tgt := 821) hx hb dL_law_367 (by decide) (fun c110 => ?_) (fun c110 => ?_)
                          · replace hf := ite_t c110 hf
                            obtain ⟨v111, ev111, hf⟩ := bnd_some hf
                            refine lv_iinc (v := v111) (lv' := [(3, .int v111), (0, .ref b), (1, .ref (ad 0)), (2, .ref (ad 158))]) hx hb dL_law_821 hl (k := 3) rfl (by rw [ev111]; rfl) (by decide) rfl (fun ls hl => ?_)
                            refine lv_goto (tgt := 18) hx hb dL_law_824 (by decide) ?_
                            exact ih _ _ _ _ _ hf hP hS (lv_sub hl [1, 2, 3, 0] rfl)
                          · replace hf := ite_f c110 hf
                            refine lv_iconst (v := 0) hx hb dL_law_370 (by decide) ?_
                            exact absurd (show (0 : Int32) = 1 from congrArg Prod.fst (Option.some.inj hf)) (by decide)
                        · replace hf := ite_f c103 hf
                          by_cases c112 : v3 = (10 : Int32)
                          · replace hf := ite_t c112 hf
                            refine lv_tableIn (off := 340) (tgt := 372) hx hb dL_law_32 (by rw [c112]; decide) (by rw [c112]; decide) (by rw [c112]; decide) (by decide) ?_
                            refine lv_aload_n hx hb dL_law_372 rfl (lv_at hl 1 rfl) ?_
                            refine lv_aload_n hx hb dL_law_373 rfl (lv_at hl 0 rfl) ?_
                            refine lv_iload_n hx hb dL_law_374 rfl (lv_at hl 3 rfl) ?_
                            refine lv_iconst (v := 1) hx hb dL_law_375 (by decide) ?_
                            refine lv_iadd hx hb dL_law_376 ?_
                            obtain ⟨h113, hf⟩ := gd_some hf
                            refine va_sld hx hb hXs hbl hbA hS (bin_in h113) dL_law_377 ?_
                            obtain ⟨r116, S114, q115, hf⟩ := cal2_some hf
                            refine pg_callL (As := [.int (xs (x3 + (1 : Int32)).toNatClampNeg)]) (rest := []) (st1 := [.int r116]) (ci := 6) hC hml hP hS (c_X6_now l hC.2.2.2.2.2.1 q115) ⟨by decide, by decide⟩ ⟨by decide, by decide⟩ (by decide) rfl (by decide) k_0 rfl rfl ⟨mk_L_56, mi_X6_now⟩ hd_X6_now rfl hl.1 (Nat.le_of_ble_eq_true rfl) dL_law_378 (fun H locs hP hS => ?_)
                            refine lv_aload_n hx hb dL_law_381 rfl (lv_at hl 2 rfl) ?_
                            refine lv_aload_n hx hb dL_law_382 rfl (lv_at hl 0 rfl) ?_
                            refine lv_iload_n hx hb dL_law_383 rfl (lv_at hl 3 rfl) ?_
                            refine lv_iconst (v := 1) hx hb dL_law_384 (by decide) ?_
                            refine lv_iadd hx hb dL_law_385 ?_
                            obtain ⟨h117, hf⟩ := gd_some hf
                            refine va_sld hx hb hXs hbl hbA hS (bin_in h117) dL_law_386 ?_
                            obtain ⟨r120, S118, q119, hf⟩ := cal2_some hf
                            refine pg_callL (As := [.int (xs (x3 + (1 : Int32)).toNatClampNeg)]) (rest := [.int r116]) (st1 := [.int r120, .int r116]) (ci := 7) hC hml hP hS (c_X7_now l hC.2.2.2.2.2.1 q119) ⟨by decide, by decide⟩ ⟨by decide, by decide⟩ (by decide) rfl (by decide) k_158 rfl rfl ⟨mk_L_59, mi_X7_now⟩ hd_X7_now rfl hl.1 (Nat.le_of_ble_eq_true rfl) dL_law_387 (fun H locs hP hS => ?_)
                            refine lv_icmp_eq (tgt := 821) hx hb dL_law_390 (by decide) (fun c121 => ?_) (fun c121 => ?_)
                            · replace hf := ite_t c121 hf
                              obtain ⟨v122, ev122, hf⟩ := bnd_some hf
                              refine lv_iinc (v := v122) (lv' := [(3, .int v122), (0, .ref b), (1, .ref (ad 0)), (2, .ref (ad 158))]) hx hb dL_law_821 hl (k := 3) rfl (by rw [ev122]; rfl) (by decide) rfl (fun ls hl => ?_)
                              refine lv_goto (tgt := 18) hx hb dL_law_824 (by decide) ?_
                              exact ih _ _ _ _ _ hf hP hS (lv_sub hl [1, 2, 3, 0] rfl)
                            · replace hf := ite_f c121 hf
                              refine lv_iconst (v := 0) hx hb dL_law_393 (by decide) ?_
                              exact absurd (show (0 : Int32) = 1 from congrArg Prod.fst (Option.some.inj hf)) (by decide)
                          · replace hf := ite_f c112 hf
                            by_cases c123 : v3 = (11 : Int32)
                            · replace hf := ite_t c123 hf
                              refine lv_tableIn (off := 363) (tgt := 395) hx hb dL_law_32 (by rw [c123]; decide) (by rw [c123]; decide) (by rw [c123]; decide) (by decide) ?_
                              refine lv_aload_n hx hb dL_law_395 rfl (lv_at hl 1 rfl) ?_
                              refine lv_aload_n hx hb dL_law_396 rfl (lv_at hl 0 rfl) ?_
                              refine lv_iload_n hx hb dL_law_397 rfl (lv_at hl 3 rfl) ?_
                              refine lv_iconst (v := 1) hx hb dL_law_398 (by decide) ?_
                              refine lv_iadd hx hb dL_law_399 ?_
                              obtain ⟨h124, hf⟩ := gd_some hf
                              refine va_sld hx hb hXs hbl hbA hS (bin_in h124) dL_law_400 ?_
                              obtain ⟨r127, S125, q126, hf⟩ := cal2_some hf
                              refine pg_callL (As := [.int (xs (x3 + (1 : Int32)).toNatClampNeg)]) (rest := []) (st1 := [.int r127]) (ci := 6) hC hml hP hS (c_X6_best l hC.2.2.2.2.2.1 q126) ⟨by decide, by decide⟩ ⟨by decide, by decide⟩ (by decide) rfl (by decide) k_0 rfl rfl ⟨mk_L_60, mi_X6_best⟩ hd_X6_best rfl hl.1 (Nat.le_of_ble_eq_true rfl) dL_law_401 (fun H locs hP hS => ?_)
                              refine lv_aload_n hx hb dL_law_404 rfl (lv_at hl 2 rfl) ?_
                              refine lv_aload_n hx hb dL_law_405 rfl (lv_at hl 0 rfl) ?_
                              refine lv_iload_n hx hb dL_law_406 rfl (lv_at hl 3 rfl) ?_
                              refine lv_iconst (v := 1) hx hb dL_law_407 (by decide) ?_
                              refine lv_iadd hx hb dL_law_408 ?_
                              obtain ⟨h128, hf⟩ := gd_some hf
                              refine va_sld hx hb hXs hbl hbA hS (bin_in h128) dL_law_409 ?_
                              obtain ⟨r131, S129, q130, hf⟩ := cal2_some hf
                              refine pg_callL (As := [.int (xs (x3 + (1 : Int32)).toNatClampNeg)]) (rest := [.int r127]) (st1 := [.int r131, .int r127]) (ci := 7) hC hml hP hS (c_X7_best l hC.2.2.2.2.2.1 q130) ⟨by decide, by decide⟩ ⟨by decide, by decide⟩ (by decide) rfl (by decide) k_158 rfl rfl ⟨mk_L_63, mi_X7_best⟩ hd_X7_best rfl hl.1 (Nat.le_of_ble_eq_true rfl) dL_law_410 (fun H locs hP hS => ?_)
                              refine lv_icmp_eq (tgt := 821) hx hb dL_law_413 (by decide) (fun c132 => ?_) (fun c132 => ?_)
                              · replace hf := ite_t c132 hf
                                obtain ⟨v133, ev133, hf⟩ := bnd_some hf
                                refine lv_iinc (v := v133) (lv' := [(3, .int v133), (0, .ref b), (1, .ref (ad 0)), (2, .ref (ad 158))]) hx hb dL_law_821 hl (k := 3) rfl (by rw [ev133]; rfl) (by decide) rfl (fun ls hl => ?_)
                                refine lv_goto (tgt := 18) hx hb dL_law_824 (by decide) ?_
                                exact ih _ _ _ _ _ hf hP hS (lv_sub hl [1, 2, 3, 0] rfl)
                              · replace hf := ite_f c132 hf
                                refine lv_iconst (v := 0) hx hb dL_law_416 (by decide) ?_
                                exact absurd (show (0 : Int32) = 1 from congrArg Prod.fst (Option.some.inj hf)) (by decide)
                            · replace hf := ite_f c123 hf
                              by_cases c134 : v3 = (12 : Int32)
                              · replace hf := ite_t c134 hf
                                refine lv_tableIn (off := 386) (tgt := 418) hx hb dL_law_32 (by rw [c134]; decide) (by rw [c134]; decide) (by rw [c134]; decide) (by decide) ?_
                                refine lv_aload_n hx hb dL_law_418 rfl (lv_at hl 1 rfl) ?_
                                refine lv_aload_n hx hb dL_law_419 rfl (lv_at hl 0 rfl) ?_
                                refine lv_iload_n hx hb dL_law_420 rfl (lv_at hl 3 rfl) ?_
                                refine lv_iconst (v := 1) hx hb dL_law_421 (by decide) ?_
                                refine lv_iadd hx hb dL_law_422 ?_
                                obtain ⟨h135, hf⟩ := gd_some hf
                                refine va_sld hx hb hXs hbl hbA hS (bin_in h135) dL_law_423 ?_
                                obtain ⟨r138, S136, q137, hf⟩ := cal2_some hf
                                refine pg_callL (As := [.int (xs (x3 + (1 : Int32)).toNatClampNeg)]) (rest := []) (st1 := [.int r138]) (ci := 6) hC hml hP hS (c_X6_fresh l hC.2.2.2.2.2.1 q137) ⟨by decide, by decide⟩ ⟨by decide, by decide⟩ (by decide) rfl (by decide) k_0 rfl rfl ⟨mk_L_64, mi_X6_fresh⟩ hd_X6_fresh rfl hl.1 (Nat.le_of_ble_eq_true rfl) dL_law_424 (fun H locs hP hS => ?_)
                                refine lv_aload_n hx hb dL_law_427 rfl (lv_at hl 2 rfl) ?_
                                refine lv_aload_n hx hb dL_law_428 rfl (lv_at hl 0 rfl) ?_
                                refine lv_iload_n hx hb dL_law_429 rfl (lv_at hl 3 rfl) ?_
                                refine lv_iconst (v := 1) hx hb dL_law_430 (by decide) ?_
                                refine lv_iadd hx hb dL_law_431 ?_
                                obtain ⟨h139, hf⟩ := gd_some hf
                                refine va_sld hx hb hXs hbl hbA hS (bin_in h139) dL_law_432 ?_
                                obtain ⟨r142, S140, q141, hf⟩ := cal2_some hf
                                refine pg_callL (As := [.int (xs (x3 + (1 : Int32)).toNatClampNeg)]) (rest := [.int r138]) (st1 := [.int r142, .int r138]) (ci := 7) hC hml hP hS (c_X7_fresh l hC.2.2.2.2.2.1 q141) ⟨by decide, by decide⟩ ⟨by decide, by decide⟩ (by decide) rfl (by decide) k_158 rfl rfl ⟨mk_L_67, mi_X7_fresh⟩ hd_X7_fresh rfl hl.1 (Nat.le_of_ble_eq_true rfl) dL_law_433 (fun H locs hP hS => ?_)
                                refine lv_icmp_eq (tgt := 821) hx hb dL_law_436 (by decide) (fun c143 => ?_) (fun c143 => ?_)
                                · replace hf := ite_t c143 hf
                                  obtain ⟨v144, ev144, hf⟩ := bnd_some hf
                                  refine lv_iinc (v := v144) (lv' := [(3, .int v144), (0, .ref b), (1, .ref (ad 0)), (2, .ref (ad 158))]) hx hb dL_law_821 hl (k := 3) rfl (by rw [ev144]; rfl) (by decide) rfl (fun ls hl => ?_)
                                  refine lv_goto (tgt := 18) hx hb dL_law_824 (by decide) ?_
                                  exact ih _ _ _ _ _ hf hP hS (lv_sub hl [1, 2, 3, 0] rfl)
                                · replace hf := ite_f c143 hf
                                  refine lv_iconst (v := 0) hx hb dL_law_439 (by decide) ?_
                                  exact absurd (show (0 : Int32) = 1 from congrArg Prod.fst (Option.some.inj hf)) (by decide)
                              · replace hf := ite_f c134 hf
                                by_cases c145 : v3 = (13 : Int32)
                                · replace hf := ite_t c145 hf
                                  refine lv_tableIn (off := 409) (tgt := 441) hx hb dL_law_32 (by rw [c145]; decide) (by rw [c145]; decide) (by rw [c145]; decide) (by decide) ?_
                                  refine lv_aload_n hx hb dL_law_441 rfl (lv_at hl 1 rfl) ?_
                                  refine lv_aload_n hx hb dL_law_442 rfl (lv_at hl 0 rfl) ?_
                                  refine lv_iload_n hx hb dL_law_443 rfl (lv_at hl 3 rfl) ?_
                                  refine lv_iconst (v := 1) hx hb dL_law_444 (by decide) ?_
                                  refine lv_iadd hx hb dL_law_445 ?_
                                  obtain ⟨h146, hf⟩ := gd_some hf
                                  refine va_sld hx hb hXs hbl hbA hS (bin_in h146) dL_law_446 ?_
                                  refine lv_aload_n hx hb dL_law_447 rfl (lv_at hl 0 rfl) ?_
                                  refine lv_iload_n hx hb dL_law_448 rfl (lv_at hl 3 rfl) ?_
                                  refine lv_iconst (v := 2) hx hb dL_law_449 (by decide) ?_
                                  refine lv_iadd hx hb dL_law_450 ?_
                                  obtain ⟨h147, hf⟩ := gd_some hf
                                  refine va_sld hx hb hXs hbl hbA hS (bin_in h147) dL_law_451 ?_
                                  refine lv_aload_n hx hb dL_law_452 rfl (lv_at hl 0 rfl) ?_
                                  refine lv_iload_n hx hb dL_law_453 rfl (lv_at hl 3 rfl) ?_
                                  refine lv_iconst (v := 3) hx hb dL_law_454 (by decide) ?_
                                  refine lv_iadd hx hb dL_law_455 ?_
                                  obtain ⟨h148, hf⟩ := gd_some hf
                                  refine va_sld hx hb hXs hbl hbA hS (bin_in h148) dL_law_456 ?_
                                  obtain ⟨r151, S149, q150, hf⟩ := cal2_some hf
                                  refine pg_callL (As := [.int (xs (x3 + (1 : Int32)).toNatClampNeg), .int (xs (x3 + (2 : Int32)).toNatClampNeg), .int (xs (x3 + (3 : Int32)).toNatClampNeg)]) (rest := []) (st1 := [.int r151]) (ci := 6) hC hml hP hS (c_X6_hired l hC.2.2.2.2.2.1 q150) ⟨by decide, by decide⟩ ⟨by decide, by decide⟩ (by decide) rfl (by decide) k_0 rfl rfl ⟨mk_L_68, mi_X6_hired⟩ hd_X6_hired rfl hl.1 (Nat.le_of_ble_eq_true rfl) dL_law_457 (fun H locs hP hS => ?_)
                                  refine lv_aload_n hx hb dL_law_460 rfl (lv_at hl 2 rfl) ?_
                                  refine lv_aload_n hx hb dL_law_461 rfl (lv_at hl 0 rfl) ?_
                                  refine lv_iload_n hx hb dL_law_462 rfl (lv_at hl 3 rfl) ?_
                                  refine lv_iconst (v := 1) hx hb dL_law_463 (by decide) ?_
                                  refine lv_iadd hx hb dL_law_464 ?_
                                  obtain ⟨h152, hf⟩ := gd_some hf
                                  refine va_sld hx hb hXs hbl hbA hS (bin_in h152) dL_law_465 ?_
                                  refine lv_aload_n hx hb dL_law_466 rfl (lv_at hl 0 rfl) ?_
                                  refine lv_iload_n hx hb dL_law_467 rfl (lv_at hl 3 rfl) ?_
                                  refine lv_iconst (v := 2) hx hb dL_law_468 (by decide) ?_
                                  refine lv_iadd hx hb dL_law_469 ?_
                                  obtain ⟨h153, hf⟩ := gd_some hf
                                  refine va_sld hx hb hXs hbl hbA hS (bin_in h153) dL_law_470 ?_
                                  refine lv_aload_n hx hb dL_law_471 rfl (lv_at hl 0 rfl) ?_
                                  refine lv_iload_n hx hb dL_law_472 rfl (lv_at hl 3 rfl) ?_
                                  refine lv_iconst (v := 3) hx hb dL_law_473 (by decide) ?_
                                  refine lv_iadd hx hb dL_law_474 ?_
                                  obtain ⟨h154, hf⟩ := gd_some hf
                                  refine va_sld hx hb hXs hbl hbA hS (bin_in h154) dL_law_475 ?_
                                  obtain ⟨r157, S155, q156, hf⟩ := cal2_some hf
                                  refine pg_callL (As := [.int (xs (x3 + (1 : Int32)).toNatClampNeg), .int (xs (x3 + (2 : Int32)).toNatClampNeg), .int (xs (x3 + (3 : Int32)).toNatClampNeg)]) (rest := [.int r151]) (st1 := [.int r157, .int r151]) (ci := 7) hC hml hP hS (c_X7_hired l hC.2.2.2.2.2.1 q156) ⟨by decide, by decide⟩ ⟨by decide, by decide⟩ (by decide) rfl (by decide) k_158 rfl rfl ⟨mk_L_72, mi_X7_hired⟩ hd_X7_hired rfl hl.1 (Nat.le_of_ble_eq_true rfl) dL_law_476 (fun H locs hP hS => ?_)
                                  refine lv_icmp_eq (tgt := 821) hx hb dL_law_479 (by decide) (fun c158 => ?_) (fun c158 => ?_)
                                  · replace hf := ite_t c158 hf
                                    obtain ⟨v159, ev159, hf⟩ := bnd_some hf
                                    refine lv_iinc (v := v159) (lv' := [(3, .int v159), (0, .ref b), (1, .ref (ad 0)), (2, .ref (ad 158))]) hx hb dL_law_821 hl (k := 3) rfl (by rw [ev159]; rfl) (by decide) rfl (fun ls hl => ?_)
                                    refine lv_goto (tgt := 18) hx hb dL_law_824 (by decide) ?_
                                    exact ih _ _ _ _ _ hf hP hS (lv_sub hl [1, 2, 3, 0] rfl)
                                  · replace hf := ite_f c158 hf
                                    refine lv_iconst (v := 0) hx hb dL_law_482 (by decide) ?_
                                    exact absurd (show (0 : Int32) = 1 from congrArg Prod.fst (Option.some.inj hf)) (by decide)
                                · replace hf := ite_f c145 hf
                                  by_cases c160 : v3 = (14 : Int32)
                                  · replace hf := ite_t c160 hf
                                    refine lv_tableIn (off := 452) (tgt := 484) hx hb dL_law_32 (by rw [c160]; decide) (by rw [c160]; decide) (by rw [c160]; decide) (by decide) ?_
                                    refine lv_aload_n hx hb dL_law_484 rfl (lv_at hl 1 rfl) ?_
                                    refine lv_aload_n hx hb dL_law_485 rfl (lv_at hl 0 rfl) ?_
                                    refine lv_iload_n hx hb dL_law_486 rfl (lv_at hl 3 rfl) ?_
                                    refine lv_iconst (v := 1) hx hb dL_law_487 (by decide) ?_
                                    refine lv_iadd hx hb dL_law_488 ?_
                                    obtain ⟨h161, hf⟩ := gd_some hf
                                    refine va_sld hx hb hXs hbl hbA hS (bin_in h161) dL_law_489 ?_
                                    obtain ⟨r164, S162, q163, hf⟩ := cal2_some hf
                                    refine pg_callL (As := [.int (xs (x3 + (1 : Int32)).toNatClampNeg)]) (rest := []) (st1 := [.int r164]) (ci := 6) hC hml hP hS (c_X6_goIn l hC.2.2.2.2.2.1 q163) ⟨by decide, by decide⟩ ⟨by decide, by decide⟩ (by decide) rfl (by decide) k_0 rfl rfl ⟨mk_L_73, mi_X6_goIn⟩ hd_X6_goIn rfl hl.1 (Nat.le_of_ble_eq_true rfl) dL_law_490 (fun H locs hP hS => ?_)
                                    refine lv_aload_n hx hb dL_law_493 rfl (lv_at hl 2 rfl) ?_
                                    refine lv_aload_n hx hb dL_law_494 rfl (lv_at hl 0 rfl) ?_
                                    refine lv_iload_n hx hb dL_law_495 rfl (lv_at hl 3 rfl) ?_
                                    refine lv_iconst (v := 1) hx hb dL_law_496 (by decide) ?_
                                    refine lv_iadd hx hb dL_law_497 ?_
                                    obtain ⟨h165, hf⟩ := gd_some hf
                                    refine va_sld hx hb hXs hbl hbA hS (bin_in h165) dL_law_498 ?_
                                    obtain ⟨r168, S166, q167, hf⟩ := cal2_some hf
                                    refine pg_callL (As := [.int (xs (x3 + (1 : Int32)).toNatClampNeg)]) (rest := [.int r164]) (st1 := [.int r168, .int r164]) (ci := 7) hC hml hP hS (c_X7_goIn l hC.2.2.2.2.2.1 q167) ⟨by decide, by decide⟩ ⟨by decide, by decide⟩ (by decide) rfl (by decide) k_158 rfl rfl ⟨mk_L_76, mi_X7_goIn⟩ hd_X7_goIn rfl hl.1 (Nat.le_of_ble_eq_true rfl) dL_law_499 (fun H locs hP hS => ?_)
                                    refine lv_icmp_eq (tgt := 821) hx hb dL_law_502 (by decide) (fun c169 => ?_) (fun c169 => ?_)
                                    · replace hf := ite_t c169 hf
                                      obtain ⟨v170, ev170, hf⟩ := bnd_some hf
                                      refine lv_iinc (v := v170) (lv' := [(3, .int v170), (0, .ref b), (1, .ref (ad 0)), (2, .ref (ad 158))]) hx hb dL_law_821 hl (k := 3) rfl (by rw [ev170]; rfl) (by decide) rfl (fun ls hl => ?_)
                                      refine lv_goto (tgt := 18) hx hb dL_law_824 (by decide) ?_
                                      exact ih _ _ _ _ _ hf hP hS (lv_sub hl [1, 2, 3, 0] rfl)
                                    · replace hf := ite_f c169 hf
                                      refine lv_iconst (v := 0) hx hb dL_law_505 (by decide) ?_
                                      exact absurd (show (0 : Int32) = 1 from congrArg Prod.fst (Option.some.inj hf)) (by decide)
                                  · replace hf := ite_f c160 hf
                                    by_cases c171 : v3 = (15 : Int32)
                                    · replace hf := ite_t c171 hf
                                      refine lv_tableIn (off := 475) (tgt := 507) hx hb dL_law_32 (by rw [c171]; decide) (by rw [c171]; decide) (by rw [c171]; decide) (by decide) ?_
                                      refine lv_aload_n hx hb dL_law_507 rfl (lv_at hl 1 rfl) ?_
                                      refine lv_aload_n hx hb dL_law_508 rfl (lv_at hl 0 rfl) ?_
                                      refine lv_iload_n hx hb dL_law_509 rfl (lv_at hl 3 rfl) ?_
                                      refine lv_iconst (v := 1) hx hb dL_law_510 (by decide) ?_
                                      refine lv_iadd hx hb dL_law_511 ?_
                                      obtain ⟨h172, hf⟩ := gd_some hf
                                      refine va_sld hx hb hXs hbl hbA hS (bin_in h172) dL_law_512 ?_
                                      refine lv_aload_n hx hb dL_law_513 rfl (lv_at hl 0 rfl) ?_
                                      refine lv_iload_n hx hb dL_law_514 rfl (lv_at hl 3 rfl) ?_
                                      refine lv_iconst (v := 2) hx hb dL_law_515 (by decide) ?_
                                      refine lv_iadd hx hb dL_law_516 ?_
                                      obtain ⟨h173, hf⟩ := gd_some hf
                                      refine va_sld hx hb hXs hbl hbA hS (bin_in h173) dL_law_517 ?_
                                      refine lv_aload_n hx hb dL_law_518 rfl (lv_at hl 0 rfl) ?_
                                      refine lv_iload_n hx hb dL_law_519 rfl (lv_at hl 3 rfl) ?_
                                      refine lv_iconst (v := 3) hx hb dL_law_520 (by decide) ?_
                                      refine lv_iadd hx hb dL_law_521 ?_
                                      obtain ⟨h174, hf⟩ := gd_some hf
                                      refine va_sld hx hb hXs hbl hbA hS (bin_in h174) dL_law_522 ?_
                                      refine lv_aload_n hx hb dL_law_523 rfl (lv_at hl 0 rfl) ?_
                                      refine lv_iload_n hx hb dL_law_524 rfl (lv_at hl 3 rfl) ?_
                                      refine lv_iconst (v := 4) hx hb dL_law_525 (by decide) ?_
                                      refine lv_iadd hx hb dL_law_526 ?_
                                      obtain ⟨h175, hf⟩ := gd_some hf
                                      refine va_sld hx hb hXs hbl hbA hS (bin_in h175) dL_law_527 ?_
                                      obtain ⟨r178, S176, q177, hf⟩ := cal2_some hf
                                      refine pg_callL (As := [.int (xs (x3 + (1 : Int32)).toNatClampNeg), .int (xs (x3 + (2 : Int32)).toNatClampNeg), .int (xs (x3 + (3 : Int32)).toNatClampNeg), .int (xs (x3 + (4 : Int32)).toNatClampNeg)]) (rest := []) (st1 := [.int r178]) (ci := 6) hC hml hP hS (c_X6_meets l hC.2.2.2.2.2.1 q177) ⟨by decide, by decide⟩ ⟨by decide, by decide⟩ (by decide) rfl (by decide) k_0 rfl rfl ⟨mk_L_77, mi_X6_meets⟩ hd_X6_meets rfl hl.1 (Nat.le_of_ble_eq_true rfl) dL_law_528 (fun H locs hP hS => ?_)
                                      refine lv_aload_n hx hb dL_law_531 rfl (lv_at hl 2 rfl) ?_
                                      refine lv_aload_n hx hb dL_law_532 rfl (lv_at hl 0 rfl) ?_
                                      refine lv_iload_n hx hb dL_law_533 rfl (lv_at hl 3 rfl) ?_
                                      refine lv_iconst (v := 1) hx hb dL_law_534 (by decide) ?_
                                      refine lv_iadd hx hb dL_law_535 ?_
                                      obtain ⟨h179, hf⟩ := gd_some hf
                                      refine va_sld hx hb hXs hbl hbA hS (bin_in h179) dL_law_536 ?_
                                      refine lv_aload_n hx hb dL_law_537 rfl (lv_at hl 0 rfl) ?_
                                      refine lv_iload_n hx hb dL_law_538 rfl (lv_at hl 3 rfl) ?_
                                      refine lv_iconst (v := 2) hx hb dL_law_539 (by decide) ?_
                                      refine lv_iadd hx hb dL_law_540 ?_
                                      obtain ⟨h180, hf⟩ := gd_some hf
                                      refine va_sld hx hb hXs hbl hbA hS (bin_in h180) dL_law_541 ?_
                                      refine lv_aload_n hx hb dL_law_542 rfl (lv_at hl 0 rfl) ?_
                                      refine lv_iload_n hx hb dL_law_543 rfl (lv_at hl 3 rfl) ?_
                                      refine lv_iconst (v := 3) hx hb dL_law_544 (by decide) ?_
                                      refine lv_iadd hx hb dL_law_545 ?_
                                      obtain ⟨h181, hf⟩ := gd_some hf
                                      refine va_sld hx hb hXs hbl hbA hS (bin_in h181) dL_law_546 ?_
                                      refine lv_aload_n hx hb dL_law_547 rfl (lv_at hl 0 rfl) ?_
                                      refine lv_iload_n hx hb dL_law_548 rfl (lv_at hl 3 rfl) ?_
                                      refine lv_iconst (v := 4) hx hb dL_law_549 (by decide) ?_
                                      refine lv_iadd hx hb dL_law_550 ?_
                                      obtain ⟨h182, hf⟩ := gd_some hf
                                      refine va_sld hx hb hXs hbl hbA hS (bin_in h182) dL_law_551 ?_
                                      obtain ⟨r185, S183, q184, hf⟩ := cal2_some hf
                                      refine pg_callL (As := [.int (xs (x3 + (1 : Int32)).toNatClampNeg), .int (xs (x3 + (2 : Int32)).toNatClampNeg), .int (xs (x3 + (3 : Int32)).toNatClampNeg), .int (xs (x3 + (4 : Int32)).toNatClampNeg)]) (rest := [.int r178]) (st1 := [.int r185, .int r178]) (ci := 7) hC hml hP hS (c_X7_meets l hC.2.2.2.2.2.1 q184) ⟨by decide, by decide⟩ ⟨by decide, by decide⟩ (by decide) rfl (by decide) k_158 rfl rfl ⟨mk_L_81, mi_X7_meets⟩ hd_X7_meets rfl hl.1 (Nat.le_of_ble_eq_true rfl) dL_law_552 (fun H locs hP hS => ?_)
                                      refine lv_icmp_eq (tgt := 821) hx hb dL_law_555 (by decide) (fun c186 => ?_) (fun c186 => ?_)
                                      · replace hf := ite_t c186 hf
                                        obtain ⟨v187, ev187, hf⟩ := bnd_some hf
                                        refine lv_iinc (v := v187) (lv' := [(3, .int v187), (0, .ref b), (1, .ref (ad 0)), (2, .ref (ad 158))]) hx hb dL_law_821 hl (k := 3) rfl (by rw [ev187]; rfl) (by decide) rfl (fun ls hl => ?_)
                                        refine lv_goto (tgt := 18) hx hb dL_law_824 (by decide) ?_
                                        exact ih _ _ _ _ _ hf hP hS (lv_sub hl [1, 2, 3, 0] rfl)
                                      · replace hf := ite_f c186 hf
                                        refine lv_iconst (v := 0) hx hb dL_law_558 (by decide) ?_
                                        exact absurd (show (0 : Int32) = 1 from congrArg Prod.fst (Option.some.inj hf)) (by decide)
                                    · replace hf := ite_f c171 hf
                                      by_cases c188 : v3 = (16 : Int32)
                                      · replace hf := ite_t c188 hf
                                        refine lv_tableIn (off := 528) (tgt := 560) hx hb dL_law_32 (by rw [c188]; decide) (by rw [c188]; decide) (by rw [c188]; decide) (by decide) ?_
                                        refine lv_aload_n hx hb dL_law_560 rfl (lv_at hl 1 rfl) ?_
                                        refine lv_aload_n hx hb dL_law_561 rfl (lv_at hl 0 rfl) ?_
                                        refine lv_iload_n hx hb dL_law_562 rfl (lv_at hl 3 rfl) ?_
                                        refine lv_iconst (v := 1) hx hb dL_law_563 (by decide) ?_
                                        refine lv_iadd hx hb dL_law_564 ?_
                                        obtain ⟨h189, hf⟩ := gd_some hf
                                        refine va_sld hx hb hXs hbl hbA hS (bin_in h189) dL_law_565 ?_
                                        refine lv_aload_n hx hb dL_law_566 rfl (lv_at hl 0 rfl) ?_
                                        refine lv_iload_n hx hb dL_law_567 rfl (lv_at hl 3 rfl) ?_
                                        refine lv_iconst (v := 2) hx hb dL_law_568 (by decide) ?_
                                        refine lv_iadd hx hb dL_law_569 ?_
                                        obtain ⟨h190, hf⟩ := gd_some hf
                                        refine va_sld hx hb hXs hbl hbA hS (bin_in h190) dL_law_570 ?_
                                        refine lv_aload_n hx hb dL_law_571 rfl (lv_at hl 0 rfl) ?_
                                        refine lv_iload_n hx hb dL_law_572 rfl (lv_at hl 3 rfl) ?_
                                        refine lv_iconst (v := 3) hx hb dL_law_573 (by decide) ?_
                                        refine lv_iadd hx hb dL_law_574 ?_
                                        obtain ⟨h191, hf⟩ := gd_some hf
                                        refine va_sld hx hb hXs hbl hbA hS (bin_in h191) dL_law_575 ?_
                                        refine lv_aload_n hx hb dL_law_576 rfl (lv_at hl 0 rfl) ?_
                                        refine lv_iload_n hx hb dL_law_577 rfl (lv_at hl 3 rfl) ?_
                                        refine lv_iconst (v := 4) hx hb dL_law_578 (by decide) ?_
                                        refine lv_iadd hx hb dL_law_579 ?_
                                        obtain ⟨h192, hf⟩ := gd_some hf
                                        refine va_sld hx hb hXs hbl hbA hS (bin_in h192) dL_law_580 ?_
                                        obtain ⟨r195, S193, q194, hf⟩ := cal2_some hf
                                        refine pg_callL (As := [.int (xs (x3 + (1 : Int32)).toNatClampNeg), .int (xs (x3 + (2 : Int32)).toNatClampNeg), .int (xs (x3 + (3 : Int32)).toNatClampNeg), .int (xs (x3 + (4 : Int32)).toNatClampNeg)]) (rest := []) (st1 := [.int r195]) (ci := 6) hC hml hP hS (c_X6_odds l hC.2.2.2.2.2.1 q194) ⟨by decide, by decide⟩ ⟨by decide, by decide⟩ (by decide) rfl (by decide) k_0 rfl rfl ⟨mk_L_82, mi_X6_odds⟩ hd_X6_odds rfl hl.1 (Nat.le_of_ble_eq_true rfl) dL_law_581 (fun H locs hP hS => ?_)
                                        refine lv_aload_n hx hb dL_law_584 rfl (lv_at hl 2 rfl) ?_
                                        refine lv_aload_n hx hb dL_law_585 rfl (lv_at hl 0 rfl) ?_
                                        refine lv_iload_n hx hb dL_law_586 rfl (lv_at hl 3 rfl) ?_
                                        refine lv_iconst (v := 1) hx hb dL_law_587 (by decide) ?_
                                        refine lv_iadd hx hb dL_law_588 ?_
                                        obtain ⟨h196, hf⟩ := gd_some hf
                                        refine va_sld hx hb hXs hbl hbA hS (bin_in h196) dL_law_589 ?_
                                        refine lv_aload_n hx hb dL_law_590 rfl (lv_at hl 0 rfl) ?_
                                        refine lv_iload_n hx hb dL_law_591 rfl (lv_at hl 3 rfl) ?_
                                        refine lv_iconst (v := 2) hx hb dL_law_592 (by decide) ?_
                                        refine lv_iadd hx hb dL_law_593 ?_
                                        obtain ⟨h197, hf⟩ := gd_some hf
                                        refine va_sld hx hb hXs hbl hbA hS (bin_in h197) dL_law_594 ?_
                                        refine lv_aload_n hx hb dL_law_595 rfl (lv_at hl 0 rfl) ?_
                                        refine lv_iload_n hx hb dL_law_596 rfl (lv_at hl 3 rfl) ?_
                                        refine lv_iconst (v := 3) hx hb dL_law_597 (by decide) ?_
                                        refine lv_iadd hx hb dL_law_598 ?_
                                        obtain ⟨h198, hf⟩ := gd_some hf
                                        refine va_sld hx hb hXs hbl hbA hS (bin_in h198) dL_law_599 ?_
                                        refine lv_aload_n hx hb dL_law_600 rfl (lv_at hl 0 rfl) ?_
                                        refine lv_iload_n hx hb dL_law_601 rfl (lv_at hl 3 rfl) ?_
                                        refine lv_iconst (v := 4) hx hb dL_law_602 (by decide) ?_
                                        refine lv_iadd hx hb dL_law_603 ?_
                                        obtain ⟨h199, hf⟩ := gd_some hf
                                        refine va_sld hx hb hXs hbl hbA hS (bin_in h199) dL_law_604 ?_
                                        obtain ⟨r202, S200, q201, hf⟩ := cal2_some hf
                                        refine pg_callL (As := [.int (xs (x3 + (1 : Int32)).toNatClampNeg), .int (xs (x3 + (2 : Int32)).toNatClampNeg), .int (xs (x3 + (3 : Int32)).toNatClampNeg), .int (xs (x3 + (4 : Int32)).toNatClampNeg)]) (rest := [.int r195]) (st1 := [.int r202, .int r195]) (ci := 7) hC hml hP hS (c_X7_odds l hC.2.2.2.2.2.1 q201) ⟨by decide, by decide⟩ ⟨by decide, by decide⟩ (by decide) rfl (by decide) k_158 rfl rfl ⟨mk_L_85, mi_X7_odds⟩ hd_X7_odds rfl hl.1 (Nat.le_of_ble_eq_true rfl) dL_law_605 (fun H locs hP hS => ?_)
                                        refine lv_icmp_eq (tgt := 821) hx hb dL_law_608 (by decide) (fun c203 => ?_) (fun c203 => ?_)
                                        · replace hf := ite_t c203 hf
                                          obtain ⟨v204, ev204, hf⟩ := bnd_some hf
                                          refine lv_iinc (v := v204) (lv' := [(3, .int v204), (0, .ref b), (1, .ref (ad 0)), (2, .ref (ad 158))]) hx hb dL_law_821 hl (k := 3) rfl (by rw [ev204]; rfl) (by decide) rfl (fun ls hl => ?_)
                                          refine lv_goto (tgt := 18) hx hb dL_law_824 (by decide) ?_
                                          exact ih _ _ _ _ _ hf hP hS (lv_sub hl [1, 2, 3, 0] rfl)
                                        · replace hf := ite_f c203 hf
                                          refine lv_iconst (v := 0) hx hb dL_law_611 (by decide) ?_
                                          exact absurd (show (0 : Int32) = 1 from congrArg Prod.fst (Option.some.inj hf)) (by decide)
                                      · replace hf := ite_f c188 hf
                                        by_cases c205 : v3 = (17 : Int32)
                                        · replace hf := ite_t c205 hf
                                          refine lv_tableIn (off := 581) (tgt := 613) hx hb dL_law_32 (by rw [c205]; decide) (by rw [c205]; decide) (by rw [c205]; decide) (by decide) ?_
                                          refine lv_aload_n hx hb dL_law_613 rfl (lv_at hl 1 rfl) ?_
                                          refine lv_aload_n hx hb dL_law_614 rfl (lv_at hl 0 rfl) ?_
                                          refine lv_iload_n hx hb dL_law_615 rfl (lv_at hl 3 rfl) ?_
                                          refine lv_iconst (v := 1) hx hb dL_law_616 (by decide) ?_
                                          refine lv_iadd hx hb dL_law_617 ?_
                                          obtain ⟨h206, hf⟩ := gd_some hf
                                          refine va_sld hx hb hXs hbl hbA hS (bin_in h206) dL_law_618 ?_
                                          refine lv_aload_n hx hb dL_law_619 rfl (lv_at hl 0 rfl) ?_
                                          refine lv_iload_n hx hb dL_law_620 rfl (lv_at hl 3 rfl) ?_
                                          refine lv_iconst (v := 2) hx hb dL_law_621 (by decide) ?_
                                          refine lv_iadd hx hb dL_law_622 ?_
                                          obtain ⟨h207, hf⟩ := gd_some hf
                                          refine va_sld hx hb hXs hbl hbA hS (bin_in h207) dL_law_623 ?_
                                          obtain ⟨r210, S208, q209, hf⟩ := cal2_some hf
                                          refine pg_callL (As := [.int (xs (x3 + (1 : Int32)).toNatClampNeg), .int (xs (x3 + (2 : Int32)).toNatClampNeg)]) (rest := []) (st1 := [.int r210]) (ci := 6) hC hml hP hS (c_X6_saw l hC.2.2.2.2.2.1 q209) ⟨by decide, by decide⟩ ⟨by decide, by decide⟩ (by decide) rfl (by decide) k_0 rfl rfl ⟨mk_L_86, mi_X6_saw⟩ hd_X6_saw rfl hl.1 (Nat.le_of_ble_eq_true rfl) dL_law_624 (fun H locs hP hS => ?_)
                                          refine lv_aload_n hx hb dL_law_627 rfl (lv_at hl 2 rfl) ?_
                                          refine lv_aload_n hx hb dL_law_628 rfl (lv_at hl 0 rfl) ?_
                                          refine lv_iload_n hx hb dL_law_629 rfl (lv_at hl 3 rfl) ?_
                                          refine lv_iconst (v := 1) hx hb dL_law_630 (by decide) ?_
                                          refine lv_iadd hx hb dL_law_631 ?_
                                          obtain ⟨h211, hf⟩ := gd_some hf
                                          refine va_sld hx hb hXs hbl hbA hS (bin_in h211) dL_law_632 ?_
                                          refine lv_aload_n hx hb dL_law_633 rfl (lv_at hl 0 rfl) ?_
                                          refine lv_iload_n hx hb dL_law_634 rfl (lv_at hl 3 rfl) ?_
                                          refine lv_iconst (v := 2) hx hb dL_law_635 (by decide) ?_
                                          refine lv_iadd hx hb dL_law_636 ?_
                                          obtain ⟨h212, hf⟩ := gd_some hf
                                          refine va_sld hx hb hXs hbl hbA hS (bin_in h212) dL_law_637 ?_
                                          obtain ⟨r215, S213, q214, hf⟩ := cal2_some hf
                                          refine pg_callL (As := [.int (xs (x3 + (1 : Int32)).toNatClampNeg), .int (xs (x3 + (2 : Int32)).toNatClampNeg)]) (rest := [.int r210]) (st1 := [.int r215, .int r210]) (ci := 7) hC hml hP hS (c_X7_saw l hC.2.2.2.2.2.1 q214) ⟨by decide, by decide⟩ ⟨by decide, by decide⟩ (by decide) rfl (by decide) k_158 rfl rfl ⟨mk_L_89, mi_X7_saw⟩ hd_X7_saw rfl hl.1 (Nat.le_of_ble_eq_true rfl) dL_law_638 (fun H locs hP hS => ?_)
                                          refine lv_icmp_eq (tgt := 821) hx hb dL_law_641 (by decide) (fun c216 => ?_) (fun c216 => ?_)
                                          · replace hf := ite_t c216 hf
                                            obtain ⟨v217, ev217, hf⟩ := bnd_some hf
                                            refine lv_iinc (v := v217) (lv' := [(3, .int v217), (0, .ref b), (1, .ref (ad 0)), (2, .ref (ad 158))]) hx hb dL_law_821 hl (k := 3) rfl (by rw [ev217]; rfl) (by decide) rfl (fun ls hl => ?_)
                                            refine lv_goto (tgt := 18) hx hb dL_law_824 (by decide) ?_
                                            exact ih _ _ _ _ _ hf hP hS (lv_sub hl [1, 2, 3, 0] rfl)
                                          · replace hf := ite_f c216 hf
                                            refine lv_iconst (v := 0) hx hb dL_law_644 (by decide) ?_
                                            exact absurd (show (0 : Int32) = 1 from congrArg Prod.fst (Option.some.inj hf)) (by decide)
                                        · replace hf := ite_f c205 hf
                                          by_cases c218 : v3 = (18 : Int32)
                                          · replace hf := ite_t c218 hf
                                            refine lv_tableIn (off := 614) (tgt := 646) hx hb dL_law_32 (by rw [c218]; decide) (by rw [c218]; decide) (by rw [c218]; decide) (by decide) ?_
                                            refine lv_aload_n hx hb dL_law_646 rfl (lv_at hl 1 rfl) ?_
                                            obtain ⟨r221, S219, q220, hf⟩ := cal2_some hf
                                            refine pg_callL (As := []) (rest := []) (st1 := [.int r221]) (ci := 6) hC hml hP hS (c_X6_forget l hC.2.2.2.2.2.1 q220) ⟨by decide, by decide⟩ ⟨by decide, by decide⟩ (by decide) rfl (by decide) k_0 rfl rfl ⟨mk_L_90, mi_X6_forget⟩ hd_X6_forget rfl hl.1 (Nat.le_of_ble_eq_true rfl) dL_law_647 (fun H locs hP hS => ?_)
                                            refine lv_aload_n hx hb dL_law_650 rfl (lv_at hl 2 rfl) ?_
                                            obtain ⟨r224, S222, q223, hf⟩ := cal2_some hf
                                            refine pg_callL (As := []) (rest := [.int r221]) (st1 := [.int r224, .int r221]) (ci := 7) hC hml hP hS (c_X7_forget l hC.2.2.2.2.2.1 q223) ⟨by decide, by decide⟩ ⟨by decide, by decide⟩ (by decide) rfl (by decide) k_158 rfl rfl ⟨mk_L_93, mi_X7_forget⟩ hd_X7_forget rfl hl.1 (Nat.le_of_ble_eq_true rfl) dL_law_651 (fun H locs hP hS => ?_)
                                            refine lv_icmp_eq (tgt := 821) hx hb dL_law_654 (by decide) (fun c225 => ?_) (fun c225 => ?_)
                                            · replace hf := ite_t c225 hf
                                              obtain ⟨v226, ev226, hf⟩ := bnd_some hf
                                              refine lv_iinc (v := v226) (lv' := [(3, .int v226), (0, .ref b), (1, .ref (ad 0)), (2, .ref (ad 158))]) hx hb dL_law_821 hl (k := 3) rfl (by rw [ev226]; rfl) (by decide) rfl (fun ls hl => ?_)
                                              refine lv_goto (tgt := 18) hx hb dL_law_824 (by decide) ?_
                                              exact ih _ _ _ _ _ hf hP hS (lv_sub hl [1, 2, 3, 0] rfl)
                                            · replace hf := ite_f c225 hf
                                              refine lv_iconst (v := 0) hx hb dL_law_657 (by decide) ?_
                                              exact absurd (show (0 : Int32) = 1 from congrArg Prod.fst (Option.some.inj hf)) (by decide)
                                          · replace hf := ite_f c218 hf
                                            by_cases c227 : v3 = (19 : Int32)
                                            · replace hf := ite_t c227 hf
                                              refine lv_tableIn (off := 627) (tgt := 659) hx hb dL_law_32 (by rw [c227]; decide) (by rw [c227]; decide) (by rw [c227]; decide) (by decide) ?_
                                              refine lv_aload_n hx hb dL_law_659 rfl (lv_at hl 1 rfl) ?_
                                              refine lv_aload_n hx hb dL_law_660 rfl (lv_at hl 0 rfl) ?_
                                              refine lv_iload_n hx hb dL_law_661 rfl (lv_at hl 3 rfl) ?_
                                              refine lv_iconst (v := 1) hx hb dL_law_662 (by decide) ?_
                                              refine lv_iadd hx hb dL_law_663 ?_
                                              obtain ⟨h228, hf⟩ := gd_some hf
                                              refine va_sld hx hb hXs hbl hbA hS (bin_in h228) dL_law_664 ?_
                                              obtain ⟨r231, S229, q230, hf⟩ := cal2_some hf
                                              refine pg_callL (As := [.int (xs (x3 + (1 : Int32)).toNatClampNeg)]) (rest := []) (st1 := [.int r231]) (ci := 6) hC hml hP hS (c_X6_fits l hC.2.2.2.2.2.1 q230) ⟨by decide, by decide⟩ ⟨by decide, by decide⟩ (by decide) rfl (by decide) k_0 rfl rfl ⟨mk_L_94, mi_X6_fits⟩ hd_X6_fits rfl hl.1 (Nat.le_of_ble_eq_true rfl) dL_law_665 (fun H locs hP hS => ?_)
                                              refine lv_aload_n hx hb dL_law_668 rfl (lv_at hl 2 rfl) ?_
                                              refine lv_aload_n hx hb dL_law_669 rfl (lv_at hl 0 rfl) ?_
                                              refine lv_iload_n hx hb dL_law_670 rfl (lv_at hl 3 rfl) ?_
                                              refine lv_iconst (v := 1) hx hb dL_law_671 (by decide) ?_
                                              refine lv_iadd hx hb dL_law_672 ?_
                                              obtain ⟨h232, hf⟩ := gd_some hf
                                              refine va_sld hx hb hXs hbl hbA hS (bin_in h232) dL_law_673 ?_
                                              obtain ⟨r235, S233, q234, hf⟩ := cal2_some hf
                                              refine pg_callL (As := [.int (xs (x3 + (1 : Int32)).toNatClampNeg)]) (rest := [.int r231]) (st1 := [.int r235, .int r231]) (ci := 7) hC hml hP hS (c_X7_fits l hC.2.2.2.2.2.1 q234) ⟨by decide, by decide⟩ ⟨by decide, by decide⟩ (by decide) rfl (by decide) k_158 rfl rfl ⟨mk_L_97, mi_X7_fits⟩ hd_X7_fits rfl hl.1 (Nat.le_of_ble_eq_true rfl) dL_law_674 (fun H locs hP hS => ?_)
                                              refine lv_icmp_eq (tgt := 821) hx hb dL_law_677 (by decide) (fun c236 => ?_) (fun c236 => ?_)
                                              · replace hf := ite_t c236 hf
                                                obtain ⟨v237, ev237, hf⟩ := bnd_some hf
                                                refine lv_iinc (v := v237) (lv' := [(3, .int v237), (0, .ref b), (1, .ref (ad 0)), (2, .ref (ad 158))]) hx hb dL_law_821 hl (k := 3) rfl (by rw [ev237]; rfl) (by decide) rfl (fun ls hl => ?_)
                                                refine lv_goto (tgt := 18) hx hb dL_law_824 (by decide) ?_
                                                exact ih _ _ _ _ _ hf hP hS (lv_sub hl [1, 2, 3, 0] rfl)
                                              · replace hf := ite_f c236 hf
                                                refine lv_iconst (v := 0) hx hb dL_law_680 (by decide) ?_
                                                exact absurd (show (0 : Int32) = 1 from congrArg Prod.fst (Option.some.inj hf)) (by decide)
                                            · replace hf := ite_f c227 hf
                                              by_cases c238 : v3 = (20 : Int32)
                                              · replace hf := ite_t c238 hf
                                                refine lv_tableIn (off := 650) (tgt := 682) hx hb dL_law_32 (by rw [c238]; decide) (by rw [c238]; decide) (by rw [c238]; decide) (by decide) ?_
                                                refine lv_aload_n hx hb dL_law_682 rfl (lv_at hl 1 rfl) ?_
                                                refine lv_aload_n hx hb dL_law_683 rfl (lv_at hl 0 rfl) ?_
                                                refine lv_iload_n hx hb dL_law_684 rfl (lv_at hl 3 rfl) ?_
                                                refine lv_iconst (v := 1) hx hb dL_law_685 (by decide) ?_
                                                refine lv_iadd hx hb dL_law_686 ?_
                                                obtain ⟨h239, hf⟩ := gd_some hf
                                                refine va_sld hx hb hXs hbl hbA hS (bin_in h239) dL_law_687 ?_
                                                obtain ⟨r242, S240, q241, hf⟩ := cal2_some hf
                                                refine pg_callL (As := [.int (xs (x3 + (1 : Int32)).toNatClampNeg)]) (rest := []) (st1 := [.int r242]) (ci := 6) hC hml hP hS (c_X6_surely l hC.2.2.2.2.2.1 q241) ⟨by decide, by decide⟩ ⟨by decide, by decide⟩ (by decide) rfl (by decide) k_0 rfl rfl ⟨mk_L_98, mi_X6_surely⟩ hd_X6_surely rfl hl.1 (Nat.le_of_ble_eq_true rfl) dL_law_688 (fun H locs hP hS => ?_)
                                                refine lv_aload_n hx hb dL_law_691 rfl (lv_at hl 2 rfl) ?_
                                                refine lv_aload_n hx hb dL_law_692 rfl (lv_at hl 0 rfl) ?_
                                                refine lv_iload_n hx hb dL_law_693 rfl (lv_at hl 3 rfl) ?_
                                                refine lv_iconst (v := 1) hx hb dL_law_694 (by decide) ?_
                                                refine lv_iadd hx hb dL_law_695 ?_
                                                obtain ⟨h243, hf⟩ := gd_some hf
                                                refine va_sld hx hb hXs hbl hbA hS (bin_in h243) dL_law_696 ?_
                                                obtain ⟨r246, S244, q245, hf⟩ := cal2_some hf
                                                refine pg_callL (As := [.int (xs (x3 + (1 : Int32)).toNatClampNeg)]) (rest := [.int r242]) (st1 := [.int r246, .int r242]) (ci := 7) hC hml hP hS (c_X7_surely l hC.2.2.2.2.2.1 q245) ⟨by decide, by decide⟩ ⟨by decide, by decide⟩ (by decide) rfl (by decide) k_158 rfl rfl ⟨mk_L_101, mi_X7_surely⟩ hd_X7_surely rfl hl.1 (Nat.le_of_ble_eq_true rfl) dL_law_697 (fun H locs hP hS => ?_)
                                                refine lv_icmp_eq (tgt := 821) hx hb dL_law_700 (by decide) (fun c247 => ?_) (fun c247 => ?_)
                                                · replace hf := ite_t c247 hf
                                                  obtain ⟨v248, ev248, hf⟩ := bnd_some hf
                                                  refine lv_iinc (v := v248) (lv' := [(3, .int v248), (0, .ref b), (1, .ref (ad 0)), (2, .ref (ad 158))]) hx hb dL_law_821 hl (k := 3) rfl (by rw [ev248]; rfl) (by decide) rfl (fun ls hl => ?_)
                                                  refine lv_goto (tgt := 18) hx hb dL_law_824 (by decide) ?_
                                                  exact ih _ _ _ _ _ hf hP hS (lv_sub hl [1, 2, 3, 0] rfl)
                                                · replace hf := ite_f c247 hf
                                                  refine lv_iconst (v := 0) hx hb dL_law_703 (by decide) ?_
                                                  exact absurd (show (0 : Int32) = 1 from congrArg Prod.fst (Option.some.inj hf)) (by decide)
                                              · replace hf := ite_f c238 hf
                                                by_cases c249 : v3 = (21 : Int32)
                                                · replace hf := ite_t c249 hf
                                                  refine lv_tableIn (off := 673) (tgt := 705) hx hb dL_law_32 (by rw [c249]; decide) (by rw [c249]; decide) (by rw [c249]; decide) (by decide) ?_
                                                  refine lv_aload_n hx hb dL_law_705 rfl (lv_at hl 1 rfl) ?_
                                                  refine lv_aload_n hx hb dL_law_706 rfl (lv_at hl 0 rfl) ?_
                                                  refine lv_iload_n hx hb dL_law_707 rfl (lv_at hl 3 rfl) ?_
                                                  refine lv_iconst (v := 1) hx hb dL_law_708 (by decide) ?_
                                                  refine lv_iadd hx hb dL_law_709 ?_
                                                  obtain ⟨h250, hf⟩ := gd_some hf
                                                  refine va_sld hx hb hXs hbl hbA hS (bin_in h250) dL_law_710 ?_
                                                  refine lv_aload_n hx hb dL_law_711 rfl (lv_at hl 0 rfl) ?_
                                                  refine lv_iload_n hx hb dL_law_712 rfl (lv_at hl 3 rfl) ?_
                                                  refine lv_iconst (v := 2) hx hb dL_law_713 (by decide) ?_
                                                  refine lv_iadd hx hb dL_law_714 ?_
                                                  obtain ⟨h251, hf⟩ := gd_some hf
                                                  refine va_sld hx hb hXs hbl hbA hS (bin_in h251) dL_law_715 ?_
                                                  obtain ⟨r254, S252, q253, hf⟩ := cal2_some hf
                                                  refine pg_callL (As := [.int (xs (x3 + (1 : Int32)).toNatClampNeg), .int (xs (x3 + (2 : Int32)).toNatClampNeg)]) (rest := []) (st1 := [.int r254]) (ci := 6) hC hml hP hS (c_X6_mark l hC.2.2.2.2.2.1 q253) ⟨by decide, by decide⟩ ⟨by decide, by decide⟩ (by decide) rfl (by decide) k_0 rfl rfl ⟨mk_L_102, mi_X6_mark⟩ hd_X6_mark rfl hl.1 (Nat.le_of_ble_eq_true rfl) dL_law_716 (fun H locs hP hS => ?_)
                                                  refine lv_aload_n hx hb dL_law_719 rfl (lv_at hl 2 rfl) ?_
                                                  refine lv_aload_n hx hb dL_law_720 rfl (lv_at hl 0 rfl) ?_
                                                  refine lv_iload_n hx hb dL_law_721 rfl (lv_at hl 3 rfl) ?_
                                                  refine lv_iconst (v := 1) hx hb dL_law_722 (by decide) ?_
                                                  refine lv_iadd hx hb dL_law_723 ?_
                                                  obtain ⟨h255, hf⟩ := gd_some hf
                                                  refine va_sld hx hb hXs hbl hbA hS (bin_in h255) dL_law_724 ?_
                                                  refine lv_aload_n hx hb dL_law_725 rfl (lv_at hl 0 rfl) ?_
                                                  refine lv_iload_n hx hb dL_law_726 rfl (lv_at hl 3 rfl) ?_
                                                  refine lv_iconst (v := 2) hx hb dL_law_727 (by decide) ?_
                                                  refine lv_iadd hx hb dL_law_728 ?_
                                                  obtain ⟨h256, hf⟩ := gd_some hf
                                                  refine va_sld hx hb hXs hbl hbA hS (bin_in h256) dL_law_729 ?_
                                                  obtain ⟨r259, S257, q258, hf⟩ := cal2_some hf
                                                  refine pg_callL (As := [.int (xs (x3 + (1 : Int32)).toNatClampNeg), .int (xs (x3 + (2 : Int32)).toNatClampNeg)]) (rest := [.int r254]) (st1 := [.int r259, .int r254]) (ci := 7) hC hml hP hS (c_X7_mark l hC.2.2.2.2.2.1 q258) ⟨by decide, by decide⟩ ⟨by decide, by decide⟩ (by decide) rfl (by decide) k_158 rfl rfl ⟨mk_L_105, mi_X7_mark⟩ hd_X7_mark rfl hl.1 (Nat.le_of_ble_eq_true rfl) dL_law_730 (fun H locs hP hS => ?_)
                                                  refine lv_icmp_eq (tgt := 821) hx hb dL_law_733 (by decide) (fun c260 => ?_) (fun c260 => ?_)
                                                  · replace hf := ite_t c260 hf
                                                    obtain ⟨v261, ev261, hf⟩ := bnd_some hf
                                                    refine lv_iinc (v := v261) (lv' := [(3, .int v261), (0, .ref b), (1, .ref (ad 0)), (2, .ref (ad 158))]) hx hb dL_law_821 hl (k := 3) rfl (by rw [ev261]; rfl) (by decide) rfl (fun ls hl => ?_)
                                                    refine lv_goto (tgt := 18) hx hb dL_law_824 (by decide) ?_
                                                    exact ih _ _ _ _ _ hf hP hS (lv_sub hl [1, 2, 3, 0] rfl)
                                                  · replace hf := ite_f c260 hf
                                                    refine lv_iconst (v := 0) hx hb dL_law_736 (by decide) ?_
                                                    exact absurd (show (0 : Int32) = 1 from congrArg Prod.fst (Option.some.inj hf)) (by decide)
                                                · replace hf := ite_f c249 hf
                                                  by_cases c262 : v3 = (22 : Int32)
                                                  · replace hf := ite_t c262 hf
                                                    refine lv_tableIn (off := 706) (tgt := 738) hx hb dL_law_32 (by rw [c262]; decide) (by rw [c262]; decide) (by rw [c262]; decide) (by decide) ?_
                                                    refine lv_aload_n hx hb dL_law_738 rfl (lv_at hl 1 rfl) ?_
                                                    refine lv_aload_n hx hb dL_law_739 rfl (lv_at hl 0 rfl) ?_
                                                    refine lv_iload_n hx hb dL_law_740 rfl (lv_at hl 3 rfl) ?_
                                                    refine lv_iconst (v := 1) hx hb dL_law_741 (by decide) ?_
                                                    refine lv_iadd hx hb dL_law_742 ?_
                                                    obtain ⟨h263, hf⟩ := gd_some hf
                                                    refine va_sld hx hb hXs hbl hbA hS (bin_in h263) dL_law_743 ?_
                                                    obtain ⟨r266, S264, q265, hf⟩ := cal2_some hf
                                                    refine pg_callL (As := [.int (xs (x3 + (1 : Int32)).toNatClampNeg)]) (rest := []) (st1 := [.int r266]) (ci := 6) hC hml hP hS (c_X6_keep l hC.2.2.2.2.2.1 q265) ⟨by decide, by decide⟩ ⟨by decide, by decide⟩ (by decide) rfl (by decide) k_0 rfl rfl ⟨mk_L_106, mi_X6_keep⟩ hd_X6_keep rfl hl.1 (Nat.le_of_ble_eq_true rfl) dL_law_744 (fun H locs hP hS => ?_)
                                                    refine lv_aload_n hx hb dL_law_747 rfl (lv_at hl 2 rfl) ?_
                                                    refine lv_aload_n hx hb dL_law_748 rfl (lv_at hl 0 rfl) ?_
                                                    refine lv_iload_n hx hb dL_law_749 rfl (lv_at hl 3 rfl) ?_
                                                    refine lv_iconst (v := 1) hx hb dL_law_750 (by decide) ?_
                                                    refine lv_iadd hx hb dL_law_751 ?_
                                                    obtain ⟨h267, hf⟩ := gd_some hf
                                                    refine va_sld hx hb hXs hbl hbA hS (bin_in h267) dL_law_752 ?_
                                                    obtain ⟨r270, S268, q269, hf⟩ := cal2_some hf
                                                    refine pg_callL (As := [.int (xs (x3 + (1 : Int32)).toNatClampNeg)]) (rest := [.int r266]) (st1 := [.int r270, .int r266]) (ci := 7) hC hml hP hS (c_X7_keep l hC.2.2.2.2.2.1 q269) ⟨by decide, by decide⟩ ⟨by decide, by decide⟩ (by decide) rfl (by decide) k_158 rfl rfl ⟨mk_L_109, mi_X7_keep⟩ hd_X7_keep rfl hl.1 (Nat.le_of_ble_eq_true rfl) dL_law_753 (fun H locs hP hS => ?_)
                                                    refine lv_icmp_eq (tgt := 821) hx hb dL_law_756 (by decide) (fun c271 => ?_) (fun c271 => ?_)
                                                    · replace hf := ite_t c271 hf
                                                      obtain ⟨v272, ev272, hf⟩ := bnd_some hf
                                                      refine lv_iinc (v := v272) (lv' := [(3, .int v272), (0, .ref b), (1, .ref (ad 0)), (2, .ref (ad 158))]) hx hb dL_law_821 hl (k := 3) rfl (by rw [ev272]; rfl) (by decide) rfl (fun ls hl => ?_)
                                                      refine lv_goto (tgt := 18) hx hb dL_law_824 (by decide) ?_
                                                      exact ih _ _ _ _ _ hf hP hS (lv_sub hl [1, 2, 3, 0] rfl)
                                                    · replace hf := ite_f c271 hf
                                                      refine lv_iconst (v := 0) hx hb dL_law_759 (by decide) ?_
                                                      exact absurd (show (0 : Int32) = 1 from congrArg Prod.fst (Option.some.inj hf)) (by decide)
                                                  · replace hf := ite_f c262 hf
                                                    by_cases c273 : v3 = (23 : Int32)
                                                    · replace hf := ite_t c273 hf
                                                      refine lv_tableIn (off := 729) (tgt := 761) hx hb dL_law_32 (by rw [c273]; decide) (by rw [c273]; decide) (by rw [c273]; decide) (by decide) ?_
                                                      refine lv_aload_n hx hb dL_law_761 rfl (lv_at hl 1 rfl) ?_
                                                      refine lv_aload_n hx hb dL_law_762 rfl (lv_at hl 0 rfl) ?_
                                                      refine lv_iload_n hx hb dL_law_763 rfl (lv_at hl 3 rfl) ?_
                                                      refine lv_iconst (v := 1) hx hb dL_law_764 (by decide) ?_
                                                      refine lv_iadd hx hb dL_law_765 ?_
                                                      obtain ⟨h274, hf⟩ := gd_some hf
                                                      refine va_sld hx hb hXs hbl hbA hS (bin_in h274) dL_law_766 ?_
                                                      obtain ⟨r277, S275, q276, hf⟩ := cal2_some hf
                                                      refine pg_callL (As := [.int (xs (x3 + (1 : Int32)).toNatClampNeg)]) (rest := []) (st1 := [.int r277]) (ci := 6) hC hml hP hS (c_X6_back l hC.2.2.2.2.2.1 q276) ⟨by decide, by decide⟩ ⟨by decide, by decide⟩ (by decide) rfl (by decide) k_0 rfl rfl ⟨mk_L_110, mi_X6_back⟩ hd_X6_back rfl hl.1 (Nat.le_of_ble_eq_true rfl) dL_law_767 (fun H locs hP hS => ?_)
                                                      refine lv_aload_n hx hb dL_law_770 rfl (lv_at hl 2 rfl) ?_
                                                      refine lv_aload_n hx hb dL_law_771 rfl (lv_at hl 0 rfl) ?_
                                                      refine lv_iload_n hx hb dL_law_772 rfl (lv_at hl 3 rfl) ?_
                                                      refine lv_iconst (v := 1) hx hb dL_law_773 (by decide) ?_
                                                      refine lv_iadd hx hb dL_law_774 ?_
                                                      obtain ⟨h278, hf⟩ := gd_some hf
                                                      refine va_sld hx hb hXs hbl hbA hS (bin_in h278) dL_law_775 ?_
                                                      obtain ⟨r281, S279, q280, hf⟩ := cal2_some hf
                                                      refine pg_callL (As := [.int (xs (x3 + (1 : Int32)).toNatClampNeg)]) (rest := [.int r277]) (st1 := [.int r281, .int r277]) (ci := 7) hC hml hP hS (c_X7_back l hC.2.2.2.2.2.1 q280) ⟨by decide, by decide⟩ ⟨by decide, by decide⟩ (by decide) rfl (by decide) k_158 rfl rfl ⟨mk_L_113, mi_X7_back⟩ hd_X7_back rfl hl.1 (Nat.le_of_ble_eq_true rfl) dL_law_776 (fun H locs hP hS => ?_)
                                                      refine lv_icmp_eq (tgt := 821) hx hb dL_law_779 (by decide) (fun c282 => ?_) (fun c282 => ?_)
                                                      · replace hf := ite_t c282 hf
                                                        obtain ⟨v283, ev283, hf⟩ := bnd_some hf
                                                        refine lv_iinc (v := v283) (lv' := [(3, .int v283), (0, .ref b), (1, .ref (ad 0)), (2, .ref (ad 158))]) hx hb dL_law_821 hl (k := 3) rfl (by rw [ev283]; rfl) (by decide) rfl (fun ls hl => ?_)
                                                        refine lv_goto (tgt := 18) hx hb dL_law_824 (by decide) ?_
                                                        exact ih _ _ _ _ _ hf hP hS (lv_sub hl [1, 2, 3, 0] rfl)
                                                      · replace hf := ite_f c282 hf
                                                        refine lv_iconst (v := 0) hx hb dL_law_782 (by decide) ?_
                                                        exact absurd (show (0 : Int32) = 1 from congrArg Prod.fst (Option.some.inj hf)) (by decide)
                                                    · replace hf := ite_f c273 hf
                                                      by_cases c284 : v3 = (24 : Int32)
                                                      · replace hf := ite_t c284 hf
                                                        refine lv_tableIn (off := 752) (tgt := 784) hx hb dL_law_32 (by rw [c284]; decide) (by rw [c284]; decide) (by rw [c284]; decide) (by decide) ?_
                                                        refine lv_aload_n hx hb dL_law_784 rfl (lv_at hl 1 rfl) ?_
                                                        refine lv_aload_n hx hb dL_law_785 rfl (lv_at hl 0 rfl) ?_
                                                        refine lv_iload_n hx hb dL_law_786 rfl (lv_at hl 3 rfl) ?_
                                                        refine lv_iconst (v := 1) hx hb dL_law_787 (by decide) ?_
                                                        refine lv_iadd hx hb dL_law_788 ?_
                                                        obtain ⟨h285, hf⟩ := gd_some hf
                                                        refine va_sld hx hb hXs hbl hbA hS (bin_in h285) dL_law_789 ?_
                                                        obtain ⟨r288, S286, q287, hf⟩ := cal2_some hf
                                                        refine pg_callL (As := [.int (xs (x3 + (1 : Int32)).toNatClampNeg)]) (rest := []) (st1 := [.int r288]) (ci := 6) hC hml hP hS (c_X6_count l hC.2.2.2.2.2.1 q287) ⟨by decide, by decide⟩ ⟨by decide, by decide⟩ (by decide) rfl (by decide) k_0 rfl rfl ⟨mk_L_114, mi_X6_count⟩ hd_X6_count rfl hl.1 (Nat.le_of_ble_eq_true rfl) dL_law_790 (fun H locs hP hS => ?_)
                                                        refine lv_aload_n hx hb dL_law_793 rfl (lv_at hl 2 rfl) ?_
                                                        refine lv_aload_n hx hb dL_law_794 rfl (lv_at hl 0 rfl) ?_
                                                        refine lv_iload_n hx hb dL_law_795 rfl (lv_at hl 3 rfl) ?_
                                                        refine lv_iconst (v := 1) hx hb dL_law_796 (by decide) ?_
                                                        refine lv_iadd hx hb dL_law_797 ?_
                                                        obtain ⟨h289, hf⟩ := gd_some hf
                                                        refine va_sld hx hb hXs hbl hbA hS (bin_in h289) dL_law_798 ?_
                                                        obtain ⟨r292, S290, q291, hf⟩ := cal2_some hf
                                                        refine pg_callL (As := [.int (xs (x3 + (1 : Int32)).toNatClampNeg)]) (rest := [.int r288]) (st1 := [.int r292, .int r288]) (ci := 7) hC hml hP hS (c_X7_count l hC.2.2.2.2.2.1 q291) ⟨by decide, by decide⟩ ⟨by decide, by decide⟩ (by decide) rfl (by decide) k_158 rfl rfl ⟨mk_L_117, mi_X7_count⟩ hd_X7_count rfl hl.1 (Nat.le_of_ble_eq_true rfl) dL_law_799 (fun H locs hP hS => ?_)
                                                        refine lv_icmp_eq (tgt := 821) hx hb dL_law_802 (by decide) (fun c293 => ?_) (fun c293 => ?_)
                                                        · replace hf := ite_t c293 hf
                                                          obtain ⟨v294, ev294, hf⟩ := bnd_some hf
                                                          refine lv_iinc (v := v294) (lv' := [(3, .int v294), (0, .ref b), (1, .ref (ad 0)), (2, .ref (ad 158))]) hx hb dL_law_821 hl (k := 3) rfl (by rw [ev294]; rfl) (by decide) rfl (fun ls hl => ?_)
                                                          refine lv_goto (tgt := 18) hx hb dL_law_824 (by decide) ?_
                                                          exact ih _ _ _ _ _ hf hP hS (lv_sub hl [1, 2, 3, 0] rfl)
                                                        · replace hf := ite_f c293 hf
                                                          refine lv_iconst (v := 0) hx hb dL_law_805 (by decide) ?_
                                                          exact absurd (show (0 : Int32) = 1 from congrArg Prod.fst (Option.some.inj hf)) (by decide)
                                                      · replace hf := ite_f c284 hf
                                                        by_cases c295 : v3 = (25 : Int32)
                                                        · replace hf := ite_t c295 hf
                                                          refine lv_tableIn (off := 775) (tgt := 807) hx hb dL_law_32 (by rw [c295]; decide) (by rw [c295]; decide) (by rw [c295]; decide) (by decide) ?_
                                                          refine lv_aload_n hx hb dL_law_807 rfl (lv_at hl 1 rfl) ?_
                                                          obtain ⟨r298, S296, q297, hf⟩ := cal2_some hf
                                                          refine pg_callL (As := []) (rest := []) (st1 := [.long r298]) (ci := 6) hC hml hP hS (c_X6_trace l hC.2.2.2.2.2.1 q297) ⟨by decide, by decide⟩ ⟨by decide, by decide⟩ (by decide) rfl (by decide) k_0 rfl rfl ⟨mk_L_118, mi_X6_trace⟩ hd_X6_trace rfl hl.1 (Nat.le_of_ble_eq_true rfl) dL_law_808 (fun H locs hP hS => ?_)
                                                          refine lv_aload_n hx hb dL_law_811 rfl (lv_at hl 2 rfl) ?_
                                                          obtain ⟨r301, S299, q300, hf⟩ := cal2_some hf
                                                          refine pg_callL (As := []) (rest := [.long r298]) (st1 := [.long r301, .long r298]) (ci := 7) hC hml hP hS (c_X7_trace l hC.2.2.2.2.2.1 q300) ⟨by decide, by decide⟩ ⟨by decide, by decide⟩ (by decide) rfl (by decide) k_158 rfl rfl ⟨mk_L_122, mi_X7_trace⟩ hd_X7_trace rfl hl.1 (Nat.le_of_ble_eq_true rfl) dL_law_812 (fun H locs hP hS => ?_)
                                                          refine W.lcmp hx hb dL_law_815 ?_
                                                          refine lv_if_eq (tgt := 821) hx hb dL_law_816 (by decide) (fun c302 => ?_) (fun c302 => ?_)
                                                          · replace hf := ite_t c302 hf
                                                            obtain ⟨v303, ev303, hf⟩ := bnd_some hf
                                                            refine lv_iinc (v := v303) (lv' := [(3, .int v303), (0, .ref b), (1, .ref (ad 0)), (2, .ref (ad 158))]) hx hb dL_law_821 hl (k := 3) rfl (by rw [ev303]; rfl) (by decide) rfl (fun ls hl => ?_)
                                                            refine lv_goto (tgt := 18) hx hb dL_law_824 (by decide) ?_
                                                            exact ih _ _ _ _ _ hf hP hS (lv_sub hl [1, 2, 3, 0] rfl)
                                                          · replace hf := ite_f c302 hf
                                                            refine lv_iconst (v := 0) hx hb dL_law_819 (by decide) ?_
                                                            exact absurd (show (0 : Int32) = 1 from congrArg Prod.fst (Option.some.inj hf)) (by decide)
                                                        · replace hf := ite_f c295 hf
                                                          refine lv_tableOut (tgt := 821) hx hb dL_law_32 (sw_out 0 25 (fun k h1 h2 hk => by
                                                            rcases (show k = 0 ∨ k = 1 ∨ k = 2 ∨ k = 3 ∨ k = 4 ∨ k = 5 ∨ k = 6 ∨ k = 7 ∨ k = 8 ∨ k = 9 ∨ k = 10 ∨ k = 11 ∨ k = 12 ∨ k = 13 ∨ k = 14 ∨ k = 15 ∨ k = 16 ∨ k = 17 ∨ k = 18 ∨ k = 19 ∨ k = 20 ∨ k = 21 ∨ k = 22 ∨ k = 23 ∨ k = 24 ∨ k = 25 by omega) with h | h | h | h | h | h | h | h | h | h | h | h | h | h | h | h | h | h | h | h | h | h | h | h | h | h
                                                            · subst h; exact c4 (hk.trans (by decide))
                                                            · subst h; exact c15 (hk.trans (by decide))
                                                            · subst h; exact c24 (hk.trans (by decide))
                                                            · subst h; exact c33 (hk.trans (by decide))
                                                            · subst h; exact c46 (hk.trans (by decide))
                                                            · subst h; exact c59 (hk.trans (by decide))
                                                            · subst h; exact c72 (hk.trans (by decide))
                                                            · subst h; exact c83 (hk.trans (by decide))
                                                            · subst h; exact c92 (hk.trans (by decide))
                                                            · subst h; exact c103 (hk.trans (by decide))
                                                            · subst h; exact c112 (hk.trans (by decide))
                                                            · subst h; exact c123 (hk.trans (by decide))
                                                            · subst h; exact c134 (hk.trans (by decide))
                                                            · subst h; exact c145 (hk.trans (by decide))
                                                            · subst h; exact c160 (hk.trans (by decide))
                                                            · subst h; exact c171 (hk.trans (by decide))
                                                            · subst h; exact c188 (hk.trans (by decide))
                                                            · subst h; exact c205 (hk.trans (by decide))
                                                            · subst h; exact c218 (hk.trans (by decide))
                                                            · subst h; exact c227 (hk.trans (by decide))
                                                            · subst h; exact c238 (hk.trans (by decide))
                                                            · subst h; exact c249 (hk.trans (by decide))
                                                            · subst h; exact c262 (hk.trans (by decide))
                                                            · subst h; exact c273 (hk.trans (by decide))
                                                            · subst h; exact c284 (hk.trans (by decide))
                                                            · subst h; exact c295 (hk.trans (by decide)))) (by decide) ?_
                                                          obtain ⟨v304, ev304, hf⟩ := bnd_some hf
                                                          refine lv_iinc (v := v304) (lv' := [(3, .int v304), (0, .ref b), (1, .ref (ad 0)), (2, .ref (ad 158))]) hx hb dL_law_821 hl (k := 3) rfl (by rw [ev304]; rfl) (by decide) rfl (fun ls hl => ?_)
                                                          refine lv_goto (tgt := 18) hx hb dL_law_824 (by decide) ?_
                                                          exact ih _ _ _ _ _ hf hP hS (lv_sub hl [1, 2, 3, 0] rfl)
end LAWL
