/-! CONSTRUCTORS: worlds are explicit lists here -/
def NX (U : State) : Prop := (∀ q ∈ nestL, va_Nw (.methodLinkNest q.1 q.2.1 q.2.2 "BoatLeggers") U) ∧ va_AO RX0 U ∧ va_AO RX5 U
theorem NX.go {s U : State} (h : NX s) (hW : s.WarmedH U.vm) : NX U := ⟨fun q hq => va_Nw.warmM hW (h.1 q hq), h.2.1.moved hW.alike, h.2.2.moved hW.alike⟩
theorem NX.call {U : State} {g : JFrame} {mk : MethodId} {a : Array Value} (h : NX U) : NX (U.calling g mk a) := ⟨fun q hq => va_Nw.same rfl rfl (h.1 q hq), va_AO.moved (u := U) (U := U.calling g mk a) (Vm.Alike.refl U.vm) h.2.1, va_AO.moved (u := U) (U := U.calling g mk a) (Vm.Alike.refl U.vm) h.2.2⟩
abbrev rmk (d mc ms : Nat) : Room := { frames := d, cells := mc, slots := ms, locals := 40 * d + 40 }
def Kt (l : Launch) (d mc ms : Nat) (y : MethodName) (bytes : ByteArray) (maxL : Nat) (D : va_G) (cy : Nat → ClassId) (h0 : Nat) (e0 : va_E) (As : List Value) (sub : (Nat → Nat) → va_W) : Prop :=
  ∀ sz : Nat, Met l y (wz y bytes maxL none) (rmk d mc ms) (va_Pc (.ref h0 :: As) (fun U => U.heap.size = sz ∧ va_P D vwCl [(h0, e0)] U.heap ∧ va_K D vwCl (tys cy) U ∧ NX U)) (va_Qv (fun f : Nat → Nat => f 0 = h0) (fun f t => va_P D vwCl (sub f) t.heap ∧ va_D (va_A [(h0, e0)] sz) (sub f)) (va_A [(h0, e0)] sz)) mc ms (va_A [(h0, e0)] sz)
abbrev Cz (p : Program) (s : State) (m : MethodId) (args : Array Value) (c : Code) (cc : ByteArray) (own : String) (D : va_G) (cy : Nat → ClassId) : Prop :=
  p.tables.exec = Jvm.exec ∧ c.code = cc ∧ (∀ w ∈ lw_tg, w.before args s = true) ∧ s.vm.findClass own = some m.cls ∧ va_K D vwCl (tys cy) s ∧ NX s
section CTB
variable {p : Program} {l : Launch} {e : Env} {R : Room} {s : State} {m : MethodId} {args : Array Value} {below : List Frame} {meth : Method} {c : Code} {H : Heap} {locs : List Loc} {cells slots : Nat} {Q : State → Prop}
variable {cc : ByteArray} {own : String} {D : va_G} {cy : Nat → ClassId} {pc : Nat} {ls : Array Slot} {rest : List Value} {index : Nat} {A : Nat → Prop} {ws wr : va_W}
theorem vj {wc w1 : va_W} {H1 : Heap} (hP : va_P D vwCl (wr ++ wc) H) (hD : va_D A (wr ++ wc)) (hk : ∀ q : Nat, q < H.size → ¬ va_A wc H.size q → H1[q]? = H[q]?) (hF : ∀ q, va_A wc H.size q → A q) (hP1 : va_P D vwCl w1 H1) (hD1 : va_D (va_A wc H.size) w1) : va_P D vwCl (wr ++ w1) H1 ∧ va_D A (wr ++ w1) := by
  have hlt : ∀ (k : Nat) (q : Nat × va_E), wr[k]? = some q → (wr ++ wc)[k]? = some q := fun k q h => by
    rw [List.getElem?_append_left (List.getElem?_eq_some_iff.mp h).1]; exact h
  have hrt : ∀ (k : Nat) (q : Nat × va_E), wc[k]? = some q → (wr ++ wc)[wr.length + k]? = some q := fun k q h => by
    rw [List.getElem?_append_right (by omega), Nat.add_sub_cancel_left]; exact h
  have apart : ∀ (k : Nat) (q : Nat × va_E), wr[k]? = some q → q.1 < H.size ∧ ¬ va_A wc H.size q.1 := by
    intro k q hq
    have hl := (hP k q (hlt k q hq)).lt
    refine ⟨hl, fun h => ?_⟩
    rcases h with ⟨k2, e, h⟩ | h
    · have hij := hD.1 k (wr.length + k2) q (q.1, e) (hlt k q hq) (hrt k2 _ h) rfl
      have := (List.getElem?_eq_some_iff.mp hq).1
      omega
    · omega
  have hDr : va_D A wr := ⟨fun i j x y hx hy hxy => hD.1 i j x y (hlt i x hx) (hlt j y hy) hxy, fun k q hk => hD.2 k q (hlt k q hk)⟩
  refine ⟨va_P.app (fun k q hq => ?_) hP1, va_D.app hDr (hD1.weaken (fun k q _ h => hF q.1 h)) (fun i j x y hx hy hxy => ?_)⟩
  · obtain ⟨g1, g2⟩ := apart k q hq
    exact (hP k q (hlt k q hq)).kept (hk q.1 g1 g2)
  · exact (apart i x hx).2 (by rw [hxy]; exact hD1.2 j y hy)
theorem kt_blind {sz : Nat} {h0 : Nat} {e0 : va_E} {av : List Value} : FrameBlind (va_Pc av (fun U => U.heap.size = sz ∧ va_P D vwCl [(h0, e0)] U.heap ∧ va_K D vwCl (tys cy) U ∧ NX U)) := by
  intro a U g mk q
  obtain ⟨q0, q1, q2, q3, q4⟩ := q
  exact ⟨q0, q1, q2, va_K.moved (u := U) (U := U.calling g mk a) (Vm.Alike.refl U.vm) q3, q4.call⟩
theorem kt_free {q : Nat} {e0 : va_E} (hD : va_D A (wr ++ [(q, e0)])) (hS : va_S A s.heap H locs) (hA : ∀ q : Nat, s.heap.size ≤ q → A q) : ∀ z, va_A [(q, e0)] H.size z → A z := by
  intro z h
  rcases h with ⟨k, e, h⟩ | h
  · have hk : k < 1 := (List.getElem?_eq_some_iff.mp h).1
    have hk0 : k = 0 := by omega
    subst hk0
    have h1 : (q, e0) = (z, e) := Option.some.inj h
    have h2 : q = z := congrArg Prod.fst h1
    rw [← h2]
    exact hD.2 wr.length (q, e0) (by rw [List.getElem?_append_right (Nat.le_refl _), Nat.sub_self]; rfl)
  · exact hA z (Nat.le_trans hS.1 h)
theorem kt_one {q : Nat} {e0 : va_E} (hP : va_P D vwCl (wr ++ [(q, e0)]) H) : va_P D vwCl [(q, e0)] H := by
  intro k x h
  have hk : k < 1 := (List.getElem?_eq_some_iff.mp h).1
  have hk0 : k = 0 := by omega
  subst hk0
  exact hP wr.length x (by rw [List.getElem?_append_right (Nat.le_refl _), Nat.sub_self]; exact h)
/-- a constructor is called on the object that was made last -/
theorem kt_callN {d mc ms nL maxL n q : Nat} {e0 : va_E} {y : MethodName} {bytes : ByteArray} {As : List Value} {sub : (Nat → Nat) → va_W} (rst : Nat → List Value) (hC : Cz p s m args c cc own D cy) (hml : c.maxLocals = nL) (hP : va_P D vwCl (wr ++ [(q, e0)]) H) (hD : va_D A (wr ++ [(q, e0)])) (hS : va_S A s.heap H locs) (hA : ∀ q : Nat, s.heap.size ≤ q → A q)
    (hM : Kt l d mc ms y bytes maxL D cy q e0 As sub) (hR : d + 1 ≤ R.frames ∧ 40 * (d + 1) + 40 ≤ R.locals) (hz : cells + mc ≤ R.cells ∧ slots + ms ≤ R.slots) (hL : maxL ≤ 21)
    (hnw : (own, index, y) ∈ nestL) {st0 : List Value} (hs0 : st0 = As.reverse ++ .ref q :: rst q) (hw : Cond.instanceMethod y ∈ lw_tg ∧ Cond.initialized y.cls ∈ lw_tg ∧ Cond.code y bytes maxL none ∈ lw_tg)
    (hd : y.name = "<init>" ∧ y.cls ≠ "java/lang/invoke/MethodHandle" ∧ y.cls ≠ "java/lang/invoke/VarHandle" ∧ (parseMethodDescriptor y.desc).map (fun d => d.parameters.length) = some n) (hn : As.length = n) (hls : ls.size = nL) (hst : ((rst q).map fun v => v.category).sum ≤ 8) (hdg : decode cc pc = .ok (.invokespecial index, 3))
    (kk : ∀ (f : Nat → Nat) (H1 : Heap) (locs1 : List Loc), va_P D vwCl (wr ++ sub f) H1 → va_D A (wr ++ sub f) → va_S A s.heap H1 locs1 → W p l e R s m args below meth c H1 locs1 (cells + mc) (slots + ms) Q (F0 m (pc + 3) ls (rst (f 0)))) : W p l e R s m args below meth c H locs cells slots Q (F0 m pc ls st0) := by
  subst hs0
  obtain ⟨hx, hb, hts, hown, hK, hE⟩ := hC
  refine va_callv (va_runIN (own := own) (host := "BoatLeggers") (index := index) (bytes := bytes) (maxL := maxL) (n := n) (As := As) (rest := rst q) (b := q) ⟨hx, hb, hml, hown, hts⟩ (hM H.size) ⟨va_cnB n hts (lw_tg_good y bytes maxL none hw.2.2) rfl rfl rfl (hE.1 _ hnw) (hts _ hw.2.1) hd.2 ⟨hR.1, by show 8 + (maxL + 11) + (40 * d + 40) ≤ R.locals; omega⟩, hd.1, hts _ hw.1⟩ ⟨kt_blind, fun U hU hW => ⟨rfl, by rw [hU], by rw [hU]; exact kt_one hP, va_K.moved hW.alike hK, hE.go hW⟩⟩ rfl hn hls rfl (lv_room hst) hdg hz) hS (fun z _ h => kt_free hD hS hA z h) (kt_free hD hS hA) (fun f t H1 locs1 ht hvm hf hB hz1 hk1 hS1 => ?_)
  obtain ⟨hP1, hD1⟩ := hB
  rw [ht] at hP1
  obtain ⟨hP2, hD2⟩ := vj hP hD hk1 (kt_free hD hS hA) hP1 hD1
  have hk := kk f H1 locs1 hP2 hD2 hS1
  rw [hf] at hk
  exact hk
theorem kt_callI {d mc ms nL maxL n q : Nat} {e0 : va_E} {y : MethodName} {bytes : ByteArray} {As : List Value} {sub : (Nat → Nat) → va_W} (rst : Nat → List Value) (hC : Cz p s m args c cc own D cy) (hml : c.maxLocals = nL) (hP : va_P D vwCl (wr ++ [(q, e0)]) H) (hD : va_D A (wr ++ [(q, e0)])) (hS : va_S A s.heap H locs) (hA : ∀ q : Nat, s.heap.size ≤ q → A q)
    (hM : Kt l d mc ms y bytes maxL D cy q e0 As sub) (hR : d + 1 ≤ R.frames ∧ 40 * (d + 1) + 40 ≤ R.locals) (hz : cells + mc ≤ R.cells ∧ slots + ms ≤ R.slots) (hL : maxL ≤ 21)
    (hlk : Cond.methodLink own index y ∈ lw_tg) {st0 : List Value} (hs0 : st0 = As.reverse ++ .ref q :: rst q) (hw : Cond.instanceMethod y ∈ lw_tg ∧ Cond.initialized y.cls ∈ lw_tg ∧ Cond.code y bytes maxL none ∈ lw_tg)
    (hd : y.name = "<init>" ∧ y.cls ≠ "java/lang/invoke/MethodHandle" ∧ y.cls ≠ "java/lang/invoke/VarHandle" ∧ (parseMethodDescriptor y.desc).map (fun d => d.parameters.length) = some n) (hn : As.length = n) (hls : ls.size = nL) (hst : ((rst q).map fun v => v.category).sum ≤ 8) (hdg : decode cc pc = .ok (.invokespecial index, 3))
    (kk : ∀ (f : Nat → Nat) (H1 : Heap) (locs1 : List Loc), va_P D vwCl (wr ++ sub f) H1 → va_D A (wr ++ sub f) → va_S A s.heap H1 locs1 → W p l e R s m args below meth c H1 locs1 (cells + mc) (slots + ms) Q (F0 m (pc + 3) ls (rst (f 0)))) : W p l e R s m args below meth c H locs cells slots Q (F0 m pc ls st0) := by
  subst hs0
  obtain ⟨hx, hb, hts, hown, hK, hE⟩ := hC
  refine va_callv (va_runI (own := own) (index := index) (bytes := bytes) (maxL := maxL) (n := n) (As := As) (rest := rst q) (b := q) ⟨hx, hb, hml, hown, hts⟩ (hM H.size) (cwI n hts (lw_tg_good y bytes maxL none hw.2.2) rfl rfl rfl (hts _ hw.2.1) (hts _ hlk) (hts _ hw.1) hd.1 hd.2 ⟨hR.1, by show 8 + (maxL + 11) + (40 * d + 40) ≤ R.locals; omega⟩) ⟨kt_blind, fun U hU hW => ⟨rfl, by rw [hU], by rw [hU]; exact kt_one hP, va_K.moved hW.alike hK, hE.go hW⟩⟩ rfl hn hls rfl (lv_room hst) hdg hz) hS (fun z _ h => kt_free hD hS hA z h) (kt_free hD hS hA) (fun f t H1 locs1 ht hvm hf hB hz1 hk1 hS1 => ?_)
  obtain ⟨hP1, hD1⟩ := hB
  rw [ht] at hP1
  obtain ⟨hP2, hD2⟩ := vj hP hD hk1 (kt_free hD hS hA) hP1 hD1
  have hk := kk f H1 locs1 hP2 hD2 hS1
  rw [hf] at hk
  exact hk
theorem kt_newI (hC : Cz p s m args c cc own D cy) (hP : va_P D vwCl ws H) (hD : va_D A ws) (hS : va_S A s.heap H locs) (hA : ∀ q : Nat, s.heap.size ≤ q → A q) {n : Int32} {N' : Nat} (hn : ¬ n < 0) (hN : n.toNatClampNeg = N') (hbytes : N' * 4 ≤ 536870912) (hcells : cells + 1 ≤ R.cells) (hslots : slots + N' ≤ R.slots) (hw : Cond.arrayClass .int ∈ lw_tg) (hdg : decode cc pc = .ok (.newarray .int, 2))
    (kk : ∀ (q : Nat) (H1 : Heap), va_P D vwCl (ws ++ [(q, .inl (cy 8, N', .inl (fun _ => 0)))]) H1 → va_D A (ws ++ [(q, .inl (cy 8, N', .inl (fun _ => 0)))]) → va_S A s.heap H1 locs → W p l e R s m args below meth c H1 locs (cells + 1) (slots + N') Q (F0 m (pc + 2) ls (.ref q :: rest))) : W p l e R s m args below meth c H locs cells slots Q (F0 m pc ls (.int n :: rest)) := by
  obtain ⟨hx, hb, hts, hown, hK, hE⟩ := hC
  refine va_newa (atype := .int) hx hb (hts (.arrayClass .int) hw) (ty := .int) rfl hK hP hD hS hA (a0 := (N', .inl (fun _ => 0))) (fun cA => rfl) hn hN hbytes hcells hslots hdg (fun q cA H1 hK1 hP1 hD1 hS1 => ?_)
  have h1 := (hK.2 0 (cy 8, .int) rfl).2
  have h2 := (hK1.2 4 (cA, .int) rfl).2
  have h3 : cA = cy 8 := Option.some.inj ((show s.vm.findClass _ = some cA from h2).symm.trans (show s.vm.findClass _ = some (cy 8) from h1))
  subst h3
  exact kk q H1 hP1 hD1 hS1
theorem kt_newZ (hC : Cz p s m args c cc own D cy) (hP : va_P D vwCl ws H) (hD : va_D A ws) (hS : va_S A s.heap H locs) (hA : ∀ q : Nat, s.heap.size ≤ q → A q) {n : Int32} {N' : Nat} (hn : ¬ n < 0) (hN : n.toNatClampNeg = N') (hbytes : N' * 1 ≤ 536870912) (hcells : cells + 1 ≤ R.cells) (hslots : slots + N' ≤ R.slots) (hw : Cond.arrayClass .boolean ∈ lw_tg) (hdg : decode cc pc = .ok (.newarray .boolean, 2))
    (kk : ∀ (q : Nat) (H1 : Heap), va_P D vwCl (ws ++ [(q, .inl (cy 9, N', .inl (fun _ => 0)))]) H1 → va_D A (ws ++ [(q, .inl (cy 9, N', .inl (fun _ => 0)))]) → va_S A s.heap H1 locs → W p l e R s m args below meth c H1 locs (cells + 1) (slots + N') Q (F0 m (pc + 2) ls (.ref q :: rest))) : W p l e R s m args below meth c H locs cells slots Q (F0 m pc ls (.int n :: rest)) := by
  obtain ⟨hx, hb, hts, hown, hK, hE⟩ := hC
  refine va_newa (atype := .boolean) hx hb (hts (.arrayClass .boolean) hw) (ty := .boolean) rfl hK hP hD hS hA (a0 := (N', .inl (fun _ => 0))) (fun cA => rfl) hn hN hbytes hcells hslots hdg (fun q cA H1 hK1 hP1 hD1 hS1 => ?_)
  have h1 := (hK.2 1 (cy 9, .boolean) rfl).2
  have h2 := (hK1.2 4 (cA, .boolean) rfl).2
  have h3 : cA = cy 9 := Option.some.inj ((show s.vm.findClass _ = some cA from h2).symm.trans (show s.vm.findClass _ = some (cy 9) from h1))
  subst h3
  exact kk q H1 hP1 hD1 hS1
theorem kt_newM (hC : Cz p s m args c cc own D cy) (hP : va_P D vwCl ws H) (hD : va_D A ws) (hS : va_S A s.heap H locs) (hA : ∀ q : Nat, s.heap.size ≤ q → A q) {n : Int32} {N' : Nat} (hn : ¬ n < 0) (hN : n.toNatClampNeg = N') (hbytes : N' * 4 ≤ 536870912) (hcells : cells + 1 ≤ R.cells) (hslots : slots + N' ≤ R.slots) (hw : Cond.classLink own index RX0 ∈ lw_tg) (hdg : decode cc pc = .ok (.anewarray index, 3))
    (kk : ∀ (q : Nat) (H1 : Heap), va_P D vwCl (ws ++ [(q, .inl (cy 10, N', .inr (.inr (.inr (.inr (fun _ => none))))))]) H1 → va_D A (ws ++ [(q, .inl (cy 10, N', .inr (.inr (.inr (.inr (fun _ => none))))))]) → va_S A s.heap H1 locs → W p l e R s m args below meth c H1 locs (cells + 1) (slots + N') Q (F0 m (pc + 3) ls (.ref q :: rest))) : W p l e R s m args below meth c H locs cells slots Q (F0 m pc ls (.int n :: rest)) := by
  obtain ⟨hx, hb, hts, hown, hK, hE⟩ := hC
  refine va_newq hx hb hown (hts _ hw) hE.2.1 hK hP hD hS hA hn hN hbytes hcells hslots hdg (fun q cA H1 hK1 hP1 hD1 hS1 => ?_)
  obtain ⟨_, _, _, _, _, h1⟩ := (hK.2 2 (cy 10, .object RX0) rfl).2
  obtain ⟨_, _, _, _, _, h2⟩ := (hK1.2 4 (cA, .object RX0) rfl).2
  have h3 : cA = cy 10 := Option.some.inj (h2.symm.trans h1)
  subst h3
  exact kk q H1 hP1 hD1 hS1
theorem kt_newV (hC : Cz p s m args c cc own D cy) (hP : va_P D vwCl ws H) (hD : va_D A ws) (hS : va_S A s.heap H locs) (hA : ∀ q : Nat, s.heap.size ≤ q → A q) {n : Int32} {N' : Nat} (hn : ¬ n < 0) (hN : n.toNatClampNeg = N') (hbytes : N' * 4 ≤ 536870912) (hcells : cells + 1 ≤ R.cells) (hslots : slots + N' ≤ R.slots) (hw : Cond.classLink own index RX5 ∈ lw_tg) (hdg : decode cc pc = .ok (.anewarray index, 3))
    (kk : ∀ (q : Nat) (H1 : Heap), va_P D vwCl (ws ++ [(q, .inl (cy 11, N', .inr (.inr (.inr (.inr (fun _ => none))))))]) H1 → va_D A (ws ++ [(q, .inl (cy 11, N', .inr (.inr (.inr (.inr (fun _ => none))))))]) → va_S A s.heap H1 locs → W p l e R s m args below meth c H1 locs (cells + 1) (slots + N') Q (F0 m (pc + 3) ls (.ref q :: rest))) : W p l e R s m args below meth c H locs cells slots Q (F0 m pc ls (.int n :: rest)) := by
  obtain ⟨hx, hb, hts, hown, hK, hE⟩ := hC
  refine va_newq hx hb hown (hts _ hw) hE.2.2 hK hP hD hS hA hn hN hbytes hcells hslots hdg (fun q cA H1 hK1 hP1 hD1 hS1 => ?_)
  obtain ⟨_, _, _, _, _, h1⟩ := (hK.2 3 (cy 11, .object RX5) rfl).2
  obtain ⟨_, _, _, _, _, h2⟩ := (hK1.2 4 (cA, .object RX5) rfl).2
  have h3 : cA = cy 11 := Option.some.inj (h2.symm.trans h1)
  subst h3
  exact kk q H1 hP1 hD1 hS1
/-- an array of references is known by its places alone -/
theorem kt_arr {k a n : Nat} {cA : ClassId} {f g : Nat → Option Nat} (hP : va_P D vwCl ws H) (hD : va_D A ws) (hk : ws[k]? = some (a, .inl (cA, n, .inr (.inr (.inr (.inr f)))))) (hfg : ∀ i, i < n → f i = g i) : va_P D vwCl (ws.set k (a, .inl (cA, n, .inr (.inr (.inr (.inr g)))))) H ∧ va_D A (ws.set k (a, .inl (cA, n, .inr (.inr (.inr (.inr g)))))) := by
  refine ⟨va_P.set hP hD hk ?_ (fun _ _ => rfl), hD.set hk⟩
  have h := hP k _ hk
  have e : vp_cell cA (n, .inr (.inr (.inr (.inr f)))) = vp_cell cA (n, .inr (.inr (.inr (.inr g)))) := by
    rw [vp_cell_q, vp_cell_q]
    unfold arrV
    congr 1
    apply Array.ext_getElem?
    intro j
    by_cases hj : j < n
    · simp [hj, hfg j hj]
    · simp [hj]
  show H[a]? = some (vp_cell cA _)
  rw [← e]
  exact h
theorem kt_ret {h0 : Nat} {e0 : va_E} {mc ms : Nat} {sub : (Nat → Nat) → va_W} (f : Nat → Nat) (hC : Cz p s m args c cc own D cy) (hr : meth.sig.returnType = none) (hk : meth.locks = false) (h0f : f 0 = h0) (hP : va_P D vwCl (sub f) H) (hD : va_D (va_A [(h0, e0)] s.heap.size) (sub f)) (hS : va_S (va_A [(h0, e0)] s.heap.size) s.heap H locs) (hc : cells = mc) (hs : slots = ms) (hdg : decode cc pc = .ok (.return_, 1)) :
    W p l e R s m args below meth c H locs cells slots (MQ below (va_Qv (fun f : Nat → Nat => f 0 = h0) (fun f t => va_P D vwCl (sub f) t.heap ∧ va_D (va_A [(h0, e0)] s.heap.size) (sub f)) (va_A [(h0, e0)] s.heap.size)) args s mc ms (va_A [(h0, e0)] s.heap.size)) (F0 m pc ls []) := by
  subst hc; subst hs
  exact W.vret hC.1 hC.2.1 hr (fun t ht hW => ⟨⟨f, rfl, h0f, by rw [ht]; exact hP, hD⟩, hS.F ht⟩) hS.2.2 hdg hk
theorem Kt_of {d mc ms maxL h0 : Nat} {e0 : va_E} {y : MethodName} {bytes : ByteArray} {As : List Value} {sub : (Nat → Nat) → va_W} (hy : plainName y.cls = true) (hn : (lg_sl (Value.ref h0 :: As)).length ≤ maxL) (hyn : y.name = "<init>")
    (body : ∀ (p : Program) (e : Env) (s : State) (m : MethodId) (below : List Frame) (meth : Method) (c : Code) (ls : Array Slot) (A : Nat → Prop), A = va_A [(h0, e0)] s.heap.size → Cz p s m (Value.ref h0 :: As).toArray c bytes y.cls D cy → meth.name = "<init>" → c.maxLocals = maxL → meth.sig.returnType = none → meth.locks = false → va_P D vwCl [(h0, e0)] s.heap → va_D A [(h0, e0)] → va_S A s.heap s.heap [] → (∀ q : Nat, s.heap.size ≤ q → A q) → lv_has ls maxL (lv_args 0 (Value.ref h0 :: As)) →
      W p l e (rmk d mc ms) s m (Value.ref h0 :: As).toArray below meth c s.heap [] 0 0 (MQ below (va_Qv (fun f : Nat → Nat => f 0 = h0) (fun f t => va_P D vwCl (sub f) t.heap ∧ va_D A (sub f)) A) (Value.ref h0 :: As).toArray s mc ms A) (F0 m 0 ls [])) : Kt l d mc ms y bytes maxL D cy h0 e0 As sub := by
  intro sz
  refine Met.ofW (cc := bytes) (maxL := maxL) (ret := none) hy rfl ?_
  intro p e s m args below meth c s₁ B hml hv
  obtain ⟨rfl, hsz, hP, hK, hE⟩ := hv
  subst hsz
  have hl := lv_entry (Value.ref h0 :: As) (n := maxL) hn
  rw [lg_entry_eq]
  have hin : meth.name = "<init>" := by rw [← hyn]; exact (name_of_methodNamed B.named B.method).1
  refine body p e s m below meth c _ _ rfl ⟨B.exec, B.bytes, fun w h => atoms_spec (ws := wz y bytes maxL none) B.pre w (List.mem_cons_of_mem _ h), findClass_of_methodNamed B.named, hK, hE⟩ hin hml B.returns B.notSynchronized hP ?_ va_S.rf (fun q h => Or.inr h) hl
  refine ⟨fun i j x y hx hy _ => ?_, fun k q hk => Or.inl ⟨k, q.2, hk⟩⟩
  have h1 := (List.getElem?_eq_some_iff.mp hx).1
  have h2 := (List.getElem?_eq_some_iff.mp hy).1
  simp at h1 h2
  omega
end CTB

/-- the pool behind both constructors -/
def S0 : PSt := (fun f a => if f = 2 then -9 else if f = 402 ∨ f = 704 then 1 else if f = 101 then -9 else if f = 103 ∧ a = 138 then 1 else 0, fun _ _ => 0, fun f _ => if f = 601 then 4 else 14, fun a => if a = 161 then (fun i => if i = 2 then -9 else 0) else fun _ => 0, fun a i => if a = 48 then 49 + 24 * i else a + 1 + 2 * i)
def sM (cy : Nat → ClassId) (f : Nat → Nat) : va_W := [(f 0, .inr (0, [.int 0, .int 0, .int (-9), .ref (f 1)])), (f 1, .inl (cy 8, 4, .inl (fun _ => 0)))]
def sRd (cy : Nat → ClassId) (f : Nat → Nat) : va_W := [(f 0, .inr (2, [.int 0, .ref (f 1), .int 0, .int 0, .int 0, .int 0, .int 0, .int 0, .ref (f 2)])), (f 1, .inl (cy 8, 200, .inl (fun _ => 0))), (f 2, .inl (cy 8, 4, .inl (fun _ => 0)))]
def sT (cy : Nat → ClassId) (f : Nat → Nat) : va_W := [(f 0, .inr (4, [.int 0, .int 0, .int 1, .int 0, .int 0, .ref (f 1), .ref (f 2), .ref (f 3), .ref (f 4), .ref (f 5), .ref (f 6), .ref (f 7), .ref (f 8), .ref (f 9)])), (f 1, .inl (cy 8, 4, .inl (fun _ => 0))), (f 2, .inl (cy 8, 4, .inl (fun _ => 0))), (f 3, .inl (cy 8, 6, .inl (fun _ => 0))), (f 4, .inl (cy 8, 6, .inl (fun _ => 0))), (f 5, .inl (cy 8, 6, .inl (fun _ => 0))), (f 6, .inl (cy 8, 6, .inl (fun _ => 0))), (f 7, .inl (cy 8, 6, .inl (fun _ => 0))), (f 8, .inl (cy 8, 7, .inl (fun _ => 0))), (f 9, .inl (cy 8, 7, .inl (fun _ => 0)))]
def sV (cy : Nat → ClassId) (f : Nat → Nat) : va_W := [(f 0, .inr (5, [.ref (f 1), .int 0, .ref (f 3)])), (f 1, .inr (0, [.int 0, .int 0, .int (-9), .ref (f 2)])), (f 2, .inl (cy 8, 4, .inl (fun _ => 0))), (f 3, .inl (cy 10, 10, .inr (.inr (.inr (.inr (fun i => some (f (3 + 1 + 2 * i)))))))), (f 4, .inr (0, [.int 0, .int 0, .int (-9), .ref (f 5)])), (f 5, .inl (cy 8, 4, .inl (fun _ => 0))), (f 6, .inr (0, [.int 0, .int 0, .int (-9), .ref (f 7)])), (f 7, .inl (cy 8, 4, .inl (fun _ => 0))), (f 8, .inr (0, [.int 0, .int 0, .int (-9), .ref (f 9)])), (f 9, .inl (cy 8, 4, .inl (fun _ => 0))), (f 10, .inr (0, [.int 0, .int 0, .int (-9), .ref (f 11)])), (f 11, .inl (cy 8, 4, .inl (fun _ => 0))), (f 12, .inr (0, [.int 0, .int 0, .int (-9), .ref (f 13)])), (f 13, .inl (cy 8, 4, .inl (fun _ => 0))), (f 14, .inr (0, [.int 0, .int 0, .int (-9), .ref (f 15)])), (f 15, .inl (cy 8, 4, .inl (fun _ => 0))), (f 16, .inr (0, [.int 0, .int 0, .int (-9), .ref (f 17)])), (f 17, .inl (cy 8, 4, .inl (fun _ => 0))), (f 18, .inr (0, [.int 0, .int 0, .int (-9), .ref (f 19)])), (f 19, .inl (cy 8, 4, .inl (fun _ => 0))), (f 20, .inr (0, [.int 0, .int 0, .int (-9), .ref (f 21)])), (f 21, .inl (cy 8, 4, .inl (fun _ => 0))), (f 22, .inr (0, [.int 0, .int 0, .int (-9), .ref (f 23)])), (f 23, .inl (cy 8, 4, .inl (fun _ => 0)))]
def sP (cy : Nat → ClassId) (w : Int32) (f : Nat → Nat) : va_W := [(f 0, .inr (1, [.int 0, .int (-9), .ref (f 1), .int w, .ref (f 2), .ref (f 3)])), (f 1, .inl (cy 8, 6, .inl (fun _ => 0))), (f 2, .inl (cy 8, 6, .inl (fun _ => 0))), (f 3, .inl (cy 10, 7, .inr (.inr (.inr (.inr (fun i => some (f (3 + 1 + 2 * i)))))))), (f 4, .inr (0, [.int 0, .int 0, .int (-9), .ref (f 5)])), (f 5, .inl (cy 8, 4, .inl (fun _ => 0))), (f 6, .inr (0, [.int 0, .int 0, .int (-9), .ref (f 7)])), (f 7, .inl (cy 8, 4, .inl (fun _ => 0))), (f 8, .inr (0, [.int 0, .int 0, .int (-9), .ref (f 9)])), (f 9, .inl (cy 8, 4, .inl (fun _ => 0))), (f 10, .inr (0, [.int 0, .int 0, .int (-9), .ref (f 11)])), (f 11, .inl (cy 8, 4, .inl (fun _ => 0))), (f 12, .inr (0, [.int 0, .int 0, .int (-9), .ref (f 13)])), (f 13, .inl (cy 8, 4, .inl (fun _ => 0))), (f 14, .inr (0, [.int 0, .int 0, .int (-9), .ref (f 15)])), (f 15, .inl (cy 8, 4, .inl (fun _ => 0))), (f 16, .inr (0, [.int 0, .int 0, .int (-9), .ref (f 17)])), (f 17, .inl (cy 8, 4, .inl (fun _ => 0)))]
def sS (cy : Nat → ClassId) (f : Nat → Nat) : va_W := [(f 0, .inr (3, [.int 0, .int 0, .int 0, .ref (f 1), .ref (f 2), .ref (f 3), .ref (f 4), .ref (f 5), .int 0, .ref (f 6), .ref (f 7)])), (f 1, .inl (cy 8, 6, .inl (fun _ => 0))), (f 2, .inl (cy 8, 6, .inl (fun _ => 0))), (f 3, .inl (cy 8, 6, .inl (fun _ => 0))), (f 4, .inl (cy 8, 6, .inl (fun _ => 0))), (f 5, .inl (cy 8, 6, .inl (fun _ => 0))), (f 6, .inl (cy 8, 6, .inl (fun _ => 0))), (f 7, .inl (cy 10, 7, .inr (.inr (.inr (.inr (fun i => some (f (7 + 1 + 2 * i)))))))), (f 8, .inr (0, [.int 0, .int 0, .int (-9), .ref (f 9)])), (f 9, .inl (cy 8, 4, .inl (fun _ => 0))), (f 10, .inr (0, [.int 0, .int 0, .int (-9), .ref (f 11)])), (f 11, .inl (cy 8, 4, .inl (fun _ => 0))), (f 12, .inr (0, [.int 0, .int 0, .int (-9), .ref (f 13)])), (f 13, .inl (cy 8, 4, .inl (fun _ => 0))), (f 14, .inr (0, [.int 0, .int 0, .int (-9), .ref (f 15)])), (f 15, .inl (cy 8, 4, .inl (fun _ => 0))), (f 16, .inr (0, [.int 0, .int 0, .int (-9), .ref (f 17)])), (f 17, .inl (cy 8, 4, .inl (fun _ => 0))), (f 18, .inr (0, [.int 0, .int 0, .int (-9), .ref (f 19)])), (f 19, .inl (cy 8, 4, .inl (fun _ => 0))), (f 20, .inr (0, [.int 0, .int 0, .int (-9), .ref (f 21)])), (f 21, .inl (cy 8, 4, .inl (fun _ => 0)))]
def subX (cy : Nat → ClassId) (F : Nat → Nat) : va_W := (List.range 158).map (fun i => (F i, pF cy F S0 i))
def subM (cy : Nat → ClassId) (F : Nat → Nat) : va_W := (List.range 18).map (fun i => (F i, pF cy (fun j => F (j - 158)) S0 (158 + i)))
theorem mi_X0_init : Cond.instanceMethod yX0_init ∈ lw_tg ∧ Cond.initialized yX0_init.cls ∈ lw_tg ∧ Cond.code yX0_init cX0_init 1 none ∈ lw_tg := ⟨(tg_at 200 (by decide +kernel) rfl), (tg_at 64 (by decide +kernel) rfl), (tg_at 201 (by decide +kernel) rfl)⟩
theorem hd_X0_init : yX0_init.name = "<init>" ∧ yX0_init.cls ≠ "java/lang/invoke/MethodHandle" ∧ yX0_init.cls ≠ "java/lang/invoke/VarHandle" ∧ (parseMethodDescriptor yX0_init.desc).map (fun d => d.parameters.length) = some 0 := by decide +kernel
theorem mi_X1_init : Cond.instanceMethod yX1_init ∈ lw_tg ∧ Cond.initialized yX1_init.cls ∈ lw_tg ∧ Cond.code yX1_init cX1_init 3 none ∈ lw_tg := ⟨(tg_at 288 (by decide +kernel) rfl), (tg_at 66 (by decide +kernel) rfl), (tg_at 289 (by decide +kernel) rfl)⟩
theorem hd_X1_init : yX1_init.name = "<init>" ∧ yX1_init.cls ≠ "java/lang/invoke/MethodHandle" ∧ yX1_init.cls ≠ "java/lang/invoke/VarHandle" ∧ (parseMethodDescriptor yX1_init.desc).map (fun d => d.parameters.length) = some 1 := by decide +kernel
theorem mi_X2_init : Cond.instanceMethod yX2_init ∈ lw_tg ∧ Cond.initialized yX2_init.cls ∈ lw_tg ∧ Cond.code yX2_init cX2_init 1 none ∈ lw_tg := ⟨(tg_at 80 (by decide +kernel) rfl), (tg_at 61 (by decide +kernel) rfl), (tg_at 81 (by decide +kernel) rfl)⟩
theorem hd_X2_init : yX2_init.name = "<init>" ∧ yX2_init.cls ≠ "java/lang/invoke/MethodHandle" ∧ yX2_init.cls ≠ "java/lang/invoke/VarHandle" ∧ (parseMethodDescriptor yX2_init.desc).map (fun d => d.parameters.length) = some 0 := by decide +kernel
theorem mi_X3_init : Cond.instanceMethod yX3_init ∈ lw_tg ∧ Cond.initialized yX3_init.cls ∈ lw_tg ∧ Cond.code yX3_init cX3_init 2 none ∈ lw_tg := ⟨(tg_at 240 (by decide +kernel) rfl), (tg_at 65 (by decide +kernel) rfl), (tg_at 241 (by decide +kernel) rfl)⟩
theorem hd_X3_init : yX3_init.name = "<init>" ∧ yX3_init.cls ≠ "java/lang/invoke/MethodHandle" ∧ yX3_init.cls ≠ "java/lang/invoke/VarHandle" ∧ (parseMethodDescriptor yX3_init.desc).map (fun d => d.parameters.length) = some 0 := by decide +kernel
theorem mi_X4_init : Cond.instanceMethod yX4_init ∈ lw_tg ∧ Cond.initialized yX4_init.cls ∈ lw_tg ∧ Cond.code yX4_init cX4_init 1 none ∈ lw_tg := ⟨(tg_at 117 (by decide +kernel) rfl), (tg_at 62 (by decide +kernel) rfl), (tg_at 118 (by decide +kernel) rfl)⟩
theorem hd_X4_init : yX4_init.name = "<init>" ∧ yX4_init.cls ≠ "java/lang/invoke/MethodHandle" ∧ yX4_init.cls ≠ "java/lang/invoke/VarHandle" ∧ (parseMethodDescriptor yX4_init.desc).map (fun d => d.parameters.length) = some 0 := by decide +kernel
theorem mi_X5_init : Cond.instanceMethod yX5_init ∈ lw_tg ∧ Cond.initialized yX5_init.cls ∈ lw_tg ∧ Cond.code yX5_init cX5_init 2 none ∈ lw_tg := ⟨(tg_at 194 (by decide +kernel) rfl), (tg_at 63 (by decide +kernel) rfl), (tg_at 195 (by decide +kernel) rfl)⟩
theorem hd_X5_init : yX5_init.name = "<init>" ∧ yX5_init.cls ≠ "java/lang/invoke/MethodHandle" ∧ yX5_init.cls ≠ "java/lang/invoke/VarHandle" ∧ (parseMethodDescriptor yX5_init.desc).map (fun d => d.parameters.length) = some 0 := by decide +kernel
theorem mi_X6_init : Cond.instanceMethod yX6_init ∈ lw_tg ∧ Cond.initialized yX6_init.cls ∈ lw_tg ∧ Cond.code yX6_init cX6_init 2 none ∈ lw_tg := ⟨(tg_at 72 (by decide +kernel) rfl), (tg_at 60 (by decide +kernel) rfl), (tg_at 73 (by decide +kernel) rfl)⟩
theorem hd_X6_init : yX6_init.name = "<init>" ∧ yX6_init.cls ≠ "java/lang/invoke/MethodHandle" ∧ yX6_init.cls ≠ "java/lang/invoke/VarHandle" ∧ (parseMethodDescriptor yX6_init.desc).map (fun d => d.parameters.length) = some 0 := by decide +kernel
theorem mi_X7_init : Cond.instanceMethod yX7_init ∈ lw_tg ∧ Cond.initialized yX7_init.cls ∈ lw_tg ∧ Cond.code yX7_init cX7_init 1 none ∈ lw_tg := ⟨(tg_at 751 (by decide +kernel) rfl), (tg_at 67 (by decide +kernel) rfl), (tg_at 752 (by decide +kernel) rfl)⟩
theorem hd_X7_init : yX7_init.name = "<init>" ∧ yX7_init.cls ≠ "java/lang/invoke/MethodHandle" ∧ yX7_init.cls ≠ "java/lang/invoke/VarHandle" ∧ (parseMethodDescriptor yX7_init.desc).map (fun d => d.parameters.length) = some 0 := by decide +kernel
def bg_st : Nat → Int32 := fun i => if i = 2 then -9 else 0
theorem bg_good : GoodIn lw_tg (wsV RX7 66 RX7 yX7_begins (wz yX7_begins cX7_begins 2 none)) := by
  intro w h
  have h1 : w ∈ lw_tg := by
    unfold wsV at h
    rcases List.mem_append.mp h with h | h
    · simp only [List.mem_cons, List.not_mem_nil, or_false] at h
      rcases h with h | h | h | h <;> subst h
      · exact mk_X7_66
      · exact mi_X7_begins.1
      · exact mi_X7_begins.2.1
      · exact mi_X7_begins.2.2.1
    · rcases List.mem_cons.mp h with h | h
      · rw [h]; exact mi_X7_begins.2.2.2
      · exact h
  exact ⟨h1, good_of_word (List.mem_filter.mp h1).2⟩
set_option maxHeartbeats 40000000 in
set_option maxRecDepth 100000 in
theorem k_X7_begins (l : Launch) {D : va_G} {cy : Nat → ClassId} (h0 q : Nat) (sz : Nat) (fs : List Value) (hfs : fs[6]? = some (.ref q)) : Met l yX7_begins (wz yX7_begins cX7_begins 2 none) (rmk 1 0 0) (va_Pc [.ref h0] (fun U => U.heap.size = sz ∧ va_P D vwCl [(h0, .inr (7, fs)), (q, .inl (cy 8, 7, .inl (fun _ => 0)))] U.heap ∧ va_K D vwCl (tys cy) U ∧ va_D (fun _ => True) [(h0, .inr (7, fs)), (q, .inl (cy 8, 7, .inl (fun _ => 0)))])) (va_Qv (fun _ : Unit => True) (fun _ t => va_P D vwCl [(h0, .inr (7, fs)), (q, .inl (cy 8, 7, .inl bg_st))] t.heap ∧ va_D (va_A [(h0, .inr (7, fs)), (q, .inl (cy 8, 7, .inl (fun _ => 0)))] sz) [(h0, .inr (7, fs)), (q, .inl (cy 8, 7, .inl bg_st))]) (va_A [(h0, .inr (7, fs)), (q, .inl (cy 8, 7, .inl (fun _ => 0)))] sz)) 0 0 (va_A [(h0, .inr (7, fs)), (q, .inl (cy 8, 7, .inl (fun _ => 0)))] sz) := by
  refine Met.ofW (cc := cX7_begins) (maxL := 2) (ret := none) (by decide) rfl ?_
  intro p e s m args below meth c s₁ B hml hv
  obtain ⟨rfl, hsz, hP, hK, hD0⟩ := hv
  have hx := B.exec
  have hb := B.bytes
  have hr := B.returns
  have hlk := B.notSynchronized
  have hts : ∀ w ∈ lw_tg, w.before _ s = true := fun w h => atoms_spec (ws := wz yX7_begins cX7_begins 2 none) B.pre w (List.mem_cons_of_mem _ h)
  have hown : s.vm.findClass RX7 = some m.cls := findClass_of_methodNamed B.named
  subst hsz
  have hD := hD0.self (sz := s.heap.size)
  generalize hAe : va_A [(h0, .inr (7, fs)), (q, .inl (cy 8, 7, .inl (fun _ => 0)))] s.heap.size = A at hD ⊢
  have hS : va_S A s.heap s.heap [] := va_S.rf
  have hP : va_P D vwCl [(h0, .inr (7, fs)), (q, .inl (cy 8, 7, .inl (fun _ => 0)))] s.heap := hP
  have hl := lv_entry ([.ref h0]) (n := 2) (Nat.le_of_ble_eq_true rfl)
  rw [lg_entry_eq]
  generalize (lg_sl ([.ref h0]) ++ List.replicate (2 - (lg_sl ([.ref h0])).length) Slot.unset).toArray = ls at hl ⊢
  have hl : lv_has ls 2 [(0, .ref h0)] := hl
  refine lv_iconst (v := 0) hx hb dX7_begins_0 (by decide) ?_
  refine lv_istore_n (lv' := [(1, .int 0), (0, .ref h0)]) hx hb dX7_begins_1 rfl hl (by decide) rfl (fun ls hl => ?_)
  refine lv_iload_n hx hb dX7_begins_2 rfl (lv_at hl 0 rfl) ?_
  refine lv_bipush (v := 7) hx hb dX7_begins_3 (by decide) ?_
  refine lv_icmp_ge (tgt := 31) hx hb dX7_begins_5 (by decide) (fun hc => ?_) (fun hc => ?_)
  · exact absurd hc (by decide)
  refine lv_aload_n hx hb dX7_begins_8 rfl (lv_at hl 1 rfl) ?_
  refine va_get (D := D) (ci := 7) (v := .ref q) (C := RX7) (T := TX7) (N := 34) hx hb hts jX7 hown hK hP 0 rfl rfl 6 (by decide) (hts _ (tg_at 764 (by decide +kernel) rfl)) (fun _ h9 => h9) hfs dX7_begins_9 ?_
  refine lv_iload_n hx hb dX7_begins_12 rfl (lv_at hl 0 rfl) ?_
  refine lv_iload_n hx hb dX7_begins_13 rfl (lv_at hl 0 rfl) ?_
  refine lv_iconst (v := 2) hx hb dX7_begins_14 (by decide) ?_
  refine lv_icmp_ne (tgt := 23) hx hb dX7_begins_15 (by decide) (fun hc => ?_) (fun hc => ?_)
  rotate_left
  · exact absurd hc (by decide)
  refine lv_iconst (v := 0) hx hb dX7_begins_23 (by decide) ?_
  refine va_iast hx hb hK hP hD hS 1 0 rfl rfl (bin_in (by decide)) dX7_begins_24 (fun H locs hP hD hS => ?_)
  have hP : va_P D vwCl [(h0, .inr (7, fs)), (q, .inl (cy 8, 7, .inl (upd (fun _ => 0) (0 : Int32).toNatClampNeg 0)))] H := hP
  have hD : va_D A [(h0, .inr (7, fs)), (q, .inl (cy 8, 7, .inl (upd (fun _ => 0) (0 : Int32).toNatClampNeg 0)))] := hD
  refine lv_iinc (v := 1) (lv' := [(1, .int 1), (0, .ref h0)]) hx hb dX7_begins_25 hl (k := 0) rfl (by decide) (by decide) rfl (fun ls hl => ?_)
  refine lv_goto (tgt := 2) hx hb dX7_begins_28 (by decide) ?_
  refine lv_iload_n hx hb dX7_begins_2 rfl (lv_at hl 0 rfl) ?_
  refine lv_bipush (v := 7) hx hb dX7_begins_3 (by decide) ?_
  refine lv_icmp_ge (tgt := 31) hx hb dX7_begins_5 (by decide) (fun hc => ?_) (fun hc => ?_)
  · exact absurd hc (by decide)
  refine lv_aload_n hx hb dX7_begins_8 rfl (lv_at hl 1 rfl) ?_
  refine va_get (D := D) (ci := 7) (v := .ref q) (C := RX7) (T := TX7) (N := 34) hx hb hts jX7 hown hK hP 0 rfl rfl 6 (by decide) (hts _ (tg_at 764 (by decide +kernel) rfl)) (fun _ h9 => h9) hfs dX7_begins_9 ?_
  refine lv_iload_n hx hb dX7_begins_12 rfl (lv_at hl 0 rfl) ?_
  refine lv_iload_n hx hb dX7_begins_13 rfl (lv_at hl 0 rfl) ?_
  refine lv_iconst (v := 2) hx hb dX7_begins_14 (by decide) ?_
  refine lv_icmp_ne (tgt := 23) hx hb dX7_begins_15 (by decide) (fun hc => ?_) (fun hc => ?_)
  rotate_left
  · exact absurd hc (by decide)
  refine lv_iconst (v := 0) hx hb dX7_begins_23 (by decide) ?_
  refine va_iast hx hb hK hP hD hS 1 0 rfl rfl (bin_in (by decide)) dX7_begins_24 (fun H locs hP hD hS => ?_)
  have hP : va_P D vwCl [(h0, .inr (7, fs)), (q, .inl (cy 8, 7, .inl (upd (upd (fun _ => 0) (0 : Int32).toNatClampNeg 0) (1 : Int32).toNatClampNeg 0)))] H := hP
  have hD : va_D A [(h0, .inr (7, fs)), (q, .inl (cy 8, 7, .inl (upd (upd (fun _ => 0) (0 : Int32).toNatClampNeg 0) (1 : Int32).toNatClampNeg 0)))] := hD
  refine lv_iinc (v := 2) (lv' := [(1, .int 2), (0, .ref h0)]) hx hb dX7_begins_25 hl (k := 0) rfl (by decide) (by decide) rfl (fun ls hl => ?_)
  refine lv_goto (tgt := 2) hx hb dX7_begins_28 (by decide) ?_
  refine lv_iload_n hx hb dX7_begins_2 rfl (lv_at hl 0 rfl) ?_
  refine lv_bipush (v := 7) hx hb dX7_begins_3 (by decide) ?_
  refine lv_icmp_ge (tgt := 31) hx hb dX7_begins_5 (by decide) (fun hc => ?_) (fun hc => ?_)
  · exact absurd hc (by decide)
  refine lv_aload_n hx hb dX7_begins_8 rfl (lv_at hl 1 rfl) ?_
  refine va_get (D := D) (ci := 7) (v := .ref q) (C := RX7) (T := TX7) (N := 34) hx hb hts jX7 hown hK hP 0 rfl rfl 6 (by decide) (hts _ (tg_at 764 (by decide +kernel) rfl)) (fun _ h9 => h9) hfs dX7_begins_9 ?_
  refine lv_iload_n hx hb dX7_begins_12 rfl (lv_at hl 0 rfl) ?_
  refine lv_iload_n hx hb dX7_begins_13 rfl (lv_at hl 0 rfl) ?_
  refine lv_iconst (v := 2) hx hb dX7_begins_14 (by decide) ?_
  refine lv_icmp_ne (tgt := 23) hx hb dX7_begins_15 (by decide) (fun hc => ?_) (fun hc => ?_)
  · exact absurd hc (by decide)
  refine lv_bipush (v := -9) hx hb dX7_begins_18 (by decide) ?_
  refine lv_goto (tgt := 24) hx hb dX7_begins_20 (by decide) ?_
  refine va_iast hx hb hK hP hD hS 1 0 rfl rfl (bin_in (by decide)) dX7_begins_24 (fun H locs hP hD hS => ?_)
  have hP : va_P D vwCl [(h0, .inr (7, fs)), (q, .inl (cy 8, 7, .inl (upd (upd (upd (fun _ => 0) (0 : Int32).toNatClampNeg 0) (1 : Int32).toNatClampNeg 0) (2 : Int32).toNatClampNeg (-9))))] H := hP
  have hD : va_D A [(h0, .inr (7, fs)), (q, .inl (cy 8, 7, .inl (upd (upd (upd (fun _ => 0) (0 : Int32).toNatClampNeg 0) (1 : Int32).toNatClampNeg 0) (2 : Int32).toNatClampNeg (-9))))] := hD
  refine lv_iinc (v := 3) (lv' := [(1, .int 3), (0, .ref h0)]) hx hb dX7_begins_25 hl (k := 0) rfl (by decide) (by decide) rfl (fun ls hl => ?_)
  refine lv_goto (tgt := 2) hx hb dX7_begins_28 (by decide) ?_
  refine lv_iload_n hx hb dX7_begins_2 rfl (lv_at hl 0 rfl) ?_
  refine lv_bipush (v := 7) hx hb dX7_begins_3 (by decide) ?_
  refine lv_icmp_ge (tgt := 31) hx hb dX7_begins_5 (by decide) (fun hc => ?_) (fun hc => ?_)
  · exact absurd hc (by decide)
  refine lv_aload_n hx hb dX7_begins_8 rfl (lv_at hl 1 rfl) ?_
  refine va_get (D := D) (ci := 7) (v := .ref q) (C := RX7) (T := TX7) (N := 34) hx hb hts jX7 hown hK hP 0 rfl rfl 6 (by decide) (hts _ (tg_at 764 (by decide +kernel) rfl)) (fun _ h9 => h9) hfs dX7_begins_9 ?_
  refine lv_iload_n hx hb dX7_begins_12 rfl (lv_at hl 0 rfl) ?_
  refine lv_iload_n hx hb dX7_begins_13 rfl (lv_at hl 0 rfl) ?_
  refine lv_iconst (v := 2) hx hb dX7_begins_14 (by decide) ?_
  refine lv_icmp_ne (tgt := 23) hx hb dX7_begins_15 (by decide) (fun hc => ?_) (fun hc => ?_)
  rotate_left
  · exact absurd hc (by decide)
  refine lv_iconst (v := 0) hx hb dX7_begins_23 (by decide) ?_
  refine va_iast hx hb hK hP hD hS 1 0 rfl rfl (bin_in (by decide)) dX7_begins_24 (fun H locs hP hD hS => ?_)
  have hP : va_P D vwCl [(h0, .inr (7, fs)), (q, .inl (cy 8, 7, .inl (upd (upd (upd (upd (fun _ => 0) (0 : Int32).toNatClampNeg 0) (1 : Int32).toNatClampNeg 0) (2 : Int32).toNatClampNeg (-9)) (3 : Int32).toNatClampNeg 0)))] H := hP
  have hD : va_D A [(h0, .inr (7, fs)), (q, .inl (cy 8, 7, .inl (upd (upd (upd (upd (fun _ => 0) (0 : Int32).toNatClampNeg 0) (1 : Int32).toNatClampNeg 0) (2 : Int32).toNatClampNeg (-9)) (3 : Int32).toNatClampNeg 0)))] := hD
  refine lv_iinc (v := 4) (lv' := [(1, .int 4), (0, .ref h0)]) hx hb dX7_begins_25 hl (k := 0) rfl (by decide) (by decide) rfl (fun ls hl => ?_)
  refine lv_goto (tgt := 2) hx hb dX7_begins_28 (by decide) ?_
  refine lv_iload_n hx hb dX7_begins_2 rfl (lv_at hl 0 rfl) ?_
  refine lv_bipush (v := 7) hx hb dX7_begins_3 (by decide) ?_
  refine lv_icmp_ge (tgt := 31) hx hb dX7_begins_5 (by decide) (fun hc => ?_) (fun hc => ?_)
  · exact absurd hc (by decide)
  refine lv_aload_n hx hb dX7_begins_8 rfl (lv_at hl 1 rfl) ?_
  refine va_get (D := D) (ci := 7) (v := .ref q) (C := RX7) (T := TX7) (N := 34) hx hb hts jX7 hown hK hP 0 rfl rfl 6 (by decide) (hts _ (tg_at 764 (by decide +kernel) rfl)) (fun _ h9 => h9) hfs dX7_begins_9 ?_
  refine lv_iload_n hx hb dX7_begins_12 rfl (lv_at hl 0 rfl) ?_
  refine lv_iload_n hx hb dX7_begins_13 rfl (lv_at hl 0 rfl) ?_
  refine lv_iconst (v := 2) hx hb dX7_begins_14 (by decide) ?_
  refine lv_icmp_ne (tgt := 23) hx hb dX7_begins_15 (by decide) (fun hc => ?_) (fun hc => ?_)
  rotate_left
  · exact absurd hc (by decide)
  refine lv_iconst (v := 0) hx hb dX7_begins_23 (by decide) ?_
  refine va_iast hx hb hK hP hD hS 1 0 rfl rfl (bin_in (by decide)) dX7_begins_24 (fun H locs hP hD hS => ?_)
  have hP : va_P D vwCl [(h0, .inr (7, fs)), (q, .inl (cy 8, 7, .inl (upd (upd (upd (upd (upd (fun _ => 0) (0 : Int32).toNatClampNeg 0) (1 : Int32).toNatClampNeg 0) (2 : Int32).toNatClampNeg (-9)) (3 : Int32).toNatClampNeg 0) (4 : Int32).toNatClampNeg 0)))] H := hP
  have hD : va_D A [(h0, .inr (7, fs)), (q, .inl (cy 8, 7, .inl (upd (upd (upd (upd (upd (fun _ => 0) (0 : Int32).toNatClampNeg 0) (1 : Int32).toNatClampNeg 0) (2 : Int32).toNatClampNeg (-9)) (3 : Int32).toNatClampNeg 0) (4 : Int32).toNatClampNeg 0)))] := hD
  refine lv_iinc (v := 5) (lv' := [(1, .int 5), (0, .ref h0)]) hx hb dX7_begins_25 hl (k := 0) rfl (by decide) (by decide) rfl (fun ls hl => ?_)
  refine lv_goto (tgt := 2) hx hb dX7_begins_28 (by decide) ?_
  refine lv_iload_n hx hb dX7_begins_2 rfl (lv_at hl 0 rfl) ?_
  refine lv_bipush (v := 7) hx hb dX7_begins_3 (by decide) ?_
  refine lv_icmp_ge (tgt := 31) hx hb dX7_begins_5 (by decide) (fun hc => ?_) (fun hc => ?_)
  · exact absurd hc (by decide)
  refine lv_aload_n hx hb dX7_begins_8 rfl (lv_at hl 1 rfl) ?_
  refine va_get (D := D) (ci := 7) (v := .ref q) (C := RX7) (T := TX7) (N := 34) hx hb hts jX7 hown hK hP 0 rfl rfl 6 (by decide) (hts _ (tg_at 764 (by decide +kernel) rfl)) (fun _ h9 => h9) hfs dX7_begins_9 ?_
  refine lv_iload_n hx hb dX7_begins_12 rfl (lv_at hl 0 rfl) ?_
  refine lv_iload_n hx hb dX7_begins_13 rfl (lv_at hl 0 rfl) ?_
  refine lv_iconst (v := 2) hx hb dX7_begins_14 (by decide) ?_
  refine lv_icmp_ne (tgt := 23) hx hb dX7_begins_15 (by decide) (fun hc => ?_) (fun hc => ?_)
  rotate_left
  · exact absurd hc (by decide)
  refine lv_iconst (v := 0) hx hb dX7_begins_23 (by decide) ?_
  refine va_iast hx hb hK hP hD hS 1 0 rfl rfl (bin_in (by decide)) dX7_begins_24 (fun H locs hP hD hS => ?_)
  have hP : va_P D vwCl [(h0, .inr (7, fs)), (q, .inl (cy 8, 7, .inl (upd (upd (upd (upd (upd (upd (fun _ => 0) (0 : Int32).toNatClampNeg 0) (1 : Int32).toNatClampNeg 0) (2 : Int32).toNatClampNeg (-9)) (3 : Int32).toNatClampNeg 0) (4 : Int32).toNatClampNeg 0) (5 : Int32).toNatClampNeg 0)))] H := hP
  have hD : va_D A [(h0, .inr (7, fs)), (q, .inl (cy 8, 7, .inl (upd (upd (upd (upd (upd (upd (fun _ => 0) (0 : Int32).toNatClampNeg 0) (1 : Int32).toNatClampNeg 0) (2 : Int32).toNatClampNeg (-9)) (3 : Int32).toNatClampNeg 0) (4 : Int32).toNatClampNeg 0) (5 : Int32).toNatClampNeg 0)))] := hD
  refine lv_iinc (v := 6) (lv' := [(1, .int 6), (0, .ref h0)]) hx hb dX7_begins_25 hl (k := 0) rfl (by decide) (by decide) rfl (fun ls hl => ?_)
  refine lv_goto (tgt := 2) hx hb dX7_begins_28 (by decide) ?_
  refine lv_iload_n hx hb dX7_begins_2 rfl (lv_at hl 0 rfl) ?_
  refine lv_bipush (v := 7) hx hb dX7_begins_3 (by decide) ?_
  refine lv_icmp_ge (tgt := 31) hx hb dX7_begins_5 (by decide) (fun hc => ?_) (fun hc => ?_)
  · exact absurd hc (by decide)
  refine lv_aload_n hx hb dX7_begins_8 rfl (lv_at hl 1 rfl) ?_
  refine va_get (D := D) (ci := 7) (v := .ref q) (C := RX7) (T := TX7) (N := 34) hx hb hts jX7 hown hK hP 0 rfl rfl 6 (by decide) (hts _ (tg_at 764 (by decide +kernel) rfl)) (fun _ h9 => h9) hfs dX7_begins_9 ?_
  refine lv_iload_n hx hb dX7_begins_12 rfl (lv_at hl 0 rfl) ?_
  refine lv_iload_n hx hb dX7_begins_13 rfl (lv_at hl 0 rfl) ?_
  refine lv_iconst (v := 2) hx hb dX7_begins_14 (by decide) ?_
  refine lv_icmp_ne (tgt := 23) hx hb dX7_begins_15 (by decide) (fun hc => ?_) (fun hc => ?_)
  rotate_left
  · exact absurd hc (by decide)
  refine lv_iconst (v := 0) hx hb dX7_begins_23 (by decide) ?_
  refine va_iast hx hb hK hP hD hS 1 0 rfl rfl (bin_in (by decide)) dX7_begins_24 (fun H locs hP hD hS => ?_)
  have hP : va_P D vwCl [(h0, .inr (7, fs)), (q, .inl (cy 8, 7, .inl (upd (upd (upd (upd (upd (upd (upd (fun _ => 0) (0 : Int32).toNatClampNeg 0) (1 : Int32).toNatClampNeg 0) (2 : Int32).toNatClampNeg (-9)) (3 : Int32).toNatClampNeg 0) (4 : Int32).toNatClampNeg 0) (5 : Int32).toNatClampNeg 0) (6 : Int32).toNatClampNeg 0)))] H := hP
  have hD : va_D A [(h0, .inr (7, fs)), (q, .inl (cy 8, 7, .inl (upd (upd (upd (upd (upd (upd (upd (fun _ => 0) (0 : Int32).toNatClampNeg 0) (1 : Int32).toNatClampNeg 0) (2 : Int32).toNatClampNeg (-9)) (3 : Int32).toNatClampNeg 0) (4 : Int32).toNatClampNeg 0) (5 : Int32).toNatClampNeg 0) (6 : Int32).toNatClampNeg 0)))] := hD
  refine lv_iinc (v := 7) (lv' := [(1, .int 7), (0, .ref h0)]) hx hb dX7_begins_25 hl (k := 0) rfl (by decide) (by decide) rfl (fun ls hl => ?_)
  refine lv_goto (tgt := 2) hx hb dX7_begins_28 (by decide) ?_
  refine lv_iload_n hx hb dX7_begins_2 rfl (lv_at hl 0 rfl) ?_
  refine lv_bipush (v := 7) hx hb dX7_begins_3 (by decide) ?_
  refine lv_icmp_ge (tgt := 31) hx hb dX7_begins_5 (by decide) (fun hc => ?_) (fun hc => ?_)
  rotate_left
  · exact absurd hc (by decide)
  have he : (upd (upd (upd (upd (upd (upd (upd (fun _ => 0) (0 : Int32).toNatClampNeg 0) (1 : Int32).toNatClampNeg 0) (2 : Int32).toNatClampNeg (-9)) (3 : Int32).toNatClampNeg 0) (4 : Int32).toNatClampNeg 0) (5 : Int32).toNatClampNeg 0) (6 : Int32).toNatClampNeg 0) = bg_st := by
    funext i
    simp only [upd, bg_st]
    have c0 : (0 : Int32).toNatClampNeg = 0 := by decide
    have c1 : (1 : Int32).toNatClampNeg = 1 := by decide
    have c2 : (2 : Int32).toNatClampNeg = 2 := by decide
    have c3 : (3 : Int32).toNatClampNeg = 3 := by decide
    have c4 : (4 : Int32).toNatClampNeg = 4 := by decide
    have c5 : (5 : Int32).toNatClampNeg = 5 := by decide
    have c6 : (6 : Int32).toNatClampNeg = 6 := by decide
    rw [c0, c1, c2, c3, c4, c5, c6]
    by_cases h2 : i = 2
    · subst h2; rfl
    · simp only [if_neg h2]; repeat (first | rfl | split)
  rw [he] at hP hD
  subst hAe
  exact W.vret hx hb hr (fun t ht hW => ⟨⟨(), rfl, trivial, by rw [ht]; exact hP, hD⟩, hS.F ht⟩) hS.2.2 dX7_begins_31 hlk
