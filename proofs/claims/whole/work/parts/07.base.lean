/-! THE POOL. Every object and array that the class and the reference make lies at a role (a number below NR); ad gives its address. -/
def NR : Nat := 176
def kdL : List Nat := [6, 2, 8, 8, 4, 8, 8, 8, 8, 8, 8, 8, 8, 8, 4, 8, 8, 8, 8, 8, 8, 8, 8, 8, 5, 0, 8, 10, 0, 8, 0, 8, 0, 8, 0, 8, 0, 8, 0, 8, 0, 8, 0, 8, 0, 8, 0, 8, 11, 5, 0, 8, 10, 0, 8, 0, 8, 0, 8, 0, 8, 0, 8, 0, 8, 0, 8, 0, 8, 0, 8, 0, 8, 5, 0, 8, 10, 0, 8, 0, 8, 0, 8, 0, 8, 0, 8, 0, 8, 0, 8, 0, 8, 0, 8, 0, 8, 9, 3, 8, 8, 8, 8, 8, 8, 10, 0, 8, 0, 8, 0, 8, 0, 8, 0, 8, 0, 8, 0, 8, 1, 8, 8, 10, 0, 8, 0, 8, 0, 8, 0, 8, 0, 8, 0, 8, 0, 8, 1, 8, 8, 10, 0, 8, 0, 8, 0, 8, 0, 8, 0, 8, 0, 8, 0, 8, 0, 8, 7, 8, 8, 8, 8, 8, 9, 8, 8, 8, 8, 8, 8, 8, 8, 8, 8, 8]
def lnL : List Nat := [0, 0, 200, 4, 0, 4, 4, 6, 6, 6, 6, 6, 7, 7, 0, 4, 4, 6, 6, 6, 6, 6, 7, 7, 0, 0, 4, 10, 0, 4, 0, 4, 0, 4, 0, 4, 0, 4, 0, 4, 0, 4, 0, 4, 0, 4, 0, 4, 2, 0, 0, 4, 10, 0, 4, 0, 4, 0, 4, 0, 4, 0, 4, 0, 4, 0, 4, 0, 4, 0, 4, 0, 4, 0, 0, 4, 10, 0, 4, 0, 4, 0, 4, 0, 4, 0, 4, 0, 4, 0, 4, 0, 4, 0, 4, 0, 4, 2, 0, 6, 6, 6, 6, 6, 6, 7, 0, 4, 0, 4, 0, 4, 0, 4, 0, 4, 0, 4, 0, 4, 0, 6, 6, 7, 0, 4, 0, 4, 0, 4, 0, 4, 0, 4, 0, 4, 0, 4, 0, 6, 6, 7, 0, 4, 0, 4, 0, 4, 0, 4, 0, 4, 0, 4, 0, 4, 0, 4, 0, 8, 24, 7, 70, 156, 2, 12, 200, 8, 24, 2, 28, 7, 7, 7, 6, 6]
/-- the kind of a role: 0..7 a class (its place in vwCl), 8 int[], 9 boolean[], 10 Moment[], 11 Voyage[] -/
def kd (a : Nat) : Nat := kdL.getD a 99
def ln (a : Nat) : Nat := lnL.getD a 0
abbrev PSt : Type := (Nat → Nat → Int32) × (Nat → Nat → Int64) × (Nat → Nat → Nat) × (Nat → Nat → Int32) × (Nat → Nat → Nat)
def gI (S : PSt) (f a : Nat) : Int32 := S.1 f a
def gJ (S : PSt) (f a : Nat) : Int64 := S.2.1 f a
def gR (S : PSt) (f a : Nat) : Nat := S.2.2.1 f a
def gA (S : PSt) (a : Nat) : Nat → Int32 := S.2.2.2.1 a
def gQ (S : PSt) (a : Nat) : Nat → Nat := S.2.2.2.2 a
def sI (S : PSt) (f a : Nat) (v : Int32) : PSt := (fun g b => if g = f ∧ b = a then v else S.1 g b, S.2)
def sJ (S : PSt) (f a : Nat) (v : Int64) : PSt := (S.1, fun g b => if g = f ∧ b = a then v else S.2.1 g b, S.2.2)
def sR (S : PSt) (f a : Nat) (v : Nat) : PSt := (S.1, S.2.1, fun g b => if g = f ∧ b = a then v else S.2.2.1 g b, S.2.2.2)
def sA (S : PSt) (a i : Nat) (v : Int32) : PSt := (S.1, S.2.1, S.2.2.1, fun b => if b = a then upd (S.2.2.2.1 b) i v else S.2.2.2.1 b, S.2.2.2.2)
def sQ (S : PSt) (a i : Nat) (v : Nat) : PSt := (S.1, S.2.1, S.2.2.1, S.2.2.2.1, fun b => if b = a then va_up (S.2.2.2.2 b) i v else S.2.2.2.2 b)
/-- the fields of a class in the order of its slots: 0 an int, 1 a long (by its number), 2 a final reference (by its offset), 3 a reference that changes -/
def ft (ci : Nat) : List (Nat × Nat) := match ci with
  | 0 => [(0, 0), (0, 1), (0, 2), (2, 1)]
  | 1 => [(0, 100), (0, 101), (2, 1), (0, 103), (2, 2), (2, 3)]
  | 2 => [(0, 200), (2, 1), (0, 202), (0, 203), (0, 204), (0, 205), (0, 206), (0, 207), (2, 2)]
  | 3 => [(0, 300), (0, 301), (0, 302), (2, 1), (2, 2), (2, 3), (2, 4), (2, 5), (0, 308), (2, 6), (2, 7)]
  | 4 => [(0, 400), (0, 401), (0, 402), (0, 403), (0, 404), (2, 1), (2, 2), (2, 3), (2, 4), (2, 5), (2, 6), (2, 7), (2, 8), (2, 9)]
  | 5 => [(2, 1), (0, 501), (2, 3)]
  | 6 => [(2, 1), (3, 601), (3, 602), (2, 24), (2, 48), (2, 97), (2, 98), (2, 120), (2, 138), (2, 156), (1, 610)]
  | 7 => [(0, 700), (2, 1), (0, 702), (2, 2), (0, 704), (0, 705), (2, 3), (2, 4), (0, 708), (2, 5), (2, 6), (0, 711), (2, 7), (1, 713), (2, 8), (0, 715), (0, 716), (0, 717), (0, 718), (0, 719), (0, 720), (0, 721), (2, 9), (0, 723), (2, 10), (2, 11), (2, 12), (2, 13), (2, 14), (2, 15), (2, 16), (2, 17), (0, 732), (0, 733)]
  | _ => []
def fv (ad : Nat → Nat) (S : PSt) (a : Nat) (q : Nat × Nat) : Value := match q.1 with
  | 0 => .int (gI S q.2 a)
  | 1 => .long (gJ S q.2 a)
  | 2 => .ref (ad (a + q.2))
  | _ => .ref (ad (gR S q.2 a))
def pF (cy : Nat → ClassId) (ad : Nat → Nat) (S : PSt) (a : Nat) : va_E :=
  if kd a < 8 then .inr (kd a, (ft (kd a)).map (fv ad S a))
  else if kd a < 10 then .inl (cy (kd a), ln a, .inl (gA S a))
  else .inl (cy (kd a), ln a, .inr (.inr (.inr (.inr (fun i => some (ad (gQ S a i)))))))
def pW (cy : Nat → ClassId) (ad : Nat → Nat) (S : PSt) : va_W := (List.range NR).map (fun a => (ad a, pF cy ad S a))
def tys (cy : Nat → ClassId) : List (ClassId × FieldType) := [(cy 8, .int), (cy 9, .boolean), (cy 10, .object RX0), (cy 11, .object RX5)]
def pA (ad : Nat → Nat) (sz : Nat) : Nat → Prop := fun q => (∃ i, i < NR ∧ q = ad i) ∨ sz ≤ q
def pJ (ad : Nat → Nat) : Prop := ∀ i j, i < NR → j < NR → ad i = ad j → i = j
theorem kd_lt {a : Nat} (h : kd a < 12) : a < NR := by
  rcases Nat.lt_or_ge a NR with q | q
  · exact q
  · exfalso
    have : kd a = 99 := by
      unfold kd
      rw [List.getD_eq_getElem?_getD, List.getElem?_eq_none (by exact q)]
      rfl
    omega
theorem pW_get {cy : Nat → ClassId} {ad : Nat → Nat} {S : PSt} {a : Nat} (h : a < NR) : (pW cy ad S)[a]? = some (ad a, pF cy ad S a) := by
  simp [pW, h]
theorem pW_set {cy : Nat → ClassId} {ad : Nat → Nat} {S S' : PSt} {a : Nat} {e : va_E} (h1 : pF cy ad S' a = e) (h2 : ∀ b, b ≠ a → pF cy ad S' b = pF cy ad S b) : (pW cy ad S).set a (ad a, e) = pW cy ad S' := by
  apply List.ext_getElem?
  intro i
  rw [List.getElem?_set]
  by_cases hi : a = i
  · subst hi
    by_cases hl : a < NR
    · simp [pW, hl, h1]
    · simp [pW, hl]
  · rw [if_neg hi]
    by_cases hl : i < NR
    · rw [pW_get hl, pW_get hl, h2 i (fun q => hi q.symm)]
    · simp [pW, hl]
theorem pD {cy : Nat → ClassId} {ad : Nat → Nat} {S : PSt} {sz : Nat} (hJ : pJ ad) : va_D (pA ad sz) (pW cy ad S) := by
  have hlt : ∀ (i : Nat) (p : Nat × va_E), (pW cy ad S)[i]? = some p → i < NR ∧ p = (ad i, pF cy ad S i) := by
    intro i p h
    have h1 : i < NR := by
      have := (List.getElem?_eq_some_iff.mp h).1
      simpa [pW] using this
    rw [pW_get h1] at h
    exact ⟨h1, (Option.some.inj h).symm⟩
  refine ⟨fun i j p q hi hj hpq => ?_, fun k q hk => ?_⟩
  · obtain ⟨h1, rfl⟩ := hlt i p hi
    obtain ⟨h2, rfl⟩ := hlt j q hj
    exact hJ i j h1 h2 hpq
  · obtain ⟨h1, rfl⟩ := hlt k q hk
    exact Or.inl ⟨k, h1, rfl⟩
theorem pA_mono {ad : Nat → Nat} {s1 s2 : Nat} (h : s1 ≤ s2) (q : Nat) (hq : pA ad s2 q) : pA ad s1 q := by
  rcases hq with h1 | h1
  · exact Or.inl h1
  · exact Or.inr (Nat.le_trans h h1)
/-- the class's static rows of numbers -/
def stN (b : Nat) : String := match b with
  | 0 => "WALKER_BOUNDS"
  | 1 => "STRETCH_BOUNDS"
  | 2 => "CHANGE_BOUNDS"
  | _ => "HOURS_BOUNDS"
def stX (b : Nat) : List Int32 := match b with
  | 0 => [1, 9, 1, 40]
  | 1 => [1, 9, 2, 18, 0, 1, 0, 1]
  | 2 => [0, 9]
  | _ => [10, 99]
def stL (b : Nat) : Nat := (stX b).length
def stV (b j : Nat) : Int32 := (stX b).getD j 0
def nestL : List (String × Nat × MethodName) := [("BoatLeggers", 9, yX2_init), ("BoatLeggers", 18, yX4_init), ("BoatLeggers$Voyage", 11, yX0_init), ("BoatLeggers$Sightings", 36, yX0_init), ("BoatLeggers$Planner", 32, yX0_init), ("BoatLeggers", 62, yX0_init), ("BoatLeggers$Sightings", 106, yX6_power)]
def Ex (ad tb : Nat → Nat) (U : State) : Prop := (∀ q ∈ nestL, va_Nw (.methodLinkNest q.1 q.2.1 q.2.2 "BoatLeggers") U) ∧ ∀ b, b < 4 → va_Z RX2 (stN b) "[I" (.ref (tb b)) (pA ad U.heap.size) U U.heap ∧ va_T .int (tb b) (stL b) (fun j => .int (stV b j)) (pA ad U.heap.size) U U.heap
theorem Ex.go {ad tb : Nat → Nat} {s U : State} {H : Heap} {locs : List Loc} (h : Ex ad tb s) (hS : va_S (pA ad s.heap.size) s.heap H locs) (hU : U.heap = H) (hW : s.WarmedH U.vm) : Ex ad tb U := by
  refine ⟨fun q hq => va_Nw.warmM hW (h.1 q hq), fun b hb => ?_⟩
  subst hU
  obtain ⟨h1, h2⟩ := h.2 b hb
  exact ⟨((h1.moved hW.alike).kept hS.2.1).narrow (fun q hq => pA_mono hS.1 q hq), ((h2.moved hW.alike).kept hS.2.1).narrow (fun q hq => pA_mono hS.1 q hq)⟩
theorem Ex.call {ad tb : Nat → Nat} {U : State} {g : JFrame} {mk : MethodId} {a : Array Value} (h : Ex ad tb U) : Ex ad tb (U.calling g mk a) := by
  refine ⟨fun q hq => va_Nw.same rfl rfl (h.1 q hq), fun b hb => ?_⟩
  obtain ⟨h1, h2⟩ := h.2 b hb
  exact ⟨va_Z.moved (u := U) (U := U.calling g mk a) (Vm.Alike.refl U.vm) h1, va_T.moved (u := U) (U := U.calling g mk a) (Vm.Alike.refl U.vm) h2⟩
/-- the words that every method is given -/
def lw_tg : List Cond := lw_tbl.filter goodWord
abbrev wz (y : MethodName) (cc : ByteArray) (maxL : Nat) (ret : Option FieldType) : List Cond := .code y cc maxL ret :: lw_tg
abbrev rmd (d : Nat) : Room := { frames := d, cells := 0, slots := 0, locals := 40 * d + 40 }
/-- what every method knows: the machine, its code, the words, its class, the tables, the addresses apart -/
abbrev Cx (p : Program) (s : State) (m : MethodId) (args : Array Value) (c : Code) (cc : ByteArray) (own : String) (D : va_G) (cy : Nat → ClassId) (ad tb : Nat → Nat) : Prop :=
  p.tables.exec = Jvm.exec ∧ c.code = cc ∧ (∀ w ∈ lw_tg, w.before args s = true) ∧ s.vm.findClass own = some m.cls ∧ va_K D vwCl (tys cy) s ∧ pJ ad ∧ Ex ad tb s
/-! pure words: a guard, a name, a call -/
def gd {α : Type} (b : Bool) (k : Option α) : Option α := if b then k else none
def bnd {α β : Type} (x : α) (k : α → Option β) : Option β := k x
def cal1 {β : Type} (o : Option PSt) (k : PSt → Option β) : Option β := match o with
  | none => none
  | some q => k q
def cal2 {α β : Type} (o : Option (α × PSt)) (k : α → PSt → Option β) : Option β := match o with
  | none => none
  | some q => k q.1 q.2
def bin (i : Int32) (n : Nat) : Bool := !(decide (i < 0)) && decide (i.toNatClampNeg < n)
def nz (i : Int32) : Bool := !(decide (i = 0))
def z1 (i : Int32) : Bool := decide (i = 0) || decide (i = 1)
def isk (a k : Nat) : Bool := kd a == k
theorem gd_some {α : Type} {b : Bool} {k : Option α} {z : α} (h : gd b k = some z) : b = true ∧ k = some z := by
  unfold gd at h
  cases b
  · cases h
  · exact ⟨rfl, h⟩
theorem bnd_some {α β : Type} {x : α} {k : α → Option β} {z : β} (h : bnd x k = some z) : ∃ y, y = x ∧ k y = some z := ⟨x, rfl, h⟩
theorem cal1_some {β : Type} {o : Option PSt} {k : PSt → Option β} {z : β} (h : cal1 o k = some z) : ∃ q, o = some q ∧ k q = some z := by
  unfold cal1 at h
  cases o with
  | none => cases h
  | some q => exact ⟨q, rfl, h⟩
theorem cal2_some {α β : Type} {o : Option (α × PSt)} {k : α → PSt → Option β} {z : β} (h : cal2 o k = some z) : ∃ r q, o = some (r, q) ∧ k r q = some z := by
  unfold cal2 at h
  cases o with
  | none => cases h
  | some q => exact ⟨q.1, q.2, rfl, h⟩
theorem ite_t {α : Type} {c : Prop} [Decidable c] {A B : Option α} {z : α} (hc : c) (h : (if c then A else B) = some z) : A = some z := by rw [if_pos hc] at h; exact h
theorem ite_f {α : Type} {c : Prop} [Decidable c] {A B : Option α} {z : α} (hc : ¬ c) (h : (if c then A else B) = some z) : B = some z := by rw [if_neg hc] at h; exact h
theorem bin_in {i : Int32} {n : Nat} (h : bin i n = true) : vp_in i n := by
  simp only [bin, Bool.and_eq_true, Bool.not_eq_true', decide_eq_false_iff_not, decide_eq_true_eq] at h
  intro q
  rcases q with q | q
  · exact h.1 q
  · omega
theorem nz_ne {i : Int32} (h : nz i = true) : ¬ i = 0 := by simpa [nz] using h
theorem z1_or {i : Int32} (h : z1 i = true) : i = 0 ∨ i = 1 := by simpa [z1] using h
theorem isk_eq {a k : Nat} (h : isk a k = true) : kd a = k := by simpa [isk] using h
section BASE
variable {p : Program} {l : Launch} {e : Env} {R : Room} {s : State} {m : MethodId} {args : Array Value} {below : List Frame} {meth : Method} {c : Code} {H : Heap} {locs : List Loc} {cells slots : Nat} {Q : State → Prop}
variable {cc : ByteArray} {own : String} {D : va_G} {cy : Nat → ClassId} {ad tb : Nat → Nat} {S : PSt} {pc : Nat} {ls : Array Slot} {rest : List Value} {a index : Nat}
theorem pF_obj {ci : Nat} (hci : ci < 8) (hka : kd a = ci) : pF cy ad S a = .inr (ci, (ft ci).map (fv ad S a)) := by
  unfold pF
  rw [hka, if_pos hci]
theorem pF_int (hka : kd a = 8) : pF cy ad S a = .inl (cy 8, ln a, .inl (gA S a)) := by
  unfold pF
  rw [hka, if_neg (by decide), if_pos (by decide)]
theorem pF_boo (hka : kd a = 9) : pF cy ad S a = .inl (cy 9, ln a, .inl (gA S a)) := by
  unfold pF
  rw [hka, if_neg (by decide), if_pos (by decide)]
theorem pF_mom (hka : kd a = 10) : pF cy ad S a = .inl (cy 10, ln a, .inr (.inr (.inr (.inr (fun i => some (ad (gQ S a i))))))) := by
  unfold pF
  rw [hka, if_neg (by decide), if_neg (by decide)]
theorem pF_voy (hka : kd a = 11) : pF cy ad S a = .inl (cy 11, ln a, .inr (.inr (.inr (.inr (fun i => some (ad (gQ S a i))))))) := by
  unfold pF
  rw [hka, if_neg (by decide), if_neg (by decide)]
theorem pg_get (hC : Cx p s m args c cc own D cy ad tb) (hP : va_P D vwCl (pW cy ad S) H) (ci k : Nat) {C : String} {T : u_T} {N : Nat} (hc : vwCl[ci]? = some (C, T, N)) (hin : ∀ w ∈ u_ws C T N, w ∈ lw_tg) (hci : ci < 8) (hk : k < N) {q : Nat × Nat} (hq : (ft ci)[k]? = some q) (hlink : Cond.fieldLink own index (T k).1 (T k).2.1 (T k).2.2.1 ∈ lw_tg) (hka : kd a = ci) {v : Value} (hv : fv ad S a q = v) (hdg : decode cc pc = .ok (.getfield index, 3))
    (kk : W p l e R s m args below meth c H locs cells slots Q (F0 m (pc + 3) ls (v :: rest))) : W p l e R s m args below meth c H locs cells slots Q (F0 m pc ls (.ref (ad a) :: rest)) := by
  obtain ⟨hx, hb, hts, hown, hK, hJ, hE⟩ := hC
  have hlt : a < NR := kd_lt (by omega)
  exact va_get hx hb hts hin hown hK hP a (fs := (ft ci).map (fv ad S a)) (by rw [pW_get hlt, pF_obj hci hka]) hc k hk (hts _ hlink) (fun _ h => h) (v := v) (by rw [List.getElem?_map, hq, ← hv]; rfl) hdg kk
theorem fv_sI_ne {f b : Nat} {v : Int32} {q : Nat × Nat} (h : b ≠ a) : fv ad (sI S f a v) b q = fv ad S b q := by
  unfold fv
  split <;> simp [gI, gJ, gR, sI, h]
theorem fv_sJ_ne {f b : Nat} {v : Int64} {q : Nat × Nat} (h : b ≠ a) : fv ad (sJ S f a v) b q = fv ad S b q := by
  unfold fv
  split <;> simp [gI, gJ, gR, sJ, h]
theorem fv_sR_ne {f b : Nat} {v : Nat} {q : Nat × Nat} (h : b ≠ a) : fv ad (sR S f a v) b q = fv ad S b q := by
  unfold fv
  split <;> simp [gI, gJ, gR, sR, h]
theorem pF_sI_ne {f b : Nat} {v : Int32} (h : b ≠ a) : pF cy ad (sI S f a v) b = pF cy ad S b := by
  unfold pF
  have h1 : fv ad (sI S f a v) b = fv ad S b := funext fun q => fv_sI_ne h
  rw [h1]; rfl
theorem pF_sJ_ne {f b : Nat} {v : Int64} (h : b ≠ a) : pF cy ad (sJ S f a v) b = pF cy ad S b := by
  unfold pF
  have h1 : fv ad (sJ S f a v) b = fv ad S b := funext fun q => fv_sJ_ne h
  rw [h1]; rfl
theorem pF_sR_ne {f b : Nat} {v : Nat} (h : b ≠ a) : pF cy ad (sR S f a v) b = pF cy ad S b := by
  unfold pF
  have h1 : fv ad (sR S f a v) b = fv ad S b := funext fun q => fv_sR_ne h
  rw [h1]; rfl
/-- the fields of a class are apart: the k-th alone has its tag and number -/
def ftOne (ci k : Nat) (q : Nat × Nat) : Bool := (List.range (ft ci).length).all (fun j => j == k || !((ft ci)[j]? == some q))
theorem map_set_one {ci k : Nat} {q : Nat × Nat} (hq : (ft ci)[k]? = some q) (ho : ftOne ci k q = true) {f g : Nat × Nat → Value} (hne : ∀ r, r ≠ q → r ∈ ft ci → g r = f r) : (ft ci).map g = ((ft ci).map f).set k (g q) := by
  apply List.ext_getElem?
  intro j
  rw [List.getElem?_set]
  by_cases hj : k = j
  · subst hj
    have hl : k < (ft ci).length := (List.getElem?_eq_some_iff.mp hq).1
    rw [if_pos rfl, if_pos (by simpa using hl), List.getElem?_map, hq]; rfl
  · rw [if_neg hj, List.getElem?_map, List.getElem?_map]
    cases hr : (ft ci)[j]? with
    | none => rfl
    | some r =>
      have hl : j < (ft ci).length := (List.getElem?_eq_some_iff.mp hr).1
      have h1 := List.all_eq_true.mp ho j (List.mem_range.mpr hl)
      rw [hr] at h1
      have h2 : r ≠ q := by
        intro he
        subst he
        simp at h1
        exact hj h1.symm
      show some (g r) = some (f r)
      rw [hne r h2 (List.mem_of_getElem? hr)]
theorem sI_at {f : Nat} {v : Int32} : fv ad (sI S f a v) a (0, f) = .int v := by simp [fv, gI, sI]
theorem sJ_at {f : Nat} {v : Int64} : fv ad (sJ S f a v) a (1, f) = .long v := by simp [fv, gJ, sJ]
theorem sR_at {f : Nat} {v : Nat} : fv ad (sR S f a v) a (3, f) = .ref (ad v) := by simp [fv, gR, sR]
theorem sI_off {f : Nat} {v : Int32} {r : Nat × Nat} (h : r ≠ (0, f)) : fv ad (sI S f a v) a r = fv ad S a r := by
  obtain ⟨r1, r2⟩ := r
  unfold fv
  split <;> rename_i hr <;> try rfl
  simp only at hr
  subst hr
  have h2 : r2 ≠ f := fun q => h (by rw [q])
  simp [gI, sI, h2]
theorem sJ_off {f : Nat} {v : Int64} {r : Nat × Nat} (h : r ≠ (1, f)) : fv ad (sJ S f a v) a r = fv ad S a r := by
  obtain ⟨r1, r2⟩ := r
  unfold fv
  split <;> rename_i hr <;> try rfl
  simp only at hr
  subst hr
  have h2 : r2 ≠ f := fun q => h (by rw [q])
  simp [gJ, sJ, h2]
theorem sR_off {f v : Nat} {r : Nat × Nat} (h : r ≠ (3, f)) (hr3 : r.1 ≤ 3) : fv ad (sR S f a v) a r = fv ad S a r := by
  obtain ⟨r1, r2⟩ := r
  simp only at hr3
  rcases (show r1 = 0 ∨ r1 = 1 ∨ r1 = 2 ∨ r1 = 3 by omega) with q | q | q | q <;> subst q
  · rfl
  · rfl
  · rfl
  · have h4 : r2 ≠ f := fun q => h (by rw [q])
    simp [fv, gR, sR, h4]
theorem sw_out {x : Int32} (lo hi : Int) (h : ∀ k : Int, lo ≤ k → k ≤ hi → x = Int32.ofInt k → False) : x.toInt < lo ∨ hi < x.toInt := by
  rcases Int.lt_or_le x.toInt lo with h1 | h1
  · exact Or.inl h1
  · rcases Int.lt_or_le hi x.toInt with h2 | h2
    · exact Or.inr h2
    · exact (h x.toInt h1 h2 (Int32.ofInt_toInt x).symm).elim
theorem lk_out {x : Int} {dflt : Int} : ∀ {ps : List (Int × Int)}, (∀ k, k ∈ ps.map Prod.fst → x = k → False) → Op.lookupswitch.offset ps dflt x = dflt
  | [], _ => rfl
  | (a, o) :: r, h => by
    rw [Op.lookupswitch.offset_cons, if_neg (fun q => h a (by simp) q.symm)]
    exact lk_out (fun k hk => h k (by simp only [List.map_cons, List.mem_cons]; exact Or.inr hk))
theorem pg_put (hC : Cx p s m args c cc own D cy ad tb) (hP : va_P D vwCl (pW cy ad S) H) (hS : va_S (pA ad s.heap.size) s.heap H locs) (ci k : Nat) {C : String} {T : u_T} {N : Nat} (hc : vwCl[ci]? = some (C, T, N)) (hin : ∀ w ∈ u_ws C T N, w ∈ lw_tg) (ty0 : Nat → FieldType) (hty : ∀ k, k < N → parseFieldDescriptor (T k).2.2.1 = some (ty0 k)) (hnm : ∀ a, a < N → ∀ b, b < N → a ≠ b → (T a).2.1 ≠ (T b).2.1) (hci : ci < 8) (hk : k < N) {q : Nat × Nat} (hq : (ft ci)[k]? = some q) (ho : ftOne ci k q = true) (hlink : Cond.fieldLink own index (T k).1 (T k).2.1 (T k).2.2.1 ∈ lw_tg) (hfin : (T k).2.2.2 = false) (hka : kd a = ci) {S' : PSt} {v : Value} (hv : fv ad S' a q = v) (hne : ∀ r, r ≠ q → r ∈ ft ci → fv ad S' a r = fv ad S a r) (hne2 : ∀ b, b ≠ a → pF cy ad S' b = pF cy ad S b) (hn : narrow (ty0 k) v = v) (hfit : fits (ty0 k) v = true) (hdg : decode cc pc = .ok (.putfield index, 3))
    (kk : ∀ (H1 : Heap) (locs1 : List Loc), va_P D vwCl (pW cy ad S') H1 → va_S (pA ad s.heap.size) s.heap H1 locs1 → W p l e R s m args below meth c H1 locs1 cells slots Q (F0 m (pc + 3) ls rest)) : W p l e R s m args below meth c H locs cells slots Q (F0 m pc ls (v :: .ref (ad a) :: rest)) := by
  obtain ⟨hx, hb, hts, hown, hK, hJ, hE⟩ := hC
  have hlt : a < NR := kd_lt (by omega)
  have hl : k < (ft ci).length := (List.getElem?_eq_some_iff.mp hq).1
  refine va_put hx hb hts hin ty0 hty hnm hown hK hP (pD hJ) hS a (fs := (ft ci).map (fv ad S a)) (by rw [pW_get hlt, pF_obj hci hka]) hc k hk (hts _ hlink) (fun _ h => h) hfin (hty k hk) hn hfit (by simpa using hl) hdg (fun H1 locs1 hP1 hD1 hS1 => ?_)
  refine kk H1 locs1 ?_ hS1
  have h1 : pF cy ad S' a = .inr (ci, ((ft ci).map (fv ad S a)).set k v) := by
    rw [pF_obj hci hka, map_set_one hq ho hne, hv]
  rw [pW_set h1 hne2] at hP1
  exact hP1
theorem pg_iald (hC : Cx p s m args c cc own D cy ad tb) (hP : va_P D vwCl (pW cy ad S) H) (hka : kd a = 8) {i : Int32} (hin : vp_in i (ln a)) (hdg : decode cc pc = .ok (.iaload, 1))
    (kk : W p l e R s m args below meth c H locs cells slots Q (F0 m (pc + 1) ls (.int (gA S a i.toNatClampNeg) :: rest))) : W p l e R s m args below meth c H locs cells slots Q (F0 m pc ls (.int i :: .ref (ad a) :: rest)) := by
  obtain ⟨hx, hb, hts, hown, hK, hJ, hE⟩ := hC
  exact va_iald hx hb hK hP a 0 (by rw [pW_get (kd_lt (by omega)), pF_int hka]) rfl hin hdg kk
theorem pg_zald (hC : Cx p s m args c cc own D cy ad tb) (hP : va_P D vwCl (pW cy ad S) H) (hka : kd a = 9) {i : Int32} (hin : vp_in i (ln a)) (hdg : decode cc pc = .ok (.baload, 1))
    (kk : W p l e R s m args below meth c H locs cells slots Q (F0 m (pc + 1) ls (.int (gA S a i.toNatClampNeg) :: rest))) : W p l e R s m args below meth c H locs cells slots Q (F0 m pc ls (.int i :: .ref (ad a) :: rest)) := by
  obtain ⟨hx, hb, hts, hown, hK, hJ, hE⟩ := hC
  exact va_zald hx hb hK hP a 1 (by rw [pW_get (kd_lt (by omega)), pF_boo hka]) rfl hin hdg kk
theorem pg_aldM (hC : Cx p s m args c cc own D cy ad tb) (hP : va_P D vwCl (pW cy ad S) H) (hka : kd a = 10) {i : Int32} (hin : vp_in i (ln a)) (hdg : decode cc pc = .ok (.aaload, 1))
    (kk : W p l e R s m args below meth c H locs cells slots Q (F0 m (pc + 1) ls (.ref (ad (gQ S a i.toNatClampNeg)) :: rest))) : W p l e R s m args below meth c H locs cells slots Q (F0 m pc ls (.int i :: .ref (ad a) :: rest)) := by
  obtain ⟨hx, hb, hts, hown, hK, hJ, hE⟩ := hC
  exact va_aldq (f := fun j => some (ad (gQ S a j))) hx hb hK hP a 2 (by rw [pW_get (kd_lt (by omega)), pF_mom hka]) rfl hin hdg kk
theorem pg_aldV (hC : Cx p s m args c cc own D cy ad tb) (hP : va_P D vwCl (pW cy ad S) H) (hka : kd a = 11) {i : Int32} (hin : vp_in i (ln a)) (hdg : decode cc pc = .ok (.aaload, 1))
    (kk : W p l e R s m args below meth c H locs cells slots Q (F0 m (pc + 1) ls (.ref (ad (gQ S a i.toNatClampNeg)) :: rest))) : W p l e R s m args below meth c H locs cells slots Q (F0 m pc ls (.int i :: .ref (ad a) :: rest)) := by
  obtain ⟨hx, hb, hts, hown, hK, hJ, hE⟩ := hC
  exact va_aldq (f := fun j => some (ad (gQ S a j))) hx hb hK hP a 3 (by rw [pW_get (kd_lt (by omega)), pF_voy hka]) rfl hin hdg kk
theorem pF_sA_ne {b i : Nat} {v : Int32} (h : b ≠ a) : pF cy ad (sA S a i v) b = pF cy ad S b := by
  unfold pF
  have h1 : fv ad (sA S a i v) b = fv ad S b := funext fun q => by unfold fv; split <;> rfl
  have h2 : gA (sA S a i v) b = gA S b := by simp [gA, sA, h]
  have h3 : gQ (sA S a i v) b = gQ S b := rfl
  rw [h1, h2, h3]
theorem pF_sQ_ne {b i v : Nat} (h : b ≠ a) : pF cy ad (sQ S a i v) b = pF cy ad S b := by
  unfold pF
  have h1 : fv ad (sQ S a i v) b = fv ad S b := funext fun q => by unfold fv; split <;> rfl
  have h2 : gQ (sQ S a i v) b = gQ S b := by simp [gQ, sQ, h]
  have h3 : gA (sQ S a i v) b = gA S b := rfl
  rw [h1, h2, h3]
theorem pg_iast (hC : Cx p s m args c cc own D cy ad tb) (hP : va_P D vwCl (pW cy ad S) H) (hS : va_S (pA ad s.heap.size) s.heap H locs) (hka : kd a = 8) {i x : Int32} (hin : vp_in i (ln a)) (hdg : decode cc pc = .ok (.iastore, 1))
    (kk : ∀ (H1 : Heap) (locs1 : List Loc), va_P D vwCl (pW cy ad (sA S a i.toNatClampNeg x)) H1 → va_S (pA ad s.heap.size) s.heap H1 locs1 → W p l e R s m args below meth c H1 locs1 cells slots Q (F0 m (pc + 1) ls rest)) : W p l e R s m args below meth c H locs cells slots Q (F0 m pc ls (.int x :: .int i :: .ref (ad a) :: rest)) := by
  obtain ⟨hx, hb, hts, hown, hK, hJ, hE⟩ := hC
  refine va_iast hx hb hK hP (pD hJ) hS a 0 (by rw [pW_get (kd_lt (by omega)), pF_int hka]) rfl hin hdg (fun H1 locs1 hP1 hD1 hS1 => kk H1 locs1 ?_ hS1)
  rw [pW_set (S' := sA S a i.toNatClampNeg x) (by rw [pF_int hka]; simp [gA, sA]) (fun b hb => pF_sA_ne hb)] at hP1
  exact hP1
theorem pg_zast (hC : Cx p s m args c cc own D cy ad tb) (hP : va_P D vwCl (pW cy ad S) H) (hS : va_S (pA ad s.heap.size) s.heap H locs) (hka : kd a = 9) {i x : Int32} (hin : vp_in i (ln a)) (hdg : decode cc pc = .ok (.bastore, 1))
    (kk : ∀ (H1 : Heap) (locs1 : List Loc), va_P D vwCl (pW cy ad (sA S a i.toNatClampNeg (vp_nar .boolean x))) H1 → va_S (pA ad s.heap.size) s.heap H1 locs1 → W p l e R s m args below meth c H1 locs1 cells slots Q (F0 m (pc + 1) ls rest)) : W p l e R s m args below meth c H locs cells slots Q (F0 m pc ls (.int x :: .int i :: .ref (ad a) :: rest)) := by
  obtain ⟨hx, hb, hts, hown, hK, hJ, hE⟩ := hC
  refine va_zast hx hb hK hP (pD hJ) hS a 1 (by rw [pW_get (kd_lt (by omega)), pF_boo hka]) rfl hin hdg (fun H1 locs1 hP1 hD1 hS1 => kk H1 locs1 ?_ hS1)
  rw [pW_set (S' := sA S a i.toNatClampNeg (vp_nar .boolean x)) (by rw [pF_boo hka]; simp [gA, sA]) (fun b hb => pF_sA_ne hb)] at hP1
  exact hP1
theorem pg_astM (hC : Cx p s m args c cc own D cy ad tb) (hP : va_P D vwCl (pW cy ad S) H) (hS : va_S (pA ad s.heap.size) s.heap H locs) (hka : kd a = 10) {i : Int32} {v : Nat} (hkv : kd v = 0) (hin : vp_in i (ln a)) (hdg : decode cc pc = .ok (.aastore, 1))
    (kk : ∀ (H1 : Heap) (locs1 : List Loc), va_P D vwCl (pW cy ad (sQ S a i.toNatClampNeg v)) H1 → va_S (pA ad s.heap.size) s.heap H1 locs1 → W p l e R s m args below meth c H1 locs1 cells slots Q (F0 m (pc + 1) ls rest)) : W p l e R s m args below meth c H locs cells slots Q (F0 m pc ls (.ref (ad v) :: .int i :: .ref (ad a) :: rest)) := by
  obtain ⟨hx, hb, hts, hown, hK, hJ, hE⟩ := hC
  refine va_astq hx hb hK hP (pD hJ) hS a 2 v 0 (by rw [pW_get (kd_lt (by omega)), pF_mom hka]) (r := (RX0, TX0, 4)) rfl (by rw [pW_get (kd_lt (by omega)), pF_obj (by decide) hkv]) rfl hin hdg (fun H1 locs1 hP1 hD1 hS1 => kk H1 locs1 ?_ hS1)
  rw [pW_set (S' := sQ S a i.toNatClampNeg v) (by
    rw [pF_mom hka]
    have h1 : (fun j => some (ad (gQ (sQ S a i.toNatClampNeg v) a j))) = va_up (fun j => some (ad (gQ S a j))) i.toNatClampNeg (some (ad v)) := by
      funext j
      simp only [gQ, sQ, va_up, if_true]
      split <;> rfl
    rw [h1]) (fun b hb => pF_sQ_ne hb)] at hP1
  exact hP1
/-- a contract: from the pool S, with these arguments, it comes back with r and the pool S' -/
def Ct (l : Launch) (d : Nat) (y : MethodName) (bytes : ByteArray) (maxL : Nat) (ret : Option FieldType) (D : va_G) (cy : Nat → ClassId) (ad tb : Nat → Nat) (S S' : PSt) (av : List Value) (r : Option Value) : Prop :=
  ∀ sz : Nat, Met l y (wz y bytes maxL ret) (rmd d) (va_Pc av (fun U => U.heap.size = sz ∧ va_P D vwCl (pW cy ad S) U.heap ∧ va_K D vwCl (tys cy) U ∧ Ex ad tb U)) (fun _ st oc t => (oc = .returned r ∧ va_P D vwCl (pW cy ad S') t.heap) ∧ va_F (pA ad sz) st t) 0 0 (pA ad sz)
theorem tg_at (i : Nat) {w : Cond} (h : lw_tbl[i]? = some w) (hg : goodWord w = true) : w ∈ lw_tg := List.mem_filter.mpr ⟨List.mem_of_getElem? h, hg⟩
theorem lw_tg_good (y : MethodName) (bytes : ByteArray) (maxL : Nat) (ret : Option FieldType) (hc : Cond.code y bytes maxL ret ∈ lw_tg) : GoodIn lw_tg (wz y bytes maxL ret) := by
  intro w hw
  have h1 : w ∈ lw_tg := by
    rcases List.mem_cons.mp hw with h | h
    · rw [h]; exact hc
    · exact h
  exact ⟨h1, good_of_word (List.mem_filter.mp h1).2⟩
theorem pg_blind {sz : Nat} {av : List Value} : FrameBlind (va_Pc av (fun U => U.heap.size = sz ∧ va_P D vwCl (pW cy ad S) U.heap ∧ va_K D vwCl (tys cy) U ∧ Ex ad tb U)) := by
  intro a U g mk q
  obtain ⟨q0, q1, q2, q3, q4⟩ := q
  exact ⟨q0, q1, q2, va_K.moved (u := U) (U := U.calling g mk a) (Vm.Alike.refl U.vm) q3, q4.call⟩
theorem pg_call {d : Nat} {S' : PSt} {r : Option Value} {st0 : List Value} {sz : Nat} (hsz : H.size = sz) (hS : va_S (pA ad s.heap.size) s.heap H locs)
    (hr : va_Run p l e R s m args below meth c H locs cells slots 0 0 (F0 m pc ls st0) rest (fun (st : State) (oc : Outcome) (t : State) => (oc = .returned r ∧ va_P D vwCl (pW cy ad S') t.heap) ∧ va_F (pA ad sz) st t) (pA ad sz))
    (kk : ∀ (H1 : Heap) (locs1 : List Loc), va_P D vwCl (pW cy ad S') H1 → va_S (pA ad s.heap.size) s.heap H1 locs1 → W p l e R s m args below meth c H1 locs1 cells slots Q (F0 m (pc + 3) ls (r.toList ++ rest))) : W p l e R s m args below meth c H locs cells slots Q (F0 m pc ls st0) := by
  have hf : ∀ q, pA ad sz q → pA ad s.heap.size q := fun q h => pA_mono (by rw [← hsz]; exact hS.1) q h
  intro T hT X
  obtain ⟨v, st₀, t, T', L, h0, X', hL, e1, e2, ⟨⟨hv, hp⟩, hz, hk⟩, st⟩ := hr T hT X
  cases hv
  rw [h0] at hz hk
  obtain ⟨t2, a1, b1⟩ := kk T'.heap (locs ++ L) (by rw [e1]; exact hp)
    ⟨Nat.le_trans hS.1 (by rw [e1]; exact hz), fun q h1 h2 => by rw [e1, hk q (Nat.lt_of_lt_of_le h1 hS.1) (fun z => h2 (hf q z))]; exact hS.2.1 q h1 h2, fun q hq => by
      rcases List.mem_append.mp hq with h | h
      · exact hS.2.2 q h
      · exact hf _ (hL q h)⟩ T' rfl X'
  exact ⟨t2, st t2 a1, b1⟩
theorem pg_callV {d nL maxL n ci : Nat} {y : MethodName} {bytes : ByteArray} {ret : Option FieldType} {S' : PSt} {r : Option Value} {As : List Value} {C : String} {T : u_T} {N : Nat} (hC : Cx p s m args c cc own D cy ad tb) (hml : c.maxLocals = nL) (hP : va_P D vwCl (pW cy ad S) H) (hS : va_S (pA ad s.heap.size) s.heap H locs)
    (hM : Ct l d y bytes maxL ret D cy ad tb S S' (.ref (ad a) :: As) r) (hR : d + 1 ≤ R.frames ∧ 40 * (d + 1) + 40 ≤ R.locals ∧ R.cells = 0 ∧ R.slots = 0) (hz : cells = 0 ∧ slots = 0) (hL : maxL ≤ 21)
    (hc : vwCl[ci]? = some (C, T, N)) (hci : ci < 8) (hka : kd a = ci) {st0 st1 : List Value} (hs0 : st0 = As.reverse ++ .ref (ad a) :: rest) (hs1 : r.toList ++ rest = st1) (hw : Cond.methodLink own index y ∈ lw_tg ∧ Cond.instanceMethod y ∈ lw_tg ∧ Cond.selects C y y ∈ lw_tg ∧ Cond.initialized C ∈ lw_tg ∧ Cond.code y bytes maxL ret ∈ lw_tg)
    (hd : y.cls = C ∧ y.cls ≠ "java/lang/invoke/MethodHandle" ∧ y.cls ≠ "java/lang/invoke/VarHandle" ∧ (parseMethodDescriptor y.desc).map (fun d => d.parameters.length) = some n) (hn : As.length = n) (hls : ls.size = nL) (hst : (rest.map fun v => v.category).sum ≤ 8) (hdg : decode cc pc = .ok (.invokevirtual index, 3))
    (kk : ∀ (H1 : Heap) (locs1 : List Loc), va_P D vwCl (pW cy ad S') H1 → va_S (pA ad s.heap.size) s.heap H1 locs1 → W p l e R s m args below meth c H1 locs1 cells slots Q (F0 m (pc + 3) ls st1)) : W p l e R s m args below meth c H locs cells slots Q (F0 m pc ls st0) := by
  subst hs0; subst hs1
  have hC' := hC
  obtain ⟨hx, hb, hts, hown, hK, hJ, hE⟩ := hC
  obtain ⟨hR1, hR2, hR3, hR4⟩ := hR
  obtain ⟨hz1, hz2⟩ := hz
  have hG : GoodIn lw_tg (wsV own index C y (wz y bytes maxL ret)) := by
    intro w h
    unfold wsV at h
    rcases List.mem_append.mp h with h | h
    · have h1 : w ∈ lw_tg := by
        simp only [List.mem_cons, List.not_mem_nil, or_false] at h
        rcases h with h | h | h | h <;> subst h
        · exact hw.1
        · exact hw.2.1
        · exact hw.2.2.1
        · exact hw.2.2.2.1
      exact ⟨h1, good_of_word (List.mem_filter.mp h1).2⟩
    · exact lw_tg_good y bytes maxL ret hw.2.2.2.2 w h
  have hlt : a < NR := kd_lt (by omega)
  refine pg_call (d := d) (S' := S') (sz := H.size) rfl hS (va_runV (own := own) (C := C) (index := index) (bytes := bytes) (maxL := maxL) (ret := ret) (n := n) (As := As) (rest := rest) (b := ad a) ⟨hx, hb, hml, hown, hts⟩ (hM H.size) (cwV n hts hG rfl rfl rfl hd ⟨hR1, by show 8 + (maxL + 11) + (40 * d + 40) ≤ R.locals; omega⟩) ⟨pg_blind, va_recv hK hP hc (q0 := a) (by rw [pW_get hlt, pF_obj hci hka]), fun U hU hW => ⟨rfl, by rw [hU], by rw [hU]; exact hP, va_K.moved hW.alike hK, hE.go hS hU hW⟩⟩ rfl hn hls rfl (lv_room hst) hdg ⟨by omega, by omega⟩) kk
theorem pg_callS {d nL maxL n : Nat} {y : MethodName} {bytes : ByteArray} {ret : Option FieldType} {S' : PSt} {r : Option Value} {As : List Value} (hC : Cx p s m args c cc own D cy ad tb) (hml : c.maxLocals = nL) (hP : va_P D vwCl (pW cy ad S) H) (hS : va_S (pA ad s.heap.size) s.heap H locs)
    (hM : Ct l d y bytes maxL ret D cy ad tb S S' As r) (hR : d + 1 ≤ R.frames ∧ 40 * (d + 1) + 40 ≤ R.locals ∧ R.cells = 0 ∧ R.slots = 0) (hz : cells = 0 ∧ slots = 0) (hL : maxL ≤ 21)
    {st0 st1 : List Value} (hs0 : st0 = As.reverse ++ rest) (hs1 : r.toList ++ rest = st1) (hw : Cond.methodLink own index y ∈ lw_tg ∧ Cond.static y ∈ lw_tg ∧ Cond.initialized y.cls ∈ lw_tg ∧ Cond.code y bytes maxL ret ∈ lw_tg)
    (hd : y.cls ≠ "java/lang/invoke/MethodHandle" ∧ y.cls ≠ "java/lang/invoke/VarHandle" ∧ (parseMethodDescriptor y.desc).map (fun d => d.parameters.length) = some n) (hn : As.length = n) (hls : ls.size = nL) (hst : (rest.map fun v => v.category).sum ≤ 8) (hdg : decode cc pc = .ok (.invokestatic index, 3))
    (kk : ∀ (H1 : Heap) (locs1 : List Loc), va_P D vwCl (pW cy ad S') H1 → va_S (pA ad s.heap.size) s.heap H1 locs1 → W p l e R s m args below meth c H1 locs1 cells slots Q (F0 m (pc + 3) ls st1)) : W p l e R s m args below meth c H locs cells slots Q (F0 m pc ls st0) := by
  subst hs0; subst hs1
  obtain ⟨hx, hb, hts, hown, hK, hJ, hE⟩ := hC
  obtain ⟨hR1, hR2, hR3, hR4⟩ := hR
  obtain ⟨hz1, hz2⟩ := hz
  refine pg_call (d := d) (S' := S') (sz := H.size) rfl hS (va_runS (own := own) (index := index) (bytes := bytes) (maxL := maxL) (ret := ret) (n := n) (As := As) (rest := rest) ⟨hx, hb, hml, hown, hts⟩ (hM H.size) ⟨callB_of n hts (lw_tg_good y bytes maxL ret hw.2.2.2) rfl rfl rfl (hts _ hw.2.2.1) (hts _ hw.1) hd ⟨hR1, by show 8 + (maxL + 11) + (40 * d + 40) ≤ R.locals; omega⟩, hts _ hw.2.1⟩ ⟨pg_blind, fun U hU hW => ⟨rfl, by rw [hU], by rw [hU]; exact hP, va_K.moved hW.alike hK, hE.go hS hU hW⟩⟩ rfl hn hls rfl (lv_room hst) hdg ⟨by omega, by omega⟩) kk
theorem pg_callSN {d nL maxL n : Nat} {y : MethodName} {bytes : ByteArray} {ret : Option FieldType} {S' : PSt} {r : Option Value} {As : List Value} (hC : Cx p s m args c cc own D cy ad tb) (hml : c.maxLocals = nL) (hP : va_P D vwCl (pW cy ad S) H) (hS : va_S (pA ad s.heap.size) s.heap H locs)
    (hM : Ct l d y bytes maxL ret D cy ad tb S S' As r) (hR : d + 1 ≤ R.frames ∧ 40 * (d + 1) + 40 ≤ R.locals ∧ R.cells = 0 ∧ R.slots = 0) (hz : cells = 0 ∧ slots = 0) (hL : maxL ≤ 21)
    (hnw : (own, index, y) ∈ nestL) {st0 st1 : List Value} (hs0 : st0 = As.reverse ++ rest) (hs1 : r.toList ++ rest = st1) (hw : Cond.static y ∈ lw_tg ∧ Cond.initialized y.cls ∈ lw_tg ∧ Cond.code y bytes maxL ret ∈ lw_tg)
    (hd : y.cls ≠ "java/lang/invoke/MethodHandle" ∧ y.cls ≠ "java/lang/invoke/VarHandle" ∧ (parseMethodDescriptor y.desc).map (fun d => d.parameters.length) = some n) (hn : As.length = n) (hls : ls.size = nL) (hst : (rest.map fun v => v.category).sum ≤ 8) (hdg : decode cc pc = .ok (.invokestatic index, 3))
    (kk : ∀ (H1 : Heap) (locs1 : List Loc), va_P D vwCl (pW cy ad S') H1 → va_S (pA ad s.heap.size) s.heap H1 locs1 → W p l e R s m args below meth c H1 locs1 cells slots Q (F0 m (pc + 3) ls st1)) : W p l e R s m args below meth c H locs cells slots Q (F0 m pc ls st0) := by
  subst hs0; subst hs1
  obtain ⟨hx, hb, hts, hown, hK, hJ, hE⟩ := hC
  obtain ⟨hR1, hR2, hR3, hR4⟩ := hR
  obtain ⟨hz1, hz2⟩ := hz
  refine pg_call (d := d) (S' := S') (sz := H.size) rfl hS (va_runSN (own := own) (host := "BoatLeggers") (index := index) (bytes := bytes) (maxL := maxL) (ret := ret) (n := n) (As := As) (rest := rest) ⟨hx, hb, hml, hown, hts⟩ (hM H.size) ⟨va_cnB n hts (lw_tg_good y bytes maxL ret hw.2.2) rfl rfl rfl (hE.1 _ hnw) (hts _ hw.2.1) hd ⟨hR1, by show 8 + (maxL + 11) + (40 * d + 40) ≤ R.locals; omega⟩, hts _ hw.1, trivial⟩ ⟨pg_blind, fun U hU hW => ⟨rfl, by rw [hU], by rw [hU]; exact hP, va_K.moved hW.alike hK, hE.go hS hU hW⟩⟩ rfl hn hls rfl (lv_room hst) hdg ⟨by omega, by omega⟩) kk
theorem pg_sld (hC : Cx p s m args c cc own D cy ad tb) (hS : va_S (pA ad s.heap.size) s.heap H locs) {b : Nat} (hb4 : b < 4) {i : Int32} (hin : vp_in i (stL b)) (hdg : decode cc pc = .ok (.iaload, 1))
    (kk : W p l e R s m args below meth c H locs cells slots Q (F0 m (pc + 1) ls (.int (stV b i.toNatClampNeg) :: rest))) : W p l e R s m args below meth c H locs cells slots Q (F0 m pc ls (.int i :: .ref (tb b) :: rest)) := by
  obtain ⟨hx, hb, hts, hown, hK, hJ, hE⟩ := hC
  exact va_ti hx hb (hE.2 b hb4).2 hS hin rfl hdg kk
theorem pg_slen (hC : Cx p s m args c cc own D cy ad tb) (hS : va_S (pA ad s.heap.size) s.heap H locs) {b : Nat} (hb4 : b < 4) (hdg : decode cc pc = .ok (.arraylength, 1))
    (kk : W p l e R s m args below meth c H locs cells slots Q (F0 m (pc + 1) ls (.int (Int32.ofNat (stL b)) :: rest))) : W p l e R s m args below meth c H locs cells slots Q (F0 m pc ls (.ref (tb b) :: rest)) := by
  obtain ⟨hx, hb, hts, hown, hK, hJ, hE⟩ := hC
  exact va_tlen hx hb (hE.2 b hb4).2 hS rfl hdg kk
theorem pg_sget (hC : Cx p s m args c cc RX2 D cy ad tb) (hS : va_S (pA ad s.heap.size) s.heap H locs) {b : Nat} (hb4 : b < 4) (hlink : Cond.fieldLink RX2 index RX2 (stN b) "[I" ∈ lw_tg) (hdg : decode cc pc = .ok (.getstatic index, 3))
    (kk : W p l e R s m args below meth c H locs cells slots Q (F0 m (pc + 3) ls (.ref (tb b) :: rest))) : W p l e R s m args below meth c H locs cells slots Q (F0 m pc ls rest) := by
  obtain ⟨hx, hb, hts, hown, hK, hJ, hE⟩ := hC
  exact va_gets hx hb (hE.2 b hb4).1 hS hown (hts _ hlink) (fun _ h => h) hdg kk
theorem pg_alen (hC : Cx p s m args c cc own D cy ad tb) (hP : va_P D vwCl (pW cy ad S) H) (hka : kd a = 8) (hdg : decode cc pc = .ok (.arraylength, 1))
    (kk : W p l e R s m args below meth c H locs cells slots Q (F0 m (pc + 1) ls (.int (Int32.ofNat (ln a)) :: rest))) : W p l e R s m args below meth c H locs cells slots Q (F0 m pc ls (.ref (ad a) :: rest)) := by
  obtain ⟨hx, hb, hts, hown, hK, hJ, hE⟩ := hC
  exact va_alen hx hb hK hP a 0 (by rw [pW_get (kd_lt (by omega)), pF_int hka]) rfl rfl hdg kk
theorem pg_top {x y : Int32} (h : y = x) (k : W p l e R s m args below meth c H locs cells slots Q (F0 m pc ls (.int y :: rest))) : W p l e R s m args below meth c H locs cells slots Q (F0 m pc ls (.int x :: rest)) := h ▸ k
theorem pg_topr {x y : Nat} (h : y = x) (k : W p l e R s m args below meth c H locs cells slots Q (F0 m pc ls (.ref (ad y) :: rest))) : W p l e R s m args below meth c H locs cells slots Q (F0 m pc ls (.ref (ad x) :: rest)) := h ▸ k
theorem pg_max (hC : Cx p s m args c cc own D cy ad tb) (hml : c.maxLocals = ls.size) (hR : 1 ≤ R.frames ∧ 60 ≤ R.locals ∧ R.cells = 0 ∧ R.slots = 0) (hz : cells = 0 ∧ slots = 0) (hlink : Cond.methodLink own index Lib.Math.max.name ∈ lw_tg) (hst : (rest.map fun v => v.category).sum ≤ 8) {x y : Int32} (hdg : decode cc pc = .ok (.invokestatic index, 3))
    (kk : W p l e R s m args below meth c H locs cells slots Q (F0 m (pc + 3) ls (.int (if x < y then y else x) :: rest))) : W p l e R s m args below meth c H locs cells slots Q (F0 m pc ls (.int y :: .int x :: rest)) := by
  obtain ⟨hx, hb, hts, hown, hK, hJ, hE⟩ := hC
  exact va_mmax hx hb hml hown (hts _ hlink) (hts _ (tg_at 441 (by decide +kernel) rfl)) (hts _ (tg_at 68 (by decide +kernel) rfl)) (hts _ (tg_at 442 (by decide +kernel) rfl)) hR.1 (by omega) (by omega) (by omega) hdg kk
theorem pg_min (hC : Cx p s m args c cc own D cy ad tb) (hml : c.maxLocals = ls.size) (hR : 1 ≤ R.frames ∧ 60 ≤ R.locals ∧ R.cells = 0 ∧ R.slots = 0) (hz : cells = 0 ∧ slots = 0) (hlink : Cond.methodLink own index Lib.Math.min.name ∈ lw_tg) (hst : (rest.map fun v => v.category).sum ≤ 8) {x y : Int32} (hdg : decode cc pc = .ok (.invokestatic index, 3))
    (kk : W p l e R s m args below meth c H locs cells slots Q (F0 m (pc + 3) ls (.int (if y < x then y else x) :: rest))) : W p l e R s m args below meth c H locs cells slots Q (F0 m pc ls (.int y :: .int x :: rest)) := by
  obtain ⟨hx, hb, hts, hown, hK, hJ, hE⟩ := hC
  exact va_mmin hx hb hml hown (hts _ hlink) (hts _ (tg_at 390 (by decide +kernel) rfl)) (hts _ (tg_at 68 (by decide +kernel) rfl)) (hts _ (tg_at 391 (by decide +kernel) rfl)) hR.1 (by omega) (by omega) (by omega) hdg kk
/-- the end of a method: r, and the pool S' -/
def Qz (D : va_G) (cy : Nat → ClassId) (ad : Nat → Nat) (below : List Frame) (args : Array Value) (s : State) (S' : PSt) (r : Option Value) : State → Prop :=
  MQ below (fun _ st oc t => (oc = .returned r ∧ va_P D vwCl (pW cy ad S') t.heap) ∧ va_F (pA ad s.heap.size) st t) args s 0 0 (pA ad s.heap.size)
abbrev Mx (p : Program) (s : State) (m : MethodId) (args : Array Value) (c : Code) (meth : Method) (cc : ByteArray) (own : String) (nL : Nat) (ret : Option FieldType) (D : va_G) (cy : Nat → ClassId) (ad tb : Nat → Nat) : Prop :=
  Cx p s m args c cc own D cy ad tb ∧ c.maxLocals = nL ∧ meth.sig.returnType = ret ∧ meth.locks = false
theorem pg_iret {S' : PSt} {r v : Int32} (hC : Cx p s m args c cc own D cy ad tb) (hr : meth.sig.returnType = some .int) (hk : meth.locks = false) (hP : va_P D vwCl (pW cy ad S) H) (hS : va_S (pA ad s.heap.size) s.heap H locs) (hf : some (v, S) = some (r, S')) (hdg : decode cc pc = .ok (.ireturn, 1)) :
    W p l e R s m args below meth c H locs 0 0 (Qz D cy ad below args s S' (some (.int r))) (F0 m pc ls [.int v]) := by
  cases hf
  exact W.iret hC.1 hC.2.1 hr (fun t ht hW => ⟨⟨rfl, by rw [ht]; exact hP⟩, hS.F ht⟩) hS.2.2 hdg hk
theorem pg_zret {S' : PSt} {r v : Int32} (hC : Cx p s m args c cc own D cy ad tb) (hr : meth.sig.returnType = some .boolean) (hk : meth.locks = false) (hP : va_P D vwCl (pW cy ad S) H) (hS : va_S (pA ad s.heap.size) s.heap H locs) (hv : v = 0 ∨ v = 1) (hf : some (v, S) = some (r, S')) (hdg : decode cc pc = .ok (.ireturn, 1)) :
    W p l e R s m args below meth c H locs 0 0 (Qz D cy ad below args s S' (some (.int r))) (F0 m pc ls [.int v]) := by
  cases hf
  exact W.zret hC.1 hC.2.1 hr (by rcases hv with h | h <;> subst h <;> decide) (fun t ht hW => ⟨⟨rfl, by rw [ht]; exact hP⟩, hS.F ht⟩) hS.2.2 hdg hk
theorem pg_lret {S' : PSt} {r v : Int64} (hC : Cx p s m args c cc own D cy ad tb) (hr : meth.sig.returnType = some .long) (hk : meth.locks = false) (hP : va_P D vwCl (pW cy ad S) H) (hS : va_S (pA ad s.heap.size) s.heap H locs) (hf : some (v, S) = some (r, S')) (hdg : decode cc pc = .ok (.lreturn, 1)) :
    W p l e R s m args below meth c H locs 0 0 (Qz D cy ad below args s S' (some (.long r))) (F0 m pc ls [.long v]) := by
  cases hf
  exact W.lret hC.1 hC.2.1 hr (fun t ht hW => ⟨⟨rfl, by rw [ht]; exact hP⟩, hS.F ht⟩) hS.2.2 hdg hk
theorem pg_vret {S' : PSt} (hC : Cx p s m args c cc own D cy ad tb) (hr : meth.sig.returnType = none) (hk : meth.locks = false) (hP : va_P D vwCl (pW cy ad S) H) (hS : va_S (pA ad s.heap.size) s.heap H locs) (hf : some S = some S') (hdg : decode cc pc = .ok (.return_, 1)) :
    W p l e R s m args below meth c H locs 0 0 (Qz D cy ad below args s S' none) (F0 m pc ls []) := by
  cases hf
  exact W.vret hC.1 hC.2.1 hr (fun t ht hW => ⟨⟨rfl, by rw [ht]; exact hP⟩, hS.F ht⟩) hS.2.2 hdg hk
theorem pg_sret {S' : PSt} {b b' : Nat} (hC : Cx p s m args c cc own D cy ad tb) (hr : meth.sig.returnType = some (.array .int)) (hk : meth.locks = false) (hP : va_P D vwCl (pW cy ad S) H) (hS : va_S (pA ad s.heap.size) s.heap H locs) (hf : some (b, S) = some (b', S')) (hdg : decode cc pc = .ok (.areturn, 1)) :
    W p l e R s m args below meth c H locs 0 0 (Qz D cy ad below args s S' (some (.ref (tb b')))) (F0 m pc ls [.ref (tb b)]) := by
  cases hf
  exact W.aret hC.1 hC.2.1 hr (Or.inr ⟨_, rfl⟩) (Or.inr ⟨_, rfl⟩) (fun t ht hW => ⟨⟨rfl, by rw [ht]; exact hP⟩, hS.F ht⟩) hS.2.2 hdg hk
theorem Ct_of {d maxL : Nat} {y : MethodName} {bytes : ByteArray} {ret : Option FieldType} {S S' : PSt} {av : List Value} {r : Option Value} (hJ : pJ ad) (hy : plainName y.cls = true) (hn : (lg_sl av).length ≤ maxL)
    (body : ∀ (p : Program) (e : Env) (s : State) (m : MethodId) (below : List Frame) (meth : Method) (c : Code) (ls : Array Slot), Mx p s m av.toArray c meth bytes y.cls maxL ret D cy ad tb → va_P D vwCl (pW cy ad S) s.heap → va_S (pA ad s.heap.size) s.heap s.heap [] → lv_has ls maxL (lv_args 0 av) →
      W p l e (rmd d) s m av.toArray below meth c s.heap [] 0 0 (Qz D cy ad below av.toArray s S' r) (F0 m 0 ls [])) : Ct l d y bytes maxL ret D cy ad tb S S' av r := by
  intro sz
  refine Met.ofW (cc := bytes) (maxL := maxL) (ret := ret) hy rfl ?_
  intro p e s m args below meth c s₁ B hml hv
  obtain ⟨rfl, hsz, hP, hK, hE⟩ := hv
  subst hsz
  have hl := lv_entry av (n := maxL) hn
  rw [lg_entry_eq]
  exact body p e s m below meth c _ ⟨⟨B.exec, B.bytes, fun w h => atoms_spec (ws := wz y bytes maxL ret) B.pre w (List.mem_cons_of_mem _ h), findClass_of_methodNamed B.named, hK, hJ, hE⟩, hml, B.returns, B.notSynchronized⟩ hP va_S.rf hl
theorem in_tg {ws : List Cond} (h : ∀ w ∈ ws, w ∈ lw_tbl) (hg : ws.all goodWord = true) : ∀ w ∈ ws, w ∈ lw_tg := fun w hw => List.mem_filter.mpr ⟨h w hw, List.all_eq_true.mp hg w hw⟩
theorem jX0 : ∀ w ∈ u_ws RX0 TX0 4, w ∈ lw_tg := in_tg inX0 (by decide +kernel)
theorem jX1 : ∀ w ∈ u_ws RX1 TX1 6, w ∈ lw_tg := in_tg inX1 (by decide +kernel)
theorem jX2 : ∀ w ∈ u_ws RX2 TX2 9, w ∈ lw_tg := in_tg inX2 (by decide +kernel)
theorem jX3 : ∀ w ∈ u_ws RX3 TX3 11, w ∈ lw_tg := in_tg inX3 (by decide +kernel)
theorem jX4 : ∀ w ∈ u_ws RX4 TX4 14, w ∈ lw_tg := in_tg inX4 (by decide +kernel)
theorem jX5 : ∀ w ∈ u_ws RX5 TX5 3, w ∈ lw_tg := in_tg inX5 (by decide +kernel)
theorem jX6 : ∀ w ∈ u_ws RX6 TX6 11, w ∈ lw_tg := in_tg inX6 (by decide +kernel)
theorem jX7 : ∀ w ∈ u_ws RX7 TX7 34, w ∈ lw_tg := in_tg inX7 (by decide +kernel)
end BASE
