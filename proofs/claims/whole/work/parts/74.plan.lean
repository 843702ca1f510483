section
/-! STAGE 2, the component's search for the quickest rows -/
def aMin (o : Option (List Nat × Nat)) : Int32 := match o with
  | none => -9
  | some r => nI r.2
def aRow (g n : Nat) (o : Option (List Nat × Nat)) (i : Nat) : Int32 := match o with
  | none => -9
  | some r => if g ≤ i ∧ i < n then nI (r.1.getD (i - g) 0) else -9
def PA (S : PSt) (a g n : Nat) (o : Option (List Nat × Nat)) : Prop := gI S 101 a = aMin o ∧ ∀ i, i < 6 → gA S (a + 1) i = aRow g n o i
theorem kp0 {a : Nat} (h : a = 120 ∨ a = 138) : kd a = 1 ∧ ln (a + 1) = 6 ∧ ln (a + 2) = 6 ∧ ln (a + 3) = 7 := by
  rcases h with rfl | rfl <;> exact ⟨rfl, rfl, rfl, rfl⟩
theorem kp4 {a i : Nat} (h : a = 120 ∨ a = 138) (hi : i < 7) : kd (a + 4 + 2 * i) = 0 := by
  rcases h with rfl | rfl
  · exact (show ∀ i, i < 7 → kd (120 + 4 + 2 * i) = 0 by decide +kernel) i hi
  · exact (show ∀ i, i < 7 → kd (138 + 4 + 2 * i) = 0 by decide +kernel) i hi
/-- what a search may change -/
def plF (S T : PSt) (a : Nat) : Prop := (∀ b, (b < a ∨ a + 17 < b) → ag S T b) ∧ gI T 100 a = gI S 100 a ∧ gI T 103 a = gI S 103 a ∧ gQ T (a + 3) = gQ S (a + 3)
def plU (S T : PSt) (a i : Nat) : Prop := ∀ j, j ≤ i → ag S T (a + 4 + 2 * j) ∧ ag S T (a + 4 + 2 * j + 1)
def plR (S T : PSt) (a i n : Nat) : Prop := ∀ j, (j < i ∨ n ≤ j) → gA T (a + 2) j = gA S (a + 2) j
theorem plF_refl (S : PSt) (a : Nat) : plF S S a := ⟨fun b _ => ag.refl S b, rfl, rfl, rfl⟩
theorem plF_trans {S T U : PSt} {a : Nat} (h : plF S T a) (k : plF T U a) : plF S U a := ⟨fun b hb => (h.1 b hb).trans (k.1 b hb), k.2.1.trans h.2.1, k.2.2.1.trans h.2.2.1, k.2.2.2.trans h.2.2.2⟩
theorem plU_refl (S : PSt) (a i : Nat) : plU S S a i := fun _ _ => ⟨ag.refl S _, ag.refl S _⟩
theorem plU_trans {S T U : PSt} {a i : Nat} (h : plU S T a i) (k : plU T U a i) : plU S U a i := fun j hj => ⟨(h j hj).1.trans (k j hj).1, (h j hj).2.trans (k j hj).2⟩
theorem plU_le {S T : PSt} {a i e : Nat} (h : plU S T a e) (hi : i ≤ e) : plU S T a i := fun j hj => h j (by omega)
theorem plR_refl (S : PSt) (a i n : Nat) : plR S S a i n := fun _ _ => rfl
theorem plR_trans {S T U : PSt} {a i n : Nat} (h : plR S T a i n) (k : plR T U a i n) : plR S U a i n := fun j hj => (k j hj).trans (h j hj)
theorem plR_le {S T : PSt} {a i e n : Nat} (h : plR S T a e n) (hi : i ≤ e) : plR S T a i n := fun j hj => h j (by omega)
theorem c_take {N a : Nat} {S : PSt} {v : Int32} (hN : 10 ≤ N) (ha : a = 120 ∨ a = 138) : ∃ T, P_X1_take N S a v = some T ∧ row1 (sI S 101 a v) T (a + 1) (fun j => if j < 6 then gA S (a + 2) j else gA S (a + 1) j) := by
  obtain ⟨-, p1, p2, -⟩ := kp0 ha
  have step : ∀ (k : Nat) (s : PSt × Int32) (fuel : Nat), k < 6 → (s.2 = nI k ∧ row1 (sI S 101 a v) s.1 (a + 1) (fun j => if j < k then gA S (a + 2) j else gA S (a + 1) j)) → ∃ s' : PSt × Int32, P_X1_take_L7 N (fuel + 1) s.1 a s.2 = P_X1_take_L7 N fuel s'.1 a s'.2 ∧ (s'.2 = nI (k + 1) ∧ row1 (sI S 101 a v) s'.1 (a + 1) (fun j => if j < k + 1 then gA S (a + 2) j else gA S (a + 1) j)) := by
    rintro k ⟨T, x⟩ fuel hk ⟨hx, hr⟩
    simp only at hx hr ⊢
    subst hx
    have g : gA T (a + 2) k = gA S (a + 2) k := by rw [hr.2.2.2.2.1 (a + 2) (by omega)]; rfl
    refine ⟨(sA T (a + 1) k (gA S (a + 2) k), nI (k + 1)), ?_, rfl, (row1_sA hr).cong (fun j => ?_)⟩
    · rw [P_X1_take_L7]
      dsimp only
      rw [li6, if_neg (nI_ge hk (by omega)), bin_nI (by omega), p2, gd_dec hk, bin_nI (by omega), p1, gd_dec hk, nI_clamp (by omega), g, bnd_eq, li1, nI_add, bnd_eq]
    · show (if j = k then gA S (a + 2) k else if j < k then gA S (a + 2) j else gA S (a + 1) j) = _
      by_cases c : j = k
      · subst c
        rw [if_pos rfl, if_pos (by omega)]
      · rw [if_neg c]
        by_cases c2 : j < k
        · rw [if_pos c2, if_pos (by omega)]
        · rw [if_neg c2, if_neg (by omega)]
  obtain ⟨⟨T, x⟩, e, hx, hr⟩ := loopG (fun f (s : PSt × Int32) => P_X1_take_L7 N f s.1 a s.2) _ 6 step 6 0 (sI S 101 a v, nI 0) (N - 6) (by omega) ⟨rfl, (row1.refl _ (a + 1)).cong (fun j => (if_neg (by omega)).symm)⟩
  simp only at e hx hr
  subst hx
  rw [show N - 6 + 6 = N by omega] at e
  refine ⟨T, ?_, hr⟩
  unfold P_X1_take
  rw [bnd_eq, li0, e]
  obtain ⟨f, hf⟩ : ∃ f, N - 6 = f + 1 := ⟨N - 7, by omega⟩
  rw [hf, P_X1_take_L7]
  dsimp only
  rw [li6, if_pos (nI_le (Nat.le_refl _) (by omega))]
def mbq (lo : Nat → Nat) (n i till : Nat) (o : Option (List Nat × Nat)) : Bool := match o with
  | none => true
  | some y => decide (till + lo n < y.2 + lo i)
theorem c_mbq {N a r i till : Nat} {S : PSt} {t : Tau} {lo : Nat → Nat} {o : Option (List Nat × Nat)} (hkr : kd r = 4) (hR : CRt S r t) (on : tn t ≤ 6) (hlo : ∀ i, i ≤ tn t → gA S (r + 8) i = nI (lo i)) (hmono : lo i ≤ lo (tn t)) (hb : lo (tn t) ≤ 1000) (hi : i ≤ tn t) (h1 : gI S 101 a = aMin o) (ho : ∀ y, o = some y → y.2 < 2 ^ 20) (ht : till < 2 ^ 20) : P_X1_mayBeQuicker N S a r (nI i) (nI till) = some (bI (mbq lo (tn t) i till o), S) := by
  unfold P_X1_mayBeQuicker
  cases o with
  | none =>
    rw [h1, if_pos (show aMin none = -9 from rfl), li1]
    rfl
  | some y =>
    have hy := ho y rfl
    have e : gI S 101 a = nI y.2 := h1
    rw [e, if_neg (by rw [nI_m9 (by omega)]; exact id), hR.2.1, bin_nI (by omega), lt8 hkr, gd_dec (by omega), bin_nI (by omega), gd_dec (by omega), nI_clamp (by omega), nI_clamp (by omega), hlo _ (Nat.le_refl _), hlo _ hi, nI_add, pk_sub (by omega)]
    have em : mbq lo (tn t) i till (some y) = decide (till + lo (tn t) < y.2 + lo i) := rfl
    rw [em]
    by_cases c : till + lo (tn t) < y.2 + lo i
    · rw [if_neg (nI_ge (by omega) (by omega)), decide_eq_true c, li1]; rfl
    · rw [if_pos (nI_le (by omega) (by omega)), decide_eq_false c, li0]; rfl
theorem lo_mono {lo : Nat → Nat} {n : Nat} (h : ∀ i, i < n → lo i ≤ lo (i + 1)) : ∀ k i, i + k = n → lo i ≤ lo n
  | 0, i, e => by rw [← e]; exact Nat.le_refl _
  | k + 1, i, e => Nat.le_trans (h i (by omega)) (lo_mono h k (i + 1) (by omega))
theorem lo_bd {lo : Nat → Nat} {n : Nat} (h0 : lo 0 = 0) (h : ∀ i, i < n → lo (i + 1) ≤ lo i + 150) : ∀ i, i ≤ n → lo i ≤ 150 * i
  | 0, _ => by rw [h0]; exact Nat.zero_le _
  | i + 1, e => by
    have h1 := lo_bd h0 h i (by omega)
    have h2 := h i (by omega)
    omega
theorem leaves_lo {t : Tau} {lo : Nat → Nat} {fz : Bool} (h : ∀ i p T, i < tn t → p ∈ prs t → lo (i + 1) ≤ lo i + mins t T i p) : ∀ k i q x, x ∈ leaves t fz i k q → i + k = tn t → q.1 + lo (tn t) ≤ x.2 + lo i
  | 0, i, q, x, hx, e => by
    have : x = ([], q.1) := by simpa [leaves] using hx
    rw [this, ← e]
    exact Nat.le_refl _
  | k + 1, i, q, x, hx, e => by
    rw [leaves, List.mem_flatMap] at hx
    obtain ⟨p, hp, hx⟩ := hx
    by_cases c : (fz && wornP t q.2.2 p) = true
    · rw [if_pos c] at hx
      cases hx
    · rw [if_neg c, List.mem_map] at hx
      obtain ⟨y, hy, rfl⟩ := hx
      have h1 := leaves_lo h k (i + 1) (wk t i p q) y hy (by omega)
      have h2 := h i p q.2.2 (by omega) hp
      have e : (wk t i p q).1 = q.1 + chg t q.2.1 p + mins t q.2.2 i p := rfl
      show _ ≤ y.2 + _
      omega
theorem leaves_min {t : Tau} (ok : TOK t) (fz : Bool) (k i : Nat) (q : Wk) (x : List Nat × Nat) (hx : x ∈ leaves t fz i k q) (h : i + k ≤ tn t) : x.2 ≤ q.1 + 135 * k := by
  have e : fz = decide ((if fz = true then 1 else 0) = 1) := by cases fz <;> rfl
  rw [e, leaves_gl t [] (by cases fz <;> decide)] at hx
  exact gl_min ok _ k i q x hx h
theorem pick_skip : ∀ (ls : List (List Nat × Nat)) (y : List Nat × Nat), (∀ x, x ∈ ls → y.2 ≤ x.2) → ls.foldl pick (some y) = some y
  | [], _, _ => rfl
  | x :: ls, y, h => by
    have e : pick (some y) x = some y := by
      show (if x.2 < y.2 then some x else some y) = some y
      rw [if_neg (by have := h x List.mem_cons_self; omega)]
    rw [List.foldl_cons, e]
    exact pick_skip ls y (fun z hz => h z (List.mem_cons_of_mem _ hz))
theorem pick_lt {B : Nat} : ∀ (ls : List (List Nat × Nat)) (o : Option (List Nat × Nat)), (∀ x, x ∈ ls → x.2 < B) → (∀ y, o = some y → y.2 < B) → ∀ y, ls.foldl pick o = some y → y.2 < B
  | [], _, _, h => h
  | x :: ls, o, h1, h2 => by
    rw [List.foldl_cons]
    refine pick_lt ls _ (fun z hz => h1 z (List.mem_cons_of_mem _ hz)) ?_
    have hx := h1 x List.mem_cons_self
    intro y hy
    cases o with
    | none =>
      have : some x = some y := hy
      cases this
      exact hx
    | some z =>
      have hy : (if x.2 < z.2 then some x else some z) = some y := hy
      by_cases c : x.2 < z.2
      · rw [if_pos c] at hy
        cases hy
        exact hx
      · rw [if_neg c] at hy
        cases hy
        exact h2 _ rfl
/-- what the tables of the tunnel say to a search -/
def loF (S : PSt) (r : Nat) (t : Tau) (lo : Nat → Nat) : Prop := gI S 404 r = nI (prs t).length ∧ (∀ i, i < (prs t).length → gA S (r + 7) i = nI ((prs t).getD i 0)) ∧ ∀ i, i ≤ tn t → gA S (r + 8) i = nI (lo i)
def DC (S : PSt) (t : Tau) (r a g : Nat) (fz : Bool) (lo : Nat → Nat) (i : Nat) (q : Wk) (pr : List Nat) (o : Option (List Nat × Nat)) : Prop := CRt S r t ∧ loF S r t lo ∧ CRm S (a + 4 + 2 * i) (i, q.1, q.2.1, q.2.2) ∧ (∀ w, w < 4 → q.2.2 w ≤ 99) ∧ q.1 ≤ 135 * i ∧ (∀ z, q.2.1 = some z → vpr t z) ∧ g + pr.length = i ∧ (∀ j, j < 6 → (j < i ∨ tn t ≤ j) → gA S (a + 2) j = if g ≤ j ∧ j < i then nI (pr.getD (j - g) 0) else -9) ∧ gI S 103 a = (if fz then 1 else 0) ∧ (∀ j, j < 7 → gQ S (a + 3) j = a + 4 + 2 * j) ∧ PA S a g (tn t) o ∧ ∀ y, o = some y → y.2 < 2 ^ 20
theorem plF_t {S T : PSt} {a r : Nat} {t : Tau} (ha : a = 120 ∨ a = 138) (hr : r = 4 ∨ r = 14) (k : plF S T a) (hR : CRt S r t) : CRt T r t := hR.ag (fun i hi => k.1 _ (by omega))
theorem plF_lo {S T : PSt} {a r : Nat} {t : Tau} {lo : Nat → Nat} (ha : a = 120 ∨ a = 138) (hr : r = 4 ∨ r = 14) (k : plF S T a) (h : loF S r t lo) : loF T r t lo := by
  obtain ⟨h1, h2, h3⟩ := h
  refine ⟨((k.1 r (by omega)).1 _).trans h1, ?_, ?_⟩
  · rw [(k.1 (r + 7) (by omega)).2.2.2.1]; exact h2
  · rw [(k.1 (r + 8) (by omega)).2.2.2.1]; exact h3
theorem DC_fr {S T : PSt} {t : Tau} {r a g i : Nat} {fz : Bool} {lo : Nat → Nat} {q : Wk} {pr : List Nat} {o o' : Option (List Nat × Nat)} (ha : a = 120 ∨ a = 138) (hr : r = 4 ∨ r = 14) (h : DC S t r a g fz lo i q pr o) (k1 : plF S T a) (k2 : plU S T a i) (k3 : plR S T a i (tn t)) (k4 : PA T a g (tn t) o') (k5 : ∀ y, o' = some y → y.2 < 2 ^ 20) : DC T t r a g fz lo i q pr o' := by
  obtain ⟨d1, d2, d3, d4, d5, d6, d7, d8, d9, d10, -, -⟩ := h
  exact ⟨plF_t ha hr k1 d1, plF_lo ha hr k1 d2, d3.ag (k2 i (Nat.le_refl i)).1 (k2 i (Nat.le_refl i)).2, d4, d5, d6, d7, fun j hj hj2 => (k3 j hj2).trans (d8 j hj hj2), k1.2.2.1.trans d9, by rw [k1.2.2.2]; exact d10, k4, k5⟩
end
