section
/-! STAGE 2, the reference's search: its leaves -/
def pM (o : Option Nat) : Int32 := match o with
  | none => -1
  | some p => nI p
def pby (W : Nat) : Nat → Nat → Nat → Option Nat
  | 0, _, _ => none
  | f + 1, left, a => if W ≤ a then none else if W - 1 - a ≤ left then pby W f (left - (W - 1 - a)) (a + 1) else some (10 * a + a + 1 + left)
theorem m_pby {N W : Nat} {S : PSt} (hW : gI S 700 158 = nI W) (h4 : W ≤ 4) : ∀ (f left a fuel : Nat), a ≤ W → W < a + f → W < a + fuel → left ≤ 100 → P_X7_pairBy_L4 N fuel S (nI left) (nI a) = some (pM (pby W f left a), S) := by
  intro f
  induction f with
  | zero => intro left a fuel h0 h1 h2 h3; omega
  | succ f ih =>
    intro left a fuel h0 h1 h2 h3
    obtain ⟨fuel, rfl⟩ : ∃ z, fuel = z + 1 := ⟨fuel - 1, by omega⟩
    rw [P_X7_pairBy_L4, pby]
    dsimp only
    rw [hW]
    by_cases c : W ≤ a
    · rw [if_pos (nI_le c (by omega)), if_pos c]; rfl
    · rw [if_neg (nI_ge (by omega) (by omega)), if_neg c, li1, pk_sub (by omega), pk_sub (by omega), bnd_eq]
      by_cases d : W - 1 - a ≤ left
      · rw [if_pos (nI_le d (by omega)), if_pos d, pk_sub d, bnd_eq, nI_add, bnd_eq]
        exact ih _ _ fuel (by omega) (by omega) (by omega) (by omega)
      · rw [if_neg (nI_ge (by omega) (by omega)), if_neg d, li10, pk_mul, nI_add, nI_add, nI_add]; rfl
theorem pby_prs : ∀ W, W < 5 → ∀ n, n < 7 → pby W 6 n 0 = ([1, 2, 3, 12, 13, 23].filter (fun p => decide (p % 10 < W)))[n]? := by decide
theorem m_pairBy {N n : Nat} {S : PSt} {t : Tau} (hN : 10 ≤ N) (hM : MRt S t) (ok : TOK t) (hn : n < 7) : P_X7_pairBy N S (nI n) = some (pM ((prs t)[n]?), S) := by
  have o := ok.1
  unfold P_X7_pairBy
  have e : pby (tW t) 6 n 0 = (prs t)[n]? := pby_prs (tW t) (by omega) n hn
  rw [li0, ← e]
  exact m_pby hM.1 o 6 n 0 N (by omega) (by omega) (by omega) (by omega)
theorem prs_mem {t : Tau} {p : Nat} (h : p ∈ prs t) : vpr t p := by
  unfold prs at h
  rw [List.mem_filter] at h
  obtain ⟨h1, h2⟩ := h
  have h3 : p % 10 < tW t := by simpa using h2
  refine ⟨?_, h3⟩
  simp only [List.mem_cons, List.not_mem_nil, or_false] at h1
  omega
theorem prs_len (t : Tau) : (prs t).length ≤ 6 := by
  unfold prs
  exact List.length_filter_le _ _
def okK (sn : List (Nat × Nat)) (i mi : Nat) : Nat → Bool
  | 0 => true
  | k + 1 => okK sn i mi k && (decide ((sn.getD k (0, 0)).1 ≠ i) || decide ((sn.getD k (0, 0)).2 = mi))
theorem okK_take (sn : List (Nat × Nat)) (i mi : Nat) : ∀ k, k ≤ sn.length → okK sn i mi k = (sn.take k).all (fun q => decide (q.1 ≠ i) || decide (q.2 = mi))
  | 0, _ => by rw [List.take_zero]; rfl
  | k + 1, h => by
    have e : sn[k]? = some (sn.getD k (0, 0)) := by
      rw [List.getD_eq_getElem?_getD, List.getElem?_eq_getElem (by omega)]; rfl
    rw [okK, okK_take sn i mi k (by omega), List.take_succ, e, List.all_append]
    simp
theorem okK_all (sn : List (Nat × Nat)) (i mi : Nat) : okK sn i mi sn.length = okSeen sn i mi := by
  rw [okK_take sn i mi _ (Nat.le_refl _), List.take_length]; rfl
def bI (b : Bool) : Int32 := if b = true then nI 1 else nI 0
theorem z1_bI (b : Bool) : z1 (bI b) = true := by cases b <;> decide
theorem m_asSeen {N i mi : Nat} {S : PSt} {sn : List (Nat × Nat)} (hl : sn.length ≤ 6) (h0 : gI S 711 158 = nI sn.length) (h1 : ∀ j, j < sn.length → gA S 165 (2 * j) = nI (sn.getD j (0, 0)).1) (h2 : ∀ j, j < sn.length → gA S 165 (2 * j + 1) = nI (sn.getD j (0, 0)).2) (b1 : ∀ j, j < sn.length → (sn.getD j (0, 0)).1 < 2 ^ 30 ∧ (sn.getD j (0, 0)).2 < 2 ^ 30) (hi : i < 2 ^ 30) (hmi : mi < 2 ^ 30) : ∀ (z k fuel : Nat), k + z = sn.length → z < fuel → P_X7_isAsSeen_L5 N fuel S (nI i) (nI mi) (bI (okK sn i mi k)) (nI k) = some (bI (okK sn i mi sn.length), S) := by
  intro z
  induction z with
  | zero =>
    intro k fuel hz hf
    obtain ⟨fuel, rfl⟩ : ∃ z, fuel = z + 1 := ⟨fuel - 1, by omega⟩
    rw [P_X7_isAsSeen_L5]
    dsimp only
    rw [h0, if_pos (nI_le (by omega) (by omega)), show k = sn.length by omega, z1_bI, gd_true]
  | succ z ih =>
    intro k fuel hz hf
    obtain ⟨fuel, rfl⟩ : ∃ z, fuel = z + 1 := ⟨fuel - 1, by omega⟩
    have e := ih (k + 1) fuel (by omega) (by omega)
    rw [P_X7_isAsSeen_L5]
    dsimp only
    rw [h0, if_neg (nI_ge (by omega) (by omega)), li0, li1, nI_add, bnd_eq]
    have hb := b1 k (by omega)
    cases c : okK sn i mi k with
    | false =>
      have e' : okK sn i mi (k + 1) = false := by rw [okK, c, Bool.false_and]
      rw [e'] at e
      rw [if_pos (by decide)]
      exact e
    | true =>
      rw [if_neg (by decide), li2, pk_mul, bin_nI (by omega), l165, gd_dec (by omega), nI_clamp (by omega), h1 k (by omega), nI_add, bin_nI (by omega), gd_dec (by omega), nI_clamp (by omega), h2 k (by omega)]
      by_cases d : (sn.getD k (0, 0)).1 = i
      · rw [if_pos (by rw [d])]
        by_cases d2 : (sn.getD k (0, 0)).2 = mi
        · have e' : okK sn i mi (k + 1) = true := by rw [okK, c, decide_eq_true d2]; simp
          rw [e'] at e
          rw [if_pos (by rw [d2])]
          unfold P_X7_isAsSeen_L46
          rw [li1, nI_add, bnd_eq]
          exact e
        · have e' : okK sn i mi (k + 1) = false := by rw [okK, c, decide_eq_false d2, decide_eq_false (fun h : (sn.getD k (0, 0)).1 ≠ i => h d)]; rfl
          rw [e'] at e
          rw [if_neg (by rw [nI_eq (by omega) (by omega)]; exact d2)]
          exact e
      · have e' : okK sn i mi (k + 1) = true := by rw [okK, c, decide_eq_true (show (sn.getD k (0, 0)).1 ≠ i from d)]; simp
        rw [e'] at e
        rw [if_neg (by rw [nI_eq (by omega) (by omega)]; exact d)]
        unfold P_X7_isAsSeen_L46
        rw [li1, nI_add, bnd_eq]
        exact e
/-- may one go down by this pair? 0 any, 1 nobody worn, 2 as seen -/
def gdB (t : Tau) (sn : List (Nat × Nat)) (b i : Nat) (q : Wk) (p : Nat) : Bool := if b = 0 then true else if b = 1 then !(wornP t q.2.2 p) else okSeen sn i (wk t i p q).1
/-- what was seen, as the reference has it -/
def MRs (S : PSt) (t : Tau) (sn : List (Nat × Nat)) : Prop := sn.length ≤ 6 ∧ gI S 711 158 = nI sn.length ∧ (∀ j, j < sn.length → gA S 165 (2 * j) = nI (sn.getD j (0, 0)).1) ∧ (∀ j, j < sn.length → gA S 165 (2 * j + 1) = nI (sn.getD j (0, 0)).2) ∧ ∀ j, j < sn.length → (sn.getD j (0, 0)).1 < tn t ∧ (sn.getD j (0, 0)).2 ≤ 9999
theorem m_goesDown {N d i p b : Nat} {S : PSt} {t : Tau} {sn : List (Nat × Nat)} {q : Wk} (hN : 20 ≤ N) (hM : MRt S t) (ok : TOK t) (hs : MRs S t sn) (hq : dep S d q) (hd : d ≤ 5) (hi : i < tn t) (hp : vpr t p) (hm : q.1 ≤ 100000) (ho : ∀ z, q.2.1 = some z → z < 100) (hb : b ≤ 2) : P_X7_goesDown N S (nI d) (nI i) (nI p) (nI b) = some (bI (gdB t sn b i q p), wS S d (wk t i p q) p) := by
  have on := ok.2.1
  have hp23 := vpr_lt ok hp
  have b1 := mins_le t ok (T := q.2.2) (p := p) hi
  have b2 := chg_le t ok (o := q.2.1) (p := p)
  have hT : ∀ w, w < 4 → q.2.2 w ≤ 99 := fun w hw => (hq.2.2 w hw).2
  have e1 : nI p / nI 10 = nI (p / 10) := pk_div (by omega) (by omega) (by omega)
  have e2 : nI p - nI (p / 10) * nI 10 = nI (p % 10) := by rw [← e1]; exact pk_rem (by omega) (by omega) (by omega)
  have w1 := m_isWorn (N := N) hM ok hq.2.2 (by omega) (w := p / 10) (by have := hp.1; have := hp.2; omega)
  have w2 := m_isWorn (N := N) hM ok hq.2.2 (by omega) (w := p % 10) hp.2
  have sc : scr S (wS S d (wk t i p q) p) := wS_scr
  have ds := wS_dep (S := S) (d := d) (p := p) (q := wk t i p q) rfl (fun w hw => tire_le w (hT w hw))
  have hwb : (wk t i p q).1 ≤ 100200 := by
    show q.1 + chg t _ p + mins t _ i p ≤ _
    omega
  have k29 : ∀ y : Nat, (y = 0 ∧ wornP t q.2.2 p = false ∨ y = 1 ∧ wornP t q.2.2 p = true) → P_X7_goesDown_L29 N S (nI d) (nI i) (nI p) (nI b) (nI y) = some (bI (gdB t sn b i q p), wS S d (wk t i p q) p) := by
    intro y hy
    unfold P_X7_goesDown_L29 gdB
    rw [m_walksOn (by omega) hM ok hq hd hi hp hm ho, cal1_s, li0]
    by_cases c0 : b = 0
    · rw [c0, if_pos rfl, if_pos rfl]; rfl
    · rw [if_neg (by rw [nI_eq (by omega) (by omega)]; exact c0), if_neg c0, li1]
      by_cases c1 : b = 1
      · rw [c1, if_pos rfl, if_pos rfl]
        rcases hy with ⟨rfl, h⟩ | ⟨rfl, h⟩
        · rw [if_pos rfl, h]; rfl
        · rw [if_neg n1_0, h]; rfl
      · rw [if_neg (by rw [nI_eq (by omega) (by omega)]; exact c1), if_neg c1, nI_add, bin_nI (by omega), l171, gd_dec (by omega), nI_clamp (by omega), ds.1]
        unfold P_X7_isAsSeen
        have e := m_asSeen (N := N) (S := wS S d (wk t i p q) p) (i := i) (mi := (wk t i p q).1) hs.1 (by rw [sc.1]; exact hs.2.1) (by rw [sc.2.2.2.2 165 (by omega) (by omega) (by omega)]; exact hs.2.2.1) (by rw [sc.2.2.2.2 165 (by omega) (by omega) (by omega)]; exact hs.2.2.2.1) (fun j hj => by have := hs.2.2.2.2 j hj; omega) (by omega) (by omega) sn.length 0 N (by omega) (by have := hs.1; omega)
        rw [li1, li0]
        have e' : P_X7_isAsSeen_L5 N N (wS S d (wk t i p q) p) (nI i) (nI (wk t i p q).1) (nI 1) (nI 0) = some (bI (okK sn i (wk t i p q).1 sn.length), wS S d (wk t i p q) p) := e
        rw [e', cal2_s, okK_all]
        cases okSeen sn i (wk t i p q).1
        · rw [if_pos (by decide)]; rfl
        · rw [if_neg (by decide)]; rfl
  unfold P_X7_goesDown
  simp only [li10, e1, e2]
  rw [w1, cal2_s, li0]
  have wd : wornP t q.2.2 p = decide (wornN t q.2.2 (p / 10) + wornN t q.2.2 (p % 10) ≠ 0) := rfl
  rcases Nat.le_one_iff_eq_zero_or_eq_one.mp (worn_le t q.2.2 (p / 10)) with x1 | x1
  · rw [x1, if_pos rfl, w2, cal2_s]
    rcases Nat.le_one_iff_eq_zero_or_eq_one.mp (worn_le t q.2.2 (p % 10)) with x2 | x2
    · rw [x2, if_pos rfl]
      exact k29 0 (Or.inl ⟨rfl, by rw [wd, x1, x2]; decide⟩)
    · rw [x2, if_neg n1_0]
      unfold P_X7_goesDown_L24
      rw [li1]
      exact k29 1 (Or.inr ⟨rfl, by rw [wd, x1, x2]; decide⟩)
  · rw [x1, if_neg n1_0]
    unfold P_X7_goesDown_L24
    rw [li1]
    exact k29 1 (Or.inr ⟨rfl, by rw [wd, x1]; exact decide_eq_true (by omega)⟩)
end
