section
/-! STAGE 2, calls: now, mark -/
def sumF (f : Nat → Nat) (a : Nat) : Nat → Nat
  | 0 => 0
  | n + 1 => sumF f a n + f (a + n)
theorem sumF_le {f : Nat → Nat} {a b : Nat} : ∀ {n : Nat}, (∀ i, i < n → f (a + i) ≤ b) → sumF f a n ≤ b * n
  | 0, _ => Nat.zero_le _
  | n + 1, h => by
    have h1 := sumF_le (f := f) (a := a) (b := b) (n := n) (fun i hi => h i (by omega))
    have h2 := h n (by omega)
    show sumF f a n + f (a + n) ≤ b * (n + 1)
    rw [Nat.mul_succ]
    omega
def wornB (t : Tau) (T : Nat → Nat) : Nat → Int32
  | 0 => nI 0
  | k + 1 => if wornN t T k = 0 then wornB t T k else wornB t T k ||| (nI 1 <<< (nI k &&& nI 31))
theorem nz_nI {n : Nat} (h0 : 0 < n) (h : n < 2 ^ 31) : nz (nI n) = true := by
  unfold nz
  rw [decide_eq_false (nI_ne0 h0 h)]
  rfl
def freeN (t : Tau) (mi : Nat) : Nat := if th t = 0 ∨ mi / th t % 2 = 0 then 1 else 0
theorem c_isFree {N r mi : Nat} {S : PSt} {t : Tau} (hR : CRt S r t) (ok : TOK t) (hm : mi < 2 ^ 30) : P_X4_isFree N S r (nI mi) = some (nI (freeN t mi), S) := by
  have oh := ok.2.2.2.2.1
  unfold P_X4_isFree freeN
  rw [hR.2.2.2.1, li0, li1, li2]
  by_cases c : th t = 0
  · rw [c, if_pos rfl, if_pos (Or.inl rfl)]
  · have hd : mi / th t < 2 ^ 30 := Nat.lt_of_le_of_lt (Nat.div_le_self _ _) hm
    rw [if_neg (by rw [nI_eq (by omega) (by omega)]; exact c), nz_nI (by omega) (by omega), gd_true, pk_div (by omega) (by omega) (by omega), pk_rem (by omega) (by omega) (by omega)]
    by_cases c2 : mi / th t % 2 = 0
    · rw [c2, if_pos rfl, if_pos (Or.inr rfl)]
    · rw [if_neg (by rw [nI_eq (by omega) (by omega)]; exact c2), if_neg (by intro h; rcases h with h | h; exact c h; exact c2 h)]
theorem m_isFree {N mi : Nat} {S : PSt} {t : Tau} (hM : MRt S t) (ok : TOK t) (hm : mi < 2 ^ 30) : P_X7_isFree N S (nI mi) = some (nI (freeN t mi), S) := by
  have oh := ok.2.2.2.2.1
  unfold P_X7_isFree freeN
  rw [hM.2.2.2.1, li0, li1, li2]
  by_cases c : th t = 0
  · rw [c, if_pos rfl, if_pos (Or.inl rfl)]
  · have hd : mi / th t < 2 ^ 30 := Nat.lt_of_le_of_lt (Nat.div_le_self _ _) hm
    rw [if_neg (by rw [nI_eq (by omega) (by omega)]; exact c), nz_nI (by omega) (by omega), gd_true, pk_div (by omega) (by omega) (by omega), pk_rem (by omega) (by omega) (by omega)]
    by_cases c2 : mi / th t % 2 = 0
    · rw [c2, if_pos rfl, if_pos (Or.inr rfl)]
    · rw [if_neg (by rw [nI_eq (by omega) (by omega)]; exact c2), if_neg (by intro h; rcases h with h | h; exact c h; exact c2 h)]
theorem c_wornBits {N a r : Nat} {S : PSt} {t : Tau} {m : Mom} (hka : kd a = 0) (hk : kd r = 4) (hm : CRm S a m) (hT : ∀ w, w < 4 → m.2.2.2 w ≤ 99) (hR : CRt S r t) (ok : TOK t) : ∀ (z k fuel : Nat), k + z = tW t → z < fuel → P_X0_wornBits_L4 N fuel S a r (wornB t m.2.2.2 k) (nI k) = some (wornB t m.2.2.2 (tW t), S) := by
  have oW := ok.1
  intro z
  induction z with
  | zero =>
    intro k fuel hz hf
    obtain ⟨fuel, rfl⟩ : ∃ z, fuel = z + 1 := ⟨fuel - 1, by omega⟩
    rw [P_X0_wornBits_L4]
    dsimp only
    rw [hR.1, if_pos (nI_le (by omega) (by omega)), show k = tW t by omega]
  | succ z ih =>
    intro k fuel hz hf
    obtain ⟨fuel, rfl⟩ : ∃ z, fuel = z + 1 := ⟨fuel - 1, by omega⟩
    rw [P_X0_wornBits_L4]
    dsimp only
    rw [hR.1, if_neg (nI_ge (by omega) (by omega)), c_isWorn hka hk hm hT hR ok (by omega), cal2_s, li0, li1, nI_add, bnd_eq, bnd_eq, bnd_eq]
    have e := ih (k + 1) fuel (by omega) (by omega)
    rw [wornB] at e
    rcases Nat.le_one_iff_eq_zero_or_eq_one.mp (worn_le t m.2.2.2 k) with w | w
    · rw [w, if_pos rfl] at e
      rw [w, if_pos rfl]
      exact e
    · rw [w, if_neg (by omega)] at e
      rw [w, if_neg n1_0]
      exact e
theorem m_nowW {N : Nat} {S : PSt} {t : Tau} {m : Mom} {x y : Int32} (hM : MRt S t) (hn : MRn S m) (hT : ∀ w, w < 4 → m.2.2.2 w ≤ 99) (ok : TOK t) : ∀ (z k fuel : Nat), k + z = tW t → z < fuel → P_X7_now_L7 N fuel S x (wornB t m.2.2.2 k) y (nI k) = P_X7_now_L64 N N S x (wornB t m.2.2.2 (tW t)) y (nI m.1) := by
  have oW := ok.1
  intro z
  induction z with
  | zero =>
    intro k fuel hz hf
    obtain ⟨fuel, rfl⟩ : ∃ z, fuel = z + 1 := ⟨fuel - 1, by omega⟩
    rw [P_X7_now_L7]
    dsimp only
    rw [hM.1, if_pos (nI_le (by omega) (by omega)), show k = tW t by omega, li0, nI_clamp (by omega), hn.1, bnd_eq]
  | succ z ih =>
    intro k fuel hz hf
    obtain ⟨fuel, rfl⟩ : ∃ z, fuel = z + 1 := ⟨fuel - 1, by omega⟩
    have oR := ok.2.2.2.2.2.1 k (by omega)
    have h9 := hT k (by omega)
    have e := ih (k + 1) fuel (by omega) (by omega)
    rw [wornB] at e
    rw [P_X7_now_L7]
    dsimp only
    rw [Int32.or_zero]
    rw [hM.1, if_neg (nI_ge (by omega) (by omega)), li3, li2, li1, nI_add, pk_mul, nI_add, nI_add, bin_nI (by omega), l161, gd_dec (by omega), bin_nI (by omega), l159, gd_dec (by omega), nI_clamp (by omega), nI_clamp (by omega), hn.2.2.2 k (by omega), hM.2.2.2.2.2.1 k (by omega), bnd_eq, bnd_eq, bnd_eq, bnd_eq]
    by_cases c : m.2.2.2 k ≤ tS t k
    · have w : wornN t m.2.2.2 k = 0 := by unfold wornN; rw [if_pos c]
      rw [w, if_pos rfl] at e
      rw [if_pos (nI_le c (by omega))]
      exact e
    · have w : wornN t m.2.2.2 k = 1 := by unfold wornN; rw [if_neg c]
      rw [w, if_neg (by omega)] at e
      rw [if_neg (nI_ge (by omega) (by omega))]
      exact e
/-- the reference's loop over the furlongs to come, and what is asked behind it -/
theorem m_nowF {N g : Nat} {S : PSt} {t : Tau} {x y : Int32} (hM : MRt S t) (ok : TOK t) : ∀ (z k fuel : Nat), g + k + z = tn t → ∃ fuel', P_X7_now_L64 N (fuel + z + 1) S x y (nI (sumF (tL t) g k)) (nI (g + k)) = P_X7_now_L64 N (fuel' + 1) S x y (nI (sumF (tL t) g (k + z))) (nI (tn t)) := by
  have on := ok.2.1
  intro z
  induction z with
  | zero =>
    intro k fuel hz
    refine ⟨fuel, ?_⟩
    rw [show g + k = tn t by omega]
    rfl
  | succ z ih =>
    intro k fuel hz
    obtain ⟨f', e⟩ := ih (k + 1) fuel (by omega)
    refine ⟨f', ?_⟩
    rw [show fuel + (z + 1) + 1 = (fuel + z + 1) + 1 by omega, P_X7_now_L64]
    dsimp only
    rw [hM.2.1, if_neg (nI_ge (by omega) (by omega)), li4, pk_mul, bin_nI (by omega), l160, gd_dec (by omega), nI_clamp (by omega), hM.2.2.2.2.2.2.1 (g + k) (by omega), nI_add, bnd_eq, li1, nI_add, bnd_eq]
    rw [show k + (z + 1) = k + 1 + z by omega]
    exact e
theorem c_furl {N r : Nat} {S : PSt} {t : Tau} (hk : kd r = 4) (hR : CRt S r t) (ok : TOK t) {g b : Nat} (hb : b ≤ tn t) : ∀ (z k fuel : Nat), g + k + z = b → z < fuel → P_X4_furlongs_L9 N fuel S r (nI b) (nI (sumF (tL t) g k)) (nI (g + k)) = some (nI (sumF (tL t) g (k + z)), S) := by
  have on := ok.2.1
  intro z
  induction z with
  | zero =>
    intro k fuel hz hf
    obtain ⟨fuel, rfl⟩ : ∃ z, fuel = z + 1 := ⟨fuel - 1, by omega⟩
    rw [P_X4_furlongs_L9]
    dsimp only
    rw [if_pos (nI_le (by omega) (by omega))]
    rfl
  | succ z ih =>
    intro k fuel hz hf
    obtain ⟨fuel, rfl⟩ : ∃ z, fuel = z + 1 := ⟨fuel - 1, by omega⟩
    rw [P_X4_furlongs_L9]
    dsimp only
    rw [if_neg (nI_ge (by omega) (by omega)), hR.2.1, if_neg (nI_ge (by omega) (by omega)), bin_nI (by omega), lt3 hk, gd_dec (by omega), nI_clamp (by omega), hR.2.2.2.2.2.2.1 (g + k) (by omega), nI_add, bnd_eq, li1, nI_add, bnd_eq]
    have e := ih (k + 1) fuel (by omega) (by omega)
    rw [show k + (z + 1) = k + 1 + z by omega]
    exact e
theorem c_furlongs {N r : Nat} {S : PSt} {t : Tau} (hN : 10 ≤ N) (hk : kd r = 4) (hR : CRt S r t) (ok : TOK t) {g b : Nat} (hg : g ≤ b) (hb : b ≤ tn t) : P_X4_furlongs N S r (nI g) (nI b) = some (nI (sumF (tL t) g (b - g)), S) := by
  have on := ok.2.1
  unfold P_X4_furlongs
  rw [li0, if_neg (nI_nlt (by omega) (by omega)), bnd_eq]
  have := c_furl (N := N) hk hR ok (g := g) hb (b - g) 0 N (by omega) (by omega)
  rw [Nat.zero_add] at this
  exact this
theorem step_now {N : Nat} {S : PSt} (hN : 100 ≤ N) (x : Int32) (h : Inv S) : ∃ r S1 S2, P_X6_now N S x = some (r, S1) ∧ P_X7_now N S1 x = some (r, S2) ∧ Inv S2 := by
  obtain ⟨q, ok, hc, hm⟩ := h
  obtain ⟨r, d, hrd, hr, hd, hT, hp, -, -⟩ := hc.1
  obtain ⟨hk, -, hkr, -⟩ := isk4 hrd
  have o1 := ok.1
  have on := o1.2.1
  have om := ok.2.1
  have og := om.1
  have ob := om.2.1
  have oT := om.2.2.2.2.1
  have e0 : gI S 0 25 = nI (qm q).1 := hc.2.1.1.1.1
  have e1 : gI S 1 25 = nI (qm q).2.1 := hc.2.1.1.1.2.1
  have e2 : gI S 2 25 = pI (qm q).2.2.1 := hc.2.1.1.1.2.2.1
  suffices hh : ∃ r, P_X6_now N S x = some (r, S) ∧ P_X7_now N S x = some (r, S) by
    obtain ⟨r, h1, h2⟩ := hh
    exact ⟨r, S, S, h1, h2, q, ok, hc, hm⟩
  have eM : ∃ f, P_X7_now N S x = P_X7_now_L64 N (f + 1) S x (wornB (qt q) (qm q).2.2.2 (tW (qt q))) (nI (sumF (tL (qt q)) (qm q).1 (tn (qt q) - (qm q).1))) (nI (tn (qt q))) := by
    have oW := o1.1
    unfold P_X7_now
    rw [li0]
    have a1 := m_nowW (N := N) (x := x) (y := nI 0) hm.1 hm.2.1 oT o1 (tW (qt q)) 0 N (by omega) (by omega)
    rw [wornB] at a1
    rw [a1]
    obtain ⟨f', a2⟩ := m_nowF (N := N) (g := (qm q).1) (x := x) (y := wornB (qt q) (qm q).2.2.2 (tW (qt q))) hm.1 o1 (tn (qt q) - (qm q).1) 0 (N - (tn (qt q) - (qm q).1) - 1) (by omega)
    refine ⟨f', ?_⟩
    rw [Nat.zero_add, show N - (tn (qt q) - (qm q).1) - 1 + (tn (qt q) - (qm q).1) + 1 = N by omega] at a2
    exact a2
  obtain ⟨f, eM⟩ := eM
  rw [eM, P_X7_now_L64]
  dsimp only
  rw [hm.1.2.1, if_pos (nI_le (Nat.le_refl _) (by omega))]
  unfold P_X6_now
  simp only [bnd_eq, hr, hk, gd_true]
  by_cases c0 : x = 0
  · subst c0
    exact ⟨_, by rw [if_pos rfl], by rw [if_pos rfl, li0, bin_nI (by omega), l161, gd_dec (by omega), nI_clamp (by omega), hm.2.1.1, e0]⟩
  · simp only [if_neg c0]
    by_cases c1 : x = 1
    · subst c1
      exact ⟨_, by rw [if_pos rfl], by rw [if_pos rfl, li1, bin_nI (by omega), l161, gd_dec (by omega), nI_clamp (by omega), hm.2.1.2.1, e1]⟩
    · simp only [if_neg c1]
      by_cases c2 : x = 2
      · subst c2
        exact ⟨_, by rw [if_pos rfl], by rw [if_pos rfl, li2, bin_nI (by omega), l161, gd_dec (by omega), nI_clamp (by omega), hm.2.1.2.2.1, e2]⟩
      · simp only [if_neg c2]
        by_cases c3 : x = 3
        · subst c3
          refine ⟨_, ?_, by rw [if_pos rfl]⟩
          rw [if_pos rfl]
          unfold P_X0_wornBits
          have oW := o1.1
          have a := c_wornBits (N := N) (a := 25) (by rfl) hkr hc.2.1.1.1 oT hT o1 (tW (qt q)) 0 N (by omega) (by omega)
          rw [wornB] at a
          rw [li0, a, cal2_s]
        · simp only [if_neg c3]
          by_cases c4 : x = 4
          · subst c4
            refine ⟨nI (freeN (qt q) (qm q).2.1), ?_, ?_⟩
            · rw [if_pos rfl, e1, c_isFree hT o1 (by omega), cal2_s]
              unfold freeN
              split
              · rw [li0, if_neg n1_0, li1]
              · rw [li0, if_pos rfl]
            · rw [if_pos rfl, li1, nI_clamp (by omega), hm.2.1.2.1, m_isFree hm.1 o1 (by omega), cal2_s]
              unfold freeN
              split
              · rw [li0, if_neg n1_0]
              · rw [li0, if_pos rfl]
          · simp only [if_neg c4]
            by_cases c5 : x = 5
            · subst c5
              refine ⟨_, ?_, by rw [if_pos rfl]⟩
              rw [if_pos rfl, e0, hT.2.1, c_furlongs (by omega) hkr hT o1 og (Nat.le_refl _), cal2_s]
            · simp only [if_neg c5]
              by_cases c6 : x = 6
              · subst c6
                rw [if_pos rfl, if_pos rfl, e0, hT.2.1, li0, nI_clamp (by omega), hm.2.1.1]
                by_cases c : (qm q).1 = tn (qt q)
                · exact ⟨1, by rw [c, if_neg (nI_nlt (by omega) (by omega))], by rw [c, if_pos rfl]⟩
                · exact ⟨nI 0, by rw [if_pos (nI_lt (by omega) (by omega))], by rw [if_neg (by rw [nI_eq (by omega) (by omega)]; exact c)]⟩
              · simp only [if_neg c6]
                exact ⟨_, rfl, rfl⟩
end
