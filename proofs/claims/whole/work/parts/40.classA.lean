/-! STAGE 2, the class's leaves: Moment and Tunnel -/
theorem lm1 {a : Nat} (h : kd a = 0) : ln (a + 1) = 4 := (show ∀ a, a < NR → kd a = 0 → ln (a + 1) = 4 by decide +kernel) a (kd_lt (by omega)) h
theorem lt1 {a : Nat} (h : kd a = 4) : ln (a + 1) = 4 := (show ∀ a, a < NR → kd a = 4 → ln (a + 1) = 4 by decide +kernel) a (kd_lt (by omega)) h
theorem lt2 {a : Nat} (h : kd a = 4) : ln (a + 2) = 4 := (show ∀ a, a < NR → kd a = 4 → ln (a + 2) = 4 by decide +kernel) a (kd_lt (by omega)) h
theorem lt3 {a : Nat} (h : kd a = 4) : ln (a + 3) = 6 := (show ∀ a, a < NR → kd a = 4 → ln (a + 3) = 6 by decide +kernel) a (kd_lt (by omega)) h
theorem lt4 {a : Nat} (h : kd a = 4) : ln (a + 4) = 6 := (show ∀ a, a < NR → kd a = 4 → ln (a + 4) = 6 by decide +kernel) a (kd_lt (by omega)) h
theorem lt5 {a : Nat} (h : kd a = 4) : ln (a + 5) = 6 := (show ∀ a, a < NR → kd a = 4 → ln (a + 5) = 6 by decide +kernel) a (kd_lt (by omega)) h
theorem lt6 {a : Nat} (h : kd a = 4) : ln (a + 6) = 6 := (show ∀ a, a < NR → kd a = 4 → ln (a + 6) = 6 by decide +kernel) a (kd_lt (by omega)) h
theorem lt7 {a : Nat} (h : kd a = 4) : ln (a + 7) = 6 := (show ∀ a, a < NR → kd a = 4 → ln (a + 7) = 6 by decide +kernel) a (kd_lt (by omega)) h
theorem lt8 {a : Nat} (h : kd a = 4) : ln (a + 8) = 7 := (show ∀ a, a < NR → kd a = 4 → ln (a + 8) = 7 by decide +kernel) a (kd_lt (by omega)) h
theorem lt9 {a : Nat} (h : kd a = 4) : ln (a + 9) = 7 := (show ∀ a, a < NR → kd a = 4 → ln (a + 9) = 7 by decide +kernel) a (kd_lt (by omega)) h

theorem c_unwornRate {N : Nat} {S : PSt} {t : Tau} {r i p : Nat} (hk : kd r = 4) (hR : CRt S r t) (ok : TOK t) (hi : i < tn t) (hp : vpr t p) : P_X4_unwornRate N S r (nI i) (nI p) = some (nI (rate t i p), S) := by
  obtain ⟨-, -, -, -, h1, h2, h3, h4, h5, h6⟩ := hR
  obtain ⟨oW, on, -, -, -, oR, oT⟩ := ok
  obtain ⟨p1, p2⟩ := hp
  have r1 := oR (p / 10) (by omega)
  have r2 := oR (p % 10) p2
  have t1 := oT i hi
  have e1 : nI p / nI 10 = nI (p / 10) := pk_div (by omega) (by omega) (by omega)
  have e2 : nI p - nI (p / 10) * nI 10 = nI (p % 10) := by rw [← e1]; exact pk_rem (by omega) (by omega) (by omega)
  have k43 : ∀ y : Nat, y ≤ 10 → P_X4_unwornRate_L43 N S r (nI i) (nI (tR t (p / 10) + tR t (p % 10))) (nI y) = some (nI (y + (if tB t i + 4 < tR t (p / 10) + tR t (p % 10) then 1 else 0)), S) := by
    intro y hy
    unfold P_X4_unwornRate_L43
    simp (disch := omega) only [lt4 hk, bin_nI, nI_clamp]
    rw [decide_eq_true (by omega : i < 6), gd_true, h4 i hi]
    by_cases hc : tB t i + 4 < tR t (p / 10) + tR t (p % 10)
    · rw [if_pos hc, if_neg (by rw [li4, pk_sub (by omega), nI_leI (by omega) (by omega)]; omega), bnd_eq, li1, nI_add]
    · rw [if_neg hc, if_pos (by rw [Int32.le_iff_toInt_le, li4, pk_sub_toInt (by omega) (by omega), nI_toInt (by omega)]; omega)]
      rfl
  unfold P_X4_unwornRate
  simp only [li10, e1, e2]
  simp (disch := omega) only [li0, li1, li2, li3, li4, li5, li6, li7, li8, li9, li10, li12, li13, li15, li18, li20, li23, li24, li31, li32, li40, li48, li49, li57, li59, li64, li70, li78, li97, li99, li100, li104, li116, li119, li122, li200, li255, li9999, lt1 hk, lt4 hk, lt5 hk, nI_add, pk_mul, nI_clamp, bin_nI, nI_ltI, nI_leI, nI_eq]
  rw [decide_eq_true (by omega : p / 10 < 4), decide_eq_true (by omega : p % 10 < 4), decide_eq_true (by omega : i < 6)]
  simp only [gd_true, bnd_eq]
  rw [h1 (p / 10) (by omega), h1 (p % 10) p2, h5 i hi, h4 i hi]
  simp (disch := omega) only [nI_add, nI_leI]
  unfold rate
  by_cases hc : tR t (p / 10) + tR t (p % 10) < tB t i
  · rw [if_neg (by omega), if_pos hc]
    exact k43 _ (by omega)
  · rw [if_pos (by omega), if_neg hc]
    exact k43 _ (by omega)
theorem c_wornOf {N : Nat} {S : PSt} {t : Tau} {a r p : Nat} {m : Mom} (hka : kd a = 0) (hk : kd r = 4) (hm : CRm S a m) (hT : ∀ w, w < 4 → m.2.2.2 w ≤ 99) (hR : CRt S r t) (ok : TOK t) (hp : vpr t p) : P_X0_wornOf N S a r (nI p) = some (nI (wornN t m.2.2.2 (p / 10) + wornN t m.2.2.2 (p % 10)), S) := by
  obtain ⟨-, -, -, -, -, h2, -⟩ := hR
  obtain ⟨oW, on, -, -, -, oR, oT⟩ := ok
  obtain ⟨p1, p2⟩ := hp
  have r1 := oR (p / 10) (by omega)
  have r2 := oR (p % 10) p2
  have q1 := hT (p / 10) (by omega)
  have q2 := hT (p % 10) (by omega)
  have e1 : nI p / nI 10 = nI (p / 10) := pk_div (by omega) (by omega) (by omega)
  have e2 : nI p - nI (p / 10) * nI 10 = nI (p % 10) := by rw [← e1]; exact pk_rem (by omega) (by omega) (by omega)
  have k31 : ∀ y : Nat, y ≤ 1 → P_X0_wornOf_L31 N S a r (nI (p % 10)) (nI y) = some (nI (y + wornN t m.2.2.2 (p % 10)), S) := by
    intro y hy
    unfold P_X0_wornOf_L31
    simp (disch := omega) only [lm1 hka, lt2 hk, bin_nI, nI_clamp]
    rw [decide_eq_true (by omega : p % 10 < 4), gd_true, gd_true, hm.2.2.2 _ (by omega), h2 _ p2]
    unfold wornN
    by_cases hc : m.2.2.2 (p % 10) ≤ tS t (p % 10)
    · rw [if_pos hc, if_pos (nI_le hc (by omega)), li0, nI_add]
    · rw [if_neg hc, if_neg (nI_ge (by omega) (by omega)), li1, nI_add]
  unfold P_X0_wornOf
  simp only [li10, e1, e2, bnd_eq]
  simp (disch := omega) only [lm1 hka, lt2 hk, bin_nI, nI_clamp]
  rw [decide_eq_true (by omega : p / 10 < 4), gd_true, gd_true, hm.2.2.2 _ (by omega), h2 _ (by omega)]
  by_cases hc : m.2.2.2 (p / 10) ≤ tS t (p / 10)
  · rw [if_pos (nI_le hc (by omega)), li0, k31 0 (by omega)]
    have : wornN t m.2.2.2 (p / 10) = 0 := by unfold wornN; rw [if_pos hc]
    rw [this]
  · rw [if_neg (nI_ge (by omega) (by omega)), li1, k31 1 (by omega)]
    have : wornN t m.2.2.2 (p / 10) = 1 := by unfold wornN; rw [if_neg hc]
    rw [this]
theorem c_minutesOn {N : Nat} {S : PSt} {t : Tau} {a r i p : Nat} {m : Mom} (hka : kd a = 0) (hk : kd r = 4) (hm : CRm S a m) (hT : ∀ w, w < 4 → m.2.2.2 w ≤ 99) (hR : CRt S r t) (ok : TOK t) (hi : i < tn t) (hp : vpr t p) : P_X0_minutesOn N S a r (nI i) (nI p) = some (nI (mins t m.2.2.2 i p), S) := by
  have on := ok.2.1
  unfold P_X0_minutesOn
  simp (disch := omega) only [lt3 hk, bin_nI, nI_clamp]
  rw [decide_eq_true (by omega : i < 6), gd_true, c_unwornRate hk hR ok hi hp, cal2_s, c_wornOf hka hk hm hT hR ok hp, cal2_s, hR.2.2.2.2.2.2.1 i hi, li3, pk_mul, nI_add, pk_mul]
  rfl
theorem c_minutesToWalk {N : Nat} {S : PSt} {t : Tau} {a r p : Nat} {m : Mom} (hka : kd a = 0) (hk : kd r = 4) (hm : CRm S a m) (hT : ∀ w, w < 4 → m.2.2.2 w ≤ 99) (ho : ∀ z, m.2.2.1 = some z → z < 100) (hR : CRt S r t) (ok : TOK t) (hi : m.1 < tn t) (hp : vpr t p) : P_X0_minutesToWalk N S a r (nI p) = some (nI (chg t m.2.2.1 p + mins t m.2.2.2 m.1 p), S) := by
  have hp1 : p < 100 := by obtain ⟨x, y⟩ := hp; have := ok.1; omega
  unfold P_X0_minutesToWalk
  rw [hm.1, c_minutesOn hka hk hm hT hR ok hi hp, cal2_s, hm.2.2.1, hR.2.2.1]
  unfold chg
  cases h : m.2.2.1 with
  | none =>
    rw [if_pos (show pI none = -9 from rfl), if_pos (Or.inl rfl), Nat.zero_add]
  | some z =>
    have hz := ho z h
    rw [if_neg (by show ¬ nI z = -9; rw [nI_m9 (by omega)]; exact id)]
    by_cases c : z = p
    · subst c
      rw [if_pos (show pI (some z) = nI z from rfl), if_pos (Or.inr rfl), Nat.zero_add]
    · rw [if_neg (by show ¬ nI z = nI p; rw [nI_eq (by omega) (by omega)]; exact c), if_neg (by
        intro h
        rcases h with h | h
        · cases h
        · exact c (Option.some.inj h)), nI_add, Nat.add_comm]
/-- the four cells of a moment's tired -/
def putT (S : PSt) (b : Nat) (U : Nat → Nat) : PSt := sA (sA (sA (sA S b 0 (nI (U 0))) b 1 (nI (U 1))) b 2 (nI (U 2))) b 3 (nI (U 3))
theorem putT_at {S : PSt} {b w : Nat} {U : Nat → Nat} (hw : w < 4) : gA (putT S b U) b w = nI (U w) := by
  unfold putT
  simp only [gA_sA, if_true, upd]
  rcases (show w = 0 ∨ w = 1 ∨ w = 2 ∨ w = 3 by omega) with q | q | q | q <;> subst q <;> rfl
theorem putT_ne {S : PSt} {b a : Nat} {U : Nat → Nat} (h : a ≠ b) : gA (putT S b U) a = gA S a := by
  unfold putT
  simp only [gA_sA, if_neg h]
theorem min99 {a : Nat} (h : a < 2 ^ 30) : (if nI 99 < nI a then nI 99 else nI a) = nI (min a 99) := by
  by_cases c : a ≤ 99
  · rw [if_neg (nI_nlt (by omega) (by omega)), Nat.min_eq_left c]
  · rw [if_pos (nI_lt (by omega) (by omega)), Nat.min_eq_right (by omega)]
theorem max0 {a b : Nat} (ha : a < 2 ^ 30) (hb : b < 2 ^ 30) : (if nI a - nI b < nI 0 then nI 0 else nI a - nI b) = nI (a - b) := by
  by_cases c : b ≤ a
  · rw [pk_sub c, if_neg (nI_nlt (by omega) (by omega))]
  · rw [if_pos (by rw [← li0]; exact pk_sneg hb (by omega)), show a - b = 0 by omega]
theorem c_tire {N : Nat} {S : PSt} {a p f : Nat} {T : Nat → Nat} (hN : 5 ≤ N) (hka : kd a = 0) (hT : ∀ w, w < 4 → gA S (a + 1) w = nI (T w)) (hb : ∀ w, w < 4 → T w ≤ 99) (hf : f ≤ 99) (hp : p < 100) : P_X0_tire N S a (nI p) (nI f) = some (putT S (a + 1) (tireF p f T)) := by
  obtain ⟨n, rfl⟩ : ∃ n, N = n + 5 := ⟨N - 5, by omega⟩
  have e1 : nI p / nI 10 = nI (p / 10) := pk_div (by omega) (by omega) (by omega)
  have e2 : nI p - nI (p / 10) * nI 10 = nI (p % 10) := by rw [← e1]; exact pk_rem (by omega) (by omega) (by omega)
  have step : ∀ (k : Nat) (S : PSt) (w : Nat), w < 4 → gA S (a + 1) w = nI (T w) → P_X0_tire_L2 (n + 5) (k + 1) S a (nI p) (nI f) (nI w) = P_X0_tire_L2 (n + 5) k (sA S (a + 1) w (nI (tireF p f T w))) a (nI p) (nI f) (nI (w + 1)) := by
    intro k S w hw hTw
    have h9 := hb w hw
    have k23 : P_X0_tire_L23 (P_X0_tire_L2 (n + 5) k) (n + 5) S a (nI p) (nI f) (nI w) = P_X0_tire_L2 (n + 5) k (sA S (a + 1) w (nI (min (T w + f) 99))) a (nI p) (nI f) (nI (w + 1)) := by
      unfold P_X0_tire_L23
      simp (disch := omega) only [lm1 hka, bin_nI, nI_clamp]
      rw [decide_eq_true hw, gd_true, gd_true, hTw, nI_add, li99, min99 (by omega), bnd_eq, bnd_eq, li1, nI_add]
    rw [P_X0_tire_L2]
    dsimp only
    simp only [li10, e1, e2]
    rw [if_neg (by rw [li4]; exact nI_ge (by omega) (by omega))]
    unfold tireF
    by_cases c1 : w = p / 10
    · rw [if_pos (by rw [c1]), if_pos (Or.inl c1)]
      exact k23
    · rw [if_neg (by rw [nI_eq (by omega) (by omega)]; exact c1)]
      by_cases c2 : w = p % 10
      · rw [if_pos (by rw [c2]), if_pos (Or.inr c2)]
        exact k23
      · rw [if_neg (by rw [nI_eq (by omega) (by omega)]; exact c2), if_neg (show ¬ (w = p / 10 ∨ w = p % 10) by omega)]
        simp (disch := omega) only [lm1 hka, bin_nI, nI_clamp]
        rw [decide_eq_true hw, gd_true, gd_true, hTw, li0, max0 (by omega) (by omega), bnd_eq, bnd_eq, li1, nI_add]
  have g : ∀ (S : PSt) (j v : Nat) (x : Int32), v ≠ j → gA (sA S (a + 1) j x) (a + 1) v = gA S (a + 1) v := by
    intro S j v x hv
    rw [gA_sA, if_pos rfl]
    unfold upd
    rw [if_neg hv]
  unfold P_X0_tire
  rw [li0, step _ _ 0 (by omega) (hT 0 (by omega)), step _ _ 1 (by omega) (by rw [g _ _ _ _ (by omega)]; exact hT 1 (by omega)), step _ _ 2 (by omega) (by rw [g _ _ _ _ (by omega), g _ _ _ _ (by omega)]; exact hT 2 (by omega)), step _ _ 3 (by omega) (by rw [g _ _ _ _ (by omega), g _ _ _ _ (by omega), g _ _ _ _ (by omega)]; exact hT 3 (by omega)), P_X0_tire_L2]
  dsimp only
  rw [if_pos (by rw [li4]; exact nI_le (by omega) (by omega))]
  rfl
theorem c_ease {N : Nat} {S : PSt} {a f : Nat} {T : Nat → Nat} (hN : 5 ≤ N) (hka : kd a = 0) (hT : ∀ w, w < 4 → gA S (a + 1) w = nI (T w)) (hb : ∀ w, w < 4 → T w ≤ 99) (hf : f ≤ 99) : P_X0_ease N S a (nI f) = some (putT S (a + 1) (easeF f T)) := by
  obtain ⟨n, rfl⟩ : ∃ n, N = n + 5 := ⟨N - 5, by omega⟩
  have step : ∀ (k : Nat) (S : PSt) (w : Nat), w < 4 → gA S (a + 1) w = nI (T w) → P_X0_ease_L2 (n + 5) (k + 1) S a (nI f) (nI w) = P_X0_ease_L2 (n + 5) k (sA S (a + 1) w (nI (easeF f T w))) a (nI f) (nI (w + 1)) := by
    intro k S w hw hTw
    have h9 := hb w hw
    rw [P_X0_ease_L2]
    dsimp only
    rw [if_neg (by rw [li4]; exact nI_ge (by omega) (by omega))]
    simp (disch := omega) only [lm1 hka, bin_nI, nI_clamp]
    rw [decide_eq_true hw, gd_true, gd_true, hTw, li0, max0 (by omega) (by omega), bnd_eq, bnd_eq, li1, nI_add]
    rfl
  have g : ∀ (S : PSt) (j v : Nat) (x : Int32), v ≠ j → gA (sA S (a + 1) j x) (a + 1) v = gA S (a + 1) v := by
    intro S j v x hv
    rw [gA_sA, if_pos rfl]
    unfold upd
    rw [if_neg hv]
  unfold P_X0_ease
  rw [li0, step _ _ 0 (by omega) (hT 0 (by omega)), step _ _ 1 (by omega) (by rw [g _ _ _ _ (by omega)]; exact hT 1 (by omega)), step _ _ 2 (by omega) (by rw [g _ _ _ _ (by omega), g _ _ _ _ (by omega)]; exact hT 2 (by omega)), step _ _ 3 (by omega) (by rw [g _ _ _ _ (by omega), g _ _ _ _ (by omega), g _ _ _ _ (by omega)]; exact hT 3 (by omega)), P_X0_ease_L2]
  dsimp only
  rw [if_pos (by rw [li4]; exact nI_le (by omega) (by omega))]
  rfl
/-- moment a becomes what moment b is -/
def cpS (S : PSt) (a : Nat) (m : Mom) : PSt := putT (sI (sI (sI S 0 a (nI m.1)) 1 a (nI m.2.1)) 2 a (pI m.2.2.1)) (a + 1) m.2.2.2
theorem c_copy {N : Nat} {S : PSt} {a b : Nat} {m : Mom} (hN : 5 ≤ N) (hka : kd a = 0) (hkb : kd b = 0) (hab : a ≠ b) (hm : CRm S b m) : P_X0_copy N S a b = some (cpS S a m) := by
  obtain ⟨n, rfl⟩ : ∃ n, N = n + 5 := ⟨N - 5, by omega⟩
  have hT := hm.2.2.2
  have step : ∀ (k : Nat) (S : PSt) (w : Nat), w < 4 → gA S (b + 1) w = nI (m.2.2.2 w) → P_X0_copy_L26 (n + 5) (k + 1) S a b (nI w) = P_X0_copy_L26 (n + 5) k (sA S (a + 1) w (nI (m.2.2.2 w))) a b (nI (w + 1)) := by
    intro k S w hw hTw
    rw [P_X0_copy_L26]
    dsimp only
    rw [if_neg (by rw [li4]; exact nI_ge (by omega) (by omega))]
    simp (disch := omega) only [lm1 hka, lm1 hkb, bin_nI, nI_clamp]
    rw [decide_eq_true hw, gd_true, gd_true, hTw, bnd_eq, bnd_eq, li1, nI_add]
  have g : ∀ (S : PSt) (j v : Nat) (x : Int32), gA (sA S (a + 1) j x) (b + 1) v = gA S (b + 1) v := by
    intro S j v x
    rw [gA_sA, if_neg (by omega)]
  have hba : b ≠ a := Ne.symm hab
  unfold P_X0_copy
  simp only [bnd_eq, gI_sI, hba, and_false, if_false]
  rw [hm.1, hm.2.1, hm.2.2.1]
  rw [li0, step _ _ 0 (by omega) (by simp only [gA_sI]; exact hT 0 (by omega)), step _ _ 1 (by omega) (by rw [g]; exact hT 1 (by omega)), step _ _ 2 (by omega) (by rw [g, g]; exact hT 2 (by omega)), step _ _ 3 (by omega) (by rw [g, g, g]; exact hT 3 (by omega)), P_X0_copy_L26]
  dsimp only
  rw [if_pos (by rw [li4]; exact nI_le (by omega) (by omega))]
  rfl
theorem c_begin {N : Nat} {S : PSt} {a : Nat} (hN : 5 ≤ N) (hka : kd a = 0) : P_X0_begin N S a = some (cpS S a (0, 0, none, fun _ => 0)) := by
  obtain ⟨n, rfl⟩ : ∃ n, N = n + 5 := ⟨N - 5, by omega⟩
  have step : ∀ (k : Nat) (S : PSt) (w : Nat), w < 4 → P_X0_begin_L18 (n + 5) (k + 1) S a (nI w) = P_X0_begin_L18 (n + 5) k (sA S (a + 1) w (nI 0)) a (nI (w + 1)) := by
    intro k S w hw
    rw [P_X0_begin_L18]
    dsimp only
    rw [if_neg (by rw [li4]; exact nI_ge (by omega) (by omega))]
    simp (disch := omega) only [lm1 hka, bin_nI, nI_clamp]
    rw [decide_eq_true hw, gd_true, bnd_eq, bnd_eq, li1, nI_add, li0]
  unfold P_X0_begin
  simp only [bnd_eq]
  rw [li0, step _ _ 0 (by omega), step _ _ 1 (by omega), step _ _ 2 (by omega), step _ _ 3 (by omega), P_X0_begin_L18]
  dsimp only
  rw [if_pos (by rw [li4]; exact nI_le (by omega) (by omega))]
  rfl
theorem cpS_at {S : PSt} {a : Nat} {m : Mom} : CRm (cpS S a m) a m := by
  refine ⟨?_, ?_, ?_, fun w hw => putT_at hw⟩ <;> simp [cpS, putT, gI_sI, gI_sA]
/-- the moment behind a stretch that was walked -/
def wkM (t : Tau) (p till : Nat) (m : Mom) : Mom := (m.1 + 1, till, some p, tireF p (tL t m.1) m.2.2.2)
def woS (S : PSt) (a : Nat) (m : Mom) : PSt := sI (sI (putT (sI S 1 a (nI m.2.1)) (a + 1) m.2.2.2) 2 a (pI m.2.2.1)) 0 a (nI m.1)
theorem c_walkOn {N : Nat} {S : PSt} {t : Tau} {a r p till : Nat} {m : Mom} (hN : 5 ≤ N) (hka : kd a = 0) (hk : kd r = 4) (har : a ≠ r ∧ a + 1 ≠ r + 3) (hm : CRm S a m) (hT : ∀ w, w < 4 → m.2.2.2 w ≤ 99) (hR : CRt S r t) (ok : TOK t) (hi : m.1 < tn t) (hp : p < 100) : P_X0_walkOn N S a r (nI p) (nI till) = some (woS S a (wkM t p till m)) := by
  have on := ok.2.1
  have oi := ok.2.2.2.2.2.2 m.1 hi
  unfold P_X0_walkOn
  rw [hR.2.1, hm.1, if_neg (nI_ge hi (by omega)), bnd_eq]
  have e0 : gI (sI S 1 a (nI till)) 0 a = nI m.1 := by rw [gI_sI, if_neg (by omega)]; exact hm.1
  rw [e0]
  simp (disch := omega) only [lt3 hk, bin_nI, nI_clamp, gA_sI]
  rw [decide_eq_true (by omega : m.1 < 6), gd_true, hR.2.2.2.2.2.2.1 m.1 hi, c_tire hN hka (S := sI S 1 a (nI till)) (T := m.2.2.2) (fun w hw => hm.2.2.2 w hw) hT (by omega) hp, cal1_s, bnd_eq, bnd_eq]
  have e1 : gI (sI (putT (sI S 1 a (nI till)) (a + 1) (tireF p (tL t m.1) m.2.2.2)) 2 a (nI p)) 0 a = nI m.1 := by
    rw [gI_sI, if_neg (by omega)]
    exact e0
  rw [e1, li1, nI_add]
  rfl
theorem woS_at {S : PSt} {a : Nat} {m : Mom} : CRm (woS S a m) a m := by
  refine ⟨?_, ?_, ?_, fun w hw => ?_⟩
  · simp [woS, gI_sI]
  · simp [woS, putT, gI_sI, gI_sA]
  · simp [woS, gI_sI]
  · unfold woS
    rw [gA_sI, gA_sI]
    exact putT_at hw
