section
/-! STAGE 2, calls: odds -/
def ch : Nat → Nat → Nat
  | _, 0 => 1
  | 0, _ + 1 => 0
  | n + 1, k + 1 => ch n k + ch n (k + 1)
theorem ch_next : ∀ n, n < 7 → ∀ s, s < 7 → s ≤ n → ch n s * (n - s) / (s + 1) = ch n (s + 1) := by decide +kernel
theorem ch_le : ∀ n, n < 7 → ∀ s, s < 8 → ch n s ≤ 20 := by decide +kernel
def up (n x c : Nat) : Nat → Nat
  | 0 => 0
  | s + 1 => up n x c s + (if s < c then ch n s * x ^ s * (10 - x) ^ (n - s) else 0)
def bitN (s k : Nat) : Bool := s / 2 ^ k % 2 == 1
def vS (x s : Nat) : Nat → Nat
  | 0 => 1
  | k + 1 => vS x s k * (if bitN s k = true then x else 10 - x)
def pc (s : Nat) : Nat → Nat
  | 0 => 0
  | k + 1 => pc s k + (if bitN s k = true then 1 else 0)
def rf (n x c : Nat) : Nat → Nat
  | 0 => 0
  | s + 1 => rf n x c s + (if pc s n < c then vS x s n else 0)
set_option maxRecDepth 100000 in
theorem rf_up : ∀ n, n < 7 → ∀ x, x < 11 → ∀ c, c < 8 → rf n x c (2 ^ n) = up n x c (n + 1) ∧ up n x c (n + 1) ≤ 1000000 := by decide +kernel
def c7 (w m : Nat) : Nat := if w ≤ m then (if (m - w) / 5 + 1 ≤ 7 then (m - w) / 5 + 1 else 7) else 0
theorem c7_iff {w m j : Nat} (hj : j ≤ 6) : w + 5 * j ≤ m ↔ j < c7 w m := by
  unfold c7
  split
  · split <;> omega
  · omega
theorem c7_lt (w m : Nat) : c7 w m < 8 := by
  unfold c7
  split
  · split <;> omega
  · omega
theorem pc_le (s : Nat) : ∀ k, pc s k ≤ k
  | 0 => Nat.le_refl 0
  | k + 1 => by
    have := pc_le s k
    show pc s k + _ ≤ k + 1
    split <;> omega
theorem has_bit : ∀ s, s < 64 → ∀ k, k < 6 → (((nI s >>> (nI k &&& nI 31)) &&& nI 1) = nI 1 ↔ bitN s k = true) := by decide +kernel
theorem m_has {N s k : Nat} {S : PSt} (hs : s < 64) (hk : k < 6) : P_X7_has N S (nI s) (nI k) = some (nI (if bitN s k = true then 1 else 0), S) := by
  unfold P_X7_has
  rw [li1, show (31 : Int32) = nI 31 from li31]
  by_cases c : bitN s k = true
  · rw [if_pos ((has_bit s hs k hk).mpr c), if_pos c]
  · rw [if_neg (fun h => c ((has_bit s hs k hk).mp h)), if_neg c, li0]
theorem c_power {N b : Nat} {S : PSt} {e : Nat} (he : e < 2 ^ 20) : ∀ (z k fuel : Nat), k + z = e → z < fuel → P_X6_power_L4 N fuel S (nI b) (nI e) (nI (b ^ k)) (nI k) = some (nI (b ^ e), S) := by
  intro z
  induction z with
  | zero =>
    intro k fuel hz hf
    obtain ⟨fuel, rfl⟩ : ∃ z, fuel = z + 1 := ⟨fuel - 1, by omega⟩
    rw [P_X6_power_L4]
    dsimp only
    rw [if_pos (nI_le (by omega) (by omega)), show k = e by omega]
  | succ z ih =>
    intro k fuel hz hf
    obtain ⟨fuel, rfl⟩ : ∃ z, fuel = z + 1 := ⟨fuel - 1, by omega⟩
    rw [P_X6_power_L4]
    dsimp only
    rw [if_neg (nI_ge (by omega) (by omega)), pk_mul, bnd_eq, li1, nI_add, bnd_eq, ← Nat.pow_succ]
    exact ih (k + 1) fuel (by omega) (by omega)
theorem c_powerN {N b e : Nat} {S : PSt} (he : e < N) (he2 : e < 2 ^ 20) : P_X6_power N S (nI b) (nI e) = some (nI (b ^ e), S) := by
  unfold P_X6_power
  rw [li0, li1]
  exact c_power he2 e 0 N (by omega) (by omega)
/-- the common divisor, both ways -/
def gcdC (N : Nat) (S : PSt) (y z g k : Nat) : Prop := ∀ i fuel, i + (2 * k + 1) ≤ 64 → 2 * k + 1 < fuel → P_X6_commonDivisor_L7 N fuel S (nI y) (nI z) (nI i) = some (nI g, S)
def gcdM (N : Nat) (S : PSt) (y z g k : Nat) : Prop := ∀ fuel (x a b : Int32), 2 * k + 1 < fuel → P_X7_odds_L228 N fuel S x a b (nI y) (nI z) = if x = nI 0 then some (a / nI g, S) else some (b / nI g, S)
theorem gcd_0 {N y : Nat} {S T : PSt} (hy : 0 < y) (hy2 : y < 2 ^ 31) (k : Nat) : gcdC N S y 0 y k ∧ gcdM N T y 0 y k := by
  constructor
  · intro i fuel hi hf
    obtain ⟨fuel, rfl⟩ : ∃ z, fuel = z + 1 := ⟨fuel - 1, by omega⟩
    rw [P_X6_commonDivisor_L7]
    dsimp only
    have e64 : (64 : Int32) = nI 64 := li64
    unfold P_X6_commonDivisor_L34
    rw [e64, if_neg (nI_ge (by omega) (by omega)), li0, if_pos rfl, li1, if_neg (nI_nlt (by omega) (by omega))]
  · intro fuel x a b hf
    obtain ⟨fuel, rfl⟩ : ∃ z, fuel = z + 1 := ⟨fuel - 1, by omega⟩
    rw [P_X7_odds_L228]
    dsimp only
    rw [li0, if_pos (nI_le (Nat.le_refl _) (by omega)), nz_nI hy hy2, gd_true, gd_true]
theorem gcd_S {N y z g k : Nat} {S T : PSt} (hz : 0 < z) (hz2 : z < 2 ^ 31) (hy2 : y < 2 ^ 31) :
    (∀ i fuel, i < 64 → P_X6_commonDivisor_L7 N (fuel + 1) S (nI y) (nI z) (nI i) = P_X6_commonDivisor_L7 N fuel S (nI z) (nI (y % z)) (nI (i + 1))) ∧ (∀ fuel (x a b : Int32), P_X7_odds_L228 N (fuel + 1) T x a b (nI y) (nI z) = P_X7_odds_L228 N fuel T x a b (nI z) (nI (y % z))) := by
  constructor
  · intro i fuel hi
    rw [P_X6_commonDivisor_L7]
    dsimp only
    have e64 : (64 : Int32) = nI 64 := li64
    rw [e64, if_neg (nI_ge (by omega) (by omega)), li0, if_neg (by rw [nI_eq (by omega) (by omega)]; omega), nz_nI hz hz2, gd_true, pk_rem hy2 hz hz2, bnd_eq, li1, nI_add, bnd_eq]
  · intro fuel x a b
    rw [P_X7_odds_L228]
    dsimp only
    rw [li0, if_neg (nI_ge hz hz2), nz_nI hz hz2, gd_true, pk_rem hy2 hz hz2, bnd_eq]
theorem gcd_all {N : Nat} {S T : PSt} : ∀ (k y z : Nat), z < 2 ^ k → z < 2 ^ 31 → y < 2 ^ 31 → (0 < y ∨ 0 < z) → ∃ g, 0 < g ∧ g < 2 ^ 31 ∧ gcdC N S y z g k ∧ gcdM N T y z g k := by
  intro k
  induction k with
  | zero =>
    intro y z hz h31 hy h0
    have : z = 0 := by simpa using hz
    subst this
    exact ⟨y, by omega, hy, gcd_0 (by omega) hy 0⟩
  | succ k ih =>
    intro y z hz h31 hy h0
    by_cases cz : z = 0
    · subst cz
      exact ⟨y, by omega, hy, gcd_0 (by omega) hy _⟩
    · have hz0 : 0 < z := by omega
      obtain ⟨a1, a2⟩ := gcd_S (N := N) (y := y) (z := z) (g := 0) (k := 0) (S := S) (T := T) hz0 h31 hy
      have hr : y % z < z := Nat.mod_lt _ hz0
      by_cases cr : y % z = 0
      · obtain ⟨b1, b2⟩ := gcd_0 (N := N) (S := S) (T := T) hz0 h31 k
        refine ⟨z, hz0, h31, fun i fuel hi hf => ?_, fun fuel x a b hf => ?_⟩
        · obtain ⟨fuel, rfl⟩ : ∃ z, fuel = z + 1 := ⟨fuel - 1, by omega⟩
          rw [a1 i fuel (by omega), cr]
          exact b1 (i + 1) fuel (by omega) (by omega)
        · obtain ⟨fuel, rfl⟩ : ∃ z, fuel = z + 1 := ⟨fuel - 1, by omega⟩
          rw [a2, cr]
          exact b2 fuel x a b (by omega)
      · have hr0 : 0 < y % z := by omega
        obtain ⟨c1, c2⟩ := gcd_S (N := N) (y := z) (z := y % z) (g := 0) (k := 0) (S := S) (T := T) hr0 (by omega) h31
        have hlt : z % (y % z) < 2 ^ k := by
          have h1 : z % (y % z) < y % z := Nat.mod_lt _ hr0
          have h2 : z % (y % z) + (y % z) ≤ z := by
            have h3 := Nat.div_add_mod z (y % z)
            have h4 : 1 ≤ z / (y % z) := (Nat.one_le_div_iff hr0).mpr (by omega)
            have h5 : (y % z) * 1 ≤ (y % z) * (z / (y % z)) := Nat.mul_le_mul_left _ h4
            omega
          rw [Nat.pow_succ] at hz
          omega
        obtain ⟨g, g0, g1, d1, d2⟩ := ih (y % z) (z % (y % z)) hlt (by have := Nat.mod_lt z hr0; omega) (by omega) (Or.inl hr0)
        refine ⟨g, g0, g1, fun i fuel hi hf => ?_, fun fuel x a b hf => ?_⟩
        · obtain ⟨fuel, rfl⟩ : ∃ z, fuel = z + 1 + 1 := ⟨fuel - 2, by omega⟩
          rw [a1 i (fuel + 1) (by omega), c1 (i + 1) fuel (by omega)]
          exact d1 (i + 1 + 1) fuel (by omega) (by omega)
        · obtain ⟨fuel, rfl⟩ : ∃ z, fuel = z + 1 + 1 := ⟨fuel - 2, by omega⟩
          rw [a2, c2]
          exact d2 fuel x a b (by omega)
theorem c_odds_L {N n x w m : Nat} {S : PSt} {wh : Int32} (hN : 100 ≤ N) (hn : n ≤ 6) (hx : x ≤ 10) (hw : w < 2 ^ 20) (hm : m ≤ 9999) : ∀ (z s fuel : Nat), s + z = n + 1 → ∃ fuel', P_X6_odds_L80 N (fuel + z + 1) S (nI x) (nI m) wh (nI w) (nI n) (nI (up n x (c7 w m) s)) (nI (ch n s)) (nI s) = P_X6_odds_L80 N (fuel' + 1) S (nI x) (nI m) wh (nI w) (nI n) (nI (up n x (c7 w m) (n + 1))) (nI (ch n (n + 1))) (nI (n + 1)) := by
  intro z
  induction z with
  | zero =>
    intro s fuel hz
    exact ⟨fuel, by rw [show s = n + 1 by omega]⟩
  | succ z ih =>
    intro s fuel hz
    obtain ⟨f', e⟩ := ih (s + 1) fuel (by omega)
    refine ⟨f', ?_⟩
    have h20 := ch_le n (by omega) s (by omega)
    have hcs : ch n s * (n - s) ≤ 20 * 6 := Nat.mul_le_mul h20 (show n - s ≤ 6 by omega)
    have k125 : ∀ u : Nat, P_X6_odds_L125 (P_X6_odds_L80 N (fuel + z + 1)) N S (nI x) (nI m) wh (nI w) (nI n) (nI u) (nI (ch n s)) (nI s) = P_X6_odds_L80 N (fuel + z + 1) S (nI x) (nI m) wh (nI w) (nI n) (nI u) (nI (ch n (s + 1))) (nI (s + 1)) := by
      intro u
      unfold P_X6_odds_L125
      rw [li1, nI_add, nz_nI (by omega) (by omega), gd_true, pk_sub (by omega), pk_mul, pk_div (by omega) (by omega) (by omega), ch_next n (by omega) s (by omega) (by omega), bnd_eq, bnd_eq]
    rw [show fuel + (z + 1) + 1 = (fuel + z + 1) + 1 by omega, P_X6_odds_L80]
    dsimp only
    rw [if_neg (nI_nlt (by omega) (by omega)), li5, pk_mul, nI_add]
    by_cases c : w + 5 * s ≤ m
    · have c' : s < c7 w m := (c7_iff (by omega)).mp c
      rw [up, if_pos c'] at e
      have e10 : (10 : Int32) - nI x = nI (10 - x) := by rw [li10, pk_sub hx]
      rw [if_neg (nI_nlt c (by omega)), c_powerN (by omega) (by omega), cal2_s, e10, pk_sub (by omega), c_powerN (by omega) (by omega), cal2_s, pk_mul, pk_mul, nI_add, bnd_eq, k125]
      exact e
    · have c' : ¬ s < c7 w m := fun h => c ((c7_iff (by omega)).mpr h)
      rw [up, if_neg c', Nat.add_zero] at e
      rw [if_pos (nI_lt (by omega) (by omega)), k125]
      exact e
theorem m_odds_in {N n x w m s : Nat} {S : PSt} {K : PSt → Int32 → Int32 → Int32 → Int32 → Int32 → Int32 → Int32 → Int32 → Option (Int32 × PSt)} {wh x5 x8 : Int32} {u : Nat} (hn : n ≤ 6) (hs : s < 64) (hx : x ≤ 10) (hw : w < 2 ^ 20) (hm : m ≤ 9999) : ∀ (z k fuel : Nat), k + z = n → z < fuel → P_X7_odds_L141 K N fuel S (nI x) (nI m) wh x5 (nI n) (nI u) x8 (nI s) (nI (vS x s k)) (nI (w + 5 * pc s k)) (nI k) = K S (nI x) (nI m) wh x5 (nI n) (nI (u + (if pc s n < c7 w m then vS x s n else 0))) x8 (nI (s + 1)) := by
  intro z
  induction z with
  | zero =>
    intro k fuel hz hf
    obtain ⟨fuel, rfl⟩ : ∃ z, fuel = z + 1 := ⟨fuel - 1, by omega⟩
    have hk : k = n := by omega
    subst hk
    have hp := pc_le s k
    rw [P_X7_odds_L141]
    dsimp only
    rw [if_pos (nI_le (Nat.le_refl _) (by omega))]
    by_cases c : w + 5 * pc s k ≤ m
    · rw [if_neg (nI_nlt c (by omega)), if_pos ((c7_iff (by omega)).mp c), nI_add, bnd_eq, li1, nI_add, bnd_eq]
    · rw [if_pos (nI_lt (by omega) (by omega)), if_neg (fun h => c ((c7_iff (by omega)).mpr h)), li0, nI_add, bnd_eq, li1, nI_add, bnd_eq]
  | succ z ih =>
    intro k fuel hz hf
    obtain ⟨fuel, rfl⟩ : ∃ z, fuel = z + 1 := ⟨fuel - 1, by omega⟩
    have e := ih (k + 1) fuel (by omega) (by omega)
    rw [vS, pc] at e
    have e10 : (10 : Int32) - nI x = nI (10 - x) := by rw [li10, pk_sub hx]
    rw [P_X7_odds_L141]
    dsimp only
    rw [if_neg (nI_ge (by omega) (by omega)), m_has hs (by omega), cal2_s]
    by_cases c : bitN s k = true
    · rw [if_pos c, if_pos c, Nat.mul_add, ← Nat.add_assoc] at e
      rw [if_pos c, li0, if_neg n1_0]
      unfold P_X7_odds_L168
      rw [pk_mul, bnd_eq, m_has hs (by omega), cal2_s, if_pos c, li0, if_neg n1_0, li5, nI_add, bnd_eq, li1, nI_add, bnd_eq]
      exact e
    · rw [if_neg c, if_neg c, Nat.add_zero] at e
      rw [if_neg c, li0, if_pos rfl, e10]
      unfold P_X7_odds_L168
      rw [pk_mul, bnd_eq, m_has hs (by omega), cal2_s, if_neg c, li0, if_pos rfl, nI_add, Nat.add_zero, bnd_eq, li1, nI_add, bnd_eq]
      exact e
theorem one_shl : ∀ n, n < 7 → ((nI 1) <<< (nI n &&& nI 31)) = nI (2 ^ n) := by decide +kernel
theorem m_odds_out {N n x w m : Nat} {S : PSt} {wh x8 : Int32} (hN : 100 ≤ N) (hn : n ≤ 6) (hx : x ≤ 10) (hw : w < 2 ^ 20) (hm : m ≤ 9999) : ∀ (z s fuel : Nat), s + z = 2 ^ n → z < fuel → P_X7_odds_L122 N fuel S (nI x) (nI m) wh (nI w) (nI n) (nI (rf n x (c7 w m) s)) x8 (nI s) = P_X7_odds_L228 N N S wh (nI (rf n x (c7 w m) (2 ^ n))) x8 (nI (rf n x (c7 w m) (2 ^ n))) x8 := by
  have h64 : 2 ^ n ≤ 64 := Nat.pow_le_pow_right (by omega) hn
  intro z
  induction z with
  | zero =>
    intro s fuel hz hf
    obtain ⟨fuel, rfl⟩ : ∃ z, fuel = z + 1 := ⟨fuel - 1, by omega⟩
    rw [P_X7_odds_L122]
    dsimp only
    rw [li1, show (31 : Int32) = nI 31 from li31, one_shl n (by omega), if_pos (nI_le (by omega) (by omega)), show s = 2 ^ n by omega]
  | succ z ih =>
    intro s fuel hz hf
    obtain ⟨fuel, rfl⟩ : ∃ z, fuel = z + 1 := ⟨fuel - 1, by omega⟩
    have e := ih (s + 1) fuel (by omega) (by omega)
    rw [rf] at e
    rw [P_X7_odds_L122]
    dsimp only
    rw [li1, show (31 : Int32) = nI 31 from li31, one_shl n (by omega), if_neg (nI_ge (by omega) (by omega)), li0]
    have e1 := m_odds_in (N := N) (n := n) (x := x) (w := w) (m := m) (s := s) (S := S) (K := P_X7_odds_L122 N fuel) (wh := wh) (x5 := nI w) (x8 := x8) (u := rf n x (c7 w m) s) hn (by omega) hx hw hm n 0 N (by omega) (by omega)
    exact e1.trans e
theorem m_pow10 {N n : Nat} {S : PSt} {x2 x3 x4 x5 x7 : Int32} (hn : n ≤ 6) : ∀ (z k fuel : Nat), k + z = n → z < fuel → P_X7_odds_L99 N fuel S x2 x3 x4 x5 (nI n) x7 (nI (10 ^ k)) (nI k) = P_X7_odds_L122 N N S x2 x3 x4 x5 (nI n) x7 (nI (10 ^ n)) (nI 0) := by
  intro z
  induction z with
  | zero =>
    intro k fuel hz hf
    obtain ⟨fuel, rfl⟩ : ∃ z, fuel = z + 1 := ⟨fuel - 1, by omega⟩
    rw [P_X7_odds_L99]
    dsimp only
    rw [if_pos (nI_le (by omega) (by omega)), show k = n by omega, li0]
  | succ z ih =>
    intro k fuel hz hf
    obtain ⟨fuel, rfl⟩ : ∃ z, fuel = z + 1 := ⟨fuel - 1, by omega⟩
    rw [P_X7_odds_L99]
    dsimp only
    rw [if_neg (nI_ge (by omega) (by omega)), li10, pk_mul, bnd_eq, li1, nI_add, bnd_eq, ← Nat.pow_succ]
    exact ih (k + 1) fuel (by omega) (by omega)
theorem m_slimy {N g : Nat} {S : PSt} {t : Tau} {x2 x3 x4 x5 : Int32} (hM : MRt S t) (ok : TOK t) : ∀ (z k fuel : Nat), g + k + z = tn t → z < fuel → P_X7_odds_L59 N fuel S x2 x3 x4 x5 (nI (sumF (tM t) g k)) (nI (g + k)) = P_X7_odds_L99 N N S x2 x3 x4 x5 (nI (sumF (tM t) g (k + z))) (nI 0) (nI 1) (nI 0) := by
  have on := ok.2.1
  intro z
  induction z with
  | zero =>
    intro k fuel hz hf
    obtain ⟨fuel, rfl⟩ : ∃ z, fuel = z + 1 := ⟨fuel - 1, by omega⟩
    rw [P_X7_odds_L59]
    dsimp only
    rw [hM.2.1, if_pos (nI_le (by omega) (by omega)), li0, li1]
    rfl
  | succ z ih =>
    intro k fuel hz hf
    obtain ⟨fuel, rfl⟩ : ∃ z, fuel = z + 1 := ⟨fuel - 1, by omega⟩
    have e := ih (k + 1) fuel (by omega) (by omega)
    rw [P_X7_odds_L59]
    dsimp only
    rw [hM.2.1, if_neg (nI_ge (by omega) (by omega)), li4, li2, pk_mul, nI_add, bin_nI (by omega), l160, gd_dec (by omega), nI_clamp (by omega), hM.2.2.2.2.2.2.2.2.1 (g + k) (by omega), nI_add, bnd_eq, li1, nI_add, bnd_eq]
    rw [show k + (z + 1) = k + 1 + z by omega]
    exact e
theorem c_slimy {N r g : Nat} {S : PSt} {t : Tau} (hk : kd r = 4) (hR : CRt S r t) (ok : TOK t) : ∀ (z k fuel : Nat), g + k + z = tn t → z < fuel → P_X4_slimyFrom_L8 N fuel S r (nI (sumF (tM t) g k)) (nI (g + k)) = some (nI (sumF (tM t) g (k + z)), S) := by
  have on := ok.2.1
  intro z
  induction z with
  | zero =>
    intro k fuel hz hf
    obtain ⟨fuel, rfl⟩ : ∃ z, fuel = z + 1 := ⟨fuel - 1, by omega⟩
    rw [P_X4_slimyFrom_L8]
    dsimp only
    rw [hR.2.1, if_pos (nI_le (by omega) (by omega))]
    rfl
  | succ z ih =>
    intro k fuel hz hf
    obtain ⟨fuel, rfl⟩ : ∃ z, fuel = z + 1 := ⟨fuel - 1, by omega⟩
    have e := ih (k + 1) fuel (by omega) (by omega)
    rw [P_X4_slimyFrom_L8]
    dsimp only
    rw [hR.2.1, if_neg (nI_ge (by omega) (by omega)), bin_nI (by omega), lt5 hk, gd_dec (by omega), nI_clamp (by omega), hR.2.2.2.2.2.2.2.2.1 (g + k) (by omega), nI_add, bnd_eq, li1, nI_add, bnd_eq]
    rw [show k + (z + 1) = k + 1 + z by omega]
    exact e
end
