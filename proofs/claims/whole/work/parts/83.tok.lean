section
/-! STAGE 2, the text: tokens, and how the component reads them -/
def isL (c : Nat) : Bool := decide (97 ≤ c) && decide (c ≤ 122)
def isD (c : Nat) : Bool := decide (48 ≤ c) && decide (c ≤ 57)
def isB (c : Nat) : Bool := decide (c = 32)
/-- where a run of such bytes ends -/
def rn (tx : List Nat) (f : Nat → Bool) : Nat → Nat → Nat
  | 0, p => p
  | z + 1, p => if p < tx.length ∧ f (tx.getD p 0) = true then rn tx f z (p + 1) else p
/-- the number that is told, 100 for all that are greater -/
def nv (tx : List Nat) : Nat → Nat → Nat → Nat
  | 0, _, v => v
  | z + 1, p, v => if p < tx.length ∧ isD (tx.getD p 0) = true then nv tx z (p + 1) (min (10 * v + (tx.getD p 0 - 48)) 100) else v
abbrev Tk : Type := Nat × Nat × Nat × Nat
def tokAt (tx : List Nat) (p : Nat) : Tk := if tx.length ≤ p then (0, p, 0, p) else if isL (tx.getD p 0) = true then (1, p, (if rn tx isL 201 p = p + 1 then tx.getD p 0 else 0), rn tx isL 201 p) else if isD (tx.getD p 0) = true then ((if (tx.getD p 0 = 48 ∧ p + 1 < rn tx isD 201 p) ∨ 99 < nv tx 201 p 0 then 4 else 2), p, nv tx 201 p 0, rn tx isD 201 p) else ((if tx.getD p 0 = 59 then 3 else 4), p, 0, p + 1)
def tok (tx : List Nat) (pos : Nat) : Tk := tokAt tx (rn tx isB 201 pos)
def XOK (tx : List Nat) : Prop := tx.length ≤ 200 ∧ ∀ i, i < tx.length → tx.getD i 0 ≤ 255
theorem rn_ge (tx : List Nat) (f : Nat → Bool) : ∀ z p, p ≤ rn tx f z p
  | 0, _ => Nat.le_refl _
  | z + 1, p => by
    rw [rn]
    split
    · have := rn_ge tx f z (p + 1); omega
    · exact Nat.le_refl _
theorem rn_le (tx : List Nat) (f : Nat → Bool) : ∀ z p, p ≤ tx.length → rn tx f z p ≤ tx.length
  | 0, _, h => h
  | z + 1, p, h => by
    rw [rn]
    split
    · rename_i c
      exact rn_le tx f z (p + 1) c.1
    · exact h
theorem rn_stop {tx : List Nat} (hx : tx.length ≤ 200) (f : Nat → Bool) : ∀ z p, p ≤ tx.length → 201 ≤ p + z → ¬ (rn tx f z p < tx.length ∧ f (tx.getD (rn tx f z p) 0) = true)
  | 0, p, h1, h2 => by omega
  | z + 1, p, h1, h2 => by
    rw [rn]
    by_cases c : p < tx.length ∧ f (tx.getD p 0) = true
    · rw [if_pos c]
      exact rn_stop hx f z (p + 1) c.1 (by omega)
    · rw [if_neg c]
      exact c
theorem rn_first {tx : List Nat} {f : Nat → Bool} {p : Nat} (h : p < tx.length) (hf : f (tx.getD p 0) = true) : p + 1 ≤ rn tx f 201 p := by
  show p + 1 ≤ (if _ then rn tx f 200 (p + 1) else p)
  rw [if_pos ⟨h, hf⟩]
  exact rn_ge tx f 200 (p + 1)
theorem nv_le (tx : List Nat) : ∀ z p v, v ≤ 100 → nv tx z p v ≤ 100
  | 0, _, _, h => h
  | z + 1, p, v, h => by
    rw [nv]
    split
    · exact nv_le tx z (p + 1) _ (by omega)
    · exact h
/-- a token's places -/
theorem tok_pl {tx : List Nat} {pos : Nat} (hp : pos ≤ tx.length) : pos ≤ (tok tx pos).2.1 ∧ (tok tx pos).2.1 ≤ (tok tx pos).2.2.2 ∧ (tok tx pos).2.2.2 ≤ tx.length ∧ ((tok tx pos).1 ≠ 0 → (tok tx pos).2.1 < (tok tx pos).2.2.2) ∧ (tok tx pos).1 ≤ 4 := by
  have h1 := rn_ge tx isB 201 pos
  have h2 := rn_le tx isB 201 pos hp
  unfold tok
  generalize rn tx isB 201 pos = p at h1 h2 ⊢
  unfold tokAt
  by_cases c1 : tx.length ≤ p
  · rw [if_pos c1]
    exact ⟨h1, Nat.le_refl _, h2, fun h => absurd rfl h, Nat.zero_le _⟩
  · rw [if_neg c1]
    by_cases c2 : isL (tx.getD p 0) = true
    · rw [if_pos c2]
      have h3 := rn_first (f := isL) (show p < tx.length by omega) c2
      have h4 := rn_le tx isL 201 p h2
      exact ⟨h1, by show p ≤ rn tx isL 201 p; omega, h4, fun _ => h3, by show 1 ≤ 4; decide⟩
    · rw [if_neg c2]
      by_cases c3 : isD (tx.getD p 0) = true
      · rw [if_pos c3]
        have h3 := rn_first (f := isD) (show p < tx.length by omega) c3
        have h4 := rn_le tx isD 201 p h2
        exact ⟨h1, by show p ≤ rn tx isD 201 p; omega, h4, fun _ => h3, by show (if _ then 4 else 2) ≤ 4; split <;> decide⟩
      · rw [if_neg c3]
        exact ⟨h1, by show p ≤ p + 1; omega, by show p + 1 ≤ tx.length; omega, fun _ => by show p < p + 1; omega, by show (if _ then 3 else 4) ≤ 4; split <;> decide⟩
theorem tok_val {tx : List Nat} {pos : Nat} (hx : XOK tx) : (tok tx pos).2.2.1 ≤ 255 := by
  unfold tok
  generalize rn tx isB 201 pos = p
  unfold tokAt
  by_cases c1 : tx.length ≤ p
  · rw [if_pos c1]; exact Nat.zero_le _
  · rw [if_neg c1]
    have h2 := hx.2 p (by omega)
    split
    · show (if _ then tx.getD p 0 else 0) ≤ 255
      split
      · exact h2
      · exact Nat.zero_le _
    · split
      · have := nv_le tx 201 p 0 (by omega)
        show nv tx 201 p 0 ≤ 255
        omega
      · exact Nat.zero_le _
theorem c_isLetter {N c : Nat} {S : PSt} (h : c ≤ 255) : P_X2_isLetter N S (nI c) = some (bI (isL c), S) := by
  unfold P_X2_isLetter isL
  rw [li97, li122]
  by_cases c1 : 97 ≤ c
  · rw [if_neg (nI_nlt c1 (by omega)), decide_eq_true c1, Bool.true_and]
    by_cases c2 : c ≤ 122
    · rw [if_neg (nI_nlt c2 (by omega)), decide_eq_true c2, li1]; rfl
    · rw [if_pos (nI_lt (by omega) (by omega)), decide_eq_false c2, li0]; rfl
  · rw [if_pos (nI_lt (by omega) (by omega)), decide_eq_false c1, Bool.false_and, li0]; rfl
theorem c_isDigit {N c : Nat} {S : PSt} (h : c ≤ 255) : P_X2_isDigit N S (nI c) = some (bI (isD c), S) := by
  unfold P_X2_isDigit isD
  rw [li48, li57]
  by_cases c1 : 48 ≤ c
  · rw [if_neg (nI_nlt c1 (by omega)), decide_eq_true c1, Bool.true_and]
    by_cases c2 : c ≤ 57
    · rw [if_neg (nI_nlt c2 (by omega)), decide_eq_true c2, li1]; rfl
    · rw [if_pos (nI_lt (by omega) (by omega)), decide_eq_false c2, li0]; rfl
  · rw [if_pos (nI_lt (by omega) (by omega)), decide_eq_false c1, Bool.false_and, li0]; rfl
theorem bI_f : bI false = nI 0 := rfl
theorem bI_t : ¬ bI true = nI 0 := by decide
/-- what a token changes in the component -/
def nF (S T : PSt) : Prop := (∀ b, b ≠ 1 → ag S T b) ∧ ∀ f, (f < 202 ∨ 205 < f) → gI T f 1 = gI S f 1
theorem nF_trans {S T U : PSt} (h : nF S T) (k : nF T U) : nF S U := ⟨fun b hb => (h.1 b hb).trans (k.1 b hb), fun f hf => (k.2 f hf).trans (h.2 f hf)⟩
theorem nF_refl (S : PSt) : nF S S := ⟨fun b _ => ag.refl S b, fun _ _ => rfl⟩
theorem nF_sI {S : PSt} {f : Nat} {v : Int32} (h : 202 ≤ f ∧ f ≤ 205) : nF S (sI S f 1 v) := ⟨fun b hb => ag_sI hb, fun g hg => by rw [gI_sI, if_neg (by omega)]⟩
theorem nF_txt {S T : PSt} {tx : List Nat} (h : nF S T) (k : CRtxt S tx) : CRtxt T tx := ⟨(h.2 200 (by omega)).trans k.1, by rw [(h.1 2 (by omega)).2.2.2.1]; exact k.2⟩
def TC (S : PSt) (k : Tk) : Prop := gI S 202 1 = nI k.1 ∧ gI S 203 1 = nI k.2.1 ∧ gI S 204 1 = nI k.2.2.1 ∧ gI S 205 1 = nI k.2.2.2
theorem c_lets {N : Nat} {tx : List Nat} (hx : XOK tx) : ∀ z p fuel S, p ≤ tx.length → 201 ≤ p + z → z < fuel → CRtxt S tx → gI S 205 1 = nI p → ∃ T, P_X2_takeLetters_L5 N fuel S = P_X2_takeLetters_L44 N T ∧ nF S T ∧ (∀ f, f ≠ 205 → gI T f 1 = gI S f 1) ∧ gI T 205 1 = nI (rn tx isL z p) := by
  have hl := hx.1
  intro z
  induction z with
  | zero => intro p fuel S h1 h2; omega
  | succ z ih =>
    intro p fuel S h1 h2 hf ht hg
    obtain ⟨fuel, rfl⟩ : ∃ z, fuel = z + 1 := ⟨fuel - 1, by omega⟩
    rw [P_X2_takeLetters_L5, rn]
    dsimp only
    rw [ht.1, hg]
    by_cases c1 : tx.length ≤ p
    · rw [if_pos (nI_le c1 (by omega)), if_neg (by omega)]
      exact ⟨S, rfl, nF_refl S, fun _ _ => rfl, hg⟩
    · have hb := hx.2 p (by omega)
      rw [if_neg (nI_ge (by omega) (by omega)), bin_nI (by omega), l2, gd_dec (by omega), nI_clamp (by omega), ht.2 p (by omega), c_isLetter hb, cal2_s, li0]
      cases c2 : isL (tx.getD p 0) with
      | false =>
        rw [if_pos bI_f, if_neg (by intro h; exact absurd h.2 (by decide))]
        exact ⟨S, rfl, nF_refl S, fun _ _ => rfl, hg⟩
      | true =>
        rw [if_neg bI_t, if_pos ⟨by omega, rfl⟩, hg, li1, nI_add, bnd_eq]
        have n1 : nF S (sI S 205 1 (nI (p + 1))) := nF_sI (by omega)
        obtain ⟨T, e, k1, k2, k3⟩ := ih (p + 1) fuel (sI S 205 1 (nI (p + 1))) (by omega) (by omega) (by omega) (nF_txt n1 ht) (by rw [gI_sI, if_pos ⟨rfl, rfl⟩])
        exact ⟨T, e, nF_trans n1 k1, fun f hf => by rw [k2 f hf, gI_sI, if_neg (by omega)], k3⟩
theorem c_nums {N : Nat} {tx : List Nat} (hx : XOK tx) : ∀ z p v fuel S, p ≤ tx.length → 201 ≤ p + z → z < fuel → CRtxt S tx → gI S 205 1 = nI p → gI S 204 1 = nI v → v ≤ 100 → ∃ T, P_X2_takeNumber_L0 N fuel S = P_X2_takeNumber_L68 N T ∧ nF S T ∧ (∀ f, f ≠ 205 → f ≠ 204 → gI T f 1 = gI S f 1) ∧ gI T 205 1 = nI (rn tx isD z p) ∧ gI T 204 1 = nI (nv tx z p v) := by
  have hl := hx.1
  intro z
  induction z with
  | zero => intro p v fuel S h1 h2; omega
  | succ z ih =>
    intro p v fuel S h1 h2 hf ht hg hg2 hv
    obtain ⟨fuel, rfl⟩ : ∃ z, fuel = z + 1 := ⟨fuel - 1, by omega⟩
    rw [P_X2_takeNumber_L0, rn, nv]
    dsimp only
    rw [ht.1, hg]
    by_cases c1 : tx.length ≤ p
    · rw [if_pos (nI_le c1 (by omega)), if_neg (by omega), if_neg (by omega)]
      exact ⟨S, rfl, nF_refl S, fun _ _ _ => rfl, hg, hg2⟩
    · have hb := hx.2 p (by omega)
      rw [if_neg (nI_ge (by omega) (by omega)), bin_nI (by omega), l2, gd_dec (by omega), nI_clamp (by omega), ht.2 p (by omega), c_isDigit hb, cal2_s, li0]
      cases c2 : isD (tx.getD p 0) with
      | false =>
        rw [if_pos bI_f, if_neg (by intro h; exact absurd h.2 (by decide)), if_neg (by intro h; exact absurd h.2 (by decide))]
        exact ⟨S, rfl, nF_refl S, fun _ _ _ => rfl, hg, hg2⟩
      | true =>
        have c3 : 48 ≤ tx.getD p 0 := by
          unfold isD at c2
          rw [Bool.and_eq_true, decide_eq_true_eq, decide_eq_true_eq] at c2
          exact c2.1
        have e100 : (100 : Int32) = nI 100 := li100
        have em : (if nI 100 < nI (v * 10 + tx.getD p 0 - 48) then nI 100 else nI (v * 10 + tx.getD p 0 - 48)) = nI (min (10 * v + (tx.getD p 0 - 48)) 100) := by
          by_cases c : v * 10 + tx.getD p 0 - 48 ≤ 100
          · rw [if_neg (nI_nlt c (by omega))]; congr 1; omega
          · rw [if_pos (nI_lt (by omega) (by omega))]; congr 1; omega
        have cc : p < tx.length ∧ true = true := ⟨by omega, rfl⟩
        rw [if_neg bI_t, if_pos cc, if_pos cc, hg, bin_nI (by omega), gd_dec (by omega), hg2, li10, pk_mul, nI_clamp (by omega), ht.2 p (by omega), nI_add, li48, pk_sub (by omega), e100, em, bnd_eq]
        have g5 : gI (sI S 204 1 (nI (min (10 * v + (tx.getD p 0 - 48)) 100))) 205 1 = nI p := by rw [gI_sI, if_neg (by omega)]; exact hg
        rw [g5, li1, nI_add, bnd_eq]
        have n1 : nF S (sI (sI S 204 1 (nI (min (10 * v + (tx.getD p 0 - 48)) 100))) 205 1 (nI (p + 1))) := nF_trans (nF_sI (by omega)) (nF_sI (by omega))
        obtain ⟨T, e, k1, k2, k3, k4⟩ := ih (p + 1) (min (10 * v + (tx.getD p 0 - 48)) 100) fuel _ (by omega) (by omega) (by omega) (nF_txt n1 ht) (by rw [gI_sI, if_pos ⟨rfl, rfl⟩]) (by rw [gI_sI, if_neg (by omega), gI_sI, if_pos ⟨rfl, rfl⟩]) (by omega)
        exact ⟨T, e, nF_trans n1 k1, fun f hf hf2 => by rw [k2 f hf hf2, gI_sI, if_neg (by omega), gI_sI, if_neg (by omega)], k3, k4⟩
theorem c_skip {N : Nat} {tx : List Nat} (hx : XOK tx) : ∀ z p fuel S, p ≤ tx.length → 201 ≤ p + z → z < fuel → CRtxt S tx → gI S 205 1 = nI p → ∃ T, P_X2_nextToken_L0 N fuel S = P_X2_nextToken_L38 N T ∧ nF S T ∧ gI T 205 1 = nI (rn tx isB z p) := by
  have hl := hx.1
  intro z
  induction z with
  | zero => intro p fuel S h1 h2; omega
  | succ z ih =>
    intro p fuel S h1 h2 hf ht hg
    obtain ⟨fuel, rfl⟩ : ∃ z, fuel = z + 1 := ⟨fuel - 1, by omega⟩
    rw [P_X2_nextToken_L0, rn]
    dsimp only
    rw [ht.1, hg]
    by_cases c1 : tx.length ≤ p
    · rw [if_pos (nI_le c1 (by omega)), if_neg (by omega)]
      exact ⟨S, rfl, nF_refl S, hg⟩
    · have hb := hx.2 p (by omega)
      rw [if_neg (nI_ge (by omega) (by omega)), bin_nI (by omega), l2, gd_dec (by omega), nI_clamp (by omega), ht.2 p (by omega), li32]
      by_cases c2 : tx.getD p 0 = 32
      · rw [if_pos (by rw [c2]), if_pos ⟨by omega, decide_eq_true c2⟩, li1, nI_add, bnd_eq]
        have n1 : nF S (sI S 205 1 (nI (p + 1))) := nF_sI (by omega)
        obtain ⟨T, e, k1, k3⟩ := ih (p + 1) fuel (sI S 205 1 (nI (p + 1))) (by omega) (by omega) (by omega) (nF_txt n1 ht) (by rw [gI_sI, if_pos ⟨rfl, rfl⟩])
        exact ⟨T, e, nF_trans n1 k1, k3⟩
      · rw [if_neg (by rw [nI_eq (by omega) (by omega)]; exact c2), if_neg (fun h => c2 (of_decide_eq_true h.2))]
        exact ⟨S, rfl, nF_refl S, hg⟩
theorem c_tokAt {N p : Nat} {S : PSt} {tx : List Nat} (hN : 300 ≤ N) (hx : XOK tx) (hp : p ≤ tx.length) (ht : CRtxt S tx) (hg : gI S 205 1 = nI p) : ∃ T, P_X2_nextToken_L38 N S = some T ∧ nF S T ∧ TC T (tokAt tx p) := by
  have hl := hx.1
  obtain ⟨S4, hS4⟩ : ∃ S4, S4 = sI (sI S 203 1 (nI p)) 204 1 (nI 0) := ⟨_, rfl⟩
  have n4 : nF S S4 := by rw [hS4]; exact nF_trans (nF_sI (by omega)) (nF_sI (by omega))
  have t4 := nF_txt n4 ht
  have g205 : gI S4 205 1 = nI p := by rw [hS4, gI_sI, if_neg (by omega), gI_sI, if_neg (by omega)]; exact hg
  have g204 : gI S4 204 1 = nI 0 := by rw [hS4, gI_sI, if_pos ⟨rfl, rfl⟩]
  have g203 : gI S4 203 1 = nI p := by rw [hS4, gI_sI, if_neg (by omega), gI_sI, if_pos ⟨rfl, rfl⟩]
  unfold P_X2_nextToken_L38
  rw [hg, bnd_eq, li0, ← hS4, bnd_eq, g205, t4.1]
  unfold tokAt
  by_cases c1 : tx.length ≤ p
  · rw [if_neg (nI_nlt c1 (by omega)), if_pos c1, bnd_eq]
    refine ⟨_, rfl, nF_trans n4 (nF_sI (by omega)), ?_, ?_, ?_, ?_⟩
    · rw [gI_sI, if_pos ⟨rfl, rfl⟩]
    · rw [gI_sI, if_neg (by omega)]; exact g203
    · rw [gI_sI, if_neg (by omega)]; exact g204
    · rw [gI_sI, if_neg (by omega)]; exact g205
  · have hb := hx.2 p (by omega)
    have hbp := t4.2 p (by omega)
    rw [if_pos (nI_lt (by omega) (by omega)), if_neg c1, bin_nI (by omega), l2, gd_dec (by omega), nI_clamp (by omega), hbp, c_isLetter hb, cal2_s]
    cases c2 : isL (tx.getD p 0) with
    | true =>
      rw [if_neg bI_t, if_pos rfl]
      have n5 : nF S4 (sI S4 202 1 (nI 1)) := nF_sI (by omega)
      obtain ⟨T, e, k1, k2, k3⟩ := c_lets (N := N) hx 201 p N (sI S4 202 1 (nI 1)) hp (by omega) (by omega) (nF_txt n5 t4) (by rw [gI_sI, if_neg (by omega)]; exact g205)
      have T203 : gI T 203 1 = nI p := by rw [k2 203 (by omega), gI_sI, if_neg (by omega)]; exact g203
      have T2 : gA T 2 p = nI (tx.getD p 0) := by rw [(k1.1 2 (by omega)).2.2.2.1, (n5.1 2 (by omega)).2.2.2.1]; exact hbp
      have h3 := rn_ge tx isL 201 p
      have h4 := rn_le tx isL 201 p hp
      have fin : P_X2_takeLetters N S4 = some (sI T 204 1 (nI (if rn tx isL 201 p = p + 1 then tx.getD p 0 else 0))) := by
        unfold P_X2_takeLetters
        rw [li1, bnd_eq, e]
        unfold P_X2_takeLetters_L44 P_X2_takeLetters_L71
        rw [k3, T203, li1, nI_add]
        by_cases c3 : rn tx isL 201 p = p + 1
        · rw [if_pos (by rw [c3]), if_pos c3, bin_nI (by omega), l2, gd_dec (by omega), nI_clamp (by omega), T2, bnd_eq]
        · rw [if_neg (by rw [nI_eq (by omega) (by omega)]; exact c3), if_neg c3, li0, bnd_eq]
      rw [fin, cal1_s]
      refine ⟨_, rfl, nF_trans (nF_trans n4 n5) (nF_trans k1 (nF_sI (by omega))), ?_, ?_, ?_, ?_⟩
      · rw [gI_sI, if_neg (by omega), k2 202 (by omega), gI_sI, if_pos ⟨rfl, rfl⟩]
      · rw [gI_sI, if_neg (by omega)]; exact T203
      · rw [gI_sI, if_pos ⟨rfl, rfl⟩]
      · rw [gI_sI, if_neg (by omega)]; exact k3
    | false =>
      rw [if_pos bI_f, if_neg (show ¬ false = true by decide), g205, bin_nI (by omega), gd_dec (by omega), nI_clamp (by omega), hbp, c_isDigit hb, cal2_s]
      cases c3 : isD (tx.getD p 0) with
      | true =>
        rw [if_neg bI_t, if_pos rfl]
        obtain ⟨T, e, k1, k2, k3, k4⟩ := c_nums (N := N) hx 201 p 0 N S4 hp (by omega) (by omega) t4 g205 g204 (by omega)
        have T203 : gI T 203 1 = nI p := by rw [k2 203 (by omega) (by omega)]; exact g203
        have T2 : gA T 2 p = nI (tx.getD p 0) := by rw [(k1.1 2 (by omega)).2.2.2.1]; exact hbp
        have h3 := rn_ge tx isD 201 p
        have h4 := rn_le tx isD 201 p hp
        have h5 := nv_le tx 201 p 0 (by omega)
        have fin : P_X2_takeNumber N S4 = some (sI T 202 1 (nI (if (tx.getD p 0 = 48 ∧ p + 1 < rn tx isD 201 p) ∨ 99 < nv tx 201 p 0 then 4 else 2))) := by
          unfold P_X2_takeNumber
          rw [e]
          unfold P_X2_takeNumber_L68 P_X2_takeNumber_L99 P_X2_takeNumber_L100 P_X2_takeNumber_L115 P_X2_takeNumber_L120
          rw [T203, bin_nI (by omega), l2, gd_dec (by omega), nI_clamp (by omega), T2, li48, k3, li1, nI_add, li0, k4, li99, li2, li4, if_pos rfl]
          have n10 : ¬ nI 1 = nI 0 := n1_0
          rw [if_neg n10, bnd_eq, bnd_eq]
          by_cases d1 : tx.getD p 0 = 48
          · rw [if_pos (by rw [d1])]
            by_cases d2 : rn tx isD 201 p ≤ p + 1
            · rw [if_pos (nI_le d2 (by omega))]
              by_cases d3 : nv tx 201 p 0 ≤ 99
              · rw [if_pos (nI_le d3 (by omega)), if_neg (by omega)]
              · rw [if_neg (nI_ge (by omega) (by omega)), if_pos (Or.inr (by omega))]
            · rw [if_neg (nI_ge (by omega) (by omega)), if_pos (Or.inl ⟨d1, by omega⟩)]
          · rw [if_neg (by rw [nI_eq (by omega) (by omega)]; exact d1)]
            by_cases d3 : nv tx 201 p 0 ≤ 99
            · rw [if_pos (nI_le d3 (by omega)), if_neg (by omega)]
            · rw [if_neg (nI_ge (by omega) (by omega)), if_pos (Or.inr (by omega))]
        rw [fin, cal1_s]
        refine ⟨_, rfl, nF_trans n4 (nF_trans k1 (nF_sI (by omega))), ?_, ?_, ?_, ?_⟩
        · rw [gI_sI, if_pos ⟨rfl, rfl⟩]
        · rw [gI_sI, if_neg (by omega)]; exact T203
        · rw [gI_sI, if_neg (by omega)]; exact k4
        · rw [gI_sI, if_neg (by omega)]; exact k3
      | false =>
        rw [if_pos bI_f, if_neg (show ¬ false = true by decide), g205, bin_nI (by omega), gd_dec (by omega), nI_clamp (by omega), hbp, li59, li3, li4]
        have fin : ∀ y : Nat, P_X2_nextToken_L134 N S4 (nI y) = some (sI (sI S4 202 1 (nI y)) 205 1 (nI (p + 1))) := by
          intro y
          unfold P_X2_nextToken_L134
          have g : gI (sI S4 202 1 (nI y)) 205 1 = nI p := by rw [gI_sI, if_neg (by omega)]; exact g205
          rw [bnd_eq, g, li1, nI_add, bnd_eq]
        have fin2 : ∀ y : Nat, TC (sI (sI S4 202 1 (nI y)) 205 1 (nI (p + 1))) (y, p, 0, p + 1) := by
          intro y
          refine ⟨?_, ?_, ?_, ?_⟩
          · rw [gI_sI, if_neg (by omega), gI_sI, if_pos ⟨rfl, rfl⟩]
          · rw [gI_sI, if_neg (by omega), gI_sI, if_neg (by omega)]; exact g203
          · rw [gI_sI, if_neg (by omega), gI_sI, if_neg (by omega)]; exact g204
          · rw [gI_sI, if_pos ⟨rfl, rfl⟩]
        have fin3 : ∀ y : Nat, nF S (sI (sI S4 202 1 (nI y)) 205 1 (nI (p + 1))) := fun y => nF_trans n4 (nF_trans (nF_sI (by omega)) (nF_sI (by omega)))
        by_cases d1 : tx.getD p 0 = 59
        · rw [if_pos (by rw [d1]), if_pos d1]
          exact ⟨_, fin 3, fin3 3, fin2 3⟩
        · rw [if_neg (by rw [nI_eq (by omega) (by omega)]; exact d1), if_neg d1]
          exact ⟨_, fin 4, fin3 4, fin2 4⟩
theorem c_next {N pos : Nat} {S : PSt} {tx : List Nat} (hN : 300 ≤ N) (hx : XOK tx) (hp : pos ≤ tx.length) (ht : CRtxt S tx) (hg : gI S 205 1 = nI pos) : ∃ T, P_X2_nextToken N S = some T ∧ nF S T ∧ TC T (tok tx pos) := by
  obtain ⟨T, e, k1, k3⟩ := c_skip (N := N) hx 201 pos N S hp (by omega) (by omega) ht hg
  obtain ⟨U, e2, k4, k5⟩ := c_tokAt (N := N) hN hx (rn_le tx isB 201 pos hp) (nF_txt k1 ht) k3
  refine ⟨U, ?_, nF_trans k1 k4, k5⟩
  unfold P_X2_nextToken
  rw [e, e2]
end
