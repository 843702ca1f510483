/-! STAGE 2, the reference: questions of what is there -/
theorem m_in1 {N : Nat} {S : PSt} {lo hi k : Nat} (h1 : lo ≤ k) (h2 : k ≤ hi) (hh : hi < 2 ^ 31) : P_X7_in N S (nI k) (nI lo) (nI hi) = some (nI 1, S) := by
  unfold P_X7_in
  rw [if_neg (nI_nlt h1 (by omega)), if_neg (nI_nlt h2 (by omega)), li1]
theorem m_in0 {N : Nat} {S : PSt} {x y z : Int32} (h : x < y ∨ z < x) : P_X7_in N S x y z = some (nI 0, S) := by
  unfold P_X7_in
  by_cases c : x < y
  · rw [if_pos c, li0]
  · rw [if_neg c, if_pos (by rcases h with h | h; exact absurd h c; exact h), li0]
theorem z1_0 : z1 (nI 0) = true := by decide
theorem z1_1 : z1 (nI 1) = true := by decide
theorem n1_0 : ¬ nI 1 = nI 0 := by decide
/-- whether x is the number of a thing of n -/
def isIx (x : Int32) (n : Nat) : Prop := ∃ k, k < n ∧ x = nI k
theorem ix_or (x : Int32) (n : Nat) (hn : n < 2 ^ 31) : isIx x n ∨ ¬ isIx x n ∧ (x < nI 0 ∨ (¬ x < nI 0 ∧ nI n ≤ x)) := by
  rcases pk_ix x hn with h | h | ⟨j, h1, h2⟩
  · refine Or.inr ⟨?_, Or.inl (by rw [← li0]; exact h)⟩
    rintro ⟨k, hk, rfl⟩
    exact nI_pos (by omega) h
  · by_cases c : isIx x n
    · exact Or.inl c
    · by_cases d : x < nI 0
      · exact Or.inr ⟨c, Or.inl d⟩
      · exact Or.inr ⟨c, Or.inr ⟨d, h⟩⟩
  · exact Or.inl ⟨j, h1, h2⟩
theorem m_ixIn {N : Nat} {S : PSt} {n k : Nat} (hn : n < 2 ^ 30) (hk : k < n) : P_X7_in N S (nI k) (nI 0) (nI n - nI 1) = some (nI 1, S) := by
  rw [pk_sub (by omega)]
  exact m_in1 (by omega) (by omega) (by omega)
theorem m_ixOut {N : Nat} {S : PSt} {n : Nat} {x : Int32} (hn : n < 2 ^ 30) (h : x < nI 0 ∨ (¬ x < nI 0 ∧ nI n ≤ x)) : P_X7_in N S x (nI 0) (nI n - nI 1) = some (nI 0, S) := by
  apply m_in0
  rcases h with h | ⟨h, h2⟩
  · exact Or.inl h
  · right
    rw [Int32.lt_iff_toInt_lt, pk_sub_toInt (by omega) (by omega)]
    rw [Int32.le_iff_toInt_le, nI_toInt (by omega)] at h2
    omega
theorem m_isWalker1 {N : Nat} {S : PSt} {t : Tau} {k : Nat} (hM : MRt S t) (ok : TOK t) (hk : k < tW t) : P_X7_isWalker N S (nI k) = some (nI 1, S) := by
  have o := ok.1
  unfold P_X7_isWalker
  rw [hM.1, li0, li1, m_ixIn (by omega) hk, cal2_s, z1_1, gd_true]
theorem m_isWalker0 {N : Nat} {S : PSt} {t : Tau} {x : Int32} (hM : MRt S t) (ok : TOK t) (h : x < nI 0 ∨ (¬ x < nI 0 ∧ nI (tW t) ≤ x)) : P_X7_isWalker N S x = some (nI 0, S) := by
  have o := ok.1
  unfold P_X7_isWalker
  rw [hM.1, li0, li1, m_ixOut (by omega) h, cal2_s, z1_0, gd_true]
theorem m_isStretch1 {N : Nat} {S : PSt} {t : Tau} {k : Nat} (hM : MRt S t) (ok : TOK t) (hk : k < tn t) : P_X7_isStretch N S (nI k) = some (nI 1, S) := by
  have o := ok.2.1
  unfold P_X7_isStretch
  rw [hM.2.1, li0, li1, m_ixIn (by omega) hk, cal2_s, z1_1, gd_true]
theorem m_isStretch0 {N : Nat} {S : PSt} {t : Tau} {x : Int32} (hM : MRt S t) (ok : TOK t) (h : x < nI 0 ∨ (¬ x < nI 0 ∧ nI (tn t) ≤ x)) : P_X7_isStretch N S x = some (nI 0, S) := by
  have o := ok.2.1
  unfold P_X7_isStretch
  rw [hM.2.1, li0, li1, m_ixOut (by omega) h, cal2_s, z1_0, gd_true]
/-- whether x is a pair that is there -/
def isPr (t : Tau) (x : Int32) : Prop := ∃ p, vpr t p ∧ x = nI p
theorem vpr_lt {t : Tau} {p : Nat} (ok : TOK t) (h : vpr t p) : 1 ≤ p ∧ p ≤ 23 := by
  obtain ⟨a, b⟩ := h
  have := ok.1
  omega
theorem m_isPair1 {N : Nat} {S : PSt} {t : Tau} {p : Nat} (hM : MRt S t) (ok : TOK t) (hp : vpr t p) : P_X7_isPair N S (nI p) = some (nI 1, S) := by
  have o := vpr_lt ok hp
  obtain ⟨a, b⟩ := hp
  have e1 : nI p / nI 10 = nI (p / 10) := pk_div (by omega) (by omega) (by omega)
  have e2 : nI p - nI (p / 10) * nI 10 = nI (p % 10) := by rw [← e1]; exact pk_rem (by omega) (by omega) (by omega)
  unfold P_X7_isPair
  rw [li1, li23, m_in1 (by omega) (by omega) (by omega), cal2_s]
  simp only [li10, e1, e2, li0]
  rw [if_neg n1_0, if_neg (nI_ge a (by omega)), m_isWalker1 hM ok b, cal2_s, if_neg n1_0]
theorem m_isPair0 {N : Nat} {S : PSt} {t : Tau} {x : Int32} (hM : MRt S t) (ok : TOK t) (h : ¬ isPr t x) : P_X7_isPair N S x = some (nI 0, S) := by
  have oW := ok.1
  unfold P_X7_isPair
  rw [li1, li23]
  rcases inR x 1 23 (by omega) (by omega) with ⟨p, p1, p2, rfl⟩ | c
  · have e1 : nI p / nI 10 = nI (p / 10) := pk_div (by omega) (by omega) (by omega)
    have e2 : nI p - nI (p / 10) * nI 10 = nI (p % 10) := by rw [← e1]; exact pk_rem (by omega) (by omega) (by omega)
    rw [m_in1 p1 p2 (by omega), cal2_s]
    simp only [li10, e1, e2, li0]
    rw [if_neg n1_0]
    by_cases c1 : p / 10 < p % 10
    · rw [if_neg (nI_ge c1 (by omega))]
      have c2 : ¬ p % 10 < tW t := fun c2 => h ⟨p, ⟨c1, c2⟩, rfl⟩
      rw [m_isWalker0 hM ok (Or.inr ⟨nI_nlt (by omega) (by omega), nI_le (by omega) (by omega)⟩), cal2_s, if_pos rfl]
    · rw [if_pos (nI_le (by omega) (by omega))]
  · rw [m_in0 (by rcases c with c | c; exact Or.inl c; exact Or.inr c.2), cal2_s, li0, if_pos rfl]
