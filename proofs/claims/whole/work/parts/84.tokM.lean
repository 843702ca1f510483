section
/-! STAGE 2, the text: how the reference reads tokens -/
def nG (S T : PSt) : Prop := (∀ f a, (a ≠ 158 ∨ (f < 716 ∨ 719 < f)) → gI T f a = gI S f a) ∧ (∀ f a, gJ T f a = gJ S f a) ∧ (∀ f a, gR T f a = gR S f a) ∧ (∀ a, gA T a = gA S a) ∧ ∀ a, gQ T a = gQ S a
theorem nG_refl (S : PSt) : nG S S := ⟨fun _ _ _ => rfl, fun _ _ => rfl, fun _ _ => rfl, fun _ => rfl, fun _ => rfl⟩
theorem nG_trans {S T U : PSt} (h : nG S T) (k : nG T U) : nG S U := ⟨fun f a x => (k.1 f a x).trans (h.1 f a x), fun f a => (k.2.1 f a).trans (h.2.1 f a), fun f a => (k.2.2.1 f a).trans (h.2.2.1 f a), fun a => (k.2.2.2.1 a).trans (h.2.2.2.1 a), fun a => (k.2.2.2.2 a).trans (h.2.2.2.2 a)⟩
theorem nG_sI {S : PSt} {f : Nat} {v : Int32} (h : 716 ≤ f ∧ f ≤ 719) : nG S (sI S f 158 v) := ⟨fun g a x => by rw [gI_sI, if_neg (by omega)], fun _ _ => rfl, fun _ _ => rfl, fun _ => rfl, fun _ => rfl⟩
def MRx (S : PSt) (tx : List Nat) : Prop := gI S 715 158 = nI tx.length ∧ ∀ i, i < tx.length → gA S 166 i = nI (tx.getD i 0)
theorem nG_x {S T : PSt} {tx : List Nat} (h : nG S T) (k : MRx S tx) : MRx T tx := ⟨(h.1 715 158 (by omega)).trans k.1, by rw [h.2.2.2.1]; exact k.2⟩
def TM (S : PSt) (k : Tk) : Prop := gI S 718 158 = nI k.1 ∧ gI S 717 158 = nI k.2.1 ∧ (k.1 = 4 ∨ gI S 719 158 = nI k.2.2.1) ∧ gI S 716 158 = nI k.2.2.2
def bM (tx : List Nat) (p : Nat) : Int32 := if tx.length ≤ p then -1 else nI (tx.getD p 0)
theorem m_byteAt {N p : Nat} {S : PSt} {tx : List Nat} (hx : XOK tx) (hp : p ≤ 200) (ht : MRx S tx) : P_X7_byteAt N S (nI p) = some (bM tx p, S) := by
  have hl := hx.1
  unfold P_X7_byteAt bM
  rw [ht.1]
  by_cases c : tx.length ≤ p
  · rw [if_pos (nI_le c (by omega)), if_pos c]
  · rw [if_neg (nI_ge (by omega) (by omega)), if_neg c, bin_nI (by omega), l166, gd_dec (by omega), nI_clamp (by omega), ht.2 p (by omega)]
theorem m_isSmall {N p : Nat} {S : PSt} {tx : List Nat} (hx : XOK tx) : P_X7_isSmall N S (bM tx p) = some (bI (decide (p < tx.length) && isL (tx.getD p 0)), S) := by
  unfold P_X7_isSmall bM
  rw [li97, li122]
  by_cases c : tx.length ≤ p
  · rw [if_pos c, decide_eq_false (by omega), Bool.false_and, m_in0 (Or.inl (by decide)), cal2_s, z1_0, gd_true]; rfl
  · have hb := hx.2 p (by omega)
    rw [if_neg c, decide_eq_true (by omega), Bool.true_and]
    unfold isL
    by_cases c1 : 97 ≤ tx.getD p 0
    · by_cases c2 : tx.getD p 0 ≤ 122
      · rw [m_in1 c1 c2 (by omega), cal2_s, z1_1, gd_true, decide_eq_true c1, decide_eq_true c2]; rfl
      · rw [m_in0 (Or.inr (nI_lt (by omega) (by omega))), cal2_s, z1_0, gd_true, decide_eq_true c1, decide_eq_false c2]; rfl
    · rw [m_in0 (Or.inl (nI_lt (by omega) (by omega))), cal2_s, z1_0, gd_true, decide_eq_false c1, Bool.false_and]; rfl
theorem m_isFigure {N p : Nat} {S : PSt} {tx : List Nat} (hx : XOK tx) : P_X7_isFigure N S (bM tx p) = some (bI (decide (p < tx.length) && isD (tx.getD p 0)), S) := by
  unfold P_X7_isFigure bM
  rw [li48, li57]
  by_cases c : tx.length ≤ p
  · rw [if_pos c, decide_eq_false (by omega), Bool.false_and, m_in0 (Or.inl (by decide)), cal2_s, z1_0, gd_true]; rfl
  · have hb := hx.2 p (by omega)
    rw [if_neg c, decide_eq_true (by omega), Bool.true_and]
    unfold isD
    by_cases c1 : 48 ≤ tx.getD p 0
    · by_cases c2 : tx.getD p 0 ≤ 57
      · rw [m_in1 c1 c2 (by omega), cal2_s, z1_1, gd_true, decide_eq_true c1, decide_eq_true c2]; rfl
      · rw [m_in0 (Or.inr (nI_lt (by omega) (by omega))), cal2_s, z1_0, gd_true, decide_eq_true c1, decide_eq_false c2]; rfl
    · rw [m_in0 (Or.inl (nI_lt (by omega) (by omega))), cal2_s, z1_0, gd_true, decide_eq_false c1, Bool.false_and]; rfl
theorem m_lets {N : Nat} {tx : List Nat} (hx : XOK tx) {x : Int32} : ∀ z p fuel S, p ≤ tx.length → 201 ≤ p + z → z < fuel → MRx S tx → gI S 716 158 = nI p → ∃ T, P_X7_next_L72 N fuel S x = (if ((gI T 716 158) - (gI T 717 158)) = (1 : Int32) then (P_X7_next_L118 N T x) else (P_X7_next_L118 N T (0 : Int32))) ∧ nG S T ∧ (∀ f, f ≠ 716 → gI T f 158 = gI S f 158) ∧ gI T 716 158 = nI (rn tx isL z p) := by
  have hl := hx.1
  intro z
  induction z with
  | zero => intro p fuel S h1 h2; omega
  | succ z ih =>
    intro p fuel S h1 h2 hf ht hg
    obtain ⟨fuel, rfl⟩ : ∃ z, fuel = z + 1 := ⟨fuel - 1, by omega⟩
    rw [P_X7_next_L72, rn]
    dsimp only
    rw [hg, m_byteAt hx (by omega) ht, cal2_s, m_isSmall hx, cal2_s]
    by_cases c : p < tx.length ∧ isL (tx.getD p 0) = true
    · rw [if_pos c, decide_eq_true c.1, c.2, if_neg (by decide), hg, li1, nI_add, bnd_eq]
      have n1 : nG S (sI S 716 158 (nI (p + 1))) := nG_sI (by omega)
      obtain ⟨T, e, k1, k2, k3⟩ := ih (p + 1) fuel (sI S 716 158 (nI (p + 1))) (by omega) (by omega) (by omega) (nG_x n1 ht) (by rw [gI_sI, if_pos ⟨rfl, rfl⟩])
      exact ⟨T, e, nG_trans n1 k1, fun f hf => by rw [k2 f hf, gI_sI, if_neg (by omega)], k3⟩
    · have cb : (decide (p < tx.length) && isL (tx.getD p 0)) = false := by
        cases h : (decide (p < tx.length) && isL (tx.getD p 0)) with
        | false => rfl
        | true =>
          rw [Bool.and_eq_true, decide_eq_true_eq] at h
          exact absurd h c
      rw [if_neg c, cb, if_pos (by decide)]
      exact ⟨S, rfl, nG_refl S, fun _ _ => rfl, hg⟩
theorem m_nums {N : Nat} {tx : List Nat} (hx : XOK tx) {x : Int32} : ∀ z p u v fuel S, p ≤ tx.length → 201 ≤ p + z → z < fuel → MRx S tx → gI S 716 158 = nI p → gI S 719 158 = nI u → u ≤ 999 → v = min u 100 → ∃ T u', P_X7_next_L136 N fuel S x = (if (99 : Int32) < (gI T 719 158) then (P_X7_next_L231 N T) else (if x = (48 : Int32) then (if ((gI T 716 158) - (gI T 717 158)) ≤ (1 : Int32) then (P_X7_next_L235 N T) else (P_X7_next_L231 N T)) else (P_X7_next_L235 N T))) ∧ nG S T ∧ (∀ f, f ≠ 716 → f ≠ 719 → gI T f 158 = gI S f 158) ∧ gI T 716 158 = nI (rn tx isD z p) ∧ gI T 719 158 = nI u' ∧ u' ≤ 999 ∧ nv tx z p v = min u' 100 := by
  have hl := hx.1
  intro z
  induction z with
  | zero => intro p u v fuel S h1 h2; omega
  | succ z ih =>
    intro p u v fuel S h1 h2 hf ht hg hg2 hu hv
    obtain ⟨fuel, rfl⟩ : ∃ z, fuel = z + 1 := ⟨fuel - 1, by omega⟩
    rw [P_X7_next_L136, rn, nv]
    dsimp only
    rw [hg, m_byteAt hx (by omega) ht, cal2_s, m_isFigure hx, cal2_s]
    by_cases c : p < tx.length ∧ isD (tx.getD p 0) = true
    · have hb := hx.2 p c.1
      have c3 : 48 ≤ tx.getD p 0 ∧ tx.getD p 0 ≤ 57 := by
        have h := c.2
        unfold isD at h
        rw [Bool.and_eq_true, decide_eq_true_eq, decide_eq_true_eq] at h
        exact h
      have eb : bM tx p = nI (tx.getD p 0) := by unfold bM; rw [if_neg (by omega)]
      rw [if_pos c, if_pos c, decide_eq_true c.1, c.2, if_neg (by decide), hg2, li99, hg, m_byteAt hx (by omega) ht, cal2_s, eb, li10, pk_mul, nI_add, li48, pk_sub (by omega)]
      have go : ∀ y : Nat, y ≤ 999 → min (10 * v + (tx.getD p 0 - 48)) 100 = min y 100 → ∃ T u', P_X7_next_L186 (P_X7_next_L136 N fuel) N S x (nI y) = (if (99 : Int32) < (gI T 719 158) then (P_X7_next_L231 N T) else (if x = (48 : Int32) then (if ((gI T 716 158) - (gI T 717 158)) ≤ (1 : Int32) then (P_X7_next_L235 N T) else (P_X7_next_L231 N T)) else (P_X7_next_L235 N T))) ∧ nG S T ∧ (∀ f, f ≠ 716 → f ≠ 719 → gI T f 158 = gI S f 158) ∧ gI T 716 158 = nI (rn tx isD z (p + 1)) ∧ gI T 719 158 = nI u' ∧ u' ≤ 999 ∧ nv tx z (p + 1) (min (10 * v + (tx.getD p 0 - 48)) 100) = min u' 100 := by
        intro y hy hy2
        unfold P_X7_next_L186
        have g6 : gI (sI S 719 158 (nI y)) 716 158 = nI p := by rw [gI_sI, if_neg (by omega)]; exact hg
        rw [bnd_eq, g6, li1, nI_add, bnd_eq]
        have n1 : nG S (sI (sI S 719 158 (nI y)) 716 158 (nI (p + 1))) := nG_trans (nG_sI (by omega)) (nG_sI (by omega))
        obtain ⟨T, u', e, k1, k2, k3, k4, k5, k6⟩ := ih (p + 1) y (min (10 * v + (tx.getD p 0 - 48)) 100) fuel _ (by omega) (by omega) (by omega) (nG_x n1 ht) (by rw [gI_sI, if_pos ⟨rfl, rfl⟩]) (by rw [gI_sI, if_neg (by omega), gI_sI, if_pos ⟨rfl, rfl⟩]) hy hy2
        rw [li1] at e
        exact ⟨T, u', e, nG_trans n1 k1, fun f hf hf2 => by rw [k2 f hf hf2, gI_sI, if_neg (by omega), gI_sI, if_neg (by omega)], k3, k4, k5, k6⟩
      simp only [li99, li48] at go
      by_cases c4 : u ≤ 99
      · rw [if_pos (nI_le c4 (by omega))]
        exact go _ (by omega) (by omega)
      · rw [if_neg (nI_ge (by omega) (by omega))]
        exact go u hu (by omega)
    · have cb : (decide (p < tx.length) && isD (tx.getD p 0)) = false := by
        cases h : (decide (p < tx.length) && isD (tx.getD p 0)) with
        | false => rfl
        | true =>
          rw [Bool.and_eq_true, decide_eq_true_eq] at h
          exact absurd h c
      rw [if_neg c, if_neg c, cb, if_pos (by decide)]
      exact ⟨S, u, rfl, nG_refl S, fun _ _ _ => rfl, hg, hg2, hu, hv⟩
theorem m_skip {N : Nat} {tx : List Nat} (hx : XOK tx) : ∀ z p fuel S, p ≤ tx.length → 201 ≤ p + z → z < fuel → MRx S tx → gI S 716 158 = nI p → ∃ T f, P_X7_next_L0 N fuel S = P_X7_next_L0 N (f + 1) T ∧ nG S T ∧ gI T 716 158 = nI (rn tx isB z p) := by
  have hl := hx.1
  intro z
  induction z with
  | zero => intro p fuel S h1 h2; omega
  | succ z ih =>
    intro p fuel S h1 h2 hf ht hg
    obtain ⟨fuel, rfl⟩ : ∃ z, fuel = z + 1 := ⟨fuel - 1, by omega⟩
    rw [rn]
    by_cases c : p < tx.length ∧ isB (tx.getD p 0) = true
    · have eb : bM tx p = nI 32 := by unfold bM; rw [if_neg (by omega), of_decide_eq_true c.2]
      have n1 : nG S (sI S 716 158 (nI (p + 1))) := nG_sI (by omega)
      obtain ⟨T, f, e, k1, k3⟩ := ih (p + 1) fuel (sI S 716 158 (nI (p + 1))) (by omega) (by omega) (by omega) (nG_x n1 ht) (by rw [gI_sI, if_pos ⟨rfl, rfl⟩])
      refine ⟨T, f, ?_, nG_trans n1 k1, by rw [if_pos c]; exact k3⟩
      rw [← e, P_X7_next_L0]
      dsimp only
      rw [hg, m_byteAt hx (by omega) ht, cal2_s, eb, li32, if_pos rfl, hg, li1, nI_add, bnd_eq]
    · exact ⟨S, fuel, rfl, nG_refl S, by rw [if_neg c]; exact hg⟩
theorem m_tokAt {N p fuel : Nat} {S : PSt} {tx : List Nat} (hN : 300 ≤ N) (hx : XOK tx) (hp : p ≤ tx.length) (ht : MRx S tx) (hg : gI S 716 158 = nI p) (hst : ¬ (p < tx.length ∧ isB (tx.getD p 0) = true)) : ∃ T, P_X7_next_L0 N (fuel + 1) S = some T ∧ nG S T ∧ TM T (tokAt tx p) := by
  have hl := hx.1
  obtain ⟨S4, hS4⟩ : ∃ S4, S4 = sI (sI S 717 158 (nI p)) 719 158 (nI 0) := ⟨_, rfl⟩
  have n4 : nG S S4 := by rw [hS4]; exact nG_trans (nG_sI (by omega)) (nG_sI (by omega))
  have n3 : nG S (sI S 717 158 (nI p)) := nG_sI (by omega)
  have t4 := nG_x n4 ht
  have t3 := nG_x n3 ht
  have g716 : gI S4 716 158 = nI p := by rw [hS4, gI_sI, if_neg (by omega), gI_sI, if_neg (by omega)]; exact hg
  have g3 : gI (sI S 717 158 (nI p)) 716 158 = nI p := by rw [gI_sI, if_neg (by omega)]; exact hg
  have g719 : gI S4 719 158 = nI 0 := by rw [hS4, gI_sI, if_pos ⟨rfl, rfl⟩]
  have g717 : gI S4 717 158 = nI p := by rw [hS4, gI_sI, if_neg (by omega), gI_sI, if_pos ⟨rfl, rfl⟩]
  have nb : ¬ bM tx p = nI 32 := by
    unfold bM
    by_cases c : tx.length ≤ p
    · rw [if_pos c]; decide
    · have hb := hx.2 p (by omega)
      rw [if_neg c, nI_eq (by omega) (by omega)]
      exact fun h => hst ⟨by omega, decide_eq_true h⟩
  rw [P_X7_next_L0]
  dsimp only
  rw [hg, m_byteAt hx (by omega) ht, cal2_s, li32, if_neg nb, hg, bnd_eq, g3, m_byteAt hx (by omega) t3, cal2_s, li0, ← hS4, bnd_eq]
  unfold tokAt
  by_cases c1 : tx.length ≤ p
  · have eb : bM tx p = -1 := by unfold bM; rw [if_pos c1]
    rw [eb, if_neg (by decide), if_pos c1, bnd_eq]
    refine ⟨_, rfl, nG_trans n4 (nG_sI (by omega)), ?_, ?_, Or.inr ?_, ?_⟩
    · rw [gI_sI, if_pos ⟨rfl, rfl⟩]
    · rw [gI_sI, if_neg (by omega)]; exact g717
    · rw [gI_sI, if_neg (by omega)]; exact g719
    · rw [gI_sI, if_neg (by omega)]; exact g716
  · have hb := hx.2 p (by omega)
    have eb : bM tx p = nI (tx.getD p 0) := by unfold bM; rw [if_neg c1]
    have eS : P_X7_isSmall N S4 (nI (tx.getD p 0)) = some (bI (isL (tx.getD p 0)), S4) := by
      have := m_isSmall (N := N) (p := p) (S := S4) hx
      rw [eb, decide_eq_true (by omega), Bool.true_and] at this
      exact this
    have eD : P_X7_isFigure N S4 (nI (tx.getD p 0)) = some (bI (isD (tx.getD p 0)), S4) := by
      have := m_isFigure (N := N) (p := p) (S := S4) hx
      rw [eb, decide_eq_true (by omega), Bool.true_and] at this
      exact this
    rw [eb, if_pos (nI_le (Nat.zero_le _) (by omega)), if_neg c1, eS, cal2_s]
    cases c2 : isL (tx.getD p 0) with
    | true =>
      rw [if_neg bI_t, if_pos rfl, li1, bnd_eq]
      have n5 : nG S4 (sI S4 718 158 (nI 1)) := nG_sI (by omega)
      obtain ⟨T, e, k1, k2, k3⟩ := m_lets (N := N) hx (x := nI (tx.getD p 0)) 201 p N (sI S4 718 158 (nI 1)) hp (by omega) (by omega) (nG_x n5 t4) (by rw [gI_sI, if_neg (by omega)]; exact g716)
      have T717 : gI T 717 158 = nI p := by rw [k2 717 (by omega), gI_sI, if_neg (by omega)]; exact g717
      have h3 := rn_ge tx isL 201 p
      have h4 := rn_le tx isL 201 p hp
      have fin : P_X7_next_L72 N N (sI S4 718 158 (nI 1)) (nI (tx.getD p 0)) = some (sI T 719 158 (nI (if rn tx isL 201 p = p + 1 then tx.getD p 0 else 0))) := by
        rw [e]
        unfold P_X7_next_L118
        rw [k3, T717, pk_sub h3, li1]
        by_cases c3 : rn tx isL 201 p = p + 1
        · rw [if_pos (by rw [c3, show p + 1 - p = 1 by omega]), if_pos c3, bnd_eq]
        · rw [if_neg (by rw [nI_eq (by omega) (by omega)]; omega), if_neg c3, li0, bnd_eq]
      rw [fin]
      refine ⟨_, rfl, nG_trans (nG_trans n4 n5) (nG_trans k1 (nG_sI (by omega))), ?_, ?_, Or.inr ?_, ?_⟩
      · rw [gI_sI, if_neg (by omega), k2 718 (by omega), gI_sI, if_pos ⟨rfl, rfl⟩]
      · rw [gI_sI, if_neg (by omega)]; exact T717
      · rw [gI_sI, if_pos ⟨rfl, rfl⟩]
      · rw [gI_sI, if_neg (by omega)]; exact k3
    | false =>
      rw [if_pos bI_f, if_neg (show ¬ false = true by decide), eD, cal2_s]
      cases c3 : isD (tx.getD p 0) with
      | true =>
        rw [if_neg bI_t, if_pos rfl, li2, bnd_eq]
        have n5 : nG S4 (sI S4 718 158 (nI 2)) := nG_sI (by omega)
        obtain ⟨T, u', e, k1, k2, k3, k4, k5, k6⟩ := m_nums (N := N) hx (x := nI (tx.getD p 0)) 201 p 0 0 N (sI S4 718 158 (nI 2)) hp (by omega) (by omega) (nG_x n5 t4) (by rw [gI_sI, if_neg (by omega)]; exact g716) (by rw [gI_sI, if_neg (by omega)]; exact g719) (by omega) rfl
        have T717 : gI T 717 158 = nI p := by rw [k2 717 (by omega) (by omega), gI_sI, if_neg (by omega)]; exact g717
        have h3 := rn_ge tx isD 201 p
        have h4 := rn_le tx isD 201 p hp
        have fin : P_X7_next_L136 N N (sI S4 718 158 (nI 2)) (nI (tx.getD p 0)) = some (sI T 718 158 (nI (if (tx.getD p 0 = 48 ∧ p + 1 < rn tx isD 201 p) ∨ 99 < nv tx 201 p 0 then 4 else 2))) := by
          rw [e]
          unfold P_X7_next_L231 P_X7_next_L235 P_X7_next_L236
          rw [k4, k3, T717, pk_sub h3, li99, li48, li1, li4, li2, bnd_eq, bnd_eq, k6]
          by_cases d3 : u' ≤ 99
          · rw [if_neg (nI_nlt d3 (by omega))]
            by_cases d1 : tx.getD p 0 = 48
            · rw [if_pos (by rw [d1])]
              by_cases d2 : rn tx isD 201 p ≤ p + 1
              · rw [if_pos (nI_le (by omega) (by omega)), if_neg (by omega)]
              · rw [if_neg (nI_ge (by omega) (by omega)), if_pos (Or.inl ⟨d1, by omega⟩)]
            · rw [if_neg (by rw [nI_eq (by omega) (by omega)]; exact d1), if_neg (by omega)]
          · rw [if_pos (nI_lt (by omega) (by omega)), if_pos (Or.inr (by omega))]
        rw [fin]
        refine ⟨_, rfl, nG_trans (nG_trans n4 n5) (nG_trans k1 (nG_sI (by omega))), ?_, ?_, ?_, ?_⟩
        · rw [gI_sI, if_pos ⟨rfl, rfl⟩]
        · rw [gI_sI, if_neg (by omega)]; exact T717
        · show (if (tx.getD p 0 = 48 ∧ p + 1 < rn tx isD 201 p) ∨ 99 < nv tx 201 p 0 then 4 else 2) = 4 ∨ _
          by_cases d : (tx.getD p 0 = 48 ∧ p + 1 < rn tx isD 201 p) ∨ 99 < nv tx 201 p 0
          · left; rw [if_pos d]
          · right
            rw [gI_sI, if_neg (by omega), k4]
            show nI u' = nI (nv tx 201 p 0)
            rw [k6, show min u' 100 = u' by omega]
        · rw [gI_sI, if_neg (by omega)]; exact k3
      | false =>
        rw [if_pos bI_f, if_neg (show ¬ false = true by decide), li59, li3, li4]
        have fin : ∀ y : Nat, P_X7_next_L254 N S4 (nI y) = some (sI (sI S4 718 158 (nI y)) 716 158 (nI (p + 1))) := by
          intro y
          unfold P_X7_next_L254
          have g : gI (sI S4 718 158 (nI y)) 716 158 = nI p := by rw [gI_sI, if_neg (by omega)]; exact g716
          rw [bnd_eq, g, li1, nI_add, bnd_eq]
        have fin2 : ∀ y : Nat, TM (sI (sI S4 718 158 (nI y)) 716 158 (nI (p + 1))) (y, p, 0, p + 1) := by
          intro y
          refine ⟨?_, ?_, Or.inr ?_, ?_⟩
          · rw [gI_sI, if_neg (by omega), gI_sI, if_pos ⟨rfl, rfl⟩]
          · rw [gI_sI, if_neg (by omega), gI_sI, if_neg (by omega)]; exact g717
          · rw [gI_sI, if_neg (by omega), gI_sI, if_neg (by omega)]; exact g719
          · rw [gI_sI, if_pos ⟨rfl, rfl⟩]
        have fin3 : ∀ y : Nat, nG S (sI (sI S4 718 158 (nI y)) 716 158 (nI (p + 1))) := fun y => nG_trans n4 (nG_trans (nG_sI (by omega)) (nG_sI (by omega)))
        by_cases d1 : tx.getD p 0 = 59
        · rw [if_pos (by rw [d1]), if_pos d1]
          exact ⟨_, fin 3, fin3 3, fin2 3⟩
        · rw [if_neg (by rw [nI_eq (by omega) (by omega)]; exact d1), if_neg d1]
          exact ⟨_, fin 4, fin3 4, fin2 4⟩
theorem m_next {N pos : Nat} {S : PSt} {tx : List Nat} (hN : 300 ≤ N) (hx : XOK tx) (hp : pos ≤ tx.length) (ht : MRx S tx) (hg : gI S 716 158 = nI pos) : ∃ T, P_X7_next N S = some T ∧ nG S T ∧ TM T (tok tx pos) := by
  obtain ⟨T, f, e, k1, k3⟩ := m_skip (N := N) hx 201 pos N S hp (by omega) (by omega) ht hg
  obtain ⟨U, e2, k4, k5⟩ := m_tokAt (N := N) (fuel := f) hN hx (rn_le tx isB 201 pos hp) (nG_x k1 ht) k3 (rn_stop hx.1 isB 201 pos hp (by omega))
  refine ⟨U, ?_, nG_trans k1 k4, k5⟩
  unfold P_X7_next
  rw [e, e2]
end
