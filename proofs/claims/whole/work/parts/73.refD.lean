section
/-! STAGE 2, the reference: told -/
theorem Bk_le : ∀ k, k < 7 → Bk k ≤ 111973 := by decide
theorem six_le : ∀ k, k < 7 → 6 ^ k ≤ 46656 := by decide
def a00 : Ac := (0, ([], 0), fun _ => 0)
theorem pfx_nil (ls : List (List Nat × Nat)) : ls.map (pfx []) = ls := by
  have : pfx [] = id := by funext x; rfl
  rw [this, List.map_id]
theorem m_search {N g b : Nat} {S : PSt} {t : Tau} {sn : List (Nat × Nat)} {q : Wk} (hN : 200000 ≤ N) (hM : MRt S t) (ok : TOK t) (hs : MRs S t sn) (hb : b ≤ 2) (hg : g ≤ tn t) (hq : dep S 0 q) (h0 : q.1 = 0) (ho : ∀ z, q.2.1 = some z → vpr t z) : ∃ S', P_X7_search N S (nI g) (nI b) = some S' ∧ sfr S S' ∧ AR S' (tn t - g) ((gl t (gdB t sn b) g (tn t - g) q).foldl (stepA (decide (b = 2))) a00) := by
  have on := ok.2.1
  obtain ⟨S0, hS0⟩ : ∃ S0, S0 = sA (sI (sI S 732 158 (nI 0)) 733 158 (nI 0)) 173 0 (nI 0) := ⟨_, rfl⟩
  have f0 : sfr S S0 := by rw [hS0]; exact sfr_trans (sfr_trans (sfr_sI (Or.inl rfl)) (sfr_sI (Or.inr rfl))) (sfr_sA (by omega))
  have q0 : dep S0 0 q := by rw [hS0]; exact hq
  have A0 : AR S0 (tn t - g) a00 := by
    refine ⟨?_, fun h => absurd rfl h⟩
    rw [hS0]; rfl
  have D0 : DS S0 t sn g 0 q [] a00 := ⟨MRt_sfr hM f0, MRs_sfr hs f0, q0, by omega, ho, rfl, fun j hj => absurd hj (Nat.not_lt_zero j), fun j hj => absurd hj (Nat.not_lt_zero j), A0, by decide⟩
  have h6 := six_le (tn t - g) (by omega)
  have hB := Bk_le (tn t - g) (by omega)
  obtain ⟨s, S', hs', he, hf, -, -, hA⟩ := m_dfs (N := N) (g := g) (b := b) ok hb (by omega) (tn t - g) 0 q [] a00 S0 (by omega) D0 (by show 0 + _ < _; omega) (by rw [hS0]; rfl)
  refine ⟨S', ?_, sfr_trans f0 hf, ?_⟩
  · unfold P_X7_search
    rw [hM.2.1, pk_sub hg, bnd_eq, li0, bnd_eq, bnd_eq, nI_clamp (by omega), bnd_eq, ← hS0]
    have e := he (N - s)
    rw [show N - s + s = N by omega] at e
    rw [e]
    obtain ⟨f, hf⟩ : ∃ f, N - s = f + 1 := ⟨N - s - 1, by omega⟩
    rw [hf, P_X7_search_L27]
    dsimp only
    rw [if_pos (by decide)]
  · rw [pfx_nil] at hA
    exact hA
theorem pick_fold : ∀ (ls : List (List Nat × Nat)) (a : Ac), a.1 ≠ 0 → ls.foldl pick (some a.2.1) = some (ls.foldl (stepA false) a).2.1
  | [], _, _ => rfl
  | x :: ls, a, h => by
    rw [List.foldl_cons, List.foldl_cons]
    have e : pick (some a.2.1) x = some (stepA false a x).2.1 := by
      show (if x.2 < a.2.1.2 then some x else some a.2.1) = some (if a.1 = 0 ∨ (false = false ∧ x.2 < a.2.1.2) then x else a.2.1)
      by_cases c : x.2 < a.2.1.2
      · rw [if_pos c, if_pos (Or.inr ⟨rfl, c⟩)]
      · rw [if_neg c, if_neg (by intro h'; rcases h' with h' | h'; exact h h'; exact c h'.2)]
    rw [e]
    exact pick_fold ls (stepA false a x) (by show a.1 + 1 ≠ 0; omega)
theorem pick_all (ls : List (List Nat × Nat)) : ls.foldl pick none = if ls = [] then none else some (ls.foldl (stepA false) a00).2.1 := by
  cases ls with
  | nil => rfl
  | cons x ls =>
    rw [if_neg (by intro h; cases h), List.foldl_cons, List.foldl_cons]
    exact pick_fold ls (stepA false a00 x) (by show 0 + 1 ≠ 0; omega)
theorem leaves_gl (t : Tau) (sn : List (Nat × Nat)) {b : Nat} (hb : b ≤ 1) : ∀ k i q, leaves t (decide (b = 1)) i k q = gl t (gdB t sn b) i k q
  | 0, _, _ => rfl
  | k + 1, i, q => by
    rw [leaves, gl]
    congr 1
    funext p
    rw [leaves_gl t sn hb k (i + 1) (wk t i p q)]
    unfold gdB
    by_cases c : b = 0
    · rw [if_pos c, c]
      rfl
    · have c1 : b = 1 := by omega
      rw [if_neg c, if_pos c1, decide_eq_true c1, Bool.true_and]
      cases wornP t q.2.2 p <;> rfl
theorem prs_nil {t : Tau} (h : tW t < 2) : prs t = [] := by
  cases h1 : prs t with
  | nil => rfl
  | cons p l =>
    have : vpr t p := prs_mem (by rw [h1]; exact List.mem_cons_self)
    obtain ⟨a, b⟩ := this
    omega
theorem inR5 (x : Int32) : x = -1 ∨ (∃ i, i ≤ 5 ∧ x = nI i) ∨ (x < -1 ∨ ¬ x < -1 ∧ nI 5 < x) := by
  rcases inR x 0 5 (by omega) (by omega) with ⟨k, -, hk, rfl⟩ | h | h
  · exact Or.inr (Or.inl ⟨k, hk, rfl⟩)
  · by_cases c : x = -1
    · exact Or.inl c
    · right; right; left
      rw [Int32.lt_iff_toInt_lt] at h ⊢
      rw [nI_toInt (by omega)] at h
      have h1 : x.toInt ≠ -1 := fun h2 => c (Int32.toInt_inj.mp (by rw [h2]; decide))
      show x.toInt < -1
      omega
  · right; right; right
    refine ⟨?_, h.2⟩
    intro h3
    apply h.1
    rw [Int32.lt_iff_toInt_lt] at h3 ⊢
    rw [nI_toInt (by omega)]
    have h3 : x.toInt < -1 := h3
    omega
def toldAns (t : Tau) (fz : Bool) (m : Mom) (x : Int32) : Int32 := if x = -1 then bestMin t fz m else bestRow t fz m x.toNatClampNeg
theorem m_told {N b : Nat} {S : PSt} {q : Sig} {x : Int32} (hN : 200000 ≤ N) (hb : b ≤ 1) (ok : SOK q) (hm : MR S q) (hx : x = -1 ∨ ∃ i, i ≤ 5 ∧ x = nI i) : ∃ S', P_X7_told N S x (nI b) = some (toldAns (qt q) (decide (b = 1)) (qm q) x, S') ∧ sfr S S' := by
  have o1 := ok.1
  have on := o1.2.1
  have og := ok.2.1.1
  have oW := o1.1
  have pre : P_X7_told N S x (nI b) = (if nI (qm q).1 = nI (tn (qt q)) then (some ((-9 : Int32), S)) else (if nI 2 ≤ nI (tW (qt q)) then (cal1 (P_X7_fromNow N S) fun S7 => cal1 (P_X7_search N S7 (gA S7 161 0) (nI b)) fun S9 => if (gI S9 732 158) = nI 0 then (some ((-9 : Int32), S9)) else (if (gI S9 702 158) ≤ x then (some ((-9 : Int32), S9)) else (cal2 (P_X7_in N S9 x (nI 0) ((gA S9 161 0) - nI 1)) fun r15 S13 => if r15 = nI 0 then (if nI 0 ≤ x then (gd (bin (x - (gA S13 161 0)) (ln 174)) <| some ((gA S13 174 (x - (gA S13 161 0)).toNatClampNeg), S13)) else (some ((gI S13 733 158), S13))) else (some ((-9 : Int32), S13))))) else (some ((-9 : Int32), S)))) := by
    have e1 : P_X7_in N S x (-1) 5 = some (nI 1, S) := by
      unfold P_X7_in
      rcases hx with rfl | ⟨i, hi, rfl⟩
      · rw [if_neg (by decide), if_neg (by decide), li1]
      · rw [if_neg (by intro h; rw [Int32.lt_iff_toInt_lt, nI_toInt (by omega)] at h; have h : (i : Int) < -1 := h; omega), li5, if_neg (nI_nlt hi (by omega)), li1]
    unfold P_X7_told
    rw [e1, cal2_s, li0, if_neg n1_0, nI_clamp (by omega), hm.2.1.1, hm.1.2.1, li2, hm.1.1]
    simp only [li1]
  rw [pre]
  unfold toldAns
  by_cases c1 : (qm q).1 = tn (qt q)
  · refine ⟨S, ?_, sfr_refl S⟩
    have e : bestOf (qt q) (decide (b = 1)) (qm q) = none := by unfold bestOf; rw [if_neg (by omega)]
    rw [c1, if_pos rfl]
    unfold bestMin bestRow
    rw [e]
    simp only [ite_self]
  · rw [if_neg (by rw [nI_eq (by omega) (by omega)]; exact c1)]
    have hlt : (qm q).1 < tn (qt q) := by omega
    by_cases c2 : 2 ≤ tW (qt q)
    · rw [if_pos (nI_le c2 (by omega))]
      obtain ⟨S7, hS7⟩ : ∃ S7, S7 = fnS S (qm q) := ⟨_, rfl⟩
      have sc7 : scr S S7 := by rw [hS7]; exact fnS_scr
      have hm7 := scrM hm sc7
      have hs7 : MRs S7 (qt q) (qs q) := ⟨ok.2.2.2.2.2.1, hm7.2.2.2.2.2.2.1, hm7.2.2.2.2.2.2.2.1, hm7.2.2.2.2.2.2.2.2.1, ok.2.2.2.2.2.2.1⟩
      have hd7 : dep S7 0 (0, (qm q).2.2.1, (qm q).2.2.2) := by rw [hS7]; exact fnS_dep ok.2.1.2.2.2.2.1
      obtain ⟨S9, e9, f9, A9⟩ := m_search (N := N) (g := (qm q).1) (b := b) hN hm7.1 o1 hs7 (by omega) og hd7 rfl ok.2.1.2.2.1
      refine ⟨S9, ?_, sfr_trans (sfr_scr sc7) f9⟩
      have hm9 := MR_sfr hm7 f9
      rw [m_fromNow (by omega) hm.2.1, cal1_s, ← hS7, hm7.2.1.1, e9, cal1_s, hm9.2.1.1, hm9.1.2.1]
      have eb : bestOf (qt q) (decide (b = 1)) (qm q) = if gl (qt q) (gdB (qt q) (qs q) b) (qm q).1 (tn (qt q) - (qm q).1) (0, (qm q).2.2.1, (qm q).2.2.2) = [] then none else some ((gl (qt q) (gdB (qt q) (qs q) b) (qm q).1 (tn (qt q) - (qm q).1) (0, (qm q).2.2.1, (qm q).2.2.2)).foldl (stepA false) a00).2.1 := by
        unfold bestOf
        rw [if_pos hlt, leaves_gl (qt q) (qs q) hb, pick_all]
      have b2 : decide (b = 2) = false := decide_eq_false (by omega)
      rw [b2] at A9
      have hlen := foldA_1 false (gl (qt q) (gdB (qt q) (qs q) b) (qm q).1 (tn (qt q) - (qm q).1) (0, (qm q).2.2.1, (qm q).2.2.2)) a00
      have hl6 := gl_len (qt q) (gdB (qt q) (qs q) b) (tn (qt q) - (qm q).1) (qm q).1 (0, (qm q).2.2.1, (qm q).2.2.2)
      have h66 := six_le (tn (qt q) - (qm q).1) (by omega)
      generalize gl (qt q) (gdB (qt q) (qs q) b) (qm q).1 (tn (qt q) - (qm q).1) (0, (qm q).2.2.1, (qm q).2.2.2) = ls at A9 eb hlen hl6
      obtain ⟨A1, A2⟩ := A9
      have hlen : (ls.foldl (stepA false) a00).1 = ls.length := by rw [hlen]; exact Nat.zero_add _
      rw [hlen] at A1 A2
      rw [A1]
      unfold bestMin bestRow
      rw [eb]
      by_cases c3 : ls = []
      · rw [c3, if_pos (by rfl), if_pos rfl]
        simp only [ite_self]
      · have hne : ls.length ≠ 0 := fun h => c3 (List.length_eq_zero_iff.mp h)
        obtain ⟨B1, B2, -⟩ := A2 hne
        rw [if_neg (by rw [nI_eq (by omega) (by omega)]; exact hne), if_neg c3]
        dsimp only
        rcases hx with rfl | ⟨i, hi, rfl⟩
        · have a1 : ¬ nI (tn (qt q)) ≤ -1 := by
            rw [Int32.le_iff_toInt_le, nI_toInt (by omega)]
            show ¬ ((tn (qt q) : Int) ≤ -1)
            omega
          rw [if_neg a1, m_in0 (Or.inl (by decide)), cal2_s, if_pos rfl, if_neg (by decide), if_pos rfl, B1]
        · have nm : ¬ nI i = -1 := by
            intro h
            have h1 := congrArg Int32.toInt h
            rw [nI_toInt (by omega)] at h1
            have h2 : (i : Int) = -1 := h1
            omega
          rw [if_neg nm, nI_clamp (by omega)]
          by_cases c4 : tn (qt q) ≤ i
          · rw [if_pos (nI_le c4 (by omega)), if_neg (by omega)]
          · rw [if_neg (nI_ge (by omega) (by omega))]
            by_cases c5 : i < (qm q).1
            · rw [m_ixIn (by omega) c5, cal2_s, if_neg n1_0, if_neg (by omega)]
            · rw [m_ixOut (by omega) (Or.inr ⟨nI_nlt (Nat.zero_le _) (by omega), nI_le (by omega) (by omega)⟩), cal2_s, if_pos rfl, if_pos (nI_le (Nat.zero_le _) (by omega)), if_pos (by omega), hm9.2.1.1, pk_sub (by omega), bin_nI (by omega), l174, gd_dec (by omega), nI_clamp (by omega), B2 _ (by omega)]
    · refine ⟨S, ?_, sfr_refl S⟩
      have e : bestOf (qt q) (decide (b = 1)) (qm q) = none := by
        unfold bestOf
        rw [if_pos hlt]
        obtain ⟨k, hk⟩ : ∃ k, tn (qt q) - (qm q).1 = k + 1 := ⟨tn (qt q) - (qm q).1 - 1, by omega⟩
        rw [hk, leaves, prs_nil (by omega)]
        rfl
      rw [if_neg (nI_ge (by omega) (by omega))]
      unfold bestMin bestRow
      rw [e]
      simp only [ite_self]
end
