section
/-! STAGE 2, calls: back -/
theorem m_backA {N b : Nat} {S : PSt} (hb : b ≤ 78) : ∀ fuel, ∃ S', P_X7_back_L30 N (fuel + 7) S (nI b) (nI 0) = P_X7_back_L30 N fuel S' (nI b) (nI 7) ∧ row1 S S' 161 (fun i => if i < 7 then gA S 163 (b + i) else gA S 161 i) := by
  intro fuel
  have h := loop_itr (fun f S y => P_X7_back_L30 N f S (nI b) y) (fun S1 i => sA S1 161 i (gA S 163 (b + i))) (fun k S' => row1 S S' 161 (fun i => if i < k then gA S 163 (b + i) else gA S 161 i)) S ((row1.refl S 161).cong (fun j => (if_neg (by omega)).symm)) 7 (fun k S1 hk h1 => ?_) (fun k S1 fuel hk h1 => ?_)
  · exact ⟨_, h.1 fuel, h.2⟩
  · refine (row1_sA h1).cong (fun j => ?_)
    show (if j = k then gA S 163 (b + k) else if j < k then gA S 163 (b + j) else gA S 161 j) = if j < k + 1 then gA S 163 (b + j) else gA S 161 j
    by_cases c : j = k
    · subst c
      rw [if_pos rfl, if_pos (by omega)]
    · rw [if_neg c]
      by_cases c2 : j < k
      · rw [if_pos c2, if_pos (by omega)]
      · rw [if_neg c2, if_neg (by omega)]
  · show P_X7_back_L30 N (fuel + 1) S1 (nI b) (nI k) = _
    rw [P_X7_back_L30]
    dsimp only
    rw [li7, if_neg (nI_ge hk (by omega)), nI_add, bin_nI (by omega), l163, gd_dec (by omega), bin_nI (by omega), l161, gd_dec (by omega), nI_clamp (by omega), nI_clamp (by omega), bnd_eq, li1, nI_add, bnd_eq, h1.2.2.2.2.1 163 (by omega)]
theorem m_backB {N b : Nat} {S : PSt} (hb : b ≤ 78) : ∀ fuel, ∃ S', P_X7_back_L71 N (fuel + 70) S (nI b) (nI 0) = P_X7_back_L71 N fuel S' (nI b) (nI 70) ∧ row1 S S' 162 (fun i => if i < 70 then gA S 163 (b + 8 + i) else gA S 162 i) := by
  intro fuel
  have h := loop_itr (fun f S y => P_X7_back_L71 N f S (nI b) y) (fun S1 i => sA S1 162 i (gA S 163 (b + 8 + i))) (fun k S' => row1 S S' 162 (fun i => if i < k then gA S 163 (b + 8 + i) else gA S 162 i)) S ((row1.refl S 162).cong (fun j => (if_neg (by omega)).symm)) 70 (fun k S1 hk h1 => ?_) (fun k S1 fuel hk h1 => ?_)
  · exact ⟨_, h.1 fuel, h.2⟩
  · refine (row1_sA h1).cong (fun j => ?_)
    show (if j = k then gA S 163 (b + 8 + k) else if j < k then gA S 163 (b + 8 + j) else gA S 162 j) = if j < k + 1 then gA S 163 (b + 8 + j) else gA S 162 j
    by_cases c : j = k
    · subst c
      rw [if_pos rfl, if_pos (by omega)]
    · rw [if_neg c]
      by_cases c2 : j < k
      · rw [if_pos c2, if_pos (by omega)]
      · rw [if_neg c2, if_neg (by omega)]
  · show P_X7_back_L71 N (fuel + 1) S1 (nI b) (nI k) = _
    rw [P_X7_back_L71]
    dsimp only
    rw [li70, if_neg (nI_ge hk (by omega)), li7, li1, nI_add, nI_add, nI_add, bin_nI (by omega), l163, gd_dec (by omega), bin_nI (by omega), l162, gd_dec (by omega), nI_clamp (by omega), nI_clamp (by omega), bnd_eq, nI_add, bnd_eq, h1.2.2.2.2.1 163 (by omega)]
theorem momAt_of {S S' : PSt} {a a' b b' : Nat} {m : Mom} (h : momAt S a b m) (k : ∀ z, z < 7 → gA S' a' (b' + z) = gA S a (b + z)) : momAt S' a' b' m := by
  obtain ⟨h1, h2, h3, h4⟩ := h
  refine ⟨(k 0 (by omega)).trans h1, (k 1 (by omega)).trans h2, (k 2 (by omega)).trans h3, fun w hw => ?_⟩
  have := k (3 + w) (by omega)
  rw [← Nat.add_assoc, ← Nat.add_assoc] at this
  exact this.trans (h4 w hw)
theorem step_back {N : Nat} {S : PSt} (hN : 100 ≤ N) (x : Int32) (h : Inv S) : ∃ r S1 S2, P_X6_back N S x = some (r, S1) ∧ P_X7_back N S1 x = some (r, S2) ∧ Inv S2 := by
  obtain ⟨q, ok, hc, hm⟩ := h
  rcases inR x 0 1 (by omega) (by omega) with ⟨j, -, hj, rfl⟩ | c
  · obtain ⟨im1, im2⟩ := hc.2.2.1
    obtain ⟨j1, j2, j3⟩ := im1 j (by omega)
    have hkv := kv49 (j := j) (by omega)
    have preC : P_X6_back N S (nI j) = if flag (qi q j) = nI 0 then some (-2, S) else (gd (bin (nI j) (ln 48)) <| bnd (gQ S 48 (nI j).toNatClampNeg) fun t6 => gd (isk t6 5) <| cal1 (P_X5_copy N S 24 t6) fun S8 => cal1 (P_X6_moved N S8) fun S10 => some ((gI S10 1 25), S10)) := by
      unfold P_X6_back
      rw [li0, li2, if_neg (nI_nlt (by omega) (by omega)), if_pos (nI_lt (by omega) (by omega)), bin_nI (by omega), l97, gd_dec (by omega), nI_clamp (by omega), j3, bin_nI (by omega)]
    have preM : ∀ T, MR T q → P_X7_back N T (nI j) = if flag (qi q j) = nI 0 then some (-2, T) else (bnd (nI 78 * nI j) fun v19 => P_X7_back_L30 N N T v19 (nI 0)) := by
      intro T hmT
      unfold P_X7_back
      rw [li0, li1, m_in1 (by omega) hj (by omega), cal2_s, if_neg n1_0, bin_nI (by omega), l164, gd_dec (by omega), nI_clamp (by omega), hmT.2.2.2.2.1 j (by omega), li78]
    cases hq : qi q j with
    | none =>
      refine ⟨-2, S, S, ?_, ?_, q, ok, hc, hm⟩
      · rw [preC, hq, if_pos (by decide)]
      · rw [preM S hm, hq, if_pos (by decide)]
    | some r =>
      obtain ⟨or1, or2, or3⟩ := ok.2.2.2.2.1 j r hq
      have hf : ¬ flag (some r) = nI 0 := by show ¬ (1 : Int32) = nI 0; decide
      obtain ⟨S1, e1, v1, ka, v2⟩ := c_vcopy (N := N) (by omega) (show kd 24 = 5 from rfl) hkv (by omega) (im2 j r (by omega) hq) j2 hc.2.1.2 or2
      have ka2 : ∀ a, (a < 24 ∨ 47 < a) → ag S S1 a := fun a ha => ka a (by omega)
      have hm1 := hm.eqM (eqM_move ka2)
      have e25 : gI (mvS S1) 1 25 = nI r.1.2.1 := ((ag_mvS (S := S1) (a := 25) (by omega) (by omega)).1 1).trans v1.1.2.1
      have eC : P_X6_back N S (nI j) = some (nI r.1.2.1, mvS S1) := by
        rw [preC, hq, if_neg hf, bin_nI (by omega), l48, gd_dec (by omega), nI_clamp (by omega), j1, bnd_eq, isk_of hkv, gd_true, e1, cal1_s, c_moved, cal1_s, e25]
      obtain ⟨A, eA, rA⟩ := m_backA (N := N) (b := 78 * j) (S := mvS S1) (by omega) (N - 7)
      obtain ⟨B, eB, rB⟩ := m_backB (N := N) (b := 78 * j) (S := sI A 708 158 (nI r.2.length)) (by omega) (N - 70)
      rw [show N - 7 + 7 = N by omega] at eA
      rw [show N - 70 + 70 = N by omega] at eB
      obtain ⟨n1, n2, n3⟩ := hm1.2.2.2.2.2.1 j r (by omega) hq
      have b161 : ∀ i, gA B 161 i = if i < 7 then gA (mvS S1) 163 (78 * j + i) else gA (mvS S1) 161 i := fun i => by
        rw [rB.2.2.2.2.1 161 (by omega)]; exact rA.2.2.2.2.2 i
      have b162 : ∀ i, gA B 162 i = if i < 70 then gA (mvS S1) 163 (78 * j + 8 + i) else gA (mvS S1) 162 i := fun i => by
        have h1 : gA B 162 i = if i < 70 then gA A 163 (78 * j + 8 + i) else gA A 162 i := rB.2.2.2.2.2 i
        rw [h1, rA.2.2.2.2.1 163 (by omega), rA.2.2.2.2.1 162 (by omega)]
      have h161 : momAt B 161 0 r.1 := momAt_of n1 (fun z hz => by rw [Nat.zero_add, b161, if_pos hz])
      have hN3 : MRn B r.1 := by
        obtain ⟨x1, x2, x3, x4⟩ := h161
        rw [Nat.zero_add] at x2 x3
        refine ⟨x1, x2, x3, fun w hw => ?_⟩
        have := x4 w hw
        rw [Nat.zero_add] at this
        exact this
      have hP3 : MRpast B r.2 := by
        refine ⟨?_, fun i hi => momAt_of (n3 i hi) (fun z hz => ?_)⟩
        · rw [rB.1, gI_sI, if_pos ⟨rfl, rfl⟩]
        · rw [b162, if_pos (by omega), ← Nat.add_assoc]
      have eM : P_X7_back N (mvS S1) (nI j) = some (nI r.1.2.1, B) := by
        obtain ⟨f, hf1⟩ : ∃ f, N - 7 = f + 1 := ⟨N - 8, by omega⟩
        obtain ⟨f2, hf2⟩ : ∃ f, N - 70 = f + 1 := ⟨N - 71, by omega⟩
        have g7 : gA A 163 (78 * j + 7) = nI r.2.length := by rw [rA.2.2.2.2.1 163 (by omega)]; exact n2
        rw [preM _ hm1, hq, if_neg hf, pk_mul, bnd_eq, eA, hf1, P_X7_back_L30]
        dsimp only
        rw [li7, if_pos (nI_le (by omega) (by omega)), nI_add, bin_nI (by omega), l163, gd_dec (by omega), nI_clamp (by omega), g7, bnd_eq, li0, eB, hf2, P_X7_back_L71]
        dsimp only
        rw [li70, if_pos (nI_le (by omega) (by omega)), li1, nI_clamp (by omega), hN3.2.1]
      exact ⟨_, _, _, eC, eM, move_end ok hc hm ka2 ⟨v1, v2⟩ or1 or2 or3 hN3 hP3 (((mvM_row rA (Or.inl rfl)).trans mvM_sI).trans (mvM_row rB (Or.inr rfl)))⟩
  · refine ⟨-1, S, S, ?_, ?_, q, ok, hc, hm⟩
    · unfold P_X6_back
      rw [li0]
      rcases c with c | ⟨c, d⟩
      · rw [if_pos c]
      · rw [if_neg c, if_neg (by rw [Int32.not_lt]; rw [Int32.lt_iff_toInt_lt] at d; rw [Int32.le_iff_toInt_le]; rw [nI_toInt (by omega)] at d; show (2 : Int) ≤ _; omega)]
    · unfold P_X7_back
      rw [li0, li1, m_in0 (by rcases c with c | ⟨c, d⟩; exact Or.inl c; exact Or.inr d), cal2_s, if_pos rfl]
end
