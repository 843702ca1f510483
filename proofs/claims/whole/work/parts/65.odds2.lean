section
/-! STAGE 2, calls: odds -/
theorem ch_0 (n : Nat) : ch n 0 = 1 := by cases n <;> rfl
theorem p10_le {n : Nat} (h : n ≤ 6) : 10 ^ n ≤ 1000000 ∧ 0 < 10 ^ n := ⟨Nat.pow_le_pow_right (by omega) h, Nat.pow_pos (by omega)⟩
theorem step_odds {N : Nat} {S : PSt} (hN : 300 ≤ N) (x y z u : Int32) (h : Inv S) : ∃ r S1 S2, P_X6_odds N S x y z u = some (r, S1) ∧ P_X7_odds N S1 x y z u = some (r, S2) ∧ Inv S2 := by
  obtain ⟨q, ok, hc, hm⟩ := h
  obtain ⟨r, d, hrd, hr, hd, hT, -, -, -⟩ := hc.1
  obtain ⟨hk, -, hkr, -⟩ := isk4 hrd
  have o1 := ok.1
  have on := o1.2.1
  have og := ok.2.1.1
  have bad : P_X6_odds N S x y z u = some (-1, S) → P_X7_odds N S x y z u = some (-1, S) → ∃ r S1 S2, P_X6_odds N S x y z u = some (r, S1) ∧ P_X7_odds N S1 x y z u = some (r, S2) ∧ Inv S2 := fun h1 h2 => ⟨-1, S, S, h1, h2, q, ok, hc, hm⟩
  by_cases cp : isPr (qt q) x
  · obtain ⟨p, hpp, rfl⟩ := cp
    have preC : P_X6_odds N S (nI p) y z u = (if y < nI 0 then (some ((-1 : Int32), S)) else (if nI 10 < y then (some ((-1 : Int32), S)) else (if z < nI 0 then (some ((-1 : Int32), S)) else (if nI 9999 < z then (some ((-1 : Int32), S)) else (if u < nI 0 then (some ((-1 : Int32), S)) else (if u ≤ nI 1 then (cal2 (P_X6_minutesThrough N S (nI p)) fun r36 S34 => bnd (gR S34 601 0) fun t37 => gd (isk t37 4) <| cal2 (P_X4_slimyFrom N S34 t37 (gI S34 0 25)) fun r41 S39 => P_X6_odds_L80 N N S39 y z u r36 r41 (nI 0) (nI 1) (nI 0)) else (some ((-1 : Int32), S)))))))) := by
      unfold P_X6_odds
      simp only [bnd_eq, hr, hk, gd_true]
      rw [c_hasPair1 hT o1 hpp, cal2_s, li0, if_neg n1_0, li10, li9999]
      simp only [li1]
    have preM : ∀ T, MR T q → P_X7_odds N T (nI p) y z u = (cal2 (P_X7_in N T y (nI 0) (nI 10)) fun r26 S24 => if r26 = nI 0 then (some ((-1 : Int32), S24)) else (cal2 (P_X7_in N S24 z (nI 0) (nI 9999)) fun r30 S28 => if r30 = nI 0 then (some ((-1 : Int32), S28)) else (cal2 (P_X7_in N S28 u (nI 0) (nI 1)) fun r34 S32 => if r34 = nI 0 then (some ((-1 : Int32), S32)) else (cal2 (P_X7_walksAll N S32 (nI p)) fun r38 S36 => bnd (gA S36 161 0) fun v39 => P_X7_odds_L59 N N S36 y z u r38 (nI 0) v39)))) := by
      intro T hmT
      unfold P_X7_odds
      rw [m_isPair1 hmT.1 o1 hpp, cal2_s, li0, if_neg n1_0, li10, li9999, li1, nI_clamp (by omega)]
    rcases inR y 0 10 (by omega) (by omega) with ⟨xx, -, hx, rfl⟩ | cy
    · rcases inR z 0 9999 (by omega) (by omega) with ⟨m, -, hmm, rfl⟩ | cz
      · rcases inR u 0 1 (by omega) (by omega) with ⟨w, -, hw, rfl⟩ | cu
        · obtain ⟨T, e, s⟩ := c_through (N := N) (by omega) ok hc hpp
          have hway := way_le ok hpp (k := tn (qt q) - (qm q).1) (by omega)
          have hmT := hm.eqM (tr_eqM s)
          have hcT := CR_tr ok hc s
          have hRT : CRt T r (qt q) := tr_t (by omega) s hT
          have hrT : gR T 601 0 = r := ((s 0 (by omega) (by omega)).2.2.1 _).trans hr
          obtain ⟨S2, e2, s2, -⟩ := m_walksAll (N := N) (by omega) hmT.1 o1 hmT.2.1 ok.2.1 hpp
          have hg2 : gA S2 161 0 = nI (qm q).1 := by rw [s2.2.2.2.2 161 (by omega) (by omega) (by omega)]; exact hmT.2.1.1
          have g0 : gI T 0 25 = nI (qm q).1 := hcT.2.1.1.1.1
          obtain ⟨n, hn⟩ : ∃ n, n = sumF (tM (qt q)) (qm q).1 (tn (qt q) - (qm q).1) := ⟨_, rfl⟩
          have hn6 : n ≤ 6 := by
            have := sumF_le (f := tM (qt q)) (a := (qm q).1) (b := 1) (n := tn (qt q) - (qm q).1) (fun i hi => (o1.2.2.2.2.2.2 ((qm q).1 + i) (by omega)).2.2.2.2.1)
            omega
          obtain ⟨W, hW⟩ : ∃ W, W = way q p (tn (qt q) - (qm q).1) := ⟨_, rfl⟩
          rw [← hW] at e hway
          have hWb : W < 2 ^ 20 := by omega
          obtain ⟨p1, p2⟩ := p10_le hn6
          obtain ⟨r1, r2⟩ := rf_up n (by omega) xx (by omega) (c7 W m) (c7_lt W m)
          obtain ⟨g, g0', g31, gC, gM⟩ := gcd_all (N := N) (S := T) (T := S2) 20 (up n xx (c7 W m) (n + 1)) (10 ^ n) (by omega) (by omega) (by omega) (Or.inr p2)
          refine ⟨if nI w = nI 0 then nI (up n xx (c7 W m) (n + 1)) / nI g else nI (10 ^ n) / nI g, T, S2, ?_, ?_, ask_end ok hc hm s s2⟩
          · have es : P_X4_slimyFrom N T r (nI (qm q).1) = some (nI n, T) := by
              unfold P_X4_slimyFrom
              have := c_slimy (N := N) (g := (qm q).1) hkr hRT o1 (tn (qt q) - (qm q).1) 0 N (by omega) (by omega)
              rw [li0, if_neg (nI_nlt (by omega) (by omega)), bnd_eq]
              rw [Nat.zero_add, ← hn] at this
              exact this
            rw [preC, if_neg (nI_nlt (by omega) (by omega)), if_neg (nI_nlt (by omega) (by omega)), if_neg (nI_nlt (by omega) (by omega)), if_neg (nI_nlt (by omega) (by omega)), if_neg (nI_nlt (by omega) (by omega)), if_pos (nI_le hw (by omega)), e, cal2_s, hrT, bnd_eq, hk, gd_true, g0, es, cal2_s]
            obtain ⟨f', ef⟩ := c_odds_L (N := N) (n := n) (x := xx) (w := W) (m := m) (S := T) (wh := nI w) (by omega) hn6 hx hWb hmm (n + 1) 0 (N - (n + 1) - 1) (by omega)
            rw [show N - (n + 1) - 1 + (n + 1) + 1 = N by omega, ch_0] at ef
            refine (show _ = _ from ef).trans ?_
            rw [P_X6_odds_L80]
            dsimp only
            have ec : P_X6_commonDivisor N T (nI (up n xx (c7 W m) (n + 1))) (nI (10 ^ n)) = some (nI g, T) := by
              unfold P_X6_commonDivisor
              rw [li0]
              exact gC 0 N (by omega) (by omega)
            rw [if_pos (nI_lt (by omega) (by omega)), li10, c_powerN (by omega) (by omega), cal2_s, ec, cal2_s, nz_nI g0' g31, gd_true, gd_true, li0]
            by_cases c : nI w = nI 0
            · rw [if_pos c, if_pos c]
            · rw [if_neg c, if_neg c]
          · rw [preM T hmT, m_in1 (by omega) hx (by omega), cal2_s, if_neg n1_0, m_in1 (by omega) hmm (by omega), cal2_s, if_neg n1_0, m_in1 (by omega) hw (by omega), cal2_s, if_neg n1_0, e2, cal2_s, hg2, bnd_eq]
            have a1 := m_slimy (N := N) (g := (qm q).1) (x2 := nI xx) (x3 := nI m) (x4 := nI w) (x5 := nI W) (hmT.1.scr s2) o1 (tn (qt q) - (qm q).1) 0 N (by omega) (by omega)
            rw [Nat.zero_add, ← hn] at a1
            have a2 := m_pow10 (N := N) (n := n) (S := S2) (x2 := nI xx) (x3 := nI m) (x4 := nI w) (x5 := nI W) (x7 := nI 0) hn6 n 0 N (by omega) (by omega)
            have h64 : 2 ^ n ≤ 64 := Nat.pow_le_pow_right (by omega) hn6
            have a3 := m_odds_out (N := N) (n := n) (x := xx) (w := W) (m := m) (S := S2) (wh := nI w) (x8 := nI (10 ^ n)) (by omega) hn6 hx hWb hmm (2 ^ n) 0 N (by omega) (by omega)
            have a4 := gM N (nI w) (nI (up n xx (c7 W m) (n + 1))) (nI (10 ^ n)) (by omega)
            rw [r1] at a3
            have e3 : P_X7_odds_L59 N N S2 (nI xx) (nI m) (nI w) (nI W) (nI 0) (nI (qm q).1) = if nI w = nI 0 then some (nI (up n xx (c7 W m) (n + 1)) / nI g, S2) else some (nI (10 ^ n) / nI g, S2) := (show _ = _ from a1).trans ((show _ = _ from a2).trans ((show _ = _ from a3).trans a4))
            have e4 : (al (qt q) p (qm q).1 (0, (qm q).2.2.1, (qm q).2.2.2) (tn (qt q) - (qm q).1)).1 = W := hW.symm
            rw [e4, e3]
            by_cases c : nI w = nI 0
            · rw [if_pos c, if_pos c]
            · rw [if_neg c, if_neg c]
        · refine bad ?_ ?_
          · rw [preC, if_neg (nI_nlt (by omega) (by omega)), if_neg (nI_nlt (by omega) (by omega)), if_neg (nI_nlt (by omega) (by omega)), if_neg (nI_nlt (by omega) (by omega))]
            rcases cu with c | ⟨c, d⟩
            · rw [if_pos c]
            · rw [if_neg c, if_neg (by rw [Int32.not_le]; exact d)]
          · rw [preM S hm, m_in1 (by omega) hx (by omega), cal2_s, if_neg n1_0, m_in1 (by omega) hmm (by omega), cal2_s, if_neg n1_0, m_in0 (by rcases cu with c | ⟨c, d⟩; exact Or.inl c; exact Or.inr d), cal2_s, if_pos rfl]
      · refine bad ?_ ?_
        · rw [preC, if_neg (nI_nlt (by omega) (by omega)), if_neg (nI_nlt (by omega) (by omega))]
          rcases cz with c | ⟨c, d⟩
          · rw [if_pos c]
          · rw [if_neg c, if_pos d]
        · rw [preM S hm, m_in1 (by omega) hx (by omega), cal2_s, if_neg n1_0, m_in0 (by rcases cz with c | ⟨c, d⟩; exact Or.inl c; exact Or.inr d), cal2_s, if_pos rfl]
    · refine bad ?_ ?_
      · rw [preC]
        rcases cy with c | ⟨c, d⟩
        · rw [if_pos c]
        · rw [if_neg c, if_pos d]
      · rw [preM S hm, m_in0 (by rcases cy with c | ⟨c, d⟩; exact Or.inl c; exact Or.inr d), cal2_s, if_pos rfl]
  · refine bad ?_ ?_
    · unfold P_X6_odds
      simp only [bnd_eq, hr, hk, gd_true]
      rw [c_hasPair0 hT o1 cp, cal2_s, li0, if_pos rfl]
    · unfold P_X7_odds
      rw [m_isPair0 hm.1 o1 cp, cal2_s, li0, if_pos rfl]
end
