section
/-! STAGE 2, calls: hired -/
theorem fr_c : ∀ s, s < 64 → ∀ g, g < 7 → ((nI s &&& nI (2 ^ g - 1)) = nI 0 ↔ s % 2 ^ g = 0) := by decide +kernel
theorem fr_m : ∀ s, s < 64 → ∀ g, g < 7 → (((nI s >>> (nI g &&& nI 31)) <<< (nI g &&& nI 31)) = nI s ↔ s % 2 ^ g = 0) := by decide +kernel
def hst (q : Sig) (p pm : Nat) (b : Nat × Nat × Nat) (s : Nat) : Nat × Nat × Nat := if s % 2 ^ (qm q).1 = 0 ∧ pn (qt q) s (tn (qt q)) ≤ pm ∧ (hmin q p s < b.2.2 ∨ (hmin q p s = b.2.2 ∧ pn (qt q) s (tn (qt q)) < b.2.1)) then (s, pn (qt q) s (tn (qt q)), hmin q p s) else b
def hbest (q : Sig) (p pm : Nat) : Nat → Nat × Nat × Nat
  | 0 => (0, 0, hmin q p 0)
  | s + 1 => hst q p pm (hbest q p pm s) (s + 1)
theorem hbest_le {q : Sig} (ok : SOK q) (p pm : Nat) : ∀ s, (hbest q p pm s).1 ≤ s ∧ (hbest q p pm s).2.1 ≤ 54 ∧ (hbest q p pm s).2.2 ≤ 756
  | 0 => ⟨Nat.le_refl _, Nat.zero_le _, hmin_le ok p 0⟩
  | s + 1 => by
    obtain ⟨h1, h2, h3⟩ := hbest_le ok p pm s
    have on := ok.1.2.1
    have h4 := pn_le ok.1 (s + 1) (tn (qt q)) (Nat.le_refl _)
    rw [hbest, hst]
    split
    · exact ⟨Nat.le_refl _, by show pn _ _ _ ≤ 54; omega, hmin_le ok p _⟩
    · exact ⟨by omega, h2, h3⟩
def hans (q : Sig) (p pm : Nat) (wh : Int32) : Int32 := if wh = nI 0 then nI (hbest q p pm (2 ^ tn (qt q) - 1)).1 else nI (hbest q p pm (2 ^ tn (qt q) - 1)).2.2
theorem c_hired_L {N r p pm : Nat} {S : PSt} {q : Sig} {wh : Int32} (hN : 100 ≤ N) (ok : SOK q) (hc : CR S q) (hr4 : r = 4 ∨ r = 14) (hkr : kd r = 4) (hR : CRt S r (qt q)) (hg : gR S 601 0 = r) (hp : vpr (qt q) p) (hpm : pm ≤ 99) : ∀ (z s fuel : Nat) (T : PSt), s + z = 2 ^ tn (qt q) - 1 → z < fuel → tr S T → ∃ T', P_X6_hired_L78 N fuel T (nI p) (nI pm) wh (nI (2 ^ tn (qt q) - 1)) (nI (2 ^ (qm q).1 - 1)) (nI (hbest q p pm s).1) (nI (hbest q p pm s).2.1) (nI (hbest q p pm s).2.2) (nI (s + 1)) = some (hans q p pm wh, T') ∧ tr S T' := by
  have on := ok.1.2.1
  have og := ok.2.1.1
  have h64 : 2 ^ tn (qt q) ≤ 64 := Nat.pow_le_pow_right (by omega) on
  intro z
  induction z with
  | zero =>
    intro s fuel T hz hf hs
    obtain ⟨fuel, rfl⟩ : ∃ z, fuel = z + 1 := ⟨fuel - 1, by omega⟩
    refine ⟨T, ?_, hs⟩
    rw [P_X6_hired_L78]
    dsimp only
    unfold hans
    rw [if_pos (nI_lt (by omega) (by omega)), show s = 2 ^ tn (qt q) - 1 by omega, li0]
    by_cases c : wh = nI 0
    · rw [if_pos c, if_pos c]
    · rw [if_neg c, if_neg c]
  | succ z ih =>
    intro s fuel T hz hf hs
    obtain ⟨fuel, rfl⟩ : ∃ z, fuel = z + 1 := ⟨fuel - 1, by omega⟩
    have hR' := tr_t hr4 hs hR
    have hg' : gR T 601 0 = r := ((hs 0 (by omega) (by omega)).2.2.1 _).trans hg
    obtain ⟨h1, h2, h3⟩ := hbest_le ok p pm s
    have hp4 := pn_le ok.1 (s + 1) (tn (qt q)) (Nat.le_refl _)
    have hm5 := hmin_le ok p (s + 1)
    have ep : P_X4_furlongsOf N T r (nI (s + 1)) = some (nI (pn (qt q) (s + 1) (tn (qt q))), T) := by
      unfold P_X4_furlongsOf
      rw [li0]
      exact c_pence hkr hR' ok.1 (by omega) (tn (qt q)) 0 N (by omega) (by omega)
    obtain ⟨T1, e1, s1⟩ := c_hm (N := N) (p := p) (s := s + 1) (by omega) ok (CR_tr ok hc hs) hp (by omega)
    have keep : hbest q p pm (s + 1) = hbest q p pm s → ∀ T', tr S T' → ∃ T'', P_X6_hired_L78 N fuel T' (nI p) (nI pm) wh (nI (2 ^ tn (qt q) - 1)) (nI (2 ^ (qm q).1 - 1)) (nI (hbest q p pm s).1) (nI (hbest q p pm s).2.1) (nI (hbest q p pm s).2.2) (nI (s + 1 + 1)) = some (hans q p pm wh, T'') ∧ tr S T'' := by
      intro h T' hT'
      have := ih (s + 1) fuel T' (by omega) (by omega) hT'
      rw [h] at this
      exact this
    rw [P_X6_hired_L78]
    dsimp only
    rw [if_neg (nI_nlt (by omega) (by omega)), hg', bnd_eq, isk_of hkr, gd_true, ep, cal2_s, li0, li1, nI_add]
    by_cases c1 : (s + 1) % 2 ^ (qm q).1 = 0
    · rw [if_pos ((fr_c (s + 1) (by omega) (qm q).1 (by omega)).mpr c1)]
      by_cases c2 : pn (qt q) (s + 1) (tn (qt q)) ≤ pm
      · rw [if_pos (nI_le c2 (by omega)), e1, cal2_s]
        have take : hbest q p pm (s + 1) = (s + 1, pn (qt q) (s + 1) (tn (qt q)), hmin q p (s + 1)) → ∃ T'', P_X6_hired_L143 (P_X6_hired_L78 N fuel) N T1 (nI p) (nI pm) wh (nI (2 ^ tn (qt q) - 1)) (nI (2 ^ (qm q).1 - 1)) (nI (s + 1)) (nI (pn (qt q) (s + 1) (tn (qt q)))) (nI (hmin q p (s + 1))) = some (hans q p pm wh, T'') ∧ tr S T'' := by
          intro h
          have := ih (s + 1) fuel T1 (by omega) (by omega) (tr_trans hs s1)
          rw [h] at this
          unfold P_X6_hired_L143
          rw [li1, nI_add, bnd_eq]
          exact this
        by_cases c3 : hmin q p (s + 1) < (hbest q p pm s).2.2
        · rw [if_pos (nI_lt c3 (by omega))]
          exact take (by rw [hbest, hst, if_pos ⟨c1, c2, Or.inl c3⟩])
        · rw [if_neg (nI_nlt (by omega) (by omega))]
          by_cases c4 : hmin q p (s + 1) = (hbest q p pm s).2.2
          · rw [if_pos (by rw [c4])]
            by_cases c5 : (hbest q p pm s).2.1 ≤ pn (qt q) (s + 1) (tn (qt q))
            · rw [if_pos (nI_le c5 (by omega)), bnd_eq]
              exact keep (by rw [hbest, hst, if_neg (by intro h; omega)]) T1 (tr_trans hs s1)
            · rw [if_neg (nI_ge (by omega) (by omega))]
              exact take (by rw [hbest, hst, if_pos ⟨c1, c2, Or.inr ⟨c4, by omega⟩⟩])
          · rw [if_neg (by rw [nI_eq (by omega) (by omega)]; exact c4), bnd_eq]
            exact keep (by rw [hbest, hst, if_neg (by intro h; omega)]) T1 (tr_trans hs s1)
      · rw [if_neg (nI_ge (by omega) (by omega)), bnd_eq]
        exact keep (by rw [hbest, hst, if_neg (by intro h; omega)]) T hs
    · rw [if_neg (fun h => c1 ((fr_c (s + 1) (by omega) (qm q).1 (by omega)).mp h)), bnd_eq]
      exact keep (by rw [hbest, hst, if_neg (by intro h; exact c1 h.1)]) T hs
/-- what the reference does with a set -/
theorem m_hired_S {N p pm s x4 x6 fuel : Nat} {x5 wh : Int32} {T : PSt} {q : Sig} (hN : 100 ≤ N) (ok : SOK q) (hm : MR T q) (hp : vpr (qt q) p) (hs : s < 2 ^ tn (qt q)) : (s % 2 ^ (qm q).1 = 0 → pn (qt q) s (tn (qt q)) ≤ pm → pm ≤ 99 → ∃ T', scr T T' ∧ P_X7_hired_L42 N (fuel + 1) T (nI p) (nI pm) wh (nI x4) x5 (nI x6) (nI s) = if x5 = -9 ∨ nI (hmin q p s) < x5 ∨ (nI (hmin q p s) = x5 ∧ ¬ nI x6 ≤ nI (pn (qt q) s (tn (qt q)))) then P_X7_hired_L42 N fuel T' (nI p) (nI pm) wh (nI s) (nI (hmin q p s)) (nI (pn (qt q) s (tn (qt q)))) (nI (s + 1)) else P_X7_hired_L42 N fuel T' (nI p) (nI pm) wh (nI x4) x5 (nI x6) (nI (s + 1))) ∧ (¬ (s % 2 ^ (qm q).1 = 0 ∧ pn (qt q) s (tn (qt q)) ≤ pm) → pm ≤ 99 → P_X7_hired_L42 N (fuel + 1) T (nI p) (nI pm) wh (nI x4) x5 (nI x6) (nI s) = P_X7_hired_L42 N fuel T (nI p) (nI pm) wh (nI x4) x5 (nI x6) (nI (s + 1))) := by
  have on := ok.1.2.1
  have og := ok.2.1.1
  have h64 : 2 ^ tn (qt q) ≤ 64 := Nat.pow_le_pow_right (by omega) on
  have hp4 := pn_le ok.1 s (tn (qt q)) (Nat.le_refl _)
  have ep : P_X7_penceOf N T (nI s) = some (nI (pn (qt q) s (tn (qt q))), T) := by
    unfold P_X7_penceOf
    rw [li0]
    exact m_pence hm.1 ok.1 (by omega) (tn (qt q)) 0 N (by omega) (by omega)
  have e31 : (31 : Int32) = nI 31 := li31
  refine ⟨fun c1 c2 c3 => ?_, fun c1 c3 => ?_⟩
  · obtain ⟨T1, e1, s1⟩ := m_hm (N := N) (p := p) (s := s) (by omega) ok hm hp (by omega)
    refine ⟨T1, s1, ?_⟩
    rw [P_X7_hired_L42]
    dsimp only
    rw [li1, hm.1.2.1, e31, one_shl (tn (qt q)) (by omega), if_neg (nI_ge hs (by omega)), ep, cal2_s, li0, nI_clamp (by omega), hm.2.1.1, if_pos ((fr_m s (by omega) (qm q).1 (by omega)).mpr c1), if_neg (nI_nlt c2 (by omega)), e1, cal2_s]
    have A : P_X7_hired_L125 (P_X7_hired_L42 N fuel) N T1 (nI p) (nI pm) wh (nI x4) x5 (nI x6) (nI s) (nI (pn (qt q) s (tn (qt q)))) (nI (hmin q p s)) = P_X7_hired_L42 N fuel T1 (nI p) (nI pm) wh (nI s) (nI (hmin q p s)) (nI (pn (qt q) s (tn (qt q)))) (nI (s + 1)) := by
      unfold P_X7_hired_L125 P_X7_hired_L130 P_X7_hired_L144 P_X7_hired_L158
      rw [if_neg (by decide), if_neg (by decide), if_neg (by decide), li1, nI_add, bnd_eq]
    have B : P_X7_hired_L129 (P_X7_hired_L42 N fuel) N T1 (nI p) (nI pm) wh (nI x4) x5 (nI x6) (nI s) (nI (pn (qt q) s (tn (qt q)))) (nI (hmin q p s)) = P_X7_hired_L42 N fuel T1 (nI p) (nI pm) wh (nI x4) x5 (nI x6) (nI (s + 1)) := by
      unfold P_X7_hired_L129 P_X7_hired_L130 P_X7_hired_L144 P_X7_hired_L158
      rw [if_pos rfl, if_pos rfl, if_pos rfl, li1, nI_add, bnd_eq]
    rw [A, B]
    by_cases d1 : x5 = -9
    · rw [if_pos d1, if_pos (Or.inl d1)]
    · rw [if_neg d1]
      by_cases d2 : nI (hmin q p s) < x5
      · rw [if_pos d2, if_pos (Or.inr (Or.inl d2))]
      · rw [if_neg d2]
        by_cases d3 : nI (hmin q p s) = x5
        · rw [if_pos d3]
          by_cases d4 : nI x6 ≤ nI (pn (qt q) s (tn (qt q)))
          · rw [if_pos d4, if_neg (by rintro (h | h | h); exact d1 h; exact d2 h; exact h.2 d4)]
          · rw [if_neg d4, if_pos (Or.inr (Or.inr ⟨d3, d4⟩))]
        · rw [if_neg d3, if_neg (by rintro (h | h | h); exact d1 h; exact d2 h; exact d3 h.1)]
  · rw [P_X7_hired_L42]
    dsimp only
    rw [li1, hm.1.2.1, e31, one_shl (tn (qt q)) (by omega), if_neg (nI_ge hs (by omega)), ep, cal2_s, li0, nI_clamp (by omega), hm.2.1.1, nI_add, bnd_eq]
    by_cases c2 : s % 2 ^ (qm q).1 = 0
    · rw [if_pos ((fr_m s (by omega) (qm q).1 (by omega)).mpr c2), if_pos (nI_lt (by omega) (by omega))]
    · rw [if_neg (fun h => c2 ((fr_m s (by omega) (qm q).1 (by omega)).mp h))]
theorem m_hired_L {N p pm : Nat} {q : Sig} {wh : Int32} (hN : 100 ≤ N) (ok : SOK q) (hp : vpr (qt q) p) (hpm : pm ≤ 99) : ∀ (z s fuel : Nat) (T : PSt), s + z = 2 ^ tn (qt q) - 1 → z < fuel → MR T q → ∃ T', P_X7_hired_L42 N fuel T (nI p) (nI pm) wh (nI (hbest q p pm s).1) (nI (hbest q p pm s).2.2) (nI (hbest q p pm s).2.1) (nI (s + 1)) = some (hans q p pm wh, T') ∧ scr T T' := by
  have on := ok.1.2.1
  have og := ok.2.1.1
  have h64 : 2 ^ tn (qt q) ≤ 64 := Nat.pow_le_pow_right (by omega) on
  have h1' : 0 < 2 ^ tn (qt q) := Nat.pow_pos (by omega)
  intro z
  induction z with
  | zero =>
    intro s fuel T hz hf hm
    obtain ⟨fuel, rfl⟩ : ∃ z, fuel = z + 1 := ⟨fuel - 1, by omega⟩
    refine ⟨T, ?_, scr.refl T⟩
    have e31 : (31 : Int32) = nI 31 := li31
    rw [P_X7_hired_L42]
    dsimp only
    unfold hans
    rw [li1, hm.1.2.1, e31, one_shl (tn (qt q)) (by omega), if_pos (nI_le (by omega) (by omega)), show s = 2 ^ tn (qt q) - 1 by omega, li0]
    by_cases c : wh = nI 0
    · rw [if_pos c, if_pos c]
    · rw [if_neg c, if_neg c]
  | succ z ih =>
    intro s fuel T hz hf hm
    obtain ⟨fuel, rfl⟩ : ∃ z, fuel = z + 1 := ⟨fuel - 1, by omega⟩
    obtain ⟨h1, h2, h3⟩ := hbest_le ok p pm s
    have hp4 := pn_le ok.1 (s + 1) (tn (qt q)) (Nat.le_refl _)
    have hm5 := hmin_le ok p (s + 1)
    obtain ⟨A, B⟩ := m_hired_S (N := N) (p := p) (pm := pm) (s := s + 1) (x4 := (hbest q p pm s).1) (x6 := (hbest q p pm s).2.1) (fuel := fuel) (x5 := nI (hbest q p pm s).2.2) (wh := wh) hN ok hm hp (by omega)
    by_cases c : (s + 1) % 2 ^ (qm q).1 = 0 ∧ pn (qt q) (s + 1) (tn (qt q)) ≤ pm
    · obtain ⟨T1, s1, e1⟩ := A c.1 c.2 hpm
      obtain ⟨T2, e2, s2⟩ := ih (s + 1) fuel T1 (by omega) (by omega) (scrM hm s1)
      refine ⟨T2, ?_, s1.trans s2⟩
      rw [e1]
      by_cases d : hmin q p (s + 1) < (hbest q p pm s).2.2 ∨ (hmin q p (s + 1) = (hbest q p pm s).2.2 ∧ pn (qt q) (s + 1) (tn (qt q)) < (hbest q p pm s).2.1)
      · have e : hbest q p pm (s + 1) = (s + 1, pn (qt q) (s + 1) (tn (qt q)), hmin q p (s + 1)) := by rw [hbest, hst, if_pos ⟨c.1, c.2, d⟩]
        rw [e] at e2
        rw [if_pos]
        · exact e2
        · rcases d with d | ⟨d, d'⟩
          · exact Or.inr (Or.inl (nI_lt d (by omega)))
          · exact Or.inr (Or.inr ⟨by rw [d], nI_ge d' (by omega)⟩)
      · have e : hbest q p pm (s + 1) = hbest q p pm s := by rw [hbest, hst, if_neg (fun h => d h.2.2)]
        rw [e] at e2
        rw [if_neg]
        · exact e2
        · rintro (h | h | ⟨h, h'⟩)
          · exact (nI_m9 (by omega)).mp h
          · rw [nI_ltI (by omega) (by omega)] at h; exact d (Or.inl h)
          · rw [nI_eq (by omega) (by omega)] at h
            rw [nI_leI (by omega) (by omega)] at h'
            exact d (Or.inr ⟨h, by omega⟩)
    · obtain ⟨T2, e2, s2⟩ := ih (s + 1) fuel T (by omega) (by omega) hm
      refine ⟨T2, ?_, s2⟩
      have e : hbest q p pm (s + 1) = hbest q p pm s := by rw [hbest, hst, if_neg (fun h => c ⟨h.1, h.2.1⟩)]
      rw [e] at e2
      rw [B c hpm]
      exact e2
theorem pn_0 (t : Tau) : ∀ k, pn t 0 k = 0
  | 0 => rfl
  | k + 1 => by
    rw [pn, pn_0 t k, if_neg (by unfold bitN; rw [Nat.zero_div]; decide)]
theorem step_hired {N : Nat} {S : PSt} (hN : 300 ≤ N) (x y z : Int32) (h : Inv S) : ∃ r S1 S2, P_X6_hired N S x y z = some (r, S1) ∧ P_X7_hired N S1 x y z = some (r, S2) ∧ Inv S2 := by
  obtain ⟨q, ok, hc, hm⟩ := h
  obtain ⟨r, d, hrd, hr, hd, hT, -, -, -⟩ := hc.1
  obtain ⟨hk', -, hkr, -⟩ := isk4 hrd
  have o1 := ok.1
  have on := o1.2.1
  have og := ok.2.1.1
  have bad : P_X6_hired N S x y z = some (-1, S) → P_X7_hired N S x y z = some (-1, S) → ∃ r S1 S2, P_X6_hired N S x y z = some (r, S1) ∧ P_X7_hired N S1 x y z = some (r, S2) ∧ Inv S2 := fun h1 h2 => ⟨-1, S, S, h1, h2, q, ok, hc, hm⟩
  by_cases cp : isPr (qt q) x
  · obtain ⟨p, hpp, rfl⟩ := cp
    have preM : ∀ T, MR T q → P_X7_hired N T (nI p) y z = (cal2 (P_X7_in N T y (nI 0) (nI 99)) fun r28 S26 => if r28 = nI 0 then (some ((-1 : Int32), S26)) else (cal2 (P_X7_in N S26 z (nI 0) (nI 1)) fun r32 S30 => if r32 = nI 0 then (some ((-1 : Int32), S30)) else (P_X7_hired_L42 N N S30 (nI p) y z (nI 0) (-9 : Int32) (nI 0) (nI 0)))) := by
      intro T hmT
      unfold P_X7_hired
      rw [m_isPair1 hmT.1 o1 hpp, cal2_s, li0, if_neg n1_0, li99, li1]
    have preC : P_X6_hired N S (nI p) y z = (if y < nI 0 then (some ((-1 : Int32), S)) else (if nI 99 < y then (some ((-1 : Int32), S)) else (if z < nI 0 then (some ((-1 : Int32), S)) else (if z ≤ nI 1 then (cal2 (P_X6_minutesWithHired N S (nI p) (nI 0)) fun r37 S35 => P_X6_hired_L78 N N S35 (nI p) y z (nI (2 ^ tn (qt q) - 1)) (nI (2 ^ (qm q).1 - 1)) (nI 0) (nI 0) r37 (nI 1)) else (some ((-1 : Int32), S)))))) := by
      have e31 : (31 : Int32) = nI 31 := li31
      have g0 : gI S 0 25 = nI (qm q).1 := hc.2.1.1.1.1
      have p1 : 0 < 2 ^ tn (qt q) := Nat.pow_pos (by omega)
      have p2 : 0 < 2 ^ (qm q).1 := Nat.pow_pos (by omega)
      unfold P_X6_hired
      simp only [bnd_eq, hr, hk', gd_true]
      rw [c_hasPair1 hT o1 hpp, cal2_s, li0, if_neg n1_0, li99, hr, hk', gd_true, hT.2.1, g0, li1, e31, one_shl (tn (qt q)) (by omega), one_shl (qm q).1 (by omega), pk_sub p1, pk_sub p2]
    rcases inR y 0 99 (by omega) (by omega) with ⟨pm, -, hpm, rfl⟩ | cy
    · rcases inR z 0 1 (by omega) (by omega) with ⟨w, -, hw, rfl⟩ | cz
      · obtain ⟨T0, e0, s0⟩ := c_hm (N := N) (p := p) (s := 0) (by omega) ok hc hpp (by omega)
        have h64 : 2 ^ tn (qt q) ≤ 64 := Nat.pow_le_pow_right (by omega) on
        have h1' : 0 < 2 ^ tn (qt q) := Nat.pow_pos (by omega)
        obtain ⟨T, e1, s1⟩ := c_hired_L (N := N) (p := p) (pm := pm) (wh := nI w) (by omega) ok hc (by omega) hkr hT hr hpp hpm (2 ^ tn (qt q) - 1) 0 N T0 (by omega) (by omega) s0
        have hmT := hm.eqM (tr_eqM s1)
        obtain ⟨f, hf⟩ : ∃ f, N = f + 1 := ⟨N - 1, by omega⟩
        obtain ⟨A, -⟩ := m_hired_S (N := N) (p := p) (pm := pm) (s := 0) (x4 := 0) (x6 := 0) (fuel := f) (x5 := -9) (wh := nI w) (by omega) ok hmT hpp h1'
        obtain ⟨T1, sA1, eA⟩ := A (Nat.zero_mod _) (by rw [pn_0]; omega) hpm
        rw [if_pos (Or.inl rfl), pn_0] at eA
        obtain ⟨T2, e2, s2⟩ := m_hired_L (N := N) (p := p) (pm := pm) (wh := nI w) (by omega) ok hpp hpm (2 ^ tn (qt q) - 1) 0 f T1 (by omega) (by omega) (scrM hmT sA1)
        refine ⟨hans q p pm (nI w), T, T2, ?_, ?_, ask_end ok hc hm s1 (sA1.trans s2)⟩
        · rw [preC, if_neg (nI_nlt (by omega) (by omega)), if_neg (nI_nlt (by omega) (by omega)), if_neg (nI_nlt (by omega) (by omega)), if_pos (nI_le hw (by omega)), e0, cal2_s]
          exact e1
        · rw [preM T hmT, m_in1 (by omega) hpm (by omega), cal2_s, if_neg n1_0, m_in1 (by omega) hw (by omega), cal2_s, if_neg n1_0, show ∀ a b c d e g h, P_X7_hired_L42 N N T a b c d e g h = P_X7_hired_L42 N (f + 1) T a b c d e g h from fun _ _ _ _ _ _ _ => by rw [← hf], eA]
          exact e2
      · refine bad ?_ ?_
        · rw [preC, if_neg (nI_nlt (by omega) (by omega)), if_neg (nI_nlt (by omega) (by omega))]
          rcases cz with c | ⟨c, d⟩
          · rw [if_pos c]
          · rw [if_neg c, if_neg (by rw [Int32.not_le]; exact d)]
        · rw [preM S hm, m_in1 (by omega) hpm (by omega), cal2_s, if_neg n1_0, m_in0 (by rcases cz with c | ⟨c, d⟩; exact Or.inl c; exact Or.inr d), cal2_s, if_pos rfl]
    · refine bad ?_ ?_
      · rw [preC]
        rcases cy with c | ⟨c, d⟩
        · rw [if_pos c]
        · rw [if_neg c, if_pos d]
      · rw [preM S hm, m_in0 (by rcases cy with c | ⟨c, d⟩; exact Or.inl c; exact Or.inr d), cal2_s, if_pos rfl]
  · refine bad ?_ ?_
    · unfold P_X6_hired
      simp only [bnd_eq, hr, hk', gd_true]
      rw [c_hasPair0 hT o1 cp, cal2_s, li0, if_pos rfl]
    · unfold P_X7_hired
      rw [m_isPair0 hm.1 o1 cp, cal2_s, li0, if_pos rfl]
end
