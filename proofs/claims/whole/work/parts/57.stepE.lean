section
/-! STAGE 2, calls: walks, backs -/
theorem voy_set {S1 S2 : PSt} {m m' : Mom} {ps : List Mom} (hl : ps.length ≤ 10) (hv : CRvoy S1 m ps) (k2 : ∀ a, a ≠ 25 → a ≠ 26 → ag S1 S2 a) (hm : CRm S2 25 m') : CRvoy S2 m' ps := by
  obtain ⟨⟨-, v5, v6⟩, v7⟩ := hv
  refine ⟨⟨hm, ((k2 24 (by omega) (by omega)).1 _).trans v5, fun i hi => ?_⟩, v7.ag (k2 _ (by omega) (by omega))⟩
  have h6 := v6 i hi
  rw [(k2 (24 + 3) (by omega) (by omega)).2.2.2.2]
  obtain ⟨e, he, hg⟩ := v7.1 i (by omega)
  rw [hg] at h6 ⊢
  exact h6.ag (k2 _ (by omega) (by omega)) (k2 _ (by omega) (by omega))
theorem step_walks {N : Nat} {S : PSt} (hN : 100 ≤ N) (x : Int32) (h : Inv S) : ∃ r S1 S2, P_X6_walks N S x = some (r, S1) ∧ P_X7_walks N S1 x = some (r, S2) ∧ Inv S2 := by
  obtain ⟨q, ok, hc, hm⟩ := h
  obtain ⟨r, d, hrd, hr, hd, hT, hp, -, -⟩ := hc.1
  obtain ⟨hk, -, hkr, -⟩ := isk4 hrd
  have o1 := ok.1
  have on := o1.2.1
  have ol := ok.2.2.1
  have om := ok.2.1
  have oT := om.2.2.2.2.1
  have e25 : gI S 1 25 = nI (qm q).2.1 := hc.2.1.1.1.2.1
  have e250 : gI S 0 25 = nI (qm q).1 := hc.2.1.1.1.1
  have ho : ∀ z, (qm q).2.2.1 = some z → z < 100 := fun z hz => by have := vpr_lt o1 (om.2.2.1 z hz); omega
  by_cases cp : isPr (qt q) x
  · obtain ⟨p, hpp, rfl⟩ := cp
    have hp23 := vpr_lt o1 hpp
    by_cases cg : (qm q).1 = tn (qt q)
    · refine ⟨-2, S, S, ?_, ?_, q, ok, hc, hm⟩
      · unfold P_X6_walks
        simp only [bnd_eq, hr, hk, gd_true]
        rw [c_hasPair1 hT o1 hpp, cal2_s, li0, if_neg n1_0, hr, hk, gd_true, e250, hT.2.1, if_neg (nI_nlt (by omega) (by omega))]
      · unfold P_X7_walks
        rw [m_isPair1 hm.1 o1 hpp, cal2_s, li0, if_neg n1_0, nI_clamp (by omega), hm.2.1.1, hm.1.2.1, cg, if_pos rfl]
    · have hg : (qm q).1 < tn (qt q) := by have := om.1; omega
      have bm := mins_le (qt q) o1 (T := (qm q).2.2.2) (p := p) hg
      have bc := chg_le (qt q) o1 (o := (qm q).2.2.1) (p := p)
      have bt := om.2.1
      have oi := o1.2.2.2.2.2.2 _ hg
      obtain ⟨mm, hmm⟩ : ∃ mm, mm = chg (qt q) (qm q).2.2.1 p + mins (qt q) (qm q).2.2.2 (qm q).1 p := ⟨_, rfl⟩
      have preC : P_X6_walks N S (nI p) = if nI ((qm q).2.1 + mm) ≤ nI 9999 then (cal1 (P_X5_remember N S 24) fun S17 => bnd (gR S17 601 0) fun t19 => gd (isk t19 4) <| cal1 (P_X0_walkOn N S17 25 t19 (nI p) (nI ((qm q).2.1 + mm))) fun S21 => cal1 (P_X6_moved N S21) fun S23 => some (nI mm, S23)) else some (-2, S) := by
        unfold P_X6_walks
        simp only [bnd_eq, hr, hk, gd_true]
        rw [c_hasPair1 hT o1 hpp, cal2_s, li0, if_neg n1_0, hr, hk, gd_true, e250, hT.2.1, if_pos (nI_lt hg (by omega)), gd_true, c_minutesToWalk (by rfl) hkr hc.2.1.1.1 oT ho hT o1 hg hpp, cal2_s, e25, ← hmm, nI_add, li9999]
      have preM : ∀ T : PSt, MR T q → P_X7_walks N T (nI p) = if nI ((qm q).2.1 + mm) ≤ nI 9999 then (cal1 (P_X7_becomes N (wS (fnS T (qm q)) 0 (wk (qt q) (qm q).1 p (0, (qm q).2.2.1, (qm q).2.2.2)) p) (nI ((qm q).1 + 1)) (pI (some p)) (nI mm)) fun S11 => some (gA S11 171 1, S11)) else some (-2, wS (fnS T (qm q)) 0 (wk (qt q) (qm q).1 p (0, (qm q).2.2.1, (qm q).2.2.2)) p) := by
        intro T hmT
        have hd0 := fnS_dep (S := T) (m := qm q) oT
        have sc1 : scr T (fnS T (qm q)) := fnS_scr
        have sc2 : scr (fnS T (qm q)) (wS (fnS T (qm q)) 0 (wk (qt q) (qm q).1 p (0, (qm q).2.2.1, (qm q).2.2.2)) p) := wS_scr
        have a1 : gA (fnS T (qm q)) 161 0 = nI (qm q).1 := by rw [sc1.2.2.2.2 161 (by omega) (by omega) (by omega)]; exact hmT.2.1.1
        have a2 : gA (wS (fnS T (qm q)) 0 (wk (qt q) (qm q).1 p (0, (qm q).2.2.1, (qm q).2.2.2)) p) 161 = gA T 161 := (sc2.2.2.2.2 161 (by omega) (by omega) (by omega)).trans (sc1.2.2.2.2 161 (by omega) (by omega) (by omega))
        have d1 : gA (wS (fnS T (qm q)) 0 (wk (qt q) (qm q).1 p (0, (qm q).2.2.1, (qm q).2.2.2)) p) 171 1 = nI mm := by
          have := (wS_dep (S := fnS T (qm q)) (d := 0) (p := p) (q := wk (qt q) (qm q).1 p (0, (qm q).2.2.1, (qm q).2.2.2)) rfl (fun w hw => tire_le w (oT w hw))).1
          rw [show (wk (qt q) (qm q).1 p (0, (qm q).2.2.1, (qm q).2.2.2)).1 = mm by rw [hmm]; show 0 + _ + _ = _; rw [Nat.zero_add]] at this
          exact this
        unfold P_X7_walks
        rw [m_isPair1 hmT.1 o1 hpp, cal2_s, li0, if_neg n1_0, nI_clamp (by omega), hmT.2.1.1, hmT.1.2.1, if_neg (by rw [nI_eq (by omega) (by omega)]; exact cg), m_fromNow (by omega) hmT.2.1, cal1_s, a1, m_walksOn (by omega) (hmT.1.scr sc1) o1 hd0 (by omega) hg hpp (Nat.zero_le _) ho, cal1_s, li1, nI_clamp (by omega), a2, hmT.2.1.1, hmT.2.1.2.1, d1, nI_add, nI_add, li9999]
        rfl
      by_cases c : (qm q).2.1 + mm ≤ 9999
      · obtain ⟨S1, e1, hv, ka⟩ := c_remember (N := N) (by omega) ol hc.2.1
        obtain ⟨m', hm'⟩ : ∃ m' : Mom, m' = wkM (qt q) p ((qm q).2.1 + mm) (qm q) := ⟨_, rfl⟩
        obtain ⟨S2, hS2⟩ : ∃ S2, S2 = woS S1 25 m' := ⟨_, rfl⟩
        have k2 : ∀ a, a ≠ 25 → a ≠ 26 → ag S1 S2 a := fun a x y => by rw [hS2]; exact ag_woS x y
        have ka2 : ∀ a, (a < 24 ∨ 47 < a) → ag S S2 a := fun a ha => (ka a ha).trans (k2 a (by omega) (by omega))
        have hv2 : CRvoy S2 m' (rem (qp q) (qm q)) := voy_set (rem_len ol) hv k2 (by rw [hS2]; exact woS_at)
        have hm1 := hm.eqM (eqM_move ka2)
        have eC : P_X6_walks N S (nI p) = some (nI mm, mvS S2) := by
          have hr1 : gR S1 601 0 = r := ((ka 0 (by omega)).2.2.1 _).trans hr
          have hT1 : CRt S1 r (qt q) := hT.ag (fun i hi => ka _ (by omega))
          rw [preC, if_pos (nI_le c (by omega)), e1, cal1_s, hr1, bnd_eq, hk, gd_true, c_walkOn (by omega) (by rfl) hkr (by omega) hv.1.1 oT hT1 o1 hg (by omega), cal1_s, ← hm', ← hS2, c_moved, cal1_s]
        obtain ⟨S8, hS8⟩ : ∃ S8, S8 = wS (fnS (mvS S2) (qm q)) 0 (wk (qt q) (qm q).1 p (0, (qm q).2.2.1, (qm q).2.2.2)) p := ⟨_, rfl⟩
        have hsc : scr (mvS S2) S8 := by rw [hS8]; exact fnS_scr.trans wS_scr
        have hU : ∀ w, w < 4 → gA S8 170 (4 + w) = nI (m'.2.2.2 w) := by
          intro w hw
          have := ((wS_dep (S := fnS (mvS S2) (qm q)) (d := 0) (p := p) (q := wk (qt q) (qm q).1 p (0, (qm q).2.2.1, (qm q).2.2.2)) rfl (fun w hw => tire_le w (oT w hw))).2.2 w hw).1
          rw [hS8, hm']
          exact this
        have hd1 : gA S8 171 1 = nI mm := by
          have := (wS_dep (S := fnS (mvS S2) (qm q)) (d := 0) (p := p) (q := wk (qt q) (qm q).1 p (0, (qm q).2.2.1, (qm q).2.2.2)) rfl (fun w hw => tire_le w (oT w hw))).1
          rw [show (wk (qt q) (qm q).1 p (0, (qm q).2.2.1, (qm q).2.2.2)).1 = mm by rw [hmm]; show 0 + _ + _ = _; rw [Nat.zero_add]] at this
          rw [hS8]
          exact this
        obtain ⟨S4, e4, n4, p4, h171, w4⟩ := m_becomes (N := N) (g := (qm q).1 + 1) (more := mm) (o := some p) (U := m'.2.2.2) hN ol (MRn_eq hm1.split.2.1 (hsc.2.2.2.2 161 (by omega) (by omega) (by omega))) (MRpast_eq hm1.split.2.2 (hsc.2.2.2.2 162 (by omega) (by omega) (by omega)) (hsc.1 _ _)) hU
        have eM : P_X7_walks N (mvS S2) (nI p) = some (nI mm, S4) := by
          rw [preM _ hm1, if_pos (nI_le c (by omega)), ← hS8, e4, cal1_s, h171, hd1]
        refine ⟨_, _, _, eC, eM, move_end ok hc hm ka2 hv2 ?_ (rem_len ol) (rem_ok ol om ok.2.2.2.1) ?_ p4 ((mvM_scr hsc).trans w4)⟩
        · rw [hm']
          refine ⟨by show (qm q).1 + 1 ≤ _; omega, c, ?_, ?_, fun w hw => tire_le w (oT w hw), fun w hw1 hw2 => ?_⟩
          · intro z hz
            have : some p = some z := hz
            cases this
            exact hpp
          · intro _ hz
            have : some p = none := hz
            cases this
          · have := om.2.2.2.2.2 w hw1 hw2
            show tireF p (tL (qt q) (qm q).1) (qm q).2.2.2 w = 0
            unfold tireF
            obtain ⟨b1, b2⟩ := hpp
            rw [if_neg (by omega)]
            omega
        · have : m' = ((qm q).1 + 1, (qm q).2.1 + mm, some p, m'.2.2.2) := by rw [hm']; rfl
          rw [this]; exact n4
      · have sc9 : scr S (wS (fnS S (qm q)) 0 (wk (qt q) (qm q).1 p (0, (qm q).2.2.1, (qm q).2.2.2)) p) := fnS_scr.trans wS_scr
        refine ⟨-2, S, _, ?_, ?_, inv_of (S1 := S) q ok hc (scrM hm sc9) (eqC_scr sc9)⟩
        · rw [preC, if_neg (nI_ge (by omega) (by omega))]
        · rw [preM S hm, if_neg (nI_ge (by omega) (by omega))]
  · refine ⟨-1, S, S, ?_, ?_, q, ok, hc, hm⟩
    · unfold P_X6_walks
      simp only [bnd_eq, hr, hk, gd_true]
      rw [c_hasPair0 hT o1 cp, cal2_s, li0, if_pos rfl]
    · unfold P_X7_walks
      rw [m_isPair0 hm.1 o1 cp, cal2_s, li0, if_pos rfl]
theorem step_backs {N : Nat} {S : PSt} (hN : 100 ≤ N) (h : Inv S) : ∃ r S1 S2, P_X6_backs N S = some (r, S1) ∧ P_X7_backs N S1 = some (r, S2) ∧ Inv S2 := by
  obtain ⟨q, ok, hc, hm⟩ := h
  obtain ⟨r, d, hrd, hr, hd, hT, hp, -, -⟩ := hc.1
  obtain ⟨hk, -, hkr, -⟩ := isk4 hrd
  have o1 := ok.1
  have on := o1.2.1
  have ol := ok.2.2.1
  have om := ok.2.1
  have oT := om.2.2.2.2.1
  have e25 : gI S 1 25 = nI (qm q).2.1 := hc.2.1.1.1.2.1
  have e250 : gI S 0 25 = nI (qm q).1 := hc.2.1.1.1.1
  have e252 : gI S 2 25 = pI (qm q).2.2.1 := hc.2.1.1.1.2.2.1
  have og := om.1
  by_cases cg : (qm q).1 = 0
  · refine ⟨-2, S, S, ?_, ?_, q, ok, hc, hm⟩
    · unfold P_X6_backs
      rw [e250, cg, li1, if_pos (nI_lt (by omega) (by omega))]
    · unfold P_X7_backs
      rw [li0, nI_clamp (by omega), hm.2.1.1, cg, if_pos rfl]
  · obtain ⟨g, hg⟩ : ∃ g, (qm q).1 = g + 1 := ⟨(qm q).1 - 1, by omega⟩
    have hgn : g < tn (qt q) := by omega
    obtain ⟨p, hpo⟩ : ∃ p, (qm q).2.2.1 = some p := by
      have := om.2.2.2.1 (by omega)
      cases h : (qm q).2.2.1 with
      | none => exact absurd h this
      | some p => exact ⟨p, rfl⟩
    have hpp := om.2.2.1 p hpo
    have hp23 := vpr_lt o1 hpp
    have bm := mins_le (qt q) o1 (T := (qm q).2.2.2) (p := p) hgn
    have bt := om.2.1
    have oi := o1.2.2.2.2.2.2 _ hgn
    have e252' : gI S 2 25 = nI p := by rw [e252, hpo]; rfl
    obtain ⟨mm, hmm⟩ : ∃ mm, mm = 2 * mins (qt q) (qm q).2.2.2 g p := ⟨_, rfl⟩
    have preC : P_X6_backs N S = if nI ((qm q).2.1 + mm) ≤ nI 9999 then (cal1 (P_X5_remember N S 24) fun S22 => bnd (sI S22 0 25 (nI g)) fun S24 => bnd (sI S24 1 25 ((gI S24 1 25) + nI mm)) fun S25 => bnd (gR S25 601 0) fun t26 => gd (isk t26 4) <| gd (bin (nI g) (ln (t26 + 3))) <| cal1 (P_X0_tire N S25 25 (gI S25 2 25) (gA S25 (t26 + 3) (nI g).toNatClampNeg)) fun S29 => cal1 (P_X6_moved N S29) fun S31 => some (nI mm, S31)) else some (-2, S) := by
      unfold P_X6_backs
      simp only [bnd_eq, hr, hk, gd_true]
      rw [e250, hg, li1, if_neg (nI_nlt (by omega) (by omega)), pk_sub (by omega), Nat.add_sub_cancel, c_hasStretch1 hT o1 hgn, cal2_s, li0, if_neg n1_0, hr, hk, gd_true, e252', c_hasPair1 hT o1 hpp, cal2_s, if_neg n1_0, hr, hk, gd_true, e250, hg, pk_sub (by omega), Nat.add_sub_cancel, e252', c_minutesOn (by rfl) hkr hc.2.1.1.1 oT hT o1 hgn hpp, cal2_s, e25, li2, pk_mul, ← hmm, nI_add, li9999]
    have preM : ∀ T : PSt, MR T q → P_X7_backs N T = if nI ((qm q).2.1 + mm) ≤ nI 9999 then (cal1 (P_X7_becomes N (put4 (fnS T (qm q)) (4 * 0 + 4) (tireF p (tL (qt q) g) (qm q).2.2.2)) (nI g) (pI (some p)) (nI mm)) fun S11 => some (nI mm, S11)) else some (-2, fnS T (qm q)) := by
      intro T hmT
      have hd0 := fnS_dep (S := T) (m := qm q) oT
      have sc1 : scr T (fnS T (qm q)) := fnS_scr
      have a0 : gA (fnS T (qm q)) 161 = gA T 161 := sc1.2.2.2.2 161 (by omega) (by omega) (by omega)
      have a1 : gA T 161 0 = nI (g + 1) := by rw [← hg]; exact hmT.2.1.1
      have a2 : gA T 161 2 = nI p := by rw [hmT.2.1.2.2.1, hpo]; rfl
      have a3 : gA (fnS T (qm q)) 160 (4 * g) = nI (tL (qt q) g) := by rw [sc1.2.2.2.2 160 (by omega) (by omega) (by omega)]; exact hmT.1.2.2.2.2.2.2.1 g hgn
      have a4 : gA (put4 (fnS T (qm q)) (4 * 0 + 4) (tireF p (tL (qt q) g) (qm q).2.2.2)) 161 = gA T 161 := (scr_put4.2.2.2.2 161 (by omega) (by omega) (by omega)).trans a0
      unfold P_X7_backs
      rw [li0, nI_clamp (by omega), li1, nI_clamp (by omega), li2, nI_clamp (by omega), a1, if_neg (by rw [nI_eq (by omega) (by omega)]; omega), bnd_eq, pk_sub (by omega), Nat.add_sub_cancel, m_fromNow (by omega) hmT.2.1, cal1_s, a0, a2, m_takesAt (hmT.1.scr sc1) o1 hd0.2.2 (by omega) hgn hpp, cal2_s, pk_mul, ← hmm, bnd_eq, a0, hmT.2.1.2.1, nI_add, li9999, li4, pk_mul, bin_nI (by omega), l160, gd_dec (by omega), nI_clamp (by omega), a2, a3, m_tires (by omega) hd0.2.2 (by omega) (by omega) (by omega), cal1_s, a4, a2]
      rfl
    by_cases c : (qm q).2.1 + mm ≤ 9999
    · obtain ⟨S1, e1, hv, ka⟩ := c_remember (N := N) (by omega) ol hc.2.1
      have hv' := hv
      obtain ⟨⟨⟨v1, v2, v3, v4⟩, v5, v6⟩, v7⟩ := hv
      obtain ⟨m', hm'⟩ : ∃ m' : Mom, m' = (g, (qm q).2.1 + mm, some p, tireF p (tL (qt q) g) (qm q).2.2.2) := ⟨_, rfl⟩
      obtain ⟨S2, hS2⟩ : ∃ S2, S2 = putT (sI (sI S1 0 25 (nI g)) 1 25 (nI ((qm q).2.1 + mm))) 26 (tireF p (tL (qt q) g) (qm q).2.2.2) := ⟨_, rfl⟩
      have k2 : ∀ a, a ≠ 25 → a ≠ 26 → ag S1 S2 a := fun a x y => by rw [hS2]; exact ((ag_sI x).trans (ag_sI x)).trans (ag_putT y)
      have ka2 : ∀ a, (a < 24 ∨ 47 < a) → ag S S2 a := fun a ha => (ka a ha).trans (k2 a (by omega) (by omega))
      have v3' : gI S1 2 25 = nI p := by rw [v3, hpo]; rfl
      have hv2 : CRvoy S2 m' (rem (qp q) (qm q)) := voy_set (rem_len ol) hv' k2 (by
        rw [hS2, hm']
        exact ⟨rfl, rfl, v3', fun w hw => putT_at hw⟩)
      have hm1 := hm.eqM (eqM_move ka2)
      have eC : P_X6_backs N S = some (nI mm, mvS S2) := by
        have hr1 : gR (sI (sI S1 0 25 (nI g)) 1 25 (nI ((qm q).2.1 + mm))) 601 0 = r := ((ka 0 (by omega)).2.2.1 _).trans hr
        have hT1 : CRt (sI (sI S1 0 25 (nI g)) 1 25 (nI ((qm q).2.1 + mm))) r (qt q) := hT.ag (fun i hi => (ka _ (by omega)).trans ((ag_sI (by omega)).trans (ag_sI (by omega))))
        have w1 : gI (sI S1 0 25 (nI g)) 1 25 = nI (qm q).2.1 := v2
        have w2 : gI (sI (sI S1 0 25 (nI g)) 1 25 (nI ((qm q).2.1 + mm))) 2 25 = nI p := v3'
        rw [preC, if_pos (nI_le c (by omega)), e1, cal1_s, bnd_eq, w1, nI_add, bnd_eq, hr1, bnd_eq, hk, gd_true, bin_nI (by omega), lt3 hkr, gd_dec (by omega), nI_clamp (by omega), w2, hT1.2.2.2.2.2.2.1 g hgn, c_tire (S := sI (sI S1 0 25 (nI g)) 1 25 (nI ((qm q).2.1 + mm))) (a := 25) (T := (qm q).2.2.2) (by omega) (by rfl) v4 oT (by omega) (by omega), cal1_s, ← hS2, c_moved, cal1_s]
      obtain ⟨S8, hS8⟩ : ∃ S8, S8 = put4 (fnS (mvS S2) (qm q)) (4 * 0 + 4) (tireF p (tL (qt q) g) (qm q).2.2.2) := ⟨_, rfl⟩
      have hsc : scr (mvS S2) S8 := by rw [hS8]; exact fnS_scr.trans scr_put4
      obtain ⟨S4, e4, n4, p4, h171, w4⟩ := m_becomes (N := N) (g := g) (more := mm) (o := some p) (U := tireF p (tL (qt q) g) (qm q).2.2.2) hN ol (MRn_eq hm1.split.2.1 (hsc.2.2.2.2 161 (by omega) (by omega) (by omega))) (MRpast_eq hm1.split.2.2 (hsc.2.2.2.2 162 (by omega) (by omega) (by omega)) (hsc.1 _ _)) (fun w hw => by rw [hS8]; exact put4_at hw)
      have eM : P_X7_backs N (mvS S2) = some (nI mm, S4) := by
        rw [preM _ hm1, if_pos (nI_le c (by omega)), ← hS8, e4, cal1_s]
      refine ⟨_, _, _, eC, eM, move_end ok hc hm ka2 hv2 ?_ (rem_len ol) (rem_ok ol om ok.2.2.2.1) ?_ p4 ((mvM_scr hsc).trans w4)⟩
      · rw [hm']
        refine ⟨by show g ≤ _; omega, c, ?_, ?_, fun w hw => tire_le w (oT w hw), fun w hw1 hw2 => ?_⟩
        · intro z hz
          have : some p = some z := hz
          cases this
          exact hpp
        · intro _ hz
          have : some p = none := hz
          cases this
        · have := om.2.2.2.2.2 w hw1 hw2
          show tireF p (tL (qt q) g) (qm q).2.2.2 w = 0
          unfold tireF
          obtain ⟨b1, b2⟩ := hpp
          rw [if_neg (by omega)]
          omega
      · rw [hm']; exact n4
    · have sc9 : scr S (fnS S (qm q)) := fnS_scr
      refine ⟨-2, S, _, ?_, ?_, inv_of (S1 := S) q ok hc (scrM hm sc9) (eqC_scr sc9)⟩
      · rw [preC, if_neg (nI_ge (by omega) (by omega))]
      · rw [preM S hm, if_neg (nI_ge (by omega) (by omega))]
end
