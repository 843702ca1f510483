/-! STAGE 2, calls: walker, stretch, takes, forget, saw -/
theorem c_hasStretch1 {N : Nat} {S : PSt} {t : Tau} {r k : Nat} (hR : CRt S r t) (ok : TOK t) (hk : k < tn t) : P_X4_hasStretch N S r (nI k) = some (nI 1, S) := by
  have o := ok.2.1
  unfold P_X4_hasStretch
  rw [hR.2.1, li0, if_neg (nI_nlt (by omega) (by omega)), if_neg (nI_ge hk (by omega)), li1]
theorem c_hasStretch0 {N : Nat} {S : PSt} {t : Tau} {r : Nat} {x : Int32} (hR : CRt S r t) (h : x < nI 0 ∨ (¬ x < nI 0 ∧ nI (tn t) ≤ x)) : P_X4_hasStretch N S r x = some (nI 0, S) := by
  unfold P_X4_hasStretch
  rw [hR.2.1, li0]
  rcases h with h | ⟨h, h2⟩
  · rw [if_pos h]
  · rw [if_neg h, if_pos h2]
theorem c_hasPair1 {N : Nat} {S : PSt} {t : Tau} {r p : Nat} (hR : CRt S r t) (ok : TOK t) (hp : vpr t p) : P_X4_hasPair N S r (nI p) = some (nI 1, S) := by
  have o := vpr_lt ok hp
  have oW := ok.1
  obtain ⟨a, b⟩ := hp
  have e1 : nI p / nI 10 = nI (p / 10) := pk_div (by omega) (by omega) (by omega)
  have e2 : nI p - nI (p / 10) * nI 10 = nI (p % 10) := by rw [← e1]; exact pk_rem (by omega) (by omega) (by omega)
  unfold P_X4_hasPair
  simp only [li10, e1, e2, li0, li1]
  rw [hR.1, if_neg (nI_nlt (by omega) (by omega)), if_neg (nI_ge a (by omega)), if_neg (nI_ge b (by omega))]
theorem c_hasPair0 {N : Nat} {S : PSt} {t : Tau} {r : Nat} {x : Int32} (hR : CRt S r t) (ok : TOK t) (h : ¬ isPr t x) : P_X4_hasPair N S r x = some (nI 0, S) := by
  have oW := ok.1
  unfold P_X4_hasPair
  simp only [li10, li0, li1]
  by_cases c0 : x < nI 0
  · rw [if_pos c0]
  · rw [if_neg c0]
    obtain ⟨p, hp, rfl⟩ := nI_of (x := x) (by rw [li0]; exact c0)
    have e1 : nI p / nI 10 = nI (p / 10) := pk_div (by omega) (by omega) (by omega)
    have e2 : nI p - nI (p / 10) * nI 10 = nI (p % 10) := by rw [← e1]; exact pk_rem (by omega) (by omega) (by omega)
    rw [hR.1, e1, e2]
    by_cases c1 : p / 10 < p % 10
    · rw [if_neg (nI_ge c1 (by omega))]
      have c2 : ¬ p % 10 < tW t := fun c2 => h ⟨p, ⟨c1, c2⟩, rfl⟩
      rw [if_pos (nI_le (by omega) (by omega))]
    · rw [if_pos (nI_le (by omega) (by omega))]
theorem l26 : ln 26 = 4 := rfl
theorem c_isWorn {N : Nat} {S : PSt} {t : Tau} {a r w : Nat} {m : Mom} (hka : kd a = 0) (hk : kd r = 4) (hm : CRm S a m) (hT : ∀ w, w < 4 → m.2.2.2 w ≤ 99) (hR : CRt S r t) (ok : TOK t) (hw : w < tW t) : P_X0_isWorn N S a r (nI w) = some (nI (wornN t m.2.2.2 w), S) := by
  have oW := ok.1
  have oR := ok.2.2.2.2.2.1 w hw
  have h9 := hT w (by omega)
  unfold P_X0_isWorn
  simp (disch := omega) only [lm1 hka, lt2 hk, bin_nI, nI_clamp]
  rw [decide_eq_true (by omega : w < 4), gd_true, gd_true, hm.2.2.2 w (by omega), hR.2.2.2.2.2.1 w hw]
  unfold wornN
  by_cases c : m.2.2.2 w ≤ tS t w
  · rw [if_pos c, if_pos (nI_le c (by omega)), li0]
  · rw [if_neg c, if_neg (nI_ge (by omega) (by omega)), li1]
theorem step_walker {N : Nat} {S : PSt} (x y : Int32) (h : Inv S) : ∃ r S1 S2, P_X6_walker N S x y = some (r, S1) ∧ P_X7_walker N S1 x y = some (r, S2) ∧ Inv S2 := by
  obtain ⟨q, ok, hc, hm⟩ := h
  obtain ⟨r, d, hrd, hr, hd, hT, hp, -, -⟩ := hc.1
  obtain ⟨hk, -, hkr, -⟩ := isk4 hrd
  have o1 := ok.1
  have oW := o1.1
  suffices hh : ∃ r, P_X6_walker N S x y = some (r, S) ∧ P_X7_walker N S x y = some (r, S) by
    obtain ⟨r, h1, h2⟩ := hh
    exact ⟨r, S, S, h1, h2, q, ok, hc, hm⟩
  unfold P_X6_walker P_X7_walker
  simp only [bnd_eq, hr, hk, gd_true]
  rw [hT.1, li0]
  rcases ix_or x (tW (qt q)) (by omega) with ⟨k, hkw, rfl⟩ | ⟨-, c⟩
  · rw [m_isWalker1 hm.1 o1 hkw, cal2_s, if_neg n1_0, if_neg (nI_nlt (by omega) (by omega)), if_pos (nI_lt hkw (by omega))]
    have hmt := ok.2.1.2.2.2.2.1
    have oR := o1.2.2.2.2.2.1 k hkw
    have h9 := hmt k (by omega)
    by_cases c0 : y = nI 0
    · subst c0
      refine ⟨nI (tR (qt q) k), ?_, ?_⟩
      · rw [if_pos rfl]
        simp (disch := omega) only [lt1 hkr, bin_nI, nI_clamp]
        rw [decide_eq_true (by omega : k < 4), gd_true, hT.2.2.2.2.1 k hkw]
      · rw [if_pos rfl]
        unfold P_X7_walker_L40
        simp (disch := omega) only [li0, li1, li2, li3, li4, li5, li6, li7, li8, li9, li10, li12, li13, li15, li18, li20, li23, li24, li31, li32, li40, li48, li49, li57, li59, li64, li70, li78, li97, li99, li100, li104, li116, li119, li122, li200, li255, li9999, nI_add, pk_mul, nI_clamp, bin_nI, nI_ltI, nI_leI, nI_eq, l159]
        rw [decide_eq_true (by omega : 2 * k + 0 < 8), gd_true, Nat.add_zero, hm.1.2.2.2.2.1 k hkw]
    · rw [if_neg c0, if_neg c0, li1]
      by_cases c1 : y = nI 1
      · subst c1
        refine ⟨nI (tS (qt q) k), ?_, ?_⟩
        · rw [if_pos rfl]
          simp (disch := omega) only [lt2 hkr, bin_nI, nI_clamp]
          rw [decide_eq_true (by omega : k < 4), gd_true, hT.2.2.2.2.2.1 k hkw]
        · rw [if_pos rfl]
          unfold P_X7_walker_L40
          simp (disch := omega) only [li0, li1, li2, li3, li4, li5, li6, li7, li8, li9, li10, li12, li13, li15, li18, li20, li23, li24, li31, li32, li40, li48, li49, li57, li59, li64, li70, li78, li97, li99, li100, li104, li116, li119, li122, li200, li255, li9999, nI_add, pk_mul, nI_clamp, bin_nI, nI_ltI, nI_leI, nI_eq, l159]
          rw [decide_eq_true (by omega : 2 * k + 1 < 8), gd_true, hm.1.2.2.2.2.2.1 k hkw]
      · rw [if_neg c1, if_neg c1, li2]
        by_cases c2 : y = nI 2
        · subst c2
          refine ⟨nI ((qm q).2.2.2 k), ?_, ?_⟩
          · rw [if_pos rfl]
            simp (disch := omega) only [l26, bin_nI, nI_clamp]
            rw [decide_eq_true (by omega : k < 4), gd_true, hc.2.1.1.1.2.2.2 k (by omega)]
          · rw [if_pos rfl]
            simp (disch := omega) only [li0, li1, li2, li3, li4, li5, li6, li7, li8, li9, li10, li12, li13, li15, li18, li20, li23, li24, li31, li32, li40, li48, li49, li57, li59, li64, li70, li78, li97, li99, li100, li104, li116, li119, li122, li200, li255, li9999, nI_add, pk_mul, nI_clamp, bin_nI, nI_ltI, nI_leI, nI_eq, l161]
            rw [decide_eq_true (by omega : 3 + k < 7), gd_true, hm.2.1.2.2.2 k (by omega)]
        · rw [if_neg c2, if_neg c2, li3]
          by_cases c3 : y = nI 3
          · subst c3
            refine ⟨nI (wornN (qt q) (qm q).2.2.2 k), ?_, ?_⟩
            · rw [if_pos rfl, c_isWorn (by rfl) hkr hc.2.1.1.1 hmt hT o1 hkw, cal2_s]
              rcases Nat.le_one_iff_eq_zero_or_eq_one.mp (worn_le (qt q) (qm q).2.2.2 k) with e | e <;> rw [e]
              · rw [if_pos rfl]
              · rw [if_neg n1_0]
            · rw [if_pos rfl]
              simp (disch := omega) only [li0, li1, li2, li3, li4, li5, li6, li7, li8, li9, li10, li12, li13, li15, li18, li20, li23, li24, li31, li32, li40, li48, li49, li57, li59, li64, li70, li78, li97, li99, li100, li104, li116, li119, li122, li200, li255, li9999, nI_add, pk_mul, nI_clamp, bin_nI, nI_ltI, nI_leI, nI_eq, l161, l159]
              rw [decide_eq_true (by omega : 3 + k < 7), decide_eq_true (by omega : 2 * k + 1 < 8), gd_true, gd_true, hm.2.1.2.2.2 k (by omega), hm.1.2.2.2.2.2.1 k hkw]
              unfold wornN
              by_cases c : (qm q).2.2.2 k ≤ tS (qt q) k
              · rw [if_pos c, if_pos (nI_le c (by omega))]
              · rw [if_neg c, if_neg (nI_ge (by omega) (by omega))]
          · rw [if_neg c3, if_neg c3]
            exact ⟨_, rfl, rfl⟩
  · rw [m_isWalker0 hm.1 o1 c, cal2_s, if_pos rfl]
    refine ⟨-1, ?_, rfl⟩
    rcases c with c | ⟨c, c2⟩
    · rw [if_pos c]
    · rw [if_neg c, if_neg (by rw [Int32.not_lt]; exact c2)]
theorem step_stretch {N : Nat} {S : PSt} (x y : Int32) (h : Inv S) : ∃ r S1 S2, P_X6_stretch N S x y = some (r, S1) ∧ P_X7_stretch N S1 x y = some (r, S2) ∧ Inv S2 := by
  obtain ⟨q, ok, hc, hm⟩ := h
  obtain ⟨r, d, hrd, hr, hd, hT, hp, -, -⟩ := hc.1
  obtain ⟨hk, -, hkr, -⟩ := isk4 hrd
  have o1 := ok.1
  have on := o1.2.1
  suffices hh : ∃ r, P_X6_stretch N S x y = some (r, S) ∧ P_X7_stretch N S x y = some (r, S) by
    obtain ⟨r, h1, h2⟩ := hh
    exact ⟨r, S, S, h1, h2, q, ok, hc, hm⟩
  unfold P_X6_stretch P_X7_stretch
  simp only [bnd_eq, hr, hk, gd_true]
  rcases ix_or x (tn (qt q)) (by omega) with ⟨k, hkn, rfl⟩ | ⟨-, c⟩
  · rw [m_isStretch1 hm.1 o1 hkn, cal2_s, c_hasStretch1 hT o1 hkn, cal2_s, li0, if_neg n1_0, if_neg n1_0, hr, hk, li1, li2, li3]
    rcases inR y 0 3 (by omega) (by omega) with ⟨j, -, hj, rfl⟩ | c
    · rw [m_in1 (by omega) hj (by omega), cal2_s, if_neg n1_0]
      simp (disch := omega) only [li0, li1, li2, li3, li4, li5, li6, li7, li8, li9, li10, li12, li13, li15, li18, li20, li23, li24, li31, li32, li40, li48, li49, li57, li59, li64, li70, li78, li97, li99, li100, li104, li116, li119, li122, li200, li255, li9999, nI_add, pk_mul, nI_clamp, bin_nI, nI_ltI, nI_leI, nI_eq, l160, lt3 hkr, lt4 hkr, lt5 hkr, lt6 hkr]
      rw [decide_eq_true (by omega : 4 * k + j < 24), decide_eq_true (by omega : k < 6)]
      simp only [gd_true]
      rcases (show j = 0 ∨ j = 1 ∨ j = 2 ∨ j = 3 by omega) with e | e | e | e <;> subst e
      · exact ⟨nI (tL (qt q) k), by rw [if_pos rfl, hT.2.2.2.2.2.2.1 k hkn], by rw [Nat.add_zero, hm.1.2.2.2.2.2.2.1 k hkn]⟩
      · exact ⟨nI (tB (qt q) k), by rw [if_neg (by omega), if_pos rfl, hT.2.2.2.2.2.2.2.1 k hkn], by rw [hm.1.2.2.2.2.2.2.2.1 k hkn]⟩
      · exact ⟨nI (tM (qt q) k), by rw [if_neg (by omega), if_neg (by omega), if_pos rfl, hT.2.2.2.2.2.2.2.2.1 k hkn], by rw [hm.1.2.2.2.2.2.2.2.2.1 k hkn]⟩
      · exact ⟨nI (tH (qt q) k), by rw [if_neg (by omega), if_neg (by omega), if_neg (by omega), if_pos rfl, hT.2.2.2.2.2.2.2.2.2 k hkn], by rw [hm.1.2.2.2.2.2.2.2.2.2 k hkn]⟩
    · rw [m_in0 (by rcases c with c | ⟨c, d⟩; exact Or.inl c; exact Or.inr d), cal2_s, if_pos rfl]
      have ne : ∀ j, j ≤ 3 → ¬ y = nI j := by
        rintro j hj rfl
        rcases c with c | ⟨-, c⟩
        · exact nI_nlt (by omega) (by omega) c
        · exact nI_nlt hj (by omega) c
      rw [if_neg (ne 0 (by omega)), if_neg (ne 1 (by omega)), if_neg (ne 2 (by omega)), if_neg (ne 3 (by omega))]
      exact ⟨_, rfl, rfl⟩
  · rw [m_isStretch0 hm.1 o1 c, cal2_s, c_hasStretch0 hT c, cal2_s, li0, if_pos rfl, if_pos rfl]
    exact ⟨_, rfl, rfl⟩
theorem fn_takes {N : Nat} {S : PSt} {q : Sig} {k p : Nat} (hN : 5 ≤ N) (ok : SOK q) (hm : MR S q) (hk : k < tn (qt q)) (hp : vpr (qt q) p) : P_X7_takesAt N (fnS S (qm q)) (nI k) (nI p) (nI 0) = some (nI (mins (qt q) (qm q).2.2.2 k p), fnS S (qm q)) := by
  have hd := fnS_dep (S := S) (m := qm q) ok.2.1.2.2.2.2.1
  exact m_takesAt (hm.1.scr fnS_scr) ok.1 hd.2.2 (by omega) hk hp
theorem scrM {S S' : PSt} {q : Sig} (h : MR S q) (k : scr S S') : MR S' q := by
  obtain ⟨h1, h2, h3, h4, h5, h6, h7, h8, h9, h10, h11, h12⟩ := h
  have kA : ∀ a, a ≠ 170 → a ≠ 171 → a ≠ 172 → gA S' a = gA S a := k.2.2.2.2
  refine ⟨h1.scr k, ?_, (k.1 _ _).trans h3, fun i hi => (h4 i hi).eqM (kA _ (by omega) (by omega) (by omega)), ?_, fun j r hj hr => ?_, (k.1 _ _).trans h7, ?_, ?_, (k.1 _ _).trans h10, ?_, (k.2.1 _ _).trans h12⟩
  · unfold MRn; rw [kA 161 (by omega) (by omega) (by omega)]; exact h2
  · rw [kA 164 (by omega) (by omega) (by omega)]; exact h5
  · obtain ⟨b1, b2, b3⟩ := h6 j r hj hr
    exact ⟨b1.eqM (kA _ (by omega) (by omega) (by omega)), by rw [kA 163 (by omega) (by omega) (by omega)]; exact b2, fun i hi => (b3 i hi).eqM (kA _ (by omega) (by omega) (by omega))⟩
  · rw [kA 165 (by omega) (by omega) (by omega)]; exact h8
  · rw [kA 165 (by omega) (by omega) (by omega)]; exact h9
  · rw [kA 166 (by omega) (by omega) (by omega)]; exact h11
theorem step_takes {N : Nat} {S : PSt} (hN : 5 ≤ N) (x y : Int32) (h : Inv S) : ∃ r S1 S2, P_X6_takes N S x y = some (r, S1) ∧ P_X7_takes N S1 x y = some (r, S2) ∧ Inv S2 := by
  obtain ⟨q, ok, hc, hm⟩ := h
  obtain ⟨r, d, hrd, hr, hd, hT, hp, -, -⟩ := hc.1
  obtain ⟨hk, -, hkr, -⟩ := isk4 hrd
  have o1 := ok.1
  have on := o1.2.1
  suffices hh : ∃ r S2, P_X6_takes N S x y = some (r, S) ∧ P_X7_takes N S x y = some (r, S2) ∧ scr S S2 by
    obtain ⟨r, S2, h1, h2, h3⟩ := hh
    exact ⟨r, S, S2, h1, h2, inv_of (S1 := S) q ok hc (scrM hm h3) (eqC_scr h3)⟩
  unfold P_X6_takes P_X7_takes
  simp only [bnd_eq, hr, hk, gd_true]
  rcases ix_or x (tn (qt q)) (by omega) with ⟨k, hkn, rfl⟩ | ⟨-, c⟩
  · rw [m_isStretch1 hm.1 o1 hkn, cal2_s, c_hasStretch1 hT o1 hkn, cal2_s, li0, if_neg n1_0, if_neg n1_0, hr, hk, gd_true]
    by_cases c : isPr (qt q) y
    · obtain ⟨p, hp, rfl⟩ := c
      rw [m_isPair1 hm.1 o1 hp, cal2_s, c_hasPair1 hT o1 hp, cal2_s, if_neg n1_0, if_neg n1_0, hr, hk, gd_true, c_minutesOn (by rfl) hkr hc.2.1.1.1 ok.2.1.2.2.2.2.1 hT o1 hkn hp, cal2_s, m_fromNow hN hm.2.1, cal1_s, fn_takes hN ok hm hkn hp, cal2_s]
      exact ⟨_, _, rfl, rfl, fnS_scr⟩
    · rw [m_isPair0 hm.1 o1 c, cal2_s, c_hasPair0 hT o1 c, cal2_s, if_pos rfl, if_pos rfl]
      exact ⟨_, _, rfl, rfl, scr.refl S⟩
  · rw [m_isStretch0 hm.1 o1 c, cal2_s, c_hasStretch0 hT c, cal2_s, li0, if_pos rfl, if_pos rfl]
    exact ⟨_, _, rfl, rfl, scr.refl S⟩
