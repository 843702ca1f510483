/-! STAGE 2, calls: forget, saw -/
def setS (q : Sig) (sn : List (Nat × Nat)) : Sig := (q.1, q.2.1, q.2.2.1, q.2.2.2.1, sn, q.2.2.2.2.2.1, q.2.2.2.2.2.2)
theorem getD_appP {α : Type} {l : List α} {k d : α} {i : Nat} (hi : i < l.length + 1) : (l ++ [k]).getD i d = if i = l.length then k else l.getD i d := by
  rw [List.getD_eq_getElem?_getD, List.getD_eq_getElem?_getD, List.getElem?_append]
  by_cases c : i = l.length
  · subst c; simp
  · rw [if_pos (by omega), if_neg c]
/-- the class's other blocks, when only seen has changed -/
theorem CR.seen {S S1 : PSt} {q : Sig} {sn : List (Nat × Nat)} (ok : SOK q) (hc : CR S q) (ka : ∀ a, (a < 98 ∨ 105 < a) → ag S S1 a) (hs : CRseen S1 (qt q) sn) : CR S1 (setS q sn) := by
  obtain ⟨c1, c2, c3, c4, c5, c6, c7, c8⟩ := hc
  exact ⟨c1.ag (fun f => (ka 0 (by omega)).2.2.1 f) (fun a _ _ => ka a (by omega)), c2.ag ok.2.2.1 (fun a _ _ => ka a (by omega)), c3.ag (fun j r hr => (ok.2.2.2.2.1 j r hr).2.1) (fun a _ _ => ka a (by omega)), c4.ag (fun i _ => ka _ (by omega)), c5.ag (fun i _ => ka _ (by omega)), hs, c7.ag (ka _ (by omega)) (ka _ (by omega)), ((ka 0 (by omega)).2.1 _).trans c8⟩
theorem SOK.seen {q : Sig} {sn : List (Nat × Nat)} (ok : SOK q) (h1 : sn.length ≤ 6) (h2 : ∀ i, i < sn.length → (sn.getD i (0, 0)).1 < tn (qt q) ∧ (sn.getD i (0, 0)).2 ≤ 9999) : SOK (setS q sn) := by
  obtain ⟨o1, o2, o3, o4, o5, o6, o7, o8, o9⟩ := ok
  exact ⟨o1, o2, o3, o4, o5, h1, h2, o8, o9⟩
theorem step_forget {N : Nat} {S : PSt} (h : Inv S) : ∃ r S1 S2, P_X6_forget N S = some (r, S1) ∧ P_X7_forget N S1 = some (r, S2) ∧ Inv S2 := by
  obtain ⟨q, ok, hc, hm⟩ := h
  have e1 : P_X6_forget N S = some (nI (qs q).length, sI (sI S 300 98 0) 301 98 0) := by
    unfold P_X6_forget
    rw [bnd_eq, bnd_eq, bnd_eq, hc.2.2.2.2.2.1.1]
  have kM : eqM S (sI (sI S 300 98 0) 301 98 0) := (eqM_sI (by omega)).trans (eqM_sI (by omega))
  have hm1 := hm.eqM kM
  have ka : ∀ a, (a < 98 ∨ 105 < a) → ag S (sI (sI S 300 98 0) 301 98 0) a := fun a ha => (ag_sI (by omega)).trans (ag_sI (by omega))
  have hcs : CRseen (sI (sI S 300 98 0) 301 98 0) (qt q) [] := by
    obtain ⟨-, -, -, h4, -⟩ := hc.2.2.2.2.2.1
    exact ⟨show (0 : Int32) = nI 0 by decide, fun i hi => absurd hi (Nat.not_lt_zero i), fun i hi => absurd hi (Nat.not_lt_zero i), h4, Or.inl rfl⟩
  generalize sI (sI S 300 98 0) 301 98 0 = S1 at e1 kM hm1 ka hcs
  have e2 : P_X7_forget N S1 = some (nI (qs q).length, sI S1 711 158 0) := by
    unfold P_X7_forget
    rw [bnd_eq, bnd_eq, hm1.2.2.2.2.2.2.1]
  refine ⟨_, _, _, e1, e2, inv_of (S1 := S1) (setS q []) (ok.seen (Nat.zero_le _) (fun i hi => absurd hi (Nat.not_lt_zero i))) (CR.seen ok hc ka hcs) ?_ (eqC_sI (by omega))⟩
  obtain ⟨b1, b2, b3, b4, b5, b6, b7, b8, b9, b10, b11, b12⟩ := hm1
  exact ⟨b1, b2, b3, b4, b5, b6, by show (0 : Int32) = nI 0; decide, fun i hi => absurd hi (Nat.not_lt_zero i), fun i hi => absurd hi (Nat.not_lt_zero i), b10, b11, b12⟩
theorem l101 : ln 101 = 6 := rfl
theorem l102 : ln 102 = 6 := rfl
theorem step_saw {N : Nat} {S : PSt} (x y : Int32) (h : Inv S) : ∃ r S1 S2, P_X6_saw N S x y = some (r, S1) ∧ P_X7_saw N S1 x y = some (r, S2) ∧ Inv S2 := by
  obtain ⟨q, ok, hc, hm⟩ := h
  obtain ⟨r, d, hrd, hr, hd, hT, hp, -, -⟩ := hc.1
  obtain ⟨hk, -, hkr, -⟩ := isk4 hrd
  have o1 := ok.1
  have on := o1.2.1
  have o6 := ok.2.2.2.2.2.1
  have o7 := ok.2.2.2.2.2.2.1
  have hlen := hc.2.2.2.2.2.1.1
  have mlen := hm.2.2.2.2.2.2.1
  -- answers that change nothing
  have ro : ∀ v : Int32, P_X6_saw N S x y = some (v, S) → P_X7_saw N S x y = some (v, S) → ∃ r S1 S2, P_X6_saw N S x y = some (r, S1) ∧ P_X7_saw N S1 x y = some (r, S2) ∧ Inv S2 := fun v h1 h2 => ⟨v, S, S, h1, h2, q, ok, hc, hm⟩
  rcases ix_or x (tn (qt q)) (by omega) with ⟨k, hkn, rfl⟩ | ⟨-, c⟩
  · have oT := o1.2.2.2.2.2.2 k hkn
    by_cases csh : tH (qt q) k = 0
    · apply ro (-1)
      · unfold P_X6_saw
        simp only [bnd_eq, hr, hk, gd_true]
        rw [c_hasStretch1 hT o1 hkn, cal2_s, li0, if_neg n1_0, hr, hk, gd_true]
        simp (disch := omega) only [lt6 hkr, bin_nI, nI_clamp]
        rw [decide_eq_true (by omega : k < 6), gd_true, hT.2.2.2.2.2.2.2.2.2 k hkn, csh, if_pos rfl]
      · unfold P_X7_saw
        rw [m_isStretch1 hm.1 o1 hkn, cal2_s, li0, if_neg n1_0]
        simp (disch := omega) only [li0, li1, li2, li3, li4, li5, li6, li7, li8, li9, li10, li12, li13, li15, li18, li20, li23, li24, li31, li32, li40, li48, li49, li57, li59, li64, li70, li78, li97, li99, li100, li104, li116, li119, li122, li200, li255, li9999, nI_add, pk_mul, nI_clamp, bin_nI, nI_ltI, nI_leI, nI_eq, l160]
        rw [decide_eq_true (by omega : 4 * k + 3 < 24), gd_true, hm.1.2.2.2.2.2.2.2.2.2 k hkn, csh, if_pos rfl]
    · have csh1 : ¬ nI (tH (qt q) k) = nI 0 := by rw [nI_eq (by omega) (by omega)]; exact csh
      have pre1 : ∀ S1 : PSt, MR S1 q → P_X7_saw N S1 (nI k) y = cal2 (P_X7_in N S1 y (nI 0) (nI 9999)) fun r9 S7 => if r9 = nI 0 then some (-1, S7) else if gI S7 711 158 = nI 6 then some (-3, S7) else gd (bin (nI 2 * gI S7 711 158) (ln 165)) <| bnd (sA S7 165 (nI 2 * gI S7 711 158).toNatClampNeg (nI k)) fun S13 => gd (bin ((nI 2 * gI S13 711 158) + nI 1) (ln 165)) <| bnd (sA S13 165 ((nI 2 * gI S13 711 158) + nI 1).toNatClampNeg y) fun S15 => bnd (sI S15 711 158 (gI S15 711 158 + nI 1)) fun S16 => some (gI S16 711 158, S16) := by
        intro S1 hm1
        unfold P_X7_saw
        rw [m_isStretch1 hm1.1 o1 hkn, cal2_s, li0, if_neg n1_0]
        have e : bin ((4 : Int32) * nI k + 3) (ln 160) = true := by
          rw [li4, li3, pk_mul, nI_add, bin_nI (by omega), l160]; exact decide_eq_true (by omega)
        have e2 : gA S1 160 ((4 : Int32) * nI k + 3).toNatClampNeg = nI (tH (qt q) k) := by
          rw [li4, li3, pk_mul, nI_add, nI_clamp (by omega)]; exact hm1.1.2.2.2.2.2.2.2.2.2 k hkn
        rw [e, gd_true, e2, if_neg csh1]
        simp only [li9999, li6, li2, li1]
      have pre2 : P_X6_saw N S (nI k) y = if y < nI 0 then some (-1, S) else if y ≤ nI 9999 then (if gI S 300 98 < nI 6 then (cal1 (P_X3_add N S (nI k) y) fun S14 => some (gI S14 300 98, S14)) else some (-3, S)) else some (-1, S) := by
        unfold P_X6_saw
        simp only [bnd_eq, hr, hk, gd_true]
        rw [c_hasStretch1 hT o1 hkn, cal2_s, li0, if_neg n1_0, hr, hk, gd_true]
        simp (disch := omega) only [lt6 hkr, bin_nI, nI_clamp]
        rw [decide_eq_true (by omega : k < 6), gd_true, hT.2.2.2.2.2.2.2.2.2 k hkn, if_neg csh1]
        simp only [li9999, li6]
      rcases inR y 0 9999 (by omega) (by omega) with ⟨mn, -, hmn, rfl⟩ | c
      · by_cases hl : (qs q).length = 6
        · apply ro (-3)
          · rw [pre2, hlen, hl, if_neg (nI_nlt (by omega) (by omega)), if_pos (nI_le hmn (by omega)), if_neg (by decide)]
          · rw [pre1 S hm, m_in1 (by omega) hmn (by omega), cal2_s, if_neg n1_0, mlen, hl, if_pos rfl]
        · have hlt : (qs q).length < 6 := by omega
          have e1 : P_X6_saw N S (nI k) (nI mn) = some (nI ((qs q).length + 1), sI (sI (sA (sA S 101 (qs q).length (nI k)) 102 (qs q).length (nI mn)) 300 98 (nI ((qs q).length + 1))) 301 98 0) := by
            rw [pre2, hlen, if_neg (nI_nlt (by omega) (by omega)), if_pos (nI_le hmn (by omega)), if_pos (nI_lt hlt (by omega))]
            have ea : P_X3_add N S (nI k) (nI mn) = some (sI (sI (sA (sA S 101 (qs q).length (nI k)) 102 (qs q).length (nI mn)) 300 98 (nI ((qs q).length + 1))) 301 98 0) := by
              unfold P_X3_add
              have e : gI (sA S 101 (qs q).length (nI k)) 300 98 = nI (qs q).length := hlen
              have e' : gI (sA (sA S 101 (qs q).length (nI k)) 102 (qs q).length (nI mn)) 300 98 = nI (qs q).length := hlen
              rw [hlen, li6, if_neg (nI_ge hlt (by omega)), bin_nI (by omega), nI_clamp (by omega), l101, decide_eq_true hlt, gd_true, bnd_eq, e, bin_nI (by omega), nI_clamp (by omega), l102, decide_eq_true hlt, gd_true, bnd_eq, e', li1, nI_add, bnd_eq, bnd_eq]
            rw [ea, cal1_s, gI_sI, if_neg (by omega), gI_sI, if_pos ⟨rfl, rfl⟩]
          have kM : eqM S (sI (sI (sA (sA S 101 (qs q).length (nI k)) 102 (qs q).length (nI mn)) 300 98 (nI ((qs q).length + 1))) 301 98 0) := ((eqM_sA (by omega)).trans (eqM_sA (by omega))).trans ((eqM_sI (by omega)).trans (eqM_sI (by omega)))
          have hm1 := hm.eqM kM
          have ka : ∀ a, (a < 98 ∨ 105 < a) → ag S (sI (sI (sA (sA S 101 (qs q).length (nI k)) 102 (qs q).length (nI mn)) 300 98 (nI ((qs q).length + 1))) 301 98 0) a := fun a ha => ((ag_sA (by omega)).trans (ag_sA (by omega))).trans ((ag_sI (by omega)).trans (ag_sI (by omega)))
          have hll : (qs q ++ [(k, mn)]).length = (qs q).length + 1 := by simp
          have hcs : CRseen (sI (sI (sA (sA S 101 (qs q).length (nI k)) 102 (qs q).length (nI mn)) 300 98 (nI ((qs q).length + 1))) 301 98 0) (qt q) (qs q ++ [(k, mn)]) := by
            obtain ⟨-, g2, g3, g4, -⟩ := hc.2.2.2.2.2.1
            refine ⟨?_, fun i hi => ?_, fun i hi => ?_, g4, Or.inl ?_⟩
            · rw [hll, gI_sI, if_neg (by omega), gI_sI, if_pos ⟨rfl, rfl⟩]
            · rw [getD_appP (by omega), gA_sI, gA_sI, gA_sA, if_neg (by omega), gA_sA, if_pos rfl]
              unfold upd
              split
              · rfl
              · exact g2 i (by omega)
            · rw [getD_appP (by omega), gA_sI, gA_sI, gA_sA, if_pos rfl, gA_sA, if_neg (by omega)]
              unfold upd
              split
              · rfl
              · exact g3 i (by omega)
            · rw [gI_sI, if_pos ⟨rfl, rfl⟩]
          generalize sI (sI (sA (sA S 101 (qs q).length (nI k)) 102 (qs q).length (nI mn)) 300 98 (nI ((qs q).length + 1))) 301 98 0 = S1 at e1 kM hm1 ka hcs
          have mlen1 := hm1.2.2.2.2.2.2.1
          have e2 : P_X7_saw N S1 (nI k) (nI mn) = some (nI ((qs q).length + 1), sI (sA (sA S1 165 (2 * (qs q).length) (nI k)) 165 (2 * (qs q).length + 1) (nI mn)) 711 158 (nI ((qs q).length + 1))) := by
            have e : gI (sA S1 165 (2 * (qs q).length) (nI k)) 711 158 = nI (qs q).length := mlen1
            have e' : gI (sA (sA S1 165 (2 * (qs q).length) (nI k)) 165 (2 * (qs q).length + 1) (nI mn)) 711 158 = nI (qs q).length := mlen1
            rw [pre1 S1 hm1, m_in1 (by omega) hmn (by omega), cal2_s, if_neg n1_0, mlen1, if_neg (by rw [nI_eq (by omega) (by omega)]; omega), pk_mul, bin_nI (by omega), nI_clamp (by omega), l165, decide_eq_true (by omega), gd_true, bnd_eq, e, pk_mul, nI_add, bin_nI (by omega), nI_clamp (by omega), decide_eq_true (by omega), gd_true, bnd_eq, e', nI_add, bnd_eq, gI_sI, if_pos ⟨rfl, rfl⟩]
          refine ⟨_, _, _, e1, e2, inv_of (S1 := S1) (setS q (qs q ++ [(k, mn)])) (ok.seen (by omega) (fun i hi => ?_)) (CR.seen ok hc ka hcs) ?_ (((eqC_sA (by omega)).trans (eqC_sA (by omega))).trans (eqC_sI (by omega)))⟩
          · rw [getD_appP (by omega)]
            split
            · exact ⟨hkn, hmn⟩
            · exact o7 i (by omega)
          · obtain ⟨b1, b2, b3, b4, b5, b6, b7, b8, b9, b10, b11, b12⟩ := hm1
            refine ⟨b1, b2, b3, b4, b5, b6, ?_, fun i hi => ?_, fun i hi => ?_, b10, b11, b12⟩
            · show gI _ 711 158 = nI (qs q ++ [(k, mn)]).length
              rw [hll, gI_sI, if_pos ⟨rfl, rfl⟩]
            · have hi : i < (qs q ++ [(k, mn)]).length := hi
              show gA _ 165 (2 * i) = nI ((qs q ++ [(k, mn)]).getD i (0, 0)).1
              rw [getD_appP (by omega), gA_sI, gA_sA, if_pos rfl, gA_sA, if_pos rfl]
              unfold upd
              rw [if_neg (by omega)]
              by_cases c : i = (qs q).length
              · rw [if_pos (by omega), if_pos c]
              · rw [if_neg (by omega), if_neg c]; exact b8 i (by omega)
            · have hi : i < (qs q ++ [(k, mn)]).length := hi
              show gA _ 165 (2 * i + 1) = nI ((qs q ++ [(k, mn)]).getD i (0, 0)).2
              rw [getD_appP (by omega), gA_sI, gA_sA, if_pos rfl, gA_sA, if_pos rfl]
              unfold upd
              by_cases c : i = (qs q).length
              · rw [if_pos (by omega), if_pos c]
              · rw [if_neg (by omega), if_neg (by omega), if_neg c]; exact b9 i (by omega)
      · apply ro (-1)
        · rw [pre2]
          rcases c with c | ⟨c, d⟩
          · rw [if_pos c]
          · rw [if_neg c, if_neg (by rw [Int32.not_le]; exact d)]
        · rw [pre1 S hm, m_in0 (by rcases c with c | ⟨c, d⟩; exact Or.inl c; exact Or.inr d), cal2_s, if_pos rfl]
  · apply ro (-1)
    · unfold P_X6_saw
      simp only [bnd_eq, hr, hk, gd_true]
      rw [c_hasStretch0 hT c, cal2_s, li0, if_pos rfl]
    · unfold P_X7_saw
      rw [m_isStretch0 hm.1 o1 c, cal2_s, li0, if_pos rfl]
