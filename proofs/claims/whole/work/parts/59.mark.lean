section
/-! STAGE 2, calls: mark -/
theorem sJ_sJ {S : PSt} {f a : Nat} {v w : Int64} : sJ (sJ S f a v) f a w = sJ S f a w := by
  have e : (fun g b => if g = f ∧ b = a then w else if g = f ∧ b = a then v else S.2.1 g b) = (fun g b => if g = f ∧ b = a then w else S.2.1 g b) := by
    funext g b
    by_cases c : g = f ∧ b = a
    · rw [if_pos c, if_pos c]
    · rw [if_neg c, if_neg c, if_neg c]
  show (S.1, (fun g b => if g = f ∧ b = a then w else if g = f ∧ b = a then v else S.2.1 g b), S.2.2) = _
  rw [e]
  rfl
theorem gJ_self {S : PSt} {f a : Nat} {v : Int64} : gJ (sJ S f a v) f a = v := by rw [gJ_sJ, if_pos ⟨rfl, rfl⟩]
theorem sum_tail {T : Nat → Nat} {W : Nat} (hW : W ≤ 4) (h : ∀ w, W ≤ w → w < 4 → T w = 0) : sumF T 0 4 = sumF T 0 W := by
  rcases (show W = 0 ∨ W = 1 ∨ W = 2 ∨ W = 3 ∨ W = 4 by omega) with e | e | e | e | e <;> subst e
  · have h0 := h 0 (by omega) (by omega); have h1 := h 1 (by omega) (by omega); have h2 := h 2 (by omega) (by omega); have h3 := h 3 (by omega) (by omega)
    simp [sumF, h0, h1, h2, h3]
  · have h1 := h 1 (by omega) (by omega); have h2 := h 2 (by omega) (by omega); have h3 := h 3 (by omega) (by omega)
    simp [sumF, h1, h2, h3]
  · have h2 := h 2 (by omega) (by omega); have h3 := h 3 (by omega) (by omega)
    simp [sumF, h2, h3]
  · have h3 := h 3 (by omega) (by omega)
    simp [sumF, h3]
  · rfl
theorem c_asStep {N r k : Nat} {S : PSt} {t : Tau} (hr : gR S 601 0 = r) (hk : kd r = 4) (hR : CRt S r t) (ok : TOK t) (hi : k < tn t) : P_X6_asStep N S (nI k) = some (nI (tL t k), sJ S 610 0 (gJ S 610 0 + 1)) := by
  have on := ok.2.1
  have hr' : gR (sJ S 610 0 (gJ S 610 0 + 1)) 601 0 = r := hr
  have h3 : gA (sJ S 610 0 (gJ S 610 0 + 1)) (r + 3) k = nI (tL t k) := hR.2.2.2.2.2.2.1 k hi
  unfold P_X6_asStep
  rw [bnd_eq, hr', bnd_eq, isk_of hk, gd_true, bin_nI (by omega), lt3 hk, gd_dec (by omega), nI_clamp (by omega), h3]
theorem c_asFirm {N r k : Nat} {S : PSt} {t : Tau} (hr : gR S 601 0 = r) (hk : kd r = 4) (hR : CRt S r t) (ok : TOK t) (hi : k < tn t) : P_X6_asFirm N S (nI k) = some (nI (tL t k + tB t k), sJ S 610 0 (gJ S 610 0 + 10 + 1)) := by
  have on := ok.2.1
  have hR' : CRt (sJ S 610 0 (gJ S 610 0 + 10)) r t := hR
  have hr' : ∀ v, gR (sJ S 610 0 v) 601 0 = r := fun _ => hr
  have h4 : ∀ v, gA (sJ S 610 0 v) (r + 4) k = nI (tB t k) := fun _ => hR.2.2.2.2.2.2.2.1 k hi
  unfold P_X6_asFirm
  rw [bnd_eq, c_asStep (hr' _) hk hR' ok hi, cal2_s, gJ_self, sJ_sJ, hr', bnd_eq, isk_of hk, gd_true, bin_nI (by omega), lt4 hk, gd_dec (by omega), nI_clamp (by omega), h4, nI_add]
theorem c_tog {N a : Nat} {S : PSt} {T : Nat → Nat} (hka : kd a = 0) (hT : ∀ w, w < 4 → gA S (a + 1) w = nI (T w)) : ∀ (z k fuel : Nat), k + z = 4 → z < fuel → P_X0_tiredTogether_L4 N fuel S a (nI (sumF T 0 k)) (nI k) = some (nI (sumF T 0 4), S) := by
  intro z
  induction z with
  | zero =>
    intro k fuel hz hf
    obtain ⟨fuel, rfl⟩ : ∃ z, fuel = z + 1 := ⟨fuel - 1, by omega⟩
    rw [P_X0_tiredTogether_L4]
    dsimp only
    rw [li4, if_pos (nI_le (by omega) (by omega)), show k = 4 by omega]
  | succ z ih =>
    intro k fuel hz hf
    obtain ⟨fuel, rfl⟩ : ∃ z, fuel = z + 1 := ⟨fuel - 1, by omega⟩
    rw [P_X0_tiredTogether_L4]
    dsimp only
    rw [li4, if_neg (nI_ge (by omega) (by omega)), bin_nI (by omega), lm1 hka, gd_dec (by omega), nI_clamp (by omega), hT k (by omega), nI_add, bnd_eq, li1, nI_add, bnd_eq]
    have e := ih (k + 1) fuel (by omega) (by omega)
    rw [sumF, Nat.zero_add] at e
    exact e
theorem c_asSlimy {N r k : Nat} {S : PSt} {t : Tau} {T : Nat → Nat} (hN : 10 ≤ N) (hr : gR S 601 0 = r) (hk : kd r = 4) (hR : CRt S r t) (ok : TOK t) (hi : k < tn t) (hT : ∀ w, w < 4 → gA S 26 w = nI (T w)) : P_X6_asSlimy N S (nI k) = some (nI (tL t k) - nI (sumF T 0 4), sJ S 610 0 (gJ S 610 0 + 100 + 1)) := by
  have hR' : CRt (sJ S 610 0 (gJ S 610 0 + 100)) r t := hR
  have hr' : ∀ v, gR (sJ S 610 0 v) 601 0 = r := fun _ => hr
  have h4 : ∀ v w, w < 4 → gA (sJ S 610 0 v) (25 + 1) w = nI (T w) := fun _ => hT
  unfold P_X6_asSlimy
  rw [bnd_eq, c_asStep (hr' _) hk hR' ok hi, cal2_s, gJ_self, sJ_sJ]
  unfold P_X0_tiredTogether
  have e := c_tog (N := N) (a := 25) (by rfl) (h4 (gJ S 610 0 + 100 + 1)) 4 0 N (by omega) (by omega)
  rw [sumF] at e
  rw [li0, e, cal2_s]
theorem c_shafts {N r : Nat} {S : PSt} {t : Tau} (hk : kd r = 4) (hR : CRt S r t) (ok : TOK t) : ∀ (z k fuel : Nat), k + z = tn t → z < fuel → P_X4_shafts_L4 N fuel S r (nI (sumF (tH t) 0 k)) (nI k) = some (nI (sumF (tH t) 0 (tn t)), S) := by
  have on := ok.2.1
  intro z
  induction z with
  | zero =>
    intro k fuel hz hf
    obtain ⟨fuel, rfl⟩ : ∃ z, fuel = z + 1 := ⟨fuel - 1, by omega⟩
    rw [P_X4_shafts_L4]
    dsimp only
    rw [hR.2.1, if_pos (nI_le (by omega) (by omega)), show k = tn t by omega]
  | succ z ih =>
    intro k fuel hz hf
    obtain ⟨fuel, rfl⟩ : ∃ z, fuel = z + 1 := ⟨fuel - 1, by omega⟩
    rw [P_X4_shafts_L4]
    dsimp only
    rw [hR.2.1, if_neg (nI_ge (by omega) (by omega)), bin_nI (by omega), lt6 hk, gd_dec (by omega), nI_clamp (by omega), hR.2.2.2.2.2.2.2.2.2 k (by omega), nI_add, bnd_eq, li1, nI_add, bnd_eq]
    have e := ih (k + 1) fuel (by omega) (by omega)
    rw [sumF, Nat.zero_add] at e
    exact e
theorem m_stepMark {N k : Nat} {S : PSt} {t : Tau} (hM : MRt S t) (ok : TOK t) (hi : k < tn t) : P_X7_stepMark N S (nI k) = some (nI (tL t k), sJ S 713 158 (gJ S 713 158 + 1)) := by
  have on := ok.2.1
  have h3 : gA (sJ S 713 158 (gJ S 713 158 + 1)) 160 (4 * k) = nI (tL t k) := hM.2.2.2.2.2.2.1 k hi
  unfold P_X7_stepMark
  rw [bnd_eq, li4, pk_mul, bin_nI (by omega), l160, gd_dec (by omega), nI_clamp (by omega), h3]
theorem m_firmMark {N k : Nat} {S : PSt} {t : Tau} (hM : MRt S t) (ok : TOK t) (hi : k < tn t) : P_X7_firmMark N S (nI k) = some (nI (tL t k + tB t k), sJ S 713 158 (gJ S 713 158 + 10 + 1)) := by
  have on := ok.2.1
  have hM' : MRt (sJ S 713 158 (gJ S 713 158 + 10)) t := hM
  have h4 : ∀ v, gA (sJ S 713 158 v) 160 (4 * k + 1) = nI (tB t k) := fun _ => hM.2.2.2.2.2.2.2.1 k hi
  unfold P_X7_firmMark
  rw [bnd_eq, m_stepMark hM' ok hi, cal2_s, gJ_self, sJ_sJ, li4, li1, pk_mul, nI_add, bin_nI (by omega), l160, gd_dec (by omega), nI_clamp (by omega), h4, nI_add]
theorem m_slimyL {N k : Nat} {S : PSt} {t : Tau} {T : Nat → Nat} (hM : MRt S t) (ok : TOK t) (hi : k < tn t) (hT : ∀ w, w < 4 → gA S 161 (3 + w) = nI (T w)) : ∀ (z w fuel : Nat), w + z = tW t → z < fuel → P_X7_slimyMark_L16 N fuel S (nI k) (nI (sumF T 0 w)) (nI w) = some (nI (tL t k) - nI (sumF T 0 (tW t)), sJ S 713 158 (gJ S 713 158 + 1)) := by
  have oW := ok.1
  intro z
  induction z with
  | zero =>
    intro w fuel hz hf
    obtain ⟨fuel, rfl⟩ : ∃ z, fuel = z + 1 := ⟨fuel - 1, by omega⟩
    rw [P_X7_slimyMark_L16]
    dsimp only
    rw [hM.1, if_pos (nI_le (by omega) (by omega)), show w = tW t by omega, m_stepMark hM ok hi, cal2_s]
  | succ z ih =>
    intro w fuel hz hf
    obtain ⟨fuel, rfl⟩ : ∃ z, fuel = z + 1 := ⟨fuel - 1, by omega⟩
    rw [P_X7_slimyMark_L16]
    dsimp only
    rw [hM.1, if_neg (nI_ge (by omega) (by omega)), li3, nI_add, bin_nI (by omega), l161, gd_dec (by omega), nI_clamp (by omega), hT w (by omega), nI_add, bnd_eq, li1, nI_add, bnd_eq]
    have e := ih (w + 1) fuel (by omega) (by omega)
    rw [sumF, Nat.zero_add] at e
    exact e
theorem m_slimyMark {N k : Nat} {S : PSt} {t : Tau} {T : Nat → Nat} (hN : 10 ≤ N) (hM : MRt S t) (ok : TOK t) (hi : k < tn t) (hT : ∀ w, w < 4 → gA S 161 (3 + w) = nI (T w)) : P_X7_slimyMark N S (nI k) = some (nI (tL t k) - nI (sumF T 0 (tW t)), sJ S 713 158 (gJ S 713 158 + 100 + 1)) := by
  have oW := ok.1
  have hM' : MRt (sJ S 713 158 (gJ S 713 158 + 100)) t := hM
  have hT' : ∀ w, w < 4 → gA (sJ S 713 158 (gJ S 713 158 + 100)) 161 (3 + w) = nI (T w) := hT
  unfold P_X7_slimyMark
  have e := m_slimyL (N := N) hM' ok hi hT' (tW t) 0 N (by omega) (by omega)
  rw [sumF, gJ_self, sJ_sJ] at e
  rw [bnd_eq, li0, e]
theorem m_shafts {N : Nat} {S : PSt} {t : Tau} (hM : MRt S t) (ok : TOK t) : ∀ (z k fuel : Nat), k + z = tn t → z < fuel → P_X7_shafts_L4 N fuel S (nI (sumF (tH t) 0 k)) (nI k) = some (nI (sumF (tH t) 0 (tn t)), S) := by
  have on := ok.2.1
  intro z
  induction z with
  | zero =>
    intro k fuel hz hf
    obtain ⟨fuel, rfl⟩ : ∃ z, fuel = z + 1 := ⟨fuel - 1, by omega⟩
    rw [P_X7_shafts_L4]
    dsimp only
    rw [hM.2.1, if_pos (nI_le (by omega) (by omega)), show k = tn t by omega]
  | succ z ih =>
    intro k fuel hz hf
    obtain ⟨fuel, rfl⟩ : ∃ z, fuel = z + 1 := ⟨fuel - 1, by omega⟩
    rw [P_X7_shafts_L4]
    dsimp only
    rw [hM.2.1, if_neg (nI_ge (by omega) (by omega)), li4, li3, pk_mul, nI_add, bin_nI (by omega), l160, gd_dec (by omega), nI_clamp (by omega), hM.2.2.2.2.2.2.2.2.2 k (by omega), nI_add, bnd_eq, li1, nI_add, bnd_eq]
    have e := ih (k + 1) fuel (by omega) (by omega)
    rw [sumF, Nat.zero_add] at e
    exact e
def setJ (q : Sig) (j : Int64) : Sig := (q.1, q.2.1, q.2.2.1, q.2.2.2.1, q.2.2.2.2.1, q.2.2.2.2.2.1, j)
theorem step_mark {N : Nat} {S : PSt} (hN : 100 ≤ N) (x y : Int32) (h : Inv S) : ∃ r S1 S2, P_X6_mark N S x y = some (r, S1) ∧ P_X7_mark N S1 x y = some (r, S2) ∧ Inv S2 := by
  obtain ⟨q, ok, hc, hm⟩ := h
  obtain ⟨r, d, hrd, hr, hd, hT, hp, -, -⟩ := hc.1
  obtain ⟨hk, -, hkr, -⟩ := isk4 hrd
  have o1 := ok.1
  have on := o1.2.1
  have om := ok.2.1
  have oT := om.2.2.2.2.1
  have fin : ∀ (v : Int64) (z : Int32), P_X6_mark N S x y = some (z, sJ S 610 0 v) → (∀ T : PSt, MR T q → P_X7_mark N T x y = some (z, sJ T 713 158 v)) → ∃ r S1 S2, P_X6_mark N S x y = some (r, S1) ∧ P_X7_mark N S1 x y = some (r, S2) ∧ Inv S2 := by
    intro v z h1 h2
    have hm1 : MR (sJ S 610 0 v) q := hm.eqM (eqM_sJ (by omega))
    refine ⟨z, _, _, h1, h2 _ hm1, inv_of (S1 := sJ S 610 0 v) (setJ q v) ok ?_ ?_ (eqC_sJ (by omega))⟩
    · obtain ⟨c1, c2, c3, c4, c5, c6, c7, c8⟩ := hc
      exact ⟨c1, c2, c3, c4, c5, c6, c7, gJ_self⟩
    · obtain ⟨b1, b2, b3, b4, b5, b6, b7, b8, b9, b10, b11, b12⟩ := hm1
      exact ⟨b1, b2, b3, b4, b5, b6, b7, b8, b9, b10, b11, gJ_self⟩
  have ro : P_X6_mark N S x y = some (-1000000, S) → P_X7_mark N S x y = some (-1000000, S) → ∃ r S1 S2, P_X6_mark N S x y = some (r, S1) ∧ P_X7_mark N S1 x y = some (r, S2) ∧ Inv S2 := fun h1 h2 => ⟨_, S, S, h1, h2, q, ok, hc, hm⟩
  rcases ix_or y (tn (qt q)) (by omega) with ⟨k, hkn, rfl⟩ | ⟨-, c⟩
  · have preC : P_X6_mark N S x (nI k) = if x = nI 0 then (cal2 (P_X6_asStep N S (nI k)) fun r10 S8 => some (r10, S8)) else (if x = nI 1 then (cal2 (P_X6_asFirm N S (nI k)) fun r14 S12 => some (r14, S12)) else (if x = nI 2 then (cal2 (P_X6_asSlimy N S (nI k)) fun r18 S16 => some (r18, S16)) else (if x = nI 3 then (cal2 (P_X6_asStretched N S (nI k)) fun r22 S20 => some (r22, S20)) else (if x = nI 4 then (cal2 (P_X6_asCramped N S (nI k)) fun r26 S24 => some (r26, S24)) else (if x = nI 5 then (cal2 (P_X6_asBlind N S (nI k)) fun r30 S28 => some (r30, S28)) else (some ((-1000000 : Int32), S))))))) := by
      unfold P_X6_mark
      simp only [bnd_eq, hr, hk, gd_true]
      rw [c_hasStretch1 hT o1 hkn, cal2_s, li0, if_neg n1_0, li1, li2, li3, li4, li5]
    rcases inR x 0 5 (by omega) (by omega) with ⟨j, -, hj, rfl⟩ | c
    · have preM : ∀ T : PSt, MR T q → P_X7_mark N T (nI j) (nI k) = if nI j = nI 0 then (cal2 (P_X7_stepMark N T (nI k)) fun r12 S10 => some (r12, S10)) else (if nI j = nI 1 then (cal2 (P_X7_firmMark N T (nI k)) fun r16 S14 => some (r16, S14)) else (if nI j = nI 2 then (cal2 (P_X7_slimyMark N T (nI k)) fun r20 S18 => some (r20, S18)) else (if nI j = nI 3 then (bnd (sJ T 713 158 ((gJ T 713 158) + (1000 : Int64))) fun S22 => cal2 (P_X7_firmMark N S22 (nI k)) fun r25 S23 => some ((nI 2 * r25), S23)) else (if nI j = nI 4 then (bnd (sJ T 713 158 ((gJ T 713 158) + (10000 : Int64))) fun S27 => cal2 (P_X7_slimyMark N S27 (nI k)) fun r30 S28 => cal2 (P_X7_shafts N S28) fun r33 S31 => some ((r30 + r33), S31)) else (bnd (sJ T 713 158 ((gJ T 713 158) + (100000 : Int64))) fun S34 => cal2 (P_X7_stepMark N S34 (nI k)) fun r37 S35 => some ((r37 + (gA S35 161 1)), S35)))))) := by
        intro T hmT
        unfold P_X7_mark
        rw [li0, li5, m_in1 (by omega) hj (by omega), cal2_s, if_neg n1_0, m_isStretch1 hmT.1 o1 hkn, cal2_s, if_neg n1_0, li1, li2, li3, li4, nI_clamp (by omega)]
      have hJ := hc.2.2.2.2.2.2.2
      have hR' : ∀ v, CRt (sJ S 610 0 v) r (qt q) := fun _ => hT
      have hr' : ∀ v, gR (sJ S 610 0 v) 601 0 = r := fun _ => hr
      have h26 : ∀ w, w < 4 → gA S 26 w = nI ((qm q).2.2.2 w) := hc.2.1.1.1.2.2.2
      have hst := sum_tail o1.1 om.2.2.2.2.2
      rcases (show j = 0 ∨ j = 1 ∨ j = 2 ∨ j = 3 ∨ j = 4 ∨ j = 5 by omega) with e | e | e | e | e | e <;> subst e
      · refine fin (qj q + 1) (nI (tL (qt q) k)) ?_ (fun T hmT => ?_)
        · rw [preC, if_pos rfl, c_asStep hr hkr hT o1 hkn, cal2_s, hJ]
        · rw [preM T hmT, if_pos rfl, m_stepMark hmT.1 o1 hkn, cal2_s, hmT.2.2.2.2.2.2.2.2.2.2.2]
      · refine fin (qj q + 10 + 1) (nI (tL (qt q) k + tB (qt q) k)) ?_ (fun T hmT => ?_)
        · rw [preC, if_neg (by decide), if_pos rfl, c_asFirm hr hkr hT o1 hkn, cal2_s, hJ]
        · rw [preM T hmT, if_neg (by decide), if_pos rfl, m_firmMark hmT.1 o1 hkn, cal2_s, hmT.2.2.2.2.2.2.2.2.2.2.2]
      · refine fin (qj q + 100 + 1) (nI (tL (qt q) k) - nI (sumF (qm q).2.2.2 0 (tW (qt q)))) ?_ (fun T hmT => ?_)
        · rw [preC, if_neg (by decide), if_neg (by decide), if_pos rfl, c_asSlimy (by omega) hr hkr hT o1 hkn h26, cal2_s, hJ, hst]
        · rw [preM T hmT, if_neg (by decide), if_neg (by decide), if_pos rfl, m_slimyMark (by omega) hmT.1 o1 hkn hmT.2.1.2.2.2, cal2_s, hmT.2.2.2.2.2.2.2.2.2.2.2]
      · refine fin (qj q + 1000 + 10 + 1) (nI (2 * (tL (qt q) k + tB (qt q) k))) ?_ (fun T hmT => ?_)
        · rw [preC, if_neg (by decide), if_neg (by decide), if_neg (by decide), if_pos rfl]
          unfold P_X6_asStretched
          rw [bnd_eq, c_asFirm (hr' _) hkr (hR' _) o1 hkn, cal2_s, cal2_s, gJ_self, sJ_sJ, hJ, li2, pk_mul, Nat.mul_comm]
        · have hM' : MRt (sJ T 713 158 (gJ T 713 158 + 1000)) (qt q) := hmT.1
          rw [preM T hmT, if_neg (by decide), if_neg (by decide), if_neg (by decide), if_pos rfl, bnd_eq, m_firmMark hM' o1 hkn, cal2_s, gJ_self, sJ_sJ, hmT.2.2.2.2.2.2.2.2.2.2.2, pk_mul]
      · refine fin (qj q + 10000 + 100 + 1) (nI (tL (qt q) k) - nI (sumF (qm q).2.2.2 0 (tW (qt q))) + nI (sumF (tH (qt q)) 0 (tn (qt q)))) ?_ (fun T hmT => ?_)
        · rw [preC, if_neg (by decide), if_neg (by decide), if_neg (by decide), if_neg (by decide), if_pos rfl]
          unfold P_X6_asCramped
          have e := c_shafts (N := N) (S := sJ S 610 0 (qj q + 10000 + 100 + 1)) hkr (hR' _) o1 (tn (qt q)) 0 N (by omega) (by omega)
          rw [sumF] at e
          rw [bnd_eq, c_asSlimy (by omega) (hr' _) hkr (hR' _) o1 hkn h26, cal2_s, gJ_self, sJ_sJ, hJ, hr', bnd_eq, hk, gd_true]
          unfold P_X4_shafts
          rw [li0, e, cal2_s, cal2_s, hst]
        · have hM' : ∀ v, MRt (sJ T 713 158 v) (qt q) := fun _ => hmT.1
          have e := m_shafts (N := N) (S := sJ T 713 158 (qj q + 10000 + 100 + 1)) (hM' _) o1 (tn (qt q)) 0 N (by omega) (by omega)
          rw [sumF] at e
          rw [preM T hmT, if_neg (by decide), if_neg (by decide), if_neg (by decide), if_neg (by decide), if_pos rfl, bnd_eq, m_slimyMark (by omega) (hM' _) o1 hkn hmT.2.1.2.2.2, cal2_s, gJ_self, sJ_sJ, hmT.2.2.2.2.2.2.2.2.2.2.2]
          unfold P_X7_shafts
          rw [li0, e, cal2_s]
      · refine fin (qj q + 100000 + 1) (nI (tL (qt q) k + (qm q).2.1)) ?_ (fun T hmT => ?_)
        · rw [preC, if_neg (by decide), if_neg (by decide), if_neg (by decide), if_neg (by decide), if_neg (by decide), if_pos rfl]
          unfold P_X6_asBlind
          have e1 : ∀ v, gI (sJ S 610 0 v) 1 25 = nI (qm q).2.1 := fun _ => hc.2.1.1.1.2.1
          rw [bnd_eq, c_asStep (hr' _) hkr (hR' _) o1 hkn, cal2_s, cal2_s, gJ_self, sJ_sJ, hJ, e1, nI_add]
        · have hM' : ∀ v, MRt (sJ T 713 158 v) (qt q) := fun _ => hmT.1
          have e1 : ∀ v, gA (sJ T 713 158 v) 161 1 = nI (qm q).2.1 := fun _ => hmT.2.1.2.1
          rw [preM T hmT, if_neg (by decide), if_neg (by decide), if_neg (by decide), if_neg (by decide), if_neg (by decide), bnd_eq, m_stepMark (hM' _) o1 hkn, cal2_s, gJ_self, sJ_sJ, hmT.2.2.2.2.2.2.2.2.2.2.2, e1, nI_add]
    · have ne : ∀ j, j ≤ 5 → ¬ x = nI j := by
        rintro j hj rfl
        rcases c with c | ⟨-, c⟩
        · exact nI_nlt (by omega) (by omega) c
        · exact nI_nlt hj (by omega) c
      refine ro ?_ ?_
      · rw [preC, if_neg (ne 0 (by omega)), if_neg (ne 1 (by omega)), if_neg (ne 2 (by omega)), if_neg (ne 3 (by omega)), if_neg (ne 4 (by omega)), if_neg (ne 5 (by omega))]
      · unfold P_X7_mark
        rw [li0, li5, m_in0 (by rcases c with c | ⟨c, d⟩; exact Or.inl c; exact Or.inr d), cal2_s, if_pos rfl]
  · refine ro ?_ ?_
    · unfold P_X6_mark
      simp only [bnd_eq, hr, hk, gd_true]
      rw [c_hasStretch0 hT c, cal2_s, li0, if_pos rfl]
    · unfold P_X7_mark
      rw [li0, li5]
      rcases inR x 0 5 (by omega) (by omega) with ⟨j, -, hj, rfl⟩ | c2
      · rw [m_in1 (by omega) hj (by omega), cal2_s, if_neg n1_0, m_isStretch0 hm.1 o1 c, cal2_s, if_pos rfl]
      · rw [m_in0 (by rcases c2 with c | ⟨c, d⟩; exact Or.inl c; exact Or.inr d), cal2_s, if_pos rfl]
end
