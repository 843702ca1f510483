section
/-! STAGE 2, the component's trial: a pair walks all to come; goIn -/
def tr (S T : PSt) : Prop := ∀ a, a ≠ 156 → a ≠ 157 → ag S T a
theorem tr_refl (S : PSt) : tr S S := fun a _ _ => ag.refl S a
theorem tr_trans {S T U : PSt} (h : tr S T) (k : tr T U) : tr S U := fun a x y => (h a x y).trans (k a x y)
theorem tr_eqM {S T : PSt} (h : tr S T) : eqM S T := eqM.ofag (fun a ha => h a (by omega) (by omega))
theorem CR_tr {S T : PSt} {q : Sig} (ok : SOK q) (hc : CR S q) (k : tr S T) : CR T q := by
  obtain ⟨c1, c2, c3, c4, c5, c6, c7, c8⟩ := hc
  exact ⟨c1.ag (fun f => (k 0 (by omega) (by omega)).2.2.1 f) (fun a _ _ => k a (by omega) (by omega)), c2.ag ok.2.2.1 (fun a _ _ => k a (by omega) (by omega)), c3.ag (fun j r hr => (ok.2.2.2.2.1 j r hr).2.1) (fun a _ _ => k a (by omega) (by omega)), c4.ag (fun i _ => k _ (by omega) (by omega)), c5.ag (fun i _ => k _ (by omega) (by omega)), c6.ag (fun a _ _ => k a (by omega) (by omega)), c7.ag (k _ (by omega) (by omega)) (k _ (by omega) (by omega)), ((k 0 (by omega) (by omega)).2.1 _).trans c8⟩
def amom (t : Tau) (p g : Nat) (q : Wk) (k : Nat) : Mom := (g + k, (al t p g q k).1, (al t p g q k).2.1, (al t p g q k).2.2)
/-- the numbers of a walk of all to come -/
def WOK (t : Tau) (g : Nat) (q : Wk) : Prop := g ≤ tn t ∧ q.1 ≤ 9999 ∧ (∀ z, q.2.1 = some z → vpr t z) ∧ ∀ w, w < 4 → q.2.2 w ≤ 99
theorem tr_t {S T : PSt} {r : Nat} {t : Tau} (hr : r = 4 ∨ r = 14) (k : tr S T) (hR : CRt S r t) : CRt T r t := hR.ag (fun i hi => k _ (by omega) (by omega))
theorem c_trialW {N r p g k : Nat} {T : PSt} {t : Tau} {q : Wk} (hr : r = 4 ∨ r = 14) (hkr : kd r = 4) (hR : CRt T r t) (ok : TOK t) (hp : vpr t p) (hw : WOK t g q) (hk : g + k < tn t) (hm : CRm T 156 (amom t p g q k)) : P_X0_minutesToWalk N T 156 r (nI p) = some (nI (chg t (al t p g q k).2.1 p + mins t (al t p g q k).2.2 (g + k) p), T) := by
  obtain ⟨b1, b2, b3⟩ := al_ok t ok p g q hp hw.2.1 hw.2.2.1 hw.2.2.2 k (by omega)
  exact c_minutesToWalk (m := amom t p g q k) (by rfl) hkr hm b3 (fun z hz => by have := vpr_lt ok (b2 z hz); omega) hR ok hk hp
theorem al_succ (t : Tau) (p g : Nat) (q : Wk) (k : Nat) : (al t p g q (k + 1)).1 = (al t p g q k).1 + (chg t (al t p g q k).2.1 p + mins t (al t p g q k).2.2 (g + k) p) := by
  show (al t p g q k).1 + chg t _ p + mins t _ (g + k) p = _
  rw [Nat.add_assoc]
theorem c_trialO {N r p g k : Nat} {T : PSt} {t : Tau} {q : Wk} (hN : 5 ≤ N) (hr : r = 4 ∨ r = 14) (hkr : kd r = 4) (hR : CRt T r t) (ok : TOK t) (hp : vpr t p) (hw : WOK t g q) (hk : g + k < tn t) (hm : CRm T 156 (amom t p g q k)) : ∃ T', P_X0_walkOn N T 156 r (nI p) (nI (al t p g q (k + 1)).1) = some T' ∧ tr T T' ∧ CRm T' 156 (amom t p g q (k + 1)) := by
  obtain ⟨b1, b2, b3⟩ := al_ok t ok p g q hp hw.2.1 hw.2.2.1 hw.2.2.2 k (by omega)
  have hp1 := vpr_lt ok hp
  refine ⟨woS T 156 (amom t p g q (k + 1)), ?_, fun a x y => ag_woS x y, woS_at⟩
  exact c_walkOn (m := amom t p g q k) hN (by rfl) hkr (by omega) hm b3 hR ok hk (by omega)
theorem c_trial0 {N : Nat} {S : PSt} {m : Mom} (hN : 5 ≤ N) (hm : CRm S 25 m) : ∃ T, P_X0_copy N S 156 25 = some T ∧ tr S (sI T 1 156 (nI 0)) ∧ ∀ t p, CRm (sI T 1 156 (nI 0)) 156 (amom t p m.1 (0, m.2.2.1, m.2.2.2) 0) := by
  refine ⟨cpS S 156 m, c_copy hN (by rfl) (by rfl) (by omega) hm, fun a x y => (ag_cpS x y).trans (ag_sI x), fun t p => ?_⟩
  obtain ⟨h1, h2, h3, h4⟩ := cpS_at (S := S) (a := 156) (m := m)
  refine ⟨?_, ?_, ?_, fun w hw => h4 w hw⟩
  · rw [gI_sI, if_neg (by omega)]; exact h1
  · rw [gI_sI, if_pos ⟨rfl, rfl⟩]; rfl
  · rw [gI_sI, if_neg (by omega)]; exact h3
theorem c_through_L {N r p g : Nat} {S : PSt} {t : Tau} {q : Wk} (hN : 5 ≤ N) (hr : r = 4 ∨ r = 14) (hkr : kd r = 4) (hR : CRt S r t) (hg : gR S 601 0 = r) (ok : TOK t) (hp : vpr t p) (hw : WOK t g q) : ∀ (z k fuel : Nat) (T : PSt), g + k + z = tn t → z < fuel → tr S T → CRm T 156 (amom t p g q k) → ∃ T', P_X6_minutesThrough_L33 N fuel T (nI p) (nI (g + k)) = some (nI (al t p g q (tn t - g)).1, T') ∧ tr S T' := by
  have on := ok.2.1
  intro z
  induction z with
  | zero =>
    intro k fuel T hz hf hs hm
    obtain ⟨fuel, rfl⟩ : ∃ z, fuel = z + 1 := ⟨fuel - 1, by omega⟩
    refine ⟨T, ?_, hs⟩
    have hR' := tr_t hr hs hR
    have hg' : gR T 601 0 = r := ((hs 0 (by omega) (by omega)).2.2.1 _).trans hg
    rw [P_X6_minutesThrough_L33]
    dsimp only
    rw [hg', bnd_eq, isk_of hkr, gd_true, hR'.2.1, if_pos (nI_le (by omega) (by omega)), hm.2.1]
    rw [show tn t - g = k by omega]
    rfl
  | succ z ih =>
    intro k fuel T hz hf hs hm
    obtain ⟨fuel, rfl⟩ : ∃ z, fuel = z + 1 := ⟨fuel - 1, by omega⟩
    have hR' := tr_t hr hs hR
    have hg' : gR T 601 0 = r := ((hs 0 (by omega) (by omega)).2.2.1 _).trans hg
    obtain ⟨T1, e1, s1, m1⟩ := c_trialO (N := N) hN hr hkr hR' ok hp hw (by omega) hm
    have hm1 : gI T 1 156 = nI (al t p g q k).1 := hm.2.1
    obtain ⟨T2, e2, s2⟩ := ih (k + 1) fuel T1 (by omega) (by omega) (tr_trans hs s1) m1
    refine ⟨T2, ?_, s2⟩
    rw [P_X6_minutesThrough_L33]
    dsimp only
    rw [hg', bnd_eq, isk_of hkr, gd_true, hR'.2.1, if_neg (nI_ge (by omega) (by omega)), bnd_eq, isk_of hkr, gd_true, bnd_eq, isk_of hkr, gd_true, c_trialW hr hkr hR' ok hp hw (by omega) hm, cal2_s, hm1, nI_add, ← al_succ, e1, cal1_s, li1, nI_add, bnd_eq]
    exact e2
theorem MOK_W {t : Tau} {m : Mom} (h : MOK t m) : WOK t m.1 (0, m.2.2.1, m.2.2.2) := ⟨h.1, Nat.zero_le _, h.2.2.1, h.2.2.2.2.1⟩
def way (q : Sig) (p k : Nat) : Nat := (al (qt q) p (qm q).1 (0, (qm q).2.2.1, (qm q).2.2.2) k).1
theorem c_through {N p : Nat} {S : PSt} {q : Sig} (hN : 20 ≤ N) (ok : SOK q) (hc : CR S q) (hp : vpr (qt q) p) : ∃ T, P_X6_minutesThrough N S (nI p) = some (nI (way q p (tn (qt q) - (qm q).1)), T) ∧ tr S T := by
  obtain ⟨r, d, hrd, hr, hd, hT, -, -, -⟩ := hc.1
  obtain ⟨hk, -, hkr, -⟩ := isk4 hrd
  have on := ok.1.2.1
  have og := ok.2.1.1
  obtain ⟨T0, e0, s0, m0⟩ := c_trial0 (N := N) (by omega) hc.2.1.1.1
  have hg : gI (sI T0 1 156 (nI 0)) 0 25 = nI (qm q).1 := ((s0 25 (by omega) (by omega)).1 0).trans hc.2.1.1.1.1
  obtain ⟨T, e, s⟩ := c_through_L (N := N) (p := p) (by omega) (by omega) hkr hT hr ok.1 hp (MOK_W ok.2.1) (tn (qt q) - (qm q).1) 0 N (sI T0 1 156 (nI 0)) (by omega) (by omega) s0 (m0 _ _)
  refine ⟨T, ?_, s⟩
  unfold P_X6_minutesThrough
  rw [e0, cal1_s, li0, bnd_eq, hg, bnd_eq]
  exact e
theorem way_le {q : Sig} {p k : Nat} (ok : SOK q) (hp : vpr (qt q) p) (hk : (qm q).1 + k ≤ tn (qt q)) : way q p k ≤ 9999 + 135 * k := by
  have hw := MOK_W ok.2.1
  exact (al_ok (qt q) ok.1 p (qm q).1 (0, (qm q).2.2.1, (qm q).2.2.2) hp hw.2.1 hw.2.2.1 hw.2.2.2 k hk).1
theorem goIn_loop {N r W mi : Nat} {T S2 : PSt} {t : Tau} (hr : gR T 601 0 = r) (hkr : kd r = 4) (hR : CRt T r t) (hM : MRt S2 t) (ok : TOK t) (h0 : 0 < th t) (hW : W < 2 ^ 20) (hmi : mi ≤ 9999) (h1 : gI T 1 25 = nI mi) (h2 : gA S2 161 1 = nI mi) : ∀ (z w : Nat), w + z = 201 → ∃ v, (∀ fuel, z < fuel → P_X6_goIn_L33 N fuel T (nI W) (nI w) = some (v, T)) ∧ (∀ fuel, z < fuel → P_X7_goIn_L18 N fuel S2 (nI W) (nI w) = some (v, S2)) := by
  have oh := ok.2.2.2.2.1
  intro z
  induction z with
  | zero =>
    intro w hz
    refine ⟨-9, fun fuel hf => ?_, fun fuel hf => ?_⟩
    · obtain ⟨fuel, rfl⟩ : ∃ z, fuel = z + 1 := ⟨fuel - 1, by omega⟩
      rw [P_X6_goIn_L33]
      dsimp only
      rw [li200, if_pos (nI_lt (by omega) (by omega))]
    · obtain ⟨fuel, rfl⟩ : ∃ z, fuel = z + 1 := ⟨fuel - 1, by omega⟩
      rw [P_X7_goIn_L18]
      dsimp only
      rw [li200, if_pos (nI_lt (by omega) (by omega))]
  | succ z ih =>
    intro w hz
    obtain ⟨v, i1, i2⟩ := ih (w + 1) (by omega)
    have hlt : (mi + w) % th t < th t := Nat.mod_lt _ h0
    have eL : P_X4_freeMinutesLeft N T r (nI (mi + w)) = some (nI (th t - (mi + w) % th t), T) := by
      unfold P_X4_freeMinutesLeft
      rw [hR.2.2.2.1, li0, if_neg (by rw [nI_eq (by omega) (by omega)]; omega), nz_nI h0 (by omega), gd_true, pk_rem (by omega) h0 (by omega), pk_sub (by omega)]
    have preC : ∀ fuel, P_X6_goIn_L33 N (fuel + 1) T (nI W) (nI w) = if nI (freeN t (mi + w)) = nI 0 then P_X6_goIn_L33 N fuel T (nI W) (nI (w + 1)) else if nI (th t - (mi + w) % th t) < nI W then P_X6_goIn_L33 N fuel T (nI W) (nI (w + 1)) else some (nI w, T) := by
      intro fuel
      rw [P_X6_goIn_L33]
      dsimp only
      rw [li200, if_neg (nI_nlt (by omega) (by omega)), h1, nI_add, bnd_eq, hr, bnd_eq, isk_of hkr, gd_true, c_isFree hR ok (by omega), cal2_s, li0, li1, nI_add, bnd_eq, hr, bnd_eq, isk_of hkr, gd_true]
      rw [eL, cal2_s]
      rfl
    have preM : ∀ fuel, P_X7_goIn_L18 N (fuel + 1) S2 (nI W) (nI w) = if nI (freeN t (mi + w)) = nI 0 then P_X7_goIn_L18 N fuel S2 (nI W) (nI (w + 1)) else if nI (th t) < nI ((mi + w) % th t + W) then P_X7_goIn_L18 N fuel S2 (nI W) (nI (w + 1)) else some (nI w, S2) := by
      intro fuel
      rw [P_X7_goIn_L18]
      dsimp only
      rw [li200, if_neg (nI_nlt (by omega) (by omega)), li1, nI_clamp (by omega), h2, nI_add, bnd_eq, hM.2.2.2.1, li0, if_neg (by rw [nI_eq (by omega) (by omega)]; omega), m_isFree hM ok (by omega), cal2_s, nI_add, bnd_eq, hM.2.2.2.1, nz_nI h0 (by omega), gd_true, pk_rem (by omega) h0 (by omega), nI_add]
    by_cases c : freeN t (mi + w) = 0
    · refine ⟨v, fun fuel hf => ?_, fun fuel hf => ?_⟩
      · obtain ⟨fuel, rfl⟩ : ∃ z, fuel = z + 1 := ⟨fuel - 1, by omega⟩
        rw [preC, c, if_pos rfl]; exact i1 fuel (by omega)
      · obtain ⟨fuel, rfl⟩ : ∃ z, fuel = z + 1 := ⟨fuel - 1, by omega⟩
        rw [preM, c, if_pos rfl]; exact i2 fuel (by omega)
    · have c' : ¬ nI (freeN t (mi + w)) = nI 0 := by
        rw [nI_eq (by unfold freeN; split <;> omega) (by omega)]; exact c
      by_cases c2 : th t < (mi + w) % th t + W
      · refine ⟨v, fun fuel hf => ?_, fun fuel hf => ?_⟩
        · obtain ⟨fuel, rfl⟩ : ∃ z, fuel = z + 1 := ⟨fuel - 1, by omega⟩
          rw [preC, if_neg c', if_pos (nI_lt (by omega) (by omega))]; exact i1 fuel (by omega)
        · obtain ⟨fuel, rfl⟩ : ∃ z, fuel = z + 1 := ⟨fuel - 1, by omega⟩
          rw [preM, if_neg c', if_pos (nI_lt (by omega) (by omega))]; exact i2 fuel (by omega)
      · refine ⟨nI w, fun fuel hf => ?_, fun fuel hf => ?_⟩
        · obtain ⟨fuel, rfl⟩ : ∃ z, fuel = z + 1 := ⟨fuel - 1, by omega⟩
          rw [preC, if_neg c', if_neg (nI_nlt (by omega) (by omega))]
        · obtain ⟨fuel, rfl⟩ : ∃ z, fuel = z + 1 := ⟨fuel - 1, by omega⟩
          rw [preM, if_neg c', if_neg (nI_nlt (by omega) (by omega))]
/-- an asking call's end -/
theorem ask_end {S T S2 : PSt} {q : Sig} (ok : SOK q) (hc : CR S q) (hm : MR S q) (h1 : tr S T) (h2 : scr T S2) : Inv S2 := inv_of (S1 := T) q ok (CR_tr ok hc h1) (scrM (hm.eqM (tr_eqM h1)) h2) (eqC_scr h2)
theorem step_goIn {N : Nat} {S : PSt} (hN : 300 ≤ N) (x : Int32) (h : Inv S) : ∃ r S1 S2, P_X6_goIn N S x = some (r, S1) ∧ P_X7_goIn N S1 x = some (r, S2) ∧ Inv S2 := by
  obtain ⟨q, ok, hc, hm⟩ := h
  obtain ⟨r, d, hrd, hr, hd, hT, -, -, -⟩ := hc.1
  obtain ⟨hk, -, hkr, -⟩ := isk4 hrd
  have o1 := ok.1
  have on := o1.2.1
  have oh := o1.2.2.2.2.1
  have og := ok.2.1.1
  by_cases cp : isPr (qt q) x
  · obtain ⟨p, hpp, rfl⟩ := cp
    have hway := way_le ok hpp (k := tn (qt q) - (qm q).1) (by omega)
    have preM : ∀ T, MR T q → ∃ S2, P_X7_goIn N T (nI p) = P_X7_goIn_L18 N N S2 (nI (way q p (tn (qt q) - (qm q).1))) (nI 0) ∧ scr T S2 := by
      intro T hmT
      obtain ⟨S2, e2, s2, -⟩ := m_walksAll (N := N) (by omega) hmT.1 o1 hmT.2.1 ok.2.1 hpp
      refine ⟨S2, ?_, s2⟩
      unfold P_X7_goIn
      rw [m_isPair1 hmT.1 o1 hpp, cal2_s, li0, if_neg n1_0, e2, cal2_s]
      rfl
    have preC : P_X6_goIn N S (nI p) = if nI (th (qt q)) = nI 0 then some (nI 0, S) else (cal2 (P_X6_minutesThrough N S (nI p)) fun r28 S26 => P_X6_goIn_L33 N N S26 r28 (nI 0)) := by
      unfold P_X6_goIn
      simp only [bnd_eq, hr, hk, gd_true]
      rw [c_hasPair1 hT o1 hpp, cal2_s, li0, if_neg n1_0, hr, hk, gd_true, hT.2.2.2.1]
    by_cases c : th (qt q) = 0
    · obtain ⟨S2, e2, s2⟩ := preM S hm
      refine ⟨nI 0, S, S2, ?_, ?_, ask_end ok hc hm (tr_refl S) s2⟩
      · rw [preC, c, if_pos rfl]
      · obtain ⟨f, hf⟩ : ∃ f, N = f + 1 := ⟨N - 1, by omega⟩
        rw [e2, show ∀ T x y, P_X7_goIn_L18 N N T x y = P_X7_goIn_L18 N (f + 1) T x y from fun T x y => by rw [← hf], P_X7_goIn_L18]
        dsimp only
        have hM2 := hm.1.scr s2
        rw [li200, if_neg (nI_nlt (by omega) (by omega)), bnd_eq, hM2.2.2.2.1, c, li0, if_pos rfl]
    · obtain ⟨T, eT, sT⟩ := c_through (N := N) (by omega) ok hc hpp
      obtain ⟨S2, e2, s2⟩ := preM T (hm.eqM (tr_eqM sT))
      have hcT := CR_tr ok hc sT
      have hmT := hm.eqM (tr_eqM sT)
      have hrT : gR T 601 0 = r := ((sT 0 (by omega) (by omega)).2.2.1 _).trans hr
      obtain ⟨v, i1, i2⟩ := goIn_loop (N := N) (W := way q p (tn (qt q) - (qm q).1)) (mi := (qm q).2.1) hrT hkr (tr_t (by omega) sT hT) (hmT.1.scr s2) o1 (by omega) (by omega) ok.2.1.2.1 hcT.2.1.1.1.2.1 (by rw [s2.2.2.2.2 161 (by omega) (by omega) (by omega)]; exact hmT.2.1.2.1) 201 0 (by omega)
      refine ⟨v, T, S2, ?_, ?_, ask_end ok hc hm sT s2⟩
      · rw [preC, if_neg (by rw [nI_eq (by omega) (by omega)]; exact c), eT, cal2_s]
        exact i1 N (by omega)
      · rw [e2]; exact i2 N (by omega)
  · refine ⟨-1, S, S, ?_, ?_, q, ok, hc, hm⟩
    · unfold P_X6_goIn
      simp only [bnd_eq, hr, hk, gd_true]
      rw [c_hasPair0 hT o1 cp, cal2_s, li0, if_pos rfl]
    · unfold P_X7_goIn
      rw [m_isPair0 hm.1 o1 cp, cal2_s, li0, if_pos rfl]
end
