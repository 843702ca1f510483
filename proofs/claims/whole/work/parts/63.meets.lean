section
/-! STAGE 2, calls: meets -/
def bh (t : Tau) (i : Nat) : Nat := sumF (tL t) (i + 1) (tn t - (i + 1))
theorem sumL_le {t : Tau} (ok : TOK t) {a n : Nat} (h : a + n ≤ tn t) : sumF (tL t) a n ≤ 9 * n := sumF_le (fun i hi => (ok.2.2.2.2.2.2 (a + i) (by omega)).2.1)
theorem bh_le {t : Tau} (ok : TOK t) {i : Nat} (h : i < tn t) : bh t i ≤ 54 := by
  have := sumL_le ok (a := i + 1) (n := tn t - (i + 1)) (by omega)
  have on := ok.2.1
  unfold bh
  omega
def nomeet (t : Tau) (p g : Nat) (q : Wk) (n kk k : Nat) : Bool := decide (n + kk * bh t (g + k) + kk * tL t (g + k) < (al t p g q k).1) || decide ((al t p g q (k + 1)).1 < n + kk * bh t (g + k))
def meetK (t : Tau) (p g : Nat) (q : Wk) (n kk : Nat) : Nat → Nat → Option Nat
  | 0, _ => none
  | z + 1, k => if nomeet t p g q n kk k = true then meetK t p g q n kk z (k + 1) else some k
theorem kk_le {kk b : Nat} (h1 : kk ≤ 9) (h2 : b ≤ 54) : kk * b ≤ 486 := Nat.mul_le_mul h1 h2
theorem c_meet_L {N r p g n kk : Nat} {S : PSt} {t : Tau} {q : Wk} (hN : 20 ≤ N) (hr : r = 4 ∨ r = 14) (hkr : kd r = 4) (hR : CRt S r t) (hg : gR S 601 0 = r) (ok : TOK t) (hp : vpr t p) (hw : WOK t g q) (hn : n ≤ 200) (hkk : kk ≤ 9) : ∀ (z k fuel : Nat) (T : PSt), g + k + z = tn t → z < fuel → tr S T → CRm T 156 (amom t p g q k) → ∃ T', P_X6_meetingStretch_L34 N fuel T (nI p) (nI n) (nI kk) (nI (g + k)) = some (pI ((meetK t p g q n kk z k).map (fun j => g + j)), T') ∧ tr S T' := by
  have on := ok.2.1
  intro z
  induction z with
  | zero =>
    intro k fuel T hz hf hs hm
    obtain ⟨fuel, rfl⟩ : ∃ z, fuel = z + 1 := ⟨fuel - 1, by omega⟩
    refine ⟨T, ?_, hs⟩
    have hR' := tr_t hr hs hR
    have hg' : gR T 601 0 = r := ((hs 0 (by omega) (by omega)).2.2.1 _).trans hg
    rw [P_X6_meetingStretch_L34]
    dsimp only
    rw [hg', bnd_eq, isk_of hkr, gd_true, hR'.2.1, if_pos (nI_le (by omega) (by omega))]
    rfl
  | succ z ih =>
    intro k fuel T hz hf hs hm
    obtain ⟨fuel, rfl⟩ : ∃ z, fuel = z + 1 := ⟨fuel - 1, by omega⟩
    have hR' := tr_t hr hs hR
    have hg' : gR T 601 0 = r := ((hs 0 (by omega) (by omega)).2.2.1 _).trans hg
    obtain ⟨T1, e1, s1, m1⟩ := c_trialO (N := N) (by omega) hr hkr hR' ok hp hw (by omega) hm
    have s2 := tr_trans hs s1
    have hR1 := tr_t hr s2 hR
    have hg1 : gR T1 601 0 = r := ((s2 0 (by omega) (by omega)).2.2.1 _).trans hg
    have hm1 : gI T 1 156 = nI (al t p g q k).1 := hm.2.1
    obtain ⟨T2, e2, s3⟩ := ih (k + 1) fuel T1 (by omega) (by omega) s2 m1
    have b1 := (al_ok t ok p g q hp hw.2.1 hw.2.2.1 hw.2.2.2 k (by omega)).1
    have b2 := (al_ok t ok p g q hp hw.2.1 hw.2.2.1 hw.2.2.2 (k + 1) (by omega)).1
    have b3 := kk_le hkk (bh_le ok (i := g + k) (by omega))
    have oi := ok.2.2.2.2.2.2 (g + k) (by omega)
    have b4 := kk_le hkk (show tL t (g + k) ≤ 54 by omega)
    have pre : P_X6_meetingStretch_L34 N (fuel + 1) T (nI p) (nI n) (nI kk) (nI (g + k)) = if nI (n + kk * bh t (g + k) + kk * tL t (g + k)) < nI (al t p g q k).1 then P_X6_meetingStretch_L34 N fuel T1 (nI p) (nI n) (nI kk) (nI (g + k + 1)) else if nI (al t p g q (k + 1)).1 < nI (n + kk * bh t (g + k)) then P_X6_meetingStretch_L34 N fuel T1 (nI p) (nI n) (nI kk) (nI (g + k + 1)) else some (nI (g + k), T1) := by
      rw [P_X6_meetingStretch_L34]
      dsimp only
      rw [hg', bnd_eq, isk_of hkr, gd_true, hR'.2.1, if_neg (nI_ge (by omega) (by omega)), hm1, bnd_eq, bnd_eq, isk_of hkr, gd_true, c_trialW hr hkr hR' ok hp hw (by omega) hm, cal2_s, nI_add, ← al_succ, bnd_eq, hg', bnd_eq, isk_of hkr, gd_true, e1, cal1_s, hg1, bnd_eq, isk_of hkr, gd_true, bnd_eq, isk_of hkr, gd_true, hR1.2.1, li1, nI_add, c_furlongs (by omega) hkr hR1 ok (by omega) (Nat.le_refl _), cal2_s, pk_mul, nI_add, bnd_eq, hg1, bnd_eq, isk_of hkr, gd_true, bin_nI (by omega), lt3 hkr, gd_dec (by omega), nI_clamp (by omega), hR1.2.2.2.2.2.2.1 (g + k) (by omega), pk_mul, nI_add, bnd_eq]
      rfl
    rw [pre, meetK]
    by_cases c1 : n + kk * bh t (g + k) + kk * tL t (g + k) < (al t p g q k).1
    · rw [if_pos (nI_lt c1 (by omega)), if_pos (by unfold nomeet; rw [decide_eq_true c1]; rfl)]
      exact ⟨T2, e2, s3⟩
    · rw [if_neg (nI_nlt (by omega) (by omega))]
      by_cases c2 : (al t p g q (k + 1)).1 < n + kk * bh t (g + k)
      · rw [if_pos (nI_lt c2 (by omega)), if_pos (by unfold nomeet; rw [decide_eq_true c2, Bool.or_true])]
        exact ⟨T2, e2, s3⟩
      · rw [if_neg (nI_nlt (by omega) (by omega)), if_neg (by unfold nomeet; rw [decide_eq_false c1, decide_eq_false c2]; decide)]
        exact ⟨T1, rfl, s2⟩
def meetAns (t : Tau) (g : Nat) (x : Int32) (o : Option Nat) : Int32 := match o with
  | none => -9
  | some j => if x = nI 0 then nI (g + j) else if bh t (g + j) ≤ sumF (tL t) g j then nI 1 else nI 0
theorem m_meetIn {N a : Nat} {S : PSt} {t : Tau} {K : PSt → Int32 → Int32 → Int32 → Int32 → Int32 → Option (Int32 × PSt)} {x2 x3 x4 x5 x6 : Int32} (hM : MRt S t) (ok : TOK t) : ∀ (z i fuel : Nat), a + i + z = tn t → ∃ fuel', P_X7_meets_L76 K N (fuel + z + 1) S x2 x3 x4 x5 x6 (nI (sumF (tL t) a i)) (nI (a + i)) = P_X7_meets_L76 K N (fuel' + 1) S x2 x3 x4 x5 x6 (nI (sumF (tL t) a (i + z))) (nI (tn t)) := by
  have on := ok.2.1
  intro z
  induction z with
  | zero =>
    intro i fuel hz
    refine ⟨fuel, ?_⟩
    rw [show a + i = tn t by omega]
    rfl
  | succ z ih =>
    intro i fuel hz
    obtain ⟨f', e⟩ := ih (i + 1) fuel (by omega)
    refine ⟨f', ?_⟩
    rw [show fuel + (z + 1) + 1 = (fuel + z + 1) + 1 by omega, P_X7_meets_L76]
    dsimp only
    rw [hM.2.1, if_neg (nI_ge (by omega) (by omega)), li4, pk_mul, bin_nI (by omega), l160, gd_dec (by omega), nI_clamp (by omega), hM.2.2.2.2.2.2.1 (a + i) (by omega), nI_add, bnd_eq, li1, nI_add, bnd_eq]
    rw [show i + (z + 1) = i + 1 + z by omega]
    exact e
theorem m_meet_L {N p g n kk : Nat} {S : PSt} {t : Tau} {q : Wk} {x : Int32} (hN : 20 ≤ N) (hM : MRt S t) (hg : gA S 161 0 = nI g) (ok : TOK t) (hp : vpr t p) (hw : WOK t g q) (hn : n ≤ 200) (hkk : kk ≤ 9) (hd : ∀ j, j ≤ tn t - g → dep S j (al t p g q j)) : ∀ (z k fuel : Nat), g + k + z = tn t → z < fuel → P_X7_meets_L58 N fuel S (nI n) (nI kk) x (nI (sumF (tL t) g k)) (nI (g + k)) = some (meetAns t g x (meetK t p g q n kk z k), S) := by
  have on := ok.2.1
  intro z
  induction z with
  | zero =>
    intro k fuel hz hf
    obtain ⟨fuel, rfl⟩ : ∃ z, fuel = z + 1 := ⟨fuel - 1, by omega⟩
    rw [P_X7_meets_L58]
    dsimp only
    rw [hM.2.1, if_pos (nI_le (by omega) (by omega))]
    rfl
  | succ z ih =>
    intro k fuel hz hf
    obtain ⟨fuel, rfl⟩ : ∃ z, fuel = z + 1 := ⟨fuel - 1, by omega⟩
    have e2 := ih (k + 1) fuel (by omega) (by omega)
    have b1 := (al_ok t ok p g q hp hw.2.1 hw.2.2.1 hw.2.2.2 k (by omega)).1
    have b2 := (al_ok t ok p g q hp hw.2.1 hw.2.2.1 hw.2.2.2 (k + 1) (by omega)).1
    have b3 := kk_le hkk (bh_le ok (i := g + k) (by omega))
    have b5 := bh_le ok (i := g + k) (by omega)
    have b6 := sumL_le ok (a := g) (n := k) (by omega)
    have oi := ok.2.2.2.2.2.2 (g + k) (by omega)
    have b4 := kk_le hkk (show tL t (g + k) ≤ 54 by omega)
    have d1 := (hd k (by omega)).1
    have d2 := (hd (k + 1) (by omega)).1
    have no : P_X7_meets_L166 (P_X7_meets_L58 N fuel) N S (nI n) (nI kk) x (nI (sumF (tL t) g k)) (nI (g + k)) (nI (bh t (g + k))) = some (meetAns t g x (meetK t p g q n kk z (k + 1)), S) := by
      unfold P_X7_meets_L166 P_X7_meets_L167
      rw [li0, if_pos rfl, li4, pk_mul, bin_nI (by omega), l160, gd_dec (by omega), nI_clamp (by omega), hM.2.2.2.2.2.2.1 (g + k) (by omega), nI_add, bnd_eq, li1, nI_add, bnd_eq]
      exact e2
    have pre : P_X7_meets_L58 N (fuel + 1) S (nI n) (nI kk) x (nI (sumF (tL t) g k)) (nI (g + k)) = if nI (n + kk * bh t (g + k) + kk * tL t (g + k)) < nI (al t p g q k).1 then P_X7_meets_L166 (P_X7_meets_L58 N fuel) N S (nI n) (nI kk) x (nI (sumF (tL t) g k)) (nI (g + k)) (nI (bh t (g + k))) else if nI (al t p g q (k + 1)).1 < nI (n + kk * bh t (g + k)) then P_X7_meets_L166 (P_X7_meets_L58 N fuel) N S (nI n) (nI kk) x (nI (sumF (tL t) g k)) (nI (g + k)) (nI (bh t (g + k))) else P_X7_meets_L167 (P_X7_meets_L58 N fuel) N S (nI n) (nI kk) x (nI (sumF (tL t) g k)) (nI (g + k)) (nI (bh t (g + k))) (nI 1) := by
      rw [P_X7_meets_L58]
      dsimp only
      rw [hM.2.1, if_neg (nI_ge (by omega) (by omega)), li1, nI_add, bnd_eq, li0]
      obtain ⟨f', e⟩ := m_meetIn (N := N) (a := g + k + 1) (K := P_X7_meets_L58 N fuel) (x2 := nI n) (x3 := nI kk) (x4 := x) (x5 := nI (sumF (tL t) g k)) (x6 := nI (g + k)) hM ok (tn t - (g + k + 1)) 0 (N - (tn t - (g + k + 1)) - 1) (by omega)
      rw [Nat.zero_add, show N - (tn t - (g + k + 1)) - 1 + (tn t - (g + k + 1)) + 1 = N by omega] at e
      rw [show nI 0 = nI (sumF (tL t) (g + k + 1) 0) from rfl]
      refine (show _ = _ from e).trans ?_
      rw [P_X7_meets_L76]
      dsimp only
      rw [hM.2.1, if_pos (nI_le (Nat.le_refl _) (by omega)), li0, nI_clamp (by omega), hg, pk_sub (by omega), Nat.add_sub_cancel_left, bnd_eq, show sumF (tL t) (g + k + 1) (tn t - (g + k + 1)) = bh t (g + k) from rfl, pk_mul, nI_add, bnd_eq, bin_nI (by omega), l171, gd_dec (by omega), li4, pk_mul, bin_nI (by omega), l160, gd_dec (by omega), nI_clamp (by omega), hM.2.2.2.2.2.2.1 (g + k) (by omega), pk_mul, nI_add, nI_clamp (by omega), d1, li1, nI_add, bin_nI (by omega), gd_dec (by omega), nI_clamp (by omega), d2]
    rw [pre, meetK]
    by_cases c1 : n + kk * bh t (g + k) + kk * tL t (g + k) < (al t p g q k).1
    · rw [if_pos (nI_lt c1 (by omega)), if_pos (by unfold nomeet; rw [decide_eq_true c1]; rfl)]
      exact no
    · rw [if_neg (nI_nlt (by omega) (by omega))]
      by_cases c2 : (al t p g q (k + 1)).1 < n + kk * bh t (g + k)
      · rw [if_pos (nI_lt c2 (by omega)), if_pos (by unfold nomeet; rw [decide_eq_true c2, Bool.or_true])]
        exact no
      · rw [if_neg (nI_nlt (by omega) (by omega)), if_neg (by unfold nomeet; rw [decide_eq_false c1, decide_eq_false c2]; decide)]
        unfold P_X7_meets_L167 meetAns
        rw [li0, if_neg n1_0]
        dsimp only
        by_cases c3 : x = nI 0
        · rw [if_pos c3, if_pos c3]
        · rw [if_neg c3, if_neg c3]
          by_cases c4 : bh t (g + k) ≤ sumF (tL t) g k
          · rw [if_pos (nI_le c4 (by omega)), if_pos c4, li1]
          · rw [if_neg (nI_ge (by omega) (by omega)), if_neg c4]
theorem step_meets {N : Nat} {S : PSt} (hN : 300 ≤ N) (x y z u : Int32) (h : Inv S) : ∃ r S1 S2, P_X6_meets N S x y z u = some (r, S1) ∧ P_X7_meets N S1 x y z u = some (r, S2) ∧ Inv S2 := by
  obtain ⟨q, ok, hc, hm⟩ := h
  obtain ⟨r, d, hrd, hr, hd, hT, -, -, -⟩ := hc.1
  obtain ⟨hk, -, hkr, -⟩ := isk4 hrd
  have o1 := ok.1
  have on := o1.2.1
  have og := ok.2.1.1
  have bad : P_X6_meets N S x y z u = some (-1, S) → P_X7_meets N S x y z u = some (-1, S) → ∃ r S1 S2, P_X6_meets N S x y z u = some (r, S1) ∧ P_X7_meets N S1 x y z u = some (r, S2) ∧ Inv S2 := fun h1 h2 => ⟨-1, S, S, h1, h2, q, ok, hc, hm⟩
  by_cases cp : isPr (qt q) x
  · obtain ⟨p, hpp, rfl⟩ := cp
    have preC : P_X6_meets N S (nI p) y z u = (if y < nI 0 then (some ((-1 : Int32), S)) else (if nI 200 < y then (some ((-1 : Int32), S)) else (if z < nI 1 then (some ((-1 : Int32), S)) else (if nI 9 < z then (some ((-1 : Int32), S)) else (if u < nI 0 then (some ((-1 : Int32), S)) else (if u ≤ nI 1 then (cal2 (P_X6_meetingStretch N S (nI p) y z) fun r15 S13 => if r15 = (-9 : Int32) then (some (r15, S13)) else (if u = nI 0 then (some (r15, S13)) else (bnd (gR S13 601 0) fun t18 => gd (isk t18 4) <| cal2 (P_X4_furlongs N S13 t18 (gI S13 0 25) r15) fun r22 S20 => bnd (gR S20 601 0) fun t23 => gd (isk t23 4) <| bnd (gR S20 601 0) fun t25 => gd (isk t25 4) <| cal2 (P_X4_furlongs N S20 t23 (r15 + nI 1) (gI S20 401 t25)) fun r29 S27 => if r29 ≤ r22 then (some (nI 1, S27)) else (some (nI 0, S27))))) else (some ((-1 : Int32), S)))))))) := by
      unfold P_X6_meets
      simp only [bnd_eq, hr, hk, gd_true]
      rw [c_hasPair1 hT o1 hpp, cal2_s, li0, if_neg n1_0, li200, li9]
      simp only [li1]
    have preM : ∀ T, MR T q → P_X7_meets N T (nI p) y z u = (cal2 (P_X7_in N T y (nI 0) (nI 200)) fun r26 S24 => if r26 = nI 0 then (some ((-1 : Int32), S24)) else (cal2 (P_X7_in N S24 z (nI 1) (nI 9)) fun r30 S28 => if r30 = nI 0 then (some ((-1 : Int32), S28)) else (cal2 (P_X7_in N S28 u (nI 0) (nI 1)) fun r34 S32 => if r34 = nI 0 then (some ((-1 : Int32), S32)) else (cal2 (P_X7_walksAll N S32 (nI p)) fun r38 S36 => bnd (gA S36 161 0) fun v39 => P_X7_meets_L58 N N S36 y z u (nI 0) v39)))) := by
      intro T hmT
      unfold P_X7_meets
      rw [m_isPair1 hmT.1 o1 hpp, cal2_s, li0, if_neg n1_0, li200, li9, li1, nI_clamp (by omega)]
    rcases inR y 0 200 (by omega) (by omega) with ⟨n, -, hn, rfl⟩ | cy
    · rcases inR z 1 9 (by omega) (by omega) with ⟨kk, hk1, hk2, rfl⟩ | cz
      · rcases inR u 0 1 (by omega) (by omega) with ⟨w, -, hw, rfl⟩ | cu
        · obtain ⟨T0, e0, s0, m0⟩ := c_trial0 (N := N) (by omega) hc.2.1.1.1
          have hg : gI (sI T0 1 156 (nI 0)) 0 25 = nI (qm q).1 := ((s0 25 (by omega) (by omega)).1 0).trans hc.2.1.1.1.1
          obtain ⟨T, e, s⟩ := c_meet_L (N := N) (p := p) (n := n) (kk := kk) (by omega) (by omega) hkr hT hr o1 hpp (MOK_W ok.2.1) hn hk2 (tn (qt q) - (qm q).1) 0 N (sI T0 1 156 (nI 0)) (by omega) (by omega) s0 (m0 _ _)
          have hmT := hm.eqM (tr_eqM s)
          have hcT := CR_tr ok hc s
          have hRT : CRt T r (qt q) := tr_t (by omega) s hT
          have hrT : gR T 601 0 = r := ((s 0 (by omega) (by omega)).2.2.1 _).trans hr
          obtain ⟨S2, e2, s2, d2⟩ := m_walksAll (N := N) (by omega) hmT.1 o1 hmT.2.1 ok.2.1 hpp
          have hg2 : gA S2 161 0 = nI (qm q).1 := by rw [s2.2.2.2.2 161 (by omega) (by omega) (by omega)]; exact hmT.2.1.1
          have eM := m_meet_L (N := N) (p := p) (n := n) (kk := kk) (x := nI w) (by omega) (hmT.1.scr s2) hg2 o1 hpp (MOK_W ok.2.1) hn hk2 d2 (tn (qt q) - (qm q).1) 0 N (by omega) (by omega)
          refine ⟨meetAns (qt q) (qm q).1 (nI w) (meetK (qt q) p (qm q).1 (0, (qm q).2.2.1, (qm q).2.2.2) n kk (tn (qt q) - (qm q).1) 0), T, S2, ?_, ?_, ask_end ok hc hm s s2⟩
          rotate_left
          · rw [preM T hmT, m_in1 (by omega) hn (by omega), cal2_s, if_neg n1_0, m_in1 hk1 hk2 (by omega), cal2_s, if_neg n1_0, m_in1 (by omega) hw (by omega), cal2_s, if_neg n1_0, e2, cal2_s, hg2, bnd_eq]
            exact eM
          · have e1 : P_X6_meetingStretch N S (nI p) (nI n) (nI kk) = some (pI ((meetK (qt q) p (qm q).1 (0, (qm q).2.2.1, (qm q).2.2.2) n kk (tn (qt q) - (qm q).1) 0).map (fun j => (qm q).1 + j)), T) := by
              unfold P_X6_meetingStretch
              rw [e0, cal1_s, li0, bnd_eq, hg, bnd_eq]
              exact e
            rw [preC, if_neg (nI_nlt (by omega) (by omega)), if_neg (nI_nlt (by omega) (by omega)), if_neg (nI_nlt (by omega) (by omega)), if_neg (nI_nlt (by omega) (by omega)), if_neg (nI_nlt (by omega) (by omega)), if_pos (nI_le hw (by omega)), e1, cal2_s]
            have bound : ∀ zz k j, (qm q).1 + k + zz ≤ tn (qt q) → meetK (qt q) p (qm q).1 (0, (qm q).2.2.1, (qm q).2.2.2) n kk zz k = some j → (qm q).1 + j < tn (qt q) := by
              intro zz
              induction zz with
              | zero => intro k j _ h; cases h
              | succ zz ih =>
                intro k j hl h
                rw [meetK] at h
                by_cases c : nomeet (qt q) p (qm q).1 (0, (qm q).2.2.1, (qm q).2.2.2) n kk k = true
                · rw [if_pos c] at h
                  exact ih (k + 1) j (by omega) h
                · rw [if_neg c] at h
                  cases h
                  omega
            have bd := bound (tn (qt q) - (qm q).1) 0
            generalize meetK (qt q) p (qm q).1 (0, (qm q).2.2.1, (qm q).2.2.2) n kk (tn (qt q) - (qm q).1) 0 = o at bd ⊢
            cases o with
            | none => rw [if_pos (show pI (Option.map (fun j => (qm q).1 + j) none) = -9 from rfl)]; rfl
            | some j =>
              have hj := bd j (by omega) rfl
              show (if nI ((qm q).1 + j) = -9 then _ else _) = _
              rw [if_neg (by rw [nI_m9 (by omega)]; exact id)]
              unfold meetAns
              dsimp only
              show (if nI w = nI 0 then some (nI ((qm q).1 + j), T) else _) = _
              by_cases c3 : nI w = nI 0
              · rw [if_pos c3, if_pos c3]
              · have g0 : gI T 0 25 = nI (qm q).1 := hcT.2.1.1.1.1
                have b5 := bh_le o1 (i := (qm q).1 + j) (by omega)
                have b6 := sumL_le o1 (a := (qm q).1) (n := j) (by omega)
                rw [if_neg c3, if_neg c3, hrT, bnd_eq, hk, gd_true, g0]
                show cal2 (P_X4_furlongs N T r (nI (qm q).1) (nI ((qm q).1 + j))) _ = _
                rw [c_furlongs (by omega) hkr hRT o1 (by omega) (by omega), cal2_s, hrT, bnd_eq, hk, gd_true, bnd_eq, hk, gd_true, hRT.2.1]
                show cal2 (P_X4_furlongs N T r (nI ((qm q).1 + j) + nI 1) _) _ = _
                rw [nI_add, c_furlongs (by omega) hkr hRT o1 (by omega) (by omega), cal2_s, Nat.add_sub_cancel_left]
                show (if nI (bh (qt q) ((qm q).1 + j)) ≤ _ then _ else _) = _
                by_cases c4 : bh (qt q) ((qm q).1 + j) ≤ sumF (tL (qt q)) (qm q).1 j
                · rw [if_pos (nI_le c4 (by omega)), if_pos c4]
                · rw [if_neg (nI_ge (by omega) (by omega)), if_neg c4]
        · refine bad ?_ ?_
          · rw [preC, if_neg (nI_nlt (by omega) (by omega)), if_neg (nI_nlt (by omega) (by omega)), if_neg (nI_nlt (by omega) (by omega)), if_neg (nI_nlt (by omega) (by omega))]
            rcases cu with c | ⟨c, d⟩
            · rw [if_pos c]
            · rw [if_neg c, if_neg (by rw [Int32.not_le]; exact d)]
          · rw [preM S hm, m_in1 (by omega) hn (by omega), cal2_s, if_neg n1_0, m_in1 hk1 hk2 (by omega), cal2_s, if_neg n1_0, m_in0 (by rcases cu with c | ⟨c, d⟩; exact Or.inl c; exact Or.inr d), cal2_s, if_pos rfl]
      · refine bad ?_ ?_
        · rw [preC, if_neg (nI_nlt (by omega) (by omega)), if_neg (nI_nlt (by omega) (by omega))]
          rcases cz with c | ⟨c, d⟩
          · rw [if_pos c]
          · rw [if_neg c, if_pos d]
        · rw [preM S hm, m_in1 (by omega) hn (by omega), cal2_s, if_neg n1_0, m_in0 (by rcases cz with c | ⟨c, d⟩; exact Or.inl c; exact Or.inr d), cal2_s, if_pos rfl]
    · refine bad ?_ ?_
      · rw [preC]
        rcases cy with c | ⟨c, d⟩
        · rw [if_pos c]
        · rw [if_neg c, if_pos d]
      · rw [preM S hm, m_in0 (by rcases cy with c | ⟨c, d⟩; exact Or.inl c; exact Or.inr d), cal2_s, if_pos rfl]
  · refine bad ?_ ?_
    · unfold P_X6_meets
      simp only [bnd_eq, hr, hk, gd_true]
      rw [c_hasPair0 hT o1 cp, cal2_s, li0, if_pos rfl]
    · unfold P_X7_meets
      rw [m_isPair0 hm.1 o1 cp, cal2_s, li0, if_pos rfl]
end
