section
/-! STAGE 2, best and fresh -/
theorem c_fill {N a : Nat} {S : PSt} {r : Nat} (hN : 10 ≤ N) (ha : a = 120 ∨ a = 138) : ∃ T f, P_X1_plan_L13 N N S a r 25 (nI 0) = P_X1_plan_L13 N (f + 1) T a r 25 (nI 6) ∧ (∀ b, b ≠ a + 1 → b ≠ a + 2 → ag S T b) ∧ (∀ g, gI T g = gI S g) ∧ (∀ j, j < 6 → gA T (a + 1) j = -9) ∧ ∀ j, j < 6 → gA T (a + 2) j = -9 := by
  obtain ⟨-, p1, p2, -⟩ := kp0 ha
  have step : ∀ (k : Nat) (s : PSt × Int32) (fuel : Nat), k < 6 → (s.2 = nI k ∧ (∀ b, b ≠ a + 1 → b ≠ a + 2 → ag S s.1 b) ∧ (∀ g, gI s.1 g = gI S g) ∧ (∀ j, j < k → gA s.1 (a + 1) j = -9) ∧ ∀ j, j < k → gA s.1 (a + 2) j = -9) → ∃ s' : PSt × Int32, P_X1_plan_L13 N (fuel + 1) s.1 a r 25 s.2 = P_X1_plan_L13 N fuel s'.1 a r 25 s'.2 ∧ (s'.2 = nI (k + 1) ∧ (∀ b, b ≠ a + 1 → b ≠ a + 2 → ag S s'.1 b) ∧ (∀ g, gI s'.1 g = gI S g) ∧ (∀ j, j < k + 1 → gA s'.1 (a + 1) j = -9) ∧ ∀ j, j < k + 1 → gA s'.1 (a + 2) j = -9) := by
    rintro k ⟨T, x⟩ fuel hk ⟨hx, h1, h0, h2, h3⟩
    simp only at hx h1 h0 h2 h3 ⊢
    subst hx
    refine ⟨(sA (sA T (a + 1) k (-9)) (a + 2) k (-9), nI (k + 1)), ?_, rfl, fun b c1 c2 => ((h1 b c1 c2).trans (ag_sA c1)).trans (ag_sA c2), h0, fun j hj => ?_, fun j hj => ?_⟩
    · rw [P_X1_plan_L13]
      dsimp only
      rw [li6, if_neg (nI_ge hk (by omega)), bin_nI (by omega), p1, gd_dec hk, bnd_eq, bin_nI (by omega), p2, gd_dec hk, bnd_eq, nI_clamp (by omega), li1, nI_add, bnd_eq]
    · show gA (sA (sA T (a + 1) k (-9)) (a + 2) k (-9)) (a + 1) j = -9
      rw [gA_sA, if_neg (by omega), gA_sA, if_pos rfl]
      unfold upd
      split
      · rfl
      · exact h2 j (by omega)
    · show gA (sA (sA T (a + 1) k (-9)) (a + 2) k (-9)) (a + 2) j = -9
      rw [gA_sA, if_pos rfl]
      unfold upd
      split
      · rfl
      · rw [gA_sA, if_neg (by omega)]; exact h3 j (by omega)
  obtain ⟨⟨T, x⟩, e, hx, h1, h0, h2, h3⟩ := loopG (fun f (s : PSt × Int32) => P_X1_plan_L13 N f s.1 a r 25 s.2) _ 6 step 6 0 (S, nI 0) (N - 6) (by omega) ⟨rfl, fun b _ _ => ag.refl S b, fun _ => rfl, fun j hj => absurd hj (Nat.not_lt_zero j), fun j hj => absurd hj (Nat.not_lt_zero j)⟩
  simp only at e hx h1 h0 h2 h3
  subst hx
  rw [show N - 6 + 6 = N by omega] at e
  exact ⟨T, N - 7, by rw [e, show N - 6 = N - 7 + 1 by omega], h1, h0, h2, h3⟩
theorem best_nil {t : Tau} {fz : Bool} {m : Mom} (h : prs t = []) : bestOf t fz m = none := by
  unfold bestOf
  by_cases c : m.1 < tn t
  · rw [if_pos c]
    obtain ⟨k, hk⟩ : ∃ k, tn t - m.1 = k + 1 := ⟨tn t - m.1 - 1, by omega⟩
    rw [hk, leaves, h]
    rfl
  · rw [if_neg c]
theorem c_plan {N a r : Nat} {S : PSt} {t : Tau} {m : Mom} {fz : Bool} (hN : 50 ≤ N) (ha : a = 120 ∨ a = 138) (hr : r = 4 ∨ r = 14) (hkr : kd r = 4) (ok : TOK t) (hm : MOK t m) (hR : CRt S r t) (hp : CRp S r t) (hM : CRm S 25 m) (hP : CRplan S a fz t m) : ∃ T, P_X1_plan N S a r 25 = some T ∧ (∀ b, (b < a ∨ a + 17 < b) → ag S T b) ∧ gI T 103 a = (if fz then 1 else 0) ∧ (∀ i, i < 7 → gQ T (a + 3) i = a + 4 + 2 * i) ∧ gI T 100 a = 1 ∧ PA T a m.1 (tn t) (bestOf t fz m) := by
  have on := ok.2.1
  obtain ⟨ka, p1, p2, p3⟩ := kp0 ha
  obtain ⟨hp1, hp2, lo, hi, z1, z2, a3, a4⟩ := hp
  have h6 := prs_len t
  have og := hm.1
  obtain ⟨T1, f, e1, i1, i0, i2, i3⟩ := c_fill (N := N) (S := sI (sI S 100 a 1) 101 a (-9)) (r := r) (by omega) ha
  have F1 : ∀ b, b ≠ a → b ≠ a + 1 → b ≠ a + 2 → ag S T1 b := fun b h0 h1 h2 => ((ag_sI h0).trans (ag_sI h0)).trans (i1 b h1 h2)
  have g100 : gI T1 100 a = 1 := by rw [i0, gI_sI, if_neg (by omega), gI_sI, if_pos ⟨rfl, rfl⟩]
  have g101 : gI T1 101 a = -9 := by rw [i0, gI_sI, if_pos ⟨rfl, rfl⟩]
  have g103 : gI T1 103 a = (if fz then 1 else 0) := by rw [i0, gI_sI, if_neg (by omega), gI_sI, if_neg (by omega)]; exact hP.1
  have gq : ∀ i, i < 7 → gQ T1 (a + 3) i = a + 4 + 2 * i := by rw [(F1 (a + 3) (by omega) (by omega) (by omega)).2.2.2.2]; exact hP.2.1
  have R1 : CRt T1 r t := hR.ag (fun i hi => F1 _ (by omega) (by omega) (by omega))
  have lo1 : loF T1 r t lo := ⟨((F1 r (by omega) (by omega) (by omega)).1 _).trans hp1, by rw [(F1 (r + 7) (by omega) (by omega) (by omega)).2.2.2.1]; exact hp2, fun i hi => by rw [(F1 (r + 8) (by omega) (by omega) (by omega)).2.2.2.1]; exact (a3 i hi).1⟩
  have m1 : CRm T1 25 m := hM.ag (F1 _ (by omega) (by omega) (by omega)) (F1 _ (by omega) (by omega) (by omega))
  have pre : P_X1_plan N S a r 25 = P_X1_plan_L13 N (f + 1) T1 a r 25 (nI 6) := by
    unfold P_X1_plan
    rw [bnd_eq, bnd_eq, li0]
    exact e1
  have stop : bestOf t fz m = none → PA T1 a m.1 (tn t) (bestOf t fz m) := fun h => by
    rw [h]
    exact ⟨g101, fun i hi => i2 i hi⟩
  rw [pre, P_X1_plan_L13]
  dsimp only
  rw [li6, if_pos (nI_le (Nat.le_refl _) (by omega)), lo1.1, li0, R1.2.1, m1.1]
  by_cases c0 : prs t = []
  · refine ⟨T1, ?_, fun b hb => F1 b (by omega) (by omega) (by omega), g103, gq, g100, stop (best_nil c0)⟩
    rw [c0, if_pos (by decide)]
  · have hne : (prs t).length ≠ 0 := fun h => c0 (List.length_eq_zero_iff.mp h)
    rw [if_neg (nI_ge (by omega) (by omega))]
    by_cases c1 : tn t ≤ m.1
    · refine ⟨T1, ?_, fun b hb => F1 b (by omega) (by omega) (by omega), g103, gq, g100, stop (by unfold bestOf; rw [if_neg (by omega)])⟩
      rw [if_pos (nI_le c1 (by omega))]
    · rw [if_neg (nI_ge (by omega) (by omega))]
      have kg := kp4 ha (i := m.1) (by omega)
      have l1 : ∀ i, i < tn t → lo i ≤ lo (i + 1) := fun i hi => (a4 i hi).1
      have l2 := lo_bd z1 (fun i hi => (by have := (a4 i hi).2.1; omega : lo (i + 1) ≤ lo i + 150)) (tn t) (Nat.le_refl _)
      have l3 : ∀ i p T, i < tn t → p ∈ prs t → lo (i + 1) ≤ lo i + mins t T i p := fun i p T hi hp => ((a4 i hi).2.2.2 c0 p hp T).1
      obtain ⟨S7, hS7⟩ : ∃ S7, S7 = cpS T1 (a + 4 + 2 * m.1) m := ⟨_, rfl⟩
      have e7 : P_X0_copy N T1 (a + 4 + 2 * m.1) 25 = some S7 := by rw [hS7]; exact c_copy (by omega) kg (by rfl) (by omega) m1
      obtain ⟨S12, hS12⟩ : ∃ S12, S12 = sI S7 1 (a + 4 + 2 * m.1) (nI 0) := ⟨_, rfl⟩
      have k7 : ∀ b, b ≠ a + 4 + 2 * m.1 → b ≠ a + 4 + 2 * m.1 + 1 → ag T1 S7 b := fun b h1 h2 => by rw [hS7]; exact ag_cpS h1 h2
      have k12 : ∀ b, b ≠ a + 4 + 2 * m.1 → b ≠ a + 4 + 2 * m.1 + 1 → ag T1 S12 b := fun b h1 h2 => by rw [hS12]; exact (k7 b h1 h2).trans (ag_sI h1)
      have F12 : plF T1 S12 a := ⟨fun b hb => k12 b (by omega) (by omega), (k12 a (by omega) (by omega)).1 _, (k12 a (by omega) (by omega)).1 _, (k12 (a + 3) (by omega) (by omega)).2.2.2.2⟩
      have m12 : CRm S12 (a + 4 + 2 * m.1) (m.1, 0, m.2.2.1, m.2.2.2) := by
        obtain ⟨x1, x2, x3, x4⟩ := cpS_at (S := T1) (a := a + 4 + 2 * m.1) (m := m)
        rw [← hS7] at x1 x2 x3 x4
        rw [hS12]
        refine ⟨?_, ?_, ?_, fun w hw => x4 w hw⟩
        · rw [gI_sI, if_neg (by omega)]; exact x1
        · rw [gI_sI, if_pos ⟨rfl, rfl⟩]
        · rw [gI_sI, if_neg (by omega)]; exact x3
      have D12 : DC S12 t r a m.1 fz lo m.1 (0, m.2.2.1, m.2.2.2) [] none := by
        refine ⟨plF_t ha hr F12 R1, plF_lo ha hr F12 lo1, m12, hm.2.2.2.2.1, Nat.zero_le _, hm.2.2.1, rfl, fun j hj _ => ?_, F12.2.2.1.trans g103, by rw [F12.2.2.2]; exact gq, ⟨?_, ?_⟩, fun y hy => by cases hy⟩
        · rw [(k12 (a + 2) (by omega) (by omega)).2.2.2.1, if_neg (by omega)]; exact i3 j hj
        · rw [(k12 a (by omega) (by omega)).1]; exact g101
        · rw [(k12 (a + 1) (by omega) (by omega)).2.2.2.1]; exact i2
      obtain ⟨T, eT, fT, -, -, aT⟩ := c_search (N := N) (g := m.1) (fz := fz) ha hr hkr ok (by omega) l1 (by omega) l3 (tn t - m.1) 8 m.1 (0, m.2.2.1, m.2.2.2) [] none S12 (by omega) (by omega) D12 (fun _ y hy => by cases hy)
      have g7 : gI S7 0 25 = nI m.1 := ((k7 25 (by omega) (by omega)).1 0).trans m1.1
      have g12 : gI S12 0 25 = nI m.1 := ((k12 25 (by omega) (by omega)).1 0).trans m1.1
      have q7 : gQ S7 (a + 3) m.1 = a + 4 + 2 * m.1 := by rw [(k7 (a + 3) (by omega) (by omega)).2.2.2.2]; exact gq _ (by omega)
      refine ⟨T, ?_, fun b hb => ((F1 b (by omega) (by omega) (by omega)).trans (k12 b (by omega) (by omega))).trans (fT.1 b hb), fT.2.2.1.trans (F12.2.2.1.trans g103), ?_, fT.2.1.trans (F12.2.1.trans g100), ?_⟩
      · rw [bin_nI (by omega), p3, gd_dec (by omega), nI_clamp (by omega), gq m.1 (by omega), bnd_eq, isk_of kg, gd_true, e7, cal1_s, g7, bin_nI (by omega), gd_dec (by omega), nI_clamp (by omega), q7, bnd_eq, isk_of kg, gd_true, ← hS12, bnd_eq, g12, eT, cal1_s]
      · rw [fT.2.2.2, F12.2.2.2]; exact gq
      · rw [pfx_nil] at aT
        unfold bestOf
        rw [if_pos (by omega)]
        exact aT
theorem c_planned {N a : Nat} {S : PSt} {q : Sig} {fz : Bool} {x : Int32} (hN : 50 ≤ N) (ha : a = 120 ∨ a = 138) (ok : SOK q) (hc : CR S q) (hP : CRplan S a fz (qt q) (qm q)) (hx : x = -1 ∨ ∃ i, i ≤ 5 ∧ x = nI i) : ∃ T, P_X6_planned N S a x = some (toldAns (qt q) fz (qm q) x, T) ∧ (∀ b, (b < a ∨ a + 17 < b) → ag S T b) ∧ CRplan T a fz (qt q) (qm q) := by
  obtain ⟨r, d, hrd, hr, hd, hT, hpp, -, -⟩ := hc.1
  obtain ⟨hk, -, hkr, -⟩ := isk4 hrd
  obtain ⟨ka, p1, p2, p3⟩ := kp0 ha
  have fin : ∀ T, gI T 101 a = bestMin (qt q) fz (qm q) → (∀ i, i < 6 → gA T (a + 1) i = bestRow (qt q) fz (qm q) i) → P_X6_planned_L35 N T a x = some (toldAns (qt q) fz (qm q) x, T) := by
    intro T h1 h2
    unfold P_X6_planned_L35 toldAns
    rcases hx with rfl | ⟨i, hi, rfl⟩
    · rw [if_neg (by decide), if_pos rfl, h1]
    · have nm : ¬ nI i = -1 := by
        intro h
        have h1 := congrArg Int32.toInt h
        rw [nI_toInt (by omega)] at h1
        have h2 : (i : Int) = -1 := h1
        omega
      rw [li0, if_pos (nI_le (Nat.zero_le _) (by omega)), if_neg nm, bin_nI (by omega), p1, gd_dec (by omega), nI_clamp (by omega), h2 i (by omega)]
  have pre : P_X6_planned N S a x = if gI S 100 a = 0 then (cal1 (P_X1_plan N S a r 25) fun S8 => P_X6_planned_L35 N S8 a x) else P_X6_planned_L35 N S a x := by
    have x1 : ¬ x < -1 := by
      rcases hx with rfl | ⟨i, hi, rfl⟩
      · decide
      · rw [Int32.lt_iff_toInt_lt, nI_toInt (by omega)]
        show ¬ ((i : Int) < -1)
        omega
    have x2 : x < 6 := by
      rcases hx with rfl | ⟨i, hi, rfl⟩
      · decide
      · rw [li6]; exact nI_lt (by omega) (by omega)
    unfold P_X6_planned
    rw [if_neg x1, if_pos x2, hr, bnd_eq, hk, gd_true]
  rw [pre]
  obtain ⟨P1, P2, P3⟩ := hP
  rcases P3 with P3 | ⟨P3, P4, P5⟩
  · obtain ⟨T, e, i1, i2, i3, i4, i5⟩ := c_plan (N := N) (fz := fz) hN ha (by omega) hkr ok.1 ok.2.1 hT hpp hc.2.1.1.1 ⟨P1, P2, Or.inl P3⟩
    refine ⟨T, ?_, i1, i2, i3, Or.inr ⟨i4, i5.1, i5.2⟩⟩
    rw [if_pos P3, e, cal1_s]
    exact fin T i5.1 i5.2
  · refine ⟨S, ?_, fun b _ => ag.refl S b, P1, P2, Or.inr ⟨P3, P4, P5⟩⟩
    rw [if_neg (by rw [P3]; decide)]
    exact fin S P4 P5
theorem planned_bad {N a : Nat} {S : PSt} {x : Int32} (hx : x < -1 ∨ ¬ x < -1 ∧ nI 5 < x) : P_X6_planned N S a x = some (-1, S) := by
  unfold P_X6_planned
  rcases hx with h | ⟨h, h2⟩
  · rw [if_pos h]
  · rw [if_neg h, if_neg]
    rw [Int32.lt_iff_toInt_lt, nI_toInt (by omega)] at h2
    rw [Int32.lt_iff_toInt_lt]
    show ¬ (x.toInt < 6)
    omega
theorem told_bad {N : Nat} {S : PSt} {x y : Int32} (hx : x < -1 ∨ ¬ x < -1 ∧ nI 5 < x) : P_X7_told N S x y = some (-1, S) := by
  unfold P_X7_told
  rw [li5, m_in0 (by rcases hx with h | ⟨h, h2⟩; exact Or.inl h; exact Or.inr h2), cal2_s, li0, if_pos rfl]
theorem step_best {N : Nat} {S : PSt} (hN : 200000 ≤ N) (x : Int32) (h : Inv S) : ∃ r S1 S2, P_X6_best N S x = some (r, S1) ∧ P_X7_best N S1 x = some (r, S2) ∧ Inv S2 := by
  obtain ⟨q, ok, hc, hm⟩ := h
  unfold P_X6_best P_X7_best
  rw [li0]
  have go : (x = -1 ∨ ∃ i, i ≤ 5 ∧ x = nI i) → ∃ r S1 S2, (cal2 (P_X6_planned N S 120 x) fun r3 S1 => some (r3, S1)) = some (r, S1) ∧ (cal2 (P_X7_told N S1 x (nI 0)) fun r3 S1 => some (r3, S1)) = some (r, S2) ∧ Inv S2 := by
    intro hx
    have hc0 := hc
    obtain ⟨c1, c2, c3, c4, c5, c6, c7, c8⟩ := hc
    obtain ⟨T, e, k, hP⟩ := c_planned (N := N) (by omega) (Or.inl rfl) ok hc0 c4 hx
    have kM : eqM S T := eqM.ofag (fun a ha => k a (by omega))
    obtain ⟨S2, e2, f2⟩ := m_told (N := N) (b := 0) hN (by omega) ok (hm.eqM kM) hx
    refine ⟨toldAns (qt q) false (qm q) x, T, S2, by rw [e, cal2_s], by rw [e2, cal2_s]; rfl, inv_of (S1 := T) q ok ?_ (MR_sfr (hm.eqM kM) f2) (eqC_sfr f2)⟩
    exact ⟨c1.ag (fun f => (k 0 (by omega)).2.2.1 f) (fun a _ _ => k a (by omega)), c2.ag ok.2.2.1 (fun a _ _ => k a (by omega)), c3.ag (fun j r hr => (ok.2.2.2.2.1 j r hr).2.1) (fun a _ _ => k a (by omega)), hP, c5.ag (fun i _ => k _ (by omega)), c6.ag (fun a _ _ => k a (by omega)), c7.ag (k _ (by omega)) (k _ (by omega)), ((k 0 (by omega)).2.1 _).trans c8⟩
  rcases inR5 x with h | h | h
  · exact go (Or.inl h)
  · exact go (Or.inr h)
  · exact ⟨-1, S, S, by rw [planned_bad h, cal2_s], by rw [told_bad h, cal2_s], q, ok, hc, hm⟩
theorem step_fresh {N : Nat} {S : PSt} (hN : 200000 ≤ N) (x : Int32) (h : Inv S) : ∃ r S1 S2, P_X6_fresh N S x = some (r, S1) ∧ P_X7_fresh N S1 x = some (r, S2) ∧ Inv S2 := by
  obtain ⟨q, ok, hc, hm⟩ := h
  unfold P_X6_fresh P_X7_fresh
  rw [li1]
  have go : (x = -1 ∨ ∃ i, i ≤ 5 ∧ x = nI i) → ∃ r S1 S2, (cal2 (P_X6_planned N S 138 x) fun r3 S1 => some (r3, S1)) = some (r, S1) ∧ (cal2 (P_X7_told N S1 x (nI 1)) fun r3 S1 => some (r3, S1)) = some (r, S2) ∧ Inv S2 := by
    intro hx
    have hc0 := hc
    obtain ⟨c1, c2, c3, c4, c5, c6, c7, c8⟩ := hc
    obtain ⟨T, e, k, hP⟩ := c_planned (N := N) (by omega) (Or.inr rfl) ok hc0 c5 hx
    have kM : eqM S T := eqM.ofag (fun a ha => k a (by omega))
    obtain ⟨S2, e2, f2⟩ := m_told (N := N) (b := 1) hN (by omega) ok (hm.eqM kM) hx
    refine ⟨toldAns (qt q) true (qm q) x, T, S2, by rw [e, cal2_s], by rw [e2, cal2_s]; rfl, inv_of (S1 := T) q ok ?_ (MR_sfr (hm.eqM kM) f2) (eqC_sfr f2)⟩
    exact ⟨c1.ag (fun f => (k 0 (by omega)).2.2.1 f) (fun a _ _ => k a (by omega)), c2.ag ok.2.2.1 (fun a _ _ => k a (by omega)), c3.ag (fun j r hr => (ok.2.2.2.2.1 j r hr).2.1) (fun a _ _ => k a (by omega)), c4.ag (fun i _ => k _ (by omega)), hP, c6.ag (fun a _ _ => k a (by omega)), c7.ag (k _ (by omega)) (k _ (by omega)), ((k 0 (by omega)).2.1 _).trans c8⟩
  rcases inR5 x with h | h | h
  · exact go (Or.inl h)
  · exact go (Or.inr h)
  · exact ⟨-1, S, S, by rw [planned_bad h, cal2_s], by rw [told_bad h, cal2_s], q, ok, hc, hm⟩
end
