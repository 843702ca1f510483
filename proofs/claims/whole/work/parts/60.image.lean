section
/-! STAGE 2, calls: keep, back -/
theorem c_vcopy {N v u : Nat} {S : PSt} {m : Mom} {ps : List Mom} (hN : 20 ≤ N) (hv : kd v = 5) (hu : kd u = 5) (hd : v + 24 ≤ u ∨ u + 24 ≤ v) (h : CRv S u m ps) (hqu : CRq S u) (hqv : CRq S v) (hl : ps.length ≤ 10) : ∃ S', P_X5_copy N S v u = some S' ∧ CRv S' v m ps ∧ (∀ a, (a < v ∨ v + 23 < a) → ag S S' a) ∧ CRq S' v := by
  obtain ⟨h1, h2, h3⟩ := h
  have e0 : P_X0_copy N S (v + 1) (u + 1) = some (cpS S (v + 1) m) := c_copy (by omega) (kv1 hv) (kv1 hu) (by omega) h1
  obtain ⟨T0, hT0⟩ : ∃ T0, T0 = sI (cpS S (v + 1) m) 501 v (nI ps.length) := ⟨_, rfl⟩
  have a0 : ∀ a, (a < v ∨ v + 23 < a) → ag S T0 a := fun a ha => by rw [hT0]; exact (ag_cpS (by omega) (by omega)).trans (ag_sI (by omega))
  have q0 : ∀ a, gQ T0 a = gQ S a := fun a => by rw [hT0]; rfl
  have step : ∀ (k : Nat) (s : PSt × Int32) (fuel : Nat), k < ps.length → (s.2 = nI k ∧ (∀ a, (a < v ∨ v + 23 < a) → ag S s.1 a) ∧ (∀ a, gQ s.1 a = gQ S a) ∧ gI s.1 501 v = nI ps.length ∧ CRm s.1 (v + 1) m ∧ ∀ j, j < k → CRm s.1 (gQ S (v + 3) j) (ps.getD j m0)) → ∃ s' : PSt × Int32, P_X5_copy_L21 N (fuel + 1) s.1 v u s.2 = P_X5_copy_L21 N fuel s'.1 v u s'.2 ∧ (s'.2 = nI (k + 1) ∧ (∀ a, (a < v ∨ v + 23 < a) → ag S s'.1 a) ∧ (∀ a, gQ s'.1 a = gQ S a) ∧ gI s'.1 501 v = nI ps.length ∧ CRm s'.1 (v + 1) m ∧ ∀ j, j < k + 1 → CRm s'.1 (gQ S (v + 3) j) (ps.getD j m0)) := by
    rintro k ⟨T, x⟩ fuel hk ⟨hx, i1, i2, i3, i4, i5⟩
    simp only at hx i1 i2 i3 i4 i5 ⊢
    subst hx
    obtain ⟨e, he, hg⟩ := hqv.1 k (by omega)
    obtain ⟨e', he', hg'⟩ := hqu.1 k (by omega)
    have h6 := h3 k hk
    rw [hg'] at h6
    have h7 : CRm T (u + 4 + 2 * e') (ps.getD k m0) := h6.ag (i1 _ (by omega)) (i1 _ (by omega))
    have g1 : gQ T (v + 3) k = v + 4 + 2 * e := by rw [i2]; exact hg
    have g2 : gQ T (u + 3) k = u + 4 + 2 * e' := by rw [i2]; exact hg'
    refine ⟨(cpS T (v + 4 + 2 * e) (ps.getD k m0), nI (k + 1)), ?_, rfl, fun a ha => (i1 a ha).trans (ag_cpS (by omega) (by omega)), fun a => i2 a, ?_, i4.ag (ag_cpS (by omega) (by omega)) (ag_cpS (by omega) (by omega)), fun j hj => ?_⟩
    · rw [P_X5_copy_L21]
      dsimp only
      rw [i3, if_neg (nI_ge hk (by omega)), li10, if_neg (nI_ge (by omega) (by omega)), bin_nI (by omega), lv3 hv, lv3 hu, gd_dec (by omega), bnd_eq, nI_clamp (by omega), g1, isk_of (kv4 hv he), gd_true, bin_nI (by omega), gd_dec (by omega), bnd_eq, g2, isk_of (kv4 hu he'), gd_true, c_copy (by omega) (kv4 hv he) (kv4 hu he') (by omega) h7, cal1_s, li1, nI_add, bnd_eq]
    · rw [(ag_cpS (S := T) (a := v + 4 + 2 * e) (b := v) (m := ps.getD k m0) (by omega) (by omega)).1]; exact i3
    · by_cases c : j = k
      · subst c
        rw [hg]
        exact cpS_at
      · obtain ⟨e2, he2, hg2⟩ := hqv.1 j (by omega)
        have ne : e2 ≠ e := by
          intro z
          subst z
          exact c (hqv.2 j k (by omega) (by omega) (hg2.trans hg.symm))
        have h8 := i5 j (by omega)
        rw [hg2] at h8 ⊢
        exact h8.ag (ag_cpS (by omega) (by omega)) (ag_cpS (by omega) (by omega))
  obtain ⟨⟨T, x⟩, e, hx, i1, i2, i3, i4, i5⟩ := loopG (fun f (s : PSt × Int32) => P_X5_copy_L21 N f s.1 v u s.2) _ ps.length step ps.length 0 (T0, nI 0) (N - ps.length) (by omega) ⟨rfl, a0, q0, by rw [hT0, gI_sI, if_pos ⟨rfl, rfl⟩], by rw [hT0]; exact cpS_at.ag (ag_sI (by omega)) (ag_sI (by omega)), fun j hj => absurd hj (Nat.not_lt_zero j)⟩
  simp only at e hx i1 i2 i3 i4 i5
  subst hx
  refine ⟨T, ?_, ⟨i4, i3, fun i hi => by rw [i2]; exact i5 i hi⟩, i1, by unfold CRq; rw [i2]; exact hqv⟩
  unfold P_X5_copy
  have g3 : gI (cpS S (v + 1) m) 501 u = nI ps.length := by
    rw [(ag_cpS (S := S) (a := v + 1) (b := u) (m := m) (by omega) (by omega)).1]; exact h2
  rw [e0, cal1_s, g3, bnd_eq, ← hT0, li0]
  rw [show N - ps.length + ps.length = N by omega] at e
  rw [e]
  obtain ⟨f, hf⟩ : ∃ f, N - ps.length = f + 1 := ⟨N - ps.length - 1, by omega⟩
  rw [hf, P_X5_copy_L21]
  dsimp only
  rw [i3, if_pos (nI_le (Nat.le_refl _) (by omega))]
theorem narT : vp_nar .boolean (1 : Int32) = 1 := by decide
theorem narF : vp_nar .boolean (0 : Int32) = 0 := by decide
theorem m_keepA {N b : Nat} {S : PSt} {x : Int32} (hb : b ≤ 78) : ∀ fuel, ∃ S', P_X7_keep_L18 N (fuel + 7) S x (nI b) (nI 0) = P_X7_keep_L18 N fuel S' x (nI b) (nI 7) ∧ row1 S S' 163 (fun i => if b ≤ i ∧ i < b + 7 then gA S 161 (i - b) else gA S 163 i) := by
  intro fuel
  have h := loop_itr (fun f S y => P_X7_keep_L18 N f S x (nI b) y) (fun S1 i => sA S1 163 (b + i) (gA S 161 i)) (fun k S' => row1 S S' 163 (fun i => if b ≤ i ∧ i < b + k then gA S 161 (i - b) else gA S 163 i)) S ((row1.refl S 163).cong (fun j => (if_neg (by omega)).symm)) 7 (fun k S1 hk h1 => ?_) (fun k S1 fuel hk h1 => ?_)
  · exact ⟨_, h.1 fuel, h.2⟩
  · refine (row1_sA h1).cong (fun j => ?_)
    show (if j = b + k then gA S 161 k else if b ≤ j ∧ j < b + k then gA S 161 (j - b) else gA S 163 j) = if b ≤ j ∧ j < b + (k + 1) then gA S 161 (j - b) else gA S 163 j
    by_cases c : j = b + k
    · rw [if_pos c, if_pos (by omega), c, show b + k - b = k by omega]
    · rw [if_neg c]
      by_cases c2 : b ≤ j ∧ j < b + k
      · rw [if_pos c2, if_pos (by omega)]
      · rw [if_neg c2, if_neg (by omega)]
  · show P_X7_keep_L18 N (fuel + 1) S1 x (nI b) (nI k) = _
    rw [P_X7_keep_L18]
    dsimp only
    rw [li7, if_neg (nI_ge hk (by omega)), bin_nI (by omega), l161, gd_dec (by omega), nI_add, bin_nI (by omega), l163, gd_dec (by omega), nI_clamp (by omega), nI_clamp (by omega), bnd_eq, li1, nI_add, bnd_eq, h1.2.2.2.2.1 161 (by omega)]
theorem m_keepB {N b : Nat} {S : PSt} {x : Int32} (hb : b ≤ 78) : ∀ fuel, ∃ S', P_X7_keep_L59 N (fuel + 70) S x (nI b) (nI 0) = P_X7_keep_L59 N fuel S' x (nI b) (nI 70) ∧ row1 S S' 163 (fun i => if b + 8 ≤ i ∧ i < b + 8 + 70 then gA S 162 (i - (b + 8)) else gA S 163 i) := by
  intro fuel
  have h := loop_itr (fun f S y => P_X7_keep_L59 N f S x (nI b) y) (fun S1 i => sA S1 163 (b + 8 + i) (gA S 162 i)) (fun k S' => row1 S S' 163 (fun i => if b + 8 ≤ i ∧ i < b + 8 + k then gA S 162 (i - (b + 8)) else gA S 163 i)) S ((row1.refl S 163).cong (fun j => (if_neg (by omega)).symm)) 70 (fun k S1 hk h1 => ?_) (fun k S1 fuel hk h1 => ?_)
  · exact ⟨_, h.1 fuel, h.2⟩
  · refine (row1_sA h1).cong (fun j => ?_)
    show (if j = b + 8 + k then gA S 162 k else if b + 8 ≤ j ∧ j < b + 8 + k then gA S 162 (j - (b + 8)) else gA S 163 j) = if b + 8 ≤ j ∧ j < b + 8 + (k + 1) then gA S 162 (j - (b + 8)) else gA S 163 j
    by_cases c : j = b + 8 + k
    · rw [if_pos c, if_pos (by omega), c, show b + 8 + k - (b + 8) = k by omega]
    · rw [if_neg c]
      by_cases c2 : b + 8 ≤ j ∧ j < b + 8 + k
      · rw [if_pos c2, if_pos (by omega)]
      · rw [if_neg c2, if_neg (by omega)]
  · show P_X7_keep_L59 N (fuel + 1) S1 x (nI b) (nI k) = _
    rw [P_X7_keep_L59]
    dsimp only
    rw [li70, if_neg (nI_ge hk (by omega)), li7, li1, bin_nI (by omega), l162, gd_dec (by omega), nI_add, nI_add, nI_add, bin_nI (by omega), l163, gd_dec (by omega), nI_clamp (by omega), nI_clamp (by omega), bnd_eq, nI_add, bnd_eq, h1.2.2.2.2.1 162 (by omega)]
def setI (q : Sig) (j : Nat) (r : Mom × List Mom) : Sig := (q.1, q.2.1, q.2.2.1, fun i => if i = j then some r else q.2.2.2.1 i, q.2.2.2.2.1, q.2.2.2.2.2.1, q.2.2.2.2.2.2)
theorem kv49 {j : Nat} (hj : j < 2) : kd (49 + 24 * j) = 5 := by
  rcases (show j = 0 ∨ j = 1 by omega) with e | e <;> subst e <;> rfl
theorem l48 : ln 48 = 2 := rfl
theorem l97 : ln 97 = 2 := rfl
theorem step_keep {N : Nat} {S : PSt} (hN : 100 ≤ N) (x : Int32) (h : Inv S) : ∃ r S1 S2, P_X6_keep N S x = some (r, S1) ∧ P_X7_keep N S1 x = some (r, S2) ∧ Inv S2 := by
  obtain ⟨q, ok, hc, hm⟩ := h
  have ol := ok.2.2.1
  rcases inR x 0 1 (by omega) (by omega) with ⟨j, -, hj, rfl⟩ | c
  · obtain ⟨im1, im2⟩ := hc.2.2.1
    obtain ⟨j1, j2, j3⟩ := im1 j (by omega)
    have hkv := kv49 (j := j) (by omega)
    obtain ⟨S1, e1, v1, ka, v2⟩ := c_vcopy (N := N) (by omega) hkv (show kd 24 = 5 from rfl) (by omega) hc.2.1.1 hc.2.1.2 j2 ol
    obtain ⟨S2, hS2⟩ : ∃ S2, S2 = sA S1 97 j 1 := ⟨_, rfl⟩
    have k2 : ∀ a, a ≠ 97 → ag S1 S2 a := fun a ha => by rw [hS2]; exact ag_sA ha
    have ka2 : ∀ a, (a < 49 + 24 * j ∨ 49 + 24 * j + 23 < a) → a ≠ 97 → ag S S2 a := fun a ha hb => (ka a ha).trans (k2 a hb)
    have e25 : gI S2 1 25 = nI (qm q).2.1 := ((ka2 25 (by omega) (by omega)).1 1).trans hc.2.1.1.1.2.1
    have eC : P_X6_keep N S (nI j) = some (nI (qm q).2.1, S2) := by
      unfold P_X6_keep
      rw [li0, li2, if_neg (nI_nlt (by omega) (by omega)), if_pos (nI_lt (by omega) (by omega)), bin_nI (by omega), l48, gd_dec (by omega), nI_clamp (by omega), j1, bnd_eq, isk_of hkv, gd_true, e1, cal1_s, bin_nI (by omega), l97, gd_dec (by omega), narT, ← hS2, bnd_eq, e25]
    have hm1 := hm.eqM (eqM.ofag (fun a ha => ka2 a (by omega) (by omega)))
    obtain ⟨A, eA, rA⟩ := m_keepA (N := N) (b := 78 * j) (S := S2) (x := nI j) (by omega) (N - 7)
    obtain ⟨B0, hB0⟩ : ∃ B0, B0 = sA A 163 (78 * j + 7) (nI (qp q).length) := ⟨_, rfl⟩
    obtain ⟨B, eB, rB⟩ := m_keepB (N := N) (b := 78 * j) (S := B0) (x := nI j) (by omega) (N - 70)
    rw [show N - 7 + 7 = N by omega] at eA
    rw [show N - 70 + 70 = N by omega] at eB
    have rB0 := row1_sA (i := 78 * j + 7) (v := nI (qp q).length) rA
    rw [← hB0] at rB0
    have b161 : gA B 161 = gA S2 161 := (rB.2.2.2.2.1 161 (by omega)).trans (rB0.2.2.2.2.1 161 (by omega))
    have g163 : ∀ i, gA B 163 i = if 78 * j + 8 ≤ i ∧ i < 78 * j + 8 + 70 then gA S2 162 (i - (78 * j + 8)) else if i = 78 * j + 7 then nI (qp q).length else if 78 * j ≤ i ∧ i < 78 * j + 7 then gA S2 161 (i - 78 * j) else gA S2 163 i := by
      intro i
      have h0 : gA B0 162 = gA S2 162 := rB0.2.2.2.2.1 162 (by omega)
      have h1 : gA B0 163 i = if i = 78 * j + 7 then nI (qp q).length else if 78 * j ≤ i ∧ i < 78 * j + 7 then gA S2 161 (i - 78 * j) else gA S2 163 i := rB0.2.2.2.2.2 i
      have h2 : gA B 163 i = if 78 * j + 8 ≤ i ∧ i < 78 * j + 8 + 70 then gA B0 162 (i - (78 * j + 8)) else gA B0 163 i := rB.2.2.2.2.2 i
      rw [h2, h0, h1]
    have eM : P_X7_keep N S2 (nI j) = some (nI (qm q).2.1, sA B 164 j 1) := by
      unfold P_X7_keep
      rw [li0, li1, m_in1 (by omega) hj (by omega), cal2_s, if_neg n1_0, li78, pk_mul, bnd_eq, eA]
      obtain ⟨f, hf⟩ : ∃ f, N - 7 = f + 1 := ⟨N - 8, by omega⟩
      obtain ⟨f2, hf2⟩ : ∃ f, N - 70 = f + 1 := ⟨N - 71, by omega⟩
      have gA8 : gI A 708 158 = nI (qp q).length := (rA.1 708 158).trans hm1.2.2.1
      have g1 : gA (sA B 164 j 1) 161 1 = nI (qm q).2.1 := by
        rw [gA_sA, if_neg (by omega), b161]; exact hm1.2.1.2.1
      rw [hf, P_X7_keep_L18]
      dsimp only
      rw [li7, if_pos (nI_le (by omega) (by omega)), nI_add, bin_nI (by omega), l163, gd_dec (by omega), nI_clamp (by omega), gA8, bnd_eq, ← hB0, li0, eB, hf2, P_X7_keep_L59]
      dsimp only
      rw [li70, if_pos (nI_le (by omega) (by omega)), bin_nI (by omega), l164, gd_dec (by omega), nI_clamp (by omega), narT, bnd_eq, li1, nI_clamp (by omega), ← li1, g1]
    refine ⟨_, _, _, eC, eM, inv_of (S1 := S2) (setI q j (qm q, qp q)) ?_ ?_ ?_ ?_⟩
    · obtain ⟨o1, o2, o3, o4, o5, o6, o7, o8, o9⟩ := ok
      refine ⟨o1, o2, o3, o4, fun i r hr => ?_, o6, o7, o8, o9⟩
      have hr : (if i = j then some (qm q, qp q) else qi q i) = some r := hr
      by_cases c : i = j
      · rw [if_pos c] at hr
        cases hr
        exact ⟨o2, o3, o4⟩
      · rw [if_neg c] at hr
        exact o5 i r hr
    · obtain ⟨c1, c2, c3, c4, c5, c6, c7, c8⟩ := hc
      refine ⟨c1.ag (fun f => (ka2 0 (by omega) (by omega)).2.2.1 f) (fun a _ _ => ka2 a (by omega) (by omega)), c2.ag ol (fun a _ _ => ka2 a (by omega) (by omega)), ⟨fun i hi => ?_, fun i r hi hr => ?_⟩, c4.ag (fun i _ => ka2 _ (by omega) (by omega)), c5.ag (fun i _ => ka2 _ (by omega) (by omega)), c6.ag (fun a _ _ => ka2 a (by omega) (by omega)), c7.ag (ka2 _ (by omega) (by omega)) (ka2 _ (by omega) (by omega)), ((ka2 0 (by omega) (by omega)).2.1 _).trans c8⟩
      · obtain ⟨i1, i2, i3⟩ := im1 i hi
        have h97 : gA S1 97 = gA S 97 := (ka 97 (by omega)).2.2.2.1
        refine ⟨?_, ?_, ?_⟩
        · rw [(ka2 48 (by omega) (by omega)).2.2.2.2]; exact i1
        · by_cases c : i = j
          · subst c; exact v2.ag (k2 _ (by omega))
          · exact i2.ag (ka2 _ (by omega) (by omega))
        · show gA S2 97 i = flag (if i = j then some (qm q, qp q) else qi q i)
          rw [hS2, gA_sA, if_pos rfl]
          unfold upd
          by_cases c : i = j
          · rw [if_pos c, if_pos c]; rfl
          · rw [if_neg c, if_neg c, h97]; exact i3
      · have hr : (if i = j then some (qm q, qp q) else qi q i) = some r := hr
        by_cases c : i = j
        · rw [if_pos c] at hr
          cases hr
          subst c
          exact v1.ag v2 ol (fun a _ => k2 _ (by omega))
        · rw [if_neg c] at hr
          exact (im2 i r hi hr).ag (im1 i hi).2.1 (ok.2.2.2.2.1 i r hr).2.1 (fun a _ => ka2 _ (by omega) (by omega))
    · have hm1' := hm1
      obtain ⟨b1, b2, b3, b4, b5, b6, b7, b8, b9, b10, b11, b12⟩ := hm1
      have kA : ∀ a, a ≠ 163 → a ≠ 164 → gA (sA B 164 j 1) a = gA S2 a := fun a h3 h4 => by
        rw [gA_sA, if_neg h4, rB.2.2.2.2.1 a h3, rB0.2.2.2.2.1 a h3]
      have kI : ∀ f a, gI (sA B 164 j 1) f a = gI S2 f a := fun f a => (rB.1 f a).trans (rB0.1 f a)
      have k163 : gA (sA B 164 j 1) 163 = gA B 163 := by rw [gA_sA, if_neg (by omega)]
      have k9 := kA 159 (by omega) (by omega)
      have k0 := kA 160 (by omega) (by omega)
      obtain ⟨a1, a2, a3, a4, a5, a6, a7, a8, a9, a10⟩ := b1
      refine ⟨⟨(kI _ _).trans a1, (kI _ _).trans a2, (kI _ _).trans a3, (kI _ _).trans a4, by rw [k9]; exact a5, by rw [k9]; exact a6, by rw [k0]; exact a7, by rw [k0]; exact a8, by rw [k0]; exact a9, by rw [k0]; exact a10⟩, MRn_eq b2 (kA 161 (by omega) (by omega)), (kI _ _).trans b3, fun i hi => (b4 i hi).eqM (kA 162 (by omega) (by omega)), fun i hi => ?_, fun i r hi hr => ?_, (kI _ _).trans b7, by rw [kA 165 (by omega) (by omega)]; exact b8, by rw [kA 165 (by omega) (by omega)]; exact b9, (kI _ _).trans b10, by rw [kA 166 (by omega) (by omega)]; exact b11, ?_⟩
      · show gA (sA B 164 j 1) 164 i = flag (if i = j then some (qm q, qp q) else qi q i)
        rw [gA_sA, if_pos rfl, rB.2.2.2.2.1 164 (by omega), rB0.2.2.2.2.1 164 (by omega)]
        unfold upd
        by_cases c : i = j
        · rw [if_pos c, if_pos c]; rfl
        · rw [if_neg c, if_neg c]; exact b5 i hi
      · have hr : (if i = j then some (qm q, qp q) else qi q i) = some r := hr
        by_cases c : i = j
        · rw [if_pos c] at hr
          cases hr
          subst c
          obtain ⟨n1, n2, n3, n4⟩ := b2
          refine ⟨⟨?_, ?_, ?_, fun w hw => ?_⟩, ?_, fun z hz => ?_⟩
          · rw [k163, g163, if_neg (by omega), if_neg (by omega), if_pos (by omega), Nat.sub_self]; exact n1
          · rw [k163, g163, if_neg (by omega), if_neg (by omega), if_pos (by omega), Nat.add_sub_cancel_left]; exact n2
          · rw [k163, g163, if_neg (by omega), if_neg (by omega), if_pos (by omega), Nat.add_sub_cancel_left]; exact n3
          · rw [k163, g163, if_neg (by omega), if_neg (by omega), if_pos (by omega), show 78 * i + 3 + w - 78 * i = 3 + w by omega]; exact n4 w hw
          · rw [k163, g163, if_neg (by omega), if_pos rfl]
          · obtain ⟨m1, m2, m3, m4⟩ := b4 z hz
            have hz9 : z < (qp q).length := hz
            refine ⟨?_, ?_, ?_, fun w hw => ?_⟩
            · rw [k163, g163, if_pos (by omega), show 78 * i + 8 + 7 * z - (78 * i + 8) = 7 * z by omega]; exact m1
            · rw [k163, g163, if_pos (by omega), show 78 * i + 8 + 7 * z + 1 - (78 * i + 8) = 7 * z + 1 by omega]; exact m2
            · rw [k163, g163, if_pos (by omega), show 78 * i + 8 + 7 * z + 2 - (78 * i + 8) = 7 * z + 2 by omega]; exact m3
            · rw [k163, g163, if_pos (by omega), show 78 * i + 8 + 7 * z + 3 + w - (78 * i + 8) = 7 * z + 3 + w by omega]; exact m4 w hw
        · rw [if_neg c] at hr
          obtain ⟨⟨n1, n2, n3, n4⟩, m1, m2⟩ := b6 i r hi hr
          have o10 := (ok.2.2.2.2.1 i r hr).2.1
          have key : ∀ z, 78 * i ≤ z → z < 78 * i + 78 → gA (sA B 164 j 1) 163 z = gA S2 163 z := by
            intro z h1 h2
            rw [k163, g163, if_neg (by omega), if_neg (by omega), if_neg (by omega)]
          refine ⟨⟨?_, ?_, ?_, fun w hw => ?_⟩, ?_, fun z hz => ?_⟩
          · rw [key _ (by omega) (by omega)]; exact n1
          · rw [key _ (by omega) (by omega)]; exact n2
          · rw [key _ (by omega) (by omega)]; exact n3
          · rw [key _ (by omega) (by omega)]; exact n4 w hw
          · rw [key _ (by omega) (by omega)]; exact m1
          · obtain ⟨p1, p2, p3, p4⟩ := m2 z hz
            refine ⟨?_, ?_, ?_, fun w hw => ?_⟩
            · rw [key _ (by omega) (by omega)]; exact p1
            · rw [key _ (by omega) (by omega)]; exact p2
            · rw [key _ (by omega) (by omega)]; exact p3
            · rw [key _ (by omega) (by omega)]; exact p4 w hw
      · exact ((rB.2.1 713 158).trans (rB0.2.1 713 158)).trans b12
    · exact ((rB0.eqC (by omega)).trans (rB.eqC (by omega))).trans (eqC_sA (by omega))
  · refine ⟨-1, S, S, ?_, ?_, q, ok, hc, hm⟩
    · unfold P_X6_keep
      rw [li0]
      rcases c with c | ⟨c, d⟩
      · rw [if_pos c]
      · rw [if_neg c, if_neg (by rw [Int32.not_lt]; rw [Int32.lt_iff_toInt_lt] at d; rw [Int32.le_iff_toInt_le]; rw [nI_toInt (by omega)] at d; show (2 : Int) ≤ _; omega)]
    · unfold P_X7_keep
      rw [li0, li1, m_in0 (by rcases c with c | ⟨c, d⟩; exact Or.inl c; exact Or.inr d), cal2_s, if_pos rfl]
end
