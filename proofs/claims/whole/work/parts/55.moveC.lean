section
/-! STAGE 2, the moves of the component -/
theorem gd_dec {α : Type} {p : Prop} {dp : Decidable p} {k : Option α} (h : p) : gd (decide p) k = k := by rw [decide_eq_true h]; rfl
theorem loopG {σ β : Type} (F : Nat → σ → Option β) (I : Nat → σ → Prop) (n : Nat) (step : ∀ k s fuel, k < n → I k s → ∃ s', F (fuel + 1) s = F fuel s' ∧ I (k + 1) s') : ∀ (r k : Nat) (s : σ) (fuel : Nat), k + r = n → I k s → ∃ s', F (fuel + r) s = F fuel s' ∧ I n s'
  | 0, k, s, fuel, h, hi => ⟨s, rfl, by rw [← h]; exact hi⟩
  | r + 1, k, s, fuel, h, hi => by
    obtain ⟨s1, e1, h1⟩ := step k s (fuel + r) (by omega) hi
    obtain ⟨s2, e2, h2⟩ := loopG F I n step r (k + 1) s1 fuel (by omega) h1
    exact ⟨s2, e1.trans e2, h2⟩
theorem kv1 {v : Nat} (h : kd v = 5) : kd (v + 1) = 0 := (show ∀ v, v < NR → kd v = 5 → kd (v + 1) = 0 by decide +kernel) v (kd_lt (by omega)) h
theorem lv3 {v : Nat} (h : kd v = 5) : ln (v + 3) = 10 := (show ∀ v, v < NR → kd v = 5 → ln (v + 3) = 10 by decide +kernel) v (kd_lt (by omega)) h
theorem kv4 {v e : Nat} (h : kd v = 5) (he : e < 10) : kd (v + 4 + 2 * e) = 0 := (show ∀ v, v < NR → kd v = 5 → ∀ e, e < 10 → kd (v + 4 + 2 * e) = 0 by decide +kernel) v (kd_lt (by omega)) h e he
theorem isk_of {a k : Nat} (h : kd a = k) : isk a k = true := by unfold isk; rw [h]; exact beq_self_eq_true k
/-- one row of references changes alone -/
def rowQ (S S' : PSt) (a : Nat) (f : Nat → Nat) : Prop := (∀ g b, gI S' g b = gI S g b) ∧ (∀ g b, gJ S' g b = gJ S g b) ∧ (∀ g b, gR S' g b = gR S g b) ∧ (∀ b, gA S' b = gA S b) ∧ (∀ b, b ≠ a → gQ S' b = gQ S b) ∧ ∀ j, gQ S' a j = f j
theorem rowQ_refl (S : PSt) (a : Nat) : rowQ S S a (gQ S a) := ⟨fun _ _ => rfl, fun _ _ => rfl, fun _ _ => rfl, fun _ => rfl, fun _ _ => rfl, fun _ => rfl⟩
theorem rowQ_cong {S S' : PSt} {a : Nat} {f g : Nat → Nat} (h : rowQ S S' a f) (e : ∀ j, f j = g j) : rowQ S S' a g := ⟨h.1, h.2.1, h.2.2.1, h.2.2.2.1, h.2.2.2.2.1, fun j => (h.2.2.2.2.2 j).trans (e j)⟩
theorem rowQ_sQ {S S' : PSt} {a i v : Nat} {f : Nat → Nat} (h : rowQ S S' a f) : rowQ S (sQ S' a i v) a (fun j => if j = i then v else f j) := by
  obtain ⟨h1, h2, h3, h4, h5, h6⟩ := h
  refine ⟨h1, h2, h3, h4, fun b hb => ?_, fun j => ?_⟩
  · rw [gQ_sQ, if_neg hb]; exact h5 b hb
  · show gQ (sQ S' a i v) a j = if j = i then v else f j
    rw [gQ_sQ, if_pos rfl]
    unfold va_up
    split
    · rfl
    · exact h6 j
theorem rowQ_ag {S S' : PSt} {a b : Nat} {f : Nat → Nat} (h : rowQ S S' a f) (hb : b ≠ a) : ag S S' b := ⟨fun g => h.1 g b, fun g => h.2.1 g b, fun g => h.2.2.1 g b, h.2.2.2.1 b, h.2.2.2.2.1 b hb⟩
theorem c_loseOldest {N v : Nat} {S : PSt} (hN : 20 ≤ N) (hv : kd v = 5) (hq : CRq S v) : ∃ S', P_X5_loseOldest N S v = some (sI S' 501 v (nI 9)) ∧ rowQ S S' (v + 3) (fun j => if j = 9 then gQ S (v + 3) 0 else if j < 9 then gQ S (v + 3) (j + 1) else gQ S (v + 3) j) := by
  have hk : ∀ i, i < 10 → isk (gQ S (v + 3) i) 0 = true := by
    intro i hi
    obtain ⟨e, he, h⟩ := hq.1 i hi
    rw [h]; exact isk_of (kv4 hv he)
  have step : ∀ (k : Nat) (s : PSt × Int32) (fuel : Nat), k < 9 → (s.2 = nI (k + 1) ∧ rowQ S s.1 (v + 3) (fun j => if j < k then gQ S (v + 3) (j + 1) else gQ S (v + 3) j)) → ∃ s' : PSt × Int32, P_X5_loseOldest_L9 N (fuel + 1) s.1 v (gQ S (v + 3) 0) s.2 = P_X5_loseOldest_L9 N fuel s'.1 v (gQ S (v + 3) 0) s'.2 ∧ (s'.2 = nI (k + 1 + 1) ∧ rowQ S s'.1 (v + 3) (fun j => if j < k + 1 then gQ S (v + 3) (j + 1) else gQ S (v + 3) j)) := by
    rintro k ⟨T, x⟩ fuel hk9 ⟨hx, hr⟩
    simp only at hx hr ⊢
    subst hx
    have g : gQ T (v + 3) (k + 1) = gQ S (v + 3) (k + 1) := by
      have z : gQ T (v + 3) (k + 1) = if k + 1 < k then gQ S (v + 3) (k + 1 + 1) else gQ S (v + 3) (k + 1) := hr.2.2.2.2.2 (k + 1)
      rw [if_neg (by omega)] at z
      exact z
    refine ⟨(sQ T (v + 3) k (gQ S (v + 3) (k + 1)), nI (k + 1 + 1)), ?_, rfl, rowQ_cong (rowQ_sQ hr) (fun j => ?_)⟩
    · rw [P_X5_loseOldest_L9]
      dsimp only
      rw [li10, li1, pk_sub (by omega), if_neg (nI_ge (by omega) (by omega)), bin_nI (by omega), lv3 hv, gd_dec (by omega), bnd_eq, nI_clamp (by omega), g, hk _ (by omega), gd_true, bin_nI (by omega), gd_dec (by omega), bnd_eq, nI_clamp (by omega), bnd_eq, nI_add]
      rfl
    · show (if j = k then gQ S (v + 3) (k + 1) else if j < k then gQ S (v + 3) (j + 1) else gQ S (v + 3) j) = _
      by_cases c : j = k
      · subst c
        rw [if_pos rfl, if_pos (by omega)]
      · rw [if_neg c]
        by_cases c2 : j < k
        · rw [if_pos c2, if_pos (by omega)]
        · rw [if_neg c2, if_neg (by omega)]
  obtain ⟨⟨T, x⟩, e, hx, hr⟩ := loopG (fun f (s : PSt × Int32) => P_X5_loseOldest_L9 N f s.1 v (gQ S (v + 3) 0) s.2) _ 9 step 9 0 (S, nI 1) (N - 9) (by omega) ⟨rfl, rowQ_cong (rowQ_refl S (v + 3)) (fun j => (if_neg (by omega)).symm)⟩
  simp only at e hx hr
  subst hx
  refine ⟨sQ T (v + 3) 9 (gQ S (v + 3) 0), ?_, rowQ_sQ hr⟩
  unfold P_X5_loseOldest
  rw [li0, li1, bin_nI (by omega), lv3 hv, gd_dec (by omega), bnd_eq, nI_clamp (by omega), hk 0 (by omega), gd_true]
  rw [show N - 9 + 9 = N by omega] at e
  rw [e]
  obtain ⟨f, hf⟩ : ∃ f, N - 9 = f + 1 := ⟨N - 10, by omega⟩
  rw [hf, P_X5_loseOldest_L9]
  dsimp only
  rw [li10, li9, if_pos (nI_le (by omega) (by omega)), bin_nI (by omega), lv3 hv, gd_dec (by omega), bnd_eq, nI_clamp (by omega), bnd_eq]
theorem rowQ_voy {S S' : PSt} {m : Mom} {ps : List Mom} {f : Nat → Nat} (hl : ps.length = 10) (h : CRvoy S m ps) (hr : rowQ S S' 27 f) (hf : ∀ j, f j = if j = 9 then gQ S 27 0 else if j < 9 then gQ S 27 (j + 1) else gQ S 27 j) : CRvoy (sI S' 501 24 (nI 9)) m (ps.drop 1) := by
  obtain ⟨⟨h1, h2, h3⟩, h4, h5⟩ := h
  have hg : ∀ j, gQ (sI S' 501 24 (nI 9)) 27 j = if j = 9 then gQ S 27 0 else if j < 9 then gQ S 27 (j + 1) else gQ S 27 j := fun j => (hr.2.2.2.2.2 j).trans (hf j)
  have ka : ∀ a, a ≠ 24 → a ≠ 27 → ag S (sI S' 501 24 (nI 9)) a := fun a x y => (rowQ_ag hr y).trans (ag_sI x)
  refine ⟨⟨h1.ag (ka _ (by omega) (by omega)) (ka _ (by omega) (by omega)), ?_, fun i hi => ?_⟩, fun i hi => ?_, fun i j hi hj => ?_⟩
  · rw [gI_sI, if_pos ⟨rfl, rfl⟩]; simp [hl]
  · have hi' : i < 9 := by simpa [hl] using hi
    have e : (ps.drop 1).getD i m0 = ps.getD (i + 1) m0 := by
      rw [List.getD_eq_getElem?_getD, List.getD_eq_getElem?_getD, List.getElem?_drop, Nat.add_comm]
    show CRm _ (gQ (sI S' 501 24 (nI 9)) 27 i) _
    rw [e, hg, if_neg (by omega), if_pos hi']
    obtain ⟨e, he, h⟩ := h4 (i + 1) (by omega)
    have h6 := h3 (i + 1) (by omega)
    rw [show 24 + 3 = 27 from rfl] at h h6
    rw [h] at h6 ⊢
    exact h6.ag (ka _ (by omega) (by omega)) (ka _ (by omega) (by omega))
  · show ∃ e, e < 10 ∧ gQ (sI S' 501 24 (nI 9)) 27 i = _
    rw [hg]
    split
    · exact h4 0 (by omega)
    · rw [if_pos (by omega)]; exact h4 (i + 1) (by omega)
  · show gQ (sI S' 501 24 (nI 9)) 27 i = gQ (sI S' 501 24 (nI 9)) 27 j → i = j
    rw [hg, hg]
    intro h
    by_cases ci : i = 9
    · rw [if_pos ci] at h
      by_cases cj : j = 9
      · omega
      · rw [if_neg cj, if_pos (by omega)] at h
        have := h5 0 (j + 1) (by omega) (by omega) h
        omega
    · rw [if_neg ci, if_pos (by omega)] at h
      by_cases cj : j = 9
      · rw [if_pos cj] at h
        have := h5 (i + 1) 0 (by omega) (by omega) h
        omega
      · rw [if_neg cj, if_pos (by omega)] at h
        have := h5 (i + 1) (j + 1) (by omega) (by omega) h
        omega
theorem c_rememberL {N : Nat} {S : PSt} {m : Mom} {ps : List Mom} (hN : 5 ≤ N) (hl : ps.length ≤ 9) (h : CRvoy S m ps) : ∃ S', P_X5_remember_L13 N S 24 = some S' ∧ CRvoy S' m (ps ++ [m]) ∧ (∀ a, (a < 24 ∨ 47 < a) → ag S S' a) := by
  obtain ⟨⟨h1, h2, h3⟩, h4, h5⟩ := h
  obtain ⟨e, he, hg⟩ := h4 ps.length (by omega)
  have hkv : kd 24 = 5 := rfl
  refine ⟨sI (cpS S (24 + 4 + 2 * e) m) 501 24 (nI (ps.length + 1)), ?_, ⟨⟨?_, ?_, fun i hi => ?_⟩, h4, h5⟩, fun a ha => (ag_cpS (by omega) (by omega)).trans (ag_sI (by omega))⟩
  · unfold P_X5_remember_L13
    rw [h2, bin_nI (by omega), lv3 hkv, gd_dec (by omega), bnd_eq, nI_clamp (by omega), hg, isk_of (kv4 hkv he), gd_true, c_copy hN (kv4 hkv he) (kv1 hkv) (by omega) h1, cal1_s]
    have e2 : gI (cpS S (24 + 4 + 2 * e) m) 501 24 = nI ps.length := by
      rw [(ag_cpS (S := S) (a := 24 + 4 + 2 * e) (b := 24) (m := m) (by omega) (by omega)).1]; exact h2
    rw [e2, li1, nI_add, bnd_eq]
  · exact h1.ag ((ag_cpS (by omega) (by omega)).trans (ag_sI (by omega))) ((ag_cpS (by omega) (by omega)).trans (ag_sI (by omega)))
  · rw [gI_sI, if_pos ⟨rfl, rfl⟩]; simp
  · have hi' : i < ps.length + 1 := by simpa using hi
    rw [getD_appP hi']
    show CRm _ (gQ S (24 + 3) i) _
    by_cases c : i = ps.length
    · rw [if_pos c, c, hg]
      exact cpS_at.ag (ag_sI (by omega)) (ag_sI (by omega))
    · rw [if_neg c]
      obtain ⟨e2, he2, hg2⟩ := h4 i (by omega)
      have ne : e2 ≠ e := by
        intro q
        subst q
        exact c (h5 i ps.length (by omega) (by omega) (hg2.trans hg.symm))
      have h6 := h3 i (by omega)
      rw [hg2] at h6 ⊢
      exact h6.ag ((ag_cpS (by omega) (by omega)).trans (ag_sI (by omega))) ((ag_cpS (by omega) (by omega)).trans (ag_sI (by omega)))
theorem c_remember {N : Nat} {S : PSt} {m : Mom} {ps : List Mom} (hN : 20 ≤ N) (hl : ps.length ≤ 10) (h : CRvoy S m ps) : ∃ S', P_X5_remember N S 24 = some S' ∧ CRvoy S' m (rem ps m) ∧ (∀ a, (a < 24 ∨ 47 < a) → ag S S' a) := by
  unfold P_X5_remember rem
  have h2 := h.1.2.1
  rw [h2, li10]
  by_cases c : ps.length = 10
  · rw [if_neg (nI_nlt (by omega) (by omega)), if_pos c]
    obtain ⟨S1, e1, hr⟩ := c_loseOldest (v := 24) hN rfl h.2
    rw [e1, cal1_s]
    have hv := rowQ_voy c h hr (fun j => rfl)
    obtain ⟨S2, e2, h3, h4⟩ := c_rememberL (N := N) (by omega) (by simp [c]) hv
    exact ⟨S2, e2, h3, fun a ha => ((rowQ_ag hr (by omega)).trans (ag_sI (by omega))).trans (h4 a ha)⟩
  · rw [if_pos (nI_lt (by omega) (by omega)), if_neg c]
    exact c_rememberL (by omega) (by omega) h
theorem c_takeBack {N k : Nat} {S : PSt} {m : Mom} {ps : List Mom} (hN : 5 ≤ N) (hl : ps.length ≤ 10) (hk : ps.length = k + 1) (h : CRvoy S m ps) : ∃ S', P_X5_takeBack N S 24 = some S' ∧ CRvoy S' (ps.getD k m0) (ps.take k) ∧ (∀ a, (a < 24 ∨ 47 < a) → ag S S' a) := by
  obtain ⟨⟨h1, h2, h3⟩, h4, h5⟩ := h
  obtain ⟨e, he, hg⟩ := h4 k (by omega)
  have hkv : kd 24 = 5 := rfl
  have h6 := h3 k (by omega)
  rw [hg] at h6
  have h7 : CRm (sI S 501 24 (nI k)) (24 + 4 + 2 * e) (ps.getD k m0) := h6.ag (ag_sI (by omega)) (ag_sI (by omega))
  refine ⟨cpS (sI S 501 24 (nI k)) (24 + 1) (ps.getD k m0), ?_, ⟨⟨cpS_at, ?_, fun i hi => ?_⟩, h4, h5⟩, fun a ha => (ag_sI (by omega)).trans (ag_cpS (by omega) (by omega))⟩
  · unfold P_X5_takeBack
    have e3 : gI (sI S 501 24 (nI k)) 501 24 = nI k := by rw [gI_sI, if_pos ⟨rfl, rfl⟩]
    have e4 : gQ (sI S 501 24 (nI k)) (24 + 3) k = 24 + 4 + 2 * e := hg
    rw [h2, hk, li0, li1, if_neg (nI_ge (by omega) (by omega)), pk_sub (by omega), Nat.add_sub_cancel, bnd_eq, e3, bin_nI (by omega), lv3 hkv, gd_dec (by omega), bnd_eq, nI_clamp (by omega), e4, isk_of (kv4 hkv he), gd_true, c_copy hN (kv1 hkv) (kv4 hkv he) (by omega) h7, cal1_s]
  · rw [(ag_cpS (S := sI S 501 24 (nI k)) (a := 24 + 1) (b := 24) (m := ps.getD k m0) (by omega) (by omega)).1, gI_sI, if_pos ⟨rfl, rfl⟩]
    congr 1
    simp; omega
  · have hi' : i < k := by
      have := hi
      simp at this
      omega
    have e2 : (ps.take k).getD i m0 = ps.getD i m0 := by
      rw [List.getD_eq_getElem?_getD, List.getD_eq_getElem?_getD, List.getElem?_take, if_pos hi']
    rw [e2]
    show CRm _ (gQ S (24 + 3) i) _
    obtain ⟨e2, he2, hg2⟩ := h4 i (by omega)
    have h6 := h3 i (by omega)
    rw [hg2] at h6 ⊢
    exact h6.ag ((ag_sI (by omega)).trans (ag_cpS (by omega) (by omega))) ((ag_sI (by omega)).trans (ag_cpS (by omega) (by omega)))
end
