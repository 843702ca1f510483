/-! STAGE 2, the reference's moves: becomes, undo -/
theorem mvM_sA {S : PSt} {i : Nat} {v : Int32} : mvM S (sA S 161 i v) := ⟨fun _ _ => rfl, fun _ => rfl, fun b h1 _ _ _ _ => by rw [gA_sA, if_neg h1], eqC_sA (by omega)⟩
theorem mvM.refl (S : PSt) : mvM S S := ⟨fun _ _ => rfl, fun _ => rfl, fun _ _ _ _ _ _ => rfl, eqC.refl S⟩
theorem m_becomes {N : Nat} {S : PSt} {m : Mom} {ps : List Mom} {g more : Nat} {o : Option Nat} {U : Nat → Nat} (hN : 100 ≤ N) (hl : ps.length ≤ 10) (hn : MRn S m) (hp : MRpast S ps) (hU : ∀ w, w < 4 → gA S 170 (4 + w) = nI (U w)) : ∃ S', P_X7_becomes N S (nI g) (pI o) (nI more) = some S' ∧ MRn S' (g, m.2.1 + more, o, U) ∧ MRpast S' (rem ps m) ∧ gA S' 171 = gA S 171 ∧ mvM S S' := by
  obtain ⟨S1, e1, p1, a1, a2, a3, a4, v1⟩ := m_remembers hN hl hn hp
  have step : ∀ (k : Nat) (S : PSt) (w : Nat), w < 4 → gA S 170 (4 + w) = nI (U w) → P_X7_becomes_L31 N (k + 1) S (nI w) = P_X7_becomes_L31 N k (sA S 161 (3 + w) (nI (U w))) (nI (w + 1)) := by
    intro k S w hw hT
    rw [P_X7_becomes_L31]
    dsimp only
    rw [li4, if_neg (nI_ge (by omega) (by omega)), li3, li1, nI_add, nI_add, bin_nI (by omega), nI_clamp (by omega), l170, decide_eq_true (by omega), gd_true, bin_nI (by omega), nI_clamp (by omega), l161, decide_eq_true (by omega), gd_true, bnd_eq, hT, bnd_eq, nI_add]
  obtain ⟨f, hf⟩ : ∃ f, N = f + 5 := ⟨N - 5, by omega⟩
  have k0 : ∀ w, w < 4 → gA S1 170 (4 + w) = nI (U w) := fun w hw => by rw [a2]; exact hU w hw
  have e9 : gA (sA S1 161 0 (nI g)) 161 1 = nI m.2.1 := by
    have : gA S1 161 1 = nI m.2.1 := by rw [a1]; exact hn.2.1
    exact this
  refine ⟨sA (sA (sA (sA (sA (sA (sA S1 161 0 (nI g)) 161 1 (nI (m.2.1 + more))) 161 2 (pI o)) 161 3 (nI (U 0))) 161 4 (nI (U 1))) 161 5 (nI (U 2))) 161 6 (nI (U 3)), ?_, ?_, ?_, ?_, ?_⟩
  rotate_left
  · refine ⟨rfl, rfl, rfl, fun w hw => ?_⟩
    rcases (show w = 0 ∨ w = 1 ∨ w = 2 ∨ w = 3 by omega) with q | q | q | q <;> subst q <;> rfl
  · exact p1
  · exact a3
  · exact v1.trans ((((mvM_sA.trans mvM_sA).trans (mvM_sA.trans mvM_sA)).trans (mvM_sA.trans mvM_sA)).trans mvM_sA)
  · unfold P_X7_becomes
    rw [e1, cal1_s, li0, li1, li2, nI_clamp (by omega), nI_clamp (by omega), nI_clamp (by omega), bnd_eq, bnd_eq, e9, nI_add, bnd_eq]
    rw [show ∀ T x, P_X7_becomes_L31 N N T x = P_X7_becomes_L31 N (f + 5) T x from fun T x => by rw [← hf]]
    rw [step _ _ 0 (by omega) (by exact k0 0 (by omega)), step _ _ 1 (by omega) (by exact k0 1 (by omega)), step _ _ 2 (by omega) (by exact k0 2 (by omega)), step _ _ 3 (by omega) (by exact k0 3 (by omega)), P_X7_becomes_L31]
    dsimp only
    rw [li4, if_pos (nI_le (by omega) (by omega))]
theorem m_undo {N : Nat} {S : PSt} {ps : List Mom} {k : Nat} (hN : 10 ≤ N) (hl : ps.length ≤ 10) (hk : ps.length = k + 1) (hp : MRpast S ps) : ∃ S', P_X7_undo N S = some (nI k, S') ∧ MRn S' (ps.getD k m0) ∧ MRpast S' (ps.take k) ∧ mvM S S' := by
  obtain ⟨h1, h2⟩ := hp
  have hm := h2 k (by omega)
  generalize ps.getD k m0 = m at hm ⊢
  obtain ⟨c0, c1, c2, c3⟩ := hm
  have step : ∀ (n : Nat) (T : PSt) (i : Nat) (z : Int32), i < 7 → gI T 708 158 = nI k → gA T 162 (7 * k + i) = z → P_X7_undo_L22 N (n + 1) T (nI i) = P_X7_undo_L22 N n (sA T 161 i z) (nI (i + 1)) := by
    intro n T i z hi hg hz
    rw [P_X7_undo_L22]
    dsimp only
    rw [li7, if_neg (nI_ge hi (by omega)), hg, pk_mul, nI_add, bin_nI (by omega), nI_clamp (by omega), l162, decide_eq_true (by omega), gd_true, bin_nI (by omega), nI_clamp (by omega), l161, decide_eq_true (by omega), gd_true, bnd_eq, hz, li1, nI_add, bnd_eq]
  obtain ⟨f, hf⟩ : ∃ f, N = f + 8 := ⟨N - 8, by omega⟩
  refine ⟨sA (sA (sA (sA (sA (sA (sA (sI S 708 158 (nI k)) 161 0 (nI m.1)) 161 1 (nI m.2.1)) 161 2 (pI m.2.2.1)) 161 3 (nI (m.2.2.2 0))) 161 4 (nI (m.2.2.2 1))) 161 5 (nI (m.2.2.2 2))) 161 6 (nI (m.2.2.2 3)), ?_, ?_, ?_, ?_⟩
  rotate_left
  · refine ⟨rfl, rfl, rfl, fun w hw => ?_⟩
    rcases (show w = 0 ∨ w = 1 ∨ w = 2 ∨ w = 3 by omega) with q | q | q | q <;> subst q <;> rfl
  · have e : (ps.take k).length = k := by simp; omega
    refine ⟨?_, fun i hi => ?_⟩
    · rw [e]; rfl
    · rw [e] at hi
      have e2 : (ps.take k).getD i m0 = ps.getD i m0 := by
        rw [List.getD_eq_getElem?_getD, List.getD_eq_getElem?_getD, List.getElem?_take, if_pos hi]
      rw [e2]
      exact h2 i (by omega)
  · exact mvM_sI.trans ((((mvM_sA.trans mvM_sA).trans (mvM_sA.trans mvM_sA)).trans (mvM_sA.trans mvM_sA)).trans mvM_sA)
  · unfold P_X7_undo
    rw [h1, hk, li0, if_neg (by rw [nI_eq (by omega) (by omega)]; omega), li1, pk_sub (by omega), Nat.add_sub_cancel, bnd_eq]
    rw [show ∀ T x, P_X7_undo_L22 N N T x = P_X7_undo_L22 N (f + 8) T x from fun T x => by rw [← hf]]
    rw [step _ _ 0 (nI m.1) (by omega) (by rfl) (by exact c0), step _ _ 1 (nI m.2.1) (by omega) (by rfl) (by exact c1), step _ _ 2 (pI m.2.2.1) (by omega) (by rfl) (by exact c2), step _ _ 3 (nI (m.2.2.2 0)) (by omega) (by rfl) (by exact c3 0 (by omega)), step _ _ 4 (nI (m.2.2.2 1)) (by omega) (by rfl) (by exact c3 1 (by omega)), step _ _ 5 (nI (m.2.2.2 2)) (by omega) (by rfl) (by exact c3 2 (by omega)), step _ _ 6 (nI (m.2.2.2 3)) (by omega) (by rfl) (by exact c3 3 (by omega)), P_X7_undo_L22]
    dsimp only
    rw [li7, if_pos (nI_le (by omega) (by omega))]
    rfl
