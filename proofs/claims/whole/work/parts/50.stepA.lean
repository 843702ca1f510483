/-! STAGE 2, the calls, one by one: class and reference answer alike, and stay in one state -/
def Inv (S : PSt) : Prop := ∃ q, SOK q ∧ CR S q ∧ MR S q
theorem l2 : ln 2 = 200 := rfl
/-- a step's end out of its two halves -/
theorem inv_of {S1 S2 : PSt} (q' : Sig) (ok' : SOK q') (hc : CR S1 q') (hm : MR S2 q') (hC : eqC S1 S2) : Inv S2 := ⟨q', ok', hc.eqC ok' hC, hm⟩
def setX (q : Sig) (tx : List Nat) : Sig := (q.1, q.2.1, q.2.2.1, q.2.2.2.1, q.2.2.2.2.1, tx, q.2.2.2.2.2.2)
theorem getD_app {l : List Nat} {k i d : Nat} (hi : i < l.length + 1) : (l ++ [k]).getD i d = if i = l.length then k else l.getD i d := by
  rw [List.getD_eq_getElem?_getD, List.getD_eq_getElem?_getD, List.getElem?_append]
  by_cases c : i = l.length
  · subst c; simp
  · rw [if_pos (by omega), if_neg c]
theorem step_type {N : Nat} {S : PSt} (x : Int32) (h : Inv S) : ∃ r S1 S2, P_X6_type N S x = some (r, S1) ∧ P_X7_type N S1 x = some (r, S2) ∧ Inv S2 := by
  obtain ⟨q, ok, hc, hm⟩ := h
  have ok0 := ok
  obtain ⟨o1, o2, o3, o4, o5, o6, o7, o8, o9⟩ := ok
  rcases inR x 0 255 (by omega) (by omega) with ⟨k, -, hk, rfl⟩ | c
  · by_cases hl : (qx q).length = 200
    · refine ⟨-3, S, S, ?_, ?_, q, ok0, hc, hm⟩
      · unfold P_X6_type
        rw [hc.2.2.2.2.2.2.1.1, hl, li0, li255, li200, if_neg (nI_nlt (by omega) (by omega)), if_pos (nI_le hk (by omega)), if_neg (by decide)]
      · unfold P_X7_type
        rw [li0, li255, m_in1 (by omega) hk (by omega), cal2_s, if_neg n1_0, hm.2.2.2.2.2.2.2.2.2.1, hl, li200, if_pos rfl]
    · have hlt : (qx q).length < 200 := by omega
      have e1 : P_X6_type N S (nI k) = some (nI ((qx q).length + 1), sI (sA S 2 (qx q).length (nI k)) 200 1 (nI ((qx q).length + 1))) := by
        unfold P_X6_type
        rw [hc.2.2.2.2.2.2.1.1, li0, li255, li200, if_neg (nI_nlt (by omega) (by omega)), if_pos (nI_le hk (by omega)), if_pos (nI_lt hlt (by omega))]
        simp (disch := omega) only [bin_nI, nI_clamp, l2]
        rw [decide_eq_true hlt, gd_true, bnd_eq, bnd_eq]
        have e : gI (sA S 2 (qx q).length (nI k)) 200 1 = nI (qx q).length := hc.2.2.2.2.2.2.1.1
        rw [e, li1, nI_add, gI_sI, if_pos ⟨rfl, rfl⟩]
      have kM : eqM S (sI (sA S 2 (qx q).length (nI k)) 200 1 (nI ((qx q).length + 1))) := (eqM_sA (by omega)).trans (eqM_sI (by omega))
      have hm1 := hm.eqM kM
      generalize hS1 : sI (sA S 2 (qx q).length (nI k)) 200 1 (nI ((qx q).length + 1)) = S1 at e1 kM hm1
      have ka : ∀ a, a ≠ 1 → a ≠ 2 → ag S S1 a := fun a h1 h2 => by rw [← hS1]; exact (ag_sA h2).trans (ag_sI h1)
      have e2 : P_X7_type N S1 (nI k) = some (nI ((qx q).length + 1), sI (sA S1 166 (qx q).length (nI k)) 715 158 (nI ((qx q).length + 1))) := by
        unfold P_X7_type
        rw [li0, li255, m_in1 (by omega) hk (by omega), cal2_s, if_neg n1_0, hm1.2.2.2.2.2.2.2.2.2.1, li200, if_neg (by rw [nI_eq (by omega) (by omega)]; omega)]
        simp (disch := omega) only [bin_nI, nI_clamp, l166]
        rw [decide_eq_true hlt, gd_true, bnd_eq, bnd_eq]
        have e : gI (sA S1 166 (qx q).length (nI k)) 715 158 = nI (qx q).length := hm1.2.2.2.2.2.2.2.2.2.1
        rw [e, li1, nI_add, gI_sI, if_pos ⟨rfl, rfl⟩]
      have hlen : (qx q ++ [k]).length = (qx q).length + 1 := by simp
      refine ⟨_, _, _, e1, e2, inv_of (S1 := S1) (setX q (qx q ++ [k])) ⟨o1, o2, o3, o4, o5, o6, o7, by show (qx q ++ [k]).length ≤ 200; omega, fun i hi => ?_⟩ ?_ ?_ ?_⟩
      · show (qx q ++ [k]).getD i 0 ≤ 255
        have hi : i < (qx q ++ [k]).length := hi
        rw [getD_app (by omega)]
        split
        · exact hk
        · exact o9 i (by omega)
      · obtain ⟨c1, c2, c3, c4, c5, c6, c7, c8⟩ := hc
        refine ⟨c1.ag (fun f => (ka 0 (by omega) (by omega)).2.2.1 f) (fun a _ _ => ka a (by omega) (by omega)), c2.ag o3 (fun a _ _ => ka a (by omega) (by omega)), c3.ag (fun j r hr => (o5 j r hr).2.1) (fun a _ _ => ka a (by omega) (by omega)), c4.ag (fun i _ => ka _ (by omega) (by omega)), c5.ag (fun i _ => ka _ (by omega) (by omega)), c6.ag (fun a _ _ => ka a (by omega) (by omega)), ⟨?_, fun i hi => ?_⟩, ((ka 0 (by omega) (by omega)).2.1 _).trans c8⟩
        · show gI S1 200 1 = nI (qx q ++ [k]).length
          rw [hlen, ← hS1, gI_sI, if_pos ⟨rfl, rfl⟩]
        · show gA S1 2 i = nI ((qx q ++ [k]).getD i 0)
          have hi : i < (qx q ++ [k]).length := hi
          rw [getD_app (by omega), ← hS1, gA_sI, gA_sA, if_pos rfl]
          unfold upd
          split
          · rfl
          · exact c7.2 i (by omega)
      · obtain ⟨b1, b2, b3, b4, b5, b6, b7, b8, b9, b10, b11, b12⟩ := hm1
        refine ⟨b1, b2, b3, b4, b5, b6, b7, b8, b9, ?_, fun i hi => ?_, b12⟩
        · show gI _ 715 158 = nI (qx q ++ [k]).length
          rw [hlen, gI_sI, if_pos ⟨rfl, rfl⟩]
        · show gA _ 166 i = nI ((qx q ++ [k]).getD i 0)
          have hi : i < (qx q ++ [k]).length := hi
          rw [getD_app (by omega), gA_sI, gA_sA, if_pos rfl]
          unfold upd
          split
          · rfl
          · exact b11 i (by omega)
      · exact (eqC_sA (by omega)).trans (eqC_sI (by omega))
  · refine ⟨-1, S, S, ?_, ?_, q, ok0, hc, hm⟩
    · unfold P_X6_type
      rw [li0, li255]
      rcases c with c | ⟨c, d⟩
      · rw [if_pos c]
      · rw [if_neg c, if_neg (by rw [Int32.not_le]; exact d)]
    · unfold P_X7_type
      rw [li0, li255, m_in0 (by rcases c with c | ⟨c, d⟩; exact Or.inl c; exact Or.inr d), cal2_s, if_pos rfl]
theorem step_clear {N : Nat} {S : PSt} (h : Inv S) : ∃ r S1 S2, P_X6_clear N S = some (r, S1) ∧ P_X7_clear N S1 = some (r, S2) ∧ Inv S2 := by
  obtain ⟨q, ok, hc, hm⟩ := h
  obtain ⟨o1, o2, o3, o4, o5, o6, o7, o8, o9⟩ := ok
  have kM : eqM S (sI S 200 1 (nI 0)) := eqM_sI (by omega)
  have hm1 := hm.eqM kM
  have ka : ∀ a, a ≠ 1 → ag S (sI S 200 1 (nI 0)) a := fun a h1 => ag_sI h1
  refine ⟨nI (qx q).length, sI S 200 1 (nI 0), sI (sI S 200 1 (nI 0)) 715 158 (nI 0), ?_, ?_, inv_of (S1 := sI S 200 1 (nI 0)) (setX q []) ⟨o1, o2, o3, o4, o5, o6, o7, Nat.zero_le _, fun i hi => absurd hi (Nat.not_lt_zero i)⟩ ?_ ?_ (eqC_sI (by omega))⟩
  · unfold P_X6_clear
    rw [bnd_eq, bnd_eq, hc.2.2.2.2.2.2.1.1, li0]
  · unfold P_X7_clear
    rw [bnd_eq, bnd_eq, hm1.2.2.2.2.2.2.2.2.2.1, li0]
  · obtain ⟨c1, c2, c3, c4, c5, c6, c7, c8⟩ := hc
    exact ⟨c1.ag (fun f => (ka 0 (by omega)).2.2.1 f) (fun a _ _ => ka a (by omega)), c2.ag o3 (fun a _ _ => ka a (by omega)), c3.ag (fun j r hr => (o5 j r hr).2.1) (fun a _ _ => ka a (by omega)), c4.ag (fun i _ => ka _ (by omega)), c5.ag (fun i _ => ka _ (by omega)), c6.ag (fun a _ _ => ka a (by omega)), ⟨rfl, fun i hi => absurd hi (Nat.not_lt_zero i)⟩, ((ka 0 (by omega)).2.1 _).trans c8⟩
  · obtain ⟨b1, b2, b3, b4, b5, b6, b7, b8, b9, b10, b11, b12⟩ := hm1
    exact ⟨b1, b2, b3, b4, b5, b6, b7, b8, b9, rfl, fun i hi => absurd hi (Nat.not_lt_zero i), b12⟩
theorem step_trace {N : Nat} {S : PSt} (h : Inv S) : ∃ r S1 S2, P_X6_trace N S = some (r, S1) ∧ P_X7_trace N S1 = some (r, S2) ∧ Inv S2 := by
  obtain ⟨q, ok, hc, hm⟩ := h
  refine ⟨qj q, S, S, ?_, ?_, q, ok, hc, hm⟩
  · unfold P_X6_trace; rw [hc.2.2.2.2.2.2.2]
  · unfold P_X7_trace; rw [hm.2.2.2.2.2.2.2.2.2.2.2]
theorem kd4 : kd 4 = 4 := rfl
theorem kd14 : kd 14 = 4 := rfl
theorem isk4 {r d : Nat} (h : r = 4 ∧ d = 14 ∨ r = 14 ∧ d = 4) : isk r 4 = true ∧ isk d 4 = true ∧ kd r = 4 ∧ kd d = 4 := by
  rcases h with ⟨rfl, rfl⟩ | ⟨rfl, rfl⟩ <;> exact ⟨rfl, rfl, rfl, rfl⟩
theorem step_count {N : Nat} {S : PSt} (x : Int32) (h : Inv S) : ∃ r S1 S2, P_X6_count N S x = some (r, S1) ∧ P_X7_count N S1 x = some (r, S2) ∧ Inv S2 := by
  obtain ⟨q, ok, hc, hm⟩ := h
  obtain ⟨r, d, hrd, hr, hd, hT, hp, -, -⟩ := hc.1
  have hk := (isk4 hrd).1
  unfold P_X6_count P_X7_count
  simp only [bnd_eq, hr, hk, gd_true]
  rw [hT.1, hT.2.1, hT.2.2.1, hT.2.2.2.1, hc.2.2.2.2.2.1.1, hc.2.1.1.2.1, hc.2.2.2.2.2.2.1.1]
  by_cases c0 : x = 0
  · subst c0; exact ⟨_, S, S, by rw [if_pos rfl], by rw [if_pos rfl, hm.1.1], q, ok, hc, hm⟩
  · simp only [if_neg c0]
    by_cases c1 : x = 1
    · subst c1; exact ⟨_, S, S, by rw [if_pos rfl], by rw [if_pos rfl, hm.1.2.1], q, ok, hc, hm⟩
    · simp only [if_neg c1]
      by_cases c2 : x = 2
      · subst c2; exact ⟨_, S, S, by rw [if_pos rfl], by rw [if_pos rfl, hm.1.2.2.1], q, ok, hc, hm⟩
      · simp only [if_neg c2]
        by_cases c3 : x = 3
        · subst c3; exact ⟨_, S, S, by rw [if_pos rfl], by rw [if_pos rfl, hm.1.2.2.2.1], q, ok, hc, hm⟩
        · simp only [if_neg c3]
          by_cases c4 : x = 4
          · subst c4; exact ⟨_, S, S, by rw [if_pos rfl], by rw [if_pos rfl, hm.2.2.2.2.2.2.1], q, ok, hc, hm⟩
          · simp only [if_neg c4]
            by_cases c5 : x = 5
            · subst c5; exact ⟨_, S, S, by rw [if_pos rfl], by rw [if_pos rfl, hm.2.2.1], q, ok, hc, hm⟩
            · simp only [if_neg c5]
              by_cases c6 : x = 6
              · subst c6; exact ⟨_, S, S, by rw [if_pos rfl], by rw [if_pos rfl, hm.2.2.2.2.2.2.2.2.2.1], q, ok, hc, hm⟩
              · simp only [if_neg c6]
                exact ⟨_, S, S, rfl, rfl, q, ok, hc, hm⟩
