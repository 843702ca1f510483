section
/-! STAGE 2, calls: walks, backs, rests, undo -/
def mvS (S : PSt) : PSt := sI (sI S 100 120 0) 100 138 0
theorem c_moved {N : Nat} {S : PSt} : P_X6_moved N S = some (mvS S) := rfl
theorem ag_mvS {S : PSt} {a : Nat} (h1 : a ≠ 120) (h2 : a ≠ 138) : ag S (mvS S) a := (ag_sI h1).trans (ag_sI h2)
theorem eqM_mvS {S : PSt} : eqM S (mvS S) := (eqM_sI (by omega)).trans (eqM_sI (by omega))
theorem CRplan_stale {S S1 : PSt} {a : Nat} {fz : Bool} {t t' : Tau} {m m' : Mom} (h : CRplan S a fz t m) (k1 : gI S1 103 a = gI S 103 a) (k2 : gQ S1 (a + 3) = gQ S (a + 3)) (k3 : gI S1 100 a = 0) : CRplan S1 a fz t' m' := by
  obtain ⟨h1, h2, -⟩ := h
  exact ⟨k1.trans h1, by rw [k2]; exact h2, Or.inl k3⟩
theorem CR_move {S S1 : PSt} {q : Sig} {m : Mom} {ps : List Mom} (ok : SOK q) (hc : CR S q) (ka : ∀ a, (a < 24 ∨ 47 < a) → ag S S1 a) (hv : CRvoy S1 m ps) (hl : ps.length ≤ 10) : CR (mvS S1) (setP q m ps) := by
  obtain ⟨c1, c2, c3, c4, c5, c6, c7, c8⟩ := hc
  have kb : ∀ a, (a < 24 ∨ 47 < a) → a ≠ 120 → a ≠ 138 → ag S (mvS S1) a := fun a h x y => (ka a h).trans (ag_mvS x y)
  refine ⟨c1.ag (fun f => (kb 0 (by omega) (by omega) (by omega)).2.2.1 f) (fun a _ _ => kb a (by omega) (by omega) (by omega)), hv.ag hl (fun a _ _ => ag_mvS (by omega) (by omega)), c3.ag (fun j r hr => (ok.2.2.2.2.1 j r hr).2.1) (fun a _ _ => kb a (by omega) (by omega) (by omega)), CRplan_stale c4 ?_ ?_ ?_, CRplan_stale c5 ?_ ?_ ?_, c6.ag (fun a _ _ => kb a (by omega) (by omega) (by omega)), c7.ag (kb _ (by omega) (by omega) (by omega)) (kb _ (by omega) (by omega) (by omega)), ((kb 0 (by omega) (by omega) (by omega)).2.1 _).trans c8⟩
  · exact (ka 120 (by omega)).1 103
  · exact (kb 123 (by omega) (by omega) (by omega)).2.2.2.2
  · rfl
  · exact (ka 138 (by omega)).1 103
  · exact (kb 141 (by omega) (by omega) (by omega)).2.2.2.2
  · rfl
theorem eqM_move {S S1 : PSt} (ka : ∀ a, (a < 24 ∨ 47 < a) → ag S S1 a) : eqM S (mvS S1) := (eqM.ofag (fun a ha => ka a (by omega))).trans eqM_mvS
theorem SOK_move {q : Sig} {m : Mom} {ps : List Mom} (ok : SOK q) (hm : MOK (qt q) m) (hl : ps.length ≤ 10) (hp : ∀ i, i < ps.length → MOK (qt q) (ps.getD i m0)) : SOK (setP q m ps) := by
  obtain ⟨o1, o2, o3, o4, o5, o6, o7, o8, o9⟩ := ok
  exact ⟨o1, hm, hl, hp, o5, o6, o7, o8, o9⟩
theorem rem_ok {t : Tau} {m : Mom} {ps : List Mom} (hl : ps.length ≤ 10) (hm : MOK t m) (hp : ∀ i, i < ps.length → MOK t (ps.getD i m0)) : ∀ i, i < (rem ps m).length → MOK t ((rem ps m).getD i m0) := by
  have key : ∀ qs : List Mom, (∀ i, i < qs.length → MOK t (qs.getD i m0)) → ∀ i, i < (qs ++ [m]).length → MOK t ((qs ++ [m]).getD i m0) := by
    intro qs hq i hi
    have hi' : i < qs.length + 1 := by simpa using hi
    rw [getD_appP hi']
    split
    · exact hm
    · exact hq i (by omega)
  unfold rem
  split
  · rename_i c
    apply key
    intro i hi
    have e : (ps.drop 1).getD i m0 = ps.getD (i + 1) m0 := by
      rw [List.getD_eq_getElem?_getD, List.getD_eq_getElem?_getD, List.getElem?_drop, Nat.add_comm]
    rw [e]
    exact hp (i + 1) (by have := hi; simp at this; omega)
  · exact key ps hp
/-- the end of a move: the two halves -/
theorem ng1 : (-nI 1 : Int32) = -1 := by decide
theorem move_end {S S1 S3 : PSt} {q : Sig} {m : Mom} {ps : List Mom} (ok : SOK q) (hc : CR S q) (hm : MR S q) (ka : ∀ a, (a < 24 ∨ 47 < a) → ag S S1 a) (hv : CRvoy S1 m ps) (hmo : MOK (qt q) m) (hl : ps.length ≤ 10) (hp : ∀ i, i < ps.length → MOK (qt q) (ps.getD i m0)) (hn : MRn S3 m) (hpp : MRpast S3 ps) (v : mvM (mvS S1) S3) : Inv S3 := by
  have hm1 := (hm.eqM (eqM_move ka)).split.1
  exact inv_of (S1 := mvS S1) (setP q m ps) (SOK_move ok hmo hl hp) (CR_move ok hc ka hv hl) (MR.join (hm1.keep v.1 v.2.1 v.2.2.1) hn hpp) v.2.2.2
theorem MRn_eq {S S' : PSt} {m : Mom} (h : MRn S m) (k : gA S' 161 = gA S 161) : MRn S' m := by
  unfold MRn
  rw [k]
  exact h
theorem MRpast_eq {S S' : PSt} {ps : List Mom} (h : MRpast S ps) (k : gA S' 162 = gA S 162) (k2 : gI S' 708 158 = gI S 708 158) : MRpast S' ps := ⟨k2.trans h.1, fun i hi => (h.2 i hi).eqM k⟩
theorem step_undo {N : Nat} {S : PSt} (hN : 100 ≤ N) (h : Inv S) : ∃ r S1 S2, P_X6_undo N S = some (r, S1) ∧ P_X7_undo N S1 = some (r, S2) ∧ Inv S2 := by
  obtain ⟨q, ok, hc, hm⟩ := h
  have ol := ok.2.2.1
  have hk := hc.2.1.1.2.1
  by_cases c : (qp q).length = 0
  · refine ⟨-2, S, S, ?_, ?_, q, ok, hc, hm⟩
    · unfold P_X6_undo
      rw [hk, c, li1, if_neg (by decide)]
    · unfold P_X7_undo
      rw [hm.2.2.1, c, li0, if_pos rfl]
  · obtain ⟨k, hl⟩ : ∃ k, (qp q).length = k + 1 := ⟨(qp q).length - 1, by omega⟩
    obtain ⟨S1, e1, hv, ka⟩ := c_takeBack (N := N) (by omega) ol hl hc.2.1
    have hm1 := hm.eqM (eqM_move ka)
    obtain ⟨S3, e3, n3, p3, v3⟩ := m_undo (N := N) (S := mvS S1) (by omega) ol hl hm1.split.2.2
    have et : ((qp q).take k).length = k := by simp; omega
    refine ⟨nI k, mvS S1, S3, ?_, e3, move_end ok hc hm ka hv (ok.2.2.2.1 k (by omega)) (by omega) (fun i hi => ?_) n3 p3 v3⟩
    · unfold P_X6_undo
      rw [hk, hl, li1, if_pos (nI_le (by omega) (by omega)), e1, cal1_s, c_moved, cal1_s]
      have e : gI (mvS S1) 501 24 = nI ((qp q).take k).length := ((ag_mvS (S := S1) (a := 24) (by omega) (by omega)).1 501).trans hv.1.2.1
      rw [e, et]
    · have e2 : ((qp q).take k).getD i m0 = (qp q).getD i m0 := by
        rw [List.getD_eq_getElem?_getD, List.getD_eq_getElem?_getD, List.getElem?_take, if_pos (by omega)]
      rw [e2]
      exact ok.2.2.2.1 i (by omega)
theorem step_rests {N : Nat} {S : PSt} (hN : 100 ≤ N) (x : Int32) (h : Inv S) : ∃ r S1 S2, P_X6_rests N S x = some (r, S1) ∧ P_X7_rests N S1 x = some (r, S2) ∧ Inv S2 := by
  obtain ⟨q, ok, hc, hm⟩ := h
  have ol := ok.2.2.1
  have om := ok.2.1
  have e25 : gI S 1 25 = nI (qm q).2.1 := hc.2.1.1.1.2.1
  rcases inR x 1 99 (by omega) (by omega) with ⟨n, hn1, hn2, rfl⟩ | c
  · have hb := om.2.1
    by_cases c : (qm q).2.1 + n ≤ 9999
    · obtain ⟨S1, e1, hv, ka⟩ := c_remember (N := N) (by omega) ol hc.2.1
      obtain ⟨⟨⟨v1, v2, v3, v4⟩, v5, v6⟩, v7⟩ := hv
      obtain ⟨m', hm'⟩ : ∃ m' : Mom, m' = ((qm q).1, (qm q).2.1 + n, (qm q).2.2.1, easeF n (qm q).2.2.2) := ⟨_, rfl⟩
      obtain ⟨S2, hS2⟩ : ∃ S2, S2 = putT (sI S1 1 25 (nI ((qm q).2.1 + n))) 26 (easeF n (qm q).2.2.2) := ⟨_, rfl⟩
      have k2 : ∀ a, a ≠ 25 → a ≠ 26 → ag S1 S2 a := fun a x y => by rw [hS2]; exact (ag_sI x).trans (ag_putT y)
      have ka2 : ∀ a, (a < 24 ∨ 47 < a) → ag S S2 a := fun a ha => (ka a ha).trans (k2 a (by omega) (by omega))
      have hv2 : CRvoy S2 m' (rem (qp q) (qm q)) := by
        refine ⟨⟨?_, ?_, fun i hi => ?_⟩, v7.ag (k2 _ (by omega) (by omega))⟩
        · rw [hS2, hm']
          refine ⟨v1, ?_, v3, fun w hw => putT_at hw⟩
          show gI (sI S1 1 25 (nI ((qm q).2.1 + n))) 1 25 = _
          rw [gI_sI, if_pos ⟨rfl, rfl⟩]
        · exact ((k2 24 (by omega) (by omega)).1 _).trans v5
        · have h6 := v6 i hi
          rw [(k2 (24 + 3) (by omega) (by omega)).2.2.2.2]
          obtain ⟨e, he, hg⟩ := v7.1 i (by have := rem_len (m := qm q) ol; omega)
          rw [hg] at h6 ⊢
          exact h6.ag (k2 _ (by omega) (by omega)) (k2 _ (by omega) (by omega))
      have hm1 := hm.eqM (eqM_move ka2)
      have hN5 : 5 ≤ N := by omega
      have hT := om.2.2.2.2.1
      have eC : P_X6_rests N S (nI n) = some (nI ((qm q).2.1 + n), mvS S2) := by
        unfold P_X6_rests
        rw [li1, li99, li9999, e25, nI_add, if_neg (nI_nlt hn1 (by omega)), if_pos (nI_le hn2 (by omega)), if_pos (nI_le c (by omega)), e1, cal1_s, v2, nI_add, bnd_eq, c_ease (S := sI S1 1 25 (nI ((qm q).2.1 + n))) (a := 25) (T := (qm q).2.2.2) hN5 (by rfl) v4 hT hn2, cal1_s, ← hS2, c_moved, cal1_s]
        have e : gI (mvS S2) 1 25 = nI ((qm q).2.1 + n) := by
          refine ((ag_mvS (S := S2) (a := 25) (by omega) (by omega)).1 1).trans ?_
          have := hv2.1.1.2.1
          rw [hm'] at this
          exact this
        rw [e]
      have hsc : scr (mvS S2) (put4 (fnS (mvS S2) (qm q)) 4 (easeF n (qm q).2.2.2)) := fnS_scr.trans scr_put4
      have h161 := hsc.2.2.2.2 161 (by omega) (by omega) (by omega)
      have h162 := hsc.2.2.2.2 162 (by omega) (by omega) (by omega)
      obtain ⟨S4, e4, n4, p4, -, w4⟩ := m_becomes (N := N) (g := (qm q).1) (more := n) (o := (qm q).2.2.1) (U := easeF n (qm q).2.2.2) hN ol (MRn_eq hm1.split.2.1 h161) (MRpast_eq hm1.split.2.2 h162 (hsc.1 _ _)) (fun w hw => put4_at hw)
      have eM : P_X7_rests N (mvS S2) (nI n) = some (nI ((qm q).2.1 + n), S4) := by
        unfold P_X7_rests
        have g0 : gA (mvS S2) 161 1 = nI (qm q).2.1 := hm1.2.1.2.1
        have g1 : gA (put4 (fnS (mvS S2) (qm q)) 4 (easeF n (qm q).2.2.2)) 161 0 = nI (qm q).1 := by rw [h161]; exact hm1.2.1.1
        have g2 : gA (put4 (fnS (mvS S2) (qm q)) 4 (easeF n (qm q).2.2.2)) 161 2 = pI (qm q).2.2.1 := by rw [h161]; exact hm1.2.1.2.2.1
        rw [li1, li99, m_in1 hn1 hn2 (by omega), cal2_s, li0, if_neg n1_0, nI_clamp (by omega), nI_clamp (by omega), li2, nI_clamp (by omega), g0, nI_add, li9999, if_pos (nI_le c (by omega)), m_fromNow hN5 hm1.2.1, cal1_s, ng1, m_tiresE hN5 (fnS_dep hT).2.2 (by omega) hn2, cal1_s, g1, g2, e4, cal1_s, n4.2.1]
      refine ⟨_, _, _, eC, eM, move_end ok hc hm ka2 hv2 ?_ (rem_len ol) (rem_ok ol om ok.2.2.2.1) ?_ p4 ((mvM_scr hsc).trans w4)⟩
      · rw [hm']
        refine ⟨om.1, c, om.2.2.1, om.2.2.2.1, fun w hw => ?_, fun w hw1 hw2 => ?_⟩
        · have := hT w hw
          show (qm q).2.2.2 w - n ≤ 99
          omega
        · have := om.2.2.2.2.2 w hw1 hw2
          show (qm q).2.2.2 w - n = 0
          omega
      · rw [hm']; exact n4
    · refine ⟨-2, S, S, ?_, ?_, q, ok, hc, hm⟩
      · unfold P_X6_rests
        rw [li1, li99, li9999, e25, nI_add, if_neg (nI_nlt hn1 (by omega)), if_pos (nI_le hn2 (by omega)), if_neg (nI_ge (by omega) (by omega))]
      · unfold P_X7_rests
        have g0 : gA S 161 1 = nI (qm q).2.1 := hm.2.1.2.1
        rw [li1, li99, m_in1 hn1 hn2 (by omega), cal2_s, li0, if_neg n1_0, nI_clamp (by omega), g0, nI_add, li9999, if_neg (nI_ge (by omega) (by omega))]
  · refine ⟨-1, S, S, ?_, ?_, q, ok, hc, hm⟩
    · unfold P_X6_rests
      rw [li1, li99]
      rcases c with c | ⟨c, d⟩
      · rw [if_pos c]
      · rw [if_neg c, if_neg (by rw [Int32.not_le]; exact d)]
    · unfold P_X7_rests
      rw [li1, li99, m_in0 (by rcases c with c | ⟨c, d⟩; exact Or.inl c; exact Or.inr d), cal2_s, li0, if_pos rfl]
end
