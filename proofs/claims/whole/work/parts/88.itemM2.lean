section
/-! STAGE 2, the text: the reference reads an item, and all of them -/
theorem m_mayI {N l : Nat} {S : PSt} {w : Dl} (hw : DOK w) (hD : MRd S w) (hl : l ≤ 255) : P_X7_readItem_L16 N S (nI l) = P_X7_readItem_L81 N S (nI l) (bI (may w l)) := by
  have o1 := hw.1.1
  have o2 := hw.1.2.1
  have o3 := hw.1.2.2.1
  have o5 := hw.1.2.2.2.2.1
  obtain ⟨h1, h2, h3, h4, -⟩ := hD
  unfold P_X7_readItem_L16 P_X7_readItem_L31 P_X7_readItem_L46 P_X7_readItem_L61 P_X7_readItem_L76 P_X7_readItem_L80 may
  rw [li119, li116, li99, li104, li0, li1, nI_clamp (by omega), nI_clamp (by omega), h1, h2, h3, h4, li4, li6]
  by_cases c1 : l = 119
  · rw [c1, if_pos rfl, if_pos rfl, if_neg (show ¬ nI 119 = nI 116 by decide), if_neg (show ¬ nI 119 = nI 99 by decide), if_neg (show ¬ nI 119 = nI 104 by decide)]
    by_cases c : tW w.1 < 4
    · rw [if_pos (nI_lt c (by omega)), decide_eq_true c]; rfl
    · rw [if_neg (nI_nlt (by omega) (by omega)), decide_eq_false c]; rfl
  · have c1' : ¬ nI l = nI 119 := by rw [nI_eq (by omega) (by omega)]; exact c1
    rw [if_neg c1', if_neg c1]
    by_cases c2 : l = 116
    · rw [c2, if_pos rfl, if_pos rfl, if_neg (show ¬ nI 116 = nI 99 by decide), if_neg (show ¬ nI 116 = nI 104 by decide)]
      by_cases c : tn w.1 < 6
      · rw [if_pos (nI_lt c (by omega)), decide_eq_true c]; rfl
      · rw [if_neg (nI_nlt (by omega) (by omega)), decide_eq_false c]; rfl
    · have c2' : ¬ nI l = nI 116 := by rw [nI_eq (by omega) (by omega)]; exact c2
      rw [if_neg c2', if_neg c2]
      by_cases c3 : l = 99
      · rw [c3, if_pos rfl, if_pos rfl, if_neg (show ¬ nI 99 = nI 104 by decide)]
        cases w.2.1 with
        | false => rw [if_neg (show ¬ false = true by decide), if_pos (by decide)]; rfl
        | true => rw [if_pos rfl, if_neg (nI_nlt (Nat.zero_le _) (by omega))]; rfl
      · have c3' : ¬ nI l = nI 99 := by rw [nI_eq (by omega) (by omega)]; exact c3
        rw [if_neg c3', if_neg c3]
        by_cases c4 : l = 104
        · rw [c4, if_pos rfl, if_pos rfl]
          cases w.2.2 with
          | false => rw [if_neg (show ¬ false = true by decide), if_neg (by decide)]; rfl
          | true => rw [if_pos rfl, if_pos (nI_le (Nat.zero_le _) (by omega))]; rfl
        · have c4' : ¬ nI l = nI 104 := by rw [nI_eq (by omega) (by omega)]; exact c4
          rw [if_neg c4', if_neg c4]; rfl
theorem bnds_99 : ∀ l, l = 119 ∨ l = 116 ∨ l = 99 ∨ l = 104 → ∀ j, j < (bnds l).length → ((bnds l).getD j (0, 0)).1 ≤ 99 ∧ ((bnds l).getD j (0, 0)).2 ≤ 99 := by
  rintro l (rfl | rfl | rfl | rfl) <;> decide
/-- the numbers of an item, and the draft behind them -/
theorem m_nums2 {N l pos : Nat} {S : PSt} {w : Dl} {tx : List Nat} (hN : 300 ≤ N) (hx : XOK tx) (hw : DOK w) (hm : may w l = true) (hD : MRd S w) (hp : pos ≤ tx.length) (ht : MRx S tx) (hk : TM S (tok tx pos)) (h0 : gI S 720 158 = nI 0) : ∃ T fl, (if nI l = nI 119 then (cal1 (P_X7_readWalker N S) fun S20 => P_X7_readItem_L156 N S20) else (if nI l = nI 116 then (cal1 (P_X7_readStretch N S) fun S18 => P_X7_readItem_L156 N S18) else (if nI l = nI 99 then (cal1 (P_X7_reads N S 169 (nI 0) (nI 0) (nI 9)) fun S16 => P_X7_readItem_L156 N S16) else (cal1 (P_X7_reads N S 169 (nI 1) (nI 10) (nI 99)) fun S14 => P_X7_readItem_L156 N S14)))) = P_X7_readItem_L156 N T ∧ qF S T ∧ gI T 720 158 = nI fl ∧ fl ≤ 1 ∧ TM T (rdN tx (bnds l) (tok tx pos)).2.1 ∧ (rdN tx (bnds l) (tok tx pos)).1 = (decide (fl = 0) && decide ((rdN tx (bnds l) (tok tx pos)).2.1.1 = 3)) ∧ (fl = 0 → MRd T (tell w l (rdN tx (bnds l) (tok tx pos)).2.2)) := by
  obtain ⟨h1, h2, h3, h4, h5, h6, h7, h8, h9, h10⟩ := hD
  have o1 := hw.1.1
  have o2 := hw.1.2.1
  rcases may_l hm with ⟨rfl, h⟩ | ⟨rfl, h⟩ | ⟨rfl, h⟩ | ⟨rfl, h⟩
  · obtain ⟨T, fl, e, f, i1, i2, i3, i4, i5, i6⟩ := m_rds (N := N) (a := 167) hN hx (by omega) (bnds 119) (2 * tW w.1) pos S (bnds_99 119 (by omega)) (by rw [l167]; show 2 * tW w.1 + 2 ≤ 8; omega) (by decide) hp ht hk h0
    obtain ⟨S2, e1, e⟩ := cal1_ex e
    obtain ⟨S4, e2, e⟩ := cal1_ex e
    have e : S4 = T := Option.some.inj e
    subst e
    have g721 : gI S4 721 158 = nI (tW w.1) := (f.1 721 158 (by omega)).trans h1
    have run : P_X7_readWalker N S = some (sI S4 721 158 (nI (tW w.1 + 1))) := by
      have e1 : P_X7_reads N S 167 (nI (2 * tW w.1)) (nI 1) (nI 9) = some S2 := e1
      have e2 : P_X7_reads N S2 167 (nI (2 * tW w.1 + 1)) (nI 1) (nI 40) = some S4 := e2
      unfold P_X7_readWalker
      rw [h1, li2, pk_mul, bnd_eq, li1, li9, e1, cal1_s, nI_add, li40, e2, cal1_s, g721, nI_add, bnd_eq]
    refine ⟨sI S4 721 158 (nI (tW w.1 + 1)), fl, by rw [if_pos rfl, run, cal1_s], qF_trans (qF_h (by omega) f) (qF_sI (by omega)), by rw [gI_sI, if_neg (by omega)]; exact i1, i2, ?_, i4, fun hfl => ?_⟩
    · obtain ⟨y1, y2, y3, y4⟩ := i3
      exact ⟨by rw [gI_sI, if_neg (by omega)]; exact y1, by rw [gI_sI, if_neg (by omega)]; exact y2, by rw [gI_sI, if_neg (by omega)]; exact y3, by rw [gI_sI, if_neg (by omega)]; exact y4⟩
    · have v0 := i5 hfl 0 (by decide)
      have v1 := i5 hfl 1 (by decide)
      have fo : ∀ b, b ≠ 167 → gA (sI S4 721 158 (nI (tW w.1 + 1))) b = gA S b := fun b hb => f.2.2.2.2 b hb
      refine ⟨by rw [gI_sI, if_pos ⟨rfl, rfl⟩]; rfl, ?_, by rw [fo 169 (by omega)]; exact h3, by rw [fo 169 (by omega)]; exact h4, fun i hi => ?_, fun i hi => ?_, by rw [fo 168 (by omega)]; exact h7, by rw [fo 168 (by omega)]; exact h8, by rw [fo 168 (by omega)]; exact h9, by rw [fo 168 (by omega)]; exact h10⟩
      · rw [gI_sI, if_neg (by omega), f.1 723 158 (by omega)]; exact h2
      · have hi : i < tW w.1 + 1 := hi
        show gA S4 167 (2 * i) = nI (upN (tR w.1) (tW w.1) _ i)
        unfold upN
        by_cases c : i = tW w.1
        · rw [if_pos c, c]; exact v0
        · rw [if_neg c, i6 (2 * i) (Or.inl (by omega))]; exact h5 i (by omega)
      · have hi : i < tW w.1 + 1 := hi
        show gA S4 167 (2 * i + 1) = nI (upN (tS w.1) (tW w.1) _ i)
        unfold upN
        by_cases c : i = tW w.1
        · rw [if_pos c, c]; exact v1
        · rw [if_neg c, i6 (2 * i + 1) (Or.inl (by omega))]; exact h6 i (by omega)
  · obtain ⟨T, fl, e, f, i1, i2, i3, i4, i5, i6⟩ := m_rds (N := N) (a := 168) hN hx (by omega) (bnds 116) (4 * tn w.1) pos S (bnds_99 116 (by omega)) (by rw [l168]; show 4 * tn w.1 + 4 ≤ 24; omega) (by decide) hp ht hk h0
    obtain ⟨S2, e1, e⟩ := cal1_ex e
    obtain ⟨S3, e2, e⟩ := cal1_ex e
    obtain ⟨S5, e3, e⟩ := cal1_ex e
    obtain ⟨S4, e4, e⟩ := cal1_ex e
    have e : S4 = T := Option.some.inj e
    subst e
    have g723 : gI S4 723 158 = nI (tn w.1) := (f.1 723 158 (by omega)).trans h2
    have run : P_X7_readStretch N S = some (sI S4 723 158 (nI (tn w.1 + 1))) := by
      have e1 : P_X7_reads N S 168 (nI (4 * tn w.1)) (nI 1) (nI 9) = some S2 := e1
      have e2 : P_X7_reads N S2 168 (nI (4 * tn w.1 + 1)) (nI 2) (nI 18) = some S3 := e2
      have e3 : P_X7_reads N S3 168 (nI (4 * tn w.1 + 2)) (nI 0) (nI 1) = some S5 := e3
      have e4 : P_X7_reads N S5 168 (nI (4 * tn w.1 + 3)) (nI 0) (nI 1) = some S4 := e4
      unfold P_X7_readStretch
      rw [h2, li4, pk_mul, bnd_eq, li1, li9, e1, cal1_s, nI_add, li2, li18, e2, cal1_s, nI_add, li0, e3, cal1_s, li3, nI_add, e4, cal1_s, g723, nI_add, bnd_eq]
    refine ⟨sI S4 723 158 (nI (tn w.1 + 1)), fl, by rw [if_neg (by decide), if_pos rfl, run, cal1_s], qF_trans (qF_h (by omega) f) (qF_sI (by omega)), by rw [gI_sI, if_neg (by omega)]; exact i1, i2, ?_, i4, fun hfl => ?_⟩
    · obtain ⟨y1, y2, y3, y4⟩ := i3
      exact ⟨by rw [gI_sI, if_neg (by omega)]; exact y1, by rw [gI_sI, if_neg (by omega)]; exact y2, by rw [gI_sI, if_neg (by omega)]; exact y3, by rw [gI_sI, if_neg (by omega)]; exact y4⟩
    · have v0 := i5 hfl 0 (by decide)
      have v1 := i5 hfl 1 (by decide)
      have v2 := i5 hfl 2 (by decide)
      have v3 := i5 hfl 3 (by decide)
      have fo : ∀ b, b ≠ 168 → gA (sI S4 723 158 (nI (tn w.1 + 1))) b = gA S b := fun b hb => f.2.2.2.2 b hb
      refine ⟨?_, by rw [gI_sI, if_pos ⟨rfl, rfl⟩]; rfl, by rw [fo 169 (by omega)]; exact h3, by rw [fo 169 (by omega)]; exact h4, by rw [fo 167 (by omega)]; exact h5, by rw [fo 167 (by omega)]; exact h6, fun i hi => ?_, fun i hi => ?_, fun i hi => ?_, fun i hi => ?_⟩
      · rw [gI_sI, if_neg (by omega), f.1 721 158 (by omega)]; exact h1
      · have hi : i < tn w.1 + 1 := hi
        show gA S4 168 (4 * i) = nI (upN (tL w.1) (tn w.1) _ i)
        unfold upN
        by_cases c : i = tn w.1
        · rw [if_pos c, c]; exact v0
        · rw [if_neg c, i6 (4 * i) (Or.inl (by omega))]; exact h7 i (by omega)
      · have hi : i < tn w.1 + 1 := hi
        show gA S4 168 (4 * i + 1) = nI (upN (tB w.1) (tn w.1) _ i)
        unfold upN
        by_cases c : i = tn w.1
        · rw [if_pos c, c]; exact v1
        · rw [if_neg c, i6 (4 * i + 1) (Or.inl (by omega))]; exact h8 i (by omega)
      · have hi : i < tn w.1 + 1 := hi
        show gA S4 168 (4 * i + 2) = nI (upN (tM w.1) (tn w.1) _ i)
        unfold upN
        by_cases c : i = tn w.1
        · rw [if_pos c, c]; exact v2
        · rw [if_neg c, i6 (4 * i + 2) (Or.inl (by omega))]; exact h9 i (by omega)
      · have hi : i < tn w.1 + 1 := hi
        show gA S4 168 (4 * i + 3) = nI (upN (tH w.1) (tn w.1) _ i)
        unfold upN
        by_cases c : i = tn w.1
        · rw [if_pos c, c]; exact v3
        · rw [if_neg c, i6 (4 * i + 3) (Or.inl (by omega))]; exact h10 i (by omega)
  · obtain ⟨T, fl, e, f, i1, i2, i3, i4, i5, i6⟩ := m_rds (N := N) (a := 169) hN hx (by omega) (bnds 99) 0 pos S (bnds_99 99 (by omega)) (by decide) (by decide) hp ht hk h0
    obtain ⟨S4, e1, e⟩ := cal1_ex e
    have e : S4 = T := Option.some.inj e
    subst e
    have e1 : P_X7_reads N S 169 (nI 0) (nI 0) (nI 9) = some S4 := e1
    refine ⟨S4, fl, by rw [if_neg (by decide), if_neg (by decide), if_pos rfl, e1, cal1_s], qF_h (by omega) f, i1, i2, i3, i4, fun hfl => ?_⟩
    have v0 := i5 hfl 0 (by decide)
    have fo : ∀ b, b ≠ 169 → gA S4 b = gA S b := fun b hb => f.2.2.2.2 b hb
    exact ⟨(f.1 721 158 (by omega)).trans h1, (f.1 723 158 (by omega)).trans h2, v0, (i6 1 (Or.inr (by decide))).trans h4, by rw [fo 167 (by omega)]; exact h5, by rw [fo 167 (by omega)]; exact h6, by rw [fo 168 (by omega)]; exact h7, by rw [fo 168 (by omega)]; exact h8, by rw [fo 168 (by omega)]; exact h9, by rw [fo 168 (by omega)]; exact h10⟩
  · obtain ⟨T, fl, e, f, i1, i2, i3, i4, i5, i6⟩ := m_rds (N := N) (a := 169) hN hx (by omega) (bnds 104) 1 pos S (bnds_99 104 (by omega)) (by decide) (by decide) hp ht hk h0
    obtain ⟨S4, e1, e⟩ := cal1_ex e
    have e : S4 = T := Option.some.inj e
    subst e
    have e1 : P_X7_reads N S 169 (nI 1) (nI 10) (nI 99) = some S4 := e1
    refine ⟨S4, fl, by rw [if_neg (by decide), if_neg (by decide), if_neg (by decide), e1, cal1_s], qF_h (by omega) f, i1, i2, i3, i4, fun hfl => ?_⟩
    have v0 := i5 hfl 0 (by decide)
    have fo : ∀ b, b ≠ 169 → gA S4 b = gA S b := fun b hb => f.2.2.2.2 b hb
    exact ⟨(f.1 721 158 (by omega)).trans h1, (f.1 723 158 (by omega)).trans h2, (i6 0 (Or.inl (by decide))).trans h3, v0, by rw [fo 167 (by omega)]; exact h5, by rw [fo 167 (by omega)]; exact h6, by rw [fo 168 (by omega)]; exact h7, by rw [fo 168 (by omega)]; exact h8, by rw [fo 168 (by omega)]; exact h9, by rw [fo 168 (by omega)]; exact h10⟩
theorem rdN_k4 {tx : List Nat} : ∀ bs pos, pos ≤ tx.length → (rdN tx bs (tok tx pos)).2.1.1 ≤ 4
  | [], pos, h => (tok_pl h).2.2.2.2
  | b :: bs, pos, h => by
    rw [rdN]
    split
    · exact rdN_k4 bs (tok tx pos).2.2.2 (tok_pl h).2.2.1
    · exact (tok_pl h).2.2.2.2
theorem m_item {N : Nat} {S : PSt} {w : Dl} {tx : List Nat} {k : Tk} (hN : 300 ≤ N) (hx : XOK tx) (hw : DOK w) (hD : MRd S w) (hk : TM S k) (hk1 : k.1 ≤ 4) (hkv : k.2.2.1 ≤ 255) (hkb : k.2.2.2 ≤ tx.length) (ht : MRx S tx) (h0 : gI S 720 158 = nI 0) : ∃ T, P_X7_readItem N S = some T ∧ qF S T ∧ ((∃ r, item tx w k = .inl r ∧ gI T 720 158 = nI 0 ∧ MRd T r.1 ∧ TM T (tok tx r.2)) ∨ ∃ p, item tx w k = .inr p ∧ gI T 720 158 = nI 1 ∧ gI T 717 158 = nI p) := by
  have hl : ltr k ≤ 255 := by unfold ltr; split; exact hkv; exact Nat.zero_le _
  have pre : P_X7_readItem N S = P_X7_readItem_L81 N S (nI (ltr k)) (bI (may w (ltr k))) := by
    rw [← m_mayI hw hD hl]
    unfold P_X7_readItem ltr
    rw [hk.1, li1, li0]
    by_cases c : k.1 = 1
    · have g9 : gI S 719 158 = nI k.2.2.1 := by
        rcases hk.2.2.1 with h | h
        · rw [c] at h; exact absurd h (by decide)
        · exact h
      rw [if_pos (by rw [c]), if_pos c, g9]
    · rw [if_neg (by rw [nI_eq (by omega) (by omega)]; exact c), if_neg c]
  rw [pre]
  unfold P_X7_readItem_L81 item
  rw [li0]
  cases hm : may w (ltr k) with
  | false =>
    rw [if_pos bI_f, li1, bnd_eq, if_neg (show ¬ false = true by decide)]
    exact ⟨_, rfl, qF_sI (by omega), Or.inr ⟨k.2.1, rfl, by rw [gI_sI, if_pos ⟨rfl, rfl⟩], by rw [gI_sI, if_neg (by omega)]; exact hk.2.1⟩⟩
  | true =>
    rw [if_neg bI_t, if_pos rfl]
    obtain ⟨S9, e9, k9, m9⟩ := m_next (N := N) hN hx hkb ht hk.2.2.2
    obtain ⟨T, fl, e, f, i1, i2, i3, i4, i5⟩ := m_nums2 (N := N) hN hx hw hm (MRd_n hD k9) hkb (nG_x k9 ht) m9 ((k9.1 720 158 (by omega)).trans h0)
    have q1 := rdN_pl (bnds (ltr k)) k.2.2.2 hkb
    have q2 := rdN_k4 (bnds (ltr k)) k.2.2.2 hkb
    obtain ⟨U, e2, hU⟩ := m_stop (N := N) hN hx i2 i1 i3 q2 q1.2.2 (qF_x (qF_trans (qF_n k9) f) ht)
    rw [e9, cal1_s, li119, li116, li99, li9, li10, li1, e]
    refine ⟨U, e2, ?_⟩
    by_cases c : fl = 0 ∧ (rdN tx (bnds (ltr k)) (tok tx k.2.2.2)).2.1.1 = 3
    · rw [if_pos c] at hU
      have hr : (rdN tx (bnds (ltr k)) (tok tx k.2.2.2)).1 = true := by rw [i4, decide_eq_true c.1, decide_eq_true c.2]; rfl
      rw [if_pos hr]
      have hMT := i5 c.1
      refine ⟨qF_trans (qF_trans (qF_n k9) f) (qF_trans (qF_sI (by omega)) (qF_n hU.1)), Or.inl ⟨_, rfl, ?_, MRd_n ?_ hU.1, hU.2⟩⟩
      · rw [hU.1.1 720 158 (by omega), gI_sI, if_pos ⟨rfl, rfl⟩]
      · unfold MRd at hMT ⊢
        rw [gI_sI, if_neg (by omega), gI_sI, if_neg (by omega)]
        exact hMT
    · rw [if_neg c] at hU
      have hr : (rdN tx (bnds (ltr k)) (tok tx k.2.2.2)).1 = false := by
        rw [i4]
        by_cases c1 : fl = 0
        · rw [decide_eq_true c1, Bool.true_and]; exact decide_eq_false (fun h => c ⟨c1, h⟩)
        · rw [decide_eq_false c1, Bool.false_and]
      rw [hr, if_neg (show ¬ false = true by decide)]
      refine ⟨qF_trans (qF_trans (qF_n k9) f) (by rw [hU]; exact qF_sI (by omega)), Or.inr ⟨_, rfl, ?_, ?_⟩⟩
      · rw [hU, gI_sI, if_pos ⟨rfl, rfl⟩]
      · rw [hU, gI_sI, if_neg (by omega)]; exact i3.2.1
theorem m_parse {N : Nat} {tx : List Nat} (hN : 300 ≤ N) (hx : XOK tx) : ∀ (z : Nat) (w : Dl) (pos n fuel : Nat) (S : PSt), pos ≤ tx.length → 201 ≤ (tok tx pos).2.1 + z → z + 1 < fuel → MRd S w → DOK w → TM S (tok tx pos) → MRx S tx → gI S 720 158 = nI 0 → ∃ T, qF S T ∧ ((∃ r, parse tx z w (tok tx pos) n = .inl r ∧ P_X7_tunnel_L40 N fuel S (nI n) = P_X7_tunnel_L64 N T (nI r.2) ∧ gI T 720 158 = nI 0 ∧ MRd T r.1) ∨ ∃ p, parse tx z w (tok tx pos) n = .inr p ∧ P_X7_tunnel_L40 N fuel S (nI n) = some (-10 - nI p, T)) := by
  have hl := hx.1
  intro z
  induction z with
  | zero =>
    intro w pos n fuel S hp h1
    obtain ⟨t1, t2, t3, t4, t5⟩ := tok_pl hp
    omega
  | succ z ih =>
    intro w pos n fuel S hp h1 hf hD hw hk ht h0
    obtain ⟨fuel, rfl⟩ : ∃ z, fuel = z + 1 := ⟨fuel - 1, by omega⟩
    obtain ⟨t1, t2, t3, t4, t5⟩ := tok_pl hp
    have t6 := tok_val (pos := pos) hx
    rw [P_X7_tunnel_L40, parse]
    dsimp only
    rw [hk.1, h0, li0]
    by_cases c0 : (tok tx pos).1 = 0
    · exact ⟨S, qF_refl S, Or.inl ⟨(w, n), by rw [if_pos c0], by rw [c0, if_pos rfl], h0, hD⟩⟩
    · have hlt := t4 c0
      have c0' : ¬ nI (tok tx pos).1 = nI 0 := by rw [nI_eq (by omega) (by omega)]; exact c0
      rw [if_neg c0', if_neg c0, if_pos rfl]
      obtain ⟨T, eT, fT, hT⟩ := m_item (N := N) hN hx hw hD hk t5 t6 t3 ht h0
      rw [eT, cal1_s, li1, nI_add, bnd_eq]
      rcases hT with ⟨r, e1, g0, DT, kT⟩ | ⟨p, e1, g0, g7⟩
      · obtain ⟨q1, q2, q3⟩ := item_pl t3 e1 hw
        obtain ⟨s1, s2, s3, s4, s5⟩ := tok_pl q2
        obtain ⟨V, fV, hV⟩ := ih r.1 r.2 (n + 1) fuel T q2 (by omega) (by omega) DT q3 kT (qF_x fT ht) g0
        refine ⟨V, qF_trans fT fV, ?_⟩
        rw [e1]
        exact hV
      · refine ⟨T, fT, Or.inr ⟨p, by rw [e1], ?_⟩⟩
        obtain ⟨fuel, rfl⟩ : ∃ z, fuel = z + 1 := ⟨fuel - 1, by omega⟩
        have e64 : P_X7_tunnel_L64 N T (nI (n + 1)) = some (-10 - nI p, T) := by
          unfold P_X7_tunnel_L64
          rw [g0, li0, if_neg n1_0, g7]
        rw [P_X7_tunnel_L40]
        dsimp only
        rw [g0, li0, if_neg n1_0, e64]
        split <;> rfl
end
