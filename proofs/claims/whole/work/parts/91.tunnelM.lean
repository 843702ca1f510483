section
/-! STAGE 2, tunnel: the reference, and the step -/
theorem m_cp167 {N : Nat} {S : PSt} {x : Int32} (hN : 300 ≤ N) : ∃ T, P_X7_tunnel_L143 N N S x (nI 0) = P_X7_tunnel_L169 N N T x (nI 0) ∧ row1 S T 159 (fun j => if j < 8 then gA S 167 j else gA S 159 j) := by
  have h := loop_itr (fun f S y => P_X7_tunnel_L143 N f S x y) (fun S1 i => sA S1 159 i (gA S 167 i)) (fun i S' => row1 S S' 159 (fun j => if j < i then gA S 167 j else gA S 159 j)) S ((row1.refl S 159).cong (fun j => (if_neg (by omega)).symm)) 8 (fun i S1 hi h1 => ?_) (fun i S1 fuel hi h1 => ?_)
  · have e := h.1 (N - 8)
    rw [show N - 8 + 8 = N by omega] at e
    obtain ⟨f, hf⟩ : ∃ f, N - 8 = f + 1 := ⟨N - 9, by omega⟩
    refine ⟨_, ?_, h.2⟩
    rw [e, hf, P_X7_tunnel_L143]
    dsimp only
    rw [li8, if_pos (nI_le (Nat.le_refl _) (by omega)), li0]
  · refine (row1_sA h1).cong (fun j => ?_)
    show (if j = i then gA S 167 i else if j < i then gA S 167 j else gA S 159 j) = if j < i + 1 then gA S 167 j else gA S 159 j
    by_cases c : j = i
    · subst c; rw [if_pos rfl, if_pos (show j < j + 1 by omega)]
    · rw [if_neg c]
      by_cases c2 : j < i
      · rw [if_pos c2, if_pos (show j < i + 1 by omega)]
      · rw [if_neg c2, if_neg (show ¬ j < i + 1 by omega)]
  · rw [P_X7_tunnel_L143]
    dsimp only
    rw [li8, if_neg (nI_ge hi (by omega)), bin_nI (by omega), l167, gd_dec (by omega), bin_nI (by omega), l159, gd_dec (by omega), nI_clamp (by omega), h1.2.2.2.2.1 167 (by omega), bnd_eq, li1, nI_add, bnd_eq]
theorem m_begins {N : Nat} {S : PSt} (hN : 300 ≤ N) : ∃ T, P_X7_begins N S = some T ∧ row1 S T 161 (fun j => if j < 7 then (if j = 2 then -9 else 0) else gA S 161 j) := by
  have h := loop_itr (fun f S y => P_X7_begins_L2 N f S y) (fun S1 i => sA S1 161 i (if i = 2 then -9 else 0)) (fun i S' => row1 S S' 161 (fun j => if j < i then (if j = 2 then -9 else 0) else gA S 161 j)) S ((row1.refl S 161).cong (fun j => (if_neg (by omega)).symm)) 7 (fun i S1 hi h1 => ?_) (fun i S1 fuel hi h1 => ?_)
  · have e := h.1 (N - 7)
    rw [show N - 7 + 7 = N by omega] at e
    obtain ⟨f, hf⟩ : ∃ f, N - 7 = f + 1 := ⟨N - 8, by omega⟩
    have h2 := h.2
    generalize itr (fun S1 i => sA S1 161 i (if i = 2 then -9 else 0)) 7 S = T at e h2
    refine ⟨T, ?_, h2⟩
    unfold P_X7_begins
    rw [li0, e, hf, P_X7_begins_L2]
    dsimp only
    rw [li7, if_pos (nI_le (Nat.le_refl _) (by omega))]
  · refine (row1_sA h1).cong (fun j => ?_)
    show (if j = i then (if i = 2 then -9 else 0) else if j < i then (if j = 2 then -9 else 0) else gA S 161 j) = if j < i + 1 then (if j = 2 then -9 else 0) else gA S 161 j
    by_cases c : j = i
    · subst c; rw [if_pos rfl, if_pos (show j < j + 1 by omega)]
    · rw [if_neg c]
      by_cases c2 : j < i
      · rw [if_pos c2, if_pos (show j < i + 1 by omega)]
      · rw [if_neg c2, if_neg (show ¬ j < i + 1 by omega)]
  · rw [P_X7_begins_L2]
    dsimp only
    unfold P_X7_begins_L24
    rw [li7, if_neg (nI_ge hi (by omega)), li2, bin_nI (by omega), l161, gd_dec (by omega), gd_dec (by omega), nI_clamp (by omega), bnd_eq, bnd_eq, li1, nI_add, bnd_eq, bnd_eq]
    by_cases c : i = 2
    · rw [if_pos (by rw [c]), if_pos c]
    · rw [if_neg (by rw [nI_eq (by omega) (by omega)]; exact c), if_neg c]
theorem m_cp168 {N : Nat} {S : PSt} {x : Int32} (hN : 300 ≤ N) : ∃ T f, P_X7_tunnel_L169 N N S x (nI 0) = P_X7_tunnel_L169 N (f + 1) T x (nI 24) ∧ row1 S T 160 (fun j => if j < 24 then gA S 168 j else gA S 160 j) := by
  have h := loop_itr (fun f S y => P_X7_tunnel_L169 N f S x y) (fun S1 i => sA S1 160 i (gA S 168 i)) (fun i S' => row1 S S' 160 (fun j => if j < i then gA S 168 j else gA S 160 j)) S ((row1.refl S 160).cong (fun j => (if_neg (by omega)).symm)) 24 (fun i S1 hi h1 => ?_) (fun i S1 fuel hi h1 => ?_)
  · have e := h.1 (N - 24)
    rw [show N - 24 + 24 = N by omega] at e
    exact ⟨_, N - 25, by rw [e, show N - 24 = N - 25 + 1 by omega], h.2⟩
  · refine (row1_sA h1).cong (fun j => ?_)
    show (if j = i then gA S 168 i else if j < i then gA S 168 j else gA S 160 j) = if j < i + 1 then gA S 168 j else gA S 160 j
    by_cases c : j = i
    · subst c; rw [if_pos rfl, if_pos (show j < j + 1 by omega)]
    · rw [if_neg c]
      by_cases c2 : j < i
      · rw [if_pos c2, if_pos (show j < i + 1 by omega)]
      · rw [if_neg c2, if_neg (show ¬ j < i + 1 by omega)]
  · rw [P_X7_tunnel_L169]
    dsimp only
    rw [li24, if_neg (nI_ge hi (by omega)), bin_nI (by omega), l168, gd_dec (by omega), bin_nI (by omega), l160, gd_dec (by omega), nI_clamp (by omega), h1.2.2.2.2.1 168 (by omega), bnd_eq, li1, nI_add, bnd_eq]
theorem eqC_qF {S T : PSt} (k : qF S T) : eqC S T := ⟨fun f a ha => k.1 f a (by omega), fun f a _ => k.2.1 f a, k.2.2.1, fun a ha => k.2.2.2.2 a (by omega), k.2.2.2.1⟩
theorem MR_qF {S T : PSt} {q : Sig} (h : MR S q) (k : qF S T) : MR T q := by
  obtain ⟨⟨a1, a2, a3, a4, a5, a6, a7, a8, a9, a10⟩, h2, h3, h4, h5, h6, h7, h8, h9, h10, h11, h12⟩ := h
  have kA : ∀ a, a < 167 → gA T a = gA S a := fun a ha => k.2.2.2.2 a (by omega)
  refine ⟨⟨(k.1 _ _ (by omega)).trans a1, (k.1 _ _ (by omega)).trans a2, (k.1 _ _ (by omega)).trans a3, (k.1 _ _ (by omega)).trans a4, ?_, ?_, ?_, ?_, ?_, ?_⟩, MRn_eq h2 (kA 161 (by omega)), (k.1 _ _ (by omega)).trans h3, fun i hi => (h4 i hi).eqM (kA _ (by omega)), ?_, fun j r hj hr => ?_, (k.1 _ _ (by omega)).trans h7, ?_, ?_, (k.1 _ _ (by omega)).trans h10, ?_, (k.2.1 _ _).trans h12⟩
  · rw [kA 159 (by omega)]; exact a5
  · rw [kA 159 (by omega)]; exact a6
  · rw [kA 160 (by omega)]; exact a7
  · rw [kA 160 (by omega)]; exact a8
  · rw [kA 160 (by omega)]; exact a9
  · rw [kA 160 (by omega)]; exact a10
  · rw [kA 164 (by omega)]; exact h5
  · obtain ⟨b1, b2, b3⟩ := h6 j r hj hr
    exact ⟨b1.eqM (kA _ (by omega)), by rw [kA 163 (by omega)]; exact b2, fun i hi => (b3 i hi).eqM (kA _ (by omega))⟩
  · rw [kA 165 (by omega)]; exact h8
  · rw [kA 165 (by omega)]; exact h9
  · rw [kA 166 (by omega)]; exact h11
theorem m_tunEnd {N n : Nat} {S : PSt} {w : Dl} {jj : Int64} (hN : 300 ≤ N) (hw : DOK w) (hD : MRd S w) (h0 : gI S 720 158 = nI 0) (hj : gJ S 713 158 = jj) : ∃ U, P_X7_tunnel_L64 N S (nI n) = some (nI n, U) ∧ eqC S U ∧ MR U (w.1, m0, [], fun _ => none, [], [], jj) := by
  obtain ⟨d1, d2, d3, d4, d5, d6, d7, d8, d9, d10⟩ := hD
  obtain ⟨⟨o1, o2, o3, o4, o5, o6, o7⟩, oc, oh⟩ := hw
  obtain ⟨S1, hS1⟩ : ∃ S1, S1 = sI (sI (sI (sI S 700 158 (nI (tW w.1))) 702 158 (nI (tn w.1))) 704 158 (nI (tc w.1))) 705 158 (nI (th w.1)) := ⟨_, rfl⟩
  have a1 : ∀ b, gA S1 b = gA S b := fun b => by rw [hS1]; rfl
  have c1 : eqC S S1 := by rw [hS1]; exact (((eqC_sI (by omega)).trans (eqC_sI (by omega))).trans (eqC_sI (by omega))).trans (eqC_sI (by omega))
  have i1 : ∀ f, f ≠ 700 → f ≠ 702 → f ≠ 704 → f ≠ 705 → gI S1 f 158 = gI S f 158 := fun f h1 h2 h3 h4 => by rw [hS1, gI_sI, if_neg (by omega), gI_sI, if_neg (by omega), gI_sI, if_neg (by omega), gI_sI, if_neg (by omega)]
  obtain ⟨S2, e2, r2⟩ := m_cp167 (N := N) (S := S1) (x := nI n) hN
  obtain ⟨S3, f, e3, r3⟩ := m_cp168 (N := N) (S := S2) (x := nI n) hN
  obtain ⟨S4, e4, r4⟩ := m_begins (N := N) (S := S3) hN
  have pre : P_X7_tunnel_L64 N S (nI n) = P_X7_tunnel_L143 N N S1 (nI n) (nI 0) := by
    have g23 : gI (sI S 700 158 (nI (tW w.1))) 723 158 = nI (tn w.1) := by rw [gI_sI, if_neg (by omega)]; exact d2
    have b0 : gA (sI (sI S 700 158 (nI (tW w.1))) 702 158 (nI (tn w.1))) 169 0 = (if w.2.1 = true then nI (tc w.1) else -1) := d3
    have k115 : P_X7_tunnel_L115 N (sI (sI S 700 158 (nI (tW w.1))) 702 158 (nI (tn w.1))) (nI n) (nI (tc w.1)) = P_X7_tunnel_L143 N N S1 (nI n) (nI 0) := by
      have b1 : gA (sI (sI (sI S 700 158 (nI (tW w.1))) 702 158 (nI (tn w.1))) 704 158 (nI (tc w.1))) 169 1 = (if w.2.2 = true then nI (th w.1) else -1) := d4
      have k138 : P_X7_tunnel_L138 N (sI (sI (sI S 700 158 (nI (tW w.1))) 702 158 (nI (tn w.1))) 704 158 (nI (tc w.1))) (nI n) (nI (th w.1)) = P_X7_tunnel_L143 N N S1 (nI n) (nI 0) := by
        unfold P_X7_tunnel_L138
        rw [bnd_eq, ← hS1, li0]
      unfold P_X7_tunnel_L115
      rw [bnd_eq, li1, nI_clamp (by omega), b1, li0]
      cases hh : w.2.2 with
      | false =>
        rw [if_neg (show ¬ false = true by decide), if_neg (by decide)]
        rw [oh hh] at k138
        exact k138
      | true =>
        rw [if_pos rfl, if_pos (nI_le (Nat.zero_le _) (by omega))]
        exact k138
    unfold P_X7_tunnel_L64
    rw [h0, li0, if_pos rfl, d1, bnd_eq, g23, bnd_eq, nI_clamp (by omega), b0]
    cases hh : w.2.1 with
    | false =>
      rw [if_neg (show ¬ false = true by decide), if_neg (by decide), li1]
      rw [oc hh] at k115
      exact k115
    | true =>
      rw [if_pos rfl, if_pos (nI_le (Nat.zero_le _) (by omega))]
      exact k115
  obtain ⟨U, hU⟩ : ∃ U, U = sI (sA (sA (sI (sI S4 708 158 (nI 0)) 711 158 (nI 0)) 164 0 0) 164 1 0) 715 158 (nI 0) := ⟨_, rfl⟩
  have run : P_X7_tunnel_L64 N S (nI n) = some (nI n, U) := by
    rw [pre, e2, e3, P_X7_tunnel_L169]
    dsimp only
    rw [li24, if_pos (nI_le (Nat.le_refl _) (by omega)), e4, cal1_s, li0, bnd_eq, bnd_eq, nI_clamp (by omega), li1, nI_clamp (by omega), bnd_eq, bnd_eq, bnd_eq, hU]
    rw [show vp_nar .boolean (nI 0) = 0 by decide]
  have aU : ∀ b, b ≠ 164 → gA U b = gA S4 b := fun b hb => by rw [hU, gA_sI, gA_sA, if_neg hb, gA_sA, if_neg hb]; rfl
  have iU : ∀ f, f ≠ 708 → f ≠ 711 → f ≠ 715 → gI U f 158 = gI S1 f 158 := fun f h1 h2 h3 => by rw [hU, gI_sI, if_neg (by omega), gI_sA, gI_sA, gI_sI, if_neg (by omega), gI_sI, if_neg (by omega), r4.1, r3.1, r2.1]
  have a159 : ∀ j, j < 8 → gA U 159 j = gA S 167 j := fun j hj => by
    have : gA S2 159 j = if j < 8 then gA S1 167 j else gA S1 159 j := r2.2.2.2.2.2 j
    rw [aU 159 (by omega), r4.2.2.2.2.1 159 (by omega), r3.2.2.2.2.1 159 (by omega), this, if_pos hj, a1]
  have a160 : ∀ j, j < 24 → gA U 160 j = gA S 168 j := fun j hj => by
    have : gA S3 160 j = if j < 24 then gA S2 168 j else gA S2 160 j := r3.2.2.2.2.2 j
    rw [aU 160 (by omega), r4.2.2.2.2.1 160 (by omega), this, if_pos hj, r2.2.2.2.2.1 168 (by omega), a1]
  have a161 : ∀ j, j < 7 → gA U 161 j = if j = 2 then -9 else 0 := fun j hj => by
    have : gA S4 161 j = if j < 7 then (if j = 2 then -9 else 0) else gA S3 161 j := r4.2.2.2.2.2 j
    rw [aU 161 (by omega), this, if_pos hj]
  refine ⟨U, run, ?_, ⟨?_, ?_, ?_, ?_, fun i hi => ?_, fun i hi => ?_, fun i hi => ?_, fun i hi => ?_, fun i hi => ?_, fun i hi => ?_⟩, ⟨?_, ?_, ?_, fun v hv => ?_⟩, ?_, fun i hi => absurd hi (Nat.not_lt_zero i), fun j hj => ?_, fun j r hj hr => (by cases hr), ?_, fun i hi => absurd hi (Nat.not_lt_zero i), fun i hi => absurd hi (Nat.not_lt_zero i), ?_, fun i hi => absurd hi (Nat.not_lt_zero i), ?_⟩
  · refine (c1.trans ((r2.eqC (by omega)).trans ((r3.eqC (by omega)).trans (r4.eqC (by omega))))).trans ?_
    rw [hU]
    exact (((eqC_sI (by omega)).trans (eqC_sI (by omega))).trans (eqC_sA (by omega))).trans ((eqC_sA (by omega)).trans (eqC_sI (by omega)))
  · rw [iU 700 (by omega) (by omega) (by omega), hS1, gI_sI, if_neg (by omega), gI_sI, if_neg (by omega), gI_sI, if_neg (by omega), gI_sI, if_pos ⟨rfl, rfl⟩]; rfl
  · rw [iU 702 (by omega) (by omega) (by omega), hS1, gI_sI, if_neg (by omega), gI_sI, if_neg (by omega), gI_sI, if_pos ⟨rfl, rfl⟩]; rfl
  · rw [iU 704 (by omega) (by omega) (by omega), hS1, gI_sI, if_neg (by omega), gI_sI, if_pos ⟨rfl, rfl⟩]; rfl
  · rw [iU 705 (by omega) (by omega) (by omega), hS1, gI_sI, if_pos ⟨rfl, rfl⟩]; rfl
  · have hi : i < tW w.1 := hi
    rw [a159 _ (by omega)]; exact d5 i hi
  · have hi : i < tW w.1 := hi
    rw [a159 _ (by omega)]; exact d6 i hi
  · have hi : i < tn w.1 := hi
    rw [a160 _ (by omega)]; exact d7 i hi
  · have hi : i < tn w.1 := hi
    rw [a160 _ (by omega)]; exact d8 i hi
  · have hi : i < tn w.1 := hi
    rw [a160 _ (by omega)]; exact d9 i hi
  · have hi : i < tn w.1 := hi
    rw [a160 _ (by omega)]; exact d10 i hi
  · rw [a161 0 (by omega), if_neg (by omega)]; rfl
  · rw [a161 1 (by omega), if_neg (by omega)]; rfl
  · rw [a161 2 (by omega), if_pos rfl]; rfl
  · rw [a161 (3 + v) (by omega), if_neg (by omega)]; rfl
  · rw [hU, gI_sI, if_neg (by omega), gI_sA, gI_sA, gI_sI, if_neg (by omega), gI_sI, if_pos ⟨rfl, rfl⟩]; rfl
  · rw [hU, gA_sI, gA_sA, if_pos rfl]
    unfold upd
    by_cases c : j = 1
    · rw [if_pos c]; rfl
    · rw [if_neg c, gA_sA, if_pos rfl]
      unfold upd
      rw [if_pos (by omega)]; rfl
  · rw [hU, gI_sI, if_neg (by omega), gI_sA, gI_sA, gI_sI, if_pos ⟨rfl, rfl⟩]; rfl
  · rw [hU, gI_sI, if_pos ⟨rfl, rfl⟩]; rfl
  · rw [hU, gJ_sI, gJ_sA, gJ_sA, gJ_sI, gJ_sI, r4.2.1, r3.2.1, r2.2.1, hS1]
    exact hj
theorem step_tunnel {N : Nat} {S : PSt} (hN : 300 ≤ N) (h : Inv S) : ∃ r S1 S2, P_X6_tunnel N S = some (r, S1) ∧ P_X7_tunnel N S1 = some (r, S2) ∧ Inv S2 := by
  obtain ⟨q, ok, hc, hm⟩ := h
  obtain ⟨r, d, hrd, hr, hd, hT, hpp, z8, z9⟩ := hc.1
  obtain ⟨kr, kdd, hkr, hkd⟩ := isk4 hrd
  have hx : XOK (qx q) := ⟨ok.2.2.2.2.2.2.2.1, ok.2.2.2.2.2.2.2.2⟩
  -- the reference's beginning, from any state that is as the law's
  have ref : ∀ S1, MR S1 q → ∃ T, qF S1 T ∧ ((∃ x, p00 (qx q) = .inl x ∧ P_X7_tunnel N S1 = P_X7_tunnel_L64 N T (nI x.2) ∧ gI T 720 158 = nI 0 ∧ MRd T x.1) ∨ ∃ p, p00 (qx q) = .inr p ∧ P_X7_tunnel N S1 = some (-10 - nI p, T)) := by
    intro S1 h1
    obtain ⟨S5, hS5⟩ : ∃ S5, S5 = sA (sA (sI (sI (sI (sI S1 716 158 (nI 0)) 720 158 (nI 0)) 721 158 (nI 0)) 723 158 (nI 0)) 169 0 (-1)) 169 1 (-1) := ⟨_, rfl⟩
    have f5 : qF S1 S5 := by rw [hS5]; exact qF_trans (qF_trans (qF_trans (qF_sI (by omega)) (qF_sI (by omega))) (qF_trans (qF_sI (by omega)) (qF_sI (by omega)))) (qF_trans (qF_sA (by omega)) (qF_sA (by omega)))
    have x1 : MRx S1 (qx q) := ⟨h1.2.2.2.2.2.2.2.2.2.1, h1.2.2.2.2.2.2.2.2.2.2.1⟩
    have x5 := qF_x f5 x1
    have g16 : gI S5 716 158 = nI 0 := by rw [hS5, gI_sA, gI_sA, gI_sI, if_neg (by omega), gI_sI, if_neg (by omega), gI_sI, if_neg (by omega), gI_sI, if_pos ⟨rfl, rfl⟩]
    have g20 : gI S5 720 158 = nI 0 := by rw [hS5, gI_sA, gI_sA, gI_sI, if_neg (by omega), gI_sI, if_neg (by omega), gI_sI, if_pos ⟨rfl, rfl⟩]
    have D5 : MRd S5 w00 := by
      refine ⟨?_, ?_, ?_, ?_, fun i hi => absurd hi (Nat.not_lt_zero i), fun i hi => absurd hi (Nat.not_lt_zero i), fun i hi => absurd hi (Nat.not_lt_zero i), fun i hi => absurd hi (Nat.not_lt_zero i), fun i hi => absurd hi (Nat.not_lt_zero i), fun i hi => absurd hi (Nat.not_lt_zero i)⟩
      · rw [hS5, gI_sA, gI_sA, gI_sI, if_neg (by omega), gI_sI, if_pos ⟨rfl, rfl⟩]; rfl
      · rw [hS5, gI_sA, gI_sA, gI_sI, if_pos ⟨rfl, rfl⟩]; rfl
      · rw [hS5, gA_sA, if_pos rfl]; rfl
      · rw [hS5, gA_sA, if_pos rfl]; rfl
    obtain ⟨S6, e6, k6, m6⟩ := m_next (N := N) hN hx (Nat.zero_le _) x5 g16
    obtain ⟨t1, t2, t3, t4, t5⟩ := tok_pl (tx := qx q) (Nat.zero_le _)
    obtain ⟨T, fT, hT⟩ := m_parse (N := N) hN hx 201 w00 0 0 N S6 (Nat.zero_le _) (by omega) (by omega) (MRd_n D5 k6) w00_ok m6 (nG_x k6 x5) ((k6.1 720 158 (by omega)).trans g20)
    refine ⟨T, qF_trans f5 (qF_trans (qF_n k6) fT), ?_⟩
    have pre : P_X7_tunnel N S1 = P_X7_tunnel_L40 N N S6 (nI 0) := by
      unfold P_X7_tunnel
      rw [li0, bnd_eq, bnd_eq, bnd_eq, bnd_eq, nI_clamp (by omega), bnd_eq, li1, nI_clamp (by omega), bnd_eq]
      have : sA (sA (sI (sI (sI (sI S1 716 158 (nI 0)) 720 158 (nI 0)) 721 158 (nI 0)) 723 158 (nI 0)) 169 0 (-nI 1)) 169 1 (-nI 1) = S5 := by rw [hS5, ng1]
      first
        | rw [this, e6, cal1_s]
        | (rw [← hS5, e6, cal1_s])
    rw [pre]
    exact hT
  obtain ⟨T, aT, g200, hR⟩ := c_readInto (N := N) hN hx (by omega) hkd hc.2.2.2.2.2.2.1 z8 z9
  have pre : P_X6_tunnel N S = (cal2 (P_X2_readInto N S d) fun r13 S11 => if nI 0 ≤ r13 then (bnd (gR S11 601 0) fun t15 => gd (isk t15 4) <| bnd (gR S11 602 0) fun t17 => gd (isk t17 4) <| bnd (sR S11 601 0 t17) fun S19 => bnd (sR S19 602 0 t15) fun S20 => bnd (sI S20 200 1 (nI 0)) fun S21 => cal1 (P_X5_restart N S21 24) fun S22 => P_X6_tunnel_L53 N N S22 r13 (nI 0)) else (some (r13, S11))) := by
    unfold P_X6_tunnel
    rw [hd, bnd_eq, kdd, gd_true, li0]
  have mT := hm.eqM (eqM.ofag (fun a ha => aT a (by omega) (by omega) (by omega)))
  rcases hR with ⟨x, e1, e2, RT, PT, okw, hn⟩ | ⟨p, e1, e2, hp, y8, y9⟩
  · obtain ⟨hp1, hp2, lo, hi, z1, z2, a3, a4⟩ := hpp
    have zr8 : gA S (r + 8) 0 = 0 := by rw [(a3 0 (Nat.zero_le _)).1, z1]; exact li0.symm
    have zr9 : gA S (r + 9) 0 = 0 := by rw [(a3 0 (Nat.zero_le _)).2, z2]; exact li0.symm
    obtain ⟨U, eU, cU, kU⟩ := c_tunEnd (N := N) (n := x.2) hN ok hrd hc hr hd aT RT PT zr8 zr9
    have mU := mT.eqM (eqM.ofag (fun a ha => kU a ha))
    obtain ⟨V, fV, hV⟩ := ref U mU
    rcases hV with ⟨x', e3, e4, g0, DV⟩ | ⟨p, e3, e4⟩
    · rw [e1] at e3
      have ex : x = x' := Sum.inl.inj e3
      subst ex
      have jV : gJ V 713 158 = qj q := (fV.2.1 713 158).trans mU.2.2.2.2.2.2.2.2.2.2.2
      obtain ⟨W, e5, cW, mW⟩ := m_tunEnd (N := N) (n := x.2) hN okw DV g0 jV
      refine ⟨nI x.2, U, W, ?_, by rw [e4, e5], inv_of (S1 := U) (x.1.1, m0, [], fun _ => none, [], [], qj q) ?_ cU mW ((eqC_qF fV).trans cW)⟩
      · rw [pre, e2, cal2_s, if_pos (nI_le (Nat.zero_le _) (by omega)), eU]
      · refine ⟨okw.1, ⟨Nat.zero_le _, Nat.zero_le _, fun p hp => (by cases hp), fun h => absurd h (Nat.lt_irrefl 0), fun w _ => Nat.zero_le _, fun w _ _ => rfl⟩, Nat.zero_le _, fun i hi => absurd hi (Nat.not_lt_zero i), fun j r hr => (by cases hr), Nat.zero_le _, fun i hi => absurd hi (Nat.not_lt_zero i), Nat.zero_le _, fun i hi => absurd hi (Nat.not_lt_zero i)⟩
    · rw [e1] at e3; cases e3
  · obtain ⟨V, fV, hV⟩ := ref T mT
    rcases hV with ⟨x', e3, e4, g0, DV⟩ | ⟨p', e3, e4⟩
    · rw [e1] at e3; cases e3
    · rw [e1] at e3
      have ex : p = p' := Sum.inr.inj e3
      subst ex
      refine ⟨-10 - nI p, T, V, ?_, e4, inv_of (S1 := T) q ok ?_ (MR_qF mT fV) (eqC_qF fV)⟩
      · rw [pre, e2, cal2_s, if_neg (neg10 p (by omega))]
      · obtain ⟨c1, c2, c3, c4, c5, c6, c7, c8⟩ := hc
        refine ⟨⟨r, d, hrd, ((aT 0 (by omega) (by omega) (by omega)).2.2.1 _).trans hr, ((aT 0 (by omega) (by omega) (by omega)).2.2.1 _).trans hd, hT.ag (fun i hi => aT _ (by omega) (by omega) (by omega)), hpp.ag (fun i hi => aT _ (by omega) (by omega) (by omega)), y8, y9⟩, c2.ag ok.2.2.1 (fun a _ _ => aT a (by omega) (by omega) (by omega)), c3.ag (fun j r hr => (ok.2.2.2.2.1 j r hr).2.1) (fun a _ _ => aT a (by omega) (by omega) (by omega)), c4.ag (fun i _ => aT _ (by omega) (by omega) (by omega)), c5.ag (fun i _ => aT _ (by omega) (by omega) (by omega)), c6.ag (fun a _ _ => aT a (by omega) (by omega) (by omega)), ⟨g200.trans c7.1, by rw [(aT 2 (by omega) (by omega) (by omega)).2.2.2.1]; exact c7.2⟩, ((aT 0 (by omega) (by omega) (by omega)).2.1 _).trans c8⟩
end
