section
/-! STAGE 2, the text: the component's draft -/
theorem may_l {w : Dl} {l : Nat} (h : may w l = true) : l = 119 ∧ tW w.1 < 4 ∨ l = 116 ∧ tn w.1 < 6 ∨ l = 99 ∧ w.2.1 = false ∨ l = 104 ∧ w.2.2 = false := by
  unfold may at h
  by_cases c1 : l = 119
  · rw [if_pos c1] at h; exact Or.inl ⟨c1, of_decide_eq_true h⟩
  · rw [if_neg c1] at h
    by_cases c2 : l = 116
    · rw [if_pos c2] at h; exact Or.inr (Or.inl ⟨c2, of_decide_eq_true h⟩)
    · rw [if_neg c2] at h
      by_cases c3 : l = 99
      · rw [if_pos c3] at h; exact Or.inr (Or.inr (Or.inl ⟨c3, by simpa using h⟩))
      · rw [if_neg c3] at h
        by_cases c4 : l = 104
        · rw [if_pos c4] at h; exact Or.inr (Or.inr (Or.inr ⟨c4, by simpa using h⟩))
        · rw [if_neg c4] at h; cases h
theorem c_addW {N d x y : Nat} {S : PSt} {t : Tau} (hkd : kd d = 4) (hR : CRt S d t) (hW : tW t < 4) : ∃ T, P_X4_addWalker N S d (nI x) (nI y) = some T ∧ (∀ b, b ≠ d → b ≠ d + 1 → b ≠ d + 2 → ag S T b) ∧ CRt T d ((tW t + 1, tn t, tc t, th t), (upN (tR t) (tW t) x, upN (tS t) (tW t) y), (tL t, tB t, tM t, tH t)) := by
  obtain ⟨h1, h2, h3, h4, h5, h6, h7, h8, h9, h10⟩ := hR
  refine ⟨sI (sA (sA S (d + 1) (tW t) (nI x)) (d + 2) (tW t) (nI y)) 400 d (nI (tW t + 1)), ?_, fun b c1 c2 c3 => ((ag_sA c2).trans (ag_sA c3)).trans (ag_sI c1), ?_, ?_, ?_, ?_, fun i hi => ?_, fun i hi => ?_, fun i hi => ?_, fun i hi => ?_, fun i hi => ?_, fun i hi => ?_⟩
  · have g1 : gI (sA S (d + 1) (tW t) (nI x)) 400 d = nI (tW t) := h1
    have g2 : gI (sA (sA S (d + 1) (tW t) (nI x)) (d + 2) (tW t) (nI y)) 400 d = nI (tW t) := h1
    unfold P_X4_addWalker
    rw [h1, li4, if_neg (nI_ge hW (by omega)), bin_nI (by omega), lt1 hkd, gd_dec hW, nI_clamp (by omega), bnd_eq, g1, bin_nI (by omega), lt2 hkd, gd_dec hW, nI_clamp (by omega), bnd_eq, g2, li1, nI_add, bnd_eq]
  · rw [gI_sI, if_pos ⟨rfl, rfl⟩]; rfl
  · rw [gI_sI, if_neg (by omega)]; exact h2
  · rw [gI_sI, if_neg (by omega)]; exact h3
  · rw [gI_sI, if_neg (by omega)]; exact h4
  · have hi : i < tW t + 1 := hi
    show gA _ (d + 1) i = nI (upN (tR t) (tW t) x i)
    rw [gA_sI, gA_sA, if_neg (by omega), gA_sA, if_pos rfl]
    unfold upd upN
    by_cases c : i = tW t
    · rw [if_pos c, if_pos c]
    · rw [if_neg c, if_neg c]; exact h5 i (by omega)
  · have hi : i < tW t + 1 := hi
    show gA _ (d + 2) i = nI (upN (tS t) (tW t) y i)
    rw [gA_sI, gA_sA, if_pos rfl]
    unfold upd upN
    by_cases c : i = tW t
    · rw [if_pos c, if_pos c]
    · rw [if_neg c, if_neg c, gA_sA, if_neg (by omega)]; exact h6 i (by omega)
  · rw [gA_sI, gA_sA, if_neg (by omega), gA_sA, if_neg (by omega)]; exact h7 i hi
  · rw [gA_sI, gA_sA, if_neg (by omega), gA_sA, if_neg (by omega)]; exact h8 i hi
  · rw [gA_sI, gA_sA, if_neg (by omega), gA_sA, if_neg (by omega)]; exact h9 i hi
  · rw [gA_sI, gA_sA, if_neg (by omega), gA_sA, if_neg (by omega)]; exact h10 i hi
theorem c_addS {N d x y z v : Nat} {S : PSt} {t : Tau} (hkd : kd d = 4) (hR : CRt S d t) (hn : tn t < 6) : ∃ T, P_X4_addStretch N S d (nI x) (nI y) (nI z) (nI v) = some T ∧ (∀ b, b ≠ d → b ≠ d + 3 → b ≠ d + 4 → b ≠ d + 5 → b ≠ d + 6 → ag S T b) ∧ CRt T d ((tW t, tn t + 1, tc t, th t), (tR t, tS t), (upN (tL t) (tn t) x, upN (tB t) (tn t) y, upN (tM t) (tn t) z, upN (tH t) (tn t) v)) := by
  obtain ⟨h1, h2, h3, h4, h5, h6, h7, h8, h9, h10⟩ := hR
  refine ⟨sI (sA (sA (sA (sA S (d + 3) (tn t) (nI x)) (d + 4) (tn t) (nI y)) (d + 5) (tn t) (nI z)) (d + 6) (tn t) (nI v)) 401 d (nI (tn t + 1)), ?_, fun b c1 c2 c3 c4 c5 => ((((ag_sA c2).trans (ag_sA c3)).trans (ag_sA c4)).trans (ag_sA c5)).trans (ag_sI c1), ?_, ?_, ?_, ?_, fun i hi => ?_, fun i hi => ?_, fun i hi => ?_, fun i hi => ?_, fun i hi => ?_, fun i hi => ?_⟩
  · have g1 : gI (sA S (d + 3) (tn t) (nI x)) 401 d = nI (tn t) := h2
    have g2 : gI (sA (sA S (d + 3) (tn t) (nI x)) (d + 4) (tn t) (nI y)) 401 d = nI (tn t) := h2
    have g3 : gI (sA (sA (sA S (d + 3) (tn t) (nI x)) (d + 4) (tn t) (nI y)) (d + 5) (tn t) (nI z)) 401 d = nI (tn t) := h2
    have g4 : gI (sA (sA (sA (sA S (d + 3) (tn t) (nI x)) (d + 4) (tn t) (nI y)) (d + 5) (tn t) (nI z)) (d + 6) (tn t) (nI v)) 401 d = nI (tn t) := h2
    unfold P_X4_addStretch
    rw [h2, li6, if_neg (nI_ge hn (by omega)), bin_nI (by omega), lt3 hkd, gd_dec hn, nI_clamp (by omega), bnd_eq, g1, bin_nI (by omega), lt4 hkd, gd_dec hn, nI_clamp (by omega), bnd_eq, g2, bin_nI (by omega), lt5 hkd, gd_dec hn, nI_clamp (by omega), bnd_eq, g3, bin_nI (by omega), lt6 hkd, gd_dec hn, nI_clamp (by omega), bnd_eq, g4, li1, nI_add, bnd_eq]
  · rw [gI_sI, if_neg (by omega)]; exact h1
  · rw [gI_sI, if_pos ⟨rfl, rfl⟩]; rfl
  · rw [gI_sI, if_neg (by omega)]; exact h3
  · rw [gI_sI, if_neg (by omega)]; exact h4
  · rw [gA_sI, gA_sA, if_neg (by omega), gA_sA, if_neg (by omega), gA_sA, if_neg (by omega), gA_sA, if_neg (by omega)]; exact h5 i hi
  · rw [gA_sI, gA_sA, if_neg (by omega), gA_sA, if_neg (by omega), gA_sA, if_neg (by omega), gA_sA, if_neg (by omega)]; exact h6 i hi
  · have hi : i < tn t + 1 := hi
    show gA _ (d + 3) i = nI (upN (tL t) (tn t) x i)
    rw [gA_sI, gA_sA, if_neg (by omega), gA_sA, if_neg (by omega), gA_sA, if_neg (by omega), gA_sA, if_pos rfl]
    unfold upd upN
    by_cases c : i = tn t
    · rw [if_pos c, if_pos c]
    · rw [if_neg c, if_neg c]; exact h7 i (by omega)
  · have hi : i < tn t + 1 := hi
    show gA _ (d + 4) i = nI (upN (tB t) (tn t) y i)
    rw [gA_sI, gA_sA, if_neg (by omega), gA_sA, if_neg (by omega), gA_sA, if_pos rfl]
    unfold upd upN
    by_cases c : i = tn t
    · rw [if_pos c, if_pos c]
    · rw [if_neg c, if_neg c, gA_sA, if_neg (by omega)]; exact h8 i (by omega)
  · have hi : i < tn t + 1 := hi
    show gA _ (d + 5) i = nI (upN (tM t) (tn t) z i)
    rw [gA_sI, gA_sA, if_neg (by omega), gA_sA, if_pos rfl]
    unfold upd upN
    by_cases c : i = tn t
    · rw [if_pos c, if_pos c]
    · rw [if_neg c, if_neg c, gA_sA, if_neg (by omega), gA_sA, if_neg (by omega)]; exact h9 i (by omega)
  · have hi : i < tn t + 1 := hi
    show gA _ (d + 6) i = nI (upN (tH t) (tn t) v i)
    rw [gA_sI, gA_sA, if_pos rfl]
    unfold upd upN
    by_cases c : i = tn t
    · rw [if_pos c, if_pos c]
    · rw [if_neg c, if_neg c, gA_sA, if_neg (by omega), gA_sA, if_neg (by omega), gA_sA, if_neg (by omega)]; exact h10 i (by omega)
theorem CRt_sI {S : PSt} {d f a : Nat} {v : Int32} {t : Tau} (h : CRt S d t) (ha : a ≠ d) : CRt (sI S f a v) d t := by
  obtain ⟨h1, h2, h3, h4, h5⟩ := h
  exact ⟨by rw [gI_sI, if_neg (by omega)]; exact h1, by rw [gI_sI, if_neg (by omega)]; exact h2, by rw [gI_sI, if_neg (by omega)]; exact h3, by rw [gI_sI, if_neg (by omega)]; exact h4, h5⟩
theorem c_tell {N d l : Nat} {S : PSt} {w : Dl} {vs : List Nat} (hd : d = 4 ∨ d = 14) (hkd : kd d = 4) (hm : may w l = true) (hD : CRd S d w) (hv : ∀ j, j < (bnds l).length → gA S 3 j = nI (vs.getD j 0)) : ∃ T, P_X2_tell N S d (nI l) = some T ∧ (∀ b, b ≠ 1 → (b < d ∨ d + 6 < b) → ag S T b) ∧ (∀ f, f ≠ 206 → f ≠ 207 → gI T f 1 = gI S f 1) ∧ CRd T d (tell w l vs) := by
  obtain ⟨hR, g6, g7⟩ := hD
  unfold P_X2_tell
  rw [li99, li116, li119, li0, li1, li2, li3, nI_clamp (by omega), nI_clamp (by omega), nI_clamp (by omega), nI_clamp (by omega)]
  rcases may_l hm with ⟨rfl, h⟩ | ⟨rfl, h⟩ | ⟨rfl, h⟩ | ⟨rfl, h⟩
  · have v0 := hv 0 (by decide)
    have v1 := hv 1 (by decide)
    obtain ⟨T, e, k1, k2⟩ := c_addW (N := N) (x := vs.getD 0 0) (y := vs.getD 1 0) hkd hR h
    refine ⟨T, ?_, fun b _ hb => k1 b (by omega) (by omega) (by omega), fun f _ _ => (k1 1 (by omega) (by omega) (by omega)).1 f, k2, ?_, ?_⟩
    · rw [if_neg (by decide), if_neg (by decide), if_pos rfl, v0, v1, e, cal1_s]
    · rw [(k1 1 (by omega) (by omega) (by omega)).1]; exact g6
    · rw [(k1 1 (by omega) (by omega) (by omega)).1]; exact g7
  · have v0 := hv 0 (by decide)
    have v1 := hv 1 (by decide)
    have v2 := hv 2 (by decide)
    have v3 := hv 3 (by decide)
    obtain ⟨T, e, k1, k2⟩ := c_addS (N := N) (x := vs.getD 0 0) (y := vs.getD 1 0) (z := vs.getD 2 0) (v := vs.getD 3 0) hkd hR h
    refine ⟨T, ?_, fun b _ hb => k1 b (by omega) (by omega) (by omega) (by omega) (by omega), fun f _ _ => (k1 1 (by omega) (by omega) (by omega) (by omega) (by omega)).1 f, k2, ?_, ?_⟩
    · rw [if_neg (by decide), if_pos rfl, v0, v1, v2, v3, e, cal1_s]
    · rw [(k1 1 (by omega) (by omega) (by omega) (by omega) (by omega)).1]; exact g6
    · rw [(k1 1 (by omega) (by omega) (by omega) (by omega) (by omega)).1]; exact g7
  · have v0 := hv 0 (by decide)
    refine ⟨sI (sI S 206 1 (nI 1)) 402 d (nI (vs.getD 0 0)), ?_, fun b h1 hb => (ag_sI h1).trans (ag_sI (by omega)), fun f h1 h2 => by rw [gI_sI, if_neg (by omega), gI_sI, if_neg (by omega)], ?_, ?_, ?_⟩
    · have v0' : gA (sI S 206 1 (nI 1)) 3 0 = nI (vs.getD 0 0) := v0
      rw [if_pos rfl, bnd_eq, v0', bnd_eq]
    · obtain ⟨h1, h2, h3, h4, h5⟩ := CRt_sI (f := 206) (a := 1) (v := nI 1) hR (by omega)
      exact ⟨by rw [gI_sI, if_neg (by omega)]; exact h1, by rw [gI_sI, if_neg (by omega)]; exact h2, by rw [gI_sI, if_pos ⟨rfl, rfl⟩]; rfl, by rw [gI_sI, if_neg (by omega)]; exact h4, h5⟩
    · rw [gI_sI, if_neg (by omega), gI_sI, if_pos ⟨rfl, rfl⟩]; rfl
    · rw [gI_sI, if_neg (by omega), gI_sI, if_neg (by omega)]; exact g7
  · have v0 := hv 0 (by decide)
    refine ⟨sI (sI S 207 1 (nI 1)) 403 d (nI (vs.getD 0 0)), ?_, fun b h1 hb => (ag_sI h1).trans (ag_sI (by omega)), fun f h1 h2 => by rw [gI_sI, if_neg (by omega), gI_sI, if_neg (by omega)], ?_, ?_, ?_⟩
    · have v0' : gA (sI S 207 1 (nI 1)) 3 0 = nI (vs.getD 0 0) := v0
      rw [if_neg (by decide), if_neg (by decide), if_neg (by decide), bnd_eq, v0', bnd_eq]
    · obtain ⟨h1, h2, h3, h4, h5⟩ := CRt_sI (f := 207) (a := 1) (v := nI 1) hR (by omega)
      exact ⟨by rw [gI_sI, if_neg (by omega)]; exact h1, by rw [gI_sI, if_neg (by omega)]; exact h2, by rw [gI_sI, if_neg (by omega)]; exact h3, by rw [gI_sI, if_pos ⟨rfl, rfl⟩]; rfl, h5⟩
    · rw [gI_sI, if_neg (by omega), gI_sI, if_neg (by omega)]; exact g6
    · rw [gI_sI, if_neg (by omega), gI_sI, if_pos ⟨rfl, rfl⟩]; rfl
theorem c_bounds {N l : Nat} {S : PSt} {w : Dl} (hm : may w l = true) : ∃ b, P_X2_boundsOf N S (nI l) = some (b, S) ∧ b < 4 ∧ (bnds l).length ≤ 4 ∧ stL b = 2 * (bnds l).length ∧ ∀ i, i < (bnds l).length → stV b (2 * i) = nI ((bnds l).getD i (0, 0)).1 ∧ stV b (2 * i + 1) = nI ((bnds l).getD i (0, 0)).2 ∧ ((bnds l).getD i (0, 0)).1 ≤ 99 ∧ ((bnds l).getD i (0, 0)).2 ≤ 99 := by
  unfold P_X2_boundsOf
  rw [li99, li116, li119]
  rcases may_l hm with ⟨rfl, h⟩ | ⟨rfl, h⟩ | ⟨rfl, h⟩ | ⟨rfl, h⟩
  · exact ⟨0, by rw [if_neg (by decide), if_neg (by decide), if_pos rfl], by decide, by decide, by decide, by decide⟩
  · exact ⟨1, by rw [if_neg (by decide), if_pos rfl], by decide, by decide, by decide, by decide⟩
  · exact ⟨2, by rw [if_pos rfl], by decide, by decide, by decide, by decide⟩
  · exact ⟨3, by rw [if_neg (by decide), if_neg (by decide), if_neg (by decide)], by decide, by decide, by decide, by decide⟩
theorem c_item {N d : Nat} {S : PSt} {w : Dl} {tx : List Nat} {k : Tk} (hN : 300 ≤ N) (hx : XOK tx) (hd : d = 4 ∨ d = 14) (hkd : kd d = 4) (hw : DOK w) (hD : CRd S d w) (hk : TC S k) (hk1 : k.1 ≤ 4) (hkv : k.2.2.1 ≤ 255) (hkb : k.2.2.2 ≤ tx.length) (ht : CRtxt S tx) : ∃ T, rF S T d ∧ ((∃ r, item tx w k = .inl r ∧ P_X2_readItem N S d = some (nI 1, T) ∧ CRd T d r.1 ∧ gI T 205 1 = nI r.2) ∨ ∃ p, item tx w k = .inr p ∧ P_X2_readItem N S d = some (nI 0, T) ∧ gI T 203 1 = nI p) := by
  have hl : ltr k ≤ 255 := by unfold ltr; split; exact hkv; exact Nat.zero_le _
  have pre : P_X2_readItem N S d = P_X2_readItem_L16 N S d (nI (ltr k)) := by
    unfold P_X2_readItem ltr
    rw [hk.1, li1, hk.2.2.1, li0]
    by_cases c : k.1 = 1
    · rw [if_pos (by rw [c]), if_pos c]
    · rw [if_neg (by rw [nI_eq (by omega) (by omega)]; exact c), if_neg c]
  rw [pre]
  unfold P_X2_readItem_L16 item
  rw [c_may hw hD hl, cal2_s, li0]
  cases hm : may w (ltr k) with
  | false =>
    refine ⟨S, rF_refl S d, Or.inr ⟨k.2.1, by rw [if_neg (by decide)], by rw [if_pos bI_f], hk.2.1⟩⟩
  | true =>
    rw [if_neg bI_t, if_pos rfl]
    obtain ⟨b, e1, b1, b2, b3, b4⟩ := c_bounds (N := N) (S := S) hm
    obtain ⟨T, e2, u1, u2, u3, u4, -⟩ := c_rdN (N := N) (b := b) (fb := bnds (ltr k)) hN hx b2 b3 b4 (bnds (ltr k)) 0 k.2.2.2 N S List.drop_zero (Nat.zero_le _) hkb (by omega) ht hk.2.2.2
    have fT : rF S T d := ⟨fun c h1 h2 _ => u1 c h1 h2, u2 200 (by omega)⟩
    have DT : CRd T d w := ⟨hD.1.ag (fun i hi => u1 _ (by omega) (by omega)), (u2 206 (by omega)).trans hD.2.1, (u2 207 (by omega)).trans hD.2.2⟩
    have eR : P_X2_readNumbers N S b = some (bI (rdN tx (bnds (ltr k)) (tok tx k.2.2.2)).1, T) := by
      unfold P_X2_readNumbers
      rw [li0]; exact e2
    rw [e1, cal2_s, decide_eq_true b1, gd_true, eR, cal2_s]
    cases hr : (rdN tx (bnds (ltr k)) (tok tx k.2.2.2)).1 with
    | false =>
      exact ⟨T, fT, Or.inr ⟨_, by rw [if_neg (by decide)], by rw [if_pos bI_f], u3.2.1⟩⟩
    | true =>
      rw [if_neg bI_t, if_pos rfl]
      obtain ⟨U, e3, w1, w2, w3⟩ := c_tell (N := N) (vs := (rdN tx (bnds (ltr k)) (tok tx k.2.2.2)).2.2) hd hkd hm DT (fun j hj => by have := u4 hr j hj; rw [Nat.zero_add] at this; exact this)
      refine ⟨U, rF_trans fT ⟨fun c h1 h2 h3 => w1 c h1 h3, w2 200 (by omega) (by omega)⟩, Or.inl ⟨_, rfl, ?_, w3, ?_⟩⟩
      · rw [e3, cal1_s, li1]
      · rw [w2 205 (by omega) (by omega)]; exact u3.2.2.2
theorem item_pl {tx : List Nat} {w : Dl} {k : Tk} {r : Dl × Nat} (hkb : k.2.2.2 ≤ tx.length) (h : item tx w k = .inl r) (hw : DOK w) : k.2.2.2 ≤ r.2 ∧ r.2 ≤ tx.length ∧ DOK r.1 := by
  unfold item at h
  by_cases c1 : may w (ltr k) = true
  · rw [if_pos c1] at h
    by_cases c2 : (rdN tx (bnds (ltr k)) (tok tx k.2.2.2)).1 = true
    · rw [if_pos c2] at h
      obtain ⟨h1, h2, h3⟩ := rdN_pl (bnds (ltr k)) k.2.2.2 hkb
      have hr := Sum.inl.inj h
      rw [← hr]
      exact ⟨by show k.2.2.2 ≤ (rdN tx (bnds (ltr k)) (tok tx k.2.2.2)).2.1.2.2.2; omega, h3, tell_ok hw c1 c2⟩
    · rw [if_neg c2] at h; cases h
  · rw [if_neg c1] at h; cases h
theorem item_bad {tx : List Nat} {w : Dl} {k : Tk} {p : Nat} (hkp : k.2.1 ≤ k.2.2.2) (hkb : k.2.2.2 ≤ tx.length) (h : item tx w k = .inr p) : p ≤ tx.length := by
  unfold item at h
  by_cases c1 : may w (ltr k) = true
  · rw [if_pos c1] at h
    by_cases c2 : (rdN tx (bnds (ltr k)) (tok tx k.2.2.2)).1 = true
    · rw [if_pos c2] at h; cases h
    · rw [if_neg c2] at h
      obtain ⟨h1, h2, h3⟩ := rdN_pl (bnds (ltr k)) k.2.2.2 hkb
      have hr := Sum.inr.inj h
      omega
  · rw [if_neg c1] at h
    have hr := Sum.inr.inj h
    omega
theorem c_parse {N d : Nat} {tx : List Nat} (hN : 300 ≤ N) (hx : XOK tx) (hd : d = 4 ∨ d = 14) (hkd : kd d = 4) : ∀ (z : Nat) (w : Dl) (pos n fuel : Nat) (S : PSt), pos ≤ tx.length → 201 ≤ (tok tx pos).2.1 + z → z < fuel → n ≤ (tok tx pos).2.1 → CRd S d w → DOK w → TC S (tok tx pos) → CRtxt S tx → ∃ T, rF S T d ∧ ((∃ r, parse tx z w (tok tx pos) n = .inl r ∧ P_X2_readInto_L27 N fuel S d (nI n) (nI n) = P_X2_readInto_L70 N T d (nI r.2) ∧ CRd T d r.1 ∧ DOK r.1 ∧ r.2 ≤ 200) ∨ ∃ p, parse tx z w (tok tx pos) n = .inr p ∧ P_X2_readInto_L27 N fuel S d (nI n) (nI n) = some (-10 - nI p, T) ∧ p ≤ 200) := by
  have hl := hx.1
  intro z
  induction z with
  | zero =>
    intro w pos n fuel S hp h1
    obtain ⟨t1, t2, t3, t4, t5⟩ := tok_pl hp
    omega
  | succ z ih =>
    intro w pos n fuel S hp h1 hf hn hD hw hk ht
    obtain ⟨fuel, rfl⟩ : ∃ z, fuel = z + 1 := ⟨fuel - 1, by omega⟩
    obtain ⟨t1, t2, t3, t4, t5⟩ := tok_pl hp
    have t6 := tok_val (pos := pos) hx
    rw [P_X2_readInto_L27, parse]
    dsimp only
    rw [hk.1, li200, li0]
    by_cases c0 : (tok tx pos).1 = 0
    · refine ⟨S, rF_refl S d, Or.inl ⟨(w, n), by rw [if_pos c0], ?_, hD, hw, by show n ≤ 200; omega⟩⟩
      by_cases c1 : 200 ≤ n
      · rw [if_pos (nI_le c1 (by omega))]
      · rw [if_neg (nI_ge (by omega) (by omega)), c0, if_pos rfl]
    · have hlt := t4 c0
      have c0' : ¬ nI (tok tx pos).1 = nI 0 := by rw [nI_eq (by omega) (by omega)]; exact c0
      rw [if_neg (nI_ge (by omega) (by omega)), if_neg c0', if_neg c0]
      obtain ⟨T, fT, hT⟩ := c_item (N := N) hN hx hd hkd hw hD hk t5 t6 t3 ht
      rcases hT with ⟨r, e1, e2, DT, g5⟩ | ⟨p, e1, e2, g3⟩
      · obtain ⟨q1, q2, q3⟩ := item_pl t3 e1 hw
        obtain ⟨U, e3, k1, k2⟩ := c_next (N := N) hN hx q2 (rF_txt hd fT ht) g5
        obtain ⟨s1, s2, s3, s4, s5⟩ := tok_pl q2
        obtain ⟨V, fV, hV⟩ := ih r.1 r.2 (n + 1) fuel U q2 (by omega) (by omega) (by omega) ⟨DT.1.ag (fun i hi => k1.1 _ (by omega)), (k1.2 206 (by omega)).trans DT.2.1, (k1.2 207 (by omega)).trans DT.2.2⟩ q3 k2 (nF_txt k1 (rF_txt hd fT ht))
        refine ⟨V, rF_trans (rF_trans fT (rF_n k1)) fV, ?_⟩
        rw [e1, e2, cal2_s, if_neg n1_0, li1, nI_add, bnd_eq, e3, cal1_s, bnd_eq]
        exact hV
      · refine ⟨T, fT, Or.inr ⟨p, by rw [e1], ?_, by have := item_bad t2 t3 e1; omega⟩⟩
        rw [e2, cal2_s, if_pos rfl, g3]
end
