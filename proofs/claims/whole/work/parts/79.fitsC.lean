section
/-! STAGE 2, what was seen: the component adds rows -/
theorem c_bitsOf {N p : Nat} {S : PSt} (h : p < 34 ∧ p / 10 < 4 ∧ p % 10 < 4) : P_X3_bitsOf N S (nI p) = some (nI (bitsP p), S) := by
  obtain ⟨p1, p2⟩ := bits_p p h.1 h.2.1 h.2.2
  have e1 : nI p / nI 10 = nI (p / 10) := pk_div (by omega) (by omega) (by omega)
  have e2 : nI p - nI (p / 10) * nI 10 = nI (p % 10) := by rw [← e1]; exact pk_rem (by omega) (by omega) (by omega)
  have e31 : (31 : Int32) = nI 31 := li31
  unfold P_X3_bitsOf
  simp only [li10, e1, e2, e31, li1]
  rw [p1]
theorem vpr_bits {t : Tau} {p : Nat} (ok : TOK t) (h : vpr t p) : p < 34 ∧ p / 10 < 4 ∧ p % 10 < 4 := by
  have h2 := vpr_lt ok h
  obtain ⟨h3, h4⟩ := h
  have h5 := ok.1
  omega
theorem c_rowFill {N r i p : Nat} {t : Tau} {x : Int32} (hkr : kd r = 4) (hr : r = 4 ∨ r = 14) (on : tn t ≤ 6) : ∀ (z c fuel : Nat) (T : PSt), c + z = tn t → z < fuel → gI T 401 r = nI (tn t) → (0 < z → gA T (r + 7) 0 = nI p) → ∃ T', P_X3_addRows_L22 N fuel T r (nI i) x (nI c) = P_X3_addRows_L53 N N T' r (nI i) x (nI 0) ∧ (∀ b, b ≠ 104 → ag T T' b) ∧ (∀ f b, gI T' f b = gI T f b) ∧ ∀ j, gA T' 104 j = if c ≤ j ∧ j < tn t then nI p else gA T 104 j := by
  intro z
  induction z with
  | zero =>
    intro c fuel T hz hf h1 h2
    obtain ⟨fuel, rfl⟩ : ∃ z, fuel = z + 1 := ⟨fuel - 1, by omega⟩
    refine ⟨T, ?_, fun b _ => ag.refl T b, fun _ _ => rfl, fun j => by rw [if_neg (by omega)]⟩
    rw [P_X3_addRows_L22]
    dsimp only
    rw [h1, if_pos (nI_le (by omega) (by omega)), li0]
  | succ z ih =>
    intro c fuel T hz hf h1 h2
    obtain ⟨fuel, rfl⟩ : ∃ z, fuel = z + 1 := ⟨fuel - 1, by omega⟩
    obtain ⟨T', e, k1, k2, k3⟩ := ih (c + 1) fuel (sA T 104 c (nI p)) (by omega) (by omega) h1 (fun _ => by rw [gA_sA, if_neg (by omega)]; exact h2 (by omega))
    refine ⟨T', ?_, fun b hb => (ag_sA hb).trans (k1 b hb), fun f b => (k2 f b).trans rfl, fun j => ?_⟩
    · rw [P_X3_addRows_L22]
      dsimp only
      rw [h1, if_neg (nI_ge (by omega) (by omega)), li0, bin_nI (by omega), lt7 hkr, gd_dec (by omega), bin_nI (by omega), l104, gd_dec (by omega), nI_clamp (by omega), nI_clamp (by omega), h2 (by omega), bnd_eq, li1, nI_add, bnd_eq]
      exact e
    · rw [k3 j, gA_sA, if_pos rfl]
      unfold upd
      by_cases c1 : j = c
      · rw [if_neg (by omega), if_pos c1, if_pos (by omega)]
      · by_cases c2 : c + 1 ≤ j ∧ j < tn t
        · rw [if_pos c2, if_pos (by omega)]
        · rw [if_neg c2, if_neg c1, if_neg (by omega)]
set_option maxHeartbeats 1000000 in
theorem c_addRows {N r i : Nat} {S : PSt} {t : Tau} {lo : Nat → Nat} {pr : List Nat} {L : List (List Nat)} (hN : 20 ≤ N) (hr : r = 4 ∨ r = 14) (hkr : kd r = 4) (ok : TOK t) (hR : CRt S r t) (hlo : loF S r t lo) (hi : i ≤ tn t) (hpr : pr.length = i) (hrow : ∀ j, j < i → gA S 104 j = nI (pr.getD j 0)) (hv : ∀ j, j < i → vpr t (pr.getD j 0)) (hA : AF S (tn t) L) (hL : L.length < 2 ^ 20) : ∃ S', P_X3_addRows N S r (nI i) = some S' ∧ (∀ b, b ≠ 98 → b ≠ 99 → b ≠ 100 → b ≠ 104 → ag S S' b) ∧ (∀ f, f ≠ 302 → gI S' f 98 = gI S f 98) ∧ sW S S' i ∧ AF S' (tn t) (L ++ (allR (prs t) (tn t - i)).map (fun r => pr ++ r)) := by
  have on := ok.2.1
  have h6 := prs_len t
  have hal := allR_len (prs t) (tn t - i)
  obtain ⟨pw, hpw⟩ : ∃ pw, pw = (prs t).length ^ (tn t - i) := ⟨_, rfl⟩
  have hpb : pw ≤ 46656 := by
    rw [hpw]
    exact Nat.le_trans (Nat.pow_le_pow_left h6 _) (six_le (tn t - i) (by omega))
  have ePow : P_X6_power N S (nI (prs t).length) (nI (tn t - i)) = some (nI pw, S) := by rw [hpw]; exact c_powerN (by omega) (by omega)
  have pre : P_X3_addRows N S r (nI i) = if nI pw = nI 0 then some S else P_X3_addRows_L22 N N S r (nI i) (nI pw) (nI i) := by
    unfold P_X3_addRows
    rw [hlo.1, hR.2.1, pk_sub hi, ePow, cal2_s, li0]
  rw [pre]
  by_cases c0 : pw = 0
  · refine ⟨S, by rw [c0, if_pos rfl], fun b _ _ _ _ => ag.refl S b, fun _ _ => rfl, fun _ _ => rfl, ?_⟩
    have : allR (prs t) (tn t - i) = [] := List.length_eq_zero_iff.mp (by rw [hal, ← hpw]; exact c0)
    rw [this, List.map_nil, List.append_nil]
    exact hA
  · rw [if_neg (by rw [nI_eq (by omega) (by omega)]; exact c0)]
    obtain ⟨p, hpd⟩ : ∃ p, p = (prs t).getD 0 0 := ⟨_, rfl⟩
    have hps : 0 < tn t - i → ∃ ps, prs t = p :: ps := by
      intro hk
      cases e : prs t with
      | nil =>
        exfalso
        apply c0
        rw [hpw, e]
        exact Nat.zero_pow hk
      | cons a l => rw [hpd, e]; exact ⟨l, rfl⟩
    obtain ⟨T, eT, k1, k2, k3⟩ := c_rowFill (N := N) (i := i) (p := p) (x := nI pw) hkr hr on (tn t - i) i N S (by omega) (by omega) hR.2.1 (fun hz => by
      obtain ⟨ps, e⟩ := hps hz
      rw [hlo.2.1 0 (by rw [e]; exact Nat.zero_lt_succ _), hpd])
    obtain ⟨full, hfull⟩ : ∃ full, full = pr ++ List.replicate (tn t - i) p := ⟨_, rfl⟩
    have f104 : ∀ j, j < tn t → gA T 104 j = nI (full.getD j 0) := by
      intro j hj
      rw [k3 j, hfull]
      by_cases c : i ≤ j
      · rw [if_pos ⟨c, hj⟩, getD_suf (by omega), getD_rep (by omega)]
      · rw [if_neg (by omega), getD_pre (by omega), hrow j (by omega)]
    have fv : ∀ j, j < tn t → vpr t (full.getD j 0) := by
      intro j hj
      rw [hfull]
      by_cases c : i ≤ j
      · rw [getD_suf (by omega), getD_rep (by omega)]
        obtain ⟨ps, e⟩ := hps (by omega)
        exact prs_mem (by rw [e]; exact List.mem_cons_self)
      · rw [getD_pre (by omega)]; exact hv j (by omega)
    have RT : gI T 401 r = nI (tn t) := (k2 _ _).trans hR.2.1
    obtain ⟨v, hvd⟩ : ∃ v : Nat → Nat, v = fun j => if pr.length ≤ j ∧ 1 < (prs t).length then 0 else bitsP (full.getD j 0) := ⟨_, rfl⟩
    have step : ∀ (c : Nat) (s : PSt × Int32) (fuel : Nat), c < tn t → (s.2 = nI c ∧ (∀ b, b ≠ 99 → b ≠ 100 → ag T s.1 b) ∧ (∀ f b, gI s.1 f b = gI T f b) ∧ (∀ j, gA s.1 99 j = if j < c ∧ L.length = 0 then nI (full.getD j 0) else gA T 99 j) ∧ (∀ j, gA s.1 100 j = if j < c then nI (sureL L j &&& v j) else gA T 100 j)) → ∃ s' : PSt × Int32, P_X3_addRows_L53 N (fuel + 1) s.1 r (nI i) (nI pw) s.2 = P_X3_addRows_L53 N fuel s'.1 r (nI i) (nI pw) s'.2 ∧ (s'.2 = nI (c + 1) ∧ (∀ b, b ≠ 99 → b ≠ 100 → ag T s'.1 b) ∧ (∀ f b, gI s'.1 f b = gI T f b) ∧ (∀ j, gA s'.1 99 j = if j < c + 1 ∧ L.length = 0 then nI (full.getD j 0) else gA T 99 j) ∧ (∀ j, gA s'.1 100 j = if j < c + 1 then nI (sureL L j &&& v j) else gA T 100 j)) := by
      rintro c ⟨U, x⟩ fuel hc ⟨hx, u1, u2, u3, u4⟩
      simp only at hx u1 u2 u3 u4 ⊢
      subst hx
      have g104 : gA U 104 c = nI (full.getD c 0) := by rw [(u1 104 (by omega) (by omega)).2.2.2.1]; exact f104 c hc
      have g100 : gA U 100 c = nI (sureL L c) := by rw [u4 c, if_neg (by omega), (k1 100 (by omega)).2.2.2.1]; exact hA.2.2 c hc
      have hb := vpr_bits ok (fv c hc)
      have hs := sureL_le L c
      have hvc : v c = if pr.length ≤ c ∧ 1 < (prs t).length then 0 else bitsP (full.getD c 0) := by rw [hvd]
      have key83 : ∀ U', gA U' 100 c = nI (sureL L c) → gA U' 104 c = nI (full.getD c 0) → gI U' 404 r = nI (prs t).length → P_X3_addRows_L83 (P_X3_addRows_L53 N fuel) N U' r (nI i) (nI pw) (nI c) = P_X3_addRows_L53 N fuel (sA U' 100 c (nI (sureL L c &&& v c))) r (nI i) (nI pw) (nI (c + 1)) := by
        intro U' w1 w2 w3
        have k109 : v c = bitsP (full.getD c 0) → P_X3_addRows_L109 (P_X3_addRows_L53 N fuel) N U' r (nI i) (nI pw) (nI c) (nI c) (nI (sureL L c)) = P_X3_addRows_L53 N fuel (sA U' 100 c (nI (sureL L c &&& v c))) r (nI i) (nI pw) (nI (c + 1)) := by
          intro hv1
          have hb2 := (bits_p _ hb.1 hb.2.1 hb.2.2).2
          unfold P_X3_addRows_L109 P_X3_addRows_L119
          rw [bin_nI (by omega), l104, gd_dec (by omega), nI_clamp (by omega), w2, c_bitsOf hb, cal2_s, bin_nI (by omega), l100, gd_dec (by omega), (and_p _ (by omega) _ (by omega)).1, ← hv1, bnd_eq, li1, nI_add, bnd_eq]
        unfold P_X3_addRows_L83
        rw [bin_nI (by omega), l100, gd_dec (by omega), nI_clamp (by omega), w1, w3, li1]
        by_cases d1 : c < i
        · rw [if_pos (nI_lt d1 (by omega))]
          exact k109 (by rw [hvc, if_neg (by omega)])
        · rw [if_neg (nI_nlt (by omega) (by omega))]
          by_cases d2 : (prs t).length ≤ 1
          · rw [if_pos (nI_le d2 (by omega))]
            exact k109 (by rw [hvc, if_neg (by omega)])
          · rw [if_neg (nI_ge (by omega) (by omega))]
            unfold P_X3_addRows_L119
            rw [bin_nI (by omega), l100, gd_dec (by omega), nI_clamp (by omega), li0, (and_p _ (by omega) 0 (by omega)).1, hvc, if_pos ⟨by omega, by omega⟩, bnd_eq, li1, nI_add, bnd_eq]
      by_cases cL : L.length = 0
      · refine ⟨(sA (sA U 99 c (nI (full.getD c 0))) 100 c (nI (sureL L c &&& v c)), nI (c + 1)), ?_, rfl, fun b e1 e2 => ((u1 b e1 e2).trans (ag_sA e1)).trans (ag_sA e2), u2, fun j => ?_, fun j => ?_⟩
        · rw [P_X3_addRows_L53]
          dsimp only
          rw [u2, RT, if_neg (nI_ge hc (by omega)), u2, k2, hA.1, cL, li0, if_pos rfl, bin_nI (by omega), l104, gd_dec (by omega), bin_nI (by omega), l99, gd_dec (by omega), nI_clamp (by omega), g104, bnd_eq]
          exact key83 _ (by rw [gA_sA, if_neg (by omega)]; exact g100) (by rw [gA_sA, if_neg (by omega)]; exact g104) (by rw [gI_sA, u2, k2]; exact hlo.1)
        · show gA (sA (sA U 99 c (nI (full.getD c 0))) 100 c (nI (sureL L c &&& v c))) 99 j = _
          rw [gA_sA, if_neg (by omega), gA_sA, if_pos rfl]
          unfold upd
          by_cases c1 : j = c
          · rw [if_pos c1, if_pos ⟨by omega, cL⟩, c1]
          · rw [if_neg c1, u3 j]
            by_cases c2 : j < c
            · rw [if_pos ⟨c2, cL⟩, if_pos ⟨by omega, cL⟩]
            · rw [if_neg (fun h => c2 h.1), if_neg (fun h => absurd h.1 (by omega))]
        · show gA (sA (sA U 99 c (nI (full.getD c 0))) 100 c (nI (sureL L c &&& v c))) 100 j = _
          rw [gA_sA, if_pos rfl]
          unfold upd
          by_cases c1 : j = c
          · rw [if_pos c1, if_pos (by omega), c1]
          · rw [if_neg c1, gA_sA, if_neg (by omega), u4 j]
            by_cases c2 : j < c
            · rw [if_pos c2, if_pos (by omega)]
            · rw [if_neg c2, if_neg (by omega)]
      · refine ⟨(sA U 100 c (nI (sureL L c &&& v c)), nI (c + 1)), ?_, rfl, fun b e1 e2 => (u1 b e1 e2).trans (ag_sA e2), u2, fun j => ?_, fun j => ?_⟩
        · rw [P_X3_addRows_L53]
          dsimp only
          rw [u2, RT, if_neg (nI_ge hc (by omega)), u2, k2, hA.1, li0, if_neg (by rw [nI_eq (by omega) (by omega)]; exact cL)]
          exact key83 _ g100 g104 (by rw [u2, k2]; exact hlo.1)
        · show gA (sA U 100 c (nI (sureL L c &&& v c))) 99 j = _
          rw [gA_sA, if_neg (by omega), u3 j, if_neg (fun h => cL h.2), if_neg (fun h => cL h.2)]
        · show gA (sA U 100 c (nI (sureL L c &&& v c))) 100 j = _
          rw [gA_sA, if_pos rfl]
          unfold upd
          by_cases c1 : j = c
          · rw [if_pos c1, if_pos (by omega), c1]
          · rw [if_neg c1, u4 j]
            by_cases c2 : j < c
            · rw [if_pos c2, if_pos (by omega)]
            · rw [if_neg c2, if_neg (by omega)]
    obtain ⟨⟨U, x⟩, e, hx, u1, u2, u3, u4⟩ := loopG (fun f (s : PSt × Int32) => P_X3_addRows_L53 N f s.1 r (nI i) (nI pw) s.2) _ (tn t) step (tn t) 0 (T, nI 0) (N - tn t) (by omega) ⟨rfl, fun b _ _ => ag.refl T b, fun _ _ => rfl, fun j => by rw [if_neg (by omega)], fun j => by rw [if_neg (by omega)]⟩
    simp only at e hx u1 u2 u3 u4
    subst hx
    rw [show N - tn t + tn t = N by omega] at e
    refine ⟨sI U 302 98 (nI (L.length + pw)), ?_, fun b b1 b2 b3 b4 => ((k1 b b4).trans (u1 b b2 b3)).trans (ag_sI b1), fun f hf => by rw [gI_sI, if_neg (by omega), u2, k2], fun j hj => ?_, ?_, fun _ j hj => ?_, fun j hj => ?_⟩
    · rw [eT, e]
      obtain ⟨f, hf⟩ : ∃ f, N - tn t = f + 1 := ⟨N - tn t - 1, by omega⟩
      rw [hf, P_X3_addRows_L53]
      dsimp only
      rw [u2, RT, if_pos (nI_le (Nat.le_refl _) (by omega)), u2, k2, hA.1, nI_add, bnd_eq]
    · rw [gA_sI, (u1 104 (by omega) (by omega)).2.2.2.1, k3 j, if_neg (by omega)]
    · rw [gI_sI, if_pos ⟨rfl, rfl⟩, List.length_append, List.length_map, hal, ← hpw]
    · rw [gA_sI, u3 j]
      obtain ⟨ls, hls⟩ := allR_h0 (t := t) hps
      by_cases cL : L.length = 0
      · rw [if_pos ⟨hj, cL⟩, List.length_eq_zero_iff.mp cL, List.nil_append, hls, hfull]
        rfl
      · rw [if_neg (fun h => cL h.2), (k1 99 (by omega)).2.2.2.1, hA.2.1 (fun h => cL (by rw [h]; rfl)) j hj]
        cases L with
        | nil => exact absurd rfl cL
        | cons a l => rfl
    · rw [gA_sI, u4 j, if_pos hj, sure_free ok (L := L) (pr := pr) (k := tn t - i) (i := j) (p := p) hps (by omega), ← hfull, hvd]
end
