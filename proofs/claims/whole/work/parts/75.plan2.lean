section
/-! STAGE 2, the component's search for the quickest rows: the search itself -/
set_option maxHeartbeats 4000000 in
theorem c_search {N a r g : Nat} {t : Tau} {fz : Bool} {lo : Nat → Nat} (ha : a = 120 ∨ a = 138) (hr : r = 4 ∨ r = 14) (hkr : kd r = 4) (ok : TOK t) (hN : 20 ≤ N) (l1 : ∀ i, i < tn t → lo i ≤ lo (i + 1)) (l2 : lo (tn t) ≤ 1000) (l3 : ∀ i p T, i < tn t → p ∈ prs t → lo (i + 1) ≤ lo i + mins t T i p) : ∀ (k d i : Nat) (q : Wk) (pr : List Nat) (o : Option (List Nat × Nat)) (S : PSt), i + k = tn t → k < d → DC S t r a g fz lo i q pr o → (k = 0 → ∀ y, o = some y → q.1 < y.2) → ∃ S', P_X1_search N d S a r (nI i) = some S' ∧ plF S S' a ∧ plU S S' a i ∧ plR S S' a i (tn t) ∧ PA S' a g (tn t) (((leaves t fz i k q).map (pfx pr)).foldl pick o) := by
  have on := ok.2.1
  obtain ⟨ka, p1, p2, p3⟩ := kp0 ha
  intro k
  induction k with
  | zero =>
    intro d i q pr o S hk hd hD hq
    obtain ⟨d, rfl⟩ : ∃ z, d = z + 1 := ⟨d - 1, by omega⟩
    obtain ⟨d1, d2, d3, d4, d5, d6, d7, d8, d9, d10, d11, d12⟩ := hD
    have kk := kp4 ha (i := i) (by omega)
    have hm : gI S 1 (a + 4 + 2 * i) = nI q.1 := d3.2.1
    obtain ⟨T, e, hT⟩ := c_take (N := N) (S := S) (v := nI q.1) (by omega) ha
    have kT : ∀ b, b ≠ a → b ≠ a + 1 → ag S T b := fun b h1 h2 => ⟨fun f => by rw [hT.1, gI_sI, if_neg (by omega)], fun f => by rw [hT.2.1, gJ_sI], fun f => by rw [hT.2.2.1, gR_sI], by rw [hT.2.2.2.2.1 b h2, gA_sI], by rw [hT.2.2.2.1, gQ_sI]⟩
    have ep : ((leaves t fz i 0 q).map (pfx pr)).foldl pick o = some (pr, q.1) := by
      show pick o (pr ++ [], q.1) = _
      rw [List.append_nil]
      cases o with
      | none => rfl
      | some y =>
        show (if q.1 < y.2 then some (pr, q.1) else some y) = _
        rw [if_pos (hq rfl y rfl)]
    refine ⟨T, ?_, ⟨fun b hb => kT b (by omega) (by omega), ?_, ?_, ?_⟩, fun j hj => ⟨kT _ (by omega) (by omega), kT _ (by omega) (by omega)⟩, fun j _ => ?_, ?_⟩
    · rw [P_X1_search]
      dsimp only
      rw [d1.2.1, if_pos (nI_le (by omega) (by omega))]
      unfold P_X1_search_L14
      rw [bin_nI (by omega), p3, gd_dec (by omega), nI_clamp (by omega), d10 i (by omega), bnd_eq, isk_of kk, gd_true, hm, e, cal1_s]
    · rw [hT.1, gI_sI, if_neg (by omega)]
    · rw [hT.1, gI_sI, if_neg (by omega)]
    · exact (kT (a + 3) (by omega) (by omega)).2.2.2.2
    · rw [(kT (a + 2) (by omega) (by omega)).2.2.2.1]
    · rw [ep]
      refine ⟨?_, fun j hj => ?_⟩
      · rw [hT.1, gI_sI, if_pos ⟨rfl, rfl⟩]; rfl
      · have e1 : gA T (a + 1) j = if j < 6 then gA S (a + 2) j else gA S (a + 1) j := hT.2.2.2.2.2 j
        rw [e1, if_pos hj, d8 j hj (by omega)]
        show _ = if g ≤ j ∧ j < tn t then nI (pr.getD (j - g) 0) else -9
        rw [show tn t = i by omega]
  | succ k ih =>
    intro d i q pr o S hk hd hD _
    obtain ⟨d, rfl⟩ : ∃ z, d = z + 1 := ⟨d - 1, by omega⟩
    have k0 := kp4 ha (i := i) (by omega)
    have k1 := kp4 ha (i := i + 1) (by omega)
    have inner : ∀ (rest : List Nat) (c fuel : Nat) (o : Option (List Nat × Nat)) (S : PSt), (prs t).drop c = rest → c ≤ (prs t).length → rest.length < fuel → DC S t r a g fz lo i q pr o → ∃ S', P_X1_search_L48 (P_X1_search N d) N fuel S a r (nI i) (a + 4 + 2 * i) (a + 4 + 2 * (i + 1)) (nI c) = some S' ∧ plF S S' a ∧ plU S S' a i ∧ plR S S' a i (tn t) ∧ PA S' a g (tn t) (((rest.flatMap (fun p => if fz && wornP t q.2.2 p then [] else (leaves t fz (i + 1) k (wk t i p q)).map (fun r => (p :: r.1, r.2)))).map (pfx pr)).foldl pick o) := by
      intro rest
      induction rest with
      | nil =>
        intro c fuel o S hr' hc hf hD
        obtain ⟨fuel, rfl⟩ : ∃ z, fuel = z + 1 := ⟨fuel - 1, by omega⟩
        obtain ⟨d1, d2, d3, d4, d5, d6, d7, d8, d9, d10, d11, d12⟩ := hD
        have h6 := prs_len t
        have hle : (prs t).length ≤ c := List.drop_eq_nil_iff.mp hr'
        refine ⟨S, ?_, plF_refl S a, plU_refl S a i, plR_refl S a i _, d11⟩
        rw [P_X1_search_L48]
        dsimp only
        rw [d2.1, if_pos (nI_le hle (by omega))]
      | cons p rest ihr =>
        intro c fuel o S hr' hc hf hD
        obtain ⟨fuel, rfl⟩ : ∃ z, fuel = z + 1 := ⟨fuel - 1, by omega⟩
        rw [List.length_cons] at hf
        have hD0 := hD
        obtain ⟨d1, d2, d3, d4, d5, d6, d7, d8, d9, d10, d11, d12⟩ := hD
        have h6 := prs_len t
        have hcl : c < (prs t).length := by
          rcases Nat.lt_or_ge c (prs t).length with h | h
          · exact h
          · rw [List.drop_eq_nil_of_le h] at hr'; cases hr'
        have hn : (prs t)[c]? = some p := by
          have := congrArg List.head? hr'
          rw [List.head?_drop] at this
          exact this
        have hr2 : (prs t).drop (c + 1) = rest := by
          have := congrArg List.tail hr'
          rw [List.tail_drop] at this
          exact this
        have hgD : (prs t).getD c 0 = p := by rw [List.getD_eq_getElem?_getD, hn]; rfl
        have hpm : p ∈ prs t := List.mem_of_getElem? hn
        have hpv : vpr t p := prs_mem hpm
        have hp23 := vpr_lt ok hpv
        have b1 := mins_le t ok (T := q.2.2) (p := p) (show i < tn t by omega)
        have b2 := chg_le t ok (o := q.2.1) (p := p)
        have ew : (wk t i p q).1 = q.1 + (chg t q.2.1 p + mins t q.2.2 i p) := Nat.add_assoc _ _ _
        have hpo : ∀ z, q.2.1 = some z → z < 100 := fun z hz => by have := vpr_lt ok (d6 z hz); omega
        have eW := c_wornOf (N := N) (p := p) k0 hkr d3 d4 d1 ok hpv
        have wd : wornP t q.2.2 p = decide (wornN t q.2.2 (p / 10) + wornN t q.2.2 (p % 10) ≠ 0) := rfl
        have w1 := worn_le t q.2.2 (p / 10)
        have w2 := worn_le t q.2.2 (p % 10)
        rw [List.flatMap_cons, List.map_append, List.foldl_append]
        have pre : P_X1_search_L48 (P_X1_search N d) N (fuel + 1) S a r (nI i) (a + 4 + 2 * i) (a + 4 + 2 * (i + 1)) (nI c) = if (fz && wornP t q.2.2 p) = true then P_X1_search_L48 (P_X1_search N d) N fuel S a r (nI i) (a + 4 + 2 * i) (a + 4 + 2 * (i + 1)) (nI (c + 1)) else P_X1_search_L86 (P_X1_search N d) (P_X1_search_L48 (P_X1_search N d) N fuel) N S a r (nI i) (a + 4 + 2 * i) (a + 4 + 2 * (i + 1)) (nI c) (nI p) := by
          rw [P_X1_search_L48]
          dsimp only
          rw [d2.1, if_neg (nI_ge hcl (by omega)), bin_nI (by omega), lt7 hkr, gd_dec (by omega), nI_clamp (by omega), d2.2.1 c hcl, hgD, bnd_eq, d9]
          cases fz with
          | false =>
            rw [if_pos (by decide)]
            rfl
          | true =>
            rw [if_neg (by decide), eW, cal2_s, wd, li0, li1, nI_add, bnd_eq]
            by_cases c0 : wornN t q.2.2 (p / 10) + wornN t q.2.2 (p % 10) = 0
            · rw [if_pos (by show nI (wornN t q.2.2 (p / 10) + wornN t q.2.2 (p % 10)) ≤ nI 0; rw [c0]; decide), if_neg (by rw [decide_eq_false (fun h => h c0)]; decide)]
            · rw [if_neg (by show ¬ nI (wornN t q.2.2 (p / 10) + wornN t q.2.2 (p % 10)) ≤ nI 0; exact nI_ge (by omega) (by omega)), if_pos (by rw [decide_eq_true c0]; rfl)]
        rw [pre]
        by_cases cw : (fz && wornP t q.2.2 p) = true
        · rw [if_pos cw, if_pos cw]
          exact ihr (c + 1) fuel o S hr2 (by omega) (by omega) hD0
        · rw [if_neg cw, if_neg cw]
          have em : (List.map (pfx pr) (List.map (fun r => (p :: r.1, r.2)) (leaves t fz (i + 1) k (wk t i p q)))) = (leaves t fz (i + 1) k (wk t i p q)).map (pfx (pr ++ [p])) := by
            rw [List.map_map]
            apply List.map_congr_left
            intro x _
            show (pr ++ p :: x.1, x.2) = ((pr ++ [p]) ++ x.1, x.2)
            rw [List.append_assoc]
            rfl
          rw [em]
          have eM := c_minutesToWalk (N := N) (p := p) k0 hkr d3 d4 hpo d1 ok (show i < tn t by omega) hpv
          have hmo := lo_mono l1 (tn t - (i + 1)) (i + 1) (by omega)
          have eB := c_mbq (N := N) (a := a) (i := i + 1) (till := (wk t i p q).1) hkr d1 on d2.2.2 hmo l2 (by omega) d11.1 d12 (by omega)
          have g1 : gI S 1 (a + 4 + 2 * i) = nI q.1 := d3.2.1
          have eM' : P_X0_minutesToWalk N S (a + 4 + 2 * i) r (nI p) = some (nI (chg t q.2.1 p + mins t q.2.2 i p), S) := eM
          unfold P_X1_search_L86
          rw [eM', cal2_s, g1, nI_add, ← ew, bnd_eq, li1, nI_add, eB, cal2_s, nI_add, bnd_eq, li0]
          cases hb : mbq lo (tn t) (i + 1) (wk t i p q).1 o with
          | false =>
            rw [if_pos (by decide)]
            have eo : List.foldl pick o ((leaves t fz (i + 1) k (wk t i p q)).map (pfx (pr ++ [p]))) = o := by
              cases o with
              | none => cases hb
              | some y =>
                have hb : ¬ ((wk t i p q).1 + lo (tn t) < y.2 + lo (i + 1)) := of_decide_eq_false hb
                refine pick_skip _ _ (fun x hx => ?_)
                rw [List.mem_map] at hx
                obtain ⟨z, hz, rfl⟩ := hx
                have := leaves_lo l3 k (i + 1) (wk t i p q) z hz (by omega)
                show y.2 ≤ z.2
                omega
            rw [eo]
            exact ihr (c + 1) fuel o S hr2 (by omega) (by omega) hD0
          | true =>
            rw [if_neg (by decide)]
            obtain ⟨S10, hS10⟩ : ∃ S10, S10 = cpS S (a + 4 + 2 * (i + 1)) (i, q.1, q.2.1, q.2.2) := ⟨_, rfl⟩
            have e10 : P_X0_copy N S (a + 4 + 2 * (i + 1)) (a + 4 + 2 * i) = some S10 := by rw [hS10]; exact c_copy (by omega) k1 k0 (by omega) d3
            have k10 : ∀ b, b ≠ a + 4 + 2 * (i + 1) → b ≠ a + 4 + 2 * (i + 1) + 1 → ag S S10 b := fun b h1 h2 => by rw [hS10]; exact ag_cpS h1 h2
            have m10 : CRm S10 (a + 4 + 2 * (i + 1)) (i, q.1, q.2.1, q.2.2) := by rw [hS10]; exact cpS_at
            have R10 : CRt S10 r t := d1.ag (fun j hj => k10 _ (by omega) (by omega))
            obtain ⟨S12, hS12⟩ : ∃ S12, S12 = woS S10 (a + 4 + 2 * (i + 1)) (i + 1, (wk t i p q).1, (wk t i p q).2.1, (wk t i p q).2.2) := ⟨_, rfl⟩
            have e12 : P_X0_walkOn N S10 (a + 4 + 2 * (i + 1)) r (nI p) (nI (wk t i p q).1) = some S12 := by rw [hS12]; exact c_walkOn (m := (i, q.1, q.2.1, q.2.2)) (by omega) k1 hkr (by omega) m10 d4 R10 ok (show i < tn t by omega) (by omega)
            have k12 : ∀ b, b ≠ a + 4 + 2 * (i + 1) → b ≠ a + 4 + 2 * (i + 1) + 1 → ag S10 S12 b := fun b h1 h2 => by rw [hS12]; exact ag_woS h1 h2
            have m12 : CRm S12 (a + 4 + 2 * (i + 1)) (i + 1, (wk t i p q).1, (wk t i p q).2.1, (wk t i p q).2.2) := by rw [hS12]; exact woS_at
            obtain ⟨S15, hS15⟩ : ∃ S15, S15 = sA S12 (a + 2) i (nI p) := ⟨_, rfl⟩
            have k15 : ∀ b, b ≠ a + 4 + 2 * (i + 1) → b ≠ a + 4 + 2 * (i + 1) + 1 → b ≠ a + 2 → ag S S15 b := fun b h1 h2 h3 => by rw [hS15]; exact ((k10 b h1 h2).trans (k12 b h1 h2)).trans (ag_sA h3)
            have r15 : ∀ j, gA S15 (a + 2) j = if j = i then nI p else gA S (a + 2) j := fun j => by
              rw [hS15, gA_sA, if_pos rfl, (k12 (a + 2) (by omega) (by omega)).2.2.2.1, (k10 (a + 2) (by omega) (by omega)).2.2.2.1]
              rfl
            have F15 : plF S S15 a := ⟨fun b hb => k15 b (by omega) (by omega) (by omega), (k15 a (by omega) (by omega) (by omega)).1 _, (k15 a (by omega) (by omega) (by omega)).1 _, (k15 (a + 3) (by omega) (by omega) (by omega)).2.2.2.2⟩
            have U15 : plU S S15 a i := fun j hj => ⟨k15 _ (by omega) (by omega) (by omega), k15 _ (by omega) (by omega) (by omega)⟩
            have V15 : plR S S15 a i (tn t) := fun j hj => by rw [r15 j, if_neg (by omega)]
            have A15 : PA S15 a g (tn t) o := ⟨by rw [(k15 a (by omega) (by omega) (by omega)).1]; exact d11.1, by rw [(k15 (a + 1) (by omega) (by omega) (by omega)).2.2.2.1]; exact d11.2⟩
            have D15 : DC S15 t r a g fz lo (i + 1) (wk t i p q) (pr ++ [p]) o := by
              refine ⟨plF_t ha hr F15 d1, plF_lo ha hr F15 d2, ?_, fun w hw => tire_le w (d4 w hw), by omega, ?_, by rw [List.length_append]; show g + (pr.length + 1) = i + 1; omega, fun j hj hj2 => ?_, by rw [F15.2.2.1]; exact d9, by rw [F15.2.2.2]; exact d10, A15, d12⟩
              · rw [hS15]; exact m12.ag (ag_sA (by omega)) (ag_sA (by omega))
              · intro z hz
                have : some p = some z := hz
                cases this
                exact hpv
              · rw [r15 j]
                by_cases c1 : j = i
                · rw [if_pos c1, if_pos ⟨by omega, by omega⟩, getD_app (by omega), if_pos (by omega)]
                · rw [if_neg c1, d8 j hj (by omega)]
                  by_cases c2 : g ≤ j ∧ j < i
                  · rw [if_pos c2, if_pos ⟨c2.1, by omega⟩, getD_app (by omega), if_neg (by omega)]
                  · rw [if_neg c2, if_neg (by omega)]
            have hq0 : k = 0 → ∀ y, o = some y → (wk t i p q).1 < y.2 := by
              intro hk0 y hy
              rw [hy] at hb
              have hb : (wk t i p q).1 + lo (tn t) < y.2 + lo (i + 1) := of_decide_eq_true hb
              rw [show tn t = i + 1 by omega] at hb
              omega
            obtain ⟨T, eT, fT, uT, vT, aT⟩ := ih d (i + 1) (wk t i p q) (pr ++ [p]) o S15 (by omega) (by omega) D15 hq0
            obtain ⟨o1, ho1⟩ : ∃ o1, o1 = List.foldl pick o ((leaves t fz (i + 1) k (wk t i p q)).map (pfx (pr ++ [p]))) := ⟨_, rfl⟩
            rw [← ho1] at aT ⊢
            have b1o : ∀ y, o1 = some y → y.2 < 2 ^ 20 := by
              rw [ho1]
              refine pick_lt _ _ (fun x hx => ?_) d12
              rw [List.mem_map] at hx
              obtain ⟨y, hy, rfl⟩ := hx
              have := leaves_min ok fz k (i + 1) (wk t i p q) y hy (by omega)
              show y.2 < _
              omega
            have FT : plF S T a := plF_trans F15 fT
            have UT : plU S T a i := plU_trans U15 (plU_le uT (by omega))
            have VT : plR S T a i (tn t) := plR_trans V15 (plR_le vT (by omega))
            obtain ⟨S', e', f', u', v', a'⟩ := ihr (c + 1) fuel o1 T hr2 (by omega) (by omega) (DC_fr ha hr hD0 FT UT VT aT b1o)
            refine ⟨S', ?_, plF_trans FT f', plU_trans UT u', plR_trans VT v', a'⟩
            rw [e10, cal1_s, e12, cal1_s, bin_nI (by omega), p2, gd_dec (by omega), nI_clamp (by omega), ← hS15, bnd_eq, eT, cal1_s, bnd_eq]
            exact e'
    have h6 := prs_len t
    obtain ⟨S', e', f', u', v', a'⟩ := inner (prs t) 0 N o S List.drop_zero (Nat.zero_le _) (by omega) hD
    refine ⟨S', ?_, f', u', v', a'⟩
    obtain ⟨d1, d2, d3, d4, d5, d6, d7, d8, d9, d10, d11, d12⟩ := hD
    rw [P_X1_search]
    dsimp only
    rw [d1.2.1, if_neg (nI_ge (by omega) (by omega)), li6, if_pos (nI_lt (by omega) (by omega)), bin_nI (by omega), p3, gd_dec (by omega), nI_clamp (by omega), d10 i (by omega), bnd_eq, isk_of k0, gd_true, li1, nI_add, bin_nI (by omega), gd_dec (by omega), nI_clamp (by omega), d10 (i + 1) (by omega), bnd_eq, isk_of k1, gd_true, li0]
    exact e'
end
