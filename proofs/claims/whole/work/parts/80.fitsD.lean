section
/-! STAGE 2, what was seen: the component's search -/
def DF (S : PSt) (t : Tau) (r : Nat) (lo hi : Nat → Nat) (du : Nat → Option Nat) (ld i : Nat) (q : Wk) (pr : List Nat) (L : List (List Nat)) : Prop := CRt S r t ∧ loF S r t lo ∧ (∀ j, j ≤ tn t → gA S (r + 9) j = nI (hi j)) ∧ CRm S (106 + 2 * i) (i, q.1, q.2.1, q.2.2) ∧ (∀ w, w < 4 → q.2.2 w ≤ 99) ∧ q.1 ≤ 135 * i ∧ (∀ z, q.2.1 = some z → vpr t z) ∧ pr.length = i ∧ (∀ j, j < i → gA S 104 j = nI (pr.getD j 0)) ∧ (∀ j, j < i → vpr t (pr.getD j 0)) ∧ (∀ j, j < 7 → gQ S 105 j = 106 + 2 * j) ∧ (∀ j, j < 6 → gA S 103 j = pI (du j)) ∧ gI S 308 98 = lI ld ∧ AF S (tn t) L
theorem sF_t {S T : PSt} {r : Nat} {t : Tau} (hr : r = 4 ∨ r = 14) (k : sF S T) (hR : CRt S r t) : CRt T r t := hR.ag (fun i hi => k.1 _ (by omega))
theorem sF_lo {S T : PSt} {r : Nat} {t : Tau} {lo : Nat → Nat} (hr : r = 4 ∨ r = 14) (k : sF S T) (h : loF S r t lo) : loF T r t lo := by
  obtain ⟨h1, h2, h3⟩ := h
  refine ⟨((k.1 r (by omega)).1 _).trans h1, ?_, ?_⟩
  · rw [(k.1 (r + 7) (by omega)).2.2.2.1]; exact h2
  · rw [(k.1 (r + 8) (by omega)).2.2.2.1]; exact h3
theorem DF_fr {S T : PSt} {t : Tau} {r i ld : Nat} {lo hi : Nat → Nat} {du : Nat → Option Nat} {q : Wk} {pr : List Nat} {L L' : List (List Nat)} (hr : r = 4 ∨ r = 14) (h : DF S t r lo hi du ld i q pr L) (k1 : sF S T) (k2 : sU S T i) (k3 : sW S T i) (k4 : AF T (tn t) L') : DF T t r lo hi du ld i q pr L' := by
  obtain ⟨d1, d2, d3, d4, d5, d6, d7, d8, d9, d10, d11, d12, d13, -⟩ := h
  refine ⟨sF_t hr k1 d1, sF_lo hr k1 d2, ?_, d4.ag (k2 i (Nat.le_refl i)).1 (k2 i (Nat.le_refl i)).2, d5, d6, d7, d8, fun j hj => (k3 j hj).trans (d9 j hj), d10, ?_, ?_, (k1.2.1 308 (by omega)).trans d13, k4⟩
  · rw [(k1.1 (r + 9) (by omega)).2.2.2.1]; exact d3
  · rw [k1.2.2.2.2.2.2.2.2.2]; exact d11
  · rw [k1.2.2.2.2.1.2.2.2.1]; exact d12
theorem app_map (L X : List (List Nat)) (f : List Nat → List Nat) (Y : List (List Nat)) : L ++ (X ++ Y).map f = (L ++ X.map f) ++ Y.map f := by rw [List.map_append, List.append_assoc]
theorem fl_len (t : Tau) (sn : List (Nat × Nat)) : ∀ k i q, (fleaves t sn i k q).length ≤ 6 ^ k
  | 0, _, _ => Nat.le_refl 1
  | k + 1, i, q => by
    have h := flat_len (f := fun p => if okSeen sn i (wk t i p q).1 then (fleaves t sn (i + 1) k (wk t i p q)).map (fun r => p :: r) else []) (B := 6 ^ k) (fun p => by
      split
      · rw [List.length_map]; exact fl_len t sn k (i + 1) _
      · exact Nat.zero_le _) (prs t)
    have h2 : (prs t).length * 6 ^ k ≤ 6 * 6 ^ k := Nat.mul_le_mul_right _ (prs_len t)
    rw [Nat.pow_succ, Nat.mul_comm]
    exact Nat.le_trans h h2
set_option maxHeartbeats 4000000 in
theorem c_fsearch {N r ld : Nat} {t : Tau} {sn : List (Nat × Nat)} {lo hi : Nat → Nat} {du : Nat → Option Nat} (hr : r = 4 ∨ r = 14) (hkr : kd r = 4) (ok : TOK t) (hN : 20 ≤ N) (l1 : ∀ i, i < tn t → lo i ≤ lo (i + 1)) (l2 : ∀ i, i ≤ tn t → lo i ≤ 1000) (l4 : ∀ i, i ≤ tn t → hi i ≤ 1000) (l3 : ∀ i p T, i < tn t → p ∈ prs t → lo (i + 1) ≤ lo i + mins t T i p ∧ hi i + mins t T i p + tc t ≤ hi (i + 1)) (hok : ∀ j mi, okSeen sn j mi = duOk (du j) mi) (hdb : ∀ j m, du j = some m → m ≤ 9999) (hld : ∀ j, ld ≤ j → du j = none) (hld2 : ld ≤ tn t) : ∀ (k d i : Nat) (q : Wk) (pr : List Nat) (L : List (List Nat)) (S : PSt), i + k = tn t → k < d → DF S t r lo hi du ld i q pr L → L.length + 6 ^ k < 2 ^ 20 → ∃ S', P_X3_search N d S r (nI i) = some S' ∧ sF S S' ∧ sU S S' i ∧ sW S S' i ∧ AF S' (tn t) (L ++ (fleaves t sn i k q).map (fun r => pr ++ r)) := by
  have on := ok.2.1
  have free : ∀ (k d i : Nat) (q : Wk) (pr : List Nat) (L : List (List Nat)) (S : PSt), i + k = tn t → (k = 0 ∨ ld ≤ i) → DF S t r lo hi du ld i q pr L → L.length + 6 ^ k < 2 ^ 20 → ∃ S', P_X3_search N (d + 1) S r (nI i) = some S' ∧ sF S S' ∧ sU S S' i ∧ sW S S' i ∧ AF S' (tn t) (L ++ (fleaves t sn i k q).map (fun r => pr ++ r)) := by
    intro k d i q pr L S hk hc hD hL
    obtain ⟨d1, d2, d3, d4, d5, d6, d7, d8, d9, d10, d11, d12, d13, d14⟩ := hD
    have p6 : 0 < 6 ^ k := Nat.pow_pos (by omega)
    obtain ⟨S', e, k1, k2, k3, k4⟩ := c_addRows (N := N) hN hr hkr ok d1 d2 (show i ≤ tn t by omega) d8 d9 d10 d14 (by omega)
    have ef : fleaves t sn i k q = allR (prs t) (tn t - i) := by
      rw [show tn t - i = k by omega]
      refine fl_all k i q (fun j h1 h2 mi => ?_)
      rw [hok, hld j (by omega)]
      rfl
    refine ⟨S', ?_, ⟨fun b hb => k1 b (by omega) (by omega) (by omega) (by omega), k2, k1 _ (by omega) (by omega) (by omega) (by omega), k1 _ (by omega) (by omega) (by omega) (by omega), k1 _ (by omega) (by omega) (by omega) (by omega), k1 _ (by omega) (by omega) (by omega) (by omega)⟩, fun j hj => ⟨k1 _ (by omega) (by omega) (by omega) (by omega), k1 _ (by omega) (by omega) (by omega) (by omega)⟩, k3, by rw [ef]; exact k4⟩
    have e22 : P_X3_search_L22 (P_X3_search N d) N S r (nI i) = some S' := by
      unfold P_X3_search_L22
      rw [e, cal1_s]
    rw [P_X3_search]
    dsimp only
    rw [d13]
    by_cases c : ld ≤ i
    · rw [if_pos ((lI_lt (by omega) (by omega)).mpr c)]
      exact e22
    · rw [if_neg (fun h => c ((lI_lt (by omega) (by omega)).mp h)), d1.2.1, if_pos (nI_le (by omega) (by omega))]
      exact e22
  intro k
  induction k with
  | zero =>
    intro d i q pr L S hk hd hD hL
    obtain ⟨d, rfl⟩ : ∃ z, d = z + 1 := ⟨d - 1, by omega⟩
    exact free _ d i q pr L S hk (Or.inl rfl) hD hL
  | succ k ih =>
    intro d i q pr L S hk hd hD hL
    obtain ⟨d, rfl⟩ : ∃ z, d = z + 1 := ⟨d - 1, by omega⟩
    by_cases cl : ld ≤ i
    · exact free _ d i q pr L S hk (Or.inr cl) hD hL
    have k0 := ks4 (i := i) (by omega)
    have k1 := ks4 (i := i + 1) (by omega)
    have inner : ∀ (rest : List Nat) (c fuel : Nat) (L : List (List Nat)) (S : PSt), (prs t).drop c = rest → c ≤ (prs t).length → rest.length < fuel → DF S t r lo hi du ld i q pr L → L.length + rest.length * 6 ^ k < 2 ^ 20 → ∃ S', P_X3_search_L49 (P_X3_search N d) N fuel S r (nI i) (106 + 2 * i) (106 + 2 * (i + 1)) (nI c) = some S' ∧ sF S S' ∧ sU S S' i ∧ sW S S' i ∧ AF S' (tn t) (L ++ (rest.flatMap (fun p => if okSeen sn i (wk t i p q).1 then (fleaves t sn (i + 1) k (wk t i p q)).map (fun r => p :: r) else [])).map (fun r => pr ++ r)) := by
      intro rest
      induction rest with
      | nil =>
        intro c fuel L S hr' hc hf hD hL
        obtain ⟨fuel, rfl⟩ : ∃ z, fuel = z + 1 := ⟨fuel - 1, by omega⟩
        obtain ⟨d1, d2, d3, d4, d5, d6, d7, d8, d9, d10, d11, d12, d13, d14⟩ := hD
        have h6 := prs_len t
        have hle : (prs t).length ≤ c := List.drop_eq_nil_iff.mp hr'
        refine ⟨S, ?_, sF_refl S, fun j _ => ⟨ag.refl S _, ag.refl S _⟩, fun _ _ => rfl, ?_⟩
        · rw [P_X3_search_L49]
          dsimp only
          rw [d2.1, if_pos (nI_le hle (by omega))]
        · show AF S (tn t) (L ++ [])
          rw [List.append_nil]
          exact d14
      | cons p rest ihr =>
        intro c fuel L S hr' hc hf hD hL
        obtain ⟨fuel, rfl⟩ : ∃ z, fuel = z + 1 := ⟨fuel - 1, by omega⟩
        rw [List.length_cons] at hf
        rw [List.length_cons, Nat.succ_mul] at hL
        have hD0 := hD
        obtain ⟨d1, d2, d3, d4, d5, d6, d7, d8, d9, d10, d11, d12, d13, d14⟩ := hD
        have h6 := prs_len t
        have hcl : c < (prs t).length := by
          rcases Nat.lt_or_ge c (prs t).length with h | h
          · exact h
          · rw [List.drop_eq_nil_of_le h] at hr'; cases hr'
        have hn : (prs t)[c]? = some p := by
          have := congrArg List.head? hr'
          rw [List.head?_drop] at this
          exact this
        have hr2 : (prs t).drop (c + 1) = rest := by
          have := congrArg List.tail hr'
          rw [List.tail_drop] at this
          exact this
        have hgD : (prs t).getD c 0 = p := by rw [List.getD_eq_getElem?_getD, hn]; rfl
        have hpm : p ∈ prs t := List.mem_of_getElem? hn
        have hpv : vpr t p := prs_mem hpm
        have hp23 := vpr_lt ok hpv
        have b1 := mins_le t ok (T := q.2.2) (p := p) (show i < tn t by omega)
        have b2 := chg_le t ok (o := q.2.1) (p := p)
        have ew : (wk t i p q).1 = q.1 + (chg t q.2.1 p + mins t q.2.2 i p) := Nat.add_assoc _ _ _
        have hpo : ∀ z, q.2.1 = some z → z < 100 := fun z hz => by have := vpr_lt ok (d7 z hz); omega
        have m2 : ∀ i, i < tn t → hi i ≤ hi (i + 1) := fun i hi' => by have := (l3 i p (fun _ => 0) hi' hpm).2; omega
        have p6 : 0 < 6 ^ k := Nat.pow_pos (by omega)
        rw [List.flatMap_cons, app_map]
        have eM := c_minutesToWalk (N := N) (p := p) k0 hkr d4 d5 hpo d1 ok (show i < tn t by omega) hpv
        have eM' : P_X0_minutesToWalk N S (106 + 2 * i) r (nI p) = some (nI (chg t q.2.1 p + mins t q.2.2 i p), S) := eM
        have g1 : gI S 1 (106 + 2 * i) = nI q.1 := d4.2.1
        have eF : P_X3_mayFit N S r (nI i) (nI (wk t i p q).1) = some (bI (mf du lo hi i (wk t i p q).1 (k + 1) i), S) := by
          unfold P_X3_mayFit
          exact c_mayFit hkr d1 on d2.2.2 d3 d12 hdb l1 m2 l2 l4 (by omega) (by omega) (k + 1) i N (by omega) (Nat.le_refl i) (by omega)
        have pre : P_X3_search_L49 (P_X3_search N d) N (fuel + 1) S r (nI i) (106 + 2 * i) (106 + 2 * (i + 1)) (nI c) = if bI (mf du lo hi i (wk t i p q).1 (k + 1) i) = nI 0 then P_X3_search_L49 (P_X3_search N d) N fuel S r (nI i) (106 + 2 * i) (106 + 2 * (i + 1)) (nI (c + 1)) else (cal1 (P_X0_copy N S (106 + 2 * (i + 1)) (106 + 2 * i)) fun S13 => cal1 (P_X0_walkOn N S13 (106 + 2 * (i + 1)) r (nI p) (nI (wk t i p q).1)) fun S15 => bnd (sA S15 104 i (nI p)) fun S18 => cal1 (P_X3_search N d S18 r (nI (i + 1))) fun S19 => P_X3_search_L49 (P_X3_search N d) N fuel S19 r (nI i) (106 + 2 * i) (106 + 2 * (i + 1)) (nI (c + 1))) := by
          rw [P_X3_search_L49]
          dsimp only
          rw [d2.1, if_neg (nI_ge hcl (by omega)), bin_nI (by omega), lt7 hkr, gd_dec (by omega), nI_clamp (by omega), d2.2.1 c hcl, hgD, bnd_eq, eM', cal2_s, g1, nI_add, ← ew, bnd_eq, eF, cal2_s, li0, li1, nI_add, bnd_eq, bin_nI (by omega), l104, decide_eq_true (show i < 6 by omega), nI_clamp (by omega), nI_add]
          rfl
        rw [pre]
        cases hb : mf du lo hi i (wk t i p q).1 (k + 1) i with
        | false =>
          rw [if_pos (by decide)]
          have eo : (if okSeen sn i (wk t i p q).1 = true then (fleaves t sn (i + 1) k (wk t i p q)).map (fun r => p :: r) else []) = [] := by
            obtain ⟨e, m, h1, h2, h3, h4⟩ := mf_no _ _ hb
            by_cases c1 : e = i
            · subst c1
              rw [if_neg]
              rw [hok, h3]
              show ¬ decide (m = _) = true
              rw [decide_eq_true_eq]
              omega
            · rw [fl_rng l3 (j := e) (m := m) (fun mi => by rw [hok, h3]; rfl) k (i + 1) (wk t i p q) (by omega) (by omega) (by omega) h4]
              split <;> rfl
          rw [eo, List.map_nil, List.append_nil]
          exact ihr (c + 1) fuel L S hr2 (by omega) (by omega) hD0 (by omega)
        | true =>
          have hoks : okSeen sn i (wk t i p q).1 = true := by rw [hok]; exact mf_yes hb
          rw [if_neg (by decide), if_pos hoks]
          have em : (List.map (fun r => pr ++ r) (List.map (fun r => p :: r) (fleaves t sn (i + 1) k (wk t i p q)))) = (fleaves t sn (i + 1) k (wk t i p q)).map (fun r => (pr ++ [p]) ++ r) := by
            rw [List.map_map]
            apply List.map_congr_left
            intro x _
            show pr ++ p :: x = (pr ++ [p]) ++ x
            rw [List.append_assoc]
            rfl
          rw [em]
          obtain ⟨S10, hS10⟩ : ∃ S10, S10 = cpS S (106 + 2 * (i + 1)) (i, q.1, q.2.1, q.2.2) := ⟨_, rfl⟩
          have e10 : P_X0_copy N S (106 + 2 * (i + 1)) (106 + 2 * i) = some S10 := by rw [hS10]; exact c_copy (by omega) k1 k0 (by omega) d4
          have k10 : ∀ b, b ≠ 106 + 2 * (i + 1) → b ≠ 106 + 2 * (i + 1) + 1 → ag S S10 b := fun b h1 h2 => by rw [hS10]; exact ag_cpS h1 h2
          have m10 : CRm S10 (106 + 2 * (i + 1)) (i, q.1, q.2.1, q.2.2) := by rw [hS10]; exact cpS_at
          have R10 : CRt S10 r t := d1.ag (fun j hj => k10 _ (by omega) (by omega))
          obtain ⟨S12, hS12⟩ : ∃ S12, S12 = woS S10 (106 + 2 * (i + 1)) (i + 1, (wk t i p q).1, (wk t i p q).2.1, (wk t i p q).2.2) := ⟨_, rfl⟩
          have e12 : P_X0_walkOn N S10 (106 + 2 * (i + 1)) r (nI p) (nI (wk t i p q).1) = some S12 := by rw [hS12]; exact c_walkOn (m := (i, q.1, q.2.1, q.2.2)) (by omega) k1 hkr (by omega) m10 d5 R10 ok (show i < tn t by omega) (by omega)
          have k12 : ∀ b, b ≠ 106 + 2 * (i + 1) → b ≠ 106 + 2 * (i + 1) + 1 → ag S10 S12 b := fun b h1 h2 => by rw [hS12]; exact ag_woS h1 h2
          have m12 : CRm S12 (106 + 2 * (i + 1)) (i + 1, (wk t i p q).1, (wk t i p q).2.1, (wk t i p q).2.2) := by rw [hS12]; exact woS_at
          obtain ⟨S15, hS15⟩ : ∃ S15, S15 = sA S12 104 i (nI p) := ⟨_, rfl⟩
          have k15 : ∀ b, b ≠ 106 + 2 * (i + 1) → b ≠ 106 + 2 * (i + 1) + 1 → b ≠ 104 → ag S S15 b := fun b h1 h2 h3 => by rw [hS15]; exact ((k10 b h1 h2).trans (k12 b h1 h2)).trans (ag_sA h3)
          have r15 : ∀ j, gA S15 104 j = if j = i then nI p else gA S 104 j := fun j => by
            rw [hS15, gA_sA, if_pos rfl, (k12 104 (by omega) (by omega)).2.2.2.1, (k10 104 (by omega) (by omega)).2.2.2.1]
            rfl
          have F15 : sF S S15 := ⟨fun b hb => k15 b (by omega) (by omega) (by omega), fun f _ => (k15 98 (by omega) (by omega) (by omega)).1 f, k15 _ (by omega) (by omega) (by omega), k15 _ (by omega) (by omega) (by omega), k15 _ (by omega) (by omega) (by omega), k15 _ (by omega) (by omega) (by omega)⟩
          have U15 : sU S S15 i := fun j hj => ⟨k15 _ (by omega) (by omega) (by omega), k15 _ (by omega) (by omega) (by omega)⟩
          have V15 : sW S S15 i := fun j hj => by rw [r15 j, if_neg (by omega)]
          have A15 : AF S15 (tn t) L := ⟨by rw [(k15 98 (by omega) (by omega) (by omega)).1]; exact d14.1, by rw [(k15 99 (by omega) (by omega) (by omega)).2.2.2.1]; exact d14.2.1, by rw [(k15 100 (by omega) (by omega) (by omega)).2.2.2.1]; exact d14.2.2⟩
          have D15 : DF S15 t r lo hi du ld (i + 1) (wk t i p q) (pr ++ [p]) L := by
            refine ⟨sF_t hr F15 d1, sF_lo hr F15 d2, by rw [(F15.1 (r + 9) (by omega)).2.2.2.1]; exact d3, ?_, fun w hw => tire_le w (d5 w hw), by omega, ?_, by rw [List.length_append, d8]; rfl, fun j hj => ?_, fun j hj => ?_, by rw [F15.2.2.2.2.2.2.2.2.2]; exact d11, by rw [F15.2.2.2.2.1.2.2.2.1]; exact d12, (F15.2.1 308 (by omega)).trans d13, A15⟩
            · rw [hS15]; exact m12.ag (ag_sA (by omega)) (ag_sA (by omega))
            · intro z hz
              have : some p = some z := hz
              cases this
              exact hpv
            · rw [r15 j, getD_app (by omega), d8]
              by_cases c1 : j = i
              · rw [if_pos c1, if_pos c1]
              · rw [if_neg c1, if_neg c1, d9 j (by omega)]
            · rw [getD_app (by omega), d8]
              by_cases c1 : j = i
              · rw [if_pos c1]; exact hpv
              · rw [if_neg c1]; exact d10 j (by omega)
          obtain ⟨T, eT, fT, uT, vT, aT⟩ := ih d (i + 1) (wk t i p q) (pr ++ [p]) L S15 (by omega) (by omega) D15 (by omega)
          obtain ⟨L1, hL1⟩ : ∃ L1, L1 = L ++ (fleaves t sn (i + 1) k (wk t i p q)).map (fun r => (pr ++ [p]) ++ r) := ⟨_, rfl⟩
          rw [← hL1] at aT ⊢
          have n1 : L1.length ≤ L.length + 6 ^ k := by
            rw [hL1, List.length_append, List.length_map]
            have := fl_len t sn k (i + 1) (wk t i p q)
            omega
          have FT : sF S T := sF_trans F15 fT
          have UT : sU S T i := sU_trans U15 (sU_le uT (by omega))
          have VT : sW S T i := sW_trans V15 (sW_le vT (by omega))
          obtain ⟨S', e', f', u', v', a'⟩ := ihr (c + 1) fuel L1 T hr2 (by omega) (by omega) (DF_fr hr hD0 FT UT VT aT) (by omega)
          refine ⟨S', ?_, sF_trans FT f', sU_trans UT u', sW_trans VT v', a'⟩
          rw [e10, cal1_s, e12, cal1_s, ← hS15, bnd_eq, eT, cal1_s]
          exact e'
    have h6 := prs_len t
    have hmul : (prs t).length * 6 ^ k ≤ 6 * 6 ^ k := Nat.mul_le_mul_right _ h6
    rw [Nat.pow_succ, Nat.mul_comm] at hL
    obtain ⟨S', e', f', u', v', a'⟩ := inner (prs t) 0 N L S List.drop_zero (Nat.zero_le _) (by omega) hD (by omega)
    refine ⟨S', ?_, f', u', v', a'⟩
    obtain ⟨d1, d2, d3, d4, d5, d6, d7, d8, d9, d10, d11, d12, d13, d14⟩ := hD
    rw [P_X3_search]
    dsimp only
    rw [d13, if_neg (fun h => cl ((lI_lt (by omega) (by omega)).mp h)), d1.2.1, if_neg (nI_ge (by omega) (by omega)), li6, if_pos (nI_lt (by omega) (by omega)), bin_nI (by omega), l105, gd_dec (by omega), nI_clamp (by omega), d11 i (by omega), bnd_eq, isk_of k0, gd_true, li1, nI_add, bin_nI (by omega), gd_dec (by omega), nI_clamp (by omega), d11 (i + 1) (by omega), bnd_eq, isk_of k1, gd_true, li0]
    exact e'
end
