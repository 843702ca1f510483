section
/-! STAGE 2, the reference's search -/
def gl (t : Tau) (good : Nat → Wk → Nat → Bool) : Nat → Nat → Wk → List (List Nat × Nat)
  | _, 0, q => [([], q.1)]
  | i, k + 1, q => (prs t).flatMap (fun p => if good i q p = true then (gl t good (i + 1) k (wk t i p q)).map (fun r => (p :: r.1, r.2)) else [])
theorem flat_len {α β : Type} {f : α → List β} {B : Nat} (h : ∀ p, (f p).length ≤ B) : ∀ l : List α, (l.flatMap f).length ≤ l.length * B
  | [] => Nat.zero_le _
  | p :: l => by
    have h1 := flat_len h l
    have h2 := h p
    rw [List.flatMap_cons, List.length_append, List.length_cons, Nat.succ_mul]
    omega
theorem gl_len (t : Tau) (good : Nat → Wk → Nat → Bool) : ∀ k i q, (gl t good i k q).length ≤ 6 ^ k
  | 0, _, _ => Nat.le_refl 1
  | k + 1, i, q => by
    have h := flat_len (f := fun p => if good i q p = true then (gl t good (i + 1) k (wk t i p q)).map (fun r => (p :: r.1, r.2)) else []) (B := 6 ^ k) (fun p => by
      split
      · rw [List.length_map]; exact gl_len t good k (i + 1) _
      · exact Nat.zero_le _) (prs t)
    have h2 : (prs t).length * 6 ^ k ≤ 6 * 6 ^ k := Nat.mul_le_mul_right _ (prs_len t)
    rw [Nat.pow_succ, Nat.mul_comm]
    exact Nat.le_trans h h2
theorem gl_min {t : Tau} (ok : TOK t) (good : Nat → Wk → Nat → Bool) : ∀ k i q x, x ∈ gl t good i k q → i + k ≤ tn t → x.2 ≤ q.1 + 135 * k
  | 0, _, q, x, hx, _ => by
    have : x = ([], q.1) := by simpa [gl] using hx
    rw [this]
    exact Nat.le_refl _
  | k + 1, i, q, x, hx, h => by
    rw [gl, List.mem_flatMap] at hx
    obtain ⟨p, hp, hx⟩ := hx
    by_cases c : good i q p = true
    · rw [if_pos c, List.mem_map] at hx
      obtain ⟨y, hy, rfl⟩ := hx
      have h1 := gl_min ok good k (i + 1) (wk t i p q) y hy (by omega)
      have b1 := mins_le t ok (T := q.2.2) (p := p) (show i < tn t by omega)
      have b2 := chg_le t ok (o := q.2.1) (p := p)
      have e : (wk t i p q).1 = q.1 + chg t q.2.1 p + mins t q.2.2 i p := rfl
      show y.2 ≤ _
      omega
    · rw [if_neg c] at hx
      cases hx
theorem foldA_1 (sb : Bool) : ∀ (ls : List (List Nat × Nat)) (a : Ac), (ls.foldl (stepA sb) a).1 = a.1 + ls.length
  | [], _ => rfl
  | x :: ls, a => by
    rw [List.foldl_cons, foldA_1 sb ls, List.length_cons]
    show a.1 + 1 + _ = _
    omega
theorem foldA_2 (sb : Bool) {B : Nat} : ∀ (ls : List (List Nat × Nat)) (a : Ac), (∀ x, x ∈ ls → x.2 < B) → a.2.1.2 < B → (ls.foldl (stepA sb) a).2.1.2 < B
  | [], _, _, h => h
  | x :: ls, a, h1, h2 => by
    rw [List.foldl_cons]
    refine foldA_2 sb ls _ (fun y hy => h1 y (List.mem_cons_of_mem _ hy)) ?_
    show (if _ then x else a.2.1).2 < B
    split
    · exact h1 x List.mem_cons_self
    · exact h2
def Bk : Nat → Nat
  | 0 => 1
  | k + 1 => 6 * (Bk k + 1) + 1
/-- what the search needs of a state at depth d -/
def DS (S : PSt) (t : Tau) (sn : List (Nat × Nat)) (g d : Nat) (q : Wk) (pr : List Nat) (a : Ac) : Prop := MRt S t ∧ MRs S t sn ∧ dep S d q ∧ q.1 ≤ 135 * d ∧ (∀ z, q.2.1 = some z → vpr t z) ∧ pr.length = d ∧ (∀ j, j < d → gA S 172 (j + 1) = nI (pr.getD j 0)) ∧ (∀ j, j < d → vpr t (pr.getD j 0)) ∧ AR S (tn t - g) a ∧ a.2.1.2 < 2 ^ 20
def pfx (pr : List Nat) (x : List Nat × Nat) : List Nat × Nat := (pr ++ x.1, x.2)
theorem AR_eq {S T : PSt} {many : Nat} {a : Ac} (h : AR S many a) (k1 : ∀ f, gI T f 158 = gI S f 158) (k2 : gA T 174 = gA S 174) (k3 : gA T 175 = gA S 175) : AR T many a := by
  unfold AR
  rw [k1, k1, k2, k3]
  exact h
set_option maxHeartbeats 4000000 in
theorem m_dfs {N g b : Nat} {t : Tau} {sn : List (Nat × Nat)} (ok : TOK t) (hb : b ≤ 2) (hN : 20 ≤ N) : ∀ (k d : Nat) (q : Wk) (pr : List Nat) (a : Ac) (S : PSt), g + d + k = tn t → DS S t sn g d q pr a → a.1 + 6 ^ k < 2 ^ 20 → gA S 173 d = nI 0 → ∃ (s : Nat) (S' : PSt), s ≤ Bk k ∧ (∀ fuel, P_X7_search_L27 N (fuel + s) S (nI g) (nI b) (nI (tn t - g)) (nI d) = P_X7_search_L27 N fuel S' (nI g) (nI b) (nI (tn t - g)) (nI d + (-1))) ∧ sfr S S' ∧ upto S S' d ∧ (∀ j, j < d → gA S' 173 j = gA S 173 j) ∧ AR S' (tn t - g) (((gl t (gdB t sn b) (g + d) k q).map (pfx pr)).foldl (stepA (decide (b = 2))) a) := by
  have on := ok.2.1
  intro k
  induction k with
  | zero =>
    intro d q pr a S hk hD ha h173
    obtain ⟨d1, d2, d3, d4, d5, d6, d7, d8, d9, d10⟩ := hD
    have hmany : tn t - g = d := by omega
    have hv : ∀ j, j < tn t - g → pr.getD j 0 < 34 ∧ pr.getD j 0 / 10 < 4 ∧ pr.getD j 0 % 10 < 4 := by
      intro j hj
      have h1 := d8 j (by omega)
      have h2 := vpr_lt ok h1
      have h3 := h1.2
      have h4 := h1.1
      have h5 := ok.1
      omega
    obtain ⟨S', e, hA, hf⟩ := m_finds (N := N) (many := tn t - g) (b := b) (mn := q.1) (row := pr) hN (by omega) hb (fun j hj => d7 j (by omega)) hv (by rw [hmany]; exact d3.1) (by omega) d9 (by omega) d10
    refine ⟨1, S', Nat.le_refl 1, fun fuel => ?_, hf.1, ⟨fun j _ => by rw [hf.2.2.1], fun j _ => by rw [hf.2.2.2.1], fun v _ => by rw [hf.2.1]⟩, fun j _ => by rw [hf.2.2.2.2], ?_⟩
    · rw [P_X7_search_L27]
      dsimp only
      rw [li0, if_neg (nI_nlt (by omega) (by omega)), if_pos (by rw [hmany]), e, cal1_s, bnd_eq]
    · show AR S' _ (List.foldl _ a [(pr ++ [], q.1)])
      rw [List.append_nil]
      exact hA
  | succ k ih =>
    intro d q pr a S hk hD ha h173
    have inner : ∀ (rest : List Nat) (c : Nat) (a : Ac) (S : PSt), (prs t).drop c = rest → c ≤ (prs t).length → DS S t sn g d q pr a → a.1 + rest.length * 6 ^ k < 2 ^ 20 → gA S 173 d = nI c → ∃ (s : Nat) (S' : PSt), s ≤ rest.length * (Bk k + 1) + 1 ∧ (∀ fuel, P_X7_search_L27 N (fuel + s) S (nI g) (nI b) (nI (tn t - g)) (nI d) = P_X7_search_L27 N fuel S' (nI g) (nI b) (nI (tn t - g)) (nI d + (-1))) ∧ sfr S S' ∧ upto S S' d ∧ (∀ j, j < d → gA S' 173 j = gA S 173 j) ∧ AR S' (tn t - g) (((rest.flatMap (fun p => if gdB t sn b (g + d) q p = true then (gl t (gdB t sn b) (g + d + 1) k (wk t (g + d) p q)).map (fun r => (p :: r.1, r.2)) else [])).map (pfx pr)).foldl (stepA (decide (b = 2))) a) := by
      intro rest
      induction rest with
      | nil =>
        intro c a S hr hc hD ha h173
        obtain ⟨d1, d2, d3, d4, d5, d6, d7, d8, d9, d10⟩ := hD
        have h6 := prs_len t
        have hn : (prs t)[c]? = none := by
          have : (prs t).length ≤ c := List.drop_eq_nil_iff.mp hr
          exact List.getElem?_eq_none this
        refine ⟨1, sA S 173 d (nI (c + 1)), by omega, fun fuel => ?_, sfr_sA (by omega), ⟨fun _ _ => rfl, fun _ _ => rfl, fun _ _ => rfl⟩, fun j hj => ?_, ?_⟩
        · rw [P_X7_search_L27]
          dsimp only
          rw [li0, if_neg (nI_nlt (by omega) (by omega)), if_neg (by rw [nI_eq (by omega) (by omega)]; omega), bin_nI (by omega), l173, gd_dec (by omega), nI_clamp (by omega), h173, m_pairBy (by omega) d1 ok (by omega), cal2_s, gd_dec (by omega), gd_dec (by omega), h173, li1, nI_add, bnd_eq, hn, if_neg (by show ¬ nI 0 ≤ -1; decide), ng1, bnd_eq]
        · rw [gA_sA, if_pos rfl]
          unfold upd
          rw [if_neg (by omega)]
        · exact AR_eq d9 (fun _ => rfl) rfl rfl
      | cons p rest ihr =>
        intro c a S hr hc hD ha h173
        have hD0 := hD
        obtain ⟨d1, d2, d3, d4, d5, d6, d7, d8, d9, d10⟩ := hD
        have h6 := prs_len t
        have hcl : c < (prs t).length := by
          rcases Nat.lt_or_ge c (prs t).length with h | h
          · exact h
          · rw [List.drop_eq_nil_of_le h] at hr; cases hr
        have hn : (prs t)[c]? = some p := by
          have := congrArg List.head? hr
          rw [List.head?_drop] at this
          exact this
        have hr2 : (prs t).drop (c + 1) = rest := by
          have := congrArg List.tail hr
          rw [List.tail_drop] at this
          exact this
        have hpv : vpr t p := prs_mem (List.mem_of_getElem? hn)
        obtain ⟨S9, hS9⟩ : ∃ S9, S9 = sA S 173 d (nI (c + 1)) := ⟨_, rfl⟩
        have f9 : sfr S S9 := by rw [hS9]; exact sfr_sA (by omega)
        have u9 : upto S S9 d := by rw [hS9]; exact ⟨fun _ _ => rfl, fun _ _ => rfl, fun _ _ => rfl⟩
        have q9 : dep S9 d q := upto_dep u9 (Nat.le_refl d) d3
        have c9 : gA S9 173 d = nI (c + 1) := by rw [hS9, gA_sA, if_pos rfl]; unfold upd; rw [if_pos rfl]
        have c9j : ∀ j, j < d → gA S9 173 j = gA S 173 j := fun j hj => by rw [hS9, gA_sA, if_pos rfl]; unfold upd; rw [if_neg (by omega)]
        have A9 : AR S9 (tn t - g) a := by rw [hS9]; exact AR_eq d9 (fun _ => rfl) rfl rfl
        obtain ⟨S11, hS11⟩ : ∃ S11, S11 = wS S9 d (wk t (g + d) p q) p := ⟨_, rfl⟩
        have sc11 : scr S9 S11 := by rw [hS11]; exact wS_scr
        have f11 : sfr S S11 := sfr_trans f9 (sfr_scr sc11)
        have u11 : upto S S11 d := upto_trans u9 (by rw [hS11]; exact upto_wS)
        have c11 : gA S11 173 = gA S9 173 := sc11.2.2.2.2 173 (by omega) (by omega) (by omega)
        have A11 : AR S11 (tn t - g) a := AR_eq A9 (fun f => sc11.1 f 158) (sc11.2.2.2.2 174 (by omega) (by omega) (by omega)) (sc11.2.2.2.2 175 (by omega) (by omega) (by omega))
        have eg := m_goesDown (N := N) (S := S9) (d := d) (i := g + d) (p := p) (b := b) (sn := sn) hN (MRt_sfr d1 f9) ok (MRs_sfr d2 f9) q9 (by omega) (by omega) hpv (by omega) (fun z hz => by have := vpr_lt ok (d5 z hz); omega) hb
        rw [← hS11] at eg
        have go : ∀ fuel, P_X7_search_L27 N (fuel + 1) S (nI g) (nI b) (nI (tn t - g)) (nI d) = if bI (gdB t sn b (g + d) q p) = nI 0 then P_X7_search_L27 N fuel S11 (nI g) (nI b) (nI (tn t - g)) (nI d) else P_X7_search_L27 N fuel (sA S11 173 (d + 1) (nI 0)) (nI g) (nI b) (nI (tn t - g)) (nI (d + 1)) := by
          intro fuel
          rw [P_X7_search_L27]
          dsimp only
          rw [li0, if_neg (nI_nlt (by omega) (by omega)), if_neg (by rw [nI_eq (by omega) (by omega)]; omega), bin_nI (by omega), l173, gd_dec (by omega), nI_clamp (by omega), h173, m_pairBy (by omega) d1 ok (by omega), cal2_s, gd_dec (by omega), gd_dec (by omega), h173, li1, nI_add, ← hS9, bnd_eq, hn]
          have hp23 := vpr_lt ok hpv
          show (if nI 0 ≤ nI p then (cal2 (P_X7_goesDown N S9 (nI d) (nI g + nI d) (nI p) (nI b)) _) else _) = _
          rw [if_pos (nI_le (Nat.zero_le _) (by omega)), nI_add, eg, cal2_s, nI_add, bnd_eq, bin_nI (by omega), gd_dec (by omega), nI_clamp (by omega), bnd_eq]
        rw [List.flatMap_cons, List.map_append, List.foldl_append]
        rw [List.length_cons, Nat.succ_mul] at ha ⊢
        have p6 : 0 < 6 ^ k := Nat.pow_pos (by omega)
        cases hgd : gdB t sn b (g + d) q p with
        | false =>
          have D11 : DS S11 t sn g d q pr a := ⟨MRt_sfr d1 f11, MRs_sfr d2 f11, upto_dep u11 (Nat.le_refl d) d3, d4, d5, d6, fun j hj => by rw [u11.2.1 (j + 1) (by omega)]; exact d7 j hj, d8, A11, d10⟩
          obtain ⟨s, S', hs, he, hf, hu, hcj, hA⟩ := ihr (c + 1) a S11 hr2 (by omega) D11 (by omega) (by rw [c11]; exact c9)
          refine ⟨s + 1, S', by omega, fun fuel => ?_, sfr_trans f11 hf, upto_trans u11 hu, fun j hj => by rw [hcj j hj, c11, c9j j hj], ?_⟩
          · rw [← Nat.add_assoc, go, hgd, if_pos (by decide)]
            exact he fuel
          · rw [if_neg (by decide)]
            exact hA
        | true =>
          have b1 := mins_le t ok (T := q.2.2) (p := p) (show g + d < tn t by omega)
          have b2 := chg_le t ok (o := q.2.1) (p := p)
          have ew : (wk t (g + d) p q).1 = q.1 + chg t q.2.1 p + mins t q.2.2 (g + d) p := rfl
          obtain ⟨S17, hS17⟩ : ∃ S17, S17 = sA S11 173 (d + 1) (nI 0) := ⟨_, rfl⟩
          have f17 : sfr S S17 := sfr_trans f11 (by rw [hS17]; exact sfr_sA (by omega))
          have u17 : upto S S17 d := upto_trans u11 (by rw [hS17]; exact ⟨fun _ _ => rfl, fun _ _ => rfl, fun _ _ => rfl⟩)
          have q17 : dep S17 (d + 1) (wk t (g + d) p q) := by
            have h1 : dep S11 (d + 1) (wk t (g + d) p q) := by rw [hS11]; exact wS_dep rfl (fun w hw => tire_le w ((d3.2.2 w hw).2))
            rw [hS17]
            exact h1
          have g172 : gA S17 172 (d + 1) = nI p := q17.2.1
          have A17 : AR S17 (tn t - g) a := by rw [hS17]; exact AR_eq A11 (fun _ => rfl) rfl rfl
          have D17 : DS S17 t sn g (d + 1) (wk t (g + d) p q) (pr ++ [p]) a := by
            refine ⟨MRt_sfr d1 f17, MRs_sfr d2 f17, q17, by omega, ?_, by rw [List.length_append, d6]; rfl, fun j hj => ?_, fun j hj => ?_, A17, d10⟩
            · intro z hz
              have : some p = some z := hz
              cases this
              exact hpv
            · rw [getD_app (by omega), d6]
              by_cases c : j = d
              · rw [if_pos c, c]; exact g172
              · rw [if_neg c, u17.2.1 (j + 1) (by omega)]; exact d7 j (by omega)
            · rw [getD_app (by omega), d6]
              by_cases c : j = d
              · rw [if_pos c]; exact hpv
              · rw [if_neg c]; exact d8 j (by omega)
          obtain ⟨s1, T, hs1, he1, hf1, hu1, hc1, hA1⟩ := ih (d + 1) (wk t (g + d) p q) (pr ++ [p]) a S17 (by omega) D17 (by omega) (by rw [hS17, gA_sA, if_pos rfl]; unfold upd; rw [if_pos rfl])
          have fT : sfr S T := sfr_trans f17 hf1
          have uT : upto S T d := upto_trans u17 (upto_le hu1 (by omega))
          obtain ⟨a1, ha1⟩ : ∃ a1, a1 = ((gl t (gdB t sn b) (g + (d + 1)) k (wk t (g + d) p q)).map (pfx (pr ++ [p]))).foldl (stepA (decide (b = 2))) a := ⟨_, rfl⟩
          rw [← ha1] at hA1
          have n1 : a1.1 ≤ a.1 + 6 ^ k := by
            rw [ha1, foldA_1, List.length_map]
            have := gl_len t (gdB t sn b) k (g + (d + 1)) (wk t (g + d) p q)
            omega
          have n2 : a1.2.1.2 < 2 ^ 20 := by
            rw [ha1]
            refine foldA_2 _ _ _ (fun x hx => ?_) d10
            rw [List.mem_map] at hx
            obtain ⟨y, hy, rfl⟩ := hx
            have := gl_min ok (gdB t sn b) k (g + (d + 1)) (wk t (g + d) p q) y hy (by omega)
            show y.2 < _
            omega
          have DT : DS T t sn g d q pr a1 := ⟨MRt_sfr d1 fT, MRs_sfr d2 fT, upto_dep uT (Nat.le_refl d) d3, d4, d5, d6, fun j hj => by rw [uT.2.1 (j + 1) (by omega)]; exact d7 j hj, d8, hA1, n2⟩
          have cT : gA T 173 d = nI (c + 1) := by
            rw [hc1 d (by omega), hS17, gA_sA, if_pos rfl]
            unfold upd
            rw [if_neg (by omega), c11]; exact c9
          obtain ⟨s2, S', hs2, he2, hf2, hu2, hc2, hA2⟩ := ihr (c + 1) a1 T hr2 (by omega) DT (by omega) cT
          refine ⟨s2 + s1 + 1, S', by omega, fun fuel => ?_, sfr_trans fT hf2, upto_trans uT hu2, fun j hj => ?_, ?_⟩
          · rw [show fuel + (s2 + s1 + 1) = (fuel + s2 + s1) + 1 by omega, go, hgd, if_neg (by decide), ← hS17, he1 (fuel + s2)]
            have : nI (d + 1) + (-1) = nI d := pk_m1 d
            rw [this]
            exact he2 fuel
          · rw [hc2 j hj, hc1 j (by omega), hS17, gA_sA, if_pos rfl]
            unfold upd
            rw [if_neg (by omega), c11, c9j j hj]
          · rw [if_pos rfl]
            have em : (List.map (pfx pr) (List.map (fun r => (p :: r.1, r.2)) (gl t (gdB t sn b) (g + d + 1) k (wk t (g + d) p q)))) = (gl t (gdB t sn b) (g + (d + 1)) k (wk t (g + d) p q)).map (pfx (pr ++ [p])) := by
              rw [List.map_map, ← Nat.add_assoc]
              apply List.map_congr_left
              intro x _
              show (pr ++ p :: x.1, x.2) = ((pr ++ [p]) ++ x.1, x.2)
              rw [List.append_assoc]
              rfl
            rw [em, ← ha1]
            exact hA2
    have h6 := prs_len t
    have hmul : (prs t).length * 6 ^ k ≤ 6 * 6 ^ k := Nat.mul_le_mul_right _ h6
    have hmul2 : (prs t).length * (Bk k + 1) ≤ 6 * (Bk k + 1) := Nat.mul_le_mul_right _ h6
    rw [Nat.pow_succ, Nat.mul_comm] at ha
    obtain ⟨s, S', hs, he, hf, hu, hcj, hA⟩ := inner (prs t) 0 a S List.drop_zero (Nat.zero_le _) hD (by omega) h173
    exact ⟨s, S', by rw [Bk]; omega, he, hf, hu, hcj, hA⟩
end
