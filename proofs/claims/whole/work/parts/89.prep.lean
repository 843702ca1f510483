section
/-! STAGE 2, the component's tables of a tunnel -/
theorem CRt_ag2 {S T : PSt} {d : Nat} {t : Tau} (h : CRt S d t) (k : ∀ b, b ≠ d + 8 → b ≠ d + 9 → ag S T b) : CRt T d t := by
  obtain ⟨h1, h2, h3, h4, h5, h6, h7, h8, h9, h10⟩ := h
  have kd := (k d (by omega) (by omega)).1
  have aa : ∀ i, i < 8 → gA T (d + i) = gA S (d + i) := fun i h1 => (k (d + i) (by omega) (by omega)).2.2.2.1
  exact ⟨(kd _).trans h1, (kd _).trans h2, (kd _).trans h3, (kd _).trans h4, by rw [aa 1 (by omega)]; exact h5, by rw [aa 2 (by omega)]; exact h6, by rw [aa 3 (by omega)]; exact h7, by rw [aa 4 (by omega)]; exact h8, by rw [aa 5 (by omega)]; exact h9, by rw [aa 6 (by omega)]; exact h10⟩
def innP (W a : Nat) : Nat → Nat → List Nat → List Nat
  | 0, _, L => L
  | z + 1, b, L => if W ≤ b then L else if 6 ≤ L.length then L else innP W a z (b + 1) (L ++ [10 * a + b])
def outP (W : Nat) : Nat → Nat → List Nat → List Nat
  | 0, _, L => L
  | z + 1, a, L => if W ≤ a then L else outP W z (a + 1) (innP W a 6 (a + 1) L)
theorem out_prs : ∀ W, W < 5 → outP W 6 0 [] = [1, 2, 3, 12, 13, 23].filter (fun p => decide (p % 10 < W)) := by decide
def PL (S : PSt) (d : Nat) (L : List Nat) : Prop := L.length ≤ 6 ∧ gI S 404 d = nI L.length ∧ ∀ i, i < L.length → gA S (d + 7) i = nI (L.getD i 0)
def pF4 (S T : PSt) (d : Nat) : Prop := (∀ b, b ≠ d → b ≠ d + 7 → ag S T b) ∧ ∀ f, f ≠ 404 → gI T f d = gI S f d
theorem pF4_refl (S : PSt) (d : Nat) : pF4 S S d := ⟨fun b _ _ => ag.refl S b, fun _ _ => rfl⟩
theorem pF4_trans {S T U : PSt} {d : Nat} (h : pF4 S T d) (k : pF4 T U d) : pF4 S U d := ⟨fun b h1 h2 => (h.1 b h1 h2).trans (k.1 b h1 h2), fun f hf => (k.2 f hf).trans (h.2 f hf)⟩
theorem c_inn {N d W a : Nat} (hkd : kd d = 4) (hW : W ≤ 4) (ha : a < 4) {k7 : PSt → Nat → Int32 → Option PSt} : ∀ (z b fuel : Nat) (L : List Nat) (S : PSt), b ≤ W → W < b + z → z ≤ fuel → gI S 400 d = nI W → PL S d L → ∃ T, P_X4_prepare_L19 k7 N fuel S d (nI a) (nI b) = k7 T d (nI (a + 1)) ∧ pF4 S T d ∧ PL T d (innP W a z b L) := by
  intro z
  induction z with
  | zero => intro b fuel L S h1 h2; omega
  | succ z ih =>
    intro b fuel L S h1 h2 hf h0 hL
    obtain ⟨fuel, rfl⟩ : ∃ z, fuel = z + 1 := ⟨fuel - 1, by omega⟩
    obtain ⟨p1, p2, p3⟩ := hL
    rw [P_X4_prepare_L19, innP]
    dsimp only
    rw [h0, p2, li1, nI_add, bnd_eq, bnd_eq, li6]
    by_cases c1 : W ≤ b
    · rw [if_pos (nI_le c1 (by omega)), if_pos c1]
      exact ⟨S, rfl, pF4_refl S d, p1, p2, p3⟩
    · rw [if_neg (nI_ge (by omega) (by omega)), if_neg c1]
      by_cases c2 : 6 ≤ L.length
      · rw [if_pos (nI_le c2 (by omega)), if_pos c2]
        exact ⟨S, rfl, pF4_refl S d, p1, p2, p3⟩
      · have g : gI (sA S (d + 7) L.length (nI (10 * a + b))) 404 d = nI L.length := p2
        rw [if_neg (nI_ge (by omega) (by omega)), if_neg c2, bin_nI (by omega), lt7 hkd, gd_dec (by omega), nI_clamp (by omega), li10, pk_mul, nI_add, bnd_eq, g, nI_add, bnd_eq, nI_add]
        have f1 : pF4 S (sI (sA S (d + 7) L.length (nI (10 * a + b))) 404 d (nI (L.length + 1))) d := ⟨fun c h1 h2 => (ag_sA h2).trans (ag_sI h1), fun f hf => by rw [gI_sI, if_neg (by omega)]; rfl⟩
        obtain ⟨T, e, k1, k2⟩ := ih (b + 1) fuel (L ++ [10 * a + b]) (sI (sA S (d + 7) L.length (nI (10 * a + b))) 404 d (nI (L.length + 1))) (by omega) (by omega) (by omega) ((f1.2 400 (by omega)).trans h0) ⟨by rw [List.length_append]; show L.length + 1 ≤ 6; omega, by rw [gI_sI, if_pos ⟨rfl, rfl⟩, List.length_append]; rfl, fun i hi => by
          rw [List.length_append] at hi
          have hi : i < L.length + 1 := hi
          rw [getD_app hi, gA_sI, gA_sA, if_pos rfl]
          unfold upd
          by_cases c : i = L.length
          · rw [if_pos c, if_pos c]
          · rw [if_neg c, if_neg c]; exact p3 i (by omega)⟩
        exact ⟨T, e, pF4_trans f1 k1, k2⟩
theorem c_out {N d W : Nat} (hN : 20 ≤ N) (hkd : kd d = 4) (hW : W ≤ 4) : ∀ (z a fuel : Nat) (L : List Nat) (S : PSt), a ≤ W → W < a + z → z ≤ fuel → gI S 400 d = nI W → PL S d L → ∃ T, P_X4_prepare_L7 N fuel S d (nI a) = P_X4_prepare_L75 N N T d (nI 0) ∧ pF4 S T d ∧ PL T d (outP W z a L) := by
  intro z
  induction z with
  | zero => intro a fuel L S h1 h2; omega
  | succ z ih =>
    intro a fuel L S h1 h2 hf h0 hL
    obtain ⟨fuel, rfl⟩ : ∃ z, fuel = z + 1 := ⟨fuel - 1, by omega⟩
    rw [P_X4_prepare_L7, outP]
    dsimp only
    rw [h0]
    by_cases c1 : W ≤ a
    · rw [if_pos (nI_le c1 (by omega)), if_pos c1, li0]
      exact ⟨S, rfl, pF4_refl S d, hL⟩
    · rw [if_neg (nI_ge (by omega) (by omega)), if_neg c1, li1, nI_add, bnd_eq]
      obtain ⟨T, e, k1, k2⟩ := c_inn (N := N) (W := W) (a := a) (k7 := P_X4_prepare_L7 N fuel) hkd hW (by omega) 6 (a + 1) N L S (by omega) (by omega) (by omega) h0 hL
      obtain ⟨U, e2, k3, k4⟩ := ih (a + 1) fuel (innP W a 6 (a + 1) L) T (by omega) (by omega) (by omega) ((k1.2 400 (by omega)).trans h0) k2
      exact ⟨U, by rw [e, e2], pF4_trans k1 k3, k4⟩
theorem c_bndL {N d i : Nat} {S : PSt} {t : Tau} (hkd : kd d = 4) (hR : CRt S d t) (ok : TOK t) (hi : i < tn t) (hp1 : gI S 404 d = nI (prs t).length) (hp2 : ∀ j, j < (prs t).length → gA S (d + 7) j = nI ((prs t).getD j 0)) {lo hi' : Nat} (g8 : gA S (d + 8) i = nI lo) (g9 : gA S (d + 9) i = nI hi') : ∀ (z c fuel low high : Nat), c + z = (prs t).length → z < fuel → low ≤ 8 → high ≤ 14 → (∀ j, j < c → low ≤ rate t i ((prs t).getD j 0) ∧ rate t i ((prs t).getD j 0) + 6 ≤ high) → ∃ l h, P_X4_boundMinutes_L7 N fuel S d (nI i) (nI low) (nI high) (nI c) = some (sA (sA S (d + 8) (i + 1) (nI (lo + l * tL t i))) (d + 9) (i + 1) (nI (hi' + h * tL t i + tc t))) ∧ l ≤ 8 ∧ h ≤ 14 ∧ ∀ j, j < (prs t).length → l ≤ rate t i ((prs t).getD j 0) ∧ rate t i ((prs t).getD j 0) + 6 ≤ h := by
  have on := ok.2.1
  have h6 := prs_len t
  have hLi := hR.2.2.2.2.2.2.1 i hi
  intro z
  induction z with
  | zero =>
    intro c fuel low high hz hf hl hh hj
    obtain ⟨fuel, rfl⟩ : ∃ z, fuel = z + 1 := ⟨fuel - 1, by omega⟩
    refine ⟨low, high, ?_, hl, hh, fun j hj' => hj j (by omega)⟩
    have a9 : gA (sA S (d + 8) (i + 1) (nI (lo + low * tL t i))) (d + 9) i = nI hi' := by rw [gA_sA, if_neg (by omega)]; exact g9
    have a3 : gA (sA S (d + 8) (i + 1) (nI (lo + low * tL t i))) (d + 3) i = nI (tL t i) := by rw [gA_sA, if_neg (by omega)]; exact hLi
    have a2 : gI (sA S (d + 8) (i + 1) (nI (lo + low * tL t i))) 402 d = nI (tc t) := hR.2.2.1
    rw [P_X4_boundMinutes_L7]
    dsimp only
    rw [hp1, if_pos (nI_le (by omega) (by omega)), bin_nI (by omega), lt8 hkd, gd_dec (by omega), bin_nI (by omega), lt3 hkd, gd_dec (by omega), li1, nI_add, bin_nI (by omega), gd_dec (by omega), nI_clamp (by omega), nI_clamp (by omega), g8, hLi, pk_mul, nI_add, bnd_eq, bin_nI (by omega), lt9 hkd, gd_dec (by omega), gd_dec (by omega), bin_nI (by omega), gd_dec (by omega), a9, a3, a2, pk_mul, nI_add, nI_add, bnd_eq]
  | succ z ih =>
    intro c fuel low high hz hf hl hh hj
    obtain ⟨fuel, rfl⟩ : ∃ z, fuel = z + 1 := ⟨fuel - 1, by omega⟩
    have hc : c < (prs t).length := by omega
    have hpv : vpr t ((prs t).getD c 0) := prs_mem (by
      rw [List.getD_eq_getElem?_getD, List.getElem?_eq_getElem hc]
      exact List.getElem_mem hc)
    have hr := rate_le t ok (p := (prs t).getD c 0) hi
    obtain ⟨rt, hrt⟩ : ∃ rt, rt = rate t i ((prs t).getD c 0) := ⟨_, rfl⟩
    rw [← hrt] at hr
    have eU := c_unwornRate (N := N) hkd hR ok hi hpv
    rw [← hrt] at eU
    have eh : (if nI high < nI (rt + 6) then nI (rt + 6) else nI high) = nI (max high (rt + 6)) := by
      by_cases c : high < rt + 6
      · rw [if_pos (nI_lt c (by omega))]; congr 1; omega
      · rw [if_neg (nI_nlt (by omega) (by omega))]; congr 1; omega
    have k46 : ∀ y : Nat, P_X4_boundMinutes_L46 (P_X4_boundMinutes_L7 N fuel) N S d (nI i) (nI high) (nI c) (nI rt) (nI y) = P_X4_boundMinutes_L7 N fuel S d (nI i) (nI y) (nI (max high (rt + 6))) (nI (c + 1)) := by
      intro y
      unfold P_X4_boundMinutes_L46
      rw [li6, nI_add, eh, bnd_eq, li1, nI_add, bnd_eq]
    rw [P_X4_boundMinutes_L7]
    dsimp only
    rw [hp1, if_neg (nI_ge hc (by omega)), bin_nI (by omega), lt7 hkd, gd_dec (by omega), nI_clamp (by omega), hp2 c hc, eU, cal2_s, li0]
    by_cases c0 : c = 0
    · rw [if_pos (by rw [c0]), k46]
      exact ih (c + 1) fuel rt (max high (rt + 6)) (by omega) (by omega) (by omega) (by omega) (fun j hj' => by
        have : j = c := by omega
        rw [this, ← hrt]
        omega)
    · have el : (if nI rt < nI low then nI rt else nI low) = nI (min rt low) := by
        by_cases c : rt < low
        · rw [if_pos (nI_lt c (by omega))]; congr 1; omega
        · rw [if_neg (nI_nlt (by omega) (by omega))]; congr 1; omega
      rw [if_neg (by rw [nI_eq (by omega) (by omega)]; exact c0), el, k46]
      exact ih (c + 1) fuel (min rt low) (max high (rt + 6)) (by omega) (by omega) (by omega) (by omega) (fun j hj' => by
        by_cases c1 : j = c
        · rw [c1, ← hrt]; omega
        · have := hj j (by omega); omega)
/-- the tables up to a stretch -/
def BI (S : PSt) (d : Nat) (t : Tau) (i : Nat) : Prop := ∃ lo hi : Nat → Nat, lo 0 = 0 ∧ hi 0 = 0 ∧ (∀ j, j ≤ i → gA S (d + 8) j = nI (lo j) ∧ gA S (d + 9) j = nI (hi j)) ∧ ∀ j, j < i → lo j ≤ lo (j + 1) ∧ lo (j + 1) ≤ lo j + 81 ∧ hi (j + 1) ≤ hi j + 150 ∧ (prs t ≠ [] → ∀ p, p ∈ prs t → ∀ T : Nat → Nat, lo (j + 1) ≤ lo j + mins t T j p ∧ hi j + mins t T j p + tc t ≤ hi (j + 1))
theorem mem_getD {l : List Nat} {p : Nat} (h : p ∈ l) : ∃ j, j < l.length ∧ l.getD j 0 = p := by
  obtain ⟨j, hj, e⟩ := List.getElem_of_mem h
  exact ⟨j, hj, by rw [List.getD_eq_getElem?_getD, List.getElem?_eq_getElem hj, e]; rfl⟩
theorem c_bnds {N d : Nat} {t : Tau} (hN : 20 ≤ N) (hkd : kd d = 4) (ok : TOK t) : ∀ (z i fuel : Nat) (S : PSt), i + z = tn t → z < fuel → CRt S d t → gI S 404 d = nI (prs t).length → (∀ j, j < (prs t).length → gA S (d + 7) j = nI ((prs t).getD j 0)) → BI S d t i → ∃ T, P_X4_prepare_L75 N fuel S d (nI i) = some T ∧ (∀ b, b ≠ d + 8 → b ≠ d + 9 → ag S T b) ∧ BI T d t (tn t) := by
  have on := ok.2.1
  have h6 := prs_len t
  intro z
  induction z with
  | zero =>
    intro i fuel S hz hf hR h1 h2 hB
    obtain ⟨fuel, rfl⟩ : ∃ z, fuel = z + 1 := ⟨fuel - 1, by omega⟩
    refine ⟨S, ?_, fun b _ _ => ag.refl S b, by rw [show tn t = i by omega]; exact hB⟩
    rw [P_X4_prepare_L75]
    dsimp only
    rw [hR.2.1, if_pos (nI_le (by omega) (by omega))]
  | succ z ih =>
    intro i fuel S hz hf hR h1 h2 hB
    obtain ⟨fuel, rfl⟩ : ∃ z, fuel = z + 1 := ⟨fuel - 1, by omega⟩
    obtain ⟨lo, hi, z1, z2, a3, a4⟩ := hB
    have oT := ok.2.2.2.2.2.2 i (by omega)
    have oc := ok.2.2.1
    obtain ⟨l, h, e, l8, h14, hl⟩ := c_bndL (N := N) hkd hR ok (show i < tn t by omega) h1 h2 (a3 i (Nat.le_refl i)).1 (a3 i (Nat.le_refl i)).2 (prs t).length 0 N 0 0 (by omega) (by omega) (by omega) (by omega) (fun j hj => absurd hj (Nat.not_lt_zero j))
    obtain ⟨S2, hS2⟩ : ∃ S2, S2 = sA (sA S (d + 8) (i + 1) (nI (lo i + l * tL t i))) (d + 9) (i + 1) (nI (hi i + h * tL t i + tc t)) := ⟨_, rfl⟩
    have k2 : ∀ b, b ≠ d + 8 → b ≠ d + 9 → ag S S2 b := fun b c1 c2 => by rw [hS2]; exact (ag_sA c1).trans (ag_sA c2)
    have b8 : ∀ j, gA S2 (d + 8) j = if j = i + 1 then nI (lo i + l * tL t i) else gA S (d + 8) j := fun j => by
      rw [hS2, gA_sA, if_neg (by omega), gA_sA, if_pos rfl]; rfl
    have b9 : ∀ j, gA S2 (d + 9) j = if j = i + 1 then nI (hi i + h * tL t i + tc t) else gA S (d + 9) j := fun j => by
      rw [hS2, gA_sA, if_pos rfl]
      unfold upd
      by_cases c : j = i + 1
      · rw [if_pos c, if_pos c]
      · rw [if_neg c, if_neg c, gA_sA, if_neg (by omega)]
    have m1 : l * tL t i ≤ 8 * 9 := Nat.mul_le_mul l8 (by omega)
    have m2 : h * tL t i ≤ 14 * 9 := Nat.mul_le_mul h14 (by omega)
    have B2 : BI S2 d t (i + 1) := by
      refine ⟨upN lo (i + 1) (lo i + l * tL t i), upN hi (i + 1) (hi i + h * tL t i + tc t), ?_, ?_, fun j hj => ?_, fun j hj => ?_⟩
      · unfold upN; rw [if_neg (by omega)]; exact z1
      · unfold upN; rw [if_neg (by omega)]; exact z2
      · unfold upN
        rw [b8 j, b9 j]
        by_cases c : j = i + 1
        · rw [if_pos c, if_pos c, if_pos c, if_pos c]; exact ⟨rfl, rfl⟩
        · rw [if_neg c, if_neg c, if_neg c, if_neg c]; exact a3 j (by omega)
      · unfold upN
        rw [if_neg (show ¬ j = i + 1 by omega), if_neg (show ¬ j = i + 1 by omega)]
        by_cases c : j = i
        · rw [if_pos (by omega), if_pos (by omega), c]
          refine ⟨by omega, by omega, by omega, fun _ p hp T => ?_⟩
          obtain ⟨jj, hjj, ej⟩ := mem_getD hp
          obtain ⟨r1, r2⟩ := hl jj hjj
          rw [ej] at r1 r2
          have w1 := worn_le t T (p / 10)
          have w2 := worn_le t T (p % 10)
          unfold mins
          have y1 : l * tL t i ≤ tL t i * (rate t i p + 3 * (wornN t T (p / 10) + wornN t T (p % 10))) := by
            rw [Nat.mul_comm]; exact Nat.mul_le_mul_left _ (by omega)
          have y2 : tL t i * (rate t i p + 3 * (wornN t T (p / 10) + wornN t T (p % 10))) ≤ h * tL t i := by
            rw [Nat.mul_comm h]; exact Nat.mul_le_mul_left _ (by omega)
          omega
        · rw [if_neg (by omega), if_neg (by omega)]
          exact a4 j (by omega)
    obtain ⟨T, e2, k3, k4⟩ := ih (i + 1) fuel S2 (by omega) (by omega) (CRt_ag2 hR k2) (((k2 d (by omega) (by omega)).1 _).trans h1) (by rw [(k2 (d + 7) (by omega) (by omega)).2.2.2.1]; exact h2) B2
    refine ⟨T, ?_, fun b c1 c2 => (k2 b c1 c2).trans (k3 b c1 c2), k4⟩
    have eB : P_X4_boundMinutes N S d (nI i) = some S2 := by
      unfold P_X4_boundMinutes
      rw [li0, hS2]; exact e
    rw [P_X4_prepare_L75]
    dsimp only
    rw [hR.2.1, if_neg (nI_ge (by omega) (by omega)), eB, cal1_s, li1, nI_add, bnd_eq]
    exact e2
theorem c_prepare {N d : Nat} {S : PSt} {t : Tau} (hN : 20 ≤ N) (hkd : kd d = 4) (ok : TOK t) (hR : CRt S d t) (z8 : gA S (d + 8) 0 = 0) (z9 : gA S (d + 9) 0 = 0) : ∃ T, P_X4_prepare N S d = some T ∧ (∀ b, b ≠ d → b ≠ d + 7 → b ≠ d + 8 → b ≠ d + 9 → ag S T b) ∧ CRt T d t ∧ CRp T d t := by
  have oW := ok.1
  have on := ok.2.1
  have f0 : pF4 S (sI S 404 d (nI 0)) d := ⟨fun b h1 _ => ag_sI h1, fun f hf => by rw [gI_sI, if_neg (by omega)]⟩
  obtain ⟨T, e, k1, k2⟩ := c_out (N := N) hN hkd oW 6 0 N [] (sI S 404 d (nI 0)) (by omega) (by omega) (by omega) ((f0.2 400 (by omega)).trans hR.1) ⟨Nat.zero_le _, by rw [gI_sI, if_pos ⟨rfl, rfl⟩]; rfl, fun i hi => absurd hi (Nat.not_lt_zero i)⟩
  have ep : outP (tW t) 6 0 [] = prs t := out_prs (tW t) (by omega)
  rw [ep] at k2
  have f1 := pF4_trans f0 k1
  obtain ⟨h1, h2, h3, h4, h5, h6, h7, h8, h9, h10⟩ := hR
  have aa : ∀ i, 1 ≤ i → i ≠ 7 → gA T (d + i) = gA S (d + i) := fun i h1 h2 => (f1.1 (d + i) (by omega) (by omega)).2.2.2.1
  have RT : CRt T d t := ⟨(f1.2 400 (by omega)).trans h1, (f1.2 401 (by omega)).trans h2, (f1.2 402 (by omega)).trans h3, (f1.2 403 (by omega)).trans h4, by rw [aa 1 (by omega) (by omega)]; exact h5, by rw [aa 2 (by omega) (by omega)]; exact h6, by rw [aa 3 (by omega) (by omega)]; exact h7, by rw [aa 4 (by omega) (by omega)]; exact h8, by rw [aa 5 (by omega) (by omega)]; exact h9, by rw [aa 6 (by omega) (by omega)]; exact h10⟩
  obtain ⟨U, e2, k3, k4⟩ := c_bnds (N := N) hN hkd ok (tn t) 0 N T (by omega) (by omega) RT k2.2.1 k2.2.2 ⟨fun _ => 0, fun _ => 0, rfl, rfl, fun j hj => by
    have : j = 0 := by omega
    subst this
    rw [aa 8 (by omega) (by omega), aa 9 (by omega) (by omega), z8, z9]
    exact ⟨li0, li0⟩, fun j hj => absurd hj (Nat.not_lt_zero j)⟩
  refine ⟨U, ?_, fun b c1 c2 c3 c4 => (f1.1 b c1 c2).trans (k3 b c3 c4), CRt_ag2 RT k3, ((k3 d (by omega) (by omega)).1 _).trans k2.2.1, by rw [(k3 (d + 7) (by omega) (by omega)).2.2.2.1]; exact k2.2.2, k4⟩
  unfold P_X4_prepare
  rw [li0, bnd_eq, e]
  exact e2
end
