section
/-! STAGE 2, what was seen: the component gathers what is due, and adds rows -/
theorem l99 : ln 99 = 6 := rfl
theorem l100 : ln 100 = 6 := rfl
theorem l103 : ln 103 = 6 := rfl
theorem l104 : ln 104 = 6 := rfl
theorem l105 : ln 105 = 7 := rfl
theorem pI_s (v : Nat) : pI (some v) = nI v := rfl
theorem ks4 {i : Nat} (hi : i < 7) : kd (106 + 2 * i) = 0 := (show ∀ i, i < 7 → kd (106 + 2 * i) = 0 by decide +kernel) i hi
def lI (d : Nat) : Int32 := if d = 0 then -1 else nI (d - 1)
theorem lI_lt {d i : Nat} (hd : d < 2 ^ 20) (hi : i < 2 ^ 20) : lI d < nI i ↔ d ≤ i := by
  unfold lI
  by_cases c : d = 0
  · rw [if_pos c, Int32.lt_iff_toInt_lt, nI_toInt (by omega)]
    show (-1 : Int) < i ↔ _
    omega
  · rw [if_neg c, Int32.lt_iff_toInt_lt, nI_toInt (by omega), nI_toInt (by omega)]
    omega
theorem lI_max {d s : Nat} (hd : d < 2 ^ 20) (hs : s < 2 ^ 20) : (if lI d < nI s then nI s else lI d) = lI (max d (s + 1)) := by
  by_cases c : d ≤ s
  · rw [if_pos ((lI_lt hd hs).mpr c), show max d (s + 1) = s + 1 by omega]
    unfold lI
    rw [if_neg (by omega)]
    rfl
  · rw [if_neg (fun h => c ((lI_lt hd hs).mp h)), show max d (s + 1) = d by omega]
def gF (S T : PSt) : Prop := (∀ b, b ≠ 98 → b ≠ 103 → ag S T b) ∧ ∀ f, f ≠ 308 → gI T f 98 = gI S f 98
theorem gF_refl (S : PSt) : gF S S := ⟨fun b _ _ => ag.refl S b, fun _ _ => rfl⟩
theorem gF_trans {S T U : PSt} (h : gF S T) (k : gF T U) : gF S U := ⟨fun b h1 h2 => (h.1 b h1 h2).trans (k.1 b h1 h2), fun f hf => (k.2 f hf).trans (h.2 f hf)⟩
theorem gF_sI {S : PSt} {v : Int32} : gF S (sI S 308 98 v) := ⟨fun b h1 _ => ag_sI h1, fun f hf => by rw [gI_sI, if_neg (by omega)]⟩
theorem gF_sA {S : PSt} {i : Nat} {v : Int32} : gF S (sA S 103 i v) := ⟨fun b _ h2 => ag_sA h2, fun _ _ => rfl⟩
theorem c_gath0 {N : Nat} {S : PSt} (hN : 10 ≤ N) : ∃ T, P_X3_gatherDue N S = P_X3_gatherDue_L29 N N T (nI 0) ∧ gF S T ∧ (∀ j, j < 6 → gA T 103 j = -9) ∧ gI T 308 98 = -1 := by
  have step : ∀ (k : Nat) (s : PSt × Int32) (fuel : Nat), k < 6 → (s.2 = nI k ∧ gF S s.1 ∧ (∀ j, j < k → gA s.1 103 j = -9) ∧ gI s.1 308 98 = -1) → ∃ s' : PSt × Int32, P_X3_gatherDue_L7 N (fuel + 1) s.1 s.2 = P_X3_gatherDue_L7 N fuel s'.1 s'.2 ∧ (s'.2 = nI (k + 1) ∧ gF S s'.1 ∧ (∀ j, j < k + 1 → gA s'.1 103 j = -9) ∧ gI s'.1 308 98 = -1) := by
    rintro k ⟨T, x⟩ fuel hk ⟨hx, h1, h2, h3⟩
    simp only at hx h1 h2 h3 ⊢
    subst hx
    refine ⟨(sA T 103 k (-9), nI (k + 1)), ?_, rfl, gF_trans h1 gF_sA, fun j hj => ?_, h3⟩
    · rw [P_X3_gatherDue_L7]
      dsimp only
      rw [li6, if_neg (nI_ge hk (by omega)), bin_nI (by omega), l103, gd_dec hk, bnd_eq, nI_clamp (by omega), li1, nI_add, bnd_eq]
    · show gA (sA T 103 k (-9)) 103 j = -9
      rw [gA_sA, if_pos rfl]
      unfold upd
      split
      · rfl
      · exact h2 j (by omega)
  obtain ⟨⟨T, x⟩, e, hx, h1, h2, h3⟩ := loopG (fun f (s : PSt × Int32) => P_X3_gatherDue_L7 N f s.1 s.2) _ 6 step 6 0 (sI S 308 98 (-1), nI 0) (N - 6) (by omega) ⟨rfl, gF_sI, fun j hj => absurd hj (Nat.not_lt_zero j), rfl⟩
  simp only at e hx h1 h2 h3
  subst hx
  rw [show N - 6 + 6 = N by omega] at e
  refine ⟨T, ?_, h1, h2, h3⟩
  unfold P_X3_gatherDue
  rw [bnd_eq, li0, e]
  obtain ⟨f, hf⟩ : ∃ f, N - 6 = f + 1 := ⟨N - 7, by omega⟩
  rw [hf, P_X3_gatherDue_L7]
  dsimp only
  rw [li6, if_pos (nI_le (Nat.le_refl _) (by omega)), li0]
theorem ld_le {sn : List (Nat × Nat)} {n : Nat} (h : ∀ i, i < sn.length → (sn.getD i (0, 0)).1 < n) : ∀ k, k ≤ sn.length → ldK sn k ≤ n
  | 0, _ => Nat.zero_le _
  | k + 1, hk => by
    have h1 := ld_le h k (by omega)
    have h2 := h k (by omega)
    show max _ _ ≤ n
    omega
theorem c_gather {N : Nat} {S : PSt} {t : Tau} {sn : List (Nat × Nat)} (hN : 20 ≤ N) (on : tn t ≤ 6) (hl : sn.length ≤ 6) (h0 : gI S 300 98 = nI sn.length) (h1 : ∀ i, i < sn.length → gA S 101 i = nI (sn.getD i (0, 0)).1) (h2 : ∀ i, i < sn.length → gA S 102 i = nI (sn.getD i (0, 0)).2) (hb : ∀ i, i < sn.length → (sn.getD i (0, 0)).1 < tn t ∧ (sn.getD i (0, 0)).2 ≤ 9999) : ∃ b T, P_X3_gatherDue N S = some (bI b, T) ∧ gF S T ∧ (b = true → noC sn sn.length ∧ (∀ j, j < 6 → gA T 103 j = pI (duK sn sn.length j)) ∧ gI T 308 98 = lI (ldK sn sn.length)) ∧ (b = false → ∃ s, s < tn t ∧ ∀ mi, okSeen sn s mi = false) := by
  have loop : ∀ (z k fuel : Nat) (T : PSt), k + z = sn.length → z < fuel → gF S T → noC sn k → (∀ j, j < 6 → gA T 103 j = pI (duK sn k j)) → gI T 308 98 = lI (ldK sn k) → ∃ b T', P_X3_gatherDue_L29 N fuel T (nI k) = some (bI b, T') ∧ gF S T' ∧ (b = true → noC sn sn.length ∧ (∀ j, j < 6 → gA T' 103 j = pI (duK sn sn.length j)) ∧ gI T' 308 98 = lI (ldK sn sn.length)) ∧ (b = false → ∃ s, s < tn t ∧ ∀ mi, okSeen sn s mi = false) := by
    intro z
    induction z with
    | zero =>
      intro k fuel T hz hf g1 g2 g3 g4
      obtain ⟨fuel, rfl⟩ : ∃ z, fuel = z + 1 := ⟨fuel - 1, by omega⟩
      have hk : k = sn.length := by omega
      rw [hk] at g2 g3 g4
      refine ⟨true, T, ?_, g1, fun _ => ⟨g2, g3, g4⟩, fun h => by cases h⟩
      rw [P_X3_gatherDue_L29]
      dsimp only
      rw [g1.2 300 (by omega), h0, if_pos (nI_le (by omega) (by omega)), li1]
      rfl
    | succ z ih =>
      intro k fuel T hz hf g1 g2 g3 g4
      obtain ⟨fuel, rfl⟩ : ∃ z, fuel = z + 1 := ⟨fuel - 1, by omega⟩
      obtain ⟨b1, b2⟩ := hb k (by omega)
      have hk := h1 k (by omega)
      have hk2 := h2 k (by omega)
      have hld := ld_le (fun i hi => (hb i hi).1) k (by omega)
      obtain ⟨s, hs⟩ : ∃ s, s = (sn.getD k (0, 0)).1 := ⟨_, rfl⟩
      obtain ⟨m, hm⟩ : ∃ m, m = (sn.getD k (0, 0)).2 := ⟨_, rfl⟩
      rw [← hs] at b1 hk
      rw [← hm] at b2 hk2
      have e101 : gA T 101 k = nI s := by rw [(g1.1 101 (by omega) (by omega)).2.2.2.1]; exact hk
      have e102 : gA T 102 k = nI m := by rw [(g1.1 102 (by omega) (by omega)).2.2.2.1]; exact hk2
      have e103 := g3 s (by omega)
      have pre : P_X3_gatherDue_L29 N (fuel + 1) T (nI k) = if pI (duK sn k s) = (-9 : Int32) then P_X3_gatherDue_L72 (P_X3_gatherDue_L29 N fuel) N T (nI k) (nI s) else if pI (duK sn k s) = nI m then P_X3_gatherDue_L72 (P_X3_gatherDue_L29 N fuel) N T (nI k) (nI s) else some (nI 0, T) := by
        rw [P_X3_gatherDue_L29]
        dsimp only
        rw [g1.2 300 (by omega), h0, if_neg (nI_ge (by omega) (by omega)), bin_nI (by omega), l101, gd_dec (by omega), nI_clamp (by omega), e101, bnd_eq, bin_nI (by omega), l103, gd_dec (by omega), nI_clamp (by omega), e103, bin_nI (by omega), l102, gd_dec (by omega), gd_dec (by omega), e102, li0]
      have go : (duK sn k s = none ∨ duK sn k s = some m) → ∃ b T', P_X3_gatherDue_L72 (P_X3_gatherDue_L29 N fuel) N T (nI k) (nI s) = some (bI b, T') ∧ gF S T' ∧ (b = true → noC sn sn.length ∧ (∀ j, j < 6 → gA T' 103 j = pI (duK sn sn.length j)) ∧ gI T' 308 98 = lI (ldK sn sn.length)) ∧ (b = false → ∃ s, s < tn t ∧ ∀ mi, okSeen sn s mi = false) := by
        intro hd
        unfold P_X3_gatherDue_L72
        have e308 : gI (sA T 103 s (nI m)) 308 98 = lI (ldK sn k) := g4
        rw [bin_nI (by omega), l102, gd_dec (by omega), bin_nI (by omega), l103, gd_dec (by omega), nI_clamp (by omega), nI_clamp (by omega), e102, bnd_eq, e308, lI_max (by omega) (by omega), bnd_eq, li1, nI_add, bnd_eq]
        refine ih (k + 1) fuel _ (by omega) (by omega) (gF_trans g1 (gF_trans gF_sA gF_sI)) ?_ ?_ ?_
        · intro b hb'
          by_cases c : b = k
          · subst c
            rw [← hs, ← hm]
            exact hd
          · exact g2 b (by omega)
        · intro j hj
          rw [gA_sI, gA_sA, if_pos rfl]
          unfold upd
          rw [duK, ← hs, ← hm]
          by_cases c : j = s
          · rw [if_pos c, if_pos c.symm]; rfl
          · rw [if_neg c, if_neg (fun h => c h.symm)]; exact g3 j hj
        · rw [gI_sI, if_pos ⟨rfl, rfl⟩, ldK, ← hs]
      rw [pre]
      cases hd : duK sn k s with
      | none =>
        rw [if_pos (show pI none = -9 from rfl)]
        exact go (Or.inl hd)
      | some v =>
        have hv := duK_le (fun i hi => (hb i hi).2) k s v (by omega) hd
        rw [pI_s, if_neg (show ¬ nI v = -9 by rw [nI_m9 (by omega)]; exact id)]
        by_cases c : v = m
        · rw [if_pos (show nI v = nI m by rw [c])]
          exact go (Or.inr (by rw [hd, c]))
        · rw [if_neg (show ¬ nI v = nI m by rw [nI_eq (by omega) (by omega)]; exact c)]
          refine ⟨false, T, rfl, g1, fun h => (by cases h), fun _ => ⟨s, b1, fun mi => ?_⟩⟩
          rw [hs] at hd ⊢
          rw [hm] at c
          exact okK_con (by omega) g2 hd c mi
  obtain ⟨T, e, g1, g3, g4⟩ := c_gath0 (N := N) (S := S) (by omega)
  rw [e]
  exact loop sn.length 0 N T (by omega) (by omega) g1 (fun b hb' => absurd hb' (Nat.not_lt_zero b)) (fun j hj => g3 j hj) g4
theorem lo_mono2 {lo : Nat → Nat} {n : Nat} (h : ∀ i, i < n → lo i ≤ lo (i + 1)) : ∀ k i, i + k ≤ n → lo i ≤ lo (i + k)
  | 0, _, _ => Nat.le_refl _
  | k + 1, i, e => Nat.le_trans (lo_mono2 h k i (by omega)) (h (i + k) (by omega))
theorem c_mayFit {N r i till : Nat} {S : PSt} {t : Tau} {lo hi : Nat → Nat} {du : Nat → Option Nat} (hkr : kd r = 4) (hR : CRt S r t) (on : tn t ≤ 6) (hlo : ∀ i, i ≤ tn t → gA S (r + 8) i = nI (lo i)) (hhi : ∀ i, i ≤ tn t → gA S (r + 9) i = nI (hi i)) (hdu : ∀ j, j < 6 → gA S 103 j = pI (du j)) (hdb : ∀ j m, du j = some m → m ≤ 9999) (m1 : ∀ i, i < tn t → lo i ≤ lo (i + 1)) (m2 : ∀ i, i < tn t → hi i ≤ hi (i + 1)) (b1 : ∀ i, i ≤ tn t → lo i ≤ 1000) (b2 : ∀ i, i ≤ tn t → hi i ≤ 1000) (ht : till < 2 ^ 20) (hi0 : i < tn t) : ∀ (z j fuel : Nat), j + z = tn t → i ≤ j → z < fuel → P_X3_mayFit_L3 N fuel S r (nI i) (nI till) (nI j) = some (bI (mf du lo hi i till z j), S) := by
  intro z
  induction z with
  | zero =>
    intro j fuel hz hij hf
    obtain ⟨fuel, rfl⟩ : ∃ z, fuel = z + 1 := ⟨fuel - 1, by omega⟩
    rw [P_X3_mayFit_L3]
    dsimp only
    rw [hR.2.1, if_pos (nI_le (by omega) (by omega)), li1]
    rfl
  | succ z ih =>
    intro j fuel hz hij hf
    obtain ⟨fuel, rfl⟩ : ∃ z, fuel = z + 1 := ⟨fuel - 1, by omega⟩
    rw [P_X3_mayFit_L3, mf]
    dsimp only
    rw [hR.2.1, if_neg (nI_ge (by omega) (by omega)), bin_nI (by omega), l103, gd_dec (by omega), nI_clamp (by omega), hdu j (by omega)]
    cases hd : du j with
    | none =>
      rw [if_pos (show pI none = -9 from rfl), li1, nI_add, bnd_eq]
      exact ih (j + 1) fuel (by omega) (by omega) (by omega)
    | some m =>
      have hm := hdb j m hd
      have q1 := lo_mono2 m1 (j - i) (i + 1) (by omega)
      have q2 := lo_mono2 m2 (j - i) (i + 1) (by omega)
      rw [show i + 1 + (j - i) = j + 1 by omega] at q1 q2
      have q3 := b1 (j + 1) (by omega)
      have q4 := b2 (j + 1) (by omega)
      rw [pI_s, if_neg (show ¬ nI m = -9 by rw [nI_m9 (by omega)]; exact id), li1, nI_add, nI_add, bin_nI (by omega), lt8 hkr, gd_dec (by omega), bin_nI (by omega), gd_dec (by omega), nI_clamp (by omega), nI_clamp (by omega), hlo _ (by omega), hlo _ (by omega), nI_add, pk_sub (by omega), bnd_eq, bin_nI (by omega), lt9 hkr, gd_dec (by omega), bin_nI (by omega), gd_dec (by omega), hhi _ (by omega), hhi _ (by omega), nI_add, pk_sub (by omega), bnd_eq, gd_dec (by omega), gd_dec (by omega)]
      show (if nI m < nI (till + lo (j + 1) - lo (i + 1)) then some (0, S) else if nI (till + hi (j + 1) - hi (i + 1)) < nI m then some (0, S) else some (1, S)) = some (bI (decide (till + lo (j + 1) ≤ m + lo (i + 1)) && decide (m + hi (i + 1) ≤ till + hi (j + 1))), S)
      by_cases c1 : till + lo (j + 1) ≤ m + lo (i + 1)
      · rw [if_neg (nI_nlt (by omega) (by omega)), decide_eq_true c1, Bool.true_and]
        by_cases c2 : m + hi (i + 1) ≤ till + hi (j + 1)
        · rw [if_neg (nI_nlt (by omega) (by omega)), decide_eq_true c2, li1]; rfl
        · rw [if_pos (nI_lt (by omega) (by omega)), decide_eq_false c2, li0]; rfl
      · rw [if_pos (nI_lt (by omega) (by omega)), decide_eq_false c1, Bool.false_and, li0]; rfl
theorem sureL_le (L : List (List Nat)) (i : Nat) : sureL L i ≤ 15 := by
  have key : ∀ (l : List Nat) (s : Nat), l.foldl (fun a b => a &&& b) s ≤ s := by
    intro l
    induction l with
    | nil => intro s; exact Nat.le_refl s
    | cons x l ih => intro s; exact Nat.le_trans (ih (s &&& x)) Nat.and_le_left
  exact key _ 15
def AF (S : PSt) (n : Nat) (L : List (List Nat)) : Prop := gI S 302 98 = nI L.length ∧ (L ≠ [] → ∀ j, j < n → gA S 99 j = nI ((L.getD 0 []).getD j 0)) ∧ ∀ j, j < n → gA S 100 j = nI (sureL L j)
/-- what the search of rows that fit may change -/
def sF (S T : PSt) : Prop := (∀ b, (b < 98 ∨ 119 < b) → ag S T b) ∧ (∀ f, f ≠ 302 → gI T f 98 = gI S f 98) ∧ ag S T 101 ∧ ag S T 102 ∧ ag S T 103 ∧ ag S T 105
def sU (S T : PSt) (i : Nat) : Prop := ∀ j, j ≤ i → ag S T (106 + 2 * j) ∧ ag S T (106 + 2 * j + 1)
def sW (S T : PSt) (i : Nat) : Prop := ∀ j, j < i → gA T 104 j = gA S 104 j
theorem sF_refl (S : PSt) : sF S S := ⟨fun b _ => ag.refl S b, fun _ _ => rfl, ag.refl S _, ag.refl S _, ag.refl S _, ag.refl S _⟩
theorem sF_trans {S T U : PSt} (h : sF S T) (k : sF T U) : sF S U := ⟨fun b hb => (h.1 b hb).trans (k.1 b hb), fun f hf => (k.2.1 f hf).trans (h.2.1 f hf), h.2.2.1.trans k.2.2.1, h.2.2.2.1.trans k.2.2.2.1, h.2.2.2.2.1.trans k.2.2.2.2.1, h.2.2.2.2.2.trans k.2.2.2.2.2⟩
theorem sU_trans {S T U : PSt} {i : Nat} (h : sU S T i) (k : sU T U i) : sU S U i := fun j hj => ⟨(h j hj).1.trans (k j hj).1, (h j hj).2.trans (k j hj).2⟩
theorem sU_le {S T : PSt} {i e : Nat} (h : sU S T e) (hi : i ≤ e) : sU S T i := fun j hj => h j (by omega)
theorem sW_trans {S T U : PSt} {i : Nat} (h : sW S T i) (k : sW T U i) : sW S U i := fun j hj => (k j hj).trans (h j hj)
theorem sW_le {S T : PSt} {i e : Nat} (h : sW S T e) (hi : i ≤ e) : sW S T i := fun j hj => h j (by omega)
end
