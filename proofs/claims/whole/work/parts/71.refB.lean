section
/-! STAGE 2, the reference's search: a row is found -/
theorem bits_p : ∀ p, p < 34 → p / 10 < 4 → p % 10 < 4 → ((nI 1 <<< (nI (p / 10) &&& nI 31)) ||| (nI 1 <<< (nI (p % 10) &&& nI 31))) = nI (bitsP p) ∧ bitsP p ≤ 15 := by decide +kernel
theorem and_p : ∀ a, a < 16 → ∀ b, b < 16 → (nI a &&& nI b) = nI (a &&& b) ∧ a &&& b ≤ 15 := by decide +kernel
/-- rows; the row that stands, with its minutes; the walkers of each -/
abbrev Ac : Type := Nat × (List Nat × Nat) × (Nat → Nat)
def stepA (sn : Bool) (a : Ac) (x : List Nat × Nat) : Ac := (a.1 + 1, (if a.1 = 0 ∨ (sn = false ∧ x.2 < a.2.1.2) then x else a.2.1), fun i => if a.1 = 0 then bitsP (x.1.getD i 0) else a.2.2 i &&& bitsP (x.1.getD i 0))
def AR (S : PSt) (many : Nat) (a : Ac) : Prop := gI S 732 158 = nI a.1 ∧ (a.1 ≠ 0 → gI S 733 158 = nI a.2.1.2 ∧ (∀ d, d < many → gA S 174 d = nI (a.2.1.1.getD d 0)) ∧ (∀ d, d < many → gA S 175 d = nI (a.2.2 d) ∧ a.2.2 d ≤ 15))
/-- what a search of the reference may change -/
def sfr (S S' : PSt) : Prop := (∀ f a, (a ≠ 158 ∨ (f ≠ 732 ∧ f ≠ 733)) → gI S' f a = gI S f a) ∧ (∀ f a, gJ S' f a = gJ S f a) ∧ (∀ f a, gR S' f a = gR S f a) ∧ (∀ a, gQ S' a = gQ S a) ∧ ∀ a, (a < 170 ∨ 175 < a) → gA S' a = gA S a
theorem sfr_refl (S : PSt) : sfr S S := ⟨fun _ _ _ => rfl, fun _ _ => rfl, fun _ _ => rfl, fun _ => rfl, fun _ _ => rfl⟩
theorem sfr_trans {S T U : PSt} (h : sfr S T) (k : sfr T U) : sfr S U := ⟨fun f a x => (k.1 f a x).trans (h.1 f a x), fun f a => (k.2.1 f a).trans (h.2.1 f a), fun f a => (k.2.2.1 f a).trans (h.2.2.1 f a), fun a => (k.2.2.2.1 a).trans (h.2.2.2.1 a), fun a x => (k.2.2.2.2 a x).trans (h.2.2.2.2 a x)⟩
theorem sfr_scr {S T : PSt} (h : scr S T) : sfr S T := ⟨fun f a _ => h.1 f a, h.2.1, h.2.2.1, h.2.2.2.1, fun a x => h.2.2.2.2 a (by omega) (by omega) (by omega)⟩
theorem sfr_sA {S : PSt} {a i : Nat} {v : Int32} (h : 170 ≤ a ∧ a ≤ 175) : sfr S (sA S a i v) := ⟨fun _ _ _ => rfl, fun _ _ => rfl, fun _ _ => rfl, fun _ => rfl, fun b x => by rw [gA_sA, if_neg (by omega)]⟩
theorem sfr_sI {S : PSt} {f : Nat} {v : Int32} (h : f = 732 ∨ f = 733) : sfr S (sI S f 158 v) := ⟨fun g a x => by rw [gI_sI, if_neg (by omega)], fun _ _ => rfl, fun _ _ => rfl, fun _ => rfl, fun _ _ => rfl⟩
theorem MRt_sfr {S T : PSt} {t : Tau} (h : MRt S t) (k : sfr S T) : MRt T t := by
  obtain ⟨a1, a2, a3, a4, a5, a6, a7, a8, a9, a10⟩ := h
  have k9 := k.2.2.2.2 159 (by omega)
  have k0 := k.2.2.2.2 160 (by omega)
  refine ⟨(k.1 _ _ (by omega)).trans a1, (k.1 _ _ (by omega)).trans a2, (k.1 _ _ (by omega)).trans a3, (k.1 _ _ (by omega)).trans a4, ?_, ?_, ?_, ?_, ?_, ?_⟩
  · rw [k9]; exact a5
  · rw [k9]; exact a6
  · rw [k0]; exact a7
  · rw [k0]; exact a8
  · rw [k0]; exact a9
  · rw [k0]; exact a10
theorem MRs_sfr {S T : PSt} {t : Tau} {sn : List (Nat × Nat)} (h : MRs S t sn) (k : sfr S T) : MRs T t sn := by
  obtain ⟨a1, a2, a3, a4, a5⟩ := h
  have k5 := k.2.2.2.2 165 (by omega)
  exact ⟨a1, (k.1 _ _ (by omega)).trans a2, by rw [k5]; exact a3, by rw [k5]; exact a4, a5⟩
theorem MR_sfr {S T : PSt} {q : Sig} (h : MR S q) (k : sfr S T) : MR T q := by
  obtain ⟨h1, h2, h3, h4, h5, h6, h7, h8, h9, h10, h11, h12⟩ := h
  have kA : ∀ a, a < 170 → gA T a = gA S a := fun a ha => k.2.2.2.2 a (by omega)
  refine ⟨MRt_sfr h1 k, MRn_eq h2 (kA 161 (by omega)), (k.1 _ _ (by omega)).trans h3, fun i hi => (h4 i hi).eqM (kA _ (by omega)), ?_, fun j r hj hr => ?_, (k.1 _ _ (by omega)).trans h7, ?_, ?_, (k.1 _ _ (by omega)).trans h10, ?_, (k.2.1 _ _).trans h12⟩
  · rw [kA 164 (by omega)]; exact h5
  · obtain ⟨b1, b2, b3⟩ := h6 j r hj hr
    exact ⟨b1.eqM (kA _ (by omega)), by rw [kA 163 (by omega)]; exact b2, fun i hi => (b3 i hi).eqM (kA _ (by omega))⟩
  · rw [kA 165 (by omega)]; exact h8
  · rw [kA 165 (by omega)]; exact h9
  · rw [kA 166 (by omega)]; exact h11
theorem eqC_sfr {S T : PSt} (k : sfr S T) : eqC S T := ⟨fun f a ha => k.1 f a (by omega), fun f a _ => k.2.1 f a, k.2.2.1, fun a ha => k.2.2.2.2 a (by omega), k.2.2.2.1⟩
/-- depths up to d stand as they were -/
def upto (S S' : PSt) (d : Nat) : Prop := (∀ j, j ≤ d → gA S' 171 j = gA S 171 j) ∧ (∀ j, j ≤ d → gA S' 172 j = gA S 172 j) ∧ (∀ v, v < 4 * d + 4 → gA S' 170 v = gA S 170 v)
theorem upto_refl (S : PSt) (d : Nat) : upto S S d := ⟨fun _ _ => rfl, fun _ _ => rfl, fun _ _ => rfl⟩
theorem upto_trans {S T U : PSt} {d : Nat} (h : upto S T d) (k : upto T U d) : upto S U d := ⟨fun j hj => (k.1 j hj).trans (h.1 j hj), fun j hj => (k.2.1 j hj).trans (h.2.1 j hj), fun v hv => (k.2.2 v hv).trans (h.2.2 v hv)⟩
theorem upto_le {S T : PSt} {d e : Nat} (h : upto S T e) (hd : d ≤ e) : upto S T d := ⟨fun j hj => h.1 j (by omega), fun j hj => h.2.1 j (by omega), fun v hv => h.2.2 v (by omega)⟩
theorem upto_dep {S T : PSt} {d j : Nat} {q : Wk} (h : upto S T d) (hj : j ≤ d) (hq : dep S j q) : dep T j q := ⟨(h.1 j hj).trans hq.1, (h.2.1 j hj).trans hq.2.1, fun w hw => ⟨(h.2.2 _ (by omega)).trans (hq.2.2 w hw).1, (hq.2.2 w hw).2⟩⟩
theorem upto_wS {S : PSt} {d p : Nat} {q : Wk} : upto S (wS S d q p) d := by
  refine ⟨fun j hj => ?_, fun j hj => ?_, fun v hv => ?_⟩
  · unfold wS
    rw [gA_sA, if_neg (by omega), put4_ne (by omega), gA_sA, if_pos rfl]
    unfold upd
    rw [if_neg (by omega)]
  · unfold wS
    rw [gA_sA, if_pos rfl]
    unfold upd
    rw [if_neg (by omega), put4_ne (by omega), gA_sA, if_neg (by omega)]
  · unfold wS
    rw [gA_sA, if_neg (by omega), put4_off (by omega), gA_sA, if_neg (by omega)]
/-- nothing but found, all, least, rows has changed -/
def ffr (S S' : PSt) : Prop := sfr S S' ∧ gA S' 170 = gA S 170 ∧ gA S' 171 = gA S 171 ∧ gA S' 172 = gA S 172 ∧ gA S' 173 = gA S 173
theorem m_findsL {N many : Nat} {S : PSt} {row : List Nat} {bt : Nat} (hN : 20 ≤ N) (hm : many ≤ 6) (hbt : bt ≤ 1) (hp : ∀ d, d < many → gA S 172 (d + 1) = nI (row.getD d 0)) (hv : ∀ d, d < many → row.getD d 0 < 34 ∧ row.getD d 0 / 10 < 4 ∧ row.getD d 0 % 10 < 4) {R : Nat} (hR : gI S 732 158 = nI R) (hR2 : R < 2 ^ 20) (al : Nat → Nat) (hal : R ≠ 0 → ∀ d, d < many → gA S 175 d = nI (al d) ∧ al d ≤ 15) : ∃ S', P_X7_finds_L34 N N S (nI many) (nI bt) (nI 0) = (if nI bt = nI 0 then P_X7_finds_L144 N S' (gI S' 733 158) else P_X7_finds_L144 N S' (gA S' 171 many)) ∧ ffr S S' ∧ (∀ f a, gI S' f a = gI S f a) ∧ (∀ d, d < many → gA S' 174 d = if bt = 0 then gA S 174 d else nI (row.getD d 0)) ∧ (∀ d, d < many → gA S' 175 d = nI (if R = 0 then bitsP (row.getD d 0) else al d &&& bitsP (row.getD d 0)) ∧ (if R = 0 then bitsP (row.getD d 0) else al d &&& bitsP (row.getD d 0)) ≤ 15) := by
  have step : ∀ (k : Nat) (s : PSt × Int32) (fuel : Nat), k < many → (s.2 = nI k ∧ ffr S s.1 ∧ (∀ f a, gI s.1 f a = gI S f a) ∧ (∀ d, gA s.1 174 d = if d < k ∧ bt ≠ 0 then nI (row.getD d 0) else gA S 174 d) ∧ (∀ d, gA s.1 175 d = if d < k then nI (if R = 0 then bitsP (row.getD d 0) else al d &&& bitsP (row.getD d 0)) else gA S 175 d)) → ∃ s' : PSt × Int32, P_X7_finds_L34 N (fuel + 1) s.1 (nI many) (nI bt) s.2 = P_X7_finds_L34 N fuel s'.1 (nI many) (nI bt) s'.2 ∧ (s'.2 = nI (k + 1) ∧ ffr S s'.1 ∧ (∀ f a, gI s'.1 f a = gI S f a) ∧ (∀ d, gA s'.1 174 d = if d < k + 1 ∧ bt ≠ 0 then nI (row.getD d 0) else gA S 174 d) ∧ (∀ d, gA s'.1 175 d = if d < k + 1 then nI (if R = 0 then bitsP (row.getD d 0) else al d &&& bitsP (row.getD d 0)) else gA S 175 d)) := by
    rintro k ⟨T, x⟩ fuel hk ⟨hx, i1, i2, i3, i4⟩
    simp only at hx i1 i2 i3 i4 ⊢
    subst hx
    obtain ⟨v1, v2, v3⟩ := hv k hk
    obtain ⟨p1, p2⟩ := bits_p _ v1 v2 v3
    obtain ⟨pr, hpr⟩ : ∃ pr, pr = row.getD k 0 := ⟨_, rfl⟩
    rw [← hpr] at v1 v2 v3 p1 p2
    have e1 : nI pr / nI 10 = nI (pr / 10) := pk_div (by omega) (by omega) (by omega)
    have e2 : nI pr - nI (pr / 10) * nI 10 = nI (pr % 10) := by rw [← e1]; exact pk_rem (by omega) (by omega) (by omega)
    have g172 : gA T 172 (k + 1) = nI pr := by rw [i1.2.2.2.1, hpr]; exact hp k hk
    have e31 : (31 : Int32) = nI 31 := li31
    obtain ⟨v, hvd⟩ : ∃ v : Int32, v = if bt = 0 then gA T 174 k else nI pr := ⟨_, rfl⟩
    have hv175 : gA T 175 k = gA S 175 k := by rw [i4 k, if_neg (by omega)]
    have k90 : P_X7_finds_L90 (P_X7_finds_L34 N fuel) N T (nI many) (nI bt) (nI k) (nI (bitsP pr)) (nI k) v = P_X7_finds_L34 N fuel (sA (sA T 174 k v) 175 k (nI (if R = 0 then bitsP pr else al k &&& bitsP pr))) (nI many) (nI bt) (nI (k + 1)) := by
      unfold P_X7_finds_L90 P_X7_finds_L119
      have g9 : gI (sA T 174 k v) 732 158 = nI R := (i2 732 158).trans hR
      rw [bin_nI (by omega), l174, gd_dec (by omega), bnd_eq, nI_clamp (by omega), g9, li0, bin_nI (by omega), l175, gd_dec (by omega)]
      by_cases c : R = 0
      · rw [if_pos (by rw [c]), if_pos c, bnd_eq, li1, nI_add, bnd_eq]
      · obtain ⟨z1, z2⟩ := hal c k hk
        obtain ⟨y1, y2⟩ := and_p (al k) (by omega) (bitsP pr) (by omega)
        have g8 : gA (sA T 174 k v) 175 k = nI (al k) := hv175.trans z1
        rw [if_neg (by rw [nI_eq (by omega) (by omega)]; exact c), if_neg c, gd_dec (by omega), g8, y1, bnd_eq, li1, nI_add, bnd_eq, gd_dec (by omega)]
    refine ⟨(sA (sA T 174 k v) 175 k (nI (if R = 0 then bitsP pr else al k &&& bitsP pr)), nI (k + 1)), ?_, rfl, ⟨?_, ?_, ?_, ?_, ?_⟩, i2, fun d => ?_, fun d => ?_⟩
    · rw [P_X7_finds_L34]
      dsimp only
      rw [if_neg (nI_ge hk (by omega)), li1, nI_add, bin_nI (by omega), l172, gd_dec (by omega), nI_clamp (by omega), g172, bnd_eq]
      simp only [li10, e1, e2, e31]
      rw [p1, bnd_eq, li0]
      by_cases c : bt = 0
      · rw [c, if_pos rfl, bin_nI (by omega), l174, gd_dec (by omega), nI_clamp (by omega)]
        rw [c] at k90
        rw [hvd, if_pos c] at k90 ⊢
        exact k90
      · rw [if_neg (by rw [nI_eq (by omega) (by omega)]; exact c)]
        rw [hvd, if_neg c] at k90 ⊢
        exact k90
    · exact sfr_trans i1.1 (sfr_trans (sfr_sA (by omega)) (sfr_sA (by omega)))
    · exact i1.2.1
    · exact i1.2.2.1
    · exact i1.2.2.2.1
    · exact i1.2.2.2.2
    · rw [gA_sA, if_neg (by omega), gA_sA, if_pos rfl]
      unfold upd
      by_cases c : d = k
      · subst c
        rw [if_pos rfl, hvd]
        by_cases c2 : bt = 0
        · rw [if_pos c2, if_neg (by omega), i3 d, if_neg (by omega)]
        · rw [if_neg c2, if_pos ⟨by omega, c2⟩, hpr]
      · rw [if_neg c, i3 d]
        by_cases c2 : d < k ∧ bt ≠ 0
        · rw [if_pos c2, if_pos ⟨by omega, c2.2⟩]
        · rw [if_neg c2, if_neg (by omega)]
    · rw [gA_sA, if_pos rfl]
      unfold upd
      by_cases c : d = k
      · subst c
        rw [if_pos rfl, if_pos (show d < d + 1 by omega), hpr]
      · rw [if_neg c, gA_sA, if_neg (by omega), i4 d]
        by_cases c2 : d < k
        · rw [if_pos c2, if_pos (show d < k + 1 by omega)]
        · rw [if_neg c2, if_neg (show ¬ d < k + 1 by omega)]
  obtain ⟨⟨T, x⟩, e, hx, i1, i2, i3, i4⟩ := loopG (fun f (s : PSt × Int32) => P_X7_finds_L34 N f s.1 (nI many) (nI bt) s.2) _ many step many 0 (S, nI 0) (N - many) (by omega) ⟨rfl, ⟨sfr_refl S, rfl, rfl, rfl, rfl⟩, fun _ _ => rfl, fun d => by rw [if_neg (by omega)], fun d => by rw [if_neg (by omega)]⟩
  simp only at e hx i1 i2 i3 i4
  subst hx
  rw [show N - many + many = N by omega] at e
  refine ⟨T, ?_, i1, i2, fun d hd => ?_, fun d hd => ⟨?_, ?_⟩⟩
  · rw [e]
    obtain ⟨f, hf⟩ : ∃ f, N - many = f + 1 := ⟨N - many - 1, by omega⟩
    rw [hf, P_X7_finds_L34]
    dsimp only
    rw [if_pos (nI_le (Nat.le_refl _) (by omega)), li0, bin_nI (by omega), l171, gd_dec (by omega), nI_clamp (by omega)]
  · rw [i3 d]
    by_cases c : bt = 0
    · rw [if_pos c, if_neg (by omega)]
    · rw [if_neg c, if_pos ⟨hd, c⟩]
  · rw [i4 d, if_pos hd]
  · obtain ⟨v1, v2, v3⟩ := hv d hd
    obtain ⟨p1, p2⟩ := bits_p _ v1 v2 v3
    split
    · exact p2
    · rename_i c
      exact (and_p _ (by have := (hal c d hd).2; omega) _ (by omega)).2
theorem m_finds {N many b mn : Nat} {S : PSt} {row : List Nat} {a : Ac} (hN : 20 ≤ N) (hm : many ≤ 6) (hb : b ≤ 2) (hp : ∀ d, d < many → gA S 172 (d + 1) = nI (row.getD d 0)) (hv : ∀ d, d < many → row.getD d 0 < 34 ∧ row.getD d 0 / 10 < 4 ∧ row.getD d 0 % 10 < 4) (hmn : gA S 171 many = nI mn) (hmn2 : mn < 2 ^ 20) (hA : AR S many a) (ha : a.1 < 2 ^ 20) (ha2 : a.2.1.2 < 2 ^ 20) : ∃ S', P_X7_finds N S (nI many) (nI b) = some S' ∧ AR S' many (stepA (decide (b = 2)) a (row, mn)) ∧ ffr S S' := by
  obtain ⟨A1, A2⟩ := hA
  have fin : ∀ bt : Nat, bt ≤ 1 → (bt = 1 ↔ (a.1 = 0 ∨ (decide (b = 2) = false ∧ mn < a.2.1.2))) → ∃ S', P_X7_finds_L34 N N S (nI many) (nI bt) (nI 0) = some S' ∧ AR S' many (stepA (decide (b = 2)) a (row, mn)) ∧ ffr S S' := by
    intro bt hbt hiff
    obtain ⟨T, e, i1, i2, i3, i4⟩ := m_findsL (N := N) hN hm hbt hp hv A1 ha a.2.2 (fun h => (A2 h).2.2)
    obtain ⟨y, hy⟩ : ∃ y : Nat, y = if bt = 0 then a.2.1.2 else mn := ⟨_, rfl⟩
    have key : ∀ z : Int32, (bt = 0 → z = gI S 733 158) → (bt = 1 → z = nI mn) → ∃ S', P_X7_finds_L144 N T z = some S' ∧ AR S' many (stepA (decide (b = 2)) a (row, mn)) ∧ ffr S S' := by
      intro z hz0 hz1
      refine ⟨sI (sI T 733 158 z) 732 158 (nI (a.1 + 1)), ?_, ⟨?_, fun _ => ⟨?_, fun d hd => ?_, fun d hd => ?_⟩⟩, ⟨sfr_trans i1.1 (sfr_trans (sfr_sI (Or.inr rfl)) (sfr_sI (Or.inl rfl))), i1.2⟩⟩
      · unfold P_X7_finds_L144
        have g : gI (sI T 733 158 z) 732 158 = nI a.1 := (i2 732 158).trans A1
        rw [bnd_eq, g, li1, nI_add, bnd_eq]
      · rw [gI_sI, if_pos ⟨rfl, rfl⟩]; rfl
      · rw [gI_sI, if_neg (by omega), gI_sI, if_pos ⟨rfl, rfl⟩]
        show z = nI (if a.1 = 0 ∨ (decide (b = 2) = false ∧ mn < a.2.1.2) then (row, mn) else a.2.1).2
        by_cases c : bt = 1
        · rw [if_pos (hiff.mp c)]; exact hz1 c
        · rw [if_neg (fun h => c (hiff.mpr h)), hz0 (by omega)]
          exact (A2 (fun h => c (hiff.mpr (Or.inl h)))).1
      · show gA T 174 d = nI ((if a.1 = 0 ∨ (decide (b = 2) = false ∧ mn < a.2.1.2) then (row, mn) else a.2.1).1.getD d 0)
        rw [i3 d hd]
        by_cases c : bt = 1
        · rw [if_pos (hiff.mp c), if_neg (by omega)]
        · rw [if_neg (fun h => c (hiff.mpr h)), if_pos (by omega)]
          exact (A2 (fun h => c (hiff.mpr (Or.inl h)))).2.1 d hd
      · exact i4 d hd
    rw [e]
    by_cases c : bt = 0
    · rw [if_pos (by rw [c])]
      exact key _ (fun _ => i2 733 158) (fun h => by omega)
    · rw [if_neg (by rw [nI_eq (by omega) (by omega)]; exact c)]
      exact key _ (fun h => absurd h c) (fun _ => by rw [i1.2.2.1]; exact hmn)
  unfold P_X7_finds P_X7_finds_L25
  rw [A1, li0]
  by_cases c0 : a.1 = 0
  · rw [if_pos (by rw [c0]), li1]
    exact fin 1 (by omega) ⟨fun _ => Or.inl c0, fun _ => rfl⟩
  · rw [if_neg (by rw [nI_eq (by omega) (by omega)]; exact c0), li2]
    by_cases c1 : b = 2
    · rw [if_pos (by rw [c1])]
      exact fin 0 (by omega) ⟨fun h => absurd h (by omega), fun h => by
        rcases h with h | ⟨h, -⟩
        · exact absurd h c0
        · rw [decide_eq_true c1] at h; exact absurd h (by decide)⟩
    · rw [if_neg (by rw [nI_eq (by omega) (by omega)]; exact c1), bin_nI (by omega), l171, gd_dec (by omega), nI_clamp (by omega), hmn, (A2 c0).1]
      by_cases c2 : a.2.1.2 ≤ mn
      · rw [if_pos (nI_le c2 (by omega))]
        exact fin 0 (by omega) ⟨fun h => absurd h (by omega), fun h => by
          rcases h with h | ⟨-, h⟩
          · exact absurd h c0
          · omega⟩
      · rw [if_neg (nI_ge (by omega) (by omega)), li1]
        exact fin 1 (by omega) ⟨fun _ => Or.inr ⟨decide_eq_false c1, by omega⟩, fun _ => rfl⟩
end
