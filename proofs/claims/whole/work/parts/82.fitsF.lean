section
/-! STAGE 2, fits and surely -/
theorem gl_fst (t : Tau) (sn : List (Nat × Nat)) : ∀ k i q, (gl t (gdB t sn 2) i k q).map (fun x => x.1) = fleaves t sn i k q
  | 0, _, _ => rfl
  | k + 1, i, q => by
    rw [gl, fleaves, List.map_flatMap]
    congr 1
    funext p
    rw [← gl_fst t sn k (i + 1) (wk t i p q)]
    have e : gdB t sn 2 i q p = okSeen sn i (wk t i p q).1 := rfl
    rw [e]
    cases okSeen sn i (wk t i p q).1
    · rfl
    · rw [if_pos rfl, if_pos rfl, List.map_map, List.map_map]
      rfl
theorem fl_row {t : Tau} {sn : List (Nat × Nat)} : ∀ k i q x, x ∈ fleaves t sn i k q → ∀ j, j < k → x.getD j 0 ∈ prs t
  | 0, _, _, _, _, _, h => absurd h (Nat.not_lt_zero _)
  | k + 1, i, q, x, hx, j, h => by
    rw [fleaves, List.mem_flatMap] at hx
    obtain ⟨p, hp, hx⟩ := hx
    by_cases c : okSeen sn i (wk t i p q).1 = true
    · rw [if_pos c, List.mem_map] at hx
      obtain ⟨y, hy, rfl⟩ := hx
      cases j with
      | zero => exact hp
      | succ j => exact fl_row k (i + 1) (wk t i p q) y hy j (by omega)
    · rw [if_neg c] at hx
      cases hx
theorem foldT : ∀ (ls : List (List Nat × Nat)) (a : Ac), a.1 ≠ 0 → (ls.foldl (stepA true) a).2.1 = a.2.1 ∧ ∀ i, (ls.foldl (stepA true) a).2.2 i = (ls.map (fun x => bitsP (x.1.getD i 0))).foldl (fun a b => a &&& b) (a.2.2 i)
  | [], _, _ => ⟨rfl, fun _ => rfl⟩
  | x :: ls, a, h => by
    obtain ⟨h1, h2⟩ := foldT ls (stepA true a x) (by show a.1 + 1 ≠ 0; omega)
    rw [List.foldl_cons]
    refine ⟨?_, fun i => ?_⟩
    · rw [h1]
      show (if a.1 = 0 ∨ (true = false ∧ x.2 < a.2.1.2) then x else a.2.1) = a.2.1
      rw [if_neg (by intro h'; rcases h' with h' | h'; exact h h'; exact absurd h'.1 (by decide))]
    · rw [h2 i, List.map_cons, List.foldl_cons]
      show List.foldl _ (if a.1 = 0 then bitsP (x.1.getD i 0) else a.2.2 i &&& bitsP (x.1.getD i 0)) _ = _
      rw [if_neg h]
theorem and15 : ∀ b, b < 16 → 15 &&& b = b := by decide
theorem m_findFits {N : Nat} {S : PSt} {q : Sig} (hN : 200000 ≤ N) (ok : SOK q) (hm : MR S q) : ∃ S', P_X7_findFits N S = some S' ∧ sfr S S' ∧ gI S' 732 158 = nI (fitsOf (qt q) (qs q)).length ∧ (fitsOf (qt q) (qs q) ≠ [] → ∀ i, i < tn (qt q) → gA S' 174 i = nI (((fitsOf (qt q) (qs q)).getD 0 []).getD i 0) ∧ gA S' 175 i = nI (sureOf (qt q) (qs q) i)) := by
  have o1 := ok.1
  have on := o1.2.1
  obtain ⟨S3, hS3⟩ : ∃ S3, S3 = fnS S m0 := ⟨_, rfl⟩
  have sc3 : scr S S3 := by rw [hS3]; exact fnS_scr
  have hd3 : dep S3 0 (0, none, fun _ => 0) := by rw [hS3]; exact fnS_dep (m := m0) (fun w _ => Nat.zero_le _)
  have hm3 := scrM hm sc3
  have hs3 : MRs S3 (qt q) (qs q) := ⟨ok.2.2.2.2.2.1, hm3.2.2.2.2.2.2.1, hm3.2.2.2.2.2.2.2.1, hm3.2.2.2.2.2.2.2.2.1, ok.2.2.2.2.2.2.1⟩
  obtain ⟨S4, e4, f4, A4⟩ := m_search (N := N) (g := 0) (b := 2) hN hm3.1 o1 hs3 (by omega) (Nat.zero_le _) hd3 rfl (fun z hz => by cases hz)
  have run : P_X7_findFits N S = some S4 := by
    obtain ⟨n, hn⟩ : ∃ n, N = n + 5 := ⟨N - 5, by omega⟩
    have step : ∀ (k : Nat) (S : PSt) (w : Nat), w < 4 → P_X7_findFits_L2 N (k + 1) S (nI w) = P_X7_findFits_L2 N k (sA S 170 w (nI 0)) (nI (w + 1)) := by
      intro k S w hw
      rw [P_X7_findFits_L2]
      dsimp only
      rw [li4, if_neg (nI_ge hw (by omega)), bin_nI (by omega), l170, gd_dec (by omega), bnd_eq, nI_clamp (by omega), li1, nI_add, bnd_eq, li0]
    have go : P_X7_findFits_L2 N (n + 5) S (nI 0) = some S4 := by
      rw [step _ _ 0 (by omega), step _ _ 1 (by omega), step _ _ 2 (by omega), step _ _ 3 (by omega), P_X7_findFits_L2]
      dsimp only
      rw [li4, if_pos (nI_le (by omega) (by omega)), li0, nI_clamp (by omega), bnd_eq, bnd_eq, li2]
      have e3 : sA (sA (sA (sA (sA (sA S 170 0 (nI 0)) 170 (0 + 1) (nI 0)) 170 (0 + 1 + 1) (nI 0)) 170 (0 + 1 + 1 + 1) (nI 0)) 171 0 (nI 0)) 172 0 (-9) = S3 := by rw [hS3]; rfl
      rw [e3, e4, cal1_s]
    unfold P_X7_findFits
    rw [li0]
    have : ∀ M, M = n + 5 → P_X7_findFits_L2 N M S (nI 0) = some S4 := fun M h => by rw [h]; exact go
    exact this N hn
  have eg := gl_fst (qt q) (qs q) (tn (qt q)) 0 (0, none, fun _ => 0)
  have ef : fleaves (qt q) (qs q) 0 (tn (qt q)) (0, none, fun _ => 0) = fitsOf (qt q) (qs q) := rfl
  have hrow := fl_row (t := qt q) (sn := qs q) (tn (qt q)) 0 (0, none, fun _ => 0)
  rw [ef] at eg hrow
  rw [Nat.sub_zero, show decide ((2 : Nat) = 2) = true from rfl] at A4
  have hlen := foldA_1 true (gl (qt q) (gdB (qt q) (qs q) 2) 0 (tn (qt q)) (0, none, fun _ => 0)) a00
  generalize gl (qt q) (gdB (qt q) (qs q) 2) 0 (tn (qt q)) (0, none, fun _ => 0) = ls at A4 eg hlen
  obtain ⟨A1, A2⟩ := A4
  have hl2 : (ls.foldl (stepA true) a00).1 = (fitsOf (qt q) (qs q)).length := by rw [hlen, ← eg, List.length_map]; exact Nat.zero_add _
  rw [hl2] at A1 A2
  refine ⟨S4, run, sfr_trans (sfr_scr sc3) f4, A1, fun hne i hi => ?_⟩
  have hne2 : (fitsOf (qt q) (qs q)).length ≠ 0 := fun h => hne (List.length_eq_zero_iff.mp h)
  obtain ⟨B1, B2, B3⟩ := A2 hne2
  rw [B2 i hi, (B3 i hi).1]
  cases ls with
  | nil => exact absurd eg.symm hne
  | cons x ls =>
    obtain ⟨h1, h2⟩ := foldT ls (stepA true a00 x) (by show 0 + 1 ≠ 0; omega)
    rw [List.foldl_cons, h1, h2 i, ← eg]
    refine ⟨rfl, ?_⟩
    have hx : x.1.getD i 0 ∈ prs (qt q) := hrow x.1 (by rw [← eg]; exact List.mem_cons_self) i hi
    have hb := vpr_bits o1 (prs_mem hx)
    have hb2 := (bits_p _ hb.1 hb.2.1 hb.2.2).2
    unfold sureOf
    rw [← eg, List.map_map, List.map_cons, List.foldl_cons]
    show nI (List.foldl _ (bitsP (x.1.getD i 0)) _) = nI (List.foldl _ (15 &&& bitsP (x.1.getD i 0)) _)
    rw [and15 _ (by omega)]
    rfl
theorem CR_seen2 {S S1 : PSt} {q : Sig} (ok : SOK q) (hc : CR S q) (ka : ∀ a, (a < 98 ∨ 119 < a) → ag S S1 a) (hs : CRseen S1 (qt q) (qs q)) : CR S1 q := by
  obtain ⟨c1, c2, c3, c4, c5, c6, c7, c8⟩ := hc
  exact ⟨c1.ag (fun f => (ka 0 (by omega)).2.2.1 f) (fun a _ _ => ka a (by omega)), c2.ag ok.2.2.1 (fun a _ _ => ka a (by omega)), c3.ag (fun j r hr => (ok.2.2.2.2.1 j r hr).2.1) (fun a _ _ => ka a (by omega)), c4.ag (fun i _ => ka _ (by omega)), c5.ag (fun i _ => ka _ (by omega)), hs, c7.ag (ka _ (by omega)) (ka _ (by omega)), ((ka 0 (by omega)).2.1 _).trans c8⟩
theorem nI_nm1 {i : Nat} (h : i < 2 ^ 30) : ¬ nI i = -1 := by
  intro h
  have h1 := congrArg Int32.toInt h
  rw [nI_toInt (by omega)] at h1
  have h2 : (i : Int) = -1 := h1
  omega
/-- both have looked -/
theorem look_both {N : Nat} {S : PSt} {q : Sig} (hN : 200000 ≤ N) (ok : SOK q) (hc : CR S q) (hm : MR S q) : ∃ r T S2, gR S 601 0 = r ∧ isk r 4 = true ∧ P_X3_look N S r = some T ∧ P_X7_findFits N T = some S2 ∧ Inv S2 ∧ CRt S r (qt q) ∧ MRt T (qt q) ∧ gI T 302 98 = nI (fitsOf (qt q) (qs q)).length ∧ gI S2 732 158 = nI (fitsOf (qt q) (qs q)).length ∧ (fitsOf (qt q) (qs q) ≠ [] → ∀ i, i < tn (qt q) → gA T 99 i = gA S2 174 i ∧ gA T 100 i = gA S2 175 i) := by
  obtain ⟨r, d, hrd, hr, hd, hT, hpp, -, -⟩ := hc.1
  obtain ⟨hk, -, hkr, -⟩ := isk4 hrd
  obtain ⟨T, eT, kT, sT, g1⟩ := c_look (N := N) (by omega) (by omega) hkr ok.1 hT hpp hc.2.2.2.2.2.1 ok.2.2.2.2.2.1 ok.2.2.2.2.2.2.1
  have hmT := hm.eqM (eqM.ofag (fun a ha => kT a (by omega)))
  obtain ⟨S2, e2, f2, a2, b2⟩ := m_findFits (N := N) hN ok hmT
  have h5 := sT.2.2.2.2
  have h6 : gI T 302 98 = nI (fitsOf (qt q) (qs q)).length ∧ (fitsOf (qt q) (qs q) ≠ [] → ∀ i, i < tn (qt q) → gA T 99 i = nI (((fitsOf (qt q) (qs q)).getD 0 []).getD i 0) ∧ gA T 100 i = nI (sureOf (qt q) (qs q) i)) := by
    rcases h5 with h | h
    · rw [g1] at h; exact absurd h (by decide)
    · exact h.2
  refine ⟨r, T, S2, hr, hk, eT, e2, inv_of (S1 := T) q ok (CR_seen2 ok hc kT sT) (MR_sfr hmT f2) (eqC_sfr f2), hT, hmT.1, h6.1, a2, fun hne i hi => ?_⟩
  obtain ⟨x1, x2⟩ := h6.2 hne i hi
  obtain ⟨y1, y2⟩ := b2 hne i hi
  exact ⟨x1.trans y1.symm, x2.trans y2.symm⟩
theorem step_surely {N : Nat} {S : PSt} (hN : 200000 ≤ N) (x : Int32) (h : Inv S) : ∃ r S1 S2, P_X6_surely N S x = some (r, S1) ∧ P_X7_surely N S1 x = some (r, S2) ∧ Inv S2 := by
  obtain ⟨q, ok, hc, hm⟩ := h
  have o1 := ok.1
  have on := o1.2.1
  obtain ⟨r, T, S2, hr, hk, eT, e2, iv, hT, hM, g1, g2, g3⟩ := look_both (N := N) hN ok hc hm
  have hlen := fl_len (qt q) (qs q) (tn (qt q)) 0 (0, none, fun _ => 0)
  have h66 := six_le (tn (qt q)) (by omega)
  have ef : fleaves (qt q) (qs q) 0 (tn (qt q)) (0, none, fun _ => 0) = fitsOf (qt q) (qs q) := rfl
  rw [ef] at hlen
  rcases ix_or x (tn (qt q)) (by omega) with ⟨k, hkn, rfl⟩ | ⟨-, c⟩
  · have eC : P_X6_surely N S (nI k) = if nI (fitsOf (qt q) (qs q)).length = nI 0 then some (nI 0, T) else some (gA T 100 k, T) := by
      unfold P_X6_surely
      rw [hr, bnd_eq, hk, gd_true, c_hasStretch1 hT o1 hkn, cal2_s, li0, if_neg n1_0, hr, bnd_eq, hk, gd_true, eT, cal1_s, g1, bin_nI (by omega), l100, gd_dec (by omega), nI_clamp (by omega)]
    have eM : P_X7_surely N T (nI k) = if nI (fitsOf (qt q) (qs q)).length = nI 0 then some (nI 0, S2) else some (gA S2 175 k, S2) := by
      unfold P_X7_surely
      rw [m_isStretch1 hM o1 hkn, cal2_s, li0, if_neg n1_0, e2, cal1_s, g2, bin_nI (by omega), l175, gd_dec (by omega), nI_clamp (by omega)]
    by_cases c : (fitsOf (qt q) (qs q)).length = 0
    · exact ⟨nI 0, T, S2, by rw [eC, c, if_pos rfl], by rw [eM, c, if_pos rfl], iv⟩
    · have hne : ¬ nI (fitsOf (qt q) (qs q)).length = nI 0 := by rw [nI_eq (by omega) (by omega)]; exact c
      have g := g3 (fun h => c (by rw [h]; rfl)) k hkn
      exact ⟨gA T 100 k, T, S2, by rw [eC, if_neg hne], by rw [eM, if_neg hne, g.2], iv⟩
  · refine ⟨-1, S, S, ?_, ?_, q, ok, hc, hm⟩
    · unfold P_X6_surely
      rw [hr, bnd_eq, hk, gd_true, c_hasStretch0 hT c, cal2_s, li0, if_pos rfl]
    · unfold P_X7_surely
      rw [m_isStretch0 hm.1 o1 c, cal2_s, li0, if_pos rfl]
theorem step_fits {N : Nat} {S : PSt} (hN : 200000 ≤ N) (x : Int32) (h : Inv S) : ∃ r S1 S2, P_X6_fits N S x = some (r, S1) ∧ P_X7_fits N S1 x = some (r, S2) ∧ Inv S2 := by
  obtain ⟨q, ok, hc, hm⟩ := h
  have o1 := ok.1
  have on := o1.2.1
  obtain ⟨r, T, S2, hr, hk, eT, e2, iv, hT, hM, g1, g2, g3⟩ := look_both (N := N) hN ok hc hm
  have hlen := fl_len (qt q) (qs q) (tn (qt q)) 0 (0, none, fun _ => 0)
  have h66 := six_le (tn (qt q)) (by omega)
  have ef : fleaves (qt q) (qs q) 0 (tn (qt q)) (0, none, fun _ => 0) = fitsOf (qt q) (qs q) := rfl
  rw [ef] at hlen
  have eL : ∀ x : Int32, P_X6_fits_L18 N S x = if x = -1 then some (nI (fitsOf (qt q) (qs q)).length, T) else (if nI (fitsOf (qt q) (qs q)).length = nI 0 then some (-9, T) else (gd (bin x 6) <| some (gA T 99 x.toNatClampNeg, T))) := by
    intro x
    unfold P_X6_fits_L18
    rw [hr, bnd_eq, hk, gd_true, eT, cal1_s, g1, li0, l99]
  have sub1 : (nI (tn (qt q)) - nI 1).toInt = (tn (qt q) : Int) - 1 := pk_sub_toInt (by omega) (by omega)
  by_cases cm : x = -1
  · subst cm
    refine ⟨nI (fitsOf (qt q) (qs q)).length, T, S2, ?_, ?_, iv⟩
    · unfold P_X6_fits
      rw [if_pos rfl, eL, if_pos rfl]
    · unfold P_X7_fits P_X7_in
      rw [hM.2.1, li1, if_neg (by decide), if_neg (by rw [Int32.lt_iff_toInt_lt, sub1]; show ¬ ((tn (qt q) : Int) - 1 < -1); omega), cal2_s, li0, if_neg n1_0, e2, cal1_s, if_neg (by decide), g2]
  · rcases ix_or x (tn (qt q)) (by omega) with ⟨k, hkn, rfl⟩ | ⟨-, c⟩
    · have eC : P_X6_fits N S (nI k) = if nI (fitsOf (qt q) (qs q)).length = nI 0 then some (-9, T) else some (gA T 99 k, T) := by
        unfold P_X6_fits
        rw [if_neg cm, hr, bnd_eq, hk, gd_true, c_hasStretch1 hT o1 hkn, cal2_s, li0, if_neg n1_0, eL, if_neg cm, bin_nI (by omega), gd_dec (by omega), nI_clamp (by omega)]
      have eM : P_X7_fits N T (nI k) = if nI (fitsOf (qt q) (qs q)).length = nI 0 then some (-9, S2) else some (gA S2 174 k, S2) := by
        unfold P_X7_fits P_X7_in
        rw [hM.2.1, li1, if_neg (by rw [Int32.lt_iff_toInt_lt, nI_toInt (by omega)]; show ¬ ((k : Int) < -1); omega), if_neg (by rw [Int32.lt_iff_toInt_lt, sub1, nI_toInt (by omega)]; omega), cal2_s, li0, if_neg n1_0, e2, cal1_s, if_pos (nI_le (Nat.zero_le _) (by omega)), g2, bin_nI (by omega), l174, gd_dec (by omega), nI_clamp (by omega)]
      by_cases c : (fitsOf (qt q) (qs q)).length = 0
      · exact ⟨-9, T, S2, by rw [eC, c, if_pos rfl], by rw [eM, c, if_pos rfl], iv⟩
      · have hne : ¬ nI (fitsOf (qt q) (qs q)).length = nI 0 := by rw [nI_eq (by omega) (by omega)]; exact c
        have g := g3 (fun h => c (by rw [h]; rfl)) k hkn
        exact ⟨gA T 99 k, T, S2, by rw [eC, if_neg hne], by rw [eM, if_neg hne, g.1], iv⟩
    · refine ⟨-1, S, S, ?_, ?_, q, ok, hc, hm⟩
      · unfold P_X6_fits
        rw [if_neg cm, hr, bnd_eq, hk, gd_true, c_hasStretch0 hT c, cal2_s, li0, if_pos rfl]
      · unfold P_X7_fits
        rw [hm.1.2.1, li1, m_in0, cal2_s, li0, if_pos rfl]
        rcases c with c | ⟨c, c2⟩
        · left
          rw [Int32.lt_iff_toInt_lt, nI_toInt (by omega)] at c
          rw [Int32.lt_iff_toInt_lt]
          have h1 : x.toInt ≠ -1 := fun h2 => cm (Int32.toInt_inj.mp (by rw [h2]; decide))
          show x.toInt < -1
          omega
        · right
          rw [Int32.le_iff_toInt_le, nI_toInt (by omega)] at c2
          rw [Int32.lt_iff_toInt_lt, sub1]
          omega
end
