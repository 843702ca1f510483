section
/-! STAGE 2, the start, and the law's loop -/
theorem Inv0 : Inv S0 := by
  refine ⟨(t00, m0, [], fun _ => none, [], [], 0), ⟨w00_ok.1, ⟨Nat.zero_le _, Nat.zero_le _, fun p hp => (by cases hp), fun h => absurd h (Nat.lt_irrefl 0), fun w _ => Nat.zero_le _, fun w _ _ => rfl⟩, Nat.zero_le _, fun i hi => absurd hi (Nat.not_lt_zero i), fun j r hr => (by cases hr), Nat.zero_le _, fun i hi => absurd hi (Nat.not_lt_zero i), Nat.zero_le _, fun i hi => absurd hi (Nat.not_lt_zero i)⟩, ⟨?_, ?_, ?_, ?_, ?_, ?_, ?_, rfl⟩, ?_⟩
  · refine ⟨4, 14, Or.inl ⟨rfl, rfl⟩, rfl, rfl, ⟨rfl, rfl, rfl, rfl, fun i hi => absurd hi (Nat.not_lt_zero i), fun i hi => absurd hi (Nat.not_lt_zero i), fun i hi => absurd hi (Nat.not_lt_zero i), fun i hi => absurd hi (Nat.not_lt_zero i), fun i hi => absurd hi (Nat.not_lt_zero i), fun i hi => absurd hi (Nat.not_lt_zero i)⟩, ⟨rfl, fun i hi => absurd hi (Nat.not_lt_zero i), fun _ => 0, fun _ => 0, rfl, rfl, fun i _ => ⟨rfl, rfl⟩, fun i hi => absurd hi (Nat.not_lt_zero i)⟩, rfl, rfl⟩
  · refine ⟨⟨⟨rfl, rfl, rfl, fun w _ => rfl⟩, rfl, fun i hi => absurd hi (Nat.not_lt_zero i)⟩, fun i hi => ⟨i, hi, rfl⟩, fun i j _ _ h => ?_⟩
    have h : 27 + 1 + 2 * i = 27 + 1 + 2 * j := h
    omega
  · have e : ∀ v i, v ≠ 45 → gQ S0 (v + 3) i = v + 4 + 2 * i := fun v i hv => by
      show (if v + 3 = 48 then 49 + 24 * i else v + 3 + 1 + 2 * i) = _
      rw [if_neg (by omega)]
    refine ⟨fun j hj => ⟨rfl, ⟨fun i hi => ⟨i, hi, e _ i (by omega)⟩, fun i k _ _ h => ?_⟩, rfl⟩, fun j r _ hr => (by cases hr)⟩
    rw [e _ i (by omega), e _ k (by omega)] at h
    omega
  · exact ⟨rfl, fun i _ => rfl, Or.inl rfl⟩
  · exact ⟨rfl, fun i _ => rfl, Or.inl rfl⟩
  · exact ⟨rfl, fun i hi => absurd hi (Nat.not_lt_zero i), fun i hi => absurd hi (Nat.not_lt_zero i), fun i _ => rfl, Or.inl rfl⟩
  · exact ⟨rfl, fun i hi => absurd hi (Nat.not_lt_zero i)⟩
  · refine ⟨⟨rfl, rfl, rfl, rfl, fun i hi => absurd hi (Nat.not_lt_zero i), fun i hi => absurd hi (Nat.not_lt_zero i), fun i hi => absurd hi (Nat.not_lt_zero i), fun i hi => absurd hi (Nat.not_lt_zero i), fun i hi => absurd hi (Nat.not_lt_zero i), fun i hi => absurd hi (Nat.not_lt_zero i)⟩, ⟨rfl, rfl, rfl, fun w hw => ?_⟩, rfl, fun i hi => absurd hi (Nat.not_lt_zero i), fun j _ => rfl, fun j r _ hr => (by cases hr), rfl, fun i hi => absurd hi (Nat.not_lt_zero i), fun i hi => absurd hi (Nat.not_lt_zero i), rfl, fun i hi => absurd hi (Nat.not_lt_zero i), rfl⟩
    show (if 3 + w = 2 then (-9 : Int32) else 0) = nI 0
    rw [if_neg (by omega)]; rfl
theorem gb1 {i L : Nat} (h : i + 4 < L) (hL : L ≤ 2560) : bin (nI i + (1 : Int32)) L = true := by rw [li1, nI_add, bin_nI (by omega)]; exact decide_eq_true (by omega)
theorem gb2 {i L : Nat} (h : i + 4 < L) (hL : L ≤ 2560) : bin (nI i + (2 : Int32)) L = true := by rw [li2, nI_add, bin_nI (by omega)]; exact decide_eq_true (by omega)
theorem gb3 {i L : Nat} (h : i + 4 < L) (hL : L ≤ 2560) : bin (nI i + (3 : Int32)) L = true := by rw [li3, nI_add, bin_nI (by omega)]; exact decide_eq_true (by omega)
theorem gb4 {i L : Nat} (h : i + 4 < L) (hL : L ≤ 2560) : bin (nI i + (4 : Int32)) L = true := by rw [li4, nI_add, bin_nI (by omega)]; exact decide_eq_true (by omega)
theorem cmp_self (r : Int64) : lg_cmp r r = 0 := by simp [lg_cmp]
set_option maxHeartbeats 4000000 in
theorem law_loop {xs : Nat → Int32} {L N : Nat} (hL : L ≤ 2560) (hN : 200000 ≤ N) : ∀ (n i : Nat) (S : PSt), i ≤ L → L < i + 5 * n → Inv S → ∃ S', P_L_law_L18 xs L N n S (nI i) = some (1, S') := by
  intro n
  induction n with
  | zero => intro i S h1 h2; omega
  | succ n ih =>
    intro i S h1 h2 hI
    have hs : (nI L - nI 5).toInt = (L : Int) - 5 := pk_sub_toInt (by omega) (by omega)
    rw [P_L_law_L18]
    dsimp only
    by_cases c : L < i + 5
    · refine ⟨S, ?_⟩
      rw [if_pos]
      rw [li5]
      show nI L - nI 5 < nI i
      rw [Int32.lt_iff_toInt_lt, hs, nI_toInt (by omega)]
      omega
    · have hc : ¬ (Int32.ofNat L - (5 : Int32) < nI i) := by
        rw [li5]
        show ¬ (nI L - nI 5 < nI i)
        rw [Int32.lt_iff_toInt_lt, hs, nI_toInt (by omega)]
        omega
      have h4 : i + 4 < L := by omega
      have b1 := gb1 h4 hL
      have b2 := gb2 h4 hL
      have b3 := gb3 h4 hL
      have b4 := gb4 h4 hL
      have nx : nI i + (5 : Int32) = nI (i + 5) := by rw [li5, nI_add]
      have go : ∀ T, Inv T → ∃ S', P_L_law_L18 xs L N n T (nI (i + 5)) = some (1, S') := fun T hT => ih (i + 5) T (by omega) (by omega) hT
      rw [if_neg hc, bin_nI (by omega), gd_dec (by omega), bnd_eq, nx]
      generalize (xs (nI i).toNatClampNeg) &&& (31 : Int32) = y
      by_cases c0 : y = (0 : Int32)
      · obtain ⟨r, S1, S2, e1, e2, iv⟩ := step_type (N := N) (xs (nI i + (1 : Int32)).toNatClampNeg) hI
        rw [if_pos c0, b1, gd_true, e1, cal2_s, gd_true, e2, cal2_s, if_pos rfl, bnd_eq]
        exact go S2 iv
      rw [if_neg c0]
      by_cases c1 : y = (1 : Int32)
      · obtain ⟨r, S1, S2, e1, e2, iv⟩ := step_clear (N := N)  hI
        rw [if_pos c1, e1, cal2_s, e2, cal2_s, if_pos rfl, bnd_eq]
        exact go S2 iv
      rw [if_neg c1]
      by_cases c2 : y = (2 : Int32)
      · obtain ⟨r, S1, S2, e1, e2, iv⟩ := step_tunnel (N := N) (by omega)  hI
        rw [if_pos c2, e1, cal2_s, e2, cal2_s, if_pos rfl, bnd_eq]
        exact go S2 iv
      rw [if_neg c2]
      by_cases c3 : y = (3 : Int32)
      · obtain ⟨r, S1, S2, e1, e2, iv⟩ := step_walker (N := N) (xs (nI i + (1 : Int32)).toNatClampNeg) (xs (nI i + (2 : Int32)).toNatClampNeg) hI
        rw [if_pos c3, b1, gd_true, b2, gd_true, e1, cal2_s, gd_true, gd_true, e2, cal2_s, if_pos rfl, bnd_eq]
        exact go S2 iv
      rw [if_neg c3]
      by_cases c4 : y = (4 : Int32)
      · obtain ⟨r, S1, S2, e1, e2, iv⟩ := step_stretch (N := N) (xs (nI i + (1 : Int32)).toNatClampNeg) (xs (nI i + (2 : Int32)).toNatClampNeg) hI
        rw [if_pos c4, b1, gd_true, b2, gd_true, e1, cal2_s, gd_true, gd_true, e2, cal2_s, if_pos rfl, bnd_eq]
        exact go S2 iv
      rw [if_neg c4]
      by_cases c5 : y = (5 : Int32)
      · obtain ⟨r, S1, S2, e1, e2, iv⟩ := step_takes (N := N) (by omega) (xs (nI i + (1 : Int32)).toNatClampNeg) (xs (nI i + (2 : Int32)).toNatClampNeg) hI
        rw [if_pos c5, b1, gd_true, b2, gd_true, e1, cal2_s, gd_true, gd_true, e2, cal2_s, if_pos rfl, bnd_eq]
        exact go S2 iv
      rw [if_neg c5]
      by_cases c6 : y = (6 : Int32)
      · obtain ⟨r, S1, S2, e1, e2, iv⟩ := step_walks (N := N) (by omega) (xs (nI i + (1 : Int32)).toNatClampNeg) hI
        rw [if_pos c6, b1, gd_true, e1, cal2_s, gd_true, e2, cal2_s, if_pos rfl, bnd_eq]
        exact go S2 iv
      rw [if_neg c6]
      by_cases c7 : y = (7 : Int32)
      · obtain ⟨r, S1, S2, e1, e2, iv⟩ := step_backs (N := N) (by omega)  hI
        rw [if_pos c7, e1, cal2_s, e2, cal2_s, if_pos rfl, bnd_eq]
        exact go S2 iv
      rw [if_neg c7]
      by_cases c8 : y = (8 : Int32)
      · obtain ⟨r, S1, S2, e1, e2, iv⟩ := step_rests (N := N) (by omega) (xs (nI i + (1 : Int32)).toNatClampNeg) hI
        rw [if_pos c8, b1, gd_true, e1, cal2_s, gd_true, e2, cal2_s, if_pos rfl, bnd_eq]
        exact go S2 iv
      rw [if_neg c8]
      by_cases c9 : y = (9 : Int32)
      · obtain ⟨r, S1, S2, e1, e2, iv⟩ := step_undo (N := N) (by omega)  hI
        rw [if_pos c9, e1, cal2_s, e2, cal2_s, if_pos rfl, bnd_eq]
        exact go S2 iv
      rw [if_neg c9]
      by_cases c10 : y = (10 : Int32)
      · obtain ⟨r, S1, S2, e1, e2, iv⟩ := step_now (N := N) (by omega) (xs (nI i + (1 : Int32)).toNatClampNeg) hI
        rw [if_pos c10, b1, gd_true, e1, cal2_s, gd_true, e2, cal2_s, if_pos rfl, bnd_eq]
        exact go S2 iv
      rw [if_neg c10]
      by_cases c11 : y = (11 : Int32)
      · obtain ⟨r, S1, S2, e1, e2, iv⟩ := step_best (N := N) (by omega) (xs (nI i + (1 : Int32)).toNatClampNeg) hI
        rw [if_pos c11, b1, gd_true, e1, cal2_s, gd_true, e2, cal2_s, if_pos rfl, bnd_eq]
        exact go S2 iv
      rw [if_neg c11]
      by_cases c12 : y = (12 : Int32)
      · obtain ⟨r, S1, S2, e1, e2, iv⟩ := step_fresh (N := N) (by omega) (xs (nI i + (1 : Int32)).toNatClampNeg) hI
        rw [if_pos c12, b1, gd_true, e1, cal2_s, gd_true, e2, cal2_s, if_pos rfl, bnd_eq]
        exact go S2 iv
      rw [if_neg c12]
      by_cases c13 : y = (13 : Int32)
      · obtain ⟨r, S1, S2, e1, e2, iv⟩ := step_hired (N := N) (by omega) (xs (nI i + (1 : Int32)).toNatClampNeg) (xs (nI i + (2 : Int32)).toNatClampNeg) (xs (nI i + (3 : Int32)).toNatClampNeg) hI
        rw [if_pos c13, b1, gd_true, b2, gd_true, b3, gd_true, e1, cal2_s, gd_true, gd_true, gd_true, e2, cal2_s, if_pos rfl, bnd_eq]
        exact go S2 iv
      rw [if_neg c13]
      by_cases c14 : y = (14 : Int32)
      · obtain ⟨r, S1, S2, e1, e2, iv⟩ := step_goIn (N := N) (by omega) (xs (nI i + (1 : Int32)).toNatClampNeg) hI
        rw [if_pos c14, b1, gd_true, e1, cal2_s, gd_true, e2, cal2_s, if_pos rfl, bnd_eq]
        exact go S2 iv
      rw [if_neg c14]
      by_cases c15 : y = (15 : Int32)
      · obtain ⟨r, S1, S2, e1, e2, iv⟩ := step_meets (N := N) (by omega) (xs (nI i + (1 : Int32)).toNatClampNeg) (xs (nI i + (2 : Int32)).toNatClampNeg) (xs (nI i + (3 : Int32)).toNatClampNeg) (xs (nI i + (4 : Int32)).toNatClampNeg) hI
        rw [if_pos c15, b1, gd_true, b2, gd_true, b3, gd_true, b4, gd_true, e1, cal2_s, gd_true, gd_true, gd_true, gd_true, e2, cal2_s, if_pos rfl, bnd_eq]
        exact go S2 iv
      rw [if_neg c15]
      by_cases c16 : y = (16 : Int32)
      · obtain ⟨r, S1, S2, e1, e2, iv⟩ := step_odds (N := N) (by omega) (xs (nI i + (1 : Int32)).toNatClampNeg) (xs (nI i + (2 : Int32)).toNatClampNeg) (xs (nI i + (3 : Int32)).toNatClampNeg) (xs (nI i + (4 : Int32)).toNatClampNeg) hI
        rw [if_pos c16, b1, gd_true, b2, gd_true, b3, gd_true, b4, gd_true, e1, cal2_s, gd_true, gd_true, gd_true, gd_true, e2, cal2_s, if_pos rfl, bnd_eq]
        exact go S2 iv
      rw [if_neg c16]
      by_cases c17 : y = (17 : Int32)
      · obtain ⟨r, S1, S2, e1, e2, iv⟩ := step_saw (N := N) (xs (nI i + (1 : Int32)).toNatClampNeg) (xs (nI i + (2 : Int32)).toNatClampNeg) hI
        rw [if_pos c17, b1, gd_true, b2, gd_true, e1, cal2_s, gd_true, gd_true, e2, cal2_s, if_pos rfl, bnd_eq]
        exact go S2 iv
      rw [if_neg c17]
      by_cases c18 : y = (18 : Int32)
      · obtain ⟨r, S1, S2, e1, e2, iv⟩ := step_forget (N := N)  hI
        rw [if_pos c18, e1, cal2_s, e2, cal2_s, if_pos rfl, bnd_eq]
        exact go S2 iv
      rw [if_neg c18]
      by_cases c19 : y = (19 : Int32)
      · obtain ⟨r, S1, S2, e1, e2, iv⟩ := step_fits (N := N) (by omega) (xs (nI i + (1 : Int32)).toNatClampNeg) hI
        rw [if_pos c19, b1, gd_true, e1, cal2_s, gd_true, e2, cal2_s, if_pos rfl, bnd_eq]
        exact go S2 iv
      rw [if_neg c19]
      by_cases c20 : y = (20 : Int32)
      · obtain ⟨r, S1, S2, e1, e2, iv⟩ := step_surely (N := N) (by omega) (xs (nI i + (1 : Int32)).toNatClampNeg) hI
        rw [if_pos c20, b1, gd_true, e1, cal2_s, gd_true, e2, cal2_s, if_pos rfl, bnd_eq]
        exact go S2 iv
      rw [if_neg c20]
      by_cases c21 : y = (21 : Int32)
      · obtain ⟨r, S1, S2, e1, e2, iv⟩ := step_mark (N := N) (by omega) (xs (nI i + (1 : Int32)).toNatClampNeg) (xs (nI i + (2 : Int32)).toNatClampNeg) hI
        rw [if_pos c21, b1, gd_true, b2, gd_true, e1, cal2_s, gd_true, gd_true, e2, cal2_s, if_pos rfl, bnd_eq]
        exact go S2 iv
      rw [if_neg c21]
      by_cases c22 : y = (22 : Int32)
      · obtain ⟨r, S1, S2, e1, e2, iv⟩ := step_keep (N := N) (by omega) (xs (nI i + (1 : Int32)).toNatClampNeg) hI
        rw [if_pos c22, b1, gd_true, e1, cal2_s, gd_true, e2, cal2_s, if_pos rfl, bnd_eq]
        exact go S2 iv
      rw [if_neg c22]
      by_cases c23 : y = (23 : Int32)
      · obtain ⟨r, S1, S2, e1, e2, iv⟩ := step_back (N := N) (by omega) (xs (nI i + (1 : Int32)).toNatClampNeg) hI
        rw [if_pos c23, b1, gd_true, e1, cal2_s, gd_true, e2, cal2_s, if_pos rfl, bnd_eq]
        exact go S2 iv
      rw [if_neg c23]
      by_cases c24 : y = (24 : Int32)
      · obtain ⟨r, S1, S2, e1, e2, iv⟩ := step_count (N := N) (xs (nI i + (1 : Int32)).toNatClampNeg) hI
        rw [if_pos c24, b1, gd_true, e1, cal2_s, gd_true, e2, cal2_s, if_pos rfl, bnd_eq]
        exact go S2 iv
      rw [if_neg c24]
      by_cases c25 : y = (25 : Int32)
      · obtain ⟨r, S1, S2, e1, e2, iv⟩ := step_trace (N := N)  hI
        rw [if_pos c25, e1, cal2_s, e2, cal2_s, cmp_self, if_pos rfl, bnd_eq]
        exact go S2 iv
      rw [if_neg c25]
      rw [bnd_eq]
      exact go S hI
theorem whole_start {p : Program} {e : Env} {s : State} {m : MethodId} {below : List Frame} {meth : Method} {c : Code} (l : Launch) {b L : Nat} {xs : Nat → Int32} (hL : L ≤ 2560) (C0 : lw_At p s m meth c b L xs) : W p l e room_1 s m #[Value.ref b] below meth c s.heap [] 0 0 (lw_Z below #[Value.ref b] s) (entryFrame m ([Value.ref b] : List Value).toArray 4) := by
  refine whole_start_of l ?_ C0
  obtain ⟨S', h⟩ := law_loop (xs := xs) (N := 200000) hL (by omega) 600 0 S0 (by omega) (by omega) Inv0
  exact ⟨200000, 600, S', h⟩
end
