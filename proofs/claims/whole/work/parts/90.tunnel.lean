section
/-! STAGE 2, tunnel -/
def t00 : Tau := ((0, 0, 1, 0), (fun _ => 0, fun _ => 0), (fun _ => 0, fun _ => 0, fun _ => 0, fun _ => 0))
def w00 : Dl := (t00, false, false)
def p00 (tx : List Nat) : (Dl × Nat) ⊕ Nat := parse tx 201 w00 (tok tx 0) 0
theorem w00_ok : DOK w00 := ⟨⟨Nat.zero_le _, Nat.zero_le _, by show 1 ≤ 9; omega, Or.inl rfl, Nat.zero_le _, fun i hi => absurd hi (Nat.not_lt_zero i), fun i hi => absurd hi (Nat.not_lt_zero i)⟩, fun _ => rfl, fun _ => rfl⟩
theorem c_readInto {N d : Nat} {S : PSt} {tx : List Nat} (hN : 300 ≤ N) (hx : XOK tx) (hd : d = 4 ∨ d = 14) (hkd : kd d = 4) (ht : CRtxt S tx) (z8 : gA S (d + 8) 0 = 0) (z9 : gA S (d + 9) 0 = 0) : ∃ T, (∀ b, b ≠ 1 → b ≠ 3 → (b < d ∨ d + 9 < b) → ag S T b) ∧ gI T 200 1 = gI S 200 1 ∧ ((∃ r, p00 tx = .inl r ∧ P_X2_readInto N S d = some (nI r.2, T) ∧ CRt T d r.1.1 ∧ CRp T d r.1.1 ∧ DOK r.1 ∧ r.2 ≤ 200) ∨ ∃ p, p00 tx = .inr p ∧ P_X2_readInto N S d = some (-10 - nI p, T) ∧ p ≤ 200 ∧ gA T (d + 8) 0 = 0 ∧ gA T (d + 9) 0 = 0) := by
  obtain ⟨S5, hS5⟩ : ∃ S5, S5 = sI (sI (sI (sI S 400 d (nI 0)) 401 d (nI 0)) 402 d (nI 1)) 403 d (nI 0) := ⟨_, rfl⟩
  have k5 : ∀ b, b ≠ d → ag S S5 b := fun b h => by rw [hS5]; exact (((ag_sI h).trans (ag_sI h)).trans (ag_sI h)).trans (ag_sI h)
  have e5 : P_X4_empty N S d = some S5 := by
    unfold P_X4_empty
    rw [bnd_eq, bnd_eq, bnd_eq, bnd_eq, hS5, li0, li1]
  have R5 : CRt S5 d t00 := by
    rw [hS5]
    refine ⟨?_, ?_, ?_, ?_, fun i hi => absurd hi (Nat.not_lt_zero i), fun i hi => absurd hi (Nat.not_lt_zero i), fun i hi => absurd hi (Nat.not_lt_zero i), fun i hi => absurd hi (Nat.not_lt_zero i), fun i hi => absurd hi (Nat.not_lt_zero i), fun i hi => absurd hi (Nat.not_lt_zero i)⟩
    · rw [gI_sI, if_neg (by omega), gI_sI, if_neg (by omega), gI_sI, if_neg (by omega), gI_sI, if_pos ⟨rfl, rfl⟩]; rfl
    · rw [gI_sI, if_neg (by omega), gI_sI, if_neg (by omega), gI_sI, if_pos ⟨rfl, rfl⟩]; rfl
    · rw [gI_sI, if_neg (by omega), gI_sI, if_pos ⟨rfl, rfl⟩]; rfl
    · rw [gI_sI, if_pos ⟨rfl, rfl⟩]; rfl
  obtain ⟨S7, hS7⟩ : ∃ S7, S7 = sI (sI (sI S5 205 1 (nI 0)) 206 1 (nI 0)) 207 1 (nI 0) := ⟨_, rfl⟩
  have k7 : ∀ b, b ≠ 1 → ag S5 S7 b := fun b h => by rw [hS7]; exact ((ag_sI h).trans (ag_sI h)).trans (ag_sI h)
  have g200 : gI S7 200 1 = gI S 200 1 := by rw [hS7, gI_sI, if_neg (by omega), gI_sI, if_neg (by omega), gI_sI, if_neg (by omega), (k5 1 (by omega)).1]
  have g205 : gI S7 205 1 = nI 0 := by rw [hS7, gI_sI, if_neg (by omega), gI_sI, if_neg (by omega), gI_sI, if_pos ⟨rfl, rfl⟩]
  have D7 : CRd S7 d w00 := ⟨R5.ag (fun i hi => k7 _ (by omega)), by rw [hS7, gI_sI, if_neg (by omega), gI_sI, if_pos ⟨rfl, rfl⟩]; rfl, by rw [hS7, gI_sI, if_pos ⟨rfl, rfl⟩]; rfl⟩
  have t7 : CRtxt S7 tx := ⟨g200.trans ht.1, by rw [(k7 2 (by omega)).2.2.2.1, (k5 2 (by omega)).2.2.2.1]; exact ht.2⟩
  obtain ⟨S8, e8, k8, m8⟩ := c_next (N := N) hN hx (Nat.zero_le _) t7 g205
  obtain ⟨t1, t2, t3, t4, t5⟩ := tok_pl (tx := tx) (Nat.zero_le _)
  obtain ⟨T, fT, hT⟩ := c_parse (N := N) hN hx hd hkd 201 w00 0 0 N S8 (Nat.zero_le _) (by omega) (by omega) (Nat.zero_le _) ⟨D7.1.ag (fun i hi => k8.1 _ (by omega)), (k8.2 206 (by omega)).trans D7.2.1, (k8.2 207 (by omega)).trans D7.2.2⟩ w00_ok m8 (nF_txt k8 t7)
  have aT : ∀ b, b ≠ 1 → b ≠ 3 → (b < d ∨ d + 6 < b) → ag S T b := fun b h1 h2 h3 => ((k5 b (by omega)).trans (k7 b h1)).trans ((k8.1 b h1).trans (fT.1 b h1 h2 h3))
  have z8' : gA T (d + 8) 0 = 0 := by rw [(aT (d + 8) (by omega) (by omega) (by omega)).2.2.2.1]; exact z8
  have z9' : gA T (d + 9) 0 = 0 := by rw [(aT (d + 9) (by omega) (by omega) (by omega)).2.2.2.1]; exact z9
  have g2 : gI T 200 1 = gI S 200 1 := (fT.2.trans (k8.2 200 (by omega))).trans g200
  have pre : P_X2_readInto N S d = P_X2_readInto_L27 N N S8 d (nI 0) (nI 0) := by
    unfold P_X2_readInto
    rw [e5, cal1_s, li0, bnd_eq, bnd_eq, ← hS7, bnd_eq, e8, cal1_s]
  rcases hT with ⟨r, e1, e2, D, ok, h2⟩ | ⟨p, e1, e2, h2⟩
  · obtain ⟨U, eU, kU, RU, PU⟩ := c_prepare (N := N) (by omega) hkd ok.1 D.1 z8' z9'
    refine ⟨U, fun b h1 h2 h3 => (aT b h1 h2 (by omega)).trans (kU b (by omega) (by omega) (by omega) (by omega)), ((kU 1 (by omega) (by omega) (by omega) (by omega)).1 _).trans g2, Or.inl ⟨r, e1, ?_, RU, PU, ok, h2⟩⟩
    rw [pre, e2]
    unfold P_X2_readInto_L70
    rw [eU, cal1_s]
  · exact ⟨T, fun b h1 h2 h3 => aT b h1 h2 (by omega), g2, Or.inr ⟨p, e1, by rw [pre, e2], h2, z8', z9'⟩⟩
theorem neg10 : ∀ p, p < 201 → ¬ (nI 0 ≤ (-10 : Int32) - nI p) := by decide +kernel
/-- the component's state behind a text that was read -/
theorem c_tunEnd {N r d n : Nat} {S T : PSt} {q : Sig} {t : Tau} (hN : 300 ≤ N) (ok : SOK q) (hrd : r = 4 ∧ d = 14 ∨ r = 14 ∧ d = 4) (hc : CR S q) (hr : gR S 601 0 = r) (hd : gR S 602 0 = d) (aT : ∀ b, b ≠ 1 → b ≠ 3 → (b < d ∨ d + 9 < b) → ag S T b) (RT : CRt T d t) (PT : CRp T d t) (zr8 : gA S (r + 8) 0 = 0) (zr9 : gA S (r + 9) 0 = 0) : ∃ U, (bnd (gR T 601 0) fun t15 => gd (isk t15 4) <| bnd (gR T 602 0) fun t17 => gd (isk t17 4) <| bnd (sR T 601 0 t17) fun S19 => bnd (sR S19 602 0 t15) fun S20 => bnd (sI S20 200 1 (nI 0)) fun S21 => cal1 (P_X5_restart N S21 24) fun S22 => P_X6_tunnel_L53 N N S22 (nI n) (nI 0)) = some (nI n, U) ∧ CR U (t, m0, [], fun _ => none, [], [], qj q) ∧ ∀ a, 158 ≤ a → ag T U a := by
  obtain ⟨kr, kdd, hkr, hkd⟩ := isk4 hrd
  obtain ⟨c1, c2, c3, c4, c5, c6, c7, c8⟩ := hc
  have a0 : ag S T 0 := aT 0 (by omega) (by omega) (by omega)
  have hrT : gR T 601 0 = r := (a0.2.2.1 601).trans hr
  have hdT : gR T 602 0 = d := (a0.2.2.1 602).trans hd
  obtain ⟨S1, hS1⟩ : ∃ S1, S1 = sI (sR (sR T 601 0 d) 602 0 r) 200 1 (nI 0) := ⟨_, rfl⟩
  have k1 : ∀ b, b ≠ 0 → b ≠ 1 → ag T S1 b := fun b h1 h2 => by rw [hS1]; exact ((ag_sR h1).trans (ag_sR h1)).trans (ag_sI h2)
  obtain ⟨S2, hS2⟩ : ∃ S2, S2 = sI (cpS S1 25 m0) 501 24 (nI 0) := ⟨_, rfl⟩
  have e2 : P_X5_restart N S1 24 = some S2 := by
    unfold P_X5_restart
    rw [c_begin (by omega) (by rfl), cal1_s, li0, bnd_eq, hS2]
    rfl
  have k2 : ∀ b, b ≠ 24 → b ≠ 25 → b ≠ 26 → ag S1 S2 b := fun b h1 h2 h3 => by rw [hS2]; exact (ag_cpS h2 h3).trans (ag_sI h1)
  obtain ⟨S3, hS3⟩ : ∃ S3, S3 = sI (sI (sA (sA S2 97 0 0) 97 1 0) 300 98 (nI 0)) 301 98 (nI 0) := ⟨_, rfl⟩
  have k3 : ∀ b, b ≠ 97 → b ≠ 98 → ag S2 S3 b := fun b h1 h2 => by rw [hS3]; exact ((ag_sA h1).trans (ag_sA h1)).trans ((ag_sI h2).trans (ag_sI h2))
  have e3 : P_X6_tunnel_L53 N N S2 (nI n) (nI 0) = some (nI n, mvS S3) := by
    obtain ⟨m, hm⟩ : ∃ m, N = m + 3 := ⟨N - 3, by omega⟩
    have go : P_X6_tunnel_L53 N (m + 3) S2 (nI n) (nI 0) = some (nI n, mvS S3) := by
      rw [P_X6_tunnel_L53]
      dsimp only
      rw [li2, if_neg (by decide), bin_nI (by omega), l97, gd_dec (by omega), nI_clamp (by omega), narF, bnd_eq, li1, nI_add, bnd_eq, P_X6_tunnel_L53]
      dsimp only
      rw [li2, if_neg (by decide), bin_nI (by omega), l97, gd_dec (by omega), nI_clamp (by omega), narF, bnd_eq, li1, nI_add, bnd_eq, P_X6_tunnel_L53]
      dsimp only
      rw [li2, if_pos (by decide), li0, bnd_eq, bnd_eq]
      rw [hS3]
      rfl
    have : ∀ M, M = m + 3 → P_X6_tunnel_L53 N M S2 (nI n) (nI 0) = some (nI n, mvS S3) := fun M h => by rw [h]; exact go
    exact this N hm
  have kU : ∀ b, b ≠ 0 → b ≠ 1 → b ≠ 24 → b ≠ 25 → b ≠ 26 → b ≠ 97 → b ≠ 98 → b ≠ 120 → b ≠ 138 → ag T (mvS S3) b := fun b h0 h1 h2 h3 h4 h5 h6 h7 h8 => ((k1 b h0 h1).trans (k2 b h2 h3 h4)).trans ((k3 b h5 h6).trans (ag_mvS h7 h8))
  have kS : ∀ b, b ≠ 0 → b ≠ 1 → b ≠ 3 → (b < d ∨ d + 9 < b) → b ≠ 24 → b ≠ 25 → b ≠ 26 → b ≠ 97 → b ≠ 98 → b ≠ 120 → b ≠ 138 → ag S (mvS S3) b := fun b h0 h1 hb3 hbd h2 h3 h4 h5 h6 h7 h8 => (aT b h1 hb3 hbd).trans (kU b h0 h1 h2 h3 h4 h5 h6 h7 h8)
  have k0R : ∀ f, gR (mvS S3) f 0 = gR S1 f 0 := fun f => ((k2 0 (by omega) (by omega) (by omega)).2.2.1 f |> fun h => (((k3 0 (by omega) (by omega)).trans (ag_mvS (by omega) (by omega))).2.2.1 f).trans h)
  refine ⟨mvS S3, ?_, ⟨?_, ?_, ?_, ?_, ?_, ?_, ?_, ?_⟩, fun a ha => kU a (by omega) (by omega) (by omega) (by omega) (by omega) (by omega) (by omega) (by omega) (by omega)⟩
  · rw [hrT, bnd_eq, kr, gd_true, hdT, bnd_eq, kdd, gd_true, bnd_eq, bnd_eq, ← hS1, bnd_eq, e2, cal1_s, e3]
  · refine ⟨d, r, by omega, ?_, ?_, RT.ag (fun i hi => kU _ (by omega) (by omega) (by omega) (by omega) (by omega) (by omega) (by omega) (by omega) (by omega)), PT.ag (fun i hi => kU _ (by omega) (by omega) (by omega) (by omega) (by omega) (by omega) (by omega) (by omega) (by omega)), ?_, ?_⟩
    · rw [k0R, hS1, gR_sI, gR_sR, if_neg (by omega), gR_sR, if_pos ⟨rfl, rfl⟩]
    · rw [k0R, hS1, gR_sI, gR_sR, if_pos ⟨rfl, rfl⟩]
    · rw [(kS (r + 8) (by omega) (by omega) (by omega) (by omega) (by omega) (by omega) (by omega) (by omega) (by omega) (by omega) (by omega)).2.2.2.1]; exact zr8
    · rw [(kS (r + 9) (by omega) (by omega) (by omega) (by omega) (by omega) (by omega) (by omega) (by omega) (by omega) (by omega) (by omega)).2.2.2.1]; exact zr9
  · have k4 : ∀ b, b ≠ 97 → b ≠ 98 → b ≠ 120 → b ≠ 138 → ag S2 (mvS S3) b := fun b h1 h2 h3 h4 => (k3 b h1 h2).trans (ag_mvS h3 h4)
    refine ⟨⟨?_, ?_, fun i hi => absurd hi (Nat.not_lt_zero i)⟩, c2.2.ag (kS 27 (by omega) (by omega) (by omega) (by omega) (by omega) (by omega) (by omega) (by omega) (by omega) (by omega) (by omega))⟩
    · have m2 : CRm S2 25 m0 := by
        rw [hS2]
        exact (cpS_at (S := S1) (a := 25) (m := m0)).ag (ag_sI (by omega)) (ag_sI (by omega))
      exact m2.ag (k4 25 (by omega) (by omega) (by omega) (by omega)) (k4 26 (by omega) (by omega) (by omega) (by omega))
    · rw [(k4 24 (by omega) (by omega) (by omega) (by omega)).1, hS2, gI_sI, if_pos ⟨rfl, rfl⟩]; rfl
  · refine ⟨fun j hj => ?_, fun j x hj hx => by cases hx⟩
    obtain ⟨b1, b2, b3⟩ := c3.1 j hj
    refine ⟨?_, b2.ag (kS (49 + 24 * j + 3) (by omega) (by omega) (by omega) (by omega) (by omega) (by omega) (by omega) (by omega) (by omega) (by omega) (by omega)), ?_⟩
    · rw [(kS 48 (by omega) (by omega) (by omega) (by omega) (by omega) (by omega) (by omega) (by omega) (by omega) (by omega) (by omega)).2.2.2.2]; exact b1
    · have : gA (mvS S3) 97 j = gA S3 97 j := rfl
      rw [this, hS3, gA_sI, gA_sI, gA_sA, if_pos rfl]
      unfold upd
      by_cases c : j = 1
      · rw [if_pos c]; rfl
      · rw [if_neg c, gA_sA, if_pos rfl]
        unfold upd
        rw [if_pos (by omega)]; rfl
  · have k4 : ag S S3 120 := ((aT 120 (by omega) (by omega) (by omega)).trans (k1 120 (by omega) (by omega))).trans ((k2 120 (by omega) (by omega) (by omega)).trans (k3 120 (by omega) (by omega)))
    exact CRplan_stale c4 (k4.1 103) (kS 123 (by omega) (by omega) (by omega) (by omega) (by omega) (by omega) (by omega) (by omega) (by omega) (by omega) (by omega)).2.2.2.2 rfl
  · have k4 : ag S S3 138 := ((aT 138 (by omega) (by omega) (by omega)).trans (k1 138 (by omega) (by omega))).trans ((k2 138 (by omega) (by omega) (by omega)).trans (k3 138 (by omega) (by omega)))
    exact CRplan_stale c5 (k4.1 103) (kS 141 (by omega) (by omega) (by omega) (by omega) (by omega) (by omega) (by omega) (by omega) (by omega) (by omega) (by omega)).2.2.2.2 rfl
  · have g3 : ∀ f, gI (mvS S3) f 98 = gI S3 f 98 := fun f => (ag_mvS (S := S3) (a := 98) (by omega) (by omega)).1 f
    refine ⟨?_, fun i hi => absurd hi (Nat.not_lt_zero i), fun i hi => absurd hi (Nat.not_lt_zero i), ?_, Or.inl ?_⟩
    · rw [g3, hS3, gI_sI, if_neg (by omega), gI_sI, if_pos ⟨rfl, rfl⟩]; rfl
    · rw [(kS 105 (by omega) (by omega) (by omega) (by omega) (by omega) (by omega) (by omega) (by omega) (by omega) (by omega) (by omega)).2.2.2.2]; exact c6.2.2.2.1
    · rw [g3, hS3, gI_sI, if_pos ⟨rfl, rfl⟩]; rfl
  · refine ⟨?_, fun i hi => absurd hi (Nat.not_lt_zero i)⟩
    have g1 : gI (mvS S3) 200 1 = gI S1 200 1 := (((k2 1 (by omega) (by omega) (by omega)).trans (k3 1 (by omega) (by omega))).trans (ag_mvS (by omega) (by omega))).1 200
    rw [g1, hS1, gI_sI, if_pos ⟨rfl, rfl⟩]; rfl
  · have g0 : gJ (mvS S3) 610 0 = gJ S1 610 0 := (((k2 0 (by omega) (by omega) (by omega)).trans (k3 0 (by omega) (by omega))).trans (ag_mvS (by omega) (by omega))).2.1 610
    rw [g0, hS1, gJ_sI, gJ_sR, gJ_sR, a0.2.1]
    exact c8
end
