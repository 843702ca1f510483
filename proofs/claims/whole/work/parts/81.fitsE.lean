section
/-! STAGE 2, what was seen: look, fits, surely -/
theorem c_lookFill {N r : Nat} {S : PSt} (hN : 10 ≤ N) : ∃ T f, P_X3_look_L20 N N S r (nI 0) = P_X3_look_L20 N (f + 1) T r (nI 6) ∧ (∀ b, b ≠ 100 → ag S T b) ∧ ∀ j, j < 6 → gA T 100 j = nI 15 := by
  have step : ∀ (k : Nat) (s : PSt × Int32) (fuel : Nat), k < 6 → (s.2 = nI k ∧ (∀ b, b ≠ 100 → ag S s.1 b) ∧ ∀ j, j < k → gA s.1 100 j = nI 15) → ∃ s' : PSt × Int32, P_X3_look_L20 N (fuel + 1) s.1 r s.2 = P_X3_look_L20 N fuel s'.1 r s'.2 ∧ (s'.2 = nI (k + 1) ∧ (∀ b, b ≠ 100 → ag S s'.1 b) ∧ ∀ j, j < k + 1 → gA s'.1 100 j = nI 15) := by
    rintro k ⟨T, x⟩ fuel hk ⟨hx, h1, h2⟩
    simp only at hx h1 h2 ⊢
    subst hx
    refine ⟨(sA T 100 k (nI 15), nI (k + 1)), ?_, rfl, fun b c1 => (h1 b c1).trans (ag_sA c1), fun j hj => ?_⟩
    · rw [P_X3_look_L20]
      dsimp only
      rw [li6, if_neg (nI_ge hk (by omega)), bin_nI (by omega), l100, gd_dec hk, bnd_eq, nI_clamp (by omega), li15, li1, nI_add, bnd_eq]
    · show gA (sA T 100 k (nI 15)) 100 j = nI 15
      rw [gA_sA, if_pos rfl]
      unfold upd
      split
      · rfl
      · exact h2 j (by omega)
  obtain ⟨⟨T, x⟩, e, hx, h1, h2⟩ := loopG (fun f (s : PSt × Int32) => P_X3_look_L20 N f s.1 r s.2) _ 6 step 6 0 (S, nI 0) (N - 6) (by omega) ⟨rfl, fun b _ => ag.refl S b, fun j hj => absurd hj (Nat.not_lt_zero j)⟩
  simp only at e hx h1 h2
  subst hx
  rw [show N - 6 + 6 = N by omega] at e
  exact ⟨T, N - 7, by rw [e, show N - 6 = N - 7 + 1 by omega], h1, h2⟩
theorem map_nil_app (X : List (List Nat)) : X.map (fun r => [] ++ r) = X := by
  have : (fun r : List Nat => [] ++ r) = id := by funext x; rfl
  rw [this, List.map_id]
theorem c_look {N r : Nat} {S : PSt} {t : Tau} {sn : List (Nat × Nat)} (hN : 50 ≤ N) (hr : r = 4 ∨ r = 14) (hkr : kd r = 4) (ok : TOK t) (hR : CRt S r t) (hp : CRp S r t) (hS : CRseen S t sn) (hl : sn.length ≤ 6) (hb : ∀ i, i < sn.length → (sn.getD i (0, 0)).1 < tn t ∧ (sn.getD i (0, 0)).2 ≤ 9999) : ∃ T, P_X3_look N S r = some T ∧ (∀ b, (b < 98 ∨ 119 < b) → ag S T b) ∧ CRseen T t sn ∧ gI T 301 98 = 1 := by
  have on := ok.2.1
  obtain ⟨s1, s2, s3, s4, s5⟩ := hS
  rcases s5 with s5 | ⟨s5, s6, s7⟩
  · obtain ⟨hp1, hp2, lo, hi, z1, z2, a3, a4⟩ := hp
    obtain ⟨T1, f, e1, i1, i2⟩ := c_lookFill (N := N) (r := r) (S := sI (sI S 301 98 1) 302 98 0) (by omega)
    have F1 : ∀ b, b ≠ 98 → b ≠ 100 → ag S T1 b := fun b h1 h2 => ((ag_sI h1).trans (ag_sI h1)).trans (i1 b h2)
    have g1 : ∀ f, f ≠ 301 → f ≠ 302 → gI T1 f 98 = gI S f 98 := fun f h1 h2 => by rw [(i1 98 (by omega)).1, gI_sI, if_neg (by omega), gI_sI, if_neg (by omega)]
    have g301 : gI T1 301 98 = 1 := by rw [(i1 98 (by omega)).1, gI_sI, if_neg (by omega), gI_sI, if_pos ⟨rfl, rfl⟩]
    have g302 : gI T1 302 98 = nI 0 := by rw [(i1 98 (by omega)).1, gI_sI, if_pos ⟨rfl, rfl⟩, li0]
    obtain ⟨b, T2, e2, k2, kt, kf⟩ := c_gather (N := N) (S := T1) (t := t) (sn := sn) (by omega) on hl ((g1 300 (by omega) (by omega)).trans s1) (by rw [(F1 101 (by omega) (by omega)).2.2.2.1]; exact s2) (by rw [(F1 102 (by omega) (by omega)).2.2.2.1]; exact s3) hb
    have F2 : ∀ b, b ≠ 98 → b ≠ 100 → b ≠ 103 → ag S T2 b := fun b h1 h2 h3 => (F1 b h1 h2).trans (k2.1 b h1 h3)
    have q2 : ∀ i, i < 7 → gQ T2 105 i = 106 + 2 * i := by rw [(F2 105 (by omega) (by omega) (by omega)).2.2.2.2]; exact s4
    have pre : P_X3_look N S r = if bI b = nI 0 then some T2 else (cal1 (P_X0_begin N T2 106) fun S8 => cal1 (P_X3_search N 8 S8 r (nI 0)) fun S10 => some S10) := by
      unfold P_X3_look
      rw [if_pos s5, bnd_eq, bnd_eq, li0]
      rw [show (nI 0 : Int32) = 0 from li0.symm] at e1 ⊢
      rw [e1, P_X3_look_L20]
      dsimp only
      rw [li6, if_pos (nI_le (Nat.le_refl _) (by omega)), e2, cal2_s, li0, nI_clamp (by omega), q2 0 (by omega), bnd_eq, isk_of (ks4 (i := 0) (by omega)), gd_true]
    rw [pre]
    have base : ∀ T, sF T2 T → gI T 301 98 = 1 ∧ (∀ b, (b < 98 ∨ 119 < b) → ag S T b) ∧ (gI T 302 98 = nI (fitsOf t sn).length → (fitsOf t sn ≠ [] → ∀ i, i < tn t → gA T 99 i = nI (((fitsOf t sn).getD 0 []).getD i 0) ∧ gA T 100 i = nI (sureOf t sn i)) → CRseen T t sn) := by
      intro T hT
      have h301 : gI T 301 98 = 1 := by rw [hT.2.1 301 (by omega), k2.2 301 (by omega)]; exact g301
      refine ⟨h301, fun b hb => (F2 b (by omega) (by omega) (by omega)).trans (hT.1 b hb), fun h1 h2 => ⟨?_, ?_, ?_, ?_, Or.inr ⟨h301, h1, h2⟩⟩⟩
      · rw [hT.2.1 300 (by omega), k2.2 300 (by omega), g1 300 (by omega) (by omega)]; exact s1
      · rw [hT.2.2.1.2.2.2.1, (F2 101 (by omega) (by omega) (by omega)).2.2.2.1]; exact s2
      · rw [hT.2.2.2.1.2.2.2.1, (F2 102 (by omega) (by omega) (by omega)).2.2.2.1]; exact s3
      · rw [hT.2.2.2.2.2.2.2.2.2]; exact q2
    cases hbb : b with
    | false =>
      obtain ⟨s, hs, hcon⟩ := kf hbb
      have ef : fitsOf t sn = [] := fl_con hcon (tn t) 0 _ (Nat.zero_le _) (by omega)
      obtain ⟨c1, c2, c3⟩ := base T2 (sF_refl T2)
      refine ⟨T2, by rw [if_pos (by decide)], c2, c3 ?_ (fun h => absurd ef h), c1⟩
      rw [k2.2 302 (by omega), g302, ef]
      rfl
    | true =>
      obtain ⟨kn, kd103, k308⟩ := kt hbb
      obtain ⟨S8, hS8⟩ : ∃ S8, S8 = cpS T2 106 (0, 0, none, fun _ => 0) := ⟨_, rfl⟩
      have e8 : P_X0_begin N T2 106 = some S8 := by rw [hS8]; exact c_begin (by omega) (ks4 (i := 0) (by omega))
      have k8 : ∀ b, b ≠ 106 → b ≠ 107 → ag T2 S8 b := fun b h1 h2 => by rw [hS8]; exact ag_cpS h1 h2
      have m8 : CRm S8 106 (0, 0, none, fun _ => 0) := by rw [hS8]; exact cpS_at
      have F8 : ∀ b, (b < 98 ∨ 119 < b) → ag S S8 b := fun b hb => (F2 b (by omega) (by omega) (by omega)).trans (k8 b (by omega) (by omega))
      have f8 : sF T2 S8 := ⟨fun b hb => k8 b (by omega) (by omega), fun f _ => (k8 98 (by omega) (by omega)).1 f, k8 _ (by omega) (by omega), k8 _ (by omega) (by omega), k8 _ (by omega) (by omega), k8 _ (by omega) (by omega)⟩
      have D8 : DF S8 t r lo hi (duK sn sn.length) (ldK sn sn.length) 0 (0, none, fun _ => 0) [] [] := by
        refine ⟨hR.ag (fun i hi => F8 _ (by omega)), ⟨((F8 r (by omega)).1 _).trans hp1, by rw [(F8 (r + 7) (by omega)).2.2.2.1]; exact hp2, fun i hi => by rw [(F8 (r + 8) (by omega)).2.2.2.1]; exact (a3 i hi).1⟩, fun i hi => by rw [(F8 (r + 9) (by omega)).2.2.2.1]; exact (a3 i hi).2, m8, fun w _ => Nat.zero_le _, Nat.le_refl _, fun z hz => (by cases hz), rfl, fun j hj => absurd hj (Nat.not_lt_zero j), fun j hj => absurd hj (Nat.not_lt_zero j), by rw [f8.2.2.2.2.2.2.2.2.2]; exact q2, by rw [f8.2.2.2.2.1.2.2.2.1]; exact kd103, by rw [f8.2.1 308 (by omega)]; exact k308, ?_, fun h => absurd rfl h, fun j hj => ?_⟩
        · rw [(k8 98 (by omega) (by omega)).1, k2.2 302 (by omega)]; exact g302
        · rw [(k8 100 (by omega) (by omega)).2.2.2.1, (k2.1 100 (by omega) (by omega)).2.2.2.1]; exact i2 j (by omega)
      have hnm : fleaves t sn 0 (tn t) (0, none, fun _ => 0) = fitsOf t sn := rfl
      have h6 := six_le (tn t) (by omega)
      obtain ⟨T, eT, fT, -, -, aT⟩ := c_fsearch (N := N) (lo := lo) (hi := hi) (sn := sn) hr hkr ok (by omega) (fun i h => (a4 i h).1) (fun i h => by have := lo_bd z1 (fun i hi => (by have := (a4 i hi).2.1; omega : lo (i + 1) ≤ lo i + 150)) i h; omega) (fun i h => by have := lo_bd z2 (fun i hi => (a4 i hi).2.2.1) i h; omega) (fun i p T h h' => (a4 i h).2.2.2 (List.ne_nil_of_mem h') p h' T) (fun j mi => by rw [← okK_all]; exact okK_du j mi _ kn) (fun j m h => duK_le (fun i hi => (hb i hi).2) _ j m (Nat.le_refl _) h) (duK_ld sn _) (ld_le (fun i hi => (hb i hi).1) _ (Nat.le_refl _)) (tn t) 8 0 (0, none, fun _ => 0) [] [] S8 (by omega) (by omega) D8 (by show 0 + _ < _; omega)
      rw [map_nil_app, List.nil_append, hnm] at aT
      obtain ⟨c1, c2, c3⟩ := base T (sF_trans f8 fT)
      refine ⟨T, by rw [if_neg (by decide), e8, cal1_s, eT, cal1_s], c2, c3 aT.1 (fun h i hi => ⟨aT.2.1 h i hi, aT.2.2 i hi⟩), c1⟩
  · refine ⟨S, ?_, fun b _ => ag.refl S b, ⟨s1, s2, s3, s4, Or.inr ⟨s5, s6, s7⟩⟩, s5⟩
    unfold P_X3_look
    rw [if_neg (by rw [s5]; decide)]
end
