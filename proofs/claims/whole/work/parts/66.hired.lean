section
/-! STAGE 2, calls: hired -/
def hk (t : Tau) (p g s : Nat) (T : Nat → Nat) : Nat → Nat × (Nat → Nat)
  | 0 => (0, T)
  | k + 1 => if bitN s (g + k) = true then ((hk t p g s T k).1 + 3 * tL t (g + k), easeF (tL t (g + k)) (hk t p g s T k).2) else ((hk t p g s T k).1 + mins t (hk t p g s T k).2 (g + k) p, tireF p (tL t (g + k)) (hk t p g s T k).2)
theorem hk_ok {t : Tau} (ok : TOK t) {p g s : Nat} {T : Nat → Nat} (hT : ∀ w, w < 4 → T w ≤ 99) : ∀ k, g + k ≤ tn t → (hk t p g s T k).1 ≤ 126 * k ∧ ∀ w, w < 4 → (hk t p g s T k).2 w ≤ 99
  | 0, _ => ⟨Nat.zero_le _, hT⟩
  | k + 1, h => by
    obtain ⟨h1, h2⟩ := hk_ok ok (p := p) (g := g) (s := s) hT k (by omega)
    have oi := ok.2.2.2.2.2.2 (g + k) (by omega)
    have b1 := mins_le t ok (T := (hk t p g s T k).2) (p := p) (show g + k < tn t by omega)
    rw [hk]
    by_cases c : bitN s (g + k) = true
    · rw [if_pos c]
      refine ⟨by show _ + _ ≤ _; omega, fun w hw => ?_⟩
      have := h2 w hw
      show (hk t p g s T k).2 w - _ ≤ 99
      omega
    · rw [if_neg c]
      exact ⟨by show _ + _ ≤ _; omega, fun w hw => tire_le w (h2 w hw)⟩
theorem c_bit {s k : Nat} (hs : s < 64) (hk : k < 6) : ((nI s >>> (nI k &&& 31)) &&& (1 : Int32)) = (1 : Int32) ↔ bitN s k = true := by
  rw [li1, show (31 : Int32) = nI 31 from li31]
  exact has_bit s hs k hk
def hmom (m : Mom) (U : Nat → Nat) : Mom := (m.1, m.2.1, m.2.2.1, U)
theorem c_hm_L {N r p s : Nat} {S : PSt} {t : Tau} {m : Mom} (hN : 5 ≤ N) (hr : r = 4 ∨ r = 14) (hkr : kd r = 4) (hR : CRt S r t) (hg : gR S 601 0 = r) (ok : TOK t) (hp : vpr t p) (hs : s < 64) (hT : ∀ w, w < 4 → m.2.2.2 w ≤ 99) : ∀ (z k fuel : Nat) (T : PSt), m.1 + k + z = tn t → z < fuel → tr S T → CRm T 156 (hmom m (hk t p m.1 s m.2.2.2 k).2) → ∃ T', P_X6_minutesWithHired_L28 N fuel T (nI p) (nI s) (nI (hk t p m.1 s m.2.2.2 k).1) (nI (m.1 + k)) = some (nI (hk t p m.1 s m.2.2.2 (tn t - m.1)).1, T') ∧ tr S T' := by
  have on := ok.2.1
  have hp1 := vpr_lt ok hp
  intro z
  induction z with
  | zero =>
    intro k fuel T hz hf hs' hm
    obtain ⟨fuel, rfl⟩ : ∃ z, fuel = z + 1 := ⟨fuel - 1, by omega⟩
    refine ⟨T, ?_, hs'⟩
    have hR' := tr_t hr hs' hR
    have hg' : gR T 601 0 = r := ((hs' 0 (by omega) (by omega)).2.2.1 _).trans hg
    rw [P_X6_minutesWithHired_L28]
    dsimp only
    rw [hg', bnd_eq, isk_of hkr, gd_true, hR'.2.1, if_pos (nI_le (by omega) (by omega)), show tn t - m.1 = k by omega]
  | succ z ih =>
    intro k fuel T hz hf hs' hm
    obtain ⟨fuel, rfl⟩ : ∃ z, fuel = z + 1 := ⟨fuel - 1, by omega⟩
    have hR' := tr_t hr hs' hR
    have hg' : gR T 601 0 = r := ((hs' 0 (by omega) (by omega)).2.2.1 _).trans hg
    have oi := ok.2.2.2.2.2.2 (m.1 + k) (by omega)
    obtain ⟨b1, b2⟩ := hk_ok ok (p := p) (g := m.1) (s := s) hT k (by omega)
    have put : ∀ U, CRm (putT T 157 U) 156 (hmom m U) := fun U => ⟨hm.1, hm.2.1, hm.2.2.1, fun w hw => putT_at hw⟩
    have trp : ∀ U, tr T (putT T 157 U) := fun U a _ y => ag_putT y
    have ih' := fun U (h : (hk t p m.1 s m.2.2.2 (k + 1)).2 = U) => ih (k + 1) fuel (putT T 157 U) (by omega) (by omega) (tr_trans hs' (trp U)) (by rw [h]; exact put U)
    rw [P_X6_minutesWithHired_L28]
    dsimp only
    rw [hg', bnd_eq, isk_of hkr, gd_true, hR'.2.1, if_neg (nI_ge (by omega) (by omega))]
    by_cases c : bitN s (m.1 + k) = true
    · have e : hk t p m.1 s m.2.2.2 (k + 1) = ((hk t p m.1 s m.2.2.2 k).1 + 3 * tL t (m.1 + k), easeF (tL t (m.1 + k)) (hk t p m.1 s m.2.2.2 k).2) := by rw [hk, if_pos c]
      obtain ⟨T2, e2, s2⟩ := ih' _ (by rw [e])
      refine ⟨T2, ?_, s2⟩
      rw [e] at e2
      rw [if_pos ((c_bit hs (by omega)).mpr c), bnd_eq, isk_of hkr, gd_true, bin_nI (by omega), lt3 hkr, gd_dec (by omega), nI_clamp (by omega), hR'.2.2.2.2.2.2.1 (m.1 + k) (by omega), li3, pk_mul, nI_add, bnd_eq, bnd_eq, isk_of hkr, gd_true, bin_nI (by omega), lt3 hkr, gd_dec (by omega), hR'.2.2.2.2.2.2.1 (m.1 + k) (by omega), c_ease (T := (hk t p m.1 s m.2.2.2 k).2) hN (by rfl) hm.2.2.2 b2 (by omega), cal1_s, li1, nI_add, bnd_eq]
      exact e2
    · have e : hk t p m.1 s m.2.2.2 (k + 1) = ((hk t p m.1 s m.2.2.2 k).1 + mins t (hk t p m.1 s m.2.2.2 k).2 (m.1 + k) p, tireF p (tL t (m.1 + k)) (hk t p m.1 s m.2.2.2 k).2) := by rw [hk, if_neg c]
      obtain ⟨T2, e2, s2⟩ := ih' _ (by rw [e])
      refine ⟨T2, ?_, s2⟩
      rw [e] at e2
      rw [if_neg (fun h => c ((c_bit hs (by omega)).mp h)), bnd_eq, isk_of hkr, gd_true, c_minutesOn (m := hmom m (hk t p m.1 s m.2.2.2 k).2) (by rfl) hkr hm b2 hR' ok (by omega) hp, cal2_s, nI_add, bnd_eq, hg', bnd_eq, isk_of hkr, gd_true, bin_nI (by omega), lt3 hkr, gd_dec (by omega), nI_clamp (by omega), hR'.2.2.2.2.2.2.1 (m.1 + k) (by omega), c_tire (T := (hk t p m.1 s m.2.2.2 k).2) hN (by rfl) hm.2.2.2 b2 (by omega) (by omega), cal1_s, li1, nI_add, bnd_eq]
      exact e2
def hmin (q : Sig) (p s : Nat) : Nat := (hk (qt q) p (qm q).1 s (qm q).2.2.2 (tn (qt q) - (qm q).1)).1
theorem hmin_le {q : Sig} (ok : SOK q) (p s : Nat) : hmin q p s ≤ 756 := by
  have og := ok.2.1.1
  have on := ok.1.2.1
  have := (hk_ok ok.1 (p := p) (g := (qm q).1) (s := s) ok.2.1.2.2.2.2.1 (tn (qt q) - (qm q).1) (by omega)).1
  unfold hmin
  omega
theorem c_hm {N p s : Nat} {S : PSt} {q : Sig} (hN : 20 ≤ N) (ok : SOK q) (hc : CR S q) (hp : vpr (qt q) p) (hs : s < 64) : ∃ T, P_X6_minutesWithHired N S (nI p) (nI s) = some (nI (hmin q p s), T) ∧ tr S T := by
  obtain ⟨r, d, hrd, hr, hd, hT, -, -, -⟩ := hc.1
  obtain ⟨hk', -, hkr, -⟩ := isk4 hrd
  have on := ok.1.2.1
  have og := ok.2.1.1
  have s0 : tr S (cpS S 156 (qm q)) := fun a x y => ag_cpS x y
  have hg : gI (cpS S 156 (qm q)) 0 25 = nI (qm q).1 := ((s0 25 (by omega) (by omega)).1 0).trans hc.2.1.1.1.1
  obtain ⟨T, e, s⟩ := c_hm_L (N := N) (p := p) (s := s) (m := qm q) (by omega) (by omega) hkr hT hr ok.1 hp hs ok.2.1.2.2.2.2.1 (tn (qt q) - (qm q).1) 0 N (cpS S 156 (qm q)) (by omega) (by omega) s0 cpS_at
  refine ⟨T, ?_, s⟩
  unfold P_X6_minutesWithHired
  rw [c_copy (by omega) (by rfl) (by rfl) (by omega) hc.2.1.1.1, cal1_s, hg, bnd_eq, li0]
  exact e
theorem tdAt_put4 {S : PSt} {d : Nat} {U : Nat → Nat} (h : ∀ w, w < 4 → U w ≤ 99) : tdAt (put4 S (4 * d + 4) U) (d + 1) U := fun w hw => ⟨by rw [show 4 * (d + 1) + w = 4 * d + 4 + w by omega]; exact put4_at hw, h w hw⟩
theorem m_hm_L {N p s : Nat} {t : Tau} {m : Mom} (hN : 5 ≤ N) (ok : TOK t) (hp : vpr t p) (hs : s < 64) (hT : ∀ w, w < 4 → m.2.2.2 w ≤ 99) : ∀ (z k fuel : Nat) (T : PSt), m.1 + k + z = tn t → z < fuel → MRt T t → gA T 161 0 = nI m.1 → tdAt T k (hk t p m.1 s m.2.2.2 k).2 → ∃ T', P_X7_minutesBy_L14 N fuel T (nI p) (nI s) (nI (hk t p m.1 s m.2.2.2 k).1) (nI (m.1 + k)) = some (nI (hk t p m.1 s m.2.2.2 (tn t - m.1)).1, T') ∧ scr T T' := by
  have on := ok.2.1
  have hp1 := vpr_lt ok hp
  intro z
  induction z with
  | zero =>
    intro k fuel T hz hf hM hg hd
    obtain ⟨fuel, rfl⟩ : ∃ z, fuel = z + 1 := ⟨fuel - 1, by omega⟩
    refine ⟨T, ?_, scr.refl T⟩
    rw [P_X7_minutesBy_L14]
    dsimp only
    rw [hM.2.1, if_pos (nI_le (by omega) (by omega)), show tn t - m.1 = k by omega]
  | succ z ih =>
    intro k fuel T hz hf hM hg hd
    obtain ⟨fuel, rfl⟩ : ∃ z, fuel = z + 1 := ⟨fuel - 1, by omega⟩
    have oi := ok.2.2.2.2.2.2 (m.1 + k) (by omega)
    obtain ⟨b1, b2⟩ := hk_ok ok (p := p) (g := m.1) (s := s) hT k (by omega)
    obtain ⟨b3, b4⟩ := hk_ok ok (p := p) (g := m.1) (s := s) hT (k + 1) (by omega)
    have ih' := fun U (h : (hk t p m.1 s m.2.2.2 (k + 1)).2 = U) => ih (k + 1) fuel (put4 T (4 * k + 4) U) (by omega) (by omega) (hM.scr scr_put4) (by rw [scr_put4.2.2.2.2 161 (by omega) (by omega) (by omega)]; exact hg) (by rw [h]; exact tdAt_put4 (by rw [← h]; exact b4))
    rw [P_X7_minutesBy_L14]
    dsimp only
    rw [hM.2.1, if_neg (nI_ge (by omega) (by omega)), li0, nI_clamp (by omega), hg, pk_sub (by omega), Nat.add_sub_cancel_left, bnd_eq, m_has hs (by omega), cal2_s]
    by_cases c : bitN s (m.1 + k) = true
    · have e : hk t p m.1 s m.2.2.2 (k + 1) = ((hk t p m.1 s m.2.2.2 k).1 + 3 * tL t (m.1 + k), easeF (tL t (m.1 + k)) (hk t p m.1 s m.2.2.2 k).2) := by rw [hk, if_pos c]
      obtain ⟨T2, e2, s2⟩ := ih' _ (by rw [e])
      refine ⟨T2, ?_, scr_put4.trans s2⟩
      rw [e] at e2
      rw [if_pos c, if_neg n1_0, li4, pk_mul, bin_nI (by omega), l160, gd_dec (by omega), nI_clamp (by omega), hM.2.2.2.2.2.2.1 (m.1 + k) (by omega), li3, pk_mul]
      unfold P_X7_minutesBy_L67
      rw [nI_add, bnd_eq, m_has hs (by omega), cal2_s, if_pos c, li0, if_neg n1_0]
      unfold P_X7_minutesBy_L86
      rw [li4, pk_mul, bin_nI (by omega), l160, gd_dec (by omega), nI_clamp (by omega), hM.2.2.2.2.2.2.1 (m.1 + k) (by omega), m_tiresE hN hd (by omega) (by omega), cal1_s, li1, nI_add, bnd_eq]
      exact e2
    · have e : hk t p m.1 s m.2.2.2 (k + 1) = ((hk t p m.1 s m.2.2.2 k).1 + mins t (hk t p m.1 s m.2.2.2 k).2 (m.1 + k) p, tireF p (tL t (m.1 + k)) (hk t p m.1 s m.2.2.2 k).2) := by rw [hk, if_neg c]
      obtain ⟨T2, e2, s2⟩ := ih' _ (by rw [e])
      refine ⟨T2, ?_, scr_put4.trans s2⟩
      rw [e] at e2
      rw [if_neg c, if_pos rfl, m_takesAt hM ok hd (by omega) (by omega) hp, cal2_s]
      unfold P_X7_minutesBy_L67
      rw [nI_add, bnd_eq, m_has hs (by omega), cal2_s, if_neg c, li0, if_pos rfl]
      unfold P_X7_minutesBy_L86
      rw [li4, pk_mul, bin_nI (by omega), l160, gd_dec (by omega), nI_clamp (by omega), hM.2.2.2.2.2.2.1 (m.1 + k) (by omega), m_tires hN hd (by omega) (by omega) (by omega), cal1_s, li1, nI_add, bnd_eq]
      exact e2
theorem m_hm {N p s : Nat} {S : PSt} {q : Sig} (hN : 20 ≤ N) (ok : SOK q) (hm : MR S q) (hp : vpr (qt q) p) (hs : s < 64) : ∃ T, P_X7_minutesBy N S (nI p) (nI s) = some (nI (hmin q p s), T) ∧ scr S T := by
  have on := ok.1.2.1
  have og := ok.2.1.1
  have sc : scr S (fnS S (qm q)) := fnS_scr
  have hg : gA (fnS S (qm q)) 161 0 = nI (qm q).1 := by rw [sc.2.2.2.2 161 (by omega) (by omega) (by omega)]; exact hm.2.1.1
  obtain ⟨T, e, s⟩ := m_hm_L (N := N) (p := p) (s := s) (m := qm q) (by omega) ok.1 hp hs ok.2.1.2.2.2.2.1 (tn (qt q) - (qm q).1) 0 N (fnS S (qm q)) (by omega) (by omega) (hm.1.scr sc) hg (fnS_dep ok.2.1.2.2.2.2.1).2.2
  refine ⟨T, ?_, sc.trans s⟩
  unfold P_X7_minutesBy
  rw [m_fromNow (by omega) hm.2.1, cal1_s, li0, nI_clamp (by omega), hg, bnd_eq]
  exact e
def pn (t : Tau) (s : Nat) : Nat → Nat
  | 0 => 0
  | k + 1 => pn t s k + (if bitN s k = true then tL t k else 0)
theorem pn_le {t : Tau} (ok : TOK t) (s : Nat) : ∀ k, k ≤ tn t → pn t s k ≤ 9 * k
  | 0, _ => Nat.zero_le _
  | k + 1, h => by
    have h1 := pn_le ok s k (by omega)
    have oi := ok.2.2.2.2.2.2 k (by omega)
    rw [pn]
    split <;> omega
theorem c_pence {N r s : Nat} {S : PSt} {t : Tau} (hk : kd r = 4) (hR : CRt S r t) (ok : TOK t) (hs : s < 64) : ∀ (z k fuel : Nat), k + z = tn t → z < fuel → P_X4_furlongsOf_L4 N fuel S r (nI s) (nI (pn t s k)) (nI k) = some (nI (pn t s (tn t)), S) := by
  have on := ok.2.1
  intro z
  induction z with
  | zero =>
    intro k fuel hz hf
    obtain ⟨fuel, rfl⟩ : ∃ z, fuel = z + 1 := ⟨fuel - 1, by omega⟩
    rw [P_X4_furlongsOf_L4]
    dsimp only
    rw [hR.2.1, if_pos (nI_le (by omega) (by omega)), show k = tn t by omega]
  | succ z ih =>
    intro k fuel hz hf
    obtain ⟨fuel, rfl⟩ : ∃ z, fuel = z + 1 := ⟨fuel - 1, by omega⟩
    have e := ih (k + 1) fuel (by omega) (by omega)
    rw [pn] at e
    rw [P_X4_furlongsOf_L4]
    dsimp only
    rw [hR.2.1, if_neg (nI_ge (by omega) (by omega))]
    by_cases c : bitN s k = true
    · rw [if_pos c] at e
      rw [if_pos ((c_bit hs (by omega)).mpr c), bin_nI (by omega), lt3 hk, gd_dec (by omega), nI_clamp (by omega), hR.2.2.2.2.2.2.1 k (by omega), nI_add, bnd_eq, li1, nI_add, bnd_eq]
      exact e
    · rw [if_neg c, Nat.add_zero] at e
      rw [if_neg (fun h => c ((c_bit hs (by omega)).mp h)), li1, nI_add, bnd_eq]
      exact e
theorem m_pence {N s : Nat} {S : PSt} {t : Tau} (hM : MRt S t) (ok : TOK t) (hs : s < 64) : ∀ (z k fuel : Nat), k + z = tn t → z < fuel → P_X7_penceOf_L4 N fuel S (nI s) (nI (pn t s k)) (nI k) = some (nI (pn t s (tn t)), S) := by
  have on := ok.2.1
  intro z
  induction z with
  | zero =>
    intro k fuel hz hf
    obtain ⟨fuel, rfl⟩ : ∃ z, fuel = z + 1 := ⟨fuel - 1, by omega⟩
    rw [P_X7_penceOf_L4]
    dsimp only
    rw [hM.2.1, if_pos (nI_le (by omega) (by omega)), show k = tn t by omega]
  | succ z ih =>
    intro k fuel hz hf
    obtain ⟨fuel, rfl⟩ : ∃ z, fuel = z + 1 := ⟨fuel - 1, by omega⟩
    have e := ih (k + 1) fuel (by omega) (by omega)
    rw [pn] at e
    rw [P_X7_penceOf_L4]
    dsimp only
    rw [hM.2.1, if_neg (nI_ge (by omega) (by omega)), m_has hs (by omega), cal2_s]
    by_cases c : bitN s k = true
    · rw [if_pos c] at e
      rw [if_pos c, li0, if_neg n1_0, li4, pk_mul, bin_nI (by omega), l160, gd_dec (by omega), nI_clamp (by omega), hM.2.2.2.2.2.2.1 k (by omega), nI_add, bnd_eq, li1, nI_add, bnd_eq]
      exact e
    · rw [if_neg c, Nat.add_zero] at e
      rw [if_neg c, li0, if_pos rfl, nI_add, bnd_eq, Nat.add_zero, li1, nI_add, bnd_eq]
      exact e
end
