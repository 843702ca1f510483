/-! STAGE 2, the reference: walking on, all to come -/
/-- nothing but the reference's rows tired, minutes, pairs has changed -/
def scr (S S' : PSt) : Prop := (∀ f a, gI S' f a = gI S f a) ∧ (∀ f a, gJ S' f a = gJ S f a) ∧ (∀ f a, gR S' f a = gR S f a) ∧ (∀ a, gQ S' a = gQ S a) ∧ (∀ a, a ≠ 170 → a ≠ 171 → a ≠ 172 → gA S' a = gA S a)
theorem scr.refl (S : PSt) : scr S S := ⟨fun _ _ => rfl, fun _ _ => rfl, fun _ _ => rfl, fun _ => rfl, fun _ _ _ _ => rfl⟩
theorem scr.trans {S S' S'' : PSt} (h : scr S S') (h2 : scr S' S'') : scr S S'' := ⟨fun f a => (h2.1 f a).trans (h.1 f a), fun f a => (h2.2.1 f a).trans (h.2.1 f a), fun f a => (h2.2.2.1 f a).trans (h.2.2.1 f a), fun a => (h2.2.2.2.1 a).trans (h.2.2.2.1 a), fun a x y z => (h2.2.2.2.2 a x y z).trans (h.2.2.2.2 a x y z)⟩
theorem scr_sA {S : PSt} {a i : Nat} {v : Int32} (h : a = 170 ∨ a = 171 ∨ a = 172) : scr S (sA S a i v) := ⟨fun _ _ => rfl, fun _ _ => rfl, fun _ _ => rfl, fun _ => rfl, fun b h0 h1 h2 => by rw [gA_sA, if_neg (by omega)]⟩
theorem scr_put4 {S : PSt} {b : Nat} {U : Nat → Nat} : scr S (put4 S b U) := ((scr_sA (Or.inl rfl)).trans (scr_sA (Or.inl rfl))).trans ((scr_sA (Or.inl rfl)).trans (scr_sA (Or.inl rfl)))
theorem MRt.scr {S S' : PSt} {t : Tau} (h : MRt S t) (hs : scr S S') : MRt S' t := by
  obtain ⟨a1, a2, a3, a4, a5, a6, a7, a8, a9, a10⟩ := h
  have e9 : gA S' 159 = gA S 159 := hs.2.2.2.2 159 (by omega) (by omega) (by omega)
  have e0 : gA S' 160 = gA S 160 := hs.2.2.2.2 160 (by omega) (by omega) (by omega)
  refine ⟨?_, ?_, ?_, ?_, ?_, ?_, ?_, ?_, ?_, ?_⟩
  · rw [hs.1]; exact a1
  · rw [hs.1]; exact a2
  · rw [hs.1]; exact a3
  · rw [hs.1]; exact a4
  · rw [e9]; exact a5
  · rw [e9]; exact a6
  · rw [e0]; exact a7
  · rw [e0]; exact a8
  · rw [e0]; exact a9
  · rw [e0]; exact a10
/-- a moment of a walk: minutes, the pair, how tired -/
abbrev Wk : Type := Nat × Option Nat × (Nat → Nat)
def dep (S : PSt) (d : Nat) (q : Wk) : Prop := gA S 171 d = nI q.1 ∧ gA S 172 d = pI q.2.1 ∧ tdAt S d q.2.2
def chg (t : Tau) (o : Option Nat) (p : Nat) : Nat := if o = none ∨ o = some p then 0 else tc t
def wk (t : Tau) (i p : Nat) (q : Wk) : Wk := (q.1 + chg t q.2.1 p + mins t q.2.2 i p, some p, tireF p (tL t i) q.2.2)
def wS (S : PSt) (d : Nat) (q : Wk) (p : Nat) : PSt := sA (put4 (sA S 171 (d + 1) (nI q.1)) (4 * d + 4) q.2.2) 172 (d + 1) (nI p)
theorem rate_le (t : Tau) (ok : TOK t) {i p : Nat} (hi : i < tn t) : rate t i p ≤ 8 := by
  have h := ok.2.2.2.2.2.2 i hi
  unfold rate
  split <;> split <;> omega
theorem worn_le (t : Tau) (T : Nat → Nat) (w : Nat) : wornN t T w ≤ 1 := by unfold wornN; split <;> omega
theorem mins_le (t : Tau) (ok : TOK t) {T : Nat → Nat} {i p : Nat} (hi : i < tn t) : mins t T i p ≤ 126 := by
  have h := ok.2.2.2.2.2.2 i hi
  have h1 := rate_le t ok (p := p) hi
  have h2 := worn_le t T (p / 10)
  have h3 := worn_le t T (p % 10)
  unfold mins
  calc tL t i * (rate t i p + 3 * (wornN t T (p / 10) + wornN t T (p % 10))) ≤ 9 * 14 := Nat.mul_le_mul (by omega) (by omega)
    _ = 126 := rfl
theorem chg_le (t : Tau) (ok : TOK t) {o : Option Nat} {p : Nat} : chg t o p ≤ 9 := by
  have h := ok.2.2.1
  unfold chg
  split <;> omega
theorem tire_le {p f : Nat} {T : Nat → Nat} (w : Nat) (h : T w ≤ 99) : tireF p f T w ≤ 99 := by
  unfold tireF
  split
  · exact Nat.min_le_right _ _
  · omega
theorem put4_at {S : PSt} {b w : Nat} {U : Nat → Nat} (hw : w < 4) : gA (put4 S b U) 170 (b + w) = nI (U w) := by
  unfold put4
  simp only [gA_sA, if_true, upd]
  rcases (show w = 0 ∨ w = 1 ∨ w = 2 ∨ w = 3 by omega) with q | q | q | q <;> subst q
  · rw [if_neg (by omega), if_neg (by omega), if_neg (by omega), if_pos (by omega)]
  · rw [if_neg (by omega), if_neg (by omega), if_pos (by omega)]
  · rw [if_neg (by omega), if_pos (by omega)]
  · rw [if_pos (by omega)]
theorem put4_off {S : PSt} {b v : Nat} {U : Nat → Nat} (hv : v < b ∨ b + 4 ≤ v) : gA (put4 S b U) 170 v = gA S 170 v := by
  unfold put4
  simp only [gA_sA, if_true, upd]
  rw [if_neg (by omega), if_neg (by omega), if_neg (by omega), if_neg (by omega)]
theorem put4_ne {S : PSt} {b a : Nat} {U : Nat → Nat} (h : a ≠ 170) : gA (put4 S b U) a = gA S a := by
  unfold put4
  simp only [gA_sA, if_neg h]
theorem tdAt_ne {S : PSt} {a i d : Nat} {v : Int32} {T : Nat → Nat} (h : a ≠ 170) (hT : tdAt S d T) : tdAt (sA S a i v) d T := by
  intro w hw
  rw [gA_sA, if_neg (by omega)]
  exact hT w hw
theorem m_walksOn {N : Nat} {S : PSt} {t : Tau} {d i p : Nat} {q : Wk} (hN : 5 ≤ N) (hM : MRt S t) (ok : TOK t) (hq : dep S d q) (hd : d ≤ 5) (hi : i < tn t) (hp : vpr t p) (hm : q.1 ≤ 100000) (ho : ∀ z, q.2.1 = some z → z < 100) : P_X7_walksOn N S (nI d) (nI i) (nI p) = some (wS S d (wk t i p q) p) := by
  obtain ⟨mi, o, T⟩ := q
  obtain ⟨h1, h2, hT⟩ := hq
  simp only at h1 h2 hT hm ho
  have oi := ok.2.2.2.2.2.2 i hi
  have oc := ok.2.2.1
  have on := ok.2.1
  have hp1 : p < 100 := by obtain ⟨a, b⟩ := hp; have := ok.1; omega
  have k54 : ∀ y3 : Nat, P_X7_walksOn_L54 N S (nI d) (nI i) (nI p) (nI d + nI 1) (gA S 171 d) (nI y3) = some (wS S d (mi + y3 + mins t T i p, some p, tireF p (tL t i) T) p) := by
    intro y3
    unfold P_X7_walksOn_L54
    rw [m_takesAt hM ok hT (by omega) hi hp, cal2_s, h1]
    simp (disch := omega) only [li0, li1, li2, li3, li4, li5, li6, li7, li8, li9, li10, li12, li13, li15, li18, li20, li23, li24, li31, li32, li40, li48, li49, li57, li59, li64, li70, li78, li97, li99, li100, li104, li116, li119, li122, li200, li255, li9999, nI_add, pk_mul, nI_clamp, bin_nI, nI_ltI, nI_leI, nI_eq, l171, l160, l172]
    rw [decide_eq_true (by omega : d + 1 < 7), decide_eq_true (by omega : 4 * i < 24), gd_true, bnd_eq, gd_true, gA_sA, if_neg (by omega), hM.2.2.2.2.2.2.1 i hi, m_tires hN (tdAt_ne (by omega) hT) hd (by omega) hp1, cal1_s, gd_true, bnd_eq]
    rfl
  have k26 : ∀ y0 : Nat, y0 ≤ 1 → P_X7_walksOn_L26 N S (nI d) (nI i) (nI p) (nI y0) = some (wS S d (mi + (if y0 = 0 then 0 else tc t) + mins t T i p, some p, tireF p (tL t i) T) p) := by
    intro y0 hy0
    unfold P_X7_walksOn_L26
    simp (disch := omega) only [li0, li1, li2, li3, li4, li5, li6, li7, li8, li9, li10, li12, li13, li15, li18, li20, li23, li24, li31, li32, li40, li48, li49, li57, li59, li64, li70, li78, li97, li99, li100, li104, li116, li119, li122, li200, li255, li9999, bin_nI, l171, nI_clamp]
    rw [decide_eq_true (by omega : d < 7), gd_true]
    rcases (show y0 = 0 ∨ y0 = 1 by omega) with z | z
    · subst z
      rw [if_pos rfl, if_pos rfl]
      exact k54 0
    · subst z
      rw [if_neg (by decide), if_neg (by omega), hM.2.2.1]
      exact k54 _
  unfold P_X7_walksOn
  simp (disch := omega) only [bin_nI, l172, nI_clamp]
  rw [decide_eq_true (by omega : d < 7), gd_true, gd_true, h2]
  unfold wk chg
  simp only
  cases o with
  | none =>
    rw [if_pos (show pI none = -9 from rfl), if_pos (Or.inl rfl)]
    exact k26 0 (by omega)
  | some z =>
    have hz := ho z rfl
    rw [if_neg (by show ¬ nI z = -9; rw [nI_m9 (by omega)]; exact id)]
    by_cases c : z = p
    · subst c
      rw [if_pos (show pI (some z) = nI z from rfl), if_pos (Or.inr rfl)]
      exact k26 0 (by omega)
    · rw [if_neg (by show ¬ nI z = nI p; rw [nI_eq (by omega) (by omega)]; exact c), if_neg (by
        intro h
        rcases h with h | h
        · cases h
        · exact c (Option.some.inj h))]
      exact k26 1 (by omega)
theorem wS_scr {S : PSt} {d p : Nat} {q : Wk} : scr S (wS S d q p) := ((scr_sA (Or.inr (Or.inl rfl))).trans scr_put4).trans (scr_sA (Or.inr (Or.inr rfl)))
theorem wS_dep {S : PSt} {d p : Nat} {q : Wk} (h2 : q.2.1 = some p) (hb : ∀ w, w < 4 → q.2.2 w ≤ 99) : dep (wS S d q p) (d + 1) q := by
  refine ⟨?_, ?_, fun w hw => ⟨?_, hb w hw⟩⟩
  · unfold wS
    rw [gA_sA, if_neg (by omega), put4_ne (by omega), gA_sA, if_pos rfl]
    simp [upd]
  · unfold wS
    rw [gA_sA, if_pos rfl, h2]
    simp [upd, pI]
  · unfold wS
    rw [gA_sA, if_neg (by omega), show 4 * (d + 1) + w = 4 * d + 4 + w by omega]
    exact put4_at hw
theorem wS_old {S : PSt} {d p j : Nat} {q r : Wk} (hj : j ≤ d) (h : dep S j r) : dep (wS S d q p) j r := by
  obtain ⟨h1, h2, h3⟩ := h
  refine ⟨?_, ?_, fun w hw => ⟨?_, (h3 w hw).2⟩⟩
  · unfold wS
    rw [gA_sA, if_neg (by omega), put4_ne (by omega), gA_sA, if_pos rfl, ← h1]
    unfold upd
    rw [if_neg (by omega)]
  · unfold wS
    rw [gA_sA, if_pos rfl]
    unfold upd
    rw [if_neg (by omega), put4_ne (by omega), gA_sA, if_neg (by omega)]
    exact h2
  · unfold wS
    rw [gA_sA, if_neg (by omega), put4_off (by omega), gA_sA, if_neg (by omega)]
    exact (h3 w hw).1
/-- the reference's moment now -/
abbrev Mom : Type := Nat × Nat × Option Nat × (Nat → Nat)
def MRn (S : PSt) (m : Mom) : Prop := gA S 161 0 = nI m.1 ∧ gA S 161 1 = nI m.2.1 ∧ gA S 161 2 = pI m.2.2.1 ∧ ∀ w, w < 4 → gA S 161 (3 + w) = nI (m.2.2.2 w)
def MOK (t : Tau) (m : Mom) : Prop := m.1 ≤ tn t ∧ m.2.1 ≤ 9999 ∧ (∀ p, m.2.2.1 = some p → vpr t p) ∧ (0 < m.1 → m.2.2.1 ≠ none) ∧ (∀ w, w < 4 → m.2.2.2 w ≤ 99) ∧ (∀ w, tW t ≤ w → w < 4 → m.2.2.2 w = 0)
def fnS (S : PSt) (m : Mom) : PSt := sA (sA (put4 S 0 m.2.2.2) 171 0 (nI 0)) 172 0 (pI m.2.2.1)
theorem m_fromNow {N : Nat} {S : PSt} {m : Mom} (hN : 5 ≤ N) (hn : MRn S m) : P_X7_fromNow N S = some (fnS S m) := by
  obtain ⟨n, rfl⟩ : ∃ n, N = n + 5 := ⟨N - 5, by omega⟩
  obtain ⟨h0, h1, h2, h3⟩ := hn
  have step : ∀ (k : Nat) (S : PSt) (w : Nat), w < 4 → gA S 161 (3 + w) = nI (m.2.2.2 w) → P_X7_fromNow_L2 (n + 5) (k + 1) S (nI w) = P_X7_fromNow_L2 (n + 5) k (sA S 170 w (nI (m.2.2.2 w))) (nI (w + 1)) := by
    intro k S w hw hTw
    rw [P_X7_fromNow_L2]
    dsimp only
    rw [if_neg (by rw [li4]; exact nI_ge (by omega) (by omega))]
    simp (disch := omega) only [li0, li1, li2, li3, li4, li5, li6, li7, li8, li9, li10, li12, li13, li15, li18, li20, li23, li24, li31, li32, li40, li48, li49, li57, li59, li64, li70, li78, li97, li99, li100, li104, li116, li119, li122, li200, li255, li9999, nI_add, pk_mul, nI_clamp, bin_nI, nI_ltI, nI_leI, nI_eq, l161, l170]
    rw [decide_eq_true (by omega : 3 + w < 7), decide_eq_true (by omega : w < 28), gd_true, gd_true, bnd_eq, bnd_eq, hTw]
  unfold P_X7_fromNow
  rw [li0, step _ _ 0 (by omega) (h3 0 (by omega)), step _ _ 1 (by omega) (by rw [gA_sA, if_neg (by omega)]; exact h3 1 (by omega)), step _ _ 2 (by omega) (by rw [gA_sA, if_neg (by omega), gA_sA, if_neg (by omega)]; exact h3 2 (by omega)), step _ _ 3 (by omega) (by rw [gA_sA, if_neg (by omega), gA_sA, if_neg (by omega), gA_sA, if_neg (by omega)]; exact h3 3 (by omega)), P_X7_fromNow_L2]
  dsimp only
  rw [if_pos (by rw [li4]; exact nI_le (by omega) (by omega))]
  simp (disch := omega) only [li0, li1, li2, li3, li4, li5, li6, li7, li8, li9, li10, li12, li13, li15, li18, li20, li23, li24, li31, li32, li40, li48, li49, li57, li59, li64, li70, li78, li97, li99, li100, li104, li116, li119, li122, li200, li255, li9999, bnd_eq, nI_clamp]
  have e : gA (sA (sA (sA (sA (sA S 170 0 (nI (m.2.2.2 0))) 170 (0 + 1) (nI (m.2.2.2 (0 + 1)))) 170 (0 + 1 + 1) (nI (m.2.2.2 (0 + 1 + 1)))) 170 (0 + 1 + 1 + 1) (nI (m.2.2.2 (0 + 1 + 1 + 1)))) 171 0 (nI 0)) 161 2 = pI m.2.2.1 := h2
  rw [show (sA (sA (sA (sA (sA S 170 0 (nI (m.2.2.2 0))) 170 1 (nI (m.2.2.2 1))) 170 2 (nI (m.2.2.2 2))) 170 3 (nI (m.2.2.2 3))) 171 0 (nI 0)) = sA (put4 S 0 m.2.2.2) 171 0 (nI 0) from rfl]
  rw [show gA (sA (put4 S 0 m.2.2.2) 171 0 (nI 0)) 161 2 = pI m.2.2.1 from h2]
  rfl
theorem fnS_scr {S : PSt} {m : Mom} : scr S (fnS S m) := (scr_put4.trans (scr_sA (Or.inr (Or.inl rfl)))).trans (scr_sA (Or.inr (Or.inr rfl)))
theorem fnS_dep {S : PSt} {m : Mom} (hb : ∀ w, w < 4 → m.2.2.2 w ≤ 99) : dep (fnS S m) 0 (0, m.2.2.1, m.2.2.2) := by
  refine ⟨?_, ?_, fun w hw => ⟨?_, hb w hw⟩⟩
  · unfold fnS
    rw [gA_sA, if_neg (by omega), gA_sA, if_pos rfl]
    simp [upd]
  · unfold fnS
    rw [gA_sA, if_pos rfl]
    simp [upd]
  · unfold fnS
    rw [gA_sA, if_neg (by omega), gA_sA, if_neg (by omega)]
    exact put4_at hw
/-- a pair walks the stretches g .., k of them -/
def al (t : Tau) (p g : Nat) (q : Wk) : Nat → Wk
  | 0 => q
  | k + 1 => wk t (g + k) p (al t p g q k)
theorem al_ok (t : Tau) (ok : TOK t) (p g : Nat) (q : Wk) (hp : vpr t p) (h1 : q.1 ≤ 9999) (h2 : ∀ z, q.2.1 = some z → vpr t z) (h3 : ∀ w, w < 4 → q.2.2 w ≤ 99) : ∀ k, g + k ≤ tn t → (al t p g q k).1 ≤ 9999 + 135 * k ∧ (∀ z, (al t p g q k).2.1 = some z → vpr t z) ∧ ∀ w, w < 4 → (al t p g q k).2.2 w ≤ 99
  | 0, _ => ⟨by simpa [al] using h1, h2, h3⟩
  | k + 1, hk => by
    obtain ⟨a1, a2, a3⟩ := al_ok t ok p g q hp h1 h2 h3 k (by omega)
    have b1 := mins_le t ok (T := (al t p g q k).2.2) (p := p) (show g + k < tn t by omega)
    have b2 := chg_le t ok (o := (al t p g q k).2.1) (p := p)
    refine ⟨?_, ?_, ?_⟩
    · show (al t p g q k).1 + chg t _ p + mins t _ (g + k) p ≤ _
      omega
    · intro z hz
      have : some p = some z := hz
      cases this
      exact hp
    · intro w hw
      exact tire_le w (a3 w hw)
theorem m_walksAll_L {N : Nat} {t : Tau} {p g : Nat} {q : Wk} (hN : 5 ≤ N) (ok : TOK t) (hp : vpr t p) (h1 : q.1 ≤ 9999) (h2 : ∀ z, q.2.1 = some z → vpr t z) (h3 : ∀ w, w < 4 → q.2.2 w ≤ 99) :
    ∀ (r k : Nat) (S : PSt) (fuel : Nat), g + k + r = tn t → r < fuel → MRt S t → gA S 161 0 = nI g → (∀ j, j ≤ k → dep S j (al t p g q j)) → ∃ S', P_X7_walksAll_L11 N fuel S (nI p) (nI (g + k)) = some (nI (al t p g q (tn t - g)).1, S') ∧ scr S S' ∧ ∀ j, j ≤ tn t - g → dep S' j (al t p g q j) := by
  intro r
  induction r with
  | zero =>
    intro k S fuel hk hf hM hg hd
    obtain ⟨fuel, rfl⟩ : ∃ z, fuel = z + 1 := ⟨fuel - 1, by omega⟩
    have on := ok.2.1
    refine ⟨S, ?_, scr.refl S, fun j hj => hd j (by omega)⟩
    rw [P_X7_walksAll_L11]
    dsimp only
    rw [hM.2.1, if_pos (nI_le (by omega) (by omega))]
    simp (disch := omega) only [li0, li1, li2, li3, li4, li5, li6, li7, li8, li9, li10, li12, li13, li15, li18, li20, li23, li24, li31, li32, li40, li48, li49, li57, li59, li64, li70, li78, li97, li99, li100, li104, li116, li119, li122, li200, li255, li9999, nI_clamp, hg, pk_sub, bin_nI, l171]
    rw [decide_eq_true (by omega : tn t - g < 7), gd_true, (hd (tn t - g) (by omega)).1]
  | succ r ih =>
    intro k S fuel hk hf hM hg hd
    obtain ⟨fuel, rfl⟩ : ∃ z, fuel = z + 1 := ⟨fuel - 1, by omega⟩
    have on := ok.2.1
    obtain ⟨b1, b2, b3⟩ := al_ok t ok p g q hp h1 h2 h3 k (by omega)
    have hw := m_walksOn (S := S) (d := k) (i := g + k) (p := p) hN hM ok (hd k (Nat.le_refl k)) (by omega) (by omega) hp (by omega) (fun z hz => by have h := b2 z hz; obtain ⟨x, y⟩ := h; have := ok.1; omega)
    rw [P_X7_walksAll_L11]
    dsimp only
    rw [hM.2.1, if_neg (nI_ge (by omega) (by omega))]
    simp (disch := omega) only [li0, li1, li2, li3, li4, li5, li6, li7, li8, li9, li10, li12, li13, li15, li18, li20, li23, li24, li31, li32, li40, li48, li49, li57, li59, li64, li70, li78, li97, li99, li100, li104, li116, li119, li122, li200, li255, li9999, nI_clamp, hg, pk_sub]
    rw [show g + k - g = k by omega, hw, cal1_s, bnd_eq, nI_add]
    have hs : scr S (wS S k (wk t (g + k) p (al t p g q k)) p) := wS_scr
    obtain ⟨b1', b2', b3'⟩ := al_ok t ok p g q hp h1 h2 h3 (k + 1) (by omega)
    obtain ⟨S', e1, e2, e3⟩ := ih (k + 1) (wS S k (wk t (g + k) p (al t p g q k)) p) fuel (by omega) (by omega) (hM.scr hs) (by rw [hs.2.2.2.2 161 (by omega) (by omega) (by omega)]; exact hg) (fun j hj => by
      rcases Nat.lt_or_ge k j with c | c
      · have : j = k + 1 := by omega
        subst this
        exact wS_dep rfl b3'
      · exact wS_old c (hd j c))
    exact ⟨S', e1, hs.trans e2, e3⟩
theorem m_walksAll {N : Nat} {S : PSt} {t : Tau} {p : Nat} {m : Mom} (hN : 10 ≤ N) (hM : MRt S t) (ok : TOK t) (hn : MRn S m) (hm : MOK t m) (hp : vpr t p) : ∃ S', P_X7_walksAll N S (nI p) = some (nI (al t p m.1 (0, m.2.2.1, m.2.2.2) (tn t - m.1)).1, S') ∧ scr S S' ∧ ∀ j, j ≤ tn t - m.1 → dep S' j (al t p m.1 (0, m.2.2.1, m.2.2.2) j) := by
  obtain ⟨o1, o2, o3, o4, o5, o6⟩ := hm
  have on := ok.2.1
  have hs : scr S (fnS S m) := fnS_scr
  have e161 : gA (fnS S m) 161 = gA S 161 := hs.2.2.2.2 161 (by omega) (by omega) (by omega)
  obtain ⟨S', e1, e2, e3⟩ := m_walksAll_L (N := N) (t := t) (p := p) (g := m.1) (q := (0, m.2.2.1, m.2.2.2)) (by omega) ok hp (Nat.zero_le _) o3 o5 (tn t - m.1) 0 (fnS S m) N (by omega) (by omega) (hM.scr hs) (by rw [e161]; exact hn.1) (fun j hj => by
    have : j = 0 := by omega
    subst this
    exact fnS_dep o5)
  refine ⟨S', ?_, hs.trans e2, e3⟩
  unfold P_X7_walksAll
  rw [m_fromNow (by omega) hn, cal1_s, bnd_eq]
  simp (disch := omega) only [li0, li1, li2, li3, li4, li5, li6, li7, li8, li9, li10, li12, li13, li15, li18, li20, li23, li24, li31, li32, li40, li48, li49, li57, li59, li64, li70, li78, li97, li99, li100, li104, li116, li119, li122, li200, li255, li9999, nI_clamp]
  rw [e161, hn.1]
  exact e1
