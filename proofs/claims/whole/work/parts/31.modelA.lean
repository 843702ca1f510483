/-! STAGE 2, the reference's leaves -/
theorem l159 : ln 159 = 8 := rfl
theorem l160 : ln 160 = 24 := rfl
theorem l161 : ln 161 = 7 := rfl
theorem l162 : ln 162 = 70 := rfl
theorem l163 : ln 163 = 156 := rfl
theorem l164 : ln 164 = 2 := rfl
theorem l165 : ln 165 = 12 := rfl
theorem l166 : ln 166 = 200 := rfl
theorem l170 : ln 170 = 28 := rfl
theorem l171 : ln 171 = 7 := rfl
theorem l172 : ln 172 = 7 := rfl
theorem l173 : ln 173 = 7 := rfl
theorem l174 : ln 174 = 6 := rfl
theorem l175 : ln 175 = 6 := rfl
/-- the reference's tired at a depth -/
def tdAt (S : PSt) (d : Nat) (T : Nat → Nat) : Prop := ∀ w, w < 4 → gA S 170 (4 * d + w) = nI (T w) ∧ T w ≤ 99
theorem m_isWorn {N : Nat} {S : PSt} {t : Tau} {d w : Nat} {T : Nat → Nat} (hM : MRt S t) (ok : TOK t) (hT : tdAt S d T) (hd : d ≤ 6) (hw : w < tW t) : P_X7_isWorn N S (nI w) (nI d) = some (nI (wornN t T w), S) := by
  obtain ⟨-, -, -, -, -, hSt, -⟩ := hM
  obtain ⟨oW, -, -, -, -, oR, -⟩ := ok
  have h1 := hT w (by omega)
  have h2 := oR w hw
  unfold P_X7_isWorn
  simp (disch := omega) only [li0, li1, li2, li3, li4, li5, li6, li7, li8, li9, li10, li12, li13, li15, li18, li20, li23, li24, li31, li32, li40, li48, li49, li57, li59, li64, li70, li78, li97, li99, li100, li104, li116, li119, li122, li200, li255, li9999, nI_add, pk_mul, nI_clamp, bin_nI, nI_ltI, nI_leI, nI_eq, l170, l159]
  rw [decide_eq_true (by omega : 4 * d + w < 28), decide_eq_true (by omega : 2 * w + 1 < 8), gd_true, gd_true, h1.1, hSt w hw]
  simp (disch := omega) only [nI_leI]
  unfold wornN
  split <;> rfl
theorem m_takesAt {N : Nat} {S : PSt} {t : Tau} {d i p : Nat} {T : Nat → Nat} (hM : MRt S t) (ok : TOK t) (hT : tdAt S d T) (hd : d ≤ 6) (hi : i < tn t) (hp : vpr t p) : P_X7_takesAt N S (nI i) (nI p) (nI d) = some (nI (mins t T i p), S) := by
  have hM' := hM
  obtain ⟨-, -, -, -, hR, hSt, hL, hB, hSl, hSh⟩ := hM
  have ok' := ok
  obtain ⟨oW, on, -, -, -, oR, oT⟩ := ok
  obtain ⟨p1, p2⟩ := hp
  have hp10 : p < 100 := by omega
  have r1 := oR (p / 10) (by omega)
  have r2 := oR (p % 10) p2
  have t1 := oT i hi
  have w1 := m_isWorn (N := N) hM' ok' hT hd (w := p / 10) (by omega)
  have w2 := m_isWorn (N := N) hM' ok' hT hd (w := p % 10) p2
  have e1 : nI p / nI 10 = nI (p / 10) := pk_div (by omega) (by omega) (by omega)
  have e2 : nI p - nI (p / 10) * nI 10 = nI (p % 10) := by rw [← e1]; exact pk_rem (by omega) (by omega) (by omega)
  unfold P_X7_takesAt
  simp only [li10, e1, e2, bnd_eq]
  simp (disch := omega) only [li0, li1, li2, li3, li4, li5, li6, li7, li8, li9, li10, li12, li13, li15, li18, li20, li23, li24, li31, li32, li40, li48, li49, li57, li59, li64, li70, li78, li97, li99, li100, li104, li116, li119, li122, li200, li255, li9999, nI_add, pk_mul, nI_clamp, bin_nI, nI_ltI, nI_leI, nI_eq, l159, l160]
  rw [decide_eq_true (by omega : 2 * (p / 10) < 8), decide_eq_true (by omega : 2 * (p % 10) < 8), decide_eq_true (by omega : 4 * i + 1 < 24), decide_eq_true (by omega : 4 * i + 2 < 24)]
  simp only [gd_true]
  rw [hR (p / 10) (by omega), hR (p % 10) p2, hB i hi, hSl i hi]
  simp (disch := omega) only [nI_add, nI_leI]
  have key : ∀ y0 : Nat, y0 ≤ 7 → ∀ y1 : Nat, y1 ≤ 3 → P_X7_takesAt_L84 N S (nI i) (nI d) (nI (p / 10)) (nI (p % 10)) (nI y0) (nI y1) = some (nI (tL t i * (y0 + y1 + 3 * (wornN t T (p / 10) + wornN t T (p % 10)))), S) := by
    intro y0 hy0 y1 hy1
    have b1 : wornN t T (p / 10) ≤ 1 := by unfold wornN; split <;> omega
    have b2 : wornN t T (p % 10) ≤ 1 := by unfold wornN; split <;> omega
    unfold P_X7_takesAt_L84
    simp only [bnd_eq, w1, cal2_s]
    have key2 : ∀ y2 : Nat, y2 = 3 * wornN t T (p / 10) → P_X7_takesAt_L104 N S (nI i) (nI d) (nI (p % 10)) (nI y0 + nI y1) (nI y2) = some (nI (tL t i * (y0 + y1 + 3 * (wornN t T (p / 10) + wornN t T (p % 10)))), S) := by
      intro y2 hy2
      unfold P_X7_takesAt_L104
      simp only [w2, cal2_s]
      have key3 : ∀ y3 : Nat, y3 = 3 * wornN t T (p % 10) → P_X7_takesAt_L119 N S (nI i) (nI y0 + nI y1) (nI y2) (nI y3) = some (nI (tL t i * (y0 + y1 + 3 * (wornN t T (p / 10) + wornN t T (p % 10)))), S) := by
        intro y3 hy3
        unfold P_X7_takesAt_L119
        simp (disch := omega) only [li0, li1, li2, li3, li4, li5, li6, li7, li8, li9, li10, li12, li13, li15, li18, li20, li23, li24, li31, li32, li40, li48, li49, li57, li59, li64, li70, li78, li97, li99, li100, li104, li116, li119, li122, li200, li255, li9999, bnd_eq, nI_add, pk_mul, nI_clamp, bin_nI, nI_ltI, nI_leI, nI_eq, l160]
        rw [decide_eq_true (by omega : 4 * i < 24), gd_true, hL i hi, pk_mul]
        have e : (y0 + y1 + (y2 + y3)) * tL t i = tL t i * (y0 + y1 + 3 * (wornN t T (p / 10) + wornN t T (p % 10))) := by
          rw [Nat.mul_comm, hy2, hy3]
          congr 1
          omega
        rw [e]
      rcases (show wornN t T (p % 10) = 0 ∨ wornN t T (p % 10) = 1 by omega) with q | q
      · rw [q] at key3 ⊢
        rw [if_pos (by rw [li0])]
        exact key3 0 (by omega)
      · rw [q] at key3 ⊢
        rw [if_neg (by rw [li0]; exact nI_ne0 (by omega) (by omega))]
        exact key3 3 (by omega)
    rcases (show wornN t T (p / 10) = 0 ∨ wornN t T (p / 10) = 1 by omega) with q | q
    · rw [q] at key2 ⊢
      rw [if_pos (by rw [li0])]
      exact key2 0 (by omega)
    · rw [q] at key2 ⊢
      rw [if_neg (by rw [li0]; exact nI_ne0 (by omega) (by omega))]
      exact key2 3 (by omega)
  have key0 : ∀ y1 : Nat, y1 ≤ 2 → P_X7_takesAt_L69 N S (nI i) (nI d) (nI (p / 10)) (nI (p % 10)) (nI (tR t (p / 10) + tR t (p % 10))) (nI (tB t i)) (nI (4 + tM t i)) (nI y1) = some (nI (tL t i * (4 + tM t i + y1 + (if tB t i + 4 < tR t (p / 10) + tR t (p % 10) then 1 else 0) + 3 * (wornN t T (p / 10) + wornN t T (p % 10)))), S) := by
    intro y1 hy1
    unfold P_X7_takesAt_L69
    rw [nI_add]
    by_cases hc : tB t i + 4 < tR t (p / 10) + tR t (p % 10)
    · rw [if_pos hc, if_neg]
      · exact key _ (by omega) 1 (by omega)
      · rw [li4, pk_sub (by omega), nI_leI (by omega) (by omega)]; omega
    · rw [if_neg hc, if_pos]
      · exact key _ (by omega) 0 (by omega)
      · rw [Int32.le_iff_toInt_le, li4, pk_sub_toInt (by omega) (by omega), nI_toInt (by omega)]; omega
  unfold mins rate
  by_cases hc : tR t (p / 10) + tR t (p % 10) < tB t i
  · rw [if_pos hc, if_neg (by omega)]
    exact key0 2 (by omega)
  · rw [if_neg hc, if_pos (by omega)]
    exact key0 0 (by omega)
/-- a pair or none, as a number -/
def pI (o : Option Nat) : Int32 := match o with
  | none => -9
  | some p => nI p
theorem m_tires36 {N : Nat} {S : PSt} {d w f y Tw : Nat} {px : Int32} {k : PSt → Int32 → Int32 → Int32 → Int32 → Option PSt} (hd : d ≤ 5) (hw : w < 4) (hf : f ≤ 99) (hT : gA S 170 (4 * d + w) = nI Tw) (hTw : Tw ≤ 99) (hy : y ≤ 1) :
    P_X7_tires_L36 k N S (nI d) px (nI f) (nI w) (nI y) = k (sA S 170 (4 * d + 4 + w) (nI (if y = 0 then Tw - f else min (Tw + f) 99))) (nI d) px (nI f) (nI (w + 1)) := by
  have k98 : ∀ v : Nat, P_X7_tires_L98 k N S (nI d) px (nI f) (nI w) (((nI 4 * nI d) + nI 4) + nI w) (nI v) = k (sA S 170 (4 * d + 4 + w) (nI v)) (nI d) px (nI f) (nI (w + 1)) := by
    intro v
    unfold P_X7_tires_L98
    simp (disch := omega) only [li0, li1, li2, li3, li4, li5, li6, li7, li8, li9, li10, li12, li13, li15, li18, li20, li23, li24, li31, li32, li40, li48, li49, li57, li59, li64, li70, li78, li97, li99, li100, li104, li116, li119, li122, li200, li255, li9999, nI_add, pk_mul, nI_clamp, bin_nI, nI_ltI, nI_leI, nI_eq, l170]
    rw [decide_eq_true (by omega : 4 * d + 4 + w < 28)]
    rfl
  unfold P_X7_tires_L36
  simp (disch := omega) only [li0, li1, li2, li3, li4, li5, li6, li7, li8, li9, li10, li12, li13, li15, li18, li20, li23, li24, li31, li32, li40, li48, li49, li57, li59, li64, li70, li78, li97, li99, li100, li104, li116, li119, li122, li200, li255, li9999, nI_add, pk_mul, nI_clamp, bin_nI, nI_ltI, nI_leI, nI_eq, l170]
  rw [decide_eq_true (by omega : 4 * d + w < 28), gd_true, hT]
  rcases (show y = 0 ∨ y = 1 by omega) with q | q
  · subst q
    rw [if_pos rfl, if_pos rfl]
    unfold P_X7_tires_L60
    simp only [bnd_eq, li0, li1, li2, li3, li4, li5, li6, li7, li8, li9, li10, li12, li13, li15, li18, li20, li23, li24, li31, li32, li40, li48, li49, li57, li59, li64, li70, li78, li97, li99, li100, li104, li116, li119, li122, li200, li255, li9999]
    have hs : (nI Tw + -nI f).toInt = (Tw : Int) - f := by
      rcases Nat.eq_zero_or_pos f with h | h
      · subst h
        have : nI Tw + -nI 0 = nI Tw := by
          have h0 : -nI 0 = nI 0 := by decide
          rw [h0, nI_add]; rfl
        rw [this, nI_toInt (by omega)]; omega
      · rw [Int32.toInt_add, nI_neg h (by omega), nI_toInt (by omega)]
        apply Int.bmod_eq_of_le <;> omega
    by_cases hc : f ≤ Tw
    · have he : nI Tw + -nI f = nI (Tw - f) := by
        apply Int32.toInt_inj.mp
        rw [hs, nI_toInt (by omega)]; omega
      rw [he, if_pos (nI_le (by omega) (by omega)), if_pos (nI_le (by omega) (by omega))]
      exact k98 _
    · rw [if_neg]
      · rw [show Tw - f = 0 by omega]
        exact k98 0
      · rw [Int32.le_iff_toInt_le, hs, nI_toInt (by omega)]; omega
  · subst q
    rw [if_neg (by omega), if_neg (by decide)]
    unfold P_X7_tires_L60
    simp only [bnd_eq, li0, li1, li2, li3, li4, li5, li6, li7, li8, li9, li10, li12, li13, li15, li18, li20, li23, li24, li31, li32, li40, li48, li49, li57, li59, li64, li70, li78, li97, li99, li100, li104, li116, li119, li122, li200, li255, li9999, nI_add]
    rw [if_pos (nI_le (by omega) (by omega))]
    by_cases hc : Tw + f ≤ 99
    · rw [if_pos (nI_le (by omega) (by omega)), Nat.min_eq_left hc]
      exact k98 _
    · rw [if_neg (nI_ge (by omega) (by omega)), Nat.min_eq_right (by omega)]
      exact k98 _
/-- four cells of the reference's tired -/
def put4 (S : PSt) (b : Nat) (U : Nat → Nat) : PSt := sA (sA (sA (sA S 170 b (nI (U 0))) 170 (b + 1) (nI (U 1))) 170 (b + 2) (nI (U 2))) 170 (b + 3) (nI (U 3))
theorem m_tires {N : Nat} {S : PSt} {d f p : Nat} {T : Nat → Nat} (hN : 5 ≤ N) (hT : tdAt S d T) (hd : d ≤ 5) (hf : f ≤ 99) (hp : p < 100) : P_X7_tires N S (nI d) (nI p) (nI f) = some (put4 S (4 * d + 4) (tireF p f T)) := by
  obtain ⟨n, rfl⟩ : ∃ n, N = n + 5 := ⟨N - 5, by omega⟩
  have e1 : nI p / nI 10 = nI (p / 10) := pk_div (by omega) (by omega) (by omega)
  have e2 : nI p - nI (p / 10) * nI 10 = nI (p % 10) := by rw [← e1]; exact pk_rem (by omega) (by omega) (by omega)
  have step : ∀ (m : Nat) (S : PSt) (w : Nat), w < 4 → gA S 170 (4 * d + w) = nI (T w) → P_X7_tires_L3 (n + 5) (m + 1) S (nI d) (nI p) (nI f) (nI w) = P_X7_tires_L3 (n + 5) m (sA S 170 (4 * d + 4 + w) (nI (tireF p f T w))) (nI d) (nI p) (nI f) (nI (w + 1)) := by
    intro m S w hw hTw
    have hb := (hT w hw).2
    rw [P_X7_tires_L3]
    dsimp only
    simp only [li10, e1, e2]
    rw [if_neg (by rw [li4]; exact nI_ge (by omega) (by omega)), if_neg (by rw [li0]; exact nI_nlt (by omega) (by omega))]
    unfold tireF
    by_cases c1 : w = p / 10
    · rw [if_pos (by rw [c1]), if_pos (Or.inl c1)]
      exact m_tires36 (y := 1) hd hw hf hTw hb (by omega)
    · rw [if_neg (by rw [nI_eq (by omega) (by omega)]; exact c1)]
      by_cases c2 : w = p % 10
      · rw [if_pos (by rw [c2]), if_pos (Or.inr c2)]
        exact m_tires36 (y := 1) hd hw hf hTw hb (by omega)
      · rw [if_neg (by rw [nI_eq (by omega) (by omega)]; exact c2), if_neg (by omega)]
        exact m_tires36 (y := 0) hd hw hf hTw hb (by omega)
  have g : ∀ (S : PSt) (j v : Nat) (x : Int32), v < 4 * d + 4 → gA (sA S 170 (4 * d + 4 + j) x) 170 v = gA S 170 v := by
    intro S j v x hv
    rw [gA_sA, if_pos rfl]
    unfold upd
    rw [if_neg (by omega)]
  unfold P_X7_tires
  rw [li0, step _ _ 0 (by omega) ((hT 0 (by omega)).1), step _ _ 1 (by omega) (by rw [g _ _ _ _ (by omega)]; exact (hT 1 (by omega)).1), step _ _ 2 (by omega) (by rw [g _ _ _ _ (by omega), g _ _ _ _ (by omega)]; exact (hT 2 (by omega)).1), step _ _ 3 (by omega) (by rw [g _ _ _ _ (by omega), g _ _ _ _ (by omega), g _ _ _ _ (by omega)]; exact (hT 3 (by omega)).1), P_X7_tires_L3]
  dsimp only
  rw [if_pos (by rw [li4]; exact nI_le (by omega) (by omega))]
  rfl
theorem m_tiresE {N : Nat} {S : PSt} {d f : Nat} {T : Nat → Nat} (hN : 5 ≤ N) (hT : tdAt S d T) (hd : d ≤ 5) (hf : f ≤ 99) : P_X7_tires N S (nI d) (-1) (nI f) = some (put4 S (4 * d + 4) (easeF f T)) := by
  obtain ⟨n, rfl⟩ : ∃ n, N = n + 5 := ⟨N - 5, by omega⟩
  have step : ∀ (m : Nat) (S : PSt) (w : Nat), w < 4 → gA S 170 (4 * d + w) = nI (T w) → P_X7_tires_L3 (n + 5) (m + 1) S (nI d) (-1) (nI f) (nI w) = P_X7_tires_L3 (n + 5) m (sA S 170 (4 * d + 4 + w) (nI (easeF f T w))) (nI d) (-1) (nI f) (nI (w + 1)) := by
    intro m S w hw hTw
    have hb := (hT w hw).2
    rw [P_X7_tires_L3]
    dsimp only
    rw [if_neg (by rw [li4]; exact nI_ge (by omega) (by omega)), if_pos (by decide)]
    exact m_tires36 (y := 0) hd hw hf hTw hb (by omega)
  have g : ∀ (S : PSt) (j v : Nat) (x : Int32), v < 4 * d + 4 → gA (sA S 170 (4 * d + 4 + j) x) 170 v = gA S 170 v := by
    intro S j v x hv
    rw [gA_sA, if_pos rfl]
    unfold upd
    rw [if_neg (by omega)]
  unfold P_X7_tires
  rw [li0, step _ _ 0 (by omega) ((hT 0 (by omega)).1), step _ _ 1 (by omega) (by rw [g _ _ _ _ (by omega)]; exact (hT 1 (by omega)).1), step _ _ 2 (by omega) (by rw [g _ _ _ _ (by omega), g _ _ _ _ (by omega)]; exact (hT 2 (by omega)).1), step _ _ 3 (by omega) (by rw [g _ _ _ _ (by omega), g _ _ _ _ (by omega), g _ _ _ _ (by omega)]; exact (hT 3 (by omega)).1), P_X7_tires_L3]
  dsimp only
  rw [if_pos (by rw [li4]; exact nI_le (by omega) (by omega))]
  rfl
