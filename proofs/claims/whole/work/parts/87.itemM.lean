section
/-! STAGE 2, the text: how the reference reads items -/
/-- a run of numbers, as the reference asks for them -/
def rdsM (N a : Nat) : List (Nat × Nat) → Nat → PSt → Option PSt
  | [], _, S => some S
  | b :: bs, x, S => cal1 (P_X7_reads N S a (nI x) (nI b.1) (nI b.2)) fun T => rdsM N a bs (x + 1) T
theorem cal1_ex {β : Type} {o : Option PSt} {k : PSt → Option β} {r : β} (h : cal1 o k = some r) : ∃ T, o = some T ∧ k T = some r := by
  cases o with
  | none => cases h
  | some T => exact ⟨T, rfl, h⟩
def hF (S T : PSt) (a : Nat) : Prop := (∀ f b, (b ≠ 158 ∨ (f < 716 ∨ 720 < f)) → gI T f b = gI S f b) ∧ (∀ f b, gJ T f b = gJ S f b) ∧ (∀ f b, gR T f b = gR S f b) ∧ (∀ b, gQ T b = gQ S b) ∧ ∀ b, b ≠ a → gA T b = gA S b
theorem hF_refl (S : PSt) (a : Nat) : hF S S a := ⟨fun _ _ _ => rfl, fun _ _ => rfl, fun _ _ => rfl, fun _ => rfl, fun _ _ => rfl⟩
theorem hF_trans {S T U : PSt} {a : Nat} (h : hF S T a) (k : hF T U a) : hF S U a := ⟨fun f b x => (k.1 f b x).trans (h.1 f b x), fun f b => (k.2.1 f b).trans (h.2.1 f b), fun f b => (k.2.2.1 f b).trans (h.2.2.1 f b), fun b => (k.2.2.2.1 b).trans (h.2.2.2.1 b), fun b x => (k.2.2.2.2 b x).trans (h.2.2.2.2 b x)⟩
theorem hF_n {S T : PSt} {a : Nat} (h : nG S T) : hF S T a := ⟨fun f b x => h.1 f b (by omega), h.2.1, h.2.2.1, h.2.2.2.2, fun b _ => h.2.2.2.1 b⟩
theorem hF_720 {S : PSt} {a : Nat} {v : Int32} : hF S (sI S 720 158 v) a := ⟨fun f b x => by rw [gI_sI, if_neg (by omega)], fun _ _ => rfl, fun _ _ => rfl, fun _ => rfl, fun _ _ => rfl⟩
theorem hF_sA {S : PSt} {a i : Nat} {v : Int32} : hF S (sA S a i v) a := ⟨fun _ _ _ => rfl, fun _ _ => rfl, fun _ _ => rfl, fun _ => rfl, fun b x => by rw [gA_sA, if_neg x]⟩
theorem hF_x {S T : PSt} {a : Nat} {tx : List Nat} (ha : a ≠ 166) (h : hF S T a) (k : MRx S tx) : MRx T tx := ⟨(h.1 715 158 (by omega)).trans k.1, by rw [h.2.2.2.2 166 (by omega)]; exact k.2⟩
theorem TM_720 {S : PSt} {v : Int32} {k : Tk} (h : TM S k) : TM (sI S 720 158 v) k := by
  obtain ⟨h1, h2, h3, h4⟩ := h
  exact ⟨by rw [gI_sI, if_neg (by omega)]; exact h1, by rw [gI_sI, if_neg (by omega)]; exact h2, by rw [gI_sI, if_neg (by omega)]; exact h3, by rw [gI_sI, if_neg (by omega)]; exact h4⟩
theorem m_bad {N a x lo hi : Nat} {S : PSt} (h : gI S 720 158 = nI 1) : P_X7_reads N S a (nI x) (nI lo) (nI hi) = some (sI S 720 158 (nI 1)) := by
  unfold P_X7_reads P_X7_reads_L32 P_X7_reads_L33 P_X7_reads_L46
  rw [h, li0, if_neg n1_0, if_pos rfl, li1, z1_1, gd_true, bnd_eq, if_pos rfl]
theorem m_bads {N a : Nat} : ∀ (bs : List (Nat × Nat)) (x : Nat) (S : PSt) (k : Tk), gI S 720 158 = nI 1 → TM S k → ∃ T, rdsM N a bs x S = some T ∧ hF S T a ∧ gA T a = gA S a ∧ gI T 720 158 = nI 1 ∧ TM T k
  | [], _, S, k, h, hk => ⟨S, rfl, hF_refl S a, rfl, h, hk⟩
  | b :: bs, x, S, k, h, hk => by
    obtain ⟨T, e, f, g1, g2, g3⟩ := m_bads bs (x + 1) (sI S 720 158 (nI 1)) k (by rw [gI_sI, if_pos ⟨rfl, rfl⟩]) (TM_720 hk)
    refine ⟨T, ?_, hF_trans hF_720 f, g1, g2, g3⟩
    rw [rdsM, m_bad h, cal1_s]
    exact e
theorem m_rds {N a : Nat} {tx : List Nat} (hN : 300 ≤ N) (hx : XOK tx) (ha : a ≠ 166) : ∀ (bs : List (Nat × Nat)) (x pos : Nat) (S : PSt), (∀ j, j < bs.length → (bs.getD j (0, 0)).1 ≤ 99 ∧ (bs.getD j (0, 0)).2 ≤ 99) → x + bs.length ≤ ln a → ln a ≤ 100 → pos ≤ tx.length → MRx S tx → TM S (tok tx pos) → gI S 720 158 = nI 0 → ∃ T fl, rdsM N a bs x S = some T ∧ hF S T a ∧ gI T 720 158 = nI fl ∧ fl ≤ 1 ∧ TM T (rdN tx bs (tok tx pos)).2.1 ∧ (rdN tx bs (tok tx pos)).1 = (decide (fl = 0) && decide ((rdN tx bs (tok tx pos)).2.1.1 = 3)) ∧ (fl = 0 → ∀ j, j < bs.length → gA T a (x + j) = nI ((rdN tx bs (tok tx pos)).2.2.getD j 0)) ∧ ∀ j, (j < x ∨ x + bs.length ≤ j) → gA T a j = gA S a j := by
  intro bs
  induction bs with
  | nil =>
    intro x pos S hb hxl hla hp ht hk h0
    exact ⟨S, 0, rfl, hF_refl S a, h0, by omega, hk, rfl, fun _ j hj => absurd hj (Nat.not_lt_zero j), fun _ _ => rfl⟩
  | cons b bs ih =>
    intro x pos S hb hxl hla hp ht hk h0
    rw [List.length_cons] at hxl
    obtain ⟨t1, t2, t3, t4, t5⟩ := tok_pl hp
    have t6 := tok_val (pos := pos) hx
    obtain ⟨v3, v4⟩ := hb 0 (Nat.zero_lt_succ _)
    have v3 : b.1 ≤ 99 := v3
    have v4 : b.2 ≤ 99 := v4
    by_cases c : (tok tx pos).1 = 2 ∧ b.1 ≤ (tok tx pos).2.2.1 ∧ (tok tx pos).2.2.1 ≤ b.2
    · have g9 : gI S 719 158 = nI (tok tx pos).2.2.1 := by
        rcases hk.2.2.1 with h | h
        · rw [c.1] at h; exact absurd h (by decide)
        · exact h
      obtain ⟨S5, hS5⟩ : ∃ S5, S5 = sA (sI S 720 158 (nI 0)) a x (nI (tok tx pos).2.2.1) := ⟨_, rfl⟩
      have f5 : hF S S5 a := by rw [hS5]; exact hF_trans hF_720 hF_sA
      have g16 : gI S5 716 158 = nI (tok tx pos).2.2.2 := by rw [hS5, gI_sA, gI_sI, if_neg (by omega)]; exact hk.2.2.2
      have g20 : gI S5 720 158 = nI 0 := by rw [hS5, gI_sA, gI_sI, if_pos ⟨rfl, rfl⟩]
      have a5 : ∀ j, gA S5 a j = if j = x then nI (tok tx pos).2.2.1 else gA S a j := fun j => by
        rw [hS5, gA_sA, if_pos rfl]
        rfl
      obtain ⟨S6, e6, k6, m6⟩ := m_next (N := N) hN hx t3 (hF_x ha f5 ht) g16
      have er : P_X7_reads N S a (nI x) (nI b.1) (nI b.2) = some S6 := by
        have g9' : gI (sI S 720 158 (nI 0)) 719 158 = nI (tok tx pos).2.2.1 := by rw [gI_sI, if_neg (by omega)]; exact g9
        unfold P_X7_reads P_X7_reads_L32 P_X7_reads_L33 P_X7_reads_L46
        rw [h0, li0, if_pos rfl, hk.1, li2, if_pos (by rw [c.1]), g9, m_in1 c.2.1 c.2.2 (by omega), cal2_s, if_neg n1_0, li1, if_neg n1_0, z1_0, gd_true, bnd_eq, if_neg n1_0, bin_nI (by omega), gd_dec (by omega), nI_clamp (by omega), g9', bnd_eq, ← hS5, e6, cal1_s]
      obtain ⟨T, fl, e, f, i1, i2, i3, i4, i5, i6⟩ := ih (x + 1) (tok tx pos).2.2.2 S6 (fun j hj => hb (j + 1) (by show j + 1 < bs.length + 1; omega)) (by omega) hla t3 (nG_x k6 (hF_x ha f5 ht)) m6 ((k6.1 720 158 (by omega)).trans g20)
      rw [rdN, if_pos c]
      refine ⟨T, fl, by rw [rdsM, er, cal1_s]; exact e, hF_trans (hF_trans f5 (hF_n k6)) f, i1, i2, i3, i4, fun h j hj => ?_, fun j hj => ?_⟩
      · cases j with
        | zero =>
          rw [Nat.add_zero, i6 x (by omega), k6.2.2.2.1, a5 x, if_pos rfl]
          rfl
        | succ j =>
          have := i5 h j (by have : j + 1 < bs.length + 1 := hj; omega)
          rw [show x + (j + 1) = x + 1 + j by omega, this]
          rfl
      · rw [List.length_cons] at hj
        rw [i6 j (by omega), k6.2.2.2.1, a5 j, if_neg (by omega)]
    · have er : P_X7_reads N S a (nI x) (nI b.1) (nI b.2) = some (sI S 720 158 (nI 1)) := by
        unfold P_X7_reads P_X7_reads_L32 P_X7_reads_L33 P_X7_reads_L46
        rw [h0, li0, if_pos rfl, hk.1, li2]
        by_cases c1 : (tok tx pos).1 = 2
        · have g9 : gI S 719 158 = nI (tok tx pos).2.2.1 := by
            rcases hk.2.2.1 with h | h
            · rw [c1] at h; exact absurd h (by decide)
            · exact h
          rw [if_pos (by rw [c1]), g9, m_in0 (by
            by_cases c2 : b.1 ≤ (tok tx pos).2.2.1
            · right; exact nI_lt (by omega) (by omega)
            · left; exact nI_lt (by omega) (by omega)), cal2_s, if_pos rfl, if_pos rfl, li1, z1_1, gd_true, bnd_eq, if_pos rfl]
        · rw [if_neg (by rw [nI_eq (by omega) (by omega)]; exact c1), if_pos rfl, li1, z1_1, gd_true, bnd_eq, if_pos rfl]
      obtain ⟨T, e, f, g1, g2, g3⟩ := m_bads (N := N) (a := a) bs (x + 1) (sI S 720 158 (nI 1)) (tok tx pos) (by rw [gI_sI, if_pos ⟨rfl, rfl⟩]) (TM_720 hk)
      rw [rdN, if_neg c]
      exact ⟨T, 1, by rw [rdsM, er, cal1_s]; exact e, hF_trans hF_720 f, g2, by omega, g3, rfl, fun h => absurd h (by decide), fun j _ => by rw [g1]; rfl⟩
/-- the reference's draft -/
def MRd (S : PSt) (w : Dl) : Prop := gI S 721 158 = nI (tW w.1) ∧ gI S 723 158 = nI (tn w.1) ∧ gA S 169 0 = (if w.2.1 = true then nI (tc w.1) else -1) ∧ gA S 169 1 = (if w.2.2 = true then nI (th w.1) else -1) ∧
  (∀ i, i < tW w.1 → gA S 167 (2 * i) = nI (tR w.1 i)) ∧ (∀ i, i < tW w.1 → gA S 167 (2 * i + 1) = nI (tS w.1 i)) ∧
  (∀ i, i < tn w.1 → gA S 168 (4 * i) = nI (tL w.1 i)) ∧ (∀ i, i < tn w.1 → gA S 168 (4 * i + 1) = nI (tB w.1 i)) ∧ (∀ i, i < tn w.1 → gA S 168 (4 * i + 2) = nI (tM w.1 i)) ∧ (∀ i, i < tn w.1 → gA S 168 (4 * i + 3) = nI (tH w.1 i))
def qF (S T : PSt) : Prop := (∀ f b, (b ≠ 158 ∨ (f < 716 ∨ 723 < f)) → gI T f b = gI S f b) ∧ (∀ f b, gJ T f b = gJ S f b) ∧ (∀ f b, gR T f b = gR S f b) ∧ (∀ b, gQ T b = gQ S b) ∧ ∀ b, (b < 167 ∨ 169 < b) → gA T b = gA S b
theorem qF_refl (S : PSt) : qF S S := ⟨fun _ _ _ => rfl, fun _ _ => rfl, fun _ _ => rfl, fun _ => rfl, fun _ _ => rfl⟩
theorem qF_trans {S T U : PSt} (h : qF S T) (k : qF T U) : qF S U := ⟨fun f b x => (k.1 f b x).trans (h.1 f b x), fun f b => (k.2.1 f b).trans (h.2.1 f b), fun f b => (k.2.2.1 f b).trans (h.2.2.1 f b), fun b => (k.2.2.2.1 b).trans (h.2.2.2.1 b), fun b x => (k.2.2.2.2 b x).trans (h.2.2.2.2 b x)⟩
theorem qF_h {S T : PSt} {a : Nat} (ha : 167 ≤ a ∧ a ≤ 169) (h : hF S T a) : qF S T := ⟨fun f b x => h.1 f b (by omega), h.2.1, h.2.2.1, h.2.2.2.1, fun b x => h.2.2.2.2 b (by omega)⟩
theorem qF_n {S T : PSt} (h : nG S T) : qF S T := ⟨fun f b x => h.1 f b (by omega), h.2.1, h.2.2.1, h.2.2.2.2, fun b _ => h.2.2.2.1 b⟩
theorem qF_sI {S : PSt} {f : Nat} {v : Int32} (h : 716 ≤ f ∧ f ≤ 723) : qF S (sI S f 158 v) := ⟨fun g b x => by rw [gI_sI, if_neg (by omega)], fun _ _ => rfl, fun _ _ => rfl, fun _ => rfl, fun _ _ => rfl⟩
theorem qF_sA {S : PSt} {a i : Nat} {v : Int32} (h : 167 ≤ a ∧ a ≤ 169) : qF S (sA S a i v) := ⟨fun _ _ _ => rfl, fun _ _ => rfl, fun _ _ => rfl, fun _ => rfl, fun b x => by rw [gA_sA, if_neg (by omega)]⟩
theorem qF_x {S T : PSt} {tx : List Nat} (h : qF S T) (k : MRx S tx) : MRx T tx := ⟨(h.1 715 158 (by omega)).trans k.1, by rw [h.2.2.2.2 166 (by omega)]; exact k.2⟩
theorem MRd_n {S T : PSt} {w : Dl} (h : MRd S w) (k : nG S T) : MRd T w := by
  unfold MRd
  rw [k.1 721 158 (by omega), k.1 723 158 (by omega), k.2.2.2.1, k.2.2.2.1, k.2.2.2.1]
  exact h
theorem l167 : ln 167 = 8 := rfl
theorem l168 : ln 168 = 24 := rfl
theorem l169 : ln 169 = 2 := rfl
/-- behind the numbers: the stop -/
theorem m_stop {N fl : Nat} {S : PSt} {k : Tk} {tx : List Nat} (hN : 300 ≤ N) (hx : XOK tx) (hfl : fl ≤ 1) (h0 : gI S 720 158 = nI fl) (hk : TM S k) (hk1 : k.1 ≤ 4) (hkb : k.2.2.2 ≤ tx.length) (ht : MRx S tx) : ∃ T, P_X7_readItem_L156 N S = some T ∧ (if fl = 0 ∧ k.1 = 3 then nG (sI S 720 158 (nI 0)) T ∧ TM T (tok tx k.2.2.2) else T = sI S 720 158 (nI 1)) := by
  have bad : P_X7_readItem_L172 N S = some (sI S 720 158 (nI 1)) := by
    unfold P_X7_readItem_L172 P_X7_readItem_L177
    have g : gI (sI S 720 158 (nI 1)) 720 158 = nI 1 := by rw [gI_sI, if_pos ⟨rfl, rfl⟩]
    rw [li1, z1_1, gd_true, bnd_eq, g, li0, if_neg n1_0]
  unfold P_X7_readItem_L156
  rw [h0, li0, hk.1, li3]
  by_cases c1 : fl = 0
  · rw [if_pos (by rw [c1])]
    by_cases c2 : k.1 = 3
    · rw [if_pos (by rw [c2])]
      have x0 : MRx (sI S 720 158 (nI 0)) tx := ⟨by rw [gI_sI, if_neg (by omega)]; exact ht.1, ht.2⟩
      have g16 : gI (sI S 720 158 (nI 0)) 716 158 = nI k.2.2.2 := by rw [gI_sI, if_neg (by omega)]; exact hk.2.2.2
      obtain ⟨T, e, k1, k2⟩ := m_next (N := N) hN hx hkb x0 g16
      refine ⟨T, ?_, by rw [if_pos ⟨c1, c2⟩]; exact ⟨k1, k2⟩⟩
      unfold P_X7_readItem_L177
      have g : gI (sI S 720 158 (nI 0)) 720 158 = nI 0 := by rw [gI_sI, if_pos ⟨rfl, rfl⟩]
      rw [z1_0, gd_true, bnd_eq, g, li0, if_pos rfl, e, cal1_s]
    · rw [if_neg (by rw [nI_eq (by omega) (by omega)]; exact c2)]
      exact ⟨_, bad, by rw [if_neg (fun h => c2 h.2)]⟩
  · rw [if_neg (by rw [nI_eq (by omega) (by omega)]; exact c1)]
    exact ⟨_, bad, by rw [if_neg (fun h => c1 h.1)]⟩
end
