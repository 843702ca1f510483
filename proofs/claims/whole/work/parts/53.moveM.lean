/-! STAGE 2, the reference's moves -/
def itr (st : PSt → Nat → PSt) : Nat → PSt → PSt
  | 0, S => S
  | n + 1, S => st (itr st n S) n
/-- a loop that counts from 0 to n, an invariant with it -/
theorem loop_itr {β : Type} (F : Nat → PSt → Int32 → Option β) (st : PSt → Nat → PSt) (I : Nat → PSt → Prop) (S : PSt) (h0 : I 0 S) : ∀ (n : Nat), (∀ k S, k < n → I k S → I (k + 1) (st S k)) → (∀ k S fuel, k < n → I k S → F (fuel + 1) S (nI k) = F fuel (st S k) (nI (k + 1))) → (∀ fuel, F (fuel + n) S (nI 0) = F fuel (itr st n S) (nI n)) ∧ I n (itr st n S)
  | 0, _, _ => ⟨fun _ => rfl, h0⟩
  | n + 1, hI, hs => by
    obtain ⟨h1, h2⟩ := loop_itr F st I S h0 n (fun k S hk => hI k S (by omega)) (fun k S fuel hk => hs k S fuel (by omega))
    refine ⟨fun fuel => ?_, hI n _ (by omega) h2⟩
    rw [show fuel + (n + 1) = (fuel + 1) + n by omega, h1 (fuel + 1), hs n _ fuel (by omega) h2]
    rfl
/-- one row changes alone, in some of its places -/
def row1 (S S' : PSt) (a : Nat) (f : Nat → Int32) : Prop := (∀ g b, gI S' g b = gI S g b) ∧ (∀ g b, gJ S' g b = gJ S g b) ∧ (∀ g b, gR S' g b = gR S g b) ∧ (∀ b, gQ S' b = gQ S b) ∧ (∀ b, b ≠ a → gA S' b = gA S b) ∧ ∀ j, gA S' a j = f j
theorem row1_sA {S S' : PSt} {a i : Nat} {v : Int32} {f : Nat → Int32} (h : row1 S S' a f) : row1 S (sA S' a i v) a (fun j => if j = i then v else f j) := by
  obtain ⟨h1, h2, h3, h4, h5, h6⟩ := h
  refine ⟨h1, h2, h3, h4, fun b hb => ?_, fun j => ?_⟩
  · rw [gA_sA, if_neg hb]; exact h5 b hb
  · show gA (sA S' a i v) a j = if j = i then v else f j
    rw [gA_sA, if_pos rfl]
    unfold upd
    split
    · rfl
    · exact h6 j
theorem row1.refl (S : PSt) (a : Nat) : row1 S S a (gA S a) := ⟨fun _ _ => rfl, fun _ _ => rfl, fun _ _ => rfl, fun _ => rfl, fun _ _ => rfl, fun _ => rfl⟩
theorem row1.cong {S S' : PSt} {a : Nat} {f g : Nat → Int32} (h : row1 S S' a f) (e : ∀ j, f j = g j) : row1 S S' a g := ⟨h.1, h.2.1, h.2.2.1, h.2.2.2.1, h.2.2.2.2.1, fun j => (h.2.2.2.2.2 j).trans (e j)⟩
theorem row1.eqC {S S' : PSt} {a : Nat} {f : Nat → Int32} (h : row1 S S' a f) (ha : 158 ≤ a) : eqC S S' := ⟨fun g b _ => h.1 g b, fun g b _ => h.2.1 g b, h.2.2.1, fun b hb => h.2.2.2.2.1 b (by omega), h.2.2.2.1⟩
/-- the shift of the reference's past -/
theorem m_shift {N : Nat} {S : PSt} : ∃ S', (∀ fuel, P_X7_remembers_L11 N (fuel + 63) S (nI 0) = P_X7_remembers_L11 N fuel S' (nI 63)) ∧ row1 S S' 162 (fun j => if j < 63 then gA S 162 (j + 7) else gA S 162 j) := by
  have h := loop_itr (P_X7_remembers_L11 N) (fun S k => sA S 162 k (gA S 162 (k + 7))) (fun k S' => row1 S S' 162 (fun j => if j < k then gA S 162 (j + 7) else gA S 162 j)) S ((row1.refl S 162).cong (fun j => (if_neg (by omega)).symm)) 63 (fun k S1 hk h1 => ?_) (fun k S1 fuel hk h1 => ?_)
  · exact ⟨_, h.1, h.2⟩
  · refine (row1_sA h1).cong (fun j => ?_)
    have g : gA S1 162 (k + 7) = if k + 7 < k then gA S 162 (k + 7 + 7) else gA S 162 (k + 7) := h1.2.2.2.2.2 (k + 7)
    rw [if_neg (by omega)] at g
    show (if j = k then gA S1 162 (k + 7) else if j < k then gA S 162 (j + 7) else gA S 162 j) = if j < k + 1 then gA S 162 (j + 7) else gA S 162 j
    rw [g]
    by_cases c : j = k
    · subst c
      rw [if_pos rfl, if_pos (by omega)]
    · rw [if_neg c]
      by_cases c2 : j < k
      · rw [if_pos c2, if_pos (by omega)]
      · rw [if_neg c2, if_neg (by omega)]
  · rw [P_X7_remembers_L11]
    dsimp only
    have e63 : (63 : Int32) = nI 63 := by decide
    rw [e63, if_neg (nI_ge hk (by omega)), li7, nI_add, bin_nI (by omega), nI_clamp (by omega), l162, decide_eq_true (by omega), gd_true, bin_nI (by omega), nI_clamp (by omega), decide_eq_true (by omega), gd_true, bnd_eq, li1, nI_add, bnd_eq]
/-- now comes to the past's place k -/
theorem m_store {N k : Nat} {S : PSt} (hk : k ≤ 9) (hN : 8 ≤ N) (hg : gI S 708 158 = nI k) : ∃ S', P_X7_remembers_L50 N N S (nI 0) = some (sI S' 708 158 (nI (k + 1))) ∧ row1 S S' 162 (fun j => if 7 * k ≤ j ∧ j < 7 * k + 7 then gA S 161 (j - 7 * k) else gA S 162 j) := by
  have h := loop_itr (P_X7_remembers_L50 N) (fun S1 i => sA S1 162 (7 * k + i) (gA S 161 i)) (fun i S' => row1 S S' 162 (fun j => if 7 * k ≤ j ∧ j < 7 * k + i then gA S 161 (j - 7 * k) else gA S 162 j)) S ((row1.refl S 162).cong (fun j => (if_neg (by omega)).symm)) 7 (fun i S1 hi h1 => ?_) (fun i S1 fuel hi h1 => ?_)
  · refine ⟨_, ?_, h.2⟩
    have e := h.1 (N - 7)
    rw [show N - 7 + 7 = N by omega] at e
    obtain ⟨f, hf⟩ : ∃ f, N - 7 = f + 1 := ⟨N - 8, by omega⟩
    rw [e, hf, P_X7_remembers_L50]
    dsimp only
    rw [li7, if_pos (nI_le (by omega) (by omega)), h.2.1, hg, li1, nI_add, bnd_eq]
  · refine (row1_sA h1).cong (fun j => ?_)
    show (if j = 7 * k + i then gA S 161 i else if 7 * k ≤ j ∧ j < 7 * k + i then gA S 161 (j - 7 * k) else gA S 162 j) = if 7 * k ≤ j ∧ j < 7 * k + (i + 1) then gA S 161 (j - 7 * k) else gA S 162 j
    by_cases c : j = 7 * k + i
    · rw [if_pos c, if_pos (by omega), c, show 7 * k + i - 7 * k = i by omega]
    · rw [if_neg c]
      by_cases c2 : 7 * k ≤ j ∧ j < 7 * k + i
      · rw [if_pos c2, if_pos (by omega)]
      · rw [if_neg c2, if_neg (by omega)]
  · rw [P_X7_remembers_L50]
    dsimp only
    rw [li7, if_neg (nI_ge hi (by omega)), h1.1, hg, pk_mul, nI_add, bin_nI (by omega), nI_clamp (by omega), l161, decide_eq_true (by omega), gd_true, bin_nI (by omega), nI_clamp (by omega), l162, decide_eq_true (by omega), gd_true, bnd_eq, li1, nI_add, bnd_eq, h1.2.2.2.2.1 161 (by omega)]
/-- what may be undone behind a move from m -/
def rem (ps : List Mom) (m : Mom) : List Mom := (if ps.length = 10 then ps.drop 1 else ps) ++ [m]
theorem rem_len {ps : List Mom} {m : Mom} (h : ps.length ≤ 10) : (rem ps m).length ≤ 10 := by
  unfold rem
  split <;> simp <;> omega
def setP (q : Sig) (m : Mom) (ps : List Mom) : Sig := (q.1, m, ps, q.2.2.2.1, q.2.2.2.2.1, q.2.2.2.2.2.1, q.2.2.2.2.2.2)
/-- the reference's blocks that a move leaves: all but now and the past -/
def MRrest (S : PSt) (q : Sig) : Prop := MRt S (qt q) ∧ (∀ j, j < 2 → gA S 164 j = flag (qi q j)) ∧ (∀ j r, j < 2 → qi q j = some r → momAt S 163 (78 * j) r.1 ∧ gA S 163 (78 * j + 7) = nI r.2.length ∧ ∀ i, i < r.2.length → momAt S 163 (78 * j + 8 + 7 * i) (r.2.getD i m0)) ∧
  gI S 711 158 = nI (qs q).length ∧ (∀ i, i < (qs q).length → gA S 165 (2 * i) = nI ((qs q).getD i (0, 0)).1) ∧ (∀ i, i < (qs q).length → gA S 165 (2 * i + 1) = nI ((qs q).getD i (0, 0)).2) ∧
  gI S 715 158 = nI (qx q).length ∧ (∀ i, i < (qx q).length → gA S 166 i = nI ((qx q).getD i 0)) ∧ gJ S 713 158 = qj q
def MRpast (S : PSt) (ps : List Mom) : Prop := gI S 708 158 = nI ps.length ∧ ∀ i, i < ps.length → momAt S 162 (7 * i) (ps.getD i m0)
theorem MR.split {S : PSt} {q : Sig} (h : MR S q) : MRrest S q ∧ MRn S (qm q) ∧ MRpast S (qp q) := by
  obtain ⟨h1, h2, h3, h4, h5, h6, h7, h8, h9, h10, h11, h12⟩ := h
  exact ⟨⟨h1, h5, h6, h7, h8, h9, h10, h11, h12⟩, h2, h3, h4⟩
theorem MR.join {S : PSt} {q : Sig} {m : Mom} {ps : List Mom} (h : MRrest S q) (hm : MRn S m) (hp : MRpast S ps) : MR S (setP q m ps) := by
  obtain ⟨h1, h5, h6, h7, h8, h9, h10, h11, h12⟩ := h
  exact ⟨h1, hm, hp.1, hp.2, h5, h6, h7, h8, h9, h10, h11, h12⟩
theorem MRrest.keep {S S' : PSt} {q : Sig} (h : MRrest S q) (kI : ∀ f, f ≠ 708 → gI S' f 158 = gI S f 158) (kJ : ∀ f, gJ S' f 158 = gJ S f 158) (kA : ∀ a, a ≠ 161 → a ≠ 162 → a ≠ 170 → a ≠ 171 → a ≠ 172 → gA S' a = gA S a) : MRrest S' q := by
  obtain ⟨h1, h5, h6, h7, h8, h9, h10, h11, h12⟩ := h
  obtain ⟨a1, a2, a3, a4, a5, a6, a7, a8, a9, a10⟩ := h1
  have k9 := kA 159 (by omega) (by omega) (by omega) (by omega) (by omega)
  have k0 := kA 160 (by omega) (by omega) (by omega) (by omega) (by omega)
  refine ⟨⟨(kI _ (by omega)).trans a1, (kI _ (by omega)).trans a2, (kI _ (by omega)).trans a3, (kI _ (by omega)).trans a4, ?_, ?_, ?_, ?_, ?_, ?_⟩, ?_, fun j r hj hr => ?_, (kI _ (by omega)).trans h7, ?_, ?_, (kI _ (by omega)).trans h10, ?_, (kJ _).trans h12⟩
  · rw [k9]; exact a5
  · rw [k9]; exact a6
  · rw [k0]; exact a7
  · rw [k0]; exact a8
  · rw [k0]; exact a9
  · rw [k0]; exact a10
  · rw [kA 164 (by omega) (by omega) (by omega) (by omega) (by omega)]; exact h5
  · obtain ⟨b1, b2, b3⟩ := h6 j r hj hr
    have k3 := kA 163 (by omega) (by omega) (by omega) (by omega) (by omega)
    exact ⟨b1.eqM k3, by rw [k3]; exact b2, fun i hi => (b3 i hi).eqM k3⟩
  · rw [kA 165 (by omega) (by omega) (by omega) (by omega) (by omega)]; exact h8
  · rw [kA 165 (by omega) (by omega) (by omega) (by omega) (by omega)]; exact h9
  · rw [kA 166 (by omega) (by omega) (by omega) (by omega) (by omega)]; exact h11
/-- what a move of the reference leaves alone -/
def mvM (S S' : PSt) : Prop := (∀ f, f ≠ 708 → gI S' f 158 = gI S f 158) ∧ (∀ f, gJ S' f 158 = gJ S f 158) ∧ (∀ a, a ≠ 161 → a ≠ 162 → a ≠ 170 → a ≠ 171 → a ≠ 172 → gA S' a = gA S a) ∧ eqC S S'
theorem mvM.trans {S S' S'' : PSt} (h : mvM S S') (k : mvM S' S'') : mvM S S'' := ⟨fun f hf => (k.1 f hf).trans (h.1 f hf), fun f => (k.2.1 f).trans (h.2.1 f), fun a x1 x2 x3 x4 x5 => (k.2.2.1 a x1 x2 x3 x4 x5).trans (h.2.2.1 a x1 x2 x3 x4 x5), h.2.2.2.trans k.2.2.2⟩
theorem mvM_scr {S S' : PSt} (h : scr S S') : mvM S S' := ⟨fun f _ => h.1 f 158, fun f => h.2.1 f 158, fun a _ _ x3 x4 x5 => h.2.2.2.2 a x3 x4 x5, eqC_scr h⟩
theorem mvM_row {S S' : PSt} {a : Nat} {f : Nat → Int32} (h : row1 S S' a f) (ha : a = 161 ∨ a = 162) : mvM S S' := ⟨fun g _ => h.1 g 158, fun g => h.2.1 g 158, fun b x1 x2 _ _ _ => h.2.2.2.2.1 b (by omega), h.eqC (by omega)⟩
theorem mvM_sI {S : PSt} {v : Int32} : mvM S (sI S 708 158 v) := ⟨fun f hf => by rw [gI_sI, if_neg (by omega)], fun _ => rfl, fun _ _ _ _ _ _ => rfl, eqC_sI (by omega)⟩
theorem momAt_row {S S' : PSt} {b c : Nat} {m : Mom} {f : Nat → Int32} (h : momAt S 162 b m) (hr : row1 S S' 162 f) (hf : ∀ j, j < 7 → f (c + j) = gA S 162 (b + j)) : momAt S' 162 c m := by
  obtain ⟨h1, h2, h3, h4⟩ := h
  have g := hr.2.2.2.2.2
  refine ⟨?_, ?_, ?_, fun w hw => ?_⟩
  · have := hf 0 (by omega); rw [g]; exact this.trans h1
  · rw [g, hf 1 (by omega)]; exact h2
  · rw [g, hf 2 (by omega)]; exact h3
  · rw [g, Nat.add_assoc, hf (3 + w) (by omega), ← Nat.add_assoc]; exact h4 w hw
theorem m_remembers {N : Nat} {S : PSt} {m : Mom} {ps : List Mom} (hN : 100 ≤ N) (hl : ps.length ≤ 10) (hn : MRn S m) (hp : MRpast S ps) : ∃ S', P_X7_remembers N S = some S' ∧ MRpast S' (rem ps m) ∧ gA S' 161 = gA S 161 ∧ gA S' 170 = gA S 170 ∧ gA S' 171 = gA S 171 ∧ gA S' 172 = gA S 172 ∧ mvM S S' := by
  have put : ∀ (S : PSt) (ps : List Mom), ps.length ≤ 9 → MRn S m → MRpast S ps → ∃ S', P_X7_remembers_L50 N N S (nI 0) = some S' ∧ MRpast S' (ps ++ [m]) ∧ gA S' 161 = gA S 161 ∧ gA S' 170 = gA S 170 ∧ gA S' 171 = gA S 171 ∧ gA S' 172 = gA S 172 ∧ mvM S S' := by
    intro S ps hl hn hp
    obtain ⟨S', e, hr⟩ := m_store (N := N) hl (by omega) hp.1
    refine ⟨_, e, ⟨?_, fun i hi => ?_⟩, hr.2.2.2.2.1 161 (by omega), hr.2.2.2.2.1 170 (by omega), hr.2.2.2.2.1 171 (by omega), hr.2.2.2.2.1 172 (by omega), (mvM_row hr (Or.inr rfl)).trans mvM_sI⟩
    · rw [gI_sI, if_pos ⟨rfl, rfl⟩]; simp
    · have hi' : i < ps.length + 1 := by simpa using hi
      rw [getD_appP hi']
      have g : ∀ j, gA S' 162 j = if 7 * ps.length ≤ j ∧ j < 7 * ps.length + 7 then gA S 161 (j - 7 * ps.length) else gA S 162 j := hr.2.2.2.2.2
      by_cases c : i = ps.length
      · rw [if_pos c, c]
        obtain ⟨n1, n2, n3, n4⟩ := hn
        refine ⟨?_, ?_, ?_, fun w hw => ?_⟩
        · rw [gA_sI, g, if_pos (by omega), Nat.sub_self]; exact n1
        · rw [gA_sI, g, if_pos (by omega), show 7 * ps.length + 1 - 7 * ps.length = 1 by omega]; exact n2
        · rw [gA_sI, g, if_pos (by omega), show 7 * ps.length + 2 - 7 * ps.length = 2 by omega]; exact n3
        · rw [gA_sI, g, if_pos (by omega), show 7 * ps.length + 3 + w - 7 * ps.length = 3 + w by omega]; exact n4 w hw
      · rw [if_neg c]
        have := momAt_row (c := 7 * i) (hp.2 i (by omega)) hr (fun j hj => if_neg (by omega))
        exact this
  unfold P_X7_remembers rem
  rw [hp.1, li10, li0]
  by_cases c : ps.length = 10
  · rw [if_pos (by rw [c]), if_pos c]
    obtain ⟨S1, e, hr⟩ := m_shift (N := N) (S := S)
    have e1 := e (N - 63)
    rw [show N - 63 + 63 = N by omega] at e1
    obtain ⟨f, hf⟩ : ∃ f, N - 63 = f + 1 := ⟨N - 64, by omega⟩
    have e63 : (63 : Int32) = nI 63 := by decide
    rw [e1, hf, P_X7_remembers_L11]
    dsimp only
    rw [e63, if_pos (nI_le (by omega) (by omega)), hr.1, hp.1, c, li1, pk_sub (by omega), bnd_eq, li0]
    have hn1 : MRn (sI S1 708 158 (nI 9)) m := by
      unfold MRn
      rw [gA_sI, hr.2.2.2.2.1 161 (by omega)]
      exact hn
    have hp1 : MRpast (sI S1 708 158 (nI 9)) (ps.drop 1) := by
      refine ⟨?_, fun i hi => ?_⟩
      · rw [gI_sI, if_pos ⟨rfl, rfl⟩]; simp [c]
      · have hi' : i < 9 := by simpa [c] using hi
        have e : (ps.drop 1).getD i m0 = ps.getD (i + 1) m0 := by
          rw [List.getD_eq_getElem?_getD, List.getD_eq_getElem?_getD, List.getElem?_drop, Nat.add_comm]
        rw [e]
        have h9 := momAt_row (S' := S1) (c := 7 * i) (hp.2 (i + 1) (by omega)) hr (fun j hj => by
          show (if 7 * i + j < 63 then gA S 162 (7 * i + j + 7) else gA S 162 (7 * i + j)) = _
          rw [if_pos (by omega), show 7 * i + j + 7 = 7 * (i + 1) + j by omega])
        exact h9
    obtain ⟨S2, f1, f2, f3, f4, f5, f6, f7⟩ := put (sI S1 708 158 (nI 9)) (ps.drop 1) (by simp [c]) hn1 hp1
    have z := hr.2.2.2.2.1
    exact ⟨S2, f1, f2, f3.trans (z 161 (by omega)), f4.trans (z 170 (by omega)), f5.trans (z 171 (by omega)), f6.trans (z 172 (by omega)), ((mvM_row hr (Or.inr rfl)).trans mvM_sI).trans f7⟩
  · rw [if_neg (by rw [nI_eq (by omega) (by omega)]; exact c), if_neg c]
    exact put S ps (by omega) hn hp
