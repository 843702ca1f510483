section
/-! STAGE 2, the text: items, and how the component reads them -/
abbrev Dl : Type := Tau × Bool × Bool
def bnds (l : Nat) : List (Nat × Nat) := if l = 119 then [(1, 9), (1, 40)] else if l = 116 then [(1, 9), (2, 18), (0, 1), (0, 1)] else if l = 99 then [(0, 9)] else [(10, 99)]
def may (w : Dl) (l : Nat) : Bool := if l = 119 then decide (tW w.1 < 4) else if l = 116 then decide (tn w.1 < 6) else if l = 99 then !w.2.1 else if l = 104 then !w.2.2 else false
def rdN (tx : List Nat) : List (Nat × Nat) → Tk → Bool × Tk × List Nat
  | [], k => (decide (k.1 = 3), k, [])
  | b :: bs, k => if k.1 = 2 ∧ b.1 ≤ k.2.2.1 ∧ k.2.2.1 ≤ b.2 then ((rdN tx bs (tok tx k.2.2.2)).1, (rdN tx bs (tok tx k.2.2.2)).2.1, k.2.2.1 :: (rdN tx bs (tok tx k.2.2.2)).2.2) else (false, k, [])
def upN (f : Nat → Nat) (i v : Nat) : Nat → Nat := fun j => if j = i then v else f j
def tell (w : Dl) (l : Nat) (vs : List Nat) : Dl := if l = 119 then (((tW w.1 + 1, tn w.1, tc w.1, th w.1), (upN (tR w.1) (tW w.1) (vs.getD 0 0), upN (tS w.1) (tW w.1) (vs.getD 1 0)), (tL w.1, tB w.1, tM w.1, tH w.1)), w.2.1, w.2.2) else if l = 116 then (((tW w.1, tn w.1 + 1, tc w.1, th w.1), (tR w.1, tS w.1), (upN (tL w.1) (tn w.1) (vs.getD 0 0), upN (tB w.1) (tn w.1) (vs.getD 1 0), upN (tM w.1) (tn w.1) (vs.getD 2 0), upN (tH w.1) (tn w.1) (vs.getD 3 0))), w.2.1, w.2.2) else if l = 99 then (((tW w.1, tn w.1, vs.getD 0 0, th w.1), (tR w.1, tS w.1), (tL w.1, tB w.1, tM w.1, tH w.1)), true, w.2.2) else (((tW w.1, tn w.1, tc w.1, vs.getD 0 0), (tR w.1, tS w.1), (tL w.1, tB w.1, tM w.1, tH w.1)), w.2.1, true)
def ltr (k : Tk) : Nat := if k.1 = 1 then k.2.2.1 else 0
def item (tx : List Nat) (w : Dl) (k : Tk) : (Dl × Nat) ⊕ Nat := if may w (ltr k) = true then (if (rdN tx (bnds (ltr k)) (tok tx k.2.2.2)).1 = true then .inl (tell w (ltr k) (rdN tx (bnds (ltr k)) (tok tx k.2.2.2)).2.2, (rdN tx (bnds (ltr k)) (tok tx k.2.2.2)).2.1.2.2.2) else .inr (rdN tx (bnds (ltr k)) (tok tx k.2.2.2)).2.1.2.1) else .inr k.2.1
def parse (tx : List Nat) : Nat → Dl → Tk → Nat → (Dl × Nat) ⊕ Nat
  | 0, _, _, _ => .inr 0
  | z + 1, w, k, n => if k.1 = 0 then .inl (w, n) else match item tx w k with
    | .inl r => parse tx z r.1 (tok tx r.2) (n + 1)
    | .inr p => .inr p
/-- what stands so far is as it may be -/
def DOK (w : Dl) : Prop := TOK w.1 ∧ (w.2.1 = false → tc w.1 = 1) ∧ (w.2.2 = false → th w.1 = 0)
theorem rdN_ok (tx : List Nat) : ∀ bs k, (rdN tx bs k).1 = true → (rdN tx bs k).2.2.length = bs.length ∧ ∀ j, j < bs.length → (bs.getD j (0, 0)).1 ≤ (rdN tx bs k).2.2.getD j 0 ∧ (rdN tx bs k).2.2.getD j 0 ≤ (bs.getD j (0, 0)).2
  | [], _, _ => ⟨rfl, fun j hj => absurd hj (Nat.not_lt_zero j)⟩
  | b :: bs, k, h => by
    rw [rdN] at h ⊢
    by_cases c : k.1 = 2 ∧ b.1 ≤ k.2.2.1 ∧ k.2.2.1 ≤ b.2
    · rw [if_pos c] at h ⊢
      obtain ⟨h1, h2⟩ := rdN_ok tx bs _ h
      refine ⟨by show (rdN tx bs (tok tx k.2.2.2)).2.2.length + 1 = bs.length + 1; rw [h1], fun j hj => ?_⟩
      cases j with
      | zero => exact c.2
      | succ j => exact h2 j (by have : j + 1 < bs.length + 1 := hj; omega)
    · rw [if_neg c] at h
      cases h
theorem rdN_pl {tx : List Nat} : ∀ bs pos, pos ≤ tx.length → pos ≤ (rdN tx bs (tok tx pos)).2.1.2.1 ∧ (rdN tx bs (tok tx pos)).2.1.2.1 ≤ (rdN tx bs (tok tx pos)).2.1.2.2.2 ∧ (rdN tx bs (tok tx pos)).2.1.2.2.2 ≤ tx.length
  | [], pos, h => by
    obtain ⟨h1, h2, h3, -, -⟩ := tok_pl h
    exact ⟨h1, h2, h3⟩
  | b :: bs, pos, h => by
    obtain ⟨h1, h2, h3, -, -⟩ := tok_pl h
    rw [rdN]
    split
    · obtain ⟨h4, h5, h6⟩ := rdN_pl bs (tok tx pos).2.2.2 h3
      exact ⟨by show pos ≤ (rdN tx bs (tok tx (tok tx pos).2.2.2)).2.1.2.1; omega, h5, h6⟩
    · exact ⟨h1, h2, h3⟩
theorem tell_ok {w : Dl} {l : Nat} {tx : List Nat} {k : Tk} (hw : DOK w) (hm : may w l = true) (hr : (rdN tx (bnds l) k).1 = true) : DOK (tell w l (rdN tx (bnds l) k).2.2) := by
  obtain ⟨h1, h2⟩ := rdN_ok tx (bnds l) k hr
  generalize (rdN tx (bnds l) k).2.2 = vs at h1 h2
  obtain ⟨⟨o1, o2, o3, o4, o5, o6, o7⟩, oc, oh⟩ := hw
  unfold may at hm
  unfold bnds at h1 h2
  unfold tell
  by_cases c1 : l = 119
  · rw [if_pos c1] at hm h1 h2 ⊢
    have hm := of_decide_eq_true hm
    have v0 := h2 0 (by decide)
    have v1 := h2 1 (by decide)
    refine ⟨⟨by show tW w.1 + 1 ≤ 4; omega, o2, o3, o4, o5, fun i hi => ?_, o7⟩, oc, oh⟩
    have hi : i < tW w.1 + 1 := hi
    show 1 ≤ upN _ _ _ i ∧ upN _ _ _ i ≤ 9 ∧ 1 ≤ upN _ _ _ i ∧ upN _ _ _ i ≤ 40
    unfold upN
    by_cases c : i = tW w.1
    · rw [if_pos c, if_pos c]
      exact ⟨v0.1, v0.2, v1.1, v1.2⟩
    · rw [if_neg c, if_neg c]
      exact o6 i (by omega)
  · rw [if_neg c1] at hm h1 h2 ⊢
    by_cases c2 : l = 116
    · rw [if_pos c2] at hm h1 h2 ⊢
      have hm := of_decide_eq_true hm
      have v0 := h2 0 (by decide)
      have v1 := h2 1 (by decide)
      have v2 := h2 2 (by decide)
      have v3 := h2 3 (by decide)
      refine ⟨⟨o1, by show tn w.1 + 1 ≤ 6; omega, o3, o4, o5, o6, fun i hi => ?_⟩, oc, oh⟩
      have hi : i < tn w.1 + 1 := hi
      show 1 ≤ upN _ _ _ i ∧ upN _ _ _ i ≤ 9 ∧ 2 ≤ upN _ _ _ i ∧ upN _ _ _ i ≤ 18 ∧ upN _ _ _ i ≤ 1 ∧ upN _ _ _ i ≤ 1
      unfold upN
      by_cases c : i = tn w.1
      · rw [if_pos c, if_pos c, if_pos c, if_pos c]
        exact ⟨v0.1, v0.2, v1.1, v1.2, v2.2, v3.2⟩
      · rw [if_neg c, if_neg c, if_neg c, if_neg c]
        exact o7 i (by omega)
    · rw [if_neg c2] at hm h1 h2 ⊢
      by_cases c3 : l = 99
      · rw [if_pos c3] at h1 h2 ⊢
        have v0 := h2 0 (by decide)
        exact ⟨⟨o1, o2, v0.2, o4, o5, o6, o7⟩, fun h => (by cases h), oh⟩
      · rw [if_neg c3] at h1 h2 ⊢
        have v0 := h2 0 (by decide)
        exact ⟨⟨o1, o2, o3, Or.inr v0.1, v0.2, o6, o7⟩, oc, fun h => by cases h⟩
/-- what an item changes in the component -/
def rF (S T : PSt) (d : Nat) : Prop := (∀ b, b ≠ 1 → b ≠ 3 → (b < d ∨ d + 6 < b) → ag S T b) ∧ gI T 200 1 = gI S 200 1
theorem rF_refl (S : PSt) (d : Nat) : rF S S d := ⟨fun b _ _ _ => ag.refl S b, rfl⟩
theorem rF_trans {S T U : PSt} {d : Nat} (h : rF S T d) (k : rF T U d) : rF S U d := ⟨fun b h1 h2 h3 => (h.1 b h1 h2 h3).trans (k.1 b h1 h2 h3), k.2.trans h.2⟩
theorem rF_txt {S T : PSt} {d : Nat} {tx : List Nat} (hd : d = 4 ∨ d = 14) (h : rF S T d) (k : CRtxt S tx) : CRtxt T tx := ⟨h.2.trans k.1, by rw [(h.1 2 (by omega) (by omega) (by omega)).2.2.2.1]; exact k.2⟩
theorem rF_n {S T : PSt} {d : Nat} (h : nF S T) : rF S T d := ⟨fun b h1 _ _ => h.1 b h1, h.2 200 (by omega)⟩
theorem l3 : ln 3 = 4 := rfl
theorem c_rdN {N b : Nat} {tx : List Nat} {fb : List (Nat × Nat)} (hN : 300 ≤ N) (hx : XOK tx) (hfb : fb.length ≤ 4) (hL : stL b = 2 * fb.length) (hV : ∀ i, i < fb.length → stV b (2 * i) = nI (fb.getD i (0, 0)).1 ∧ stV b (2 * i + 1) = nI (fb.getD i (0, 0)).2 ∧ (fb.getD i (0, 0)).1 ≤ 99 ∧ (fb.getD i (0, 0)).2 ≤ 99) : ∀ (bs : List (Nat × Nat)) (i pos fuel : Nat) (S : PSt), fb.drop i = bs → i ≤ fb.length → pos ≤ tx.length → bs.length < fuel → CRtxt S tx → gI S 205 1 = nI pos → ∃ T, P_X2_readNumbers_L2 N fuel S b (nI i) = some (bI (rdN tx bs (tok tx pos)).1, T) ∧ (∀ c, c ≠ 1 → c ≠ 3 → ag S T c) ∧ (∀ f, (f < 202 ∨ 205 < f) → gI T f 1 = gI S f 1) ∧ TC T (rdN tx bs (tok tx pos)).2.1 ∧ ((rdN tx bs (tok tx pos)).1 = true → ∀ j, j < bs.length → gA T 3 (i + j) = nI ((rdN tx bs (tok tx pos)).2.2.getD j 0)) ∧ ∀ j, j < i → gA T 3 j = gA S 3 j := by
  intro bs
  induction bs with
  | nil =>
    intro i pos fuel S hd hi hp hf ht hg
    obtain ⟨fuel, rfl⟩ : ∃ z, fuel = z + 1 := ⟨fuel - 1, by omega⟩
    have hle : fb.length ≤ i := List.drop_eq_nil_iff.mp hd
    obtain ⟨T, e, k1, k2⟩ := c_next (N := N) hN hx hp ht hg
    obtain ⟨t1, t2, t3, t4, t5⟩ := tok_pl hp
    have e77 : P_X2_readNumbers_L77 N S = some (bI (decide ((tok tx pos).1 = 3)), T) := by
      unfold P_X2_readNumbers_L77
      rw [e, cal1_s, k2.1, li3, li1, li0]
      by_cases c : (tok tx pos).1 = 3
      · rw [if_pos (by rw [c]), decide_eq_true c]; rfl
      · rw [if_neg (by rw [nI_eq (by omega) (by omega)]; exact c), decide_eq_false c]; rfl
    refine ⟨T, ?_, fun c h1 _ => k1.1 c h1, k1.2, k2, fun _ j hj => absurd hj (Nat.not_lt_zero j), fun j _ => by rw [(k1.1 3 (by omega)).2.2.2.1]⟩
    rw [P_X2_readNumbers_L2]
    dsimp only
    rw [hL, l3]
    show (if nI 4 ≤ nI i then _ else if nI (2 * fb.length) ≤ _ then _ else _) = _
    rw [e77]
    by_cases c : 4 ≤ i
    · rw [if_pos (nI_le c (by omega))]; rfl
    · rw [if_neg (nI_ge (by omega) (by omega)), li2, pk_mul, li1, nI_add, if_pos (nI_le (by omega) (by omega))]; rfl
  | cons bb bs ih =>
    intro i pos fuel S hd hi hp hf ht hg
    obtain ⟨fuel, rfl⟩ : ∃ z, fuel = z + 1 := ⟨fuel - 1, by omega⟩
    rw [List.length_cons] at hf
    have hil : i < fb.length := by
      rcases Nat.lt_or_ge i fb.length with h | h
      · exact h
      · rw [List.drop_eq_nil_of_le h] at hd; cases hd
    have hn : fb[i]? = some bb := by
      have := congrArg List.head? hd
      rw [List.head?_drop] at this
      exact this
    have hd2 : fb.drop (i + 1) = bs := by
      have := congrArg List.tail hd
      rw [List.tail_drop] at this
      exact this
    have hgD : fb.getD i (0, 0) = bb := by rw [List.getD_eq_getElem?_getD, hn]; rfl
    obtain ⟨v1, v2, v3, v4⟩ := hV i hil
    rw [hgD] at v1 v2 v3 v4
    obtain ⟨T, e, k1, k2⟩ := c_next (N := N) hN hx hp ht hg
    obtain ⟨t1, t2, t3, t4, t5⟩ := tok_pl hp
    have t6 := tok_val (pos := pos) hx
    have pre : P_X2_readNumbers_L2 N (fuel + 1) S b (nI i) = if (tok tx pos).1 = 2 ∧ bb.1 ≤ (tok tx pos).2.2.1 ∧ (tok tx pos).2.2.1 ≤ bb.2 then P_X2_readNumbers_L2 N fuel (sA T 3 i (nI (tok tx pos).2.2.1)) b (nI (i + 1)) else some (nI 0, T) := by
      rw [P_X2_readNumbers_L2]
      dsimp only
      rw [hL, l3]
      show (if nI 4 ≤ nI i then _ else if nI (2 * fb.length) ≤ _ then _ else _) = _
      rw [if_neg (nI_ge (by omega) (by omega)), li2, pk_mul, li1, nI_add, if_neg (nI_ge (by omega) (by omega)), e, cal1_s, k2.1, bin_nI (by omega), gd_dec (by omega), nI_clamp (by omega), v1, bin_nI (by omega), nI_clamp (by omega), v2, k2.2.2.1, li0, bin_nI (by omega), gd_dec (by omega), nI_add, bnd_eq, nI_clamp (by omega), bnd_eq]
      by_cases c1 : (tok tx pos).1 = 2
      · rw [if_pos (by rw [c1])]
        by_cases c2 : bb.1 ≤ (tok tx pos).2.2.1
        · rw [if_neg (nI_nlt c2 (by omega)), gd_dec (by omega)]
          by_cases c3 : (tok tx pos).2.2.1 ≤ bb.2
          · rw [if_pos (nI_le c3 (by omega)), if_pos ⟨c1, c2, c3⟩]
          · rw [if_neg (nI_ge (by omega) (by omega)), if_neg (fun h => c3 h.2.2)]
        · rw [if_pos (nI_lt (by omega) (by omega)), if_neg (fun h => c2 h.2.1)]
      · rw [if_neg (by rw [nI_eq (by omega) (by omega)]; exact c1), if_neg (fun h => c1 h.1)]
    rw [pre, rdN]
    by_cases c : (tok tx pos).1 = 2 ∧ bb.1 ≤ (tok tx pos).2.2.1 ∧ (tok tx pos).2.2.1 ≤ bb.2
    · rw [if_pos c, if_pos c]
      have k3 : ∀ c, c ≠ 3 → ag T (sA T 3 i (nI (tok tx pos).2.2.1)) c := fun c hc => ag_sA hc
      obtain ⟨U, e2, u1, u2, u3, u4, u5⟩ := ih (i + 1) (tok tx pos).2.2.2 fuel (sA T 3 i (nI (tok tx pos).2.2.1)) hd2 (by omega) t3 (by omega) ⟨(nF_txt k1 ht).1, by rw [gA_sA, if_neg (by omega)]; exact (nF_txt k1 ht).2⟩ k2.2.2.2
      refine ⟨U, e2, fun c h1 h2 => ((k1.1 c h1).trans (k3 c h2)).trans (u1 c h1 h2), fun f hf => (u2 f hf).trans (k1.2 f hf), u3, fun h j hj => ?_, fun j hj => ?_⟩
      · cases j with
        | zero =>
          rw [Nat.add_zero, u5 i (by omega), gA_sA, if_pos rfl]
          unfold upd
          rw [if_pos rfl]
          rfl
        | succ j =>
          have := u4 h j (by have : j + 1 < bs.length + 1 := hj; omega)
          rw [show i + (j + 1) = i + 1 + j by omega, this]
          rfl
      · rw [u5 j (by omega), gA_sA, if_pos rfl]
        unfold upd
        rw [if_neg (by omega), (k1.1 3 (by omega)).2.2.2.1]
    · rw [if_neg c, if_neg c]
      exact ⟨T, rfl, fun c h1 _ => k1.1 c h1, k1.2, k2, fun h => (by cases h), fun j _ => by rw [(k1.1 3 (by omega)).2.2.2.1]⟩
/-- the component's draft -/
def CRd (S : PSt) (d : Nat) (w : Dl) : Prop := CRt S d w.1 ∧ gI S 206 1 = bI w.2.1 ∧ gI S 207 1 = bI w.2.2
theorem c_may {N d l : Nat} {S : PSt} {w : Dl} (hw : DOK w) (hD : CRd S d w) (hl : l ≤ 255) : P_X2_mayBegin N S d (nI l) = some (bI (may w l), S) := by
  have o1 := hw.1.1
  have o2 := hw.1.2.1
  unfold P_X2_mayBegin
  rw [li99, li104, li116, li119, hD.1.1, hD.1.2.1, hD.2.1, hD.2.2, li0, li1, li4, li6]
  by_cases c1 : l = 99
  · subst c1
    rw [if_pos rfl]
    show _ = some (bI (!w.2.1), S)
    cases w.2.1 <;> rfl
  · rw [if_neg (by rw [nI_eq (by omega) (by omega)]; exact c1)]
    by_cases c2 : l = 104
    · subst c2
      rw [if_pos rfl]
      show _ = some (bI (!w.2.2), S)
      cases w.2.2 <;> rfl
    · rw [if_neg (by rw [nI_eq (by omega) (by omega)]; exact c2)]
      by_cases c3 : l = 116
      · subst c3
        rw [if_pos rfl]
        show _ = some (bI (decide (tn w.1 < 6)), S)
        by_cases c : 6 ≤ tn w.1
        · rw [if_pos (nI_le c (by omega)), decide_eq_false (by omega)]; rfl
        · rw [if_neg (nI_ge (by omega) (by omega)), decide_eq_true (by omega)]; rfl
      · rw [if_neg (by rw [nI_eq (by omega) (by omega)]; exact c3)]
        by_cases c4 : l = 119
        · subst c4
          rw [if_pos rfl]
          show _ = some (bI (decide (tW w.1 < 4)), S)
          by_cases c : 4 ≤ tW w.1
          · rw [if_pos (nI_le c (by omega)), decide_eq_false (by omega)]; rfl
          · rw [if_neg (nI_ge (by omega) (by omega)), decide_eq_true (by omega)]; rfl
        · rw [if_neg (by rw [nI_eq (by omega) (by omega)]; exact c4)]
          unfold may
          rw [if_neg c4, if_neg c3, if_neg c1, if_neg c2]; rfl
end
