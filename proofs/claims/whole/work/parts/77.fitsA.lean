section
/-! STAGE 2, what was seen: lists -/
def duK (sn : List (Nat × Nat)) : Nat → Nat → Option Nat
  | 0, _ => none
  | k + 1, j => if (sn.getD k (0, 0)).1 = j then some (sn.getD k (0, 0)).2 else duK sn k j
def duOk (o : Option Nat) (mi : Nat) : Bool := match o with
  | none => true
  | some m => decide (m = mi)
def ldK (sn : List (Nat × Nat)) : Nat → Nat
  | 0 => 0
  | k + 1 => max (ldK sn k) ((sn.getD k (0, 0)).1 + 1)
theorem duK_ld (sn : List (Nat × Nat)) : ∀ k j, ldK sn k ≤ j → duK sn k j = none
  | 0, _, _ => rfl
  | k + 1, j, h => by
    have h : max (ldK sn k) ((sn.getD k (0, 0)).1 + 1) ≤ j := h
    rw [duK, if_neg (by omega)]
    exact duK_ld sn k j (by omega)
theorem duK_le {sn : List (Nat × Nat)} (h : ∀ i, i < sn.length → (sn.getD i (0, 0)).2 ≤ 9999) : ∀ k j m, k ≤ sn.length → duK sn k j = some m → m ≤ 9999
  | 0, _, _, _, e => by cases e
  | k + 1, j, m, hk, e => by
    rw [duK] at e
    by_cases c : (sn.getD k (0, 0)).1 = j
    · rw [if_pos c] at e
      cases e
      exact h k (by omega)
    · rw [if_neg c] at e
      exact duK_le h k j m (by omega) e
def noC (sn : List (Nat × Nat)) (k : Nat) : Prop := ∀ b, b < k → duK sn b (sn.getD b (0, 0)).1 = none ∨ duK sn b (sn.getD b (0, 0)).1 = some (sn.getD b (0, 0)).2
theorem okK_du {sn : List (Nat × Nat)} (i mi : Nat) : ∀ k, noC sn k → okK sn i mi k = duOk (duK sn k i) mi
  | 0, _ => rfl
  | k + 1, h => by
    have e := okK_du i mi k (fun b hb => h b (by omega))
    have hk := h k (by omega)
    rw [okK, e, duK]
    by_cases c : (sn.getD k (0, 0)).1 = i
    · rw [if_pos c]
      rw [c] at hk
      have c1 : decide ((sn.getD k (0, 0)).1 ≠ i) = false := decide_eq_false (fun h => h c)
      rw [c1, Bool.false_or]
      rcases hk with hk | hk
      · rw [hk]; rfl
      · rw [hk]; exact Bool.and_self _
    · rw [if_neg c]
      have c1 : decide ((sn.getD k (0, 0)).1 ≠ i) = true := decide_eq_true c
      rw [c1, Bool.true_or, Bool.and_true]
theorem okK_anti {sn : List (Nat × Nat)} {i mi : Nat} : ∀ z k, okK sn i mi k = false → okK sn i mi (k + z) = false
  | 0, _, h => h
  | z + 1, k, h => by
    rw [← Nat.add_assoc, okK, okK_anti z k h, Bool.false_and]
theorem okK_con {sn : List (Nat × Nat)} {k m : Nat} (hk : k < sn.length) (h : noC sn k) (h1 : duK sn k (sn.getD k (0, 0)).1 = some m) (h2 : m ≠ (sn.getD k (0, 0)).2) (mi : Nat) : okSeen sn (sn.getD k (0, 0)).1 mi = false := by
  have e : okK sn (sn.getD k (0, 0)).1 mi (k + 1) = false := by
    rw [okK, okK_du _ _ k h, h1, decide_eq_false (fun h => h rfl), Bool.false_or]
    show (decide (m = mi) && decide ((sn.getD k (0, 0)).2 = mi)) = false
    by_cases c : m = mi
    · rw [decide_eq_false (show ¬ (sn.getD k (0, 0)).2 = mi by omega), Bool.and_false]
    · rw [decide_eq_false c, Bool.false_and]
  have e2 := okK_anti (sn.length - (k + 1)) (k + 1) e
  rw [show k + 1 + (sn.length - (k + 1)) = sn.length by omega, okK_all] at e2
  exact e2
theorem flat_nil {α β : Type} {f : α → List β} : ∀ l : List α, (∀ p, p ∈ l → f p = []) → l.flatMap f = []
  | [], _ => rfl
  | p :: l, h => by rw [List.flatMap_cons, h p List.mem_cons_self, flat_nil l (fun x hx => h x (List.mem_cons_of_mem _ hx))]; rfl
theorem fl_con {t : Tau} {sn : List (Nat × Nat)} {s : Nat} (h : ∀ mi, okSeen sn s mi = false) : ∀ k i q, i ≤ s → s < i + k → fleaves t sn i k q = []
  | 0, _, _, h1, h2 => by omega
  | k + 1, i, q, h1, h2 => by
    rw [fleaves]
    apply flat_nil
    intro p _
    by_cases c : i = s
    · subst c
      rw [if_neg (by rw [h]; decide)]
    · rw [fl_con h k (i + 1) (wk t i p q) (by omega) (by omega)]
      split <;> rfl
theorem fl_rng {t : Tau} {sn : List (Nat × Nat)} {lo hi : Nat → Nat} {j m : Nat} (hst : ∀ i p T, i < tn t → p ∈ prs t → lo (i + 1) ≤ lo i + mins t T i p ∧ hi i + mins t T i p + tc t ≤ hi (i + 1)) (hj : ∀ mi, okSeen sn j mi = decide (m = mi)) : ∀ k i q, i ≤ j → j < i + k → i + k ≤ tn t → ¬ (q.1 + lo (j + 1) ≤ m + lo i ∧ m + hi i ≤ q.1 + hi (j + 1)) → fleaves t sn i k q = []
  | 0, _, _, h1, h2, _, _ => by omega
  | k + 1, i, q, h1, h2, h3, hn => by
    rw [fleaves]
    apply flat_nil
    intro p hp
    have h4 := hst i p q.2.2 (by omega) hp
    have h5 : chg t q.2.1 p ≤ tc t := by unfold chg; split; exact Nat.zero_le _; exact Nat.le_refl _
    have ew : (wk t i p q).1 = q.1 + chg t q.2.1 p + mins t q.2.2 i p := rfl
    by_cases c : i = j
    · subst c
      have : ¬ m = (wk t i p q).1 := by omega
      rw [if_neg (by rw [hj, decide_eq_false this]; decide)]
    · rw [fl_rng hst hj k (i + 1) (wk t i p q) (by omega) (by omega) (by omega) (by omega)]
      split <;> rfl
def mf (du : Nat → Option Nat) (lo hi : Nat → Nat) (i till : Nat) : Nat → Nat → Bool
  | 0, _ => true
  | z + 1, j => match du j with
    | none => mf du lo hi i till z (j + 1)
    | some m => decide (till + lo (j + 1) ≤ m + lo (i + 1)) && decide (m + hi (i + 1) ≤ till + hi (j + 1))
theorem mf_no {du : Nat → Option Nat} {lo hi : Nat → Nat} {i till : Nat} : ∀ z j, mf du lo hi i till z j = false → ∃ e m, j ≤ e ∧ e < j + z ∧ du e = some m ∧ ¬ (till + lo (e + 1) ≤ m + lo (i + 1) ∧ m + hi (i + 1) ≤ till + hi (e + 1))
  | 0, _, h => by cases h
  | z + 1, j, h => by
    rw [mf] at h
    cases c : du j with
    | none =>
      rw [c] at h
      obtain ⟨e, m, h1, h2, h3, h4⟩ := mf_no z (j + 1) h
      exact ⟨e, m, by omega, by omega, h3, h4⟩
    | some m =>
      rw [c] at h
      refine ⟨j, m, Nat.le_refl _, by omega, c, fun h5 => ?_⟩
      have h : (decide (till + lo (j + 1) ≤ m + lo (i + 1)) && decide (m + hi (i + 1) ≤ till + hi (j + 1))) = false := h
      rw [decide_eq_true h5.1, decide_eq_true h5.2] at h
      cases h
theorem mf_yes {du : Nat → Option Nat} {lo hi : Nat → Nat} {i till z : Nat} (h : mf du lo hi i till (z + 1) i = true) : duOk (du i) till = true := by
  rw [mf] at h
  cases c : du i with
  | none => rfl
  | some m =>
    rw [c] at h
    have h : (decide (till + lo (i + 1) ≤ m + lo (i + 1)) && decide (m + hi (i + 1) ≤ till + hi (i + 1))) = true := h
    rw [Bool.and_eq_true, decide_eq_true_eq, decide_eq_true_eq] at h
    exact decide_eq_true (by omega)
/-- all rows of k pairs -/
def allR (ps : List Nat) : Nat → List (List Nat)
  | 0 => [[]]
  | k + 1 => ps.flatMap (fun p => (allR ps k).map (fun r => p :: r))
theorem fl_all {t : Tau} {sn : List (Nat × Nat)} : ∀ k i q, (∀ j, i ≤ j → j < i + k → ∀ mi, okSeen sn j mi = true) → fleaves t sn i k q = allR (prs t) k
  | 0, _, _, _ => rfl
  | k + 1, i, q, h => by
    rw [fleaves, allR]
    congr 1
    funext p
    rw [if_pos (h i (Nat.le_refl _) (by omega) _), fl_all k (i + 1) (wk t i p q) (fun j h1 h2 => h j (by omega) (by omega))]
theorem flat_lenE {α β : Type} {f : α → List β} {B : Nat} (h : ∀ p, (f p).length = B) : ∀ l : List α, (l.flatMap f).length = l.length * B
  | [] => by rw [List.length_nil, Nat.zero_mul]; rfl
  | p :: l => by rw [List.flatMap_cons, List.length_append, List.length_cons, Nat.succ_mul, flat_lenE h l, h p, Nat.add_comm]
theorem allR_len (ps : List Nat) : ∀ k, (allR ps k).length = ps.length ^ k
  | 0 => rfl
  | k + 1 => by
    rw [allR, flat_lenE (B := ps.length ^ k) (fun p => by rw [List.length_map]; exact allR_len ps k), Nat.pow_succ, Nat.mul_comm]
theorem allR_head {p : Nat} {ps : List Nat} : ∀ k, ∃ ls, allR (p :: ps) k = List.replicate k p :: ls
  | 0 => ⟨[], rfl⟩
  | k + 1 => by
    obtain ⟨ls, h⟩ := allR_head (p := p) (ps := ps) k
    rw [allR, List.flatMap_cons, h, List.map_cons]
    exact ⟨_, rfl⟩
theorem allR_has {ps : List Nat} : ∀ k j p, p ∈ ps → j < k → ∃ r, r ∈ allR ps k ∧ r.getD j 0 = p
  | 0, _, _, _, h => by omega
  | k + 1, j, p, hp, h => by
    have hne : ∃ r, r ∈ allR ps k := by
      cases hps : ps with
      | nil => rw [hps] at hp; cases hp
      | cons a l =>
        obtain ⟨ls, e⟩ := allR_head (p := a) (ps := l) k
        exact ⟨_, by rw [e]; exact List.mem_cons_self⟩
    rw [allR]
    cases j with
    | zero =>
      obtain ⟨r, hr⟩ := hne
      exact ⟨p :: r, List.mem_flatMap.mpr ⟨p, hp, List.mem_map.mpr ⟨r, hr, rfl⟩⟩, rfl⟩
    | succ j =>
      obtain ⟨r, hr, e⟩ := allR_has k j p hp (by omega)
      exact ⟨p :: r, List.mem_flatMap.mpr ⟨p, hp, List.mem_map.mpr ⟨r, hr, rfl⟩⟩, e⟩
theorem allR_one {p : Nat} : ∀ k, allR [p] k = [List.replicate k p]
  | 0 => rfl
  | k + 1 => by
    rw [allR, allR_one k]
    rfl
/-- who is on it in each -/
def sureL (L : List (List Nat)) (i : Nat) : Nat := (L.map (fun r => bitsP (r.getD i 0))).foldl (fun a b => a &&& b) 15
theorem and_abs : ∀ (l : List Nat) (s x : Nat), x ∈ l → (l.foldl (fun a b => a &&& b) s) &&& x = l.foldl (fun a b => a &&& b) s
  | [], _, _, h => by cases h
  | y :: l, s, x, h => by
    rw [List.foldl_cons]
    by_cases c : x ∈ l
    · exact and_abs l (s &&& y) x c
    · have e : x = y := by
        rcases List.mem_cons.mp h with h | h
        · exact h
        · exact absurd h c
      subst e
      have key : ∀ (l : List Nat) (s : Nat), s &&& x = s → (l.foldl (fun a b => a &&& b) s) &&& x = l.foldl (fun a b => a &&& b) s := by
        intro l
        induction l with
        | nil => intro s h; exact h
        | cons z l ih =>
          intro s h
          rw [List.foldl_cons]
          refine ih (s &&& z) ?_
          rw [Nat.and_assoc, Nat.and_comm z x, ← Nat.and_assoc, h]
      exact key l (s &&& x) (by rw [Nat.and_assoc, Nat.and_self])
theorem and_const : ∀ (l : List Nat) (s x : Nat), (∀ y, y ∈ l → y = x) → l ≠ [] → l.foldl (fun a b => a &&& b) s = s &&& x
  | [], _, _, _, h => absurd rfl h
  | y :: l, s, x, h, _ => by
    have e : y = x := h y List.mem_cons_self
    subst e
    rw [List.foldl_cons]
    by_cases c : l = []
    · rw [c]; rfl
    · rw [and_const l (s &&& y) y (fun z hz => h z (List.mem_cons_of_mem _ hz)) c, Nat.and_assoc, Nat.and_self]
theorem prs_two {t : Tau} (ok : TOK t) (h : 1 < (prs t).length) : 1 ∈ prs t ∧ 2 ∈ prs t ∧ 12 ∈ prs t := by
  have h3 : 3 ≤ tW t := by
    rcases Nat.lt_or_ge (tW t) 3 with c | c
    · exfalso
      have key : ∀ W, W < 3 → ([1, 2, 3, 12, 13, 23].filter (fun p => decide (p % 10 < W))).length ≤ 1 := by decide
      have := key (tW t) c
      unfold prs at h
      omega
    · exact c
  unfold prs
  refine ⟨List.mem_filter.mpr ⟨by decide, decide_eq_true (by omega)⟩, List.mem_filter.mpr ⟨by decide, decide_eq_true (by omega)⟩, List.mem_filter.mpr ⟨by decide, decide_eq_true (by omega)⟩⟩
theorem sureL_app (L X : List (List Nat)) (i : Nat) : sureL (L ++ X) i = (X.map (fun r => bitsP (r.getD i 0))).foldl (fun a b => a &&& b) (sureL L i) := by
  unfold sureL
  rw [List.map_append, List.foldl_append]
theorem getD_pre {pr r : List Nat} {i : Nat} (h : i < pr.length) : (pr ++ r).getD i 0 = pr.getD i 0 := by
  rw [List.getD_eq_getElem?_getD, List.getD_eq_getElem?_getD, List.getElem?_append_left h]
theorem getD_suf {pr r : List Nat} {i : Nat} (h : pr.length ≤ i) : (pr ++ r).getD i 0 = r.getD (i - pr.length) 0 := by
  rw [List.getD_eq_getElem?_getD, List.getD_eq_getElem?_getD, List.getElem?_append_right h]
theorem getD_rep {k p i : Nat} (h : i < k) : (List.replicate k p).getD i 0 = p := by
  rw [List.getD_eq_getElem?_getD, List.getElem?_replicate, if_pos h]
  rfl
theorem allR_h0 {t : Tau} {k p : Nat} (hp : 0 < k → ∃ ps, prs t = p :: ps) : ∃ ls, allR (prs t) k = List.replicate k p :: ls := by
  cases k with
  | zero => exact ⟨[], rfl⟩
  | succ k =>
    obtain ⟨ps, e⟩ := hp (by omega)
    rw [e]
    exact allR_head (k + 1)
/-- rows that are free from their place on, in one -/
theorem sure_free {t : Tau} (ok : TOK t) {L : List (List Nat)} {pr : List Nat} {k i p : Nat} (hp : 0 < k → ∃ ps, prs t = p :: ps) (hi : i < pr.length + k) : sureL (L ++ (allR (prs t) k).map (fun r => pr ++ r)) i = sureL L i &&& (if pr.length ≤ i ∧ 1 < (prs t).length then 0 else bitsP ((pr ++ List.replicate k p).getD i 0)) := by
  rw [sureL_app, List.map_map]
  obtain ⟨ls, hls⟩ := allR_h0 (t := t) hp
  by_cases c : pr.length ≤ i ∧ 1 < (prs t).length
  · rw [if_pos c, Nat.and_zero]
    obtain ⟨m1, m2, m3⟩ := prs_two ok c.2
    have key : ∀ x, x ∈ prs t → ((allR (prs t) k).map ((fun r => bitsP (r.getD i 0)) ∘ fun r => pr ++ r)).foldl (fun a b => a &&& b) (sureL L i) &&& bitsP x = ((allR (prs t) k).map ((fun r => bitsP (r.getD i 0)) ∘ fun r => pr ++ r)).foldl (fun a b => a &&& b) (sureL L i) := by
      intro x hx
      obtain ⟨r, hr, e⟩ := allR_has k (i - pr.length) x hx (by omega)
      refine and_abs _ _ _ (List.mem_map.mpr ⟨r, hr, ?_⟩)
      show bitsP ((pr ++ r).getD i 0) = bitsP x
      rw [getD_suf c.1, e]
    have k1 := key 1 m1
    have k2 := key 2 m2
    have k3 := key 12 m3
    generalize ((allR (prs t) k).map ((fun r => bitsP (r.getD i 0)) ∘ fun r => pr ++ r)).foldl (fun a b => a &&& b) (sureL L i) = F at k1 k2 k3 ⊢
    rw [← k1, ← k2, ← k3, Nat.and_assoc, Nat.and_assoc]
    have : bitsP 12 &&& (bitsP 2 &&& bitsP 1) = 0 := by decide
    rw [this, Nat.and_zero]
  · rw [if_neg c]
    refine and_const _ _ _ (fun y hy => ?_) ?_
    · obtain ⟨r, hr, rfl⟩ := List.mem_map.mp hy
      show bitsP ((pr ++ r).getD i 0) = bitsP ((pr ++ List.replicate k p).getD i 0)
      by_cases c2 : i < pr.length
      · rw [getD_pre c2, getD_pre c2]
      · obtain ⟨ps, hps⟩ := hp (by omega)
        have hlen : (prs t).length ≤ 1 := by omega
        have hn : ps = [] := by
          rw [hps, List.length_cons] at hlen
          exact List.length_eq_zero_iff.mp (by omega)
        rw [hps, hn, allR_one] at hr
        rw [List.mem_singleton.mp hr]
    · rw [hls]
      intro h
      cases h
end
