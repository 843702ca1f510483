/-! STAGE 2, the specification: the state, and what the searches ask -/
/-- the pairs that there are, the lesser ones first -/
def prs (t : Tau) : List Nat := [1, 2, 3, 12, 13, 23].filter (fun p => decide (p % 10 < tW t))
/-- is one of the pair worn? -/
def wornP (t : Tau) (T : Nat → Nat) (p : Nat) : Bool := decide (wornN t T (p / 10) + wornN t T (p % 10) ≠ 0)
/-- all rows of pairs for k stretches from i on, in order, with what comes of them; fz: nobody who walks is worn -/
def leaves (t : Tau) (fz : Bool) : Nat → Nat → Wk → List (List Nat × Nat)
  | _, 0, q => [([], q.1)]
  | i, k + 1, q => (prs t).flatMap (fun p => if fz && wornP t q.2.2 p then [] else (leaves t fz (i + 1) k (wk t i p q)).map (fun r => (p :: r.1, r.2)))
def pick (a : Option (List Nat × Nat)) (x : List Nat × Nat) : Option (List Nat × Nat) := match a with
  | none => some x
  | some y => if x.2 < y.2 then some x else some y
def bestOf (t : Tau) (fz : Bool) (m : Mom) : Option (List Nat × Nat) := if m.1 < tn t then (leaves t fz m.1 (tn t - m.1) (0, m.2.2.1, m.2.2.2)).foldl pick none else none
def bestMin (t : Tau) (fz : Bool) (m : Mom) : Int32 := match bestOf t fz m with
  | none => -9
  | some r => nI r.2
def bestRow (t : Tau) (fz : Bool) (m : Mom) (i : Nat) : Int32 := match bestOf t fz m with
  | none => -9
  | some r => if m.1 ≤ i ∧ i < tn t then nI (r.1.getD (i - m.1) 0) else -9
/-- was one at the end of stretch i in minute mi, as far as it was seen? -/
def okSeen (sn : List (Nat × Nat)) (i mi : Nat) : Bool := sn.all (fun q => decide (q.1 ≠ i) || decide (q.2 = mi))
def fleaves (t : Tau) (sn : List (Nat × Nat)) : Nat → Nat → Wk → List (List Nat)
  | _, 0, _ => [[]]
  | i, k + 1, q => (prs t).flatMap (fun p => if okSeen sn i (wk t i p q).1 then (fleaves t sn (i + 1) k (wk t i p q)).map (fun r => p :: r) else [])
def fitsOf (t : Tau) (sn : List (Nat × Nat)) : List (List Nat) := fleaves t sn 0 (tn t) (0, none, fun _ => 0)
def bitsP (p : Nat) : Nat := 2 ^ (p / 10) ||| 2 ^ (p % 10)
def sureOf (t : Tau) (sn : List (Nat × Nat)) (i : Nat) : Nat := ((fitsOf t sn).map (fun r => bitsP (r.getD i 0))).foldl (fun a b => a &&& b) 15
/-- the state: tunnel, now, what may be undone (the oldest first), images, seen, text, trace -/
abbrev Sig : Type := Tau × Mom × List Mom × (Nat → Option (Mom × List Mom)) × List (Nat × Nat) × List Nat × Int64
def qt (q : Sig) : Tau := q.1
def qm (q : Sig) : Mom := q.2.1
def qp (q : Sig) : List Mom := q.2.2.1
def qi (q : Sig) : Nat → Option (Mom × List Mom) := q.2.2.2.1
def qs (q : Sig) : List (Nat × Nat) := q.2.2.2.2.1
def qx (q : Sig) : List Nat := q.2.2.2.2.2.1
def qj (q : Sig) : Int64 := q.2.2.2.2.2.2
def m0 : Mom := (0, 0, none, fun _ => 0)
def SOK (q : Sig) : Prop := TOK (qt q) ∧ MOK (qt q) (qm q) ∧ (qp q).length ≤ 10 ∧ (∀ i, i < (qp q).length → MOK (qt q) ((qp q).getD i m0)) ∧
  (∀ j r, qi q j = some r → MOK (qt q) r.1 ∧ r.2.length ≤ 10 ∧ ∀ i, i < r.2.length → MOK (qt q) (r.2.getD i m0)) ∧
  (qs q).length ≤ 6 ∧ (∀ i, i < (qs q).length → ((qs q).getD i (0, 0)).1 < tn (qt q) ∧ ((qs q).getD i (0, 0)).2 ≤ 9999) ∧
  (qx q).length ≤ 200 ∧ (∀ i, i < (qx q).length → (qx q).getD i 0 ≤ 255)
/-- a moment in seven cells of a row -/
def momAt (S : PSt) (a b : Nat) (m : Mom) : Prop := gA S a b = nI m.1 ∧ gA S a (b + 1) = nI m.2.1 ∧ gA S a (b + 2) = pI m.2.2.1 ∧ ∀ w, w < 4 → gA S a (b + 3 + w) = nI (m.2.2.2 w)
def flag (o : Option (Mom × List Mom)) : Int32 := match o with
  | none => 0
  | some _ => 1
/-- THE REFERENCE is in this state -/
def MR (S : PSt) (q : Sig) : Prop := MRt S (qt q) ∧ MRn S (qm q) ∧ gI S 708 158 = nI (qp q).length ∧ (∀ i, i < (qp q).length → momAt S 162 (7 * i) ((qp q).getD i m0)) ∧
  (∀ j, j < 2 → gA S 164 j = flag (qi q j)) ∧ (∀ j r, j < 2 → qi q j = some r → momAt S 163 (78 * j) r.1 ∧ gA S 163 (78 * j + 7) = nI r.2.length ∧ ∀ i, i < r.2.length → momAt S 163 (78 * j + 8 + 7 * i) (r.2.getD i m0)) ∧
  gI S 711 158 = nI (qs q).length ∧ (∀ i, i < (qs q).length → gA S 165 (2 * i) = nI ((qs q).getD i (0, 0)).1) ∧ (∀ i, i < (qs q).length → gA S 165 (2 * i + 1) = nI ((qs q).getD i (0, 0)).2) ∧
  gI S 715 158 = nI (qx q).length ∧ (∀ i, i < (qx q).length → gA S 166 i = nI ((qx q).getD i 0)) ∧ gJ S 713 158 = qj q
/-- the rows that the class's searches use -/
def CRp (S : PSt) (r : Nat) (t : Tau) : Prop := gI S 404 r = nI (prs t).length ∧ (∀ i, i < (prs t).length → gA S (r + 7) i = nI ((prs t).getD i 0)) ∧
  ∃ lo hi : Nat → Nat, lo 0 = 0 ∧ hi 0 = 0 ∧ (∀ i, i ≤ tn t → gA S (r + 8) i = nI (lo i) ∧ gA S (r + 9) i = nI (hi i)) ∧
    ∀ i, i < tn t → lo i ≤ lo (i + 1) ∧ lo (i + 1) ≤ lo i + 81 ∧ hi (i + 1) ≤ hi i + 150 ∧ (prs t ≠ [] → ∀ p, p ∈ prs t → ∀ T : Nat → Nat, lo (i + 1) ≤ lo i + mins t T i p ∧ hi i + mins t T i p + tc t ≤ hi (i + 1))
/-- the class's moment at role a -/
def CRm (S : PSt) (a : Nat) (m : Mom) : Prop := gI S 0 a = nI m.1 ∧ gI S 1 a = nI m.2.1 ∧ gI S 2 a = pI m.2.2.1 ∧ ∀ w, w < 4 → gA S (a + 1) w = nI (m.2.2.2 w)
/-- a voyage of the class at role v: now, and the past by its row of moments -/
def CRv (S : PSt) (v : Nat) (m : Mom) (ps : List Mom) : Prop := CRm S (v + 1) m ∧ gI S 501 v = nI ps.length ∧ ∀ i, i < ps.length → CRm S (gQ S (v + 3) i) (ps.getD i m0)
/-- the rows of moments are apart, and the voyage's own -/
def CRq (S : PSt) (v : Nat) : Prop := (∀ i, i < 10 → ∃ e, e < 10 ∧ gQ S (v + 3) i = v + 4 + 2 * e) ∧ ∀ i j, i < 10 → j < 10 → gQ S (v + 3) i = gQ S (v + 3) j → i = j
def CRplan (S : PSt) (a : Nat) (fz : Bool) (t : Tau) (m : Mom) : Prop := gI S 103 a = (if fz then 1 else 0) ∧ (∀ i, i < 7 → gQ S (a + 3) i = a + 4 + 2 * i) ∧ (gI S 100 a = 0 ∨ (gI S 100 a = 1 ∧ gI S 101 a = bestMin t fz m ∧ ∀ i, i < 6 → gA S (a + 1) i = bestRow t fz m i))
def CRseen (S : PSt) (t : Tau) (sn : List (Nat × Nat)) : Prop := gI S 300 98 = nI sn.length ∧ (∀ i, i < sn.length → gA S 101 i = nI (sn.getD i (0, 0)).1) ∧ (∀ i, i < sn.length → gA S 102 i = nI (sn.getD i (0, 0)).2) ∧ (∀ i, i < 7 → gQ S 105 i = 106 + 2 * i) ∧
  (gI S 301 98 = 0 ∨ (gI S 301 98 = 1 ∧ gI S 302 98 = nI (fitsOf t sn).length ∧ (fitsOf t sn ≠ [] → ∀ i, i < tn t → gA S 99 i = nI (((fitsOf t sn).getD 0 []).getD i 0) ∧ gA S 100 i = nI (sureOf t sn i))))
/-- which tunnel stands, and what it tells -/
def CRtun (S : PSt) (t : Tau) : Prop := ∃ r d, (r = 4 ∧ d = 14 ∨ r = 14 ∧ d = 4) ∧ gR S 601 0 = r ∧ gR S 602 0 = d ∧ CRt S r t ∧ CRp S r t ∧ gA S (d + 8) 0 = 0 ∧ gA S (d + 9) 0 = 0
def CRvoy (S : PSt) (m : Mom) (ps : List Mom) : Prop := CRv S 24 m ps ∧ CRq S 24
def CRimg (S : PSt) (im : Nat → Option (Mom × List Mom)) : Prop := (∀ j, j < 2 → gQ S 48 j = 49 + 24 * j ∧ CRq S (49 + 24 * j) ∧ gA S 97 j = flag (im j)) ∧ (∀ j r, j < 2 → im j = some r → CRv S (49 + 24 * j) r.1 r.2)
def CRtxt (S : PSt) (tx : List Nat) : Prop := gI S 200 1 = nI tx.length ∧ ∀ i, i < tx.length → gA S 2 i = nI (tx.getD i 0)
/-- THE CLASS is in this state -/
def CR (S : PSt) (q : Sig) : Prop := CRtun S (qt q) ∧ CRvoy S (qm q) (qp q) ∧ CRimg S (qi q) ∧ CRplan S 120 false (qt q) (qm q) ∧ CRplan S 138 true (qt q) (qm q) ∧ CRseen S (qt q) (qs q) ∧ CRtxt S (qx q) ∧ gJ S 610 0 = qj q
/-- the reference's cells are as they were -/
def eqM (S S' : PSt) : Prop := (∀ f, gI S' f 158 = gI S f 158) ∧ (∀ f, gJ S' f 158 = gJ S f 158) ∧ ∀ a, 158 < a → gA S' a = gA S a
/-- the class's cells are as they were -/
def eqC (S S' : PSt) : Prop := (∀ f a, a < 158 → gI S' f a = gI S f a) ∧ (∀ f a, a < 158 → gJ S' f a = gJ S f a) ∧ (∀ f a, gR S' f a = gR S f a) ∧ (∀ a, a < 158 → gA S' a = gA S a) ∧ ∀ a, gQ S' a = gQ S a
theorem eqC.refl (S : PSt) : eqC S S := ⟨fun _ _ _ => rfl, fun _ _ _ => rfl, fun _ _ => rfl, fun _ _ => rfl, fun _ => rfl⟩
theorem eqM.refl (S : PSt) : eqM S S := ⟨fun _ => rfl, fun _ => rfl, fun _ _ => rfl⟩
theorem eqC.trans {S S' S'' : PSt} (h : eqC S S') (k : eqC S' S'') : eqC S S'' := ⟨fun f a ha => (k.1 f a ha).trans (h.1 f a ha), fun f a ha => (k.2.1 f a ha).trans (h.2.1 f a ha), fun f a => (k.2.2.1 f a).trans (h.2.2.1 f a), fun a ha => (k.2.2.2.1 a ha).trans (h.2.2.2.1 a ha), fun a => (k.2.2.2.2 a).trans (h.2.2.2.2 a)⟩
theorem eqM.trans {S S' S'' : PSt} (h : eqM S S') (k : eqM S' S'') : eqM S S'' := ⟨fun f => (k.1 f).trans (h.1 f), fun f => (k.2.1 f).trans (h.2.1 f), fun a ha => (k.2.2 a ha).trans (h.2.2 a ha)⟩
theorem eqC_sI {S : PSt} {f a : Nat} {v : Int32} (h : 158 ≤ a) : eqC S (sI S f a v) := ⟨fun g b hb => by rw [gI_sI, if_neg (by omega)], fun _ _ _ => rfl, fun _ _ => rfl, fun _ _ => rfl, fun _ => rfl⟩
theorem eqC_sJ {S : PSt} {f a : Nat} {v : Int64} (h : 158 ≤ a) : eqC S (sJ S f a v) := ⟨fun _ _ _ => rfl, fun g b hb => by rw [gJ_sJ, if_neg (by omega)], fun _ _ => rfl, fun _ _ => rfl, fun _ => rfl⟩
theorem eqC_sA {S : PSt} {a i : Nat} {v : Int32} (h : 158 ≤ a) : eqC S (sA S a i v) := ⟨fun _ _ _ => rfl, fun _ _ _ => rfl, fun _ _ => rfl, fun b hb => by rw [gA_sA, if_neg (by omega)], fun _ => rfl⟩
theorem eqC_scr {S S' : PSt} (h : scr S S') : eqC S S' := ⟨fun f a _ => h.1 f a, fun f a _ => h.2.1 f a, h.2.2.1, fun a ha => h.2.2.2.2 a (by omega) (by omega) (by omega), h.2.2.2.1⟩
theorem eqM_sI {S : PSt} {f a : Nat} {v : Int32} (h : a ≠ 158) : eqM S (sI S f a v) := ⟨fun g => by rw [gI_sI, if_neg (by omega)], fun _ => rfl, fun _ _ => rfl⟩
theorem eqM_sJ {S : PSt} {f a : Nat} {v : Int64} (h : a ≠ 158) : eqM S (sJ S f a v) := ⟨fun _ => rfl, fun g => by rw [gJ_sJ, if_neg (by omega)], fun _ _ => rfl⟩
theorem eqM_sR {S : PSt} {f a v : Nat} : eqM S (sR S f a v) := ⟨fun _ => rfl, fun _ => rfl, fun _ _ => rfl⟩
theorem eqM_sQ {S : PSt} {a i v : Nat} : eqM S (sQ S a i v) := ⟨fun _ => rfl, fun _ => rfl, fun _ _ => rfl⟩
theorem eqM_sA {S : PSt} {a i : Nat} {v : Int32} (h : a ≤ 158) : eqM S (sA S a i v) := ⟨fun _ => rfl, fun _ => rfl, fun b hb => by rw [gA_sA, if_neg (by omega)]⟩
/-- a number lies between two others, or not -/
theorem inR (x : Int32) (lo hi : Nat) (h : lo ≤ hi) (hh : hi < 2 ^ 31) : (∃ k, lo ≤ k ∧ k ≤ hi ∧ x = nI k) ∨ (x < nI lo) ∨ (¬ x < nI lo ∧ nI hi < x) := by
  by_cases h1 : x < nI lo
  · exact Or.inr (Or.inl h1)
  · by_cases h2 : nI hi < x
    · exact Or.inr (Or.inr ⟨h1, h2⟩)
    · left
      rw [Int32.lt_iff_toInt_lt, nI_toInt (by omega)] at h1 h2
      refine ⟨x.toInt.toNat, by omega, by omega, ?_⟩
      apply Int32.toInt_inj.mp
      rw [nI_toInt (by omega)]
      omega
