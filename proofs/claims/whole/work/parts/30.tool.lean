/-! STAGE 2, tools: numbers as nI of a Nat, the pool's gets and puts -/
theorem li0 : (0 : Int32) = nI 0 := by decide
theorem li1 : (1 : Int32) = nI 1 := by decide
theorem li2 : (2 : Int32) = nI 2 := by decide
theorem li3 : (3 : Int32) = nI 3 := by decide
theorem li4 : (4 : Int32) = nI 4 := by decide
theorem li5 : (5 : Int32) = nI 5 := by decide
theorem li6 : (6 : Int32) = nI 6 := by decide
theorem li7 : (7 : Int32) = nI 7 := by decide
theorem li8 : (8 : Int32) = nI 8 := by decide
theorem li9 : (9 : Int32) = nI 9 := by decide
theorem li10 : (10 : Int32) = nI 10 := by decide
theorem li12 : (12 : Int32) = nI 12 := by decide
theorem li13 : (13 : Int32) = nI 13 := by decide
theorem li15 : (15 : Int32) = nI 15 := by decide
theorem li18 : (18 : Int32) = nI 18 := by decide
theorem li20 : (20 : Int32) = nI 20 := by decide
theorem li23 : (23 : Int32) = nI 23 := by decide
theorem li24 : (24 : Int32) = nI 24 := by decide
theorem li31 : (31 : Int32) = nI 31 := by decide
theorem li32 : (32 : Int32) = nI 32 := by decide
theorem li40 : (40 : Int32) = nI 40 := by decide
theorem li48 : (48 : Int32) = nI 48 := by decide
theorem li49 : (49 : Int32) = nI 49 := by decide
theorem li57 : (57 : Int32) = nI 57 := by decide
theorem li59 : (59 : Int32) = nI 59 := by decide
theorem li64 : (64 : Int32) = nI 64 := by decide
theorem li70 : (70 : Int32) = nI 70 := by decide
theorem li78 : (78 : Int32) = nI 78 := by decide
theorem li97 : (97 : Int32) = nI 97 := by decide
theorem li99 : (99 : Int32) = nI 99 := by decide
theorem li100 : (100 : Int32) = nI 100 := by decide
theorem li104 : (104 : Int32) = nI 104 := by decide
theorem li116 : (116 : Int32) = nI 116 := by decide
theorem li119 : (119 : Int32) = nI 119 := by decide
theorem li122 : (122 : Int32) = nI 122 := by decide
theorem li200 : (200 : Int32) = nI 200 := by decide
theorem li255 : (255 : Int32) = nI 255 := by decide
theorem li9999 : (9999 : Int32) = nI 9999 := by decide
theorem gd_true {α : Type} {k : Option α} : gd true k = k := rfl
theorem gd_false {α : Type} {k : Option α} : gd false k = none := rfl
theorem bnd_eq {α β : Type} {x : α} {k : α → Option β} : bnd x k = k x := rfl
theorem cal1_s {β : Type} {q : PSt} {k : PSt → Option β} : cal1 (some q) k = k q := rfl
theorem cal2_s {α β : Type} {r : α} {q : PSt} {k : α → PSt → Option β} : cal2 (some (r, q)) k = k r q := rfl
section GETS
variable {S : PSt} {f g a b i : Nat}
theorem gI_sI {v : Int32} : gI (sI S f a v) g b = if g = f ∧ b = a then v else gI S g b := rfl
theorem gI_sJ {v : Int64} : gI (sJ S f a v) g b = gI S g b := rfl
theorem gI_sR {v : Nat} : gI (sR S f a v) g b = gI S g b := rfl
theorem gI_sA {v : Int32} : gI (sA S a i v) g b = gI S g b := rfl
theorem gI_sQ {v : Nat} : gI (sQ S a i v) g b = gI S g b := rfl
theorem gJ_sI {v : Int32} : gJ (sI S f a v) g b = gJ S g b := rfl
theorem gJ_sJ {v : Int64} : gJ (sJ S f a v) g b = if g = f ∧ b = a then v else gJ S g b := rfl
theorem gJ_sR {v : Nat} : gJ (sR S f a v) g b = gJ S g b := rfl
theorem gJ_sA {v : Int32} : gJ (sA S a i v) g b = gJ S g b := rfl
theorem gJ_sQ {v : Nat} : gJ (sQ S a i v) g b = gJ S g b := rfl
theorem gR_sI {v : Int32} : gR (sI S f a v) g b = gR S g b := rfl
theorem gR_sJ {v : Int64} : gR (sJ S f a v) g b = gR S g b := rfl
theorem gR_sR {v : Nat} : gR (sR S f a v) g b = if g = f ∧ b = a then v else gR S g b := rfl
theorem gR_sA {v : Int32} : gR (sA S a i v) g b = gR S g b := rfl
theorem gR_sQ {v : Nat} : gR (sQ S a i v) g b = gR S g b := rfl
theorem gA_sI {v : Int32} : gA (sI S f a v) b = gA S b := rfl
theorem gA_sJ {v : Int64} : gA (sJ S f a v) b = gA S b := rfl
theorem gA_sR {v : Nat} : gA (sR S f a v) b = gA S b := rfl
theorem gA_sA {v : Int32} : gA (sA S a i v) b = if b = a then upd (gA S b) i v else gA S b := rfl
theorem gA_sQ {v : Nat} : gA (sQ S a i v) b = gA S b := rfl
theorem gQ_sI {v : Int32} : gQ (sI S f a v) b = gQ S b := rfl
theorem gQ_sJ {v : Int64} : gQ (sJ S f a v) b = gQ S b := rfl
theorem gQ_sR {v : Nat} : gQ (sR S f a v) b = gQ S b := rfl
theorem gQ_sA {v : Int32} : gQ (sA S a i v) b = gQ S b := rfl
theorem gQ_sQ {v : Nat} : gQ (sQ S a i v) b = if b = a then va_up (gQ S b) i v else gQ S b := rfl
end GETS
theorem bin_nI {i n : Nat} (h : i < 2 ^ 31) : bin (nI i) n = decide (i < n) := by
  have h1 : ¬ nI i < 0 := nI_pos h
  simp only [bin, h1, decide_false, Bool.not_false, Bool.true_and, nI_clamp h]
theorem nI_m9 {n : Nat} (h : n < 2 ^ 31) : (nI n = (-9 : Int32)) ↔ False := by
  refine iff_false_intro (fun q => ?_)
  have h1 := congrArg Int32.toInt q
  rw [nI_toInt h] at h1
  have h2 : (-9 : Int32).toInt = -9 := by decide
  rw [h2] at h1
  omega
theorem rem10 (a : Nat) : a - a / 10 * 10 = a % 10 := by omega
theorem nI_if {c : Prop} [Decidable c] (a b : Nat) : (if c then nI a else nI b) = nI (if c then a else b) := by split <;> rfl
theorem nI_neg {a : Nat} (h0 : 0 < a) (h : a < 2 ^ 31) : (-nI a).toInt = -(a : Int) := by
  have h1 := nI_toInt h
  rw [Int32.toInt_neg, h1]
  have : (-(a : Int)).bmod (2 ^ 32) = -(a : Int) := by
    apply Int.bmod_eq_of_le <;> omega
  simpa using this
/-- what the tunnel is: walkers, stretches, change, hours; reach, strength; length, breadth, slimy, shaft -/
abbrev Tau : Type := (Nat × Nat × Nat × Nat) × ((Nat → Nat) × (Nat → Nat)) × ((Nat → Nat) × (Nat → Nat) × (Nat → Nat) × (Nat → Nat))
def tW (t : Tau) : Nat := t.1.1
def tn (t : Tau) : Nat := t.1.2.1
def tc (t : Tau) : Nat := t.1.2.2.1
def th (t : Tau) : Nat := t.1.2.2.2
def tR (t : Tau) : Nat → Nat := t.2.1.1
def tS (t : Tau) : Nat → Nat := t.2.1.2
def tL (t : Tau) : Nat → Nat := t.2.2.1
def tB (t : Tau) : Nat → Nat := t.2.2.2.1
def tM (t : Tau) : Nat → Nat := t.2.2.2.2.1
def tH (t : Tau) : Nat → Nat := t.2.2.2.2.2
def TOK (t : Tau) : Prop := tW t ≤ 4 ∧ tn t ≤ 6 ∧ tc t ≤ 9 ∧ (th t = 0 ∨ 10 ≤ th t) ∧ th t ≤ 99 ∧ (∀ i, i < tW t → 1 ≤ tR t i ∧ tR t i ≤ 9 ∧ 1 ≤ tS t i ∧ tS t i ≤ 40) ∧ (∀ i, i < tn t → 1 ≤ tL t i ∧ tL t i ≤ 9 ∧ 2 ≤ tB t i ∧ tB t i ≤ 18 ∧ tM t i ≤ 1 ∧ tH t i ≤ 1)
/-- a pair that is there -/
def vpr (t : Tau) (p : Nat) : Prop := p / 10 < p % 10 ∧ p % 10 < tW t
/-- minutes of a furlong, nobody worn -/
def rate (t : Tau) (i p : Nat) : Nat := 4 + tM t i + (if tR t (p / 10) + tR t (p % 10) < tB t i then 2 else 0) + (if tB t i + 4 < tR t (p / 10) + tR t (p % 10) then 1 else 0)
def wornN (t : Tau) (T : Nat → Nat) (w : Nat) : Nat := if T w ≤ tS t w then 0 else 1
def mins (t : Tau) (T : Nat → Nat) (i p : Nat) : Nat := tL t i * (rate t i p + 3 * (wornN t T (p / 10) + wornN t T (p % 10)))
def tireF (p f : Nat) (T : Nat → Nat) (w : Nat) : Nat := if w = p / 10 ∨ w = p % 10 then min (T w + f) 99 else T w - f
def easeF (f : Nat) (T : Nat → Nat) (w : Nat) : Nat := T w - f
/-- the reference's tunnel -/
def MRt (S : PSt) (t : Tau) : Prop := gI S 700 158 = nI (tW t) ∧ gI S 702 158 = nI (tn t) ∧ gI S 704 158 = nI (tc t) ∧ gI S 705 158 = nI (th t) ∧
  (∀ i, i < tW t → gA S 159 (2 * i) = nI (tR t i)) ∧ (∀ i, i < tW t → gA S 159 (2 * i + 1) = nI (tS t i)) ∧
  (∀ i, i < tn t → gA S 160 (4 * i) = nI (tL t i)) ∧ (∀ i, i < tn t → gA S 160 (4 * i + 1) = nI (tB t i)) ∧ (∀ i, i < tn t → gA S 160 (4 * i + 2) = nI (tM t i)) ∧ (∀ i, i < tn t → gA S 160 (4 * i + 3) = nI (tH t i))
/-- the class's tunnel at role r (what is told; the searches' rows apart) -/
def CRt (S : PSt) (r : Nat) (t : Tau) : Prop := gI S 400 r = nI (tW t) ∧ gI S 401 r = nI (tn t) ∧ gI S 402 r = nI (tc t) ∧ gI S 403 r = nI (th t) ∧
  (∀ i, i < tW t → gA S (r + 1) i = nI (tR t i)) ∧ (∀ i, i < tW t → gA S (r + 2) i = nI (tS t i)) ∧
  (∀ i, i < tn t → gA S (r + 3) i = nI (tL t i)) ∧ (∀ i, i < tn t → gA S (r + 4) i = nI (tB t i)) ∧ (∀ i, i < tn t → gA S (r + 5) i = nI (tM t i)) ∧ (∀ i, i < tn t → gA S (r + 6) i = nI (tH t i))
