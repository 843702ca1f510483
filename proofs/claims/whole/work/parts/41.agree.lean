/-! STAGE 2, what a change elsewhere leaves alone -/
/-- a role's cell is as it was -/
def ag (S S' : PSt) (a : Nat) : Prop := (∀ f, gI S' f a = gI S f a) ∧ (∀ f, gJ S' f a = gJ S f a) ∧ (∀ f, gR S' f a = gR S f a) ∧ gA S' a = gA S a ∧ gQ S' a = gQ S a
theorem ag.refl (S : PSt) (a : Nat) : ag S S a := ⟨fun _ => rfl, fun _ => rfl, fun _ => rfl, rfl, rfl⟩
theorem ag.trans {S S' S'' : PSt} {a : Nat} (h : ag S S' a) (k : ag S' S'' a) : ag S S'' a := ⟨fun f => (k.1 f).trans (h.1 f), fun f => (k.2.1 f).trans (h.2.1 f), fun f => (k.2.2.1 f).trans (h.2.2.1 f), k.2.2.2.1.trans h.2.2.2.1, k.2.2.2.2.trans h.2.2.2.2⟩
theorem ag_sI {S : PSt} {f a b : Nat} {v : Int32} (h : b ≠ a) : ag S (sI S f a v) b := ⟨fun g => by rw [gI_sI, if_neg (by omega)], fun _ => rfl, fun _ => rfl, rfl, rfl⟩
theorem ag_sJ {S : PSt} {f a b : Nat} {v : Int64} (h : b ≠ a) : ag S (sJ S f a v) b := ⟨fun _ => rfl, fun g => by rw [gJ_sJ, if_neg (by omega)], fun _ => rfl, rfl, rfl⟩
theorem ag_sR {S : PSt} {f a b v : Nat} (h : b ≠ a) : ag S (sR S f a v) b := ⟨fun _ => rfl, fun _ => rfl, fun g => by rw [gR_sR, if_neg (by omega)], rfl, rfl⟩
theorem ag_sA {S : PSt} {a b i : Nat} {v : Int32} (h : b ≠ a) : ag S (sA S a i v) b := ⟨fun _ => rfl, fun _ => rfl, fun _ => rfl, by rw [gA_sA, if_neg h], rfl⟩
theorem ag_sQ {S : PSt} {a b i v : Nat} (h : b ≠ a) : ag S (sQ S a i v) b := ⟨fun _ => rfl, fun _ => rfl, fun _ => rfl, rfl, by rw [gQ_sQ, if_neg h]⟩
theorem ag_putT {S : PSt} {a b : Nat} {U : Nat → Nat} (h : b ≠ a) : ag S (putT S a U) b := ((ag_sA h).trans (ag_sA h)).trans ((ag_sA h).trans (ag_sA h))
theorem ag_cpS {S : PSt} {a b : Nat} {m : Mom} (h : b ≠ a) (h2 : b ≠ a + 1) : ag S (cpS S a m) b := (((ag_sI h).trans (ag_sI h)).trans (ag_sI h)).trans (ag_putT h2)
theorem ag_woS {S : PSt} {a b : Nat} {m : Mom} (h : b ≠ a) (h2 : b ≠ a + 1) : ag S (woS S a m) b := ((ag_sI h).trans (ag_putT h2)).trans ((ag_sI h).trans (ag_sI h))
theorem eqC.ag {S S' : PSt} (h : eqC S S') {a : Nat} (ha : a < 158) : ag S S' a := ⟨fun f => h.1 f a ha, fun f => h.2.1 f a ha, fun f => h.2.2.1 f a, h.2.2.2.1 a ha, h.2.2.2.2 a⟩
theorem eqM.ofag {S S' : PSt} (h : ∀ a, 158 ≤ a → ag S S' a) : eqM S S' := ⟨fun f => (h 158 (by omega)).1 f, fun f => (h 158 (by omega)).2.1 f, fun a ha => (h a (by omega)).2.2.2.1⟩
theorem CRm.ag {S S' : PSt} {a : Nat} {m : Mom} (h : CRm S a m) (h1 : ag S S' a) (h2 : ag S S' (a + 1)) : CRm S' a m := ⟨by rw [h1.1]; exact h.1, by rw [h1.1]; exact h.2.1, by rw [h1.1]; exact h.2.2.1, fun w hw => by rw [h2.2.2.2.1]; exact h.2.2.2 w hw⟩
theorem CRt.ag {S S' : PSt} {r : Nat} {t : Tau} (h : CRt S r t) (k : ∀ i, i ≤ 9 → ag S S' (r + i)) : CRt S' r t := by
  obtain ⟨a1, a2, a3, a4, a5, a6, a7, a8, a9, a10⟩ := h
  have k0 := (k 0 (by omega)).1
  refine ⟨(k0 _).trans a1, (k0 _).trans a2, (k0 _).trans a3, (k0 _).trans a4, ?_, ?_, ?_, ?_, ?_, ?_⟩
  · rw [(k 1 (by omega)).2.2.2.1]; exact a5
  · rw [(k 2 (by omega)).2.2.2.1]; exact a6
  · rw [(k 3 (by omega)).2.2.2.1]; exact a7
  · rw [(k 4 (by omega)).2.2.2.1]; exact a8
  · rw [(k 5 (by omega)).2.2.2.1]; exact a9
  · rw [(k 6 (by omega)).2.2.2.1]; exact a10
theorem CRp.ag {S S' : PSt} {r : Nat} {t : Tau} (h : CRp S r t) (k : ∀ i, i ≤ 9 → ag S S' (r + i)) : CRp S' r t := by
  obtain ⟨a1, a2, lo, hi, z1, z2, a3, a4⟩ := h
  refine ⟨((k 0 (by omega)).1 _).trans a1, ?_, lo, hi, z1, z2, ?_, a4⟩
  · rw [(k 7 (by omega)).2.2.2.1]; exact a2
  · rw [(k 8 (by omega)).2.2.2.1, (k 9 (by omega)).2.2.2.1]; exact a3
theorem CRtun.ag {S S' : PSt} {t : Tau} (h : CRtun S t) (k0 : ∀ f, gR S' f 0 = gR S f 0) (k : ∀ a, 4 ≤ a → a ≤ 23 → ag S S' a) : CRtun S' t := by
  obtain ⟨r, d, hrd, h1, h2, h3, h4, h5, h6⟩ := h
  have hr : 4 ≤ r ∧ r ≤ 14 ∧ 4 ≤ d ∧ d ≤ 14 := by omega
  refine ⟨r, d, hrd, (k0 _).trans h1, (k0 _).trans h2, h3.ag (fun i hi => k _ (by omega) (by omega)), h4.ag (fun i hi => k _ (by omega) (by omega)), ?_, ?_⟩
  · rw [(k (d + 8) (by omega) (by omega)).2.2.2.1]; exact h5
  · rw [(k (d + 9) (by omega) (by omega)).2.2.2.1]; exact h6
theorem CRq.ag {S S' : PSt} {v : Nat} (h : CRq S v) (k : ag S S' (v + 3)) : CRq S' v := by
  unfold CRq
  rw [k.2.2.2.2]
  exact h
theorem CRv.ag {S S' : PSt} {v : Nat} {m : Mom} {ps : List Mom} (h : CRv S v m ps) (hq : CRq S v) (hl : ps.length ≤ 10) (k : ∀ i, i ≤ 23 → ag S S' (v + i)) : CRv S' v m ps := by
  obtain ⟨h1, h2, h3⟩ := h
  refine ⟨h1.ag (k 1 (by omega)) (k 2 (by omega)), ((k 0 (by omega)).1 _).trans h2, fun i hi => ?_⟩
  rw [(k 3 (by omega)).2.2.2.2]
  obtain ⟨e, he, hg⟩ := hq.1 i (by omega)
  have := h3 i hi
  rw [hg] at this ⊢
  exact this.ag (by rw [Nat.add_assoc]; exact k (4 + 2 * e) (by omega)) (by rw [show v + 4 + 2 * e + 1 = v + (5 + 2 * e) by omega]; exact k (5 + 2 * e) (by omega))
theorem CRvoy.ag {S S' : PSt} {m : Mom} {ps : List Mom} (h : CRvoy S m ps) (hl : ps.length ≤ 10) (k : ∀ a, 24 ≤ a → a ≤ 47 → ag S S' a) : CRvoy S' m ps :=
  ⟨h.1.ag h.2 hl (fun i hi => k _ (by omega) (by omega)), h.2.ag (k _ (by omega) (by omega))⟩
theorem CRimg.ag {S S' : PSt} {im : Nat → Option (Mom × List Mom)} (h : CRimg S im) (hl : ∀ j r, im j = some r → r.2.length ≤ 10) (k : ∀ a, 48 ≤ a → a ≤ 97 → ag S S' a) : CRimg S' im := by
  refine ⟨fun j hj => ?_, fun j r hj hr => ?_⟩
  · obtain ⟨a1, a2, a3⟩ := h.1 j hj
    refine ⟨?_, a2.ag (k _ (by omega) (by omega)), ?_⟩
    · rw [(k 48 (by omega) (by omega)).2.2.2.2]; exact a1
    · rw [(k 97 (by omega) (by omega)).2.2.2.1]; exact a3
  · exact (h.2 j r hj hr).ag (h.1 j hj).2.1 (hl j r hr) (fun i hi => k _ (by omega) (by omega))
theorem CRplan.ag {S S' : PSt} {a : Nat} {fz : Bool} {t : Tau} {m : Mom} (h : CRplan S a fz t m) (k : ∀ i, i ≤ 3 → ag S S' (a + i)) : CRplan S' a fz t m := by
  obtain ⟨h1, h2, h3⟩ := h
  have k0 := (k 0 (by omega)).1
  refine ⟨(k0 _).trans h1, ?_, ?_⟩
  · rw [(k 3 (by omega)).2.2.2.2]; exact h2
  · rcases h3 with h3 | ⟨h3, h4, h5⟩
    · exact Or.inl ((k0 _).trans h3)
    · exact Or.inr ⟨(k0 _).trans h3, (k0 _).trans h4, by rw [(k 1 (by omega)).2.2.2.1]; exact h5⟩
theorem CRseen.ag {S S' : PSt} {t : Tau} {sn : List (Nat × Nat)} (h : CRseen S t sn) (k : ∀ a, 98 ≤ a → a ≤ 105 → ag S S' a) : CRseen S' t sn := by
  obtain ⟨h1, h2, h3, h4, h5⟩ := h
  have k0 := (k 98 (by omega) (by omega)).1
  refine ⟨(k0 _).trans h1, ?_, ?_, ?_, ?_⟩
  · rw [(k 101 (by omega) (by omega)).2.2.2.1]; exact h2
  · rw [(k 102 (by omega) (by omega)).2.2.2.1]; exact h3
  · rw [(k 105 (by omega) (by omega)).2.2.2.2]; exact h4
  · rcases h5 with h5 | ⟨h5, h6, h7⟩
    · exact Or.inl ((k0 _).trans h5)
    · refine Or.inr ⟨(k0 _).trans h5, (k0 _).trans h6, ?_⟩
      rw [(k 99 (by omega) (by omega)).2.2.2.1, (k 100 (by omega) (by omega)).2.2.2.1]
      exact h7
theorem CRtxt.ag {S S' : PSt} {tx : List Nat} (h : CRtxt S tx) (k1 : ag S S' 1) (k2 : ag S S' 2) : CRtxt S' tx := ⟨(k1.1 _).trans h.1, by rw [k2.2.2.2.1]; exact h.2⟩
theorem CR.eqC {S S' : PSt} {q : Sig} (ok : SOK q) (h : CR S q) (k : eqC S S') : CR S' q := by
  obtain ⟨h1, h2, h3, h4, h5, h6, h7, h8⟩ := h
  have kk : ∀ a, a < 158 → ag S S' a := fun a ha => k.ag ha
  exact ⟨h1.ag (fun f => k.2.2.1 f 0) (fun a _ _ => kk a (by omega)), h2.ag ok.2.2.1 (fun a _ _ => kk a (by omega)), h3.ag (fun j r hr => (ok.2.2.2.2.1 j r hr).2.1) (fun a _ _ => kk a (by omega)), h4.ag (fun i _ => kk _ (by omega)), h5.ag (fun i _ => kk _ (by omega)), h6.ag (fun a _ _ => kk a (by omega)), h7.ag (kk 1 (by omega)) (kk 2 (by omega)), ((kk 0 (by omega)).2.1 _).trans h8⟩
theorem momAt.eqM {S S' : PSt} {a b : Nat} {m : Mom} (h : momAt S a b m) (k : gA S' a = gA S a) : momAt S' a b m := by
  unfold momAt
  rw [k]
  exact h
theorem MR.eqM {S S' : PSt} {q : Sig} (h : MR S q) (k : eqM S S') : MR S' q := by
  obtain ⟨h1, h2, h3, h4, h5, h6, h7, h8, h9, h10, h11, h12⟩ := h
  obtain ⟨kI, kJ, kA⟩ := k
  obtain ⟨a1, a2, a3, a4, a5, a6, a7, a8, a9, a10⟩ := h1
  have k9 := kA 159 (by omega)
  have k0 := kA 160 (by omega)
  have k1 := kA 161 (by omega)
  refine ⟨⟨(kI _).trans a1, (kI _).trans a2, (kI _).trans a3, (kI _).trans a4, ?_, ?_, ?_, ?_, ?_, ?_⟩, ?_, (kI _).trans h3, fun i hi => (h4 i hi).eqM (kA _ (by omega)), ?_, fun j r hj hr => ?_, (kI _).trans h7, ?_, ?_, (kI _).trans h10, ?_, (kJ _).trans h12⟩
  · rw [k9]; exact a5
  · rw [k9]; exact a6
  · rw [k0]; exact a7
  · rw [k0]; exact a8
  · rw [k0]; exact a9
  · rw [k0]; exact a10
  · unfold MRn; rw [k1]; exact h2
  · rw [kA 164 (by omega)]; exact h5
  · obtain ⟨b1, b2, b3⟩ := h6 j r hj hr
    exact ⟨b1.eqM (kA _ (by omega)), by rw [kA 163 (by omega)]; exact b2, fun i hi => (b3 i hi).eqM (kA _ (by omega))⟩
  · rw [kA 165 (by omega)]; exact h8
  · rw [kA 165 (by omega)]; exact h9
  · rw [kA 166 (by omega)]; exact h11
