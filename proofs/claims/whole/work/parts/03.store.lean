/-! the completion of a draft: storeDraft's invariant, what it leaves, what the reference's loop needs of it -/
def bf_SI (P b : Nat) (dO dI : Nat → Int32) (i f : Nat) (sO sI : Nat → Int32) : Prop :=
  f ≤ P ∧ f + bf_cn dO i = i + bf_cn dI f ∧
  (∀ j, j < i → ∃ o, o < P ∧ sO (b + j) = nI o ∧ sI (b + o) = nI j ∧
    ((dO j = nI o ∧ dI o = nI j) ∨ (dO j = -1 ∧ dI o = -1 ∧ o < f ∧ ∀ q, q < o → dI q = -1 → ∃ t, t < j ∧ sO (b + t) = nI q))) ∧
  (∀ o, o < f → dI o = -1 → ∃ j, j < i ∧ sO (b + j) = nI o)
/-- the completed slot: drafted inputs keep theirs; a free input has the least free output not yet taken -/
def bf_CH (P b : Nat) (dO dI sO sI : Nat → Int32) : Prop :=
  bf_PM P sO sI b ∧
  (∀ j, j < P → ∃ o, o < P ∧ sO (b + j) = nI o ∧
    (dO j = nI o ∨ (dO j = -1 ∧ dI o = -1 ∧ ∀ q, q < o → dI q = -1 → ∃ t, t < j ∧ sO (b + t) = nI q)))
theorem bf_SI_0 {P b : Nat} {dO dI sO sI : Nat → Int32} : bf_SI P b dO dI 0 0 sO sI :=
  ⟨Nat.zero_le _, rfl, fun j hj => absurd hj (by omega), fun j hj => absurd hj (by omega)⟩
theorem bf_SI_d {P b i f o : Nat} {dO dI sO sI : Nat → Int32} (hP : P ≤ 32) (h : bf_SI P b dO dI i f sO sI) (hi : i < P) (ho : o < P) (h1 : dO i = nI o) (h2 : dI o = nI i) : bf_SI P b dO dI (i + 1) f (upd sO (b + i) (nI o)) (upd sI (b + o) (nI i)) := by
  obtain ⟨hf, hc, hB, hC⟩ := h
  refine ⟨hf, ?_, fun j hj => ?_, fun q hq hq2 => ?_⟩
  · rw [bf_cn_f (f := dO) (n := i) (by rw [h1]; exact bf_ne1 (by omega))]
    omega
  · by_cases e : j = i
    · subst e
      exact ⟨o, ho, pk_us, pk_us, Or.inl ⟨h1, h2⟩⟩
    · obtain ⟨q, hq, a1, a2, a3⟩ := hB j (by omega)
      have hqo : q ≠ o := by
        intro e2
        rcases a3 with ⟨_, a4⟩ | ⟨_, a4, _⟩
        · rw [e2, h2] at a4
          exact e (bf_inj a4 (by omega) (by omega)).symm
        · rw [e2, h2] at a4
          exact bf_ne1 (by omega) a4
      refine ⟨q, hq, by rw [pk_un (by omega)]; exact a1, by rw [pk_un (by omega)]; exact a2, ?_⟩
      rcases a3 with a3 | ⟨a3, a4, a5, a6⟩
      · exact Or.inl a3
      · refine Or.inr ⟨a3, a4, a5, fun r hr hr2 => ?_⟩
        obtain ⟨t, ht, ht2⟩ := a6 r hr hr2
        exact ⟨t, ht, by rw [pk_un (by omega)]; exact ht2⟩
  · obtain ⟨j, hj, a⟩ := hC q hq hq2
    exact ⟨j, by omega, by rw [pk_un (by omega)]; exact a⟩
theorem bf_SI_f {P b i f o : Nat} {dO dI sO sI : Nat → Int32} (hP : P ≤ 32) (h : bf_SI P b dO dI i f sO sI) (hi : i < P) (hfo : f ≤ o) (ho : o < P) (h1 : dO i = -1) (h2 : dI o = -1) (h3 : ∀ q, f ≤ q → q < o → ¬ dI q = -1) : bf_SI P b dO dI (i + 1) (o + 1) (upd sO (b + i) (nI o)) (upd sI (b + o) (nI i)) := by
  obtain ⟨hf, hc, hB, hC⟩ := h
  refine ⟨by omega, ?_, fun j hj => ?_, fun q hq hq2 => ?_⟩
  · obtain ⟨d, rfl⟩ : ∃ d, o = f + d := ⟨o - f, by omega⟩
    rw [bf_cn_t h1, bf_cn_t h2, bf_cn_full d h3]
    omega
  · by_cases e : j = i
    · subst e
      refine ⟨o, ho, pk_us, pk_us, Or.inr ⟨h1, h2, by omega, fun q hq hq2 => ?_⟩⟩
      have hqf : q < f := by
        rcases Nat.lt_or_ge q f with a | a
        · exact a
        · exact absurd hq2 (h3 q a hq)
      obtain ⟨t, ht, a⟩ := hC q hqf hq2
      exact ⟨t, ht, by rw [pk_un (by omega)]; exact a⟩
    · obtain ⟨q, hq, a1, a2, a3⟩ := hB j (by omega)
      have hqo : q ≠ o := by
        intro e2
        rcases a3 with ⟨_, a4⟩ | ⟨_, _, a4, _⟩
        · rw [e2, h2] at a4
          exact bf_ne1 (by omega) a4.symm
        · omega
      refine ⟨q, hq, by rw [pk_un (by omega)]; exact a1, by rw [pk_un (by omega)]; exact a2, ?_⟩
      rcases a3 with a3 | ⟨a3, a4, a5, a6⟩
      · exact Or.inl a3
      · refine Or.inr ⟨a3, a4, by omega, fun r hr hr2 => ?_⟩
        obtain ⟨t, ht, ht2⟩ := a6 r hr hr2
        exact ⟨t, ht, by rw [pk_un (by omega)]; exact ht2⟩
  · by_cases e : q = o
    · subst e
      exact ⟨i, by omega, pk_us⟩
    · have hqf : q < f := by
        rcases Nat.lt_or_ge q f with a | a
        · exact a
        · exact absurd hq2 (h3 q a (by omega))
      obtain ⟨j, hj, a⟩ := hC q hqf hq2
      exact ⟨j, by omega, by rw [pk_un (by omega)]; exact a⟩
/-- a free input still finds a free output -/
theorem bf_SI_ex {P b i f : Nat} {dO dI sO sI : Nat → Int32} (h : bf_SI P b dO dI i f sO sI) (hi : i < P) (h1 : dO i = -1) (hC : bf_cn dO P = bf_cn dI P) : ∃ o, f ≤ o ∧ o < P ∧ dI o = -1 := by
  obtain ⟨hf, hc, _, _⟩ := h
  by_cases e : ∃ o, f ≤ o ∧ o < P ∧ dI o = -1
  · exact e
  · exfalso
    have a : bf_cn dI P = bf_cn dI f + (P - f) := by
      have := bf_cn_full (f := dI) (m := f) (P - f) (fun j h1 h2 h3 => e ⟨j, h1, by omega, h3⟩)
      rw [show f + (P - f) = P by omega] at this
      exact this
    have c : bf_cn dO P ≤ bf_cn dO (i + 1) + (P - (i + 1)) := by
      have := bf_cn_up2 (f := dO) (m := i + 1) (P - (i + 1))
      rw [show i + 1 + (P - (i + 1)) = P by omega] at this
      exact this
    rw [bf_cn_t h1] at c
    omega
theorem bf_SI_end {P b f : Nat} {dO dI sO sI : Nat → Int32} (hP : P ≤ 32) (pd : bf_PD P dO dI) (h : bf_SI P b dO dI P f sO sI) : bf_CH P b dO dI sO sI := by
  obtain ⟨hf, hc, hB, hC⟩ := h
  refine ⟨⟨fun i hi => ?_, fun o ho => ?_⟩, fun j hj => ?_⟩
  · obtain ⟨o, ho, a1, a2, _⟩ := hB i hi
    exact ⟨o, ho, a1, a2⟩
  · rcases pd.2.1 o ho with a | ⟨i, hi, a, c⟩
    · have hof : o < f := by
        rcases Nat.lt_or_ge o f with z | z
        · exact z
        · exfalso
          have c1 : bf_cn dI P ≤ bf_cn dI (o + 1) + (P - (o + 1)) := by
            have := bf_cn_up2 (f := dI) (m := o + 1) (P - (o + 1))
            rw [show o + 1 + (P - (o + 1)) = P by omega] at this
            exact this
          have c2 : bf_cn dI o ≤ bf_cn dI f + (o - f) := by
            have := bf_cn_up2 (f := dI) (m := f) (o - f)
            rw [show f + (o - f) = o by omega] at this
            exact this
          rw [bf_cn_t a] at c1
          have := pd.2.2
          omega
      obtain ⟨j, hj, a1⟩ := hC o hof a
      obtain ⟨q, hq, b1, b2, _⟩ := hB j hj
      rw [a1] at b1
      have := bf_inj b1 (by omega) (by omega)
      subst this
      exact ⟨j, hj, b2, a1⟩
    · obtain ⟨q, hq, b1, b2, b3⟩ := hB i hi
      rcases b3 with ⟨b3, _⟩ | ⟨b3, _⟩
      · rw [c] at b3
        have := bf_inj b3 (by omega) (by omega)
        subst this
        exact ⟨i, hi, b2, b1⟩
      · rw [c] at b3
        exact absurd b3 (bf_ne1 (by omega))
  · obtain ⟨o, ho, a1, _, a3⟩ := hB j hj
    refine ⟨o, ho, a1, ?_⟩
    rcases a3 with ⟨a3, _⟩ | ⟨a3, a4, _, a6⟩
    · exact Or.inl a3
    · exact Or.inr ⟨a3, a4, a6⟩
/-- the completion of the empty draft: each input to its own output -/
theorem bf_CH_id {P b : Nat} {dO dI sO sI : Nat → Int32} (hP : P ≤ 32) (h : bf_CH P b dO dI sO sI) (h1 : ∀ i, i < P → dO i = -1) (h2 : ∀ i, i < P → dI i = -1) : ∀ n i, i < n → i < P → sO (b + i) = nI i := by
  intro n
  induction n with
  | zero => intro i hi; omega
  | succ n ih =>
    intro i hi hiP
    obtain ⟨o, ho, a1, a2⟩ := h.2 i hiP
    rcases a2 with a2 | ⟨_, _, a3⟩
    · rw [h1 i hiP] at a2
      exact absurd a2.symm (bf_ne1 (by omega))
    · rcases Nat.lt_trichotomy o i with z | z | z
      · have e := ih o (by omega) ho
        have := bf_PM_inj h.1 hP ho hiP (e.trans a1.symm)
        omega
      · rw [← z]; rw [← z] at a1; exact a1
      · obtain ⟨t, ht, a4⟩ := a3 i z (h2 i hiP)
        rw [ih t (by omega) (by omega)] at a4
        have := bf_inj a4 (by omega) (by omega)
        omega
/-- every output below a free input's is used already .. -/
theorem bf_used {P b i g q : Nat} {dO dI sO sI : Nat → Int32} (hP : P ≤ 32) (pd : bf_PD P dO dI) (h : bf_CH P b dO dI sO sI) (hi : i < P) (h1 : dO i = -1) (hg : sO (b + i) = nI g) (hgP : g < P) (hq : q < g) : ∃ j, j < P ∧ j ≠ i ∧ ((j < i ∧ sO (b + j) = nI q) ∨ (i < j ∧ dO j = nI q)) := by
  rcases pd.2.1 q (by omega) with a | ⟨j, hj, a, c⟩
  · obtain ⟨o, ho, a1, a2⟩ := h.2 i hi
    rw [hg] at a1
    have := bf_inj a1 (by omega) (by omega)
    subst this
    rcases a2 with a2 | ⟨_, _, a3⟩
    · rw [h1] at a2
      exact absurd a2.symm (bf_ne1 (by omega))
    · obtain ⟨t, ht, a4⟩ := a3 q hq a
      exact ⟨t, by omega, by omega, Or.inl ⟨ht, a4⟩⟩
  · have hji : j ≠ i := by
      intro e
      rw [e, h1] at c
      exact bf_ne1 (by omega) c.symm
    refine ⟨j, hj, hji, ?_⟩
    rcases Nat.lt_or_ge j i with z | z
    · obtain ⟨o, ho, a1, a2⟩ := h.2 j hj
      rcases a2 with a2 | ⟨a2, _⟩
      · rw [c] at a2
        have := bf_inj a2 (by omega) (by omega)
        subst this
        exact Or.inl ⟨z, a1⟩
      · rw [c] at a2
        exact absurd a2 (bf_ne1 (by omega))
    · exact Or.inr ⟨by omega, c⟩
/-- .. and its own is not -/
theorem bf_unused {P b i g : Nat} {dO dI sO sI : Nat → Int32} (hP : P ≤ 32) (pd : bf_PD P dO dI) (h : bf_CH P b dO dI sO sI) (hi : i < P) (h1 : dO i = -1) (hg : sO (b + i) = nI g) (hgP : g < P) : (∀ j, j < i → ¬ sO (b + j) = nI g) ∧ (∀ j, j < P → ¬ dO j = nI g) := by
  refine ⟨fun j hj e => ?_, fun j hj e => ?_⟩
  · have := bf_PM_inj h.1 hP (i := j) (j := i) (by omega) hi (e.trans hg.symm)
    omega
  · have c := bf_PD_o pd hP hj hgP e
    obtain ⟨o, ho, a1, a2⟩ := h.2 i hi
    rw [hg] at a1
    have := bf_inj a1 (by omega) (by omega)
    subst this
    rcases a2 with a2 | ⟨_, a3, _⟩
    · rw [h1] at a2
      exact bf_ne1 (by omega) a2.symm
    · rw [c] at a3
      exact bf_ne1 (by omega) a3
/-- what a drafted input has is its drafted output -/
theorem bf_CH_d {P b i : Nat} {dO dI sO sI : Nat → Int32} (h : bf_CH P b dO dI sO sI) (hi : i < P) (h1 : ¬ dO i = -1) : dO i = sO (b + i) := by
  obtain ⟨o, ho, a1, a2⟩ := h.2 i hi
  rcases a2 with a2 | ⟨a2, _⟩
  · rw [a2, a1]
  · exact absurd a2 h1
