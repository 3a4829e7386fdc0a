section
/-! values, counts, the draft as a partial bijection, a slot as a permutation -/
theorem bf_ne1 {a : Nat} (h : a < 2 ^ 31) : ¬ nI a = -1 := by
  intro e
  have h2 := nI_pos (n := a) h
  rw [e] at h2
  exact h2 (by decide)
theorem bf_inj {a b : Nat} (h : nI a = nI b) (ha : a < 2 ^ 31) (hb : b < 2 ^ 31) : a = b := (nI_eq ha hb).mp h
/-- empty, or a natural -/
def bf_Vl (x : Int32) : Prop := x = -1 ∨ ∃ n : Nat, n < 2 ^ 31 ∧ x = nI n
theorem bf_vl_lt {x : Int32} (h : bf_Vl x) : x < 0 ↔ x = -1 := by
  rcases h with h | ⟨n, hn, h⟩
  · subst h
    exact ⟨fun _ => rfl, fun _ => by decide⟩
  · subst h
    exact ⟨fun z => absurd z (nI_pos hn), fun z => absurd z (bf_ne1 hn)⟩
theorem bf_vl_le {x : Int32} (h : bf_Vl x) : 0 ≤ x ↔ ¬ x = -1 := by
  rw [← bf_vl_lt h]
  exact ⟨fun a b => absurd a (Int32.not_le.mpr b), fun a => Int32.not_lt.mp a⟩
theorem bf_vl_1 : bf_Vl (-1) := Or.inl rfl
theorem bf_vl_n {n : Nat} (h : n < 2 ^ 31) : bf_Vl (nI n) := Or.inr ⟨n, h, rfl⟩
/-- how many of the first n places are held -/
def bf_cn (f : Nat → Int32) : Nat → Nat
  | 0 => 0
  | n + 1 => bf_cn f n + (if f n = -1 then 0 else 1)
theorem bf_cn_s (f : Nat → Int32) (n : Nat) : bf_cn f (n + 1) = bf_cn f n + (if f n = -1 then 0 else 1) := rfl
theorem bf_cn_t {f : Nat → Int32} {n : Nat} (h : f n = -1) : bf_cn f (n + 1) = bf_cn f n := by
  rw [bf_cn_s, if_pos h, Nat.add_zero]
theorem bf_cn_f {f : Nat → Int32} {n : Nat} (h : ¬ f n = -1) : bf_cn f (n + 1) = bf_cn f n + 1 := by
  rw [bf_cn_s, if_neg h]
theorem bf_cn_le (f : Nat → Int32) : ∀ n, bf_cn f n ≤ n := by
  intro n
  induction n with
  | zero => exact Nat.le_refl 0
  | succ n ih =>
    by_cases h : f n = -1
    · rw [bf_cn_t h]; omega
    · rw [bf_cn_f h]; omega
theorem bf_cn_cg {f g : Nat → Int32} : ∀ n, (∀ j, j < n → f j = g j) → bf_cn f n = bf_cn g n := by
  intro n
  induction n with
  | zero => intro _; rfl
  | succ n ih =>
    intro h
    rw [bf_cn_s, bf_cn_s, ih (fun j hj => h j (by omega)), h n (by omega)]
theorem bf_cn_up {f : Nat → Int32} {k : Nat} {x : Int32} (h0 : f k = -1) (hx : ¬ x = -1) : ∀ n, k < n → bf_cn (upd f k x) n = bf_cn f n + 1 := by
  intro n
  induction n with
  | zero => intro h; omega
  | succ n ih =>
    intro h
    by_cases e : n = k
    · subst e
      rw [bf_cn_f (f := upd f n x) (n := n) (by rw [pk_us]; exact hx), bf_cn_t h0, bf_cn_cg (f := upd f n x) (g := f) n (fun j hj => pk_un (by omega))]
    · rw [bf_cn_s, bf_cn_s, ih (by omega), pk_un e]
      exact Nat.add_right_comm _ _ _
theorem bf_cn_dn {f : Nat → Int32} {k : Nat} (h0 : ¬ f k = -1) : ∀ n, k < n → bf_cn (upd f k (-1)) n + 1 = bf_cn f n := by
  intro n
  induction n with
  | zero => intro h; omega
  | succ n ih =>
    intro h
    by_cases e : n = k
    · subst e
      rw [bf_cn_t (f := upd f n (-1)) (n := n) pk_us, bf_cn_f h0, bf_cn_cg (f := upd f n (-1)) (g := f) n (fun j hj => pk_un (by omega))]
    · rw [bf_cn_s, bf_cn_s, pk_un e, ← ih (by omega)]
      exact Nat.add_right_comm _ _ _
theorem bf_cn_all {f : Nat → Int32} : ∀ n, (∀ j, j < n → ¬ f j = -1) → bf_cn f n = n := by
  intro n
  induction n with
  | zero => intro _; rfl
  | succ n ih =>
    intro h
    rw [bf_cn_f (h n (by omega)), ih (fun j hj => h j (by omega))]
theorem bf_cn_nil {f : Nat → Int32} : ∀ n, (∀ j, j < n → f j = -1) → bf_cn f n = 0 := by
  intro n
  induction n with
  | zero => intro _; rfl
  | succ n ih =>
    intro h
    rw [bf_cn_t (h n (by omega)), ih (fun j hj => h j (by omega))]
theorem bf_cn_add (f : Nat → Int32) (a : Nat) : ∀ b, bf_cn f (a + b) = bf_cn f a + bf_cn (fun j => f (a + j)) b := by
  intro b
  induction b with
  | zero => rfl
  | succ b ih =>
    rw [← Nat.add_assoc, bf_cn_s, ih, bf_cn_s]
    exact Nat.add_assoc _ _ _
theorem bf_cn_up2 {f : Nat → Int32} {m : Nat} : ∀ d, bf_cn f (m + d) ≤ bf_cn f m + d := by
  intro d
  induction d with
  | zero => exact Nat.le_refl _
  | succ d ih =>
    rw [← Nat.add_assoc]
    by_cases h : f (m + d) = -1
    · rw [bf_cn_t h]; omega
    · rw [bf_cn_f h]; omega
theorem bf_cn_full {f : Nat → Int32} {m : Nat} : ∀ d, (∀ j, m ≤ j → j < m + d → ¬ f j = -1) → bf_cn f (m + d) = bf_cn f m + d := by
  intro d
  induction d with
  | zero => intro _; rfl
  | succ d ih =>
    intro h
    rw [← Nat.add_assoc, bf_cn_f (h (m + d) (by omega) (by omega)), ih (fun j h1 h2 => h j h1 (by omega))]
    omega
/-- the draft from both sides -/
def bf_PD (P : Nat) (dO dI : Nat → Int32) : Prop :=
  (∀ i, i < P → dO i = -1 ∨ ∃ o, o < P ∧ dO i = nI o ∧ dI o = nI i) ∧
  (∀ o, o < P → dI o = -1 ∨ ∃ i, i < P ∧ dI o = nI i ∧ dO i = nI o) ∧
  bf_cn dO P = bf_cn dI P
theorem bf_PD_add {P i o : Nat} {dO dI : Nat → Int32} (h : bf_PD P dO dI) (hP : P ≤ 32) (hi : i < P) (ho : o < P) (h1 : dO i = -1) (h2 : dI o = -1) : bf_PD P (upd dO i (nI o)) (upd dI o (nI i)) := by
  obtain ⟨hA, hB, hC⟩ := h
  refine ⟨fun j hj => ?_, fun q hq => ?_, ?_⟩
  · by_cases e : j = i
    · subst e
      exact Or.inr ⟨o, ho, pk_us, pk_us⟩
    · rcases hA j hj with a | ⟨q, hq, a, b⟩
      · exact Or.inl (by rw [pk_un e]; exact a)
      · have hqo : q ≠ o := by
          intro e2
          rw [e2, h2] at b
          exact bf_ne1 (by omega) b.symm
        exact Or.inr ⟨q, hq, by rw [pk_un e]; exact a, by rw [pk_un hqo]; exact b⟩
  · by_cases e : q = o
    · subst e
      exact Or.inr ⟨i, hi, pk_us, pk_us⟩
    · rcases hB q hq with a | ⟨j, hj, a, b⟩
      · exact Or.inl (by rw [pk_un e]; exact a)
      · have hji : j ≠ i := by
          intro e2
          rw [e2, h1] at b
          exact bf_ne1 (by omega) b.symm
        exact Or.inr ⟨j, hj, by rw [pk_un e]; exact a, by rw [pk_un hji]; exact b⟩
  · rw [bf_cn_up h1 (bf_ne1 (by omega)) P hi, bf_cn_up h2 (bf_ne1 (by omega)) P ho, hC]
theorem bf_PD_del {P i o : Nat} {dO dI : Nat → Int32} (h : bf_PD P dO dI) (hP : P ≤ 32) (hi : i < P) (ho : o < P) (h1 : dO i = nI o) (h2 : dI o = nI i) : bf_PD P (upd dO i (-1)) (upd dI o (-1)) := by
  obtain ⟨hA, hB, hC⟩ := h
  refine ⟨fun j hj => ?_, fun q hq => ?_, ?_⟩
  · by_cases e : j = i
    · subst e
      exact Or.inl pk_us
    · rcases hA j hj with a | ⟨q, hq, a, b⟩
      · exact Or.inl (by rw [pk_un e]; exact a)
      · have hqo : q ≠ o := by
          intro e2
          rw [e2, h2] at b
          exact e (bf_inj b (by omega) (by omega)).symm
        exact Or.inr ⟨q, hq, by rw [pk_un e]; exact a, by rw [pk_un hqo]; exact b⟩
  · by_cases e : q = o
    · subst e
      exact Or.inl pk_us
    · rcases hB q hq with a | ⟨j, hj, a, b⟩
      · exact Or.inl (by rw [pk_un e]; exact a)
      · have hji : j ≠ i := by
          intro e2
          rw [e2, h1] at b
          exact e (bf_inj b (by omega) (by omega)).symm
        exact Or.inr ⟨j, hj, by rw [pk_un e]; exact a, by rw [pk_un hji]; exact b⟩
  · have a := bf_cn_dn (f := dO) (k := i) (by rw [h1]; exact bf_ne1 (by omega)) P hi
    have b := bf_cn_dn (f := dI) (k := o) (by rw [h2]; exact bf_ne1 (by omega)) P ho
    omega
theorem bf_PD_nil {P : Nat} {dO dI : Nat → Int32} (h1 : ∀ i, i < P → dO i = -1) (h2 : ∀ i, i < P → dI i = -1) : bf_PD P dO dI :=
  ⟨fun i hi => Or.inl (h1 i hi), fun i hi => Or.inl (h2 i hi), by rw [bf_cn_nil P h1, bf_cn_nil P h2]⟩
theorem bf_PD_o {P i : Nat} {dO dI : Nat → Int32} (h : bf_PD P dO dI) (hP : P ≤ 32) (hi : i < P) {o : Nat} (ho : o < P) (e : dO i = nI o) : dI o = nI i := by
  rcases h.1 i hi with a | ⟨q, hq, a, b⟩
  · rw [a] at e
    exact absurd e.symm (bf_ne1 (by omega))
  · rw [e] at a
    rw [bf_inj a (by omega) (by omega)]
    exact b
theorem bf_PD_v {P i : Nat} {dO dI : Nat → Int32} (h : bf_PD P dO dI) (hP : P ≤ 32) (hi : i < P) : bf_Vl (dO i) := by
  rcases h.1 i hi with a | ⟨q, hq, a, _⟩
  · exact Or.inl a
  · exact Or.inr ⟨q, by omega, a⟩
/-- a slot from both sides, its first place b -/
def bf_PM (P : Nat) (sO sI : Nat → Int32) (b : Nat) : Prop :=
  (∀ i, i < P → ∃ o, o < P ∧ sO (b + i) = nI o ∧ sI (b + o) = nI i) ∧
  (∀ o, o < P → ∃ i, i < P ∧ sI (b + o) = nI i ∧ sO (b + i) = nI o)
theorem bf_PM_cg {P b : Nat} {sO sI sO' sI' : Nat → Int32} (h : bf_PM P sO sI b) (e : ∀ x, b ≤ x → x < b + P → sO' x = sO x ∧ sI' x = sI x) : bf_PM P sO' sI' b := by
  refine ⟨fun i hi => ?_, fun o ho => ?_⟩
  · obtain ⟨o, ho, a, c⟩ := h.1 i hi
    exact ⟨o, ho, by rw [(e (b + i) (by omega) (by omega)).1]; exact a, by rw [(e (b + o) (by omega) (by omega)).2]; exact c⟩
  · obtain ⟨i, hi, a, c⟩ := h.2 o ho
    exact ⟨i, hi, by rw [(e (b + o) (by omega) (by omega)).2]; exact a, by rw [(e (b + i) (by omega) (by omega)).1]; exact c⟩
theorem bf_PM_inj {P b i j : Nat} {sO sI : Nat → Int32} (h : bf_PM P sO sI b) (hP : P ≤ 32) (hi : i < P) (hj : j < P) (e : sO (b + i) = sO (b + j)) : i = j := by
  obtain ⟨o, ho, a, c⟩ := h.1 i hi
  obtain ⟨q, hq, a2, c2⟩ := h.1 j hj
  rw [a, a2] at e
  have := bf_inj e (by omega) (by omega)
  subst this
  rw [c] at c2
  exact bf_inj c2 (by omega) (by omega)
/-- a loaded slot is a draft -/
theorem bf_PD_ld {P b : Nat} {sO sI dO dI : Nat → Int32} (h : bf_PM P sO sI b) (hP : P ≤ 32) (h1 : ∀ i, i < P → dO i = sO (b + i)) (h2 : ∀ i, i < P → dI i = sI (b + i)) : bf_PD P dO dI := by
  refine ⟨fun i hi => ?_, fun o ho => ?_, ?_⟩
  · obtain ⟨o, ho, a, c⟩ := h.1 i hi
    exact Or.inr ⟨o, ho, by rw [h1 i hi]; exact a, by rw [h2 o ho]; exact c⟩
  · obtain ⟨i, hi, a, c⟩ := h.2 o ho
    exact Or.inr ⟨i, hi, by rw [h2 o ho]; exact a, by rw [h1 i hi]; exact c⟩
  · have q1 : bf_cn dO P = P := bf_cn_all P (fun i hi => by
      obtain ⟨o, ho, a, c⟩ := h.1 i hi
      rw [h1 i hi, a]
      exact bf_ne1 (by omega))
    have q2 : bf_cn dI P = P := bf_cn_all P (fun i hi => by
      obtain ⟨j, hj, a, c⟩ := h.2 i hi
      rw [h2 i hi, a]
      exact bf_ne1 (by omega))
    rw [q1, q2]
theorem bf_ix {s T P i : Nat} (hs : s < T) (hi : i < P) : s * P + i < T * P := by
  have : (s + 1) * P ≤ T * P := Nat.mul_le_mul_right P hs
  rw [Nat.add_mul, Nat.one_mul] at this
  omega
theorem bf_ix4 {s T P i : Nat} (hs : s < T) (hT : T ≤ 4) (hi : i < P) (hP : P ≤ 32) : s * P + i < 128 := by
  have := bf_ix hs hi
  have h2 : T * P ≤ 4 * 32 := Nat.mul_le_mul hT hP
  omega
theorem bf_ix9 {s T P i : Nat} (hs : s < T) (hT : T ≤ 9) (hi : i < P) (hP : P ≤ 32) : s * P + i < 288 := by
  have := bf_ix hs hi
  have h2 : T * P ≤ 9 * 32 := Nat.mul_le_mul hT hP
  omega
/-- two slots lie apart -/
theorem bf_apart {s t P x : Nat} (h : s ≠ t) (h1 : s * P ≤ x) (h2 : x < s * P + P) : x < t * P ∨ t * P + P ≤ x := by
  rcases Nat.lt_or_ge s t with a | a
  · have : (s + 1) * P ≤ t * P := Nat.mul_le_mul_right P a
    rw [Nat.add_mul, Nat.one_mul] at this
    omega
  · have : (t + 1) * P ≤ s * P := Nat.mul_le_mul_right P (by omega : t + 1 ≤ s)
    rw [Nat.add_mul, Nat.one_mul] at this
    omega
/-! the completion of a draft: storeDraft's invariant, what it leaves, what the reference's loop needs of it -/
def bf_SI (P b : Nat) (dO dI : Nat → Int32) (i f : Nat) (sO sI : Nat → Int32) : Prop :=
  f ≤ P ∧ f + bf_cn dO i = i + bf_cn dI f ∧
  (∀ j, j < i → ∃ o, o < P ∧ sO (b + j) = nI o ∧ sI (b + o) = nI j ∧
    ((dO j = nI o ∧ dI o = nI j) ∨ (dO j = -1 ∧ dI o = -1 ∧ o < f ∧ ∀ q, q < o → dI q = -1 → ∃ t, t < j ∧ sO (b + t) = nI q))) ∧
  (∀ o, o < f → dI o = -1 → ∃ j, j < i ∧ sO (b + j) = nI o)
/-- the completed slot: drafted inputs keep theirs; a free input has the least free output not yet taken -/
def bf_CH (P b : Nat) (dO dI sO sI : Nat → Int32) : Prop :=
  bf_PM P sO sI b ∧
  (∀ j, j < P → ∃ o, o < P ∧ sO (b + j) = nI o ∧
    (dO j = nI o ∨ (dO j = -1 ∧ dI o = -1 ∧ ∀ q, q < o → dI q = -1 → ∃ t, t < j ∧ sO (b + t) = nI q)))
theorem bf_SI_0 {P b : Nat} {dO dI sO sI : Nat → Int32} : bf_SI P b dO dI 0 0 sO sI :=
  ⟨Nat.zero_le _, rfl, fun j hj => absurd hj (by omega), fun j hj => absurd hj (by omega)⟩
theorem bf_SI_d {P b i f o : Nat} {dO dI sO sI : Nat → Int32} (hP : P ≤ 32) (h : bf_SI P b dO dI i f sO sI) (hi : i < P) (ho : o < P) (h1 : dO i = nI o) (h2 : dI o = nI i) : bf_SI P b dO dI (i + 1) f (upd sO (b + i) (nI o)) (upd sI (b + o) (nI i)) := by
  obtain ⟨hf, hc, hB, hC⟩ := h
  refine ⟨hf, ?_, fun j hj => ?_, fun q hq hq2 => ?_⟩
  · rw [bf_cn_f (f := dO) (n := i) (by rw [h1]; exact bf_ne1 (by omega))]
    omega
  · by_cases e : j = i
    · subst e
      exact ⟨o, ho, pk_us, pk_us, Or.inl ⟨h1, h2⟩⟩
    · obtain ⟨q, hq, a1, a2, a3⟩ := hB j (by omega)
      have hqo : q ≠ o := by
        intro e2
        rcases a3 with ⟨_, a4⟩ | ⟨_, a4, _⟩
        · rw [e2, h2] at a4
          exact e (bf_inj a4 (by omega) (by omega)).symm
        · rw [e2, h2] at a4
          exact bf_ne1 (by omega) a4
      refine ⟨q, hq, by rw [pk_un (by omega)]; exact a1, by rw [pk_un (by omega)]; exact a2, ?_⟩
      rcases a3 with a3 | ⟨a3, a4, a5, a6⟩
      · exact Or.inl a3
      · refine Or.inr ⟨a3, a4, a5, fun r hr hr2 => ?_⟩
        obtain ⟨t, ht, ht2⟩ := a6 r hr hr2
        exact ⟨t, ht, by rw [pk_un (by omega)]; exact ht2⟩
  · obtain ⟨j, hj, a⟩ := hC q hq hq2
    exact ⟨j, by omega, by rw [pk_un (by omega)]; exact a⟩
theorem bf_SI_f {P b i f o : Nat} {dO dI sO sI : Nat → Int32} (hP : P ≤ 32) (h : bf_SI P b dO dI i f sO sI) (hi : i < P) (hfo : f ≤ o) (ho : o < P) (h1 : dO i = -1) (h2 : dI o = -1) (h3 : ∀ q, f ≤ q → q < o → ¬ dI q = -1) : bf_SI P b dO dI (i + 1) (o + 1) (upd sO (b + i) (nI o)) (upd sI (b + o) (nI i)) := by
  obtain ⟨hf, hc, hB, hC⟩ := h
  refine ⟨by omega, ?_, fun j hj => ?_, fun q hq hq2 => ?_⟩
  · obtain ⟨d, rfl⟩ : ∃ d, o = f + d := ⟨o - f, by omega⟩
    rw [bf_cn_t h1, bf_cn_t h2, bf_cn_full d h3]
    omega
  · by_cases e : j = i
    · subst e
      refine ⟨o, ho, pk_us, pk_us, Or.inr ⟨h1, h2, by omega, fun q hq hq2 => ?_⟩⟩
      have hqf : q < f := by
        rcases Nat.lt_or_ge q f with a | a
        · exact a
        · exact absurd hq2 (h3 q a hq)
      obtain ⟨t, ht, a⟩ := hC q hqf hq2
      exact ⟨t, ht, by rw [pk_un (by omega)]; exact a⟩
    · obtain ⟨q, hq, a1, a2, a3⟩ := hB j (by omega)
      have hqo : q ≠ o := by
        intro e2
        rcases a3 with ⟨_, a4⟩ | ⟨_, _, a4, _⟩
        · rw [e2, h2] at a4
          exact bf_ne1 (by omega) a4.symm
        · omega
      refine ⟨q, hq, by rw [pk_un (by omega)]; exact a1, by rw [pk_un (by omega)]; exact a2, ?_⟩
      rcases a3 with a3 | ⟨a3, a4, a5, a6⟩
      · exact Or.inl a3
      · refine Or.inr ⟨a3, a4, by omega, fun r hr hr2 => ?_⟩
        obtain ⟨t, ht, ht2⟩ := a6 r hr hr2
        exact ⟨t, ht, by rw [pk_un (by omega)]; exact ht2⟩
  · by_cases e : q = o
    · subst e
      exact ⟨i, by omega, pk_us⟩
    · have hqf : q < f := by
        rcases Nat.lt_or_ge q f with a | a
        · exact a
        · exact absurd hq2 (h3 q a (by omega))
      obtain ⟨j, hj, a⟩ := hC q hqf hq2
      exact ⟨j, by omega, by rw [pk_un (by omega)]; exact a⟩
/-- a free input still finds a free output -/
theorem bf_SI_ex {P b i f : Nat} {dO dI sO sI : Nat → Int32} (h : bf_SI P b dO dI i f sO sI) (hi : i < P) (h1 : dO i = -1) (hC : bf_cn dO P = bf_cn dI P) : ∃ o, f ≤ o ∧ o < P ∧ dI o = -1 := by
  obtain ⟨hf, hc, _, _⟩ := h
  by_cases e : ∃ o, f ≤ o ∧ o < P ∧ dI o = -1
  · exact e
  · exfalso
    have a : bf_cn dI P = bf_cn dI f + (P - f) := by
      have := bf_cn_full (f := dI) (m := f) (P - f) (fun j h1 h2 h3 => e ⟨j, h1, by omega, h3⟩)
      rw [show f + (P - f) = P by omega] at this
      exact this
    have c : bf_cn dO P ≤ bf_cn dO (i + 1) + (P - (i + 1)) := by
      have := bf_cn_up2 (f := dO) (m := i + 1) (P - (i + 1))
      rw [show i + 1 + (P - (i + 1)) = P by omega] at this
      exact this
    rw [bf_cn_t h1] at c
    omega
theorem bf_SI_end {P b f : Nat} {dO dI sO sI : Nat → Int32} (hP : P ≤ 32) (pd : bf_PD P dO dI) (h : bf_SI P b dO dI P f sO sI) : bf_CH P b dO dI sO sI := by
  obtain ⟨hf, hc, hB, hC⟩ := h
  refine ⟨⟨fun i hi => ?_, fun o ho => ?_⟩, fun j hj => ?_⟩
  · obtain ⟨o, ho, a1, a2, _⟩ := hB i hi
    exact ⟨o, ho, a1, a2⟩
  · rcases pd.2.1 o ho with a | ⟨i, hi, a, c⟩
    · have hof : o < f := by
        rcases Nat.lt_or_ge o f with z | z
        · exact z
        · exfalso
          have c1 : bf_cn dI P ≤ bf_cn dI (o + 1) + (P - (o + 1)) := by
            have := bf_cn_up2 (f := dI) (m := o + 1) (P - (o + 1))
            rw [show o + 1 + (P - (o + 1)) = P by omega] at this
            exact this
          have c2 : bf_cn dI o ≤ bf_cn dI f + (o - f) := by
            have := bf_cn_up2 (f := dI) (m := f) (o - f)
            rw [show f + (o - f) = o by omega] at this
            exact this
          rw [bf_cn_t a] at c1
          have := pd.2.2
          omega
      obtain ⟨j, hj, a1⟩ := hC o hof a
      obtain ⟨q, hq, b1, b2, _⟩ := hB j hj
      rw [a1] at b1
      have := bf_inj b1 (by omega) (by omega)
      subst this
      exact ⟨j, hj, b2, a1⟩
    · obtain ⟨q, hq, b1, b2, b3⟩ := hB i hi
      rcases b3 with ⟨b3, _⟩ | ⟨b3, _⟩
      · rw [c] at b3
        have := bf_inj b3 (by omega) (by omega)
        subst this
        exact ⟨i, hi, b2, b1⟩
      · rw [c] at b3
        exact absurd b3 (bf_ne1 (by omega))
  · obtain ⟨o, ho, a1, _, a3⟩ := hB j hj
    refine ⟨o, ho, a1, ?_⟩
    rcases a3 with ⟨a3, _⟩ | ⟨a3, a4, _, a6⟩
    · exact Or.inl a3
    · exact Or.inr ⟨a3, a4, a6⟩
/-- the completion of the empty draft: each input to its own output -/
theorem bf_CH_id {P b : Nat} {dO dI sO sI : Nat → Int32} (hP : P ≤ 32) (h : bf_CH P b dO dI sO sI) (h1 : ∀ i, i < P → dO i = -1) (h2 : ∀ i, i < P → dI i = -1) : ∀ n i, i < n → i < P → sO (b + i) = nI i := by
  intro n
  induction n with
  | zero => intro i hi; omega
  | succ n ih =>
    intro i hi hiP
    obtain ⟨o, ho, a1, a2⟩ := h.2 i hiP
    rcases a2 with a2 | ⟨_, _, a3⟩
    · rw [h1 i hiP] at a2
      exact absurd a2.symm (bf_ne1 (by omega))
    · rcases Nat.lt_trichotomy o i with z | z | z
      · have e := ih o (by omega) ho
        have := bf_PM_inj h.1 hP ho hiP (e.trans a1.symm)
        omega
      · rw [← z]; rw [← z] at a1; exact a1
      · obtain ⟨t, ht, a4⟩ := a3 i z (h2 i hiP)
        rw [ih t (by omega) (by omega)] at a4
        have := bf_inj a4 (by omega) (by omega)
        omega
/-- every output below a free input's is used already .. -/
theorem bf_used {P b i g q : Nat} {dO dI sO sI : Nat → Int32} (hP : P ≤ 32) (pd : bf_PD P dO dI) (h : bf_CH P b dO dI sO sI) (hi : i < P) (h1 : dO i = -1) (hg : sO (b + i) = nI g) (hgP : g < P) (hq : q < g) : ∃ j, j < P ∧ j ≠ i ∧ ((j < i ∧ sO (b + j) = nI q) ∨ (i < j ∧ dO j = nI q)) := by
  rcases pd.2.1 q (by omega) with a | ⟨j, hj, a, c⟩
  · obtain ⟨o, ho, a1, a2⟩ := h.2 i hi
    rw [hg] at a1
    have := bf_inj a1 (by omega) (by omega)
    subst this
    rcases a2 with a2 | ⟨_, _, a3⟩
    · rw [h1] at a2
      exact absurd a2.symm (bf_ne1 (by omega))
    · obtain ⟨t, ht, a4⟩ := a3 q hq a
      exact ⟨t, by omega, by omega, Or.inl ⟨ht, a4⟩⟩
  · have hji : j ≠ i := by
      intro e
      rw [e, h1] at c
      exact bf_ne1 (by omega) c.symm
    refine ⟨j, hj, hji, ?_⟩
    rcases Nat.lt_or_ge j i with z | z
    · obtain ⟨o, ho, a1, a2⟩ := h.2 j hj
      rcases a2 with a2 | ⟨a2, _⟩
      · rw [c] at a2
        have := bf_inj a2 (by omega) (by omega)
        subst this
        exact Or.inl ⟨z, a1⟩
      · rw [c] at a2
        exact absurd a2 (bf_ne1 (by omega))
    · exact Or.inr ⟨by omega, c⟩
/-- .. and its own is not -/
theorem bf_unused {P b i g : Nat} {dO dI sO sI : Nat → Int32} (hP : P ≤ 32) (pd : bf_PD P dO dI) (h : bf_CH P b dO dI sO sI) (hi : i < P) (h1 : dO i = -1) (hg : sO (b + i) = nI g) (hgP : g < P) : (∀ j, j < i → ¬ sO (b + j) = nI g) ∧ (∀ j, j < P → ¬ dO j = nI g) := by
  refine ⟨fun j hj e => ?_, fun j hj e => ?_⟩
  · have := bf_PM_inj h.1 hP (i := j) (j := i) (by omega) hi (e.trans hg.symm)
    omega
  · have c := bf_PD_o pd hP hj hgP e
    obtain ⟨o, ho, a1, a2⟩ := h.2 i hi
    rw [hg] at a1
    have := bf_inj a1 (by omega) (by omega)
    subst this
    rcases a2 with a2 | ⟨_, a3, _⟩
    · rw [h1] at a2
      exact bf_ne1 (by omega) a2.symm
    · rw [c] at a3
      exact bf_ne1 (by omega) a3
/-- what a drafted input has is its drafted output -/
theorem bf_CH_d {P b i : Nat} {dO dI sO sI : Nat → Int32} (h : bf_CH P b dO dI sO sI) (hi : i < P) (h1 : ¬ dO i = -1) : dO i = sO (b + i) := by
  obtain ⟨o, ho, a1, a2⟩ := h.2 i hi
  rcases a2 with a2 | ⟨a2, _⟩
  · rw [a2, a1]
  · exact absurd a2 h1
end
section
def bf_H (P S T A : Nat) : Prop := 2 ≤ P ∧ P ≤ 32 ∧ 1 ≤ S ∧ S ≤ 9 ∧ 1 ≤ T ∧ T ≤ 4 ∧ A < T ∧ ∃ L, P = 2 ^ L
/-- a store -/
theorem bf_st {x : Int32} {N : Nat} {a : Nat → Int32} {v : Int32} {Q : (Nat → Int32) → Prop} (i : Nat) (hx : x = nI i) (hi : i < N) (hN : N < 2 ^ 31) (h : Q (upd a i v)) : vp_in x N ∧ ∀ y, y = upd a x.toNatClampNeg v → Q y := by
  subst hx
  refine ⟨vp_in_nI hi hN, fun y ey => ?_⟩
  rw [nI_clamp (by omega)] at ey
  rw [ey]
  exact h
/-- a read that is named -/
theorem bf_ld {x : Int32} {N : Nat} {a : Nat → Int32} {Q : Int32 → Prop} (i : Nat) (hx : x = nI i) (hi : i < N) (hN : N < 2 ^ 31) (h : Q (a i)) : vp_in x N ∧ ∀ y, y = a x.toNatClampNeg → Q y := by
  subst hx
  refine ⟨vp_in_nI hi hN, fun y ey => ?_⟩
  rw [nI_clamp (by omega)] at ey
  rw [ey]
  exact h
/-- a read in place -/
theorem bf_rd {x : Int32} {N : Nat} {a : Nat → Int32} {Q : Int32 → Prop} (i : Nat) (hx : x = nI i) (hi : i < N) (hN : N < 2 ^ 31) (h : Q (a i)) : vp_in x N ∧ Q (a x.toNatClampNeg) := by
  subst hx
  refine ⟨vp_in_nI hi hN, ?_⟩
  rw [nI_clamp (by omega)]
  exact h
theorem bf_mi (s P i : Nat) : nI s * nI P + nI i = nI (s * P + i) := by rw [pk_mul, nI_add]
theorem bf_m32 (s i : Nat) : nI s * 32 + nI i = nI (s * 32 + i) := bf_mi s 32 i
/-- a port, or none -/
theorem bf_pt (x : Int32) {n : Nat} (hn : n < 2 ^ 31) : (x < 0 ∨ nI n ≤ x) ∨ ∃ j : Nat, j < n ∧ x = nI j := by
  rcases pk_ix x hn with a | a | a
  · exact Or.inl (Or.inl a)
  · exact Or.inl (Or.inr a)
  · exact Or.inr a
/-- fill, pure -/
def bf_out (P : Nat) (mu ad : Int32) (i : Nat) : Nat := (nI i * mu + ad).toBitVec.toNat % P
def bf_fz (P : Nat) (mu ad : Int32) (dO dI : Nat → Int32) : Nat → (Nat → Int32) × (Nat → Int32) × Nat
  | 0 => (dO, dI, 0)
  | i + 1 =>
    if (bf_fz P mu ad dO dI i).1 i = -1 ∧ (bf_fz P mu ad dO dI i).2.1 (bf_out P mu ad i) = -1 then
      (upd (bf_fz P mu ad dO dI i).1 i (nI (bf_out P mu ad i)), upd (bf_fz P mu ad dO dI i).2.1 (bf_out P mu ad i) (nI i), (bf_fz P mu ad dO dI i).2.2 + 1)
    else bf_fz P mu ad dO dI i
theorem bf_fz_t {P : Nat} {mu ad : Int32} {dO dI : Nat → Int32} {i : Nat} (h1 : (bf_fz P mu ad dO dI i).1 i = -1) (h2 : (bf_fz P mu ad dO dI i).2.1 (bf_out P mu ad i) = -1) : bf_fz P mu ad dO dI (i + 1) = (upd (bf_fz P mu ad dO dI i).1 i (nI (bf_out P mu ad i)), upd (bf_fz P mu ad dO dI i).2.1 (bf_out P mu ad i) (nI i), (bf_fz P mu ad dO dI i).2.2 + 1) := if_pos ⟨h1, h2⟩
theorem bf_fz_f {P : Nat} {mu ad : Int32} {dO dI : Nat → Int32} {i : Nat} (h : ¬ ((bf_fz P mu ad dO dI i).1 i = -1 ∧ (bf_fz P mu ad dO dI i).2.1 (bf_out P mu ad i) = -1)) : bf_fz P mu ad dO dI (i + 1) = bf_fz P mu ad dO dI i := if_neg h
theorem bf_out_lt {P : Nat} {mu ad : Int32} {i : Nat} (h : ∃ L, P = 2 ^ L) : bf_out P mu ad i < P := by
  obtain ⟨L, rfl⟩ := h
  exact Nat.mod_lt _ (Nat.two_pow_pos L)
theorem bf_out_e {P : Nat} {mu ad : Int32} {i : Nat} (hP : P ≤ 32) (h : ∃ L, P = 2 ^ L) : (nI i * mu + ad) &&& (nI P - 1) = nI (bf_out P mu ad i) := by
  obtain ⟨L, rfl⟩ := h
  have h1 : 1 ≤ 2 ^ L := Nat.two_pow_pos L
  have e : nI (2 ^ L) - 1 = nI (2 ^ L - 1) := pk_sub (b := 1) h1
  rw [e]
  exact pk_and _ L (pk_tn (by omega))
theorem bf_fz_pd {P : Nat} {mu ad : Int32} {dO dI : Nat → Int32} (hP : P ≤ 32) (hL : ∃ L, P = 2 ^ L) (pd : bf_PD P dO dI) : ∀ i, i ≤ P → bf_PD P (bf_fz P mu ad dO dI i).1 (bf_fz P mu ad dO dI i).2.1 := by
  intro i
  induction i with
  | zero => intro _; exact pd
  | succ i ih =>
    intro hi
    by_cases h : (bf_fz P mu ad dO dI i).1 i = -1 ∧ (bf_fz P mu ad dO dI i).2.1 (bf_out P mu ad i) = -1
    · rw [bf_fz_t h.1 h.2]
      exact bf_PD_add (ih (by omega)) hP (by omega) (bf_out_lt hL) h.1 h.2
    · rw [bf_fz_f h]
      exact ih (by omega)
theorem bf_fz_c {P : Nat} {mu ad : Int32} {dO dI : Nat → Int32} : ∀ i, (bf_fz P mu ad dO dI i).2.2 ≤ i := by
  intro i
  induction i with
  | zero => exact Nat.le_refl 0
  | succ i ih =>
    by_cases h : (bf_fz P mu ad dO dI i).1 i = -1 ∧ (bf_fz P mu ad dO dI i).2.1 (bf_out P mu ad i) = -1
    · rw [bf_fz_t h.1 h.2]
      show (bf_fz P mu ad dO dI i).2.2 + 1 ≤ i + 1
      omega
    · rw [bf_fz_f h]
      omega
/-! the class's own methods: one lemma each, with a general post -/
theorem bf_least {Q : Nat → Prop} : ∀ n, (∃ k, k < n ∧ Q k) → ∃ k, k < n ∧ Q k ∧ ∀ j, j < k → ¬ Q j := by
  intro n
  induction n with
  | zero => intro ⟨k, h, _⟩; omega
  | succ n ih =>
    intro ⟨k, h, q⟩
    by_cases e : ∃ k, k < n ∧ Q k
    · obtain ⟨m, hm, a, b⟩ := ih e
      exact ⟨m, by omega, a, b⟩
    · refine ⟨k, h, q, fun j hj qj => e ⟨j, by omega, qj⟩⟩
theorem bf_fl {f s : Nat → Int32} {i : Nat} {x : Int32} (h : ∀ j, j < i → s j = f j) (hx : x = f i) : ∀ j, j < i + 1 → upd s i x j = f j := by
  intro j hj
  by_cases e : j = i
  · rw [e, pk_us, hx]
  · rw [pk_un e]
    exact h j (by omega)
section BX
variable {P S T A : Nat} {dO dI sO sI lc wv : Nat → Int32}
theorem xf_port_t {post : Int32 → Prop} {j : Nat} (hP : P ≤ 32) (hj : j < P) (h : post 1) : wpX_isPort post (nI P, nI S, nI T, nI A, dO, dI, sO, sI, lc, wv) (nI j) :=
  br_f (nI_pos (by omega)) (br_f (nI_ge hj (by omega)) h)
theorem xf_port_f {post : Int32 → Prop} {x : Int32} (hx : x < 0 ∨ nI P ≤ x) (h : post 0) : wpX_isPort post (nI P, nI S, nI T, nI A, dO, dI, sO, sI, lc, wv) x := by
  by_cases h0 : x < 0
  · exact br_t h0 h
  · exact br_f h0 (br_t (hx.resolve_left h0) h)
theorem xf_slot_t {post : Int32 → Prop} {j : Nat} (hT : T ≤ 4) (hj : j < T) (h : post 1) : wpX_isSlot post (nI P, nI S, nI T, nI A, dO, dI, sO, sI, lc, wv) (nI j) :=
  br_f (nI_pos (by omega)) (br_f (nI_ge hj (by omega)) h)
theorem xf_slot_f {post : Int32 → Prop} {x : Int32} (hx : x < 0 ∨ nI T ≤ x) (h : post 0) : wpX_isSlot post (nI P, nI S, nI T, nI A, dO, dI, sO, sI, lc, wv) x := by
  by_cases h0 : x < 0
  · exact br_t h0 h
  · exact br_f h0 (br_t (hx.resolve_left h0) h)
theorem xf_add {post : St2 → Prop} {i o : Nat} (hP : P ≤ 32) (hi : i < P) (ho : o < P) (h : post (nI P, nI S, nI T, nI A, upd dO i (nI o), upd dI o (nI i), sO, sI, lc, wv)) : wpX_addPair post (nI P, nI S, nI T, nI A, dO, dI, sO, sI, lc, wv) (nI i) (nI o) :=
  bf_st i rfl (by omega) (by decide) (bf_st o rfl (by omega) (by decide) h)
theorem xf_emptyDraft {post : St2 → Prop} (hP : P ≤ 32) (h : ∀ a b, (∀ i, i < P → a i = -1) → (∀ i, i < P → b i = -1) → post (nI P, nI S, nI T, nI A, a, b, sO, sI, lc, wv)) : wpX_emptyDraft post (nI P, nI S, nI T, nI A, dO, dI, sO, sI, lc, wv) :=
  pk_loop (fun n i s => wX_emptyDraft_2 post (nI P) (nI S) (nI T) (nI A) n (nI i) s.1 s.2 sO sI lc wv) (fun i s => (∀ j, j < i → s.1 j = -1) ∧ (∀ j, j < i → s.2 j = -1)) P 0 (dO, dI) (by omega) ⟨fun j hj => absurd hj (by omega), fun j hj => absurd hj (by omega)⟩
    (fun n s hs => pk_le P P (fun _ => h s.1 s.2 hs.1 hs.2) (fun z => absurd z (by omega)))
    (fun n i s hi hs hw => pk_le P i (fun z => absurd z (by omega)) (fun _ => bf_st i rfl (by omega) (by decide) (bf_st i rfl (by omega) (by decide) (nm_r (nI_1 i) (hw (_, _) ⟨bf_fl (f := fun _ => -1) hs.1 rfl, bf_fl (f := fun _ => -1) hs.2 rfl⟩)))))
theorem xf_emptyLatch {post : St2 → Prop} (hP : P ≤ 32) (h : ∀ a, (∀ i, i < P → a i = -1) → post (nI P, nI S, nI T, nI A, dO, dI, sO, sI, a, wv)) : wpX_emptyLatch post (nI P, nI S, nI T, nI A, dO, dI, sO, sI, lc, wv) :=
  pk_loop (fun n i s => wX_emptyLatch_2 post (nI P) (nI S) (nI T) (nI A) n (nI i) dO dI sO sI s wv) (fun i s => ∀ j, j < i → s j = -1) P 0 lc (by omega) (fun j hj => absurd hj (by omega))
    (fun n s hs => pk_le P P (fun _ => h s hs) (fun z => absurd z (by omega)))
    (fun n i s hi hs hw => pk_le P i (fun z => absurd z (by omega)) (fun _ => bf_st i rfl (by omega) (by decide) (nm_r (nI_1 i) (hw _ (bf_fl (f := fun _ => -1) hs rfl)))))
theorem xf_emptyWaves {post : St2 → Prop} (hP : P ≤ 32) (hS : S ≤ 9) (h : ∀ a, (∀ i, i < S * P → a i = -1) → post (nI P, nI S, nI T, nI A, dO, dI, sO, sI, lc, a)) : wpX_emptyWaves post (nI P, nI S, nI T, nI A, dO, dI, sO, sI, lc, wv) := by
  have hb : S * P ≤ 9 * 32 := Nat.mul_le_mul hS hP
  exact pk_loop (fun n i s => wX_emptyWaves_2 post (nI P) (nI S) (nI T) (nI A) n (nI i) dO dI sO sI lc s) (fun i s => ∀ j, j < i → s j = -1) (S * P) 0 wv (by omega) (fun j hj => absurd hj (by omega))
    (fun n s hs => pk_le (S * P) (S * P) (fun _ => h s hs) (fun z => absurd z (by omega)) (hx := pk_mul S P))
    (fun n i s hi hs hw => pk_le (S * P) i (fun z => absurd z (by omega)) (fun _ => bf_st i rfl (by omega) (by decide) (nm_r (nI_1 i) (hw _ (bf_fl (f := fun _ => -1) hs rfl)))) (hx := pk_mul S P))
theorem xf_free {post : Int32 → Prop} {f o : Nat} (hP : P ≤ 32) (hfo : f ≤ o) (ho : o < P) (h2 : dI o = -1) (h3 : ∀ q, f ≤ q → q < o → ¬ dI q = -1) (h : post (nI o)) : wpX_freeOutputFrom post (nI P, nI S, nI T, nI A, dO, dI, sO, sI, lc, wv) (nI f) :=
  pk_loop (σ := Unit) (fun n i _ => wX_freeOutputFrom_2 post (nI P) (nI S) (nI T) (nI A) dO dI sO sI lc wv n (nI i)) (fun i _ => f ≤ i) o f () hfo (Nat.le_refl f)
    (fun n _ _ => pk_le (P - 1) o (fun _ => h) (fun _ => ⟨pk_in o 32 (by omega), br_t (by rw [nI_clamp (by omega)]; exact h2) h⟩) (hx := pk_sub (b := 1) (by omega)))
    (fun n i _ hi hf hw => pk_le (P - 1) i (fun z => absurd z (by omega)) (fun _ => ⟨pk_in i 32 (by omega), br_f (by rw [nI_clamp (by omega)]; exact h3 i hf hi) (nm_r (nI_1 i) (hw () (by omega)))⟩) (hx := pk_sub (b := 1) (by omega)))
theorem xf_advance {post : St2 → Prop} (hP : P ≤ 32) (hS : S ≤ 9) (hS1 : 1 ≤ S) (h : ∀ w, (∀ x, x + P < S * P → w x = wv (x + P)) → post (nI P, nI S, nI T, nI A, dO, dI, sO, sI, lc, w)) : wpX_advanceWaves post (nI P, nI S, nI T, nI A, dO, dI, sO, sI, lc, wv) := by
  have hb : S * P ≤ 9 * 32 := Nat.mul_le_mul hS hP
  have hb1 : 1 * P ≤ S * P := Nat.mul_le_mul_right P hS1
  have key : ∀ m i w, i + m = S * P → P ≤ i → (∀ x, w x = if x + P < i then wv (x + P) else wv x) → wX_advanceWaves_5 post (nI P) (nI S) (nI T) (nI A) (m + 1) (nI i) dO dI sO sI lc w := by
    intro m
    induction m with
    | zero =>
      intro i w hi hp hw
      exact pk_le (S * P) i (fun _ => h w (fun x hx => by rw [hw x, if_pos (by omega)])) (fun z => absurd z (by omega)) (hx := pk_mul S P)
    | succ m ih =>
      intro i w hi hp hw
      refine pk_le (S * P) i (fun z => absurd z (by omega)) (fun _ => ⟨pk_in i 288 (by omega), bf_st (i - P) (pk_sub hp) (by omega) (by decide) (nm_r (nI_1 i) ?_)⟩) (hx := pk_mul S P)
      rw [nI_clamp (by omega)]
      refine ih (i + 1) _ (by omega) (by omega) (fun x => ?_)
      by_cases e : x = i - P
      · rw [e, pk_us, hw i, if_neg (by omega), if_pos (by omega), show i - P + P = i by omega]
      · rw [pk_un e, hw x]
        by_cases z : x + P < i
        · rw [if_pos z, if_pos (by omega)]
        · rw [if_neg z, if_neg (by omega)]
  exact ⟨S * P - P + 1, key (S * P - P) P wv (by omega) (Nat.le_refl P) (fun x => by rw [if_neg (by omega)])⟩
end BX
end
section
section BX2
variable {P S T A : Nat} {dO dI sO sI lc wv : Nat → Int32}
theorem xf_rq1 {post : Int32 → St2 → Prop} {x y : Int32} (hx : x < 0 ∨ nI P ≤ x) (h : post (-2) (nI P, nI S, nI T, nI A, dO, dI, sO, sI, lc, wv)) : wpX_request post (nI P, nI S, nI T, nI A, dO, dI, sO, sI, lc, wv) x y := by
  unfold wpX_request
  dsimp only
  exact xf_port_f hx (br_t rfl h)
theorem xf_rq2 {post : Int32 → St2 → Prop} {i : Nat} {x : Int32} (hP : P ≤ 32) (hi : i < P) (hx : x < 0 ∨ nI P ≤ x) (h : post (-2) (nI P, nI S, nI T, nI A, dO, dI, sO, sI, lc, wv)) : wpX_request post (nI P, nI S, nI T, nI A, dO, dI, sO, sI, lc, wv) (nI i) x := by
  unfold wpX_request
  dsimp only
  exact xf_port_t hP hi (br_f (by decide) (xf_port_f hx (br_t rfl h)))
theorem xf_rq3 {post : Int32 → St2 → Prop} {i o : Nat} (hP : P ≤ 32) (hi : i < P) (ho : o < P) (h1 : ¬ dO i = -1) (h : post (-3) (nI P, nI S, nI T, nI A, dO, dI, sO, sI, lc, wv)) : wpX_request post (nI P, nI S, nI T, nI A, dO, dI, sO, sI, lc, wv) (nI i) (nI o) := by
  unfold wpX_request
  dsimp only
  exact xf_port_t hP hi (br_f (by decide) (xf_port_t hP ho (br_f (by decide) ⟨pk_in i 32 (by omega), br_f (by rw [nI_clamp (by omega)]; exact h1) h⟩)))
theorem xf_rq4 {post : Int32 → St2 → Prop} {i o : Nat} (hP : P ≤ 32) (hi : i < P) (ho : o < P) (h1 : dO i = -1) (h2 : ¬ dI o = -1) (h : post (-4) (nI P, nI S, nI T, nI A, dO, dI, sO, sI, lc, wv)) : wpX_request post (nI P, nI S, nI T, nI A, dO, dI, sO, sI, lc, wv) (nI i) (nI o) := by
  unfold wpX_request
  dsimp only
  exact xf_port_t hP hi (br_f (by decide) (xf_port_t hP ho (br_f (by decide) ⟨pk_in i 32 (by omega), br_t (by rw [nI_clamp (by omega)]; exact h1) ⟨pk_in o 32 (by omega), br_f (by rw [nI_clamp (by omega)]; exact h2) h⟩⟩)))
theorem xf_rq5 {post : Int32 → St2 → Prop} {i o : Nat} (hP : P ≤ 32) (hi : i < P) (ho : o < P) (h1 : dO i = -1) (h2 : dI o = -1) (h : post 0 (nI P, nI S, nI T, nI A, upd dO i (nI o), upd dI o (nI i), sO, sI, lc, wv)) : wpX_request post (nI P, nI S, nI T, nI A, dO, dI, sO, sI, lc, wv) (nI i) (nI o) := by
  unfold wpX_request
  dsimp only
  exact xf_port_t hP hi (br_f (by decide) (xf_port_t hP ho (br_f (by decide) ⟨pk_in i 32 (by omega), br_t (by rw [nI_clamp (by omega)]; exact h1) ⟨pk_in o 32 (by omega), br_t (by rw [nI_clamp (by omega)]; exact h2) (xf_add hP hi ho h)⟩⟩)))
theorem xf_wd1 {post : Int32 → St2 → Prop} {x : Int32} (hx : x < 0 ∨ nI P ≤ x) (h : post (-2) (nI P, nI S, nI T, nI A, dO, dI, sO, sI, lc, wv)) : wpX_withdraw post (nI P, nI S, nI T, nI A, dO, dI, sO, sI, lc, wv) x := by
  unfold wpX_withdraw
  dsimp only
  exact xf_port_f hx (br_t rfl h)
theorem xf_wd2 {post : Int32 → St2 → Prop} {i : Nat} (hP : P ≤ 32) (hi : i < P) (a : dO i = -1) (h : post (-1) (nI P, nI S, nI T, nI A, dO, dI, sO, sI, lc, wv)) : wpX_withdraw post (nI P, nI S, nI T, nI A, dO, dI, sO, sI, lc, wv) (nI i) := by
  unfold wpX_withdraw
  dsimp only
  exact xf_port_t hP hi (br_f (by decide) (bf_ld i rfl (by omega) (by decide) (br_t a h)))
theorem xf_wd3 {post : Int32 → St2 → Prop} {i o : Nat} (hP : P ≤ 32) (hi : i < P) (ho : o < P) (a : dO i = nI o) (h : post (nI o) (nI P, nI S, nI T, nI A, upd dO i (-1), upd dI o (-1), sO, sI, lc, wv)) : wpX_withdraw post (nI P, nI S, nI T, nI A, dO, dI, sO, sI, lc, wv) (nI i) := by
  unfold wpX_withdraw
  dsimp only
  exact xf_port_t hP hi (br_f (by decide) (bf_ld i rfl (by omega) (by decide) (by rw [a]; exact br_f (bf_ne1 (by omega)) (bf_st i rfl (by omega) (by decide) (bf_st o rfl (by omega) (by decide) h)))))
theorem xf_set0 {post : Int32 → St2 → Prop} {x : Int32} (hx : x < 0 ∨ nI T ≤ x) (h : post (-2) (nI P, nI S, nI T, nI A, dO, dI, sO, sI, lc, wv)) : wpX_set post (nI P, nI S, nI T, nI A, dO, dI, sO, sI, lc, wv) x := by
  unfold wpX_set
  dsimp only
  exact xf_slot_f hx (br_t rfl h)
theorem xf_load0 {post : Int32 → St2 → Prop} {x : Int32} (hx : x < 0 ∨ nI T ≤ x) (h : post (-2) (nI P, nI S, nI T, nI A, dO, dI, sO, sI, lc, wv)) : wpX_load post (nI P, nI S, nI T, nI A, dO, dI, sO, sI, lc, wv) x := by
  unfold wpX_load
  dsimp only
  exact xf_slot_f hx (br_t rfl h)
theorem xf_select0 {post : Int32 → St2 → Prop} {x : Int32} (hx : x < 0 ∨ nI T ≤ x) (h : post (-2) (nI P, nI S, nI T, nI A, dO, dI, sO, sI, lc, wv)) : wpX_select post (nI P, nI S, nI T, nI A, dO, dI, sO, sI, lc, wv) x := by
  unfold wpX_select
  dsimp only
  exact xf_slot_f hx (br_t rfl h)
theorem xf_select {post : Int32 → St2 → Prop} {s : Nat} (hT : T ≤ 4) (hs : s < T) (h : post 0 (nI P, nI S, nI T, nI s, dO, dI, sO, sI, lc, wv)) : wpX_select post (nI P, nI S, nI T, nI A, dO, dI, sO, sI, lc, wv) (nI s) := by
  unfold wpX_select
  dsimp only
  exact xf_slot_t hT hs (br_f (by decide) h)
theorem xf_route1 {post : Int32 → Prop} {x y : Int32} (hx : x < 0 ∨ nI T ≤ x) (h : post (-2)) : wpX_route post (nI P, nI S, nI T, nI A, dO, dI, sO, sI, lc, wv) x y := by
  unfold wpX_route
  dsimp only
  exact xf_slot_f hx (br_t rfl h)
theorem xf_route2 {post : Int32 → Prop} {s : Nat} {x : Int32} (hT : T ≤ 4) (hs : s < T) (hx : x < 0 ∨ nI P ≤ x) (h : post (-2)) : wpX_route post (nI P, nI S, nI T, nI A, dO, dI, sO, sI, lc, wv) (nI s) x := by
  unfold wpX_route
  dsimp only
  exact xf_slot_t hT hs (br_f (by decide) (xf_port_f hx (br_t rfl h)))
theorem xf_route {post : Int32 → Prop} {s i : Nat} (hP : P ≤ 32) (hT : T ≤ 4) (hs : s < T) (hi : i < P) (h : post (sO (s * P + i))) : wpX_route post (nI P, nI S, nI T, nI A, dO, dI, sO, sI, lc, wv) (nI s) (nI i) := by
  unfold wpX_route
  dsimp only
  exact xf_slot_t hT hs (br_f (by decide) (xf_port_t hP hi (br_f (by decide) (bf_rd (s * P + i) (bf_mi s P i) (bf_ix4 hs hT hi hP) (by decide) h))))
theorem xf_source1 {post : Int32 → Prop} {x y : Int32} (hx : x < 0 ∨ nI T ≤ x) (h : post (-2)) : wpX_source post (nI P, nI S, nI T, nI A, dO, dI, sO, sI, lc, wv) x y := by
  unfold wpX_source
  dsimp only
  exact xf_slot_f hx (br_t rfl h)
theorem xf_source2 {post : Int32 → Prop} {s : Nat} {x : Int32} (hT : T ≤ 4) (hs : s < T) (hx : x < 0 ∨ nI P ≤ x) (h : post (-2)) : wpX_source post (nI P, nI S, nI T, nI A, dO, dI, sO, sI, lc, wv) (nI s) x := by
  unfold wpX_source
  dsimp only
  exact xf_slot_t hT hs (br_f (by decide) (xf_port_f hx (br_t rfl h)))
theorem xf_source {post : Int32 → Prop} {s i : Nat} (hP : P ≤ 32) (hT : T ≤ 4) (hs : s < T) (hi : i < P) (h : post (sI (s * P + i))) : wpX_source post (nI P, nI S, nI T, nI A, dO, dI, sO, sI, lc, wv) (nI s) (nI i) := by
  unfold wpX_source
  dsimp only
  exact xf_slot_t hT hs (br_f (by decide) (xf_port_t hP hi (br_f (by decide) (bf_rd (s * P + i) (bf_mi s P i) (bf_ix4 hs hT hi hP) (by decide) h))))
theorem xf_latch1 {post : Int32 → St2 → Prop} {x y : Int32} (hx : x < 0 ∨ nI P ≤ x) (h : post (-2) (nI P, nI S, nI T, nI A, dO, dI, sO, sI, lc, wv)) : wpX_latch post (nI P, nI S, nI T, nI A, dO, dI, sO, sI, lc, wv) x y := by
  unfold wpX_latch
  dsimp only
  exact xf_port_f hx (br_t rfl h)
theorem xf_latch2 {post : Int32 → St2 → Prop} {i : Nat} {y : Int32} (hP : P ≤ 32) (hi : i < P) (h0 : y < 0) (h : post (-2) (nI P, nI S, nI T, nI A, dO, dI, sO, sI, lc, wv)) : wpX_latch post (nI P, nI S, nI T, nI A, dO, dI, sO, sI, lc, wv) (nI i) y := by
  unfold wpX_latch
  dsimp only
  exact xf_port_t hP hi (br_f (by decide) (br_f (Int32.not_le.mpr h0) h))
theorem xf_latch3 {post : Int32 → St2 → Prop} {i : Nat} {y : Int32} (hP : P ≤ 32) (hi : i < P) (h0 : ¬ y < 0) (h1 : ¬ lc i = -1) (h : post (-3) (nI P, nI S, nI T, nI A, dO, dI, sO, sI, lc, wv)) : wpX_latch post (nI P, nI S, nI T, nI A, dO, dI, sO, sI, lc, wv) (nI i) y := by
  unfold wpX_latch
  dsimp only
  exact xf_port_t hP hi (br_f (by decide) (br_t (Int32.not_lt.mp h0) ⟨pk_in i 32 (by omega), br_f (by rw [nI_clamp (by omega)]; exact h1) h⟩))
theorem xf_latch4 {post : Int32 → St2 → Prop} {i : Nat} {y : Int32} (hP : P ≤ 32) (hi : i < P) (h0 : ¬ y < 0) (h1 : lc i = -1) (h : post 0 (nI P, nI S, nI T, nI A, dO, dI, sO, sI, upd lc i y, wv)) : wpX_latch post (nI P, nI S, nI T, nI A, dO, dI, sO, sI, lc, wv) (nI i) y := by
  unfold wpX_latch
  dsimp only
  exact xf_port_t hP hi (br_f (by decide) (br_t (Int32.not_lt.mp h0) ⟨pk_in i 32 (by omega), br_t (by rw [nI_clamp (by omega)]; exact h1) (bf_st i rfl (by omega) (by decide) h)⟩))
theorem xf_output1 {post : Int32 → Prop} {x y : Int32} (hx : x < 0 ∨ nI P ≤ x) (h : post (-2)) : wpX_output post (nI P, nI S, nI T, nI A, dO, dI, sO, sI, lc, wv) x y := by
  unfold wpX_output
  dsimp only
  exact xf_port_f hx (br_t rfl h)
theorem xf_output2 {post : Int32 → Prop} {o : Nat} {x : Int32} (hP : P ≤ 32) (ho : o < P) (hx : x < 0 ∨ nI S ≤ x) (h : post (-2)) : wpX_output post (nI P, nI S, nI T, nI A, dO, dI, sO, sI, lc, wv) (nI o) x := by
  unfold wpX_output
  dsimp only
  exact xf_port_t hP ho (br_f (by decide) (br_c (fun _ => h) (fun z => br_f (fun w => absurd (hx.resolve_left z) (Int32.not_le.mpr w)) h)))
theorem xf_output {post : Int32 → Prop} {o q : Nat} (hP : P ≤ 32) (hS : S ≤ 9) (ho : o < P) (hq : q < S) (h : post (wv (q * P + o))) : wpX_output post (nI P, nI S, nI T, nI A, dO, dI, sO, sI, lc, wv) (nI o) (nI q) := by
  unfold wpX_output
  dsimp only
  exact xf_port_t hP ho (br_f (by decide) (br_f (nI_pos (by omega)) (br_t (nI_lt hq (by omega)) (bf_rd (q * P + o) (bf_mi q P o) (bf_ix9 hq hS ho hP) (by decide) h))))
theorem xf_drafted0 {post : Int32 → Prop} {x : Int32} (hx : x < 0 ∨ nI P ≤ x) (h : post (-2)) : wpX_drafted post (nI P, nI S, nI T, nI A, dO, dI, sO, sI, lc, wv) x := by
  unfold wpX_drafted
  dsimp only
  exact xf_port_f hx (br_t rfl h)
theorem xf_drafted {post : Int32 → Prop} {i : Nat} (hP : P ≤ 32) (hi : i < P) (h : post (dO i)) : wpX_drafted post (nI P, nI S, nI T, nI A, dO, dI, sO, sI, lc, wv) (nI i) := by
  unfold wpX_drafted
  dsimp only
  exact xf_port_t hP hi (br_f (by decide) (bf_rd i rfl (by omega) (by decide) h))
theorem xf_latched0 {post : Int32 → Prop} {x : Int32} (hx : x < 0 ∨ nI P ≤ x) (h : post (-2)) : wpX_latched post (nI P, nI S, nI T, nI A, dO, dI, sO, sI, lc, wv) x := by
  unfold wpX_latched
  dsimp only
  exact xf_port_f hx (br_t rfl h)
theorem xf_latched {post : Int32 → Prop} {i : Nat} (hP : P ≤ 32) (hi : i < P) (h : post (lc i)) : wpX_latched post (nI P, nI S, nI T, nI A, dO, dI, sO, sI, lc, wv) (nI i) := by
  unfold wpX_latched
  dsimp only
  exact xf_port_t hP hi (br_f (by decide) (bf_rd i rfl (by omega) (by decide) h))
end BX2
end
section
section BX3
variable {P S T A : Nat} {dO dI sO sI lc wv : Nat → Int32}
theorem xf_cnt_d {post : Int32 → Prop} {p e : Nat} (hp : p ≤ e) (he : e ≤ 32) (h : post (nI (bf_cn (fun j => dO (p + j)) (e - p)))) : wpX_countHeld post dO (nI p) (nI e) := by
  have key : ∀ m i, i + m = e - p → wX_countHeld_5 post (nI e) dO (m + 1) (nI (bf_cn (fun j => dO (p + j)) i)) (nI (p + i)) := by
    intro m
    induction m with
    | zero =>
      intro i hi
      have e1 : i = e - p := by omega
      subst e1
      exact pk_le e (p + (e - p)) (fun _ => h) (fun z => absurd z (by omega))
    | succ m ih =>
      intro i hi
      have t := ih (i + 1) (by omega)
      refine pk_le e (p + i) (fun z => absurd z (by omega)) (fun _ => ⟨pk_in (p + i) 32 (by omega), ?_⟩)
      rw [nI_clamp (by omega)]
      by_cases z : dO (p + i) = -1
      · rw [bf_cn_t (f := fun j => dO (p + j)) z] at t
        exact br_t z (nm_r (nI_1 (p + i)) t)
      · rw [bf_cn_f (f := fun j => dO (p + j)) z] at t
        exact br_f z (nm_r (nI_1 _) (nm_r (nI_1 (p + i)) t))
  exact ⟨e - p + 1, key (e - p) 0 (by omega)⟩
theorem xf_cnt_d0 {post : Int32 → Prop} {e : Nat} (he : e ≤ 32) (h : post (nI (bf_cn dO e))) : wpX_countHeld post dO 0 (nI e) := by
  have q : bf_cn (fun j => dO (0 + j)) (e - 0) = bf_cn dO e := bf_cn_cg e (fun j _ => by rw [Nat.zero_add])
  exact xf_cnt_d (p := 0) (Nat.zero_le e) he (by rw [q]; exact h)
theorem xf_cnt_w {post : Int32 → Prop} {p e : Nat} (hp : p ≤ e) (he : e ≤ 288) (h : post (nI (bf_cn (fun j => dO (p + j)) (e - p)))) : wpX_countHeld_2 post dO (nI p) (nI e) := by
  have key : ∀ m i, i + m = e - p → wX_countHeld_2_5 post (nI e) dO (m + 1) (nI (bf_cn (fun j => dO (p + j)) i)) (nI (p + i)) := by
    intro m
    induction m with
    | zero =>
      intro i hi
      have e1 : i = e - p := by omega
      subst e1
      exact pk_le e (p + (e - p)) (fun _ => h) (fun z => absurd z (by omega))
    | succ m ih =>
      intro i hi
      have t := ih (i + 1) (by omega)
      refine pk_le e (p + i) (fun z => absurd z (by omega)) (fun _ => ⟨pk_in (p + i) 288 (by omega), ?_⟩)
      rw [nI_clamp (by omega)]
      by_cases z : dO (p + i) = -1
      · rw [bf_cn_t (f := fun j => dO (p + j)) z] at t
        exact br_t z (nm_r (nI_1 (p + i)) t)
      · rw [bf_cn_f (f := fun j => dO (p + j)) z] at t
        exact br_f z (nm_r (nI_1 _) (nm_r (nI_1 (p + i)) t))
  exact ⟨e - p + 1, key (e - p) 0 (by omega)⟩
theorem xf_cnt_w0 {post : Int32 → Prop} {e : Nat} (he : e ≤ 288) (h : post (nI (bf_cn dO e))) : wpX_countHeld_2 post dO 0 (nI e) := by
  have q : bf_cn (fun j => dO (0 + j)) (e - 0) = bf_cn dO e := bf_cn_cg e (fun j _ => by rw [Nat.zero_add])
  exact xf_cnt_w (p := 0) (Nat.zero_le e) he (by rw [q]; exact h)
theorem xf_store {post : St2 → Prop} {s : Nat} (hP : P ≤ 32) (hT : T ≤ 4) (hs : s < T) (pd : bf_PD P dO dI)
    (h : ∀ a b, bf_CH P (s * P) dO dI a b → (∀ x, x < s * P ∨ s * P + P ≤ x → a x = sO x ∧ b x = sI x) → post (nI P, nI S, nI T, nI A, dO, dI, a, b, lc, wv)) : wpX_storeDraft post (nI P, nI S, nI T, nI A, dO, dI, sO, sI, lc, wv) (nI s) := by
  have key : ∀ m i f a b, i + m = P → bf_SI P (s * P) dO dI i f a b → (∀ x, x < s * P ∨ s * P + P ≤ x → a x = sO x ∧ b x = sI x) → wX_storeDraft_4 post (nI s) (nI P) (nI S) (nI T) (nI A) (m + 1) (nI f) (nI i) dO dI a b lc wv := by
    intro m
    induction m with
    | zero =>
      intro i f a b hi si fr
      have e1 : i = P := by omega
      subst e1
      exact pk_le i i (fun _ => h a b (bf_SI_end hP pd si) fr) (fun z => absurd z (by omega))
    | succ m ih =>
      intro i f a b hi si fr
      have hiP : i < P := by omega
      have join : ∀ g o, o < P → bf_SI P (s * P) dO dI (i + 1) g (upd a (s * P + i) (nI o)) (upd b (s * P + o) (nI i)) → wX_storeDraft_4 post (nI s) (nI P) (nI S) (nI T) (nI A) (m + 1) (nI g) (nI (i + 1)) dO dI (upd a (s * P + i) (nI o)) (upd b (s * P + o) (nI i)) lc wv := by
        intro g o ho si'
        refine ih (i + 1) g _ _ (by omega) si' (fun x hx => ?_)
        rw [pk_un (by omega), pk_un (by omega)]
        exact fr x hx
      refine pk_le P i (fun z => absurd z (by omega)) (fun _ => bf_ld i rfl (by omega) (by decide) ?_)
      by_cases e : dO i = -1
      · obtain ⟨o0, q1, q2, q3⟩ := bf_SI_ex si hiP e pd.2.2
        obtain ⟨o, ho, ⟨hfo, h2⟩, hl⟩ := bf_least (Q := fun o => f ≤ o ∧ dI o = -1) P ⟨o0, q2, q1, q3⟩
        have h3 : ∀ q, f ≤ q → q < o → ¬ dI q = -1 := fun q a1 a2 a3 => hl q a2 ⟨a1, a3⟩
        refine br_t e (xf_free hP hfo ho h2 h3 (nm_r (nI_1 o) ?_))
        exact bf_st (s * P + i) (bf_mi s P i) (bf_ix4 hs hT hiP hP) (by decide) (bf_st (s * P + o) (bf_mi s P o) (bf_ix4 hs hT ho hP) (by decide) (nm_r (nI_1 i) (join (o + 1) o ho (bf_SI_f hP si hiP hfo ho e h2 h3))))
      · rcases pd.1 i hiP with z | ⟨o, ho, h1, h2⟩
        · exact absurd z e
        · rw [h1]
          exact br_f (bf_ne1 (by omega)) (bf_st (s * P + i) (bf_mi s P i) (bf_ix4 hs hT hiP hP) (by decide) (bf_st (s * P + o) (bf_mi s P o) (bf_ix4 hs hT ho hP) (by decide) (nm_r (nI_1 i) (join f o ho (bf_SI_d hP si hiP ho h1 h2)))))
  exact ⟨P + 1, key P 0 0 sO sI (by omega) bf_SI_0 (fun x _ => ⟨rfl, rfl⟩)⟩
theorem xf_clear {post : Int32 → St2 → Prop} (hP : P ≤ 32) (h : ∀ a b, (∀ i, i < P → a i = -1) → (∀ i, i < P → b i = -1) → post (nI (bf_cn dO P)) (nI P, nI S, nI T, nI A, a, b, sO, sI, lc, wv)) : wpX_clear post (nI P, nI S, nI T, nI A, dO, dI, sO, sI, lc, wv) := by
  unfold wpX_clear
  dsimp only
  exact xf_cnt_d0 hP (xf_emptyDraft hP (fun a b ha hb => h a b ha hb))
theorem xf_set {post : Int32 → St2 → Prop} {s : Nat} (hP : P ≤ 32) (hT : T ≤ 4) (hs : s < T) (pd : bf_PD P dO dI)
    (h : ∀ a b, bf_CH P (s * P) dO dI a b → (∀ x, x < s * P ∨ s * P + P ≤ x → a x = sO x ∧ b x = sI x) → post (nI P - nI (bf_cn dO P)) (nI P, nI S, nI T, nI A, dO, dI, a, b, lc, wv)) : wpX_set post (nI P, nI S, nI T, nI A, dO, dI, sO, sI, lc, wv) (nI s) := by
  unfold wpX_set
  dsimp only
  exact xf_slot_t hT hs (br_f (by decide) (xf_store hP hT hs pd (fun a b hc hf => xf_cnt_d0 hP (h a b hc hf))))
theorem xf_load {post : Int32 → St2 → Prop} {s : Nat} (hP : P ≤ 32) (hT : T ≤ 4) (hs : s < T)
    (h : ∀ a b, (∀ i, i < P → a i = sO (s * P + i)) → (∀ i, i < P → b i = sI (s * P + i)) → post 0 (nI P, nI S, nI T, nI A, a, b, sO, sI, lc, wv)) : wpX_load post (nI P, nI S, nI T, nI A, dO, dI, sO, sI, lc, wv) (nI s) := by
  have key : ∀ m i a b, i + m = P → (∀ j, j < i → a j = sO (s * P + j)) → (∀ j, j < i → b j = sI (s * P + j)) → wX_load_13 post (nI s) (nI P) (nI S) (nI T) (nI A) (m + 1) (nI i) a b sO sI lc wv := by
    intro m
    induction m with
    | zero =>
      intro i a b hi ha hb
      have e1 : i = P := by omega
      subst e1
      exact pk_le i i (fun _ => h a b ha hb) (fun z => absurd z (by omega))
    | succ m ih =>
      intro i a b hi ha hb
      have hx := bf_ix4 (i := i) hs hT (by omega) hP
      refine pk_le P i (fun z => absurd z (by omega)) (fun _ => ⟨pk_in (s * P + i) 128 hx (bf_mi s P i), bf_st i rfl (by omega) (by decide) ⟨pk_in (s * P + i) 128 hx (bf_mi s P i), bf_st i rfl (by omega) (by decide) (nm_r (nI_1 i) ?_)⟩⟩)
      rw [bf_mi s P i, nI_clamp (by omega)]
      exact ih (i + 1) _ _ (by omega) (bf_fl (f := fun j => sO (s * P + j)) ha rfl) (bf_fl (f := fun j => sI (s * P + j)) hb rfl)
  unfold wpX_load
  dsimp only
  exact xf_slot_t hT hs (br_f (by decide) ⟨P + 1, key P 0 dO dI (by omega) (fun j hj => absurd hj (by omega)) (fun j hj => absurd hj (by omega))⟩)
theorem xf_launch {post : St2 → Prop} (hP : P ≤ 32) (hS1 : 1 ≤ S) (hS : S ≤ 9) (hT : T ≤ 4) (hA : A < T) (pm : bf_PM P sO sI (A * P))
    (h : ∀ w, (∀ x, x < (S - 1) * P → w x = wv x) → (∀ o, o < P → w ((S - 1) * P + o) = lc (sI (A * P + o)).toNatClampNeg) → post (nI P, nI S, nI T, nI A, dO, dI, sO, sI, lc, w)) : wpX_launchLatch post (nI P, nI S, nI T, nI A, dO, dI, sO, sI, lc, wv) := by
  have hb : (S - 1) * P + P ≤ 288 := by
    have : S * P ≤ 9 * 32 := Nat.mul_le_mul hS hP
    have e : S * P = (S - 1) * P + P := by
      obtain ⟨r, rfl⟩ : ∃ r, S = r + 1 := ⟨S - 1, by omega⟩
      rw [Nat.add_mul, Nat.one_mul, Nat.add_sub_cancel]
    omega
  have key : ∀ m i w, i + m = P → (∀ x, x < (S - 1) * P → w x = wv x) → (∀ o, o < i → w ((S - 1) * P + o) = lc (sI (A * P + o)).toNatClampNeg) → wX_launchLatch_14 post (nI ((S - 1) * P)) (nI P) (nI S) (nI T) (nI A) (m + 1) (nI i) dO dI sO sI lc w := by
    intro m
    induction m with
    | zero =>
      intro i w hi h1 h2
      have e1 : i = P := by omega
      subst e1
      exact pk_le i i (fun _ => h w h1 h2) (fun z => absurd z (by omega))
    | succ m ih =>
      intro i w hi h1 h2
      obtain ⟨j, hj, a, _⟩ := pm.2 i (by omega)
      have hx := bf_ix4 (i := i) hA hT (by omega) hP
      refine pk_le P i (fun z => absurd z (by omega)) (fun _ => bf_ld (A * P + i) (bf_mi A P i) hx (by decide) ?_)
      rw [a]
      refine ⟨pk_in j 32 (by omega), bf_st ((S - 1) * P + i) (nI_add _ _) (by omega) (by decide) (nm_r (nI_1 i) (ih (i + 1) _ (by omega) (fun x hx2 => ?_) (fun o ho => ?_)))⟩
      · rw [pk_un (by omega)]
        exact h1 x hx2
      · by_cases e : o = i
        · rw [e, pk_us, a]
        · rw [pk_un (by omega)]
          exact h2 o (by omega)
  unfold wpX_launchLatch
  dsimp only
  refine nm_r (e' := nI ((S - 1) * P)) ?_ ⟨P + 1, key P 0 wv (by omega) (fun x _ => rfl) (fun o ho => absurd ho (by omega))⟩
  rw [show nI S - 1 = nI (S - 1) from pk_sub (b := 1) hS1, pk_mul]
theorem xf_tick {post : Int32 → St2 → Prop} (hP : P ≤ 32) (hS1 : 1 ≤ S) (hS : S ≤ 9) (hT : T ≤ 4) (hA : A < T) (pm : bf_PM P sO sI (A * P))
    (h : ∀ w l, (∀ x, x + P < S * P → w x = wv (x + P)) → (∀ o, o < P → w ((S - 1) * P + o) = lc (sI (A * P + o)).toNatClampNeg) → (∀ i, i < P → l i = -1) → post (nI (bf_cn w P)) (nI P, nI S, nI T, nI A, dO, dI, sO, sI, l, w)) : wpX_tick post (nI P, nI S, nI T, nI A, dO, dI, sO, sI, lc, wv) := by
  unfold wpX_tick
  dsimp only
  have e : S * P = (S - 1) * P + P := by
    obtain ⟨r, rfl⟩ : ∃ r, S = r + 1 := ⟨S - 1, by omega⟩
    rw [Nat.add_mul, Nat.one_mul, Nat.add_sub_cancel]
  have hb : S * P ≤ 9 * 32 := Nat.mul_le_mul hS hP
  refine xf_advance hP hS hS1 (fun w hw => xf_launch hP hS1 hS hT hA pm (fun w2 h1 h2 => xf_emptyLatch hP (fun l hl => ?_)))
  exact xf_cnt_w0 (by omega) (h w2 l (fun x hx => by rw [h1 x (by omega)]; exact hw x hx) h2 hl)
theorem xf_fill {post : Int32 → St2 → Prop} {mu ad : Int32} (hP : P ≤ 32) (hL : ∃ L, P = 2 ^ L)
    (h : post (nI (bf_fz P mu ad dO dI P).2.2) (nI P, nI S, nI T, nI A, (bf_fz P mu ad dO dI P).1, (bf_fz P mu ad dO dI P).2.1, sO, sI, lc, wv)) : wpX_fill post (nI P, nI S, nI T, nI A, dO, dI, sO, sI, lc, wv) mu ad := by
  have key : ∀ m i, i + m = P → wX_fill_5 post mu ad (m + 1) (nI (bf_fz P mu ad dO dI i).2.2) (nI i) (nI P) (nI S) (nI T) (nI A) (bf_fz P mu ad dO dI i).1 (bf_fz P mu ad dO dI i).2.1 sO sI lc wv := by
    intro m
    induction m with
    | zero =>
      intro i hi
      have e1 : i = P := by omega
      subst e1
      exact pk_le i i (fun _ => h) (fun z => absurd z (by omega))
    | succ m ih =>
      intro i hi
      have t := ih (i + 1) (by omega)
      have ho : bf_out P mu ad i < P := bf_out_lt hL
      refine pk_le P i (fun z => absurd z (by omega)) (fun _ => nm_r (bf_out_e hP hL) ⟨pk_in i 32 (by omega), ?_⟩)
      rw [nI_clamp (n := i) (by omega)]
      by_cases h1 : (bf_fz P mu ad dO dI i).1 i = -1
      · refine br_t h1 ⟨pk_in (bf_out P mu ad i) 32 (by omega), ?_⟩
        rw [nI_clamp (n := bf_out P mu ad i) (by omega)]
        by_cases h2 : (bf_fz P mu ad dO dI i).2.1 (bf_out P mu ad i) = -1
        · rw [bf_fz_t h1 h2] at t
          exact br_t h2 (xf_add hP (by omega) ho (nm_r (nI_1 _) (nm_r (nI_1 i) t)))
        · rw [bf_fz_f (fun z => h2 z.2)] at t
          exact br_f h2 (nm_r (nI_1 i) t)
      · rw [bf_fz_f (fun z => h1 z.1)] at t
        exact br_f h1 (nm_r (nI_1 i) t)
  exact ⟨P + 1, key P 0 (by omega)⟩
end BX3
/-! the constructors -/
def bf_cl (x : Int32) (M : Nat) : Nat := if 1 ≤ x then (if x ≤ nI M then x.toNatClampNeg else M) else 1
theorem bf_cl_c (x : Int32) {M : Nat} (hM : M < 2 ^ 31) (hM1 : 1 ≤ M) : (1 ≤ bf_cl x M ∧ bf_cl x M ≤ M) ∧ ((1 ≤ x ∧ x ≤ nI M ∧ x = nI (bf_cl x M)) ∨ (1 ≤ x ∧ ¬ x ≤ nI M ∧ bf_cl x M = M) ∨ (¬ 1 ≤ x ∧ bf_cl x M = 1)) := by
  by_cases h : 1 ≤ x
  · by_cases h2 : x ≤ nI M
    · have h0 : ¬ x < 0 := fun z => absurd (Int32.lt_of_le_of_lt h z) (by decide)
      obtain ⟨j, hj, rfl⟩ := nI_of h0
      have e : bf_cl (nI j) M = j := by
        unfold bf_cl
        rw [if_pos h, if_pos h2, nI_clamp hj]
      have h' : nI 1 ≤ nI j := h
      rw [nI_leI (by omega) hj] at h'
      have h2' := h2
      rw [nI_leI hj hM] at h2'
      rw [e]
      exact ⟨⟨h', h2'⟩, Or.inl ⟨h, h2, rfl⟩⟩
    · have e : bf_cl x M = M := by
        unfold bf_cl
        rw [if_pos h, if_neg h2]
      rw [e]
      exact ⟨⟨hM1, Nat.le_refl M⟩, Or.inr (Or.inl ⟨h, h2, rfl⟩)⟩
  · have e : bf_cl x M = 1 := by
      unfold bf_cl
      rw [if_neg h]
    rw [e]
    exact ⟨⟨Nat.le_refl 1, hM1⟩, Or.inr (Or.inr ⟨h, rfl⟩)⟩
theorem bf_at {Q : Int32 → Prop} {x y : Int32} (e : x = y) (h : Q y) : Q x := by rw [e]; exact h
theorem xf_clamp {post : Int32 → Prop} {x : Int32} (M : Nat) (hM : M < 2 ^ 31) (hM1 : 1 ≤ M) (h : post (nI (bf_cl x M))) : wpX_clampFromOne post () x (nI M) := by
  rcases (bf_cl_c x hM hM1).2 with ⟨a, b, c⟩ | ⟨a, b, c⟩ | ⟨a, c⟩
  · exact br_t a (br_t b (bf_at c h))
  · rw [c] at h
    exact br_t a (br_f b h)
  · rw [c] at h
    exact br_f a h
theorem bf_shl {L : Nat} (h1 : 1 ≤ L) (h5 : L ≤ 5) : (1 : Int32) <<< (nI L &&& 31) = nI (2 ^ L) := by
  rcases (by omega : L = 1 ∨ L = 2 ∨ L = 3 ∨ L = 4 ∨ L = 5) with rfl | rfl | rfl | rfl | rfl <;> decide
theorem bf_2l {L : Nat} (h1 : 1 ≤ L) : (2 : Int32) * nI L - 1 = nI (2 * L - 1) := by
  rw [show (2 : Int32) * nI L = nI (2 * L) from pk_mul 2 L]
  exact pk_sub (b := 1) (by omega)
theorem bf_H0 {L T : Nat} (h1 : 1 ≤ L) (h5 : L ≤ 5) (t1 : 1 ≤ T) (t4 : T ≤ 4) : bf_H (2 ^ L) (2 * L - 1) T 0 := by
  refine ⟨?_, ?_, by omega, by omega, t1, t4, by omega, L, rfl⟩
  · exact Nat.pow_le_pow_right (n := 2) (by omega) h1
  · have z : 2 ^ L ≤ 2 ^ 5 := Nat.pow_le_pow_right (by omega) h5
    exact z
theorem xf_init {post : St2 → Prop} {x y : Int32} {P S T : Nat} (hP' : P = 2 ^ bf_cl x 5) (hS' : S = 2 * bf_cl x 5 - 1) (hT' : T = bf_cl y 4)
    (h : ∀ a b c e l w, (∀ i, i < P → a i = -1) → (∀ i, i < P → b i = -1) → (∀ t, t < T → bf_PM P c e (t * P) ∧ ∀ i, i < P → c (t * P + i) = nI i) → (∀ i, i < P → l i = -1) → (∀ i, i < S * P → w i = -1) → post (nI P, nI S, nI T, nI 0, a, b, c, e, l, w)) : wpX_init post 6 640 (0, 0, 0, 0) x y := by
  have rx := (bf_cl_c x (M := 5) (by decide) (by decide)).1
  have ry := (bf_cl_c y (M := 4) (by decide) (by decide)).1
  have H := bf_H0 rx.1 rx.2 ry.1 ry.2
  rw [← hP', ← hS', ← hT'] at H
  have hP : P ≤ 32 := H.2.1
  have hS : S ≤ 9 := H.2.2.2.1
  have hT : T ≤ 4 := H.2.2.2.2.2.1
  have key : ∀ a b l w, (∀ i, i < P → a i = -1) → (∀ i, i < P → b i = -1) → (∀ i, i < P → l i = -1) → (∀ i, i < S * P → w i = -1) →
      ∀ m s c e, s + m = T → (∀ t, t < s → bf_PM P c e (t * P) ∧ ∀ i, i < P → c (t * P + i) = nI i) → wX_init_106 post 6 640 6 640 (m + 1) (nI s) (nI P) (nI S) (nI T) (nI 0) a b c e l w := by
    intro a b l w ha hb hl hw m
    induction m with
    | zero =>
      intro s c e hs hc
      have e1 : s = T := by omega
      subst e1
      exact pk_le s s (fun _ => h a b c e l w ha hb hc hl hw) (fun z => absurd z (by omega))
    | succ m ih =>
      intro s c e hs hc
      refine pk_le T s (fun z => absurd z (by omega)) (fun _ => xf_store hP hT (by omega) (bf_PD_nil ha hb) (fun c' e' hc' hf => nm_r (nI_1 s) (ih (s + 1) c' e' (by omega) (fun t ht => ?_))))
      by_cases et : t = s
      · subst et
        exact ⟨hc'.1, fun i hi => bf_CH_id hP hc' ha hb P i hi hi⟩
      · refine ⟨bf_PM_cg (hc t (by omega)).1 (fun x h1 h2 => hf x (bf_apart et h1 h2)), fun i hi => ?_⟩
        rw [(hf (t * P + i) (bf_apart et (by omega) (by omega))).1]
        exact (hc t (by omega)).2 i hi
  unfold wpX_init
  refine ⟨by decide, by decide, by decide, by decide, by decide, by decide, by decide, by decide, by decide, by decide, by decide, by decide, ?_⟩
  refine xf_clamp 5 (by decide) (by decide) (nm_r (e' := nI P) (by rw [hP']; exact bf_shl rx.1 rx.2) (nm_r (e' := nI S) (by rw [hS']; exact bf_2l rx.1) (xf_clamp 4 (by decide) (by decide) ?_)))
  rw [← hT']
  refine xf_emptyDraft (A := 0) hP (fun a b ha hb => xf_emptyLatch (A := 0) hP (fun l hl => xf_emptyWaves (A := 0) hP hS (fun w hw => ?_)))
  exact ⟨T + 1, key a b l w ha hb hl hw T 0 _ _ (by omega) (fun t ht => absurd ht (by omega))⟩
end
section
/-! sums of 64 bits: over a permutation the sum is the same -/
def bf_sm (f : Nat → Int64) : Nat → Int64
  | 0 => 0
  | n + 1 => bf_sm f n + f n
theorem bf_sm_s (f : Nat → Int64) (n : Nat) : bf_sm f (n + 1) = bf_sm f n + f n := rfl
theorem bf_sm_cg {f g : Nat → Int64} : ∀ n, (∀ j, j < n → f j = g j) → bf_sm f n = bf_sm g n := by
  intro n
  induction n with
  | zero => intro _; rfl
  | succ n ih =>
    intro h
    rw [bf_sm_s, bf_sm_s, ih (fun j hj => h j (by omega)), h n (by omega)]
theorem bf_sm_0 : ∀ n, bf_sm (fun _ => 0) n = 0 := by
  intro n
  induction n with
  | zero => rfl
  | succ n ih => rw [bf_sm_s, ih]; rfl
theorem bf_sm_add (f g : Nat → Int64) : ∀ n, bf_sm (fun i => f i + g i) n = bf_sm f n + bf_sm g n := by
  intro n
  induction n with
  | zero => rfl
  | succ n ih =>
    rw [bf_sm_s, bf_sm_s, bf_sm_s, ih]
    show bf_sm f n + bf_sm g n + (f n + g n) = bf_sm f n + f n + (bf_sm g n + g n)
    rw [Int64.add_assoc, Int64.add_assoc, ← Int64.add_assoc (bf_sm g n), Int64.add_comm (bf_sm g n) (f n), Int64.add_assoc]
theorem bf_sm_sw (h : Nat → Nat → Int64) (m : Nat) : ∀ n, bf_sm (fun i => bf_sm (fun o => h i o) m) n = bf_sm (fun o => bf_sm (fun i => h i o) n) m := by
  intro n
  induction n with
  | zero => exact (bf_sm_0 m).symm
  | succ n ih =>
    rw [bf_sm_s, ih, ← bf_sm_add]
    rfl
theorem bf_sm_1 {k : Nat} (c : Int64) : ∀ n, bf_sm (fun i => if i = k then c else 0) n = if k < n then c else 0 := by
  intro n
  induction n with
  | zero => rw [if_neg (by omega)]; rfl
  | succ n ih =>
    rw [bf_sm_s, ih]
    by_cases e : n = k
    · rw [if_neg (by omega), if_pos e, if_pos (by omega), Int64.zero_add]
    · rw [if_neg e, Int64.add_zero]
      by_cases e2 : k < n
      · rw [if_pos e2, if_pos (by omega)]
      · rw [if_neg e2, if_neg (by omega)]
theorem bf_sm_pm {n : Nat} {g : Nat → Int64} {si ta : Nat → Nat} (h1 : ∀ i, i < n → si i < n ∧ ta (si i) = i) (h2 : ∀ o, o < n → ta o < n ∧ si (ta o) = o) : bf_sm g n = bf_sm (fun o => g (ta o)) n := by
  have a : bf_sm g n = bf_sm (fun i => bf_sm (fun o => if o = si i then g i else 0) n) n :=
    bf_sm_cg n (fun i hi => by rw [bf_sm_1, if_pos (h1 i hi).1])
  have b : bf_sm (fun o => g (ta o)) n = bf_sm (fun o => bf_sm (fun i => if o = si i then g i else 0) n) n :=
    bf_sm_cg n (fun o ho => by
      have c : bf_sm (fun i => if o = si i then g i else 0) n = bf_sm (fun i => if i = ta o then g (ta o) else 0) n :=
        bf_sm_cg n (fun i hi => by
          by_cases e : i = ta o
          · rw [if_pos e, e, if_pos (h2 o ho).2.symm]
          · rw [if_neg e, if_neg (fun z => e (by rw [z]; exact (h1 i hi).2.symm))])
      rw [c, bf_sm_1, if_pos (h2 o ho).1])
  rw [a, b]
  exact bf_sm_sw (fun i o => if o = si i then g i else 0) n n
end
section
/-! the law's small methods, and the class's calls as the law needs them -/
def bf_mx (p0 p1 : Int32) : Int64 :=
  (fun x4 : Int64 => x4 ^^^ ((x4.toUInt64 >>> ((31 : Int32).toInt64.toUInt64 &&& Int64.toUInt64 63)).toInt64))
    ((fun x3 : Int64 => (x3 ^^^ ((x3.toUInt64 >>> ((27 : Int32).toInt64.toUInt64 &&& Int64.toUInt64 63)).toInt64)) * (-7723592293110705685))
      ((fun x2 : Int64 => (x2 ^^^ ((x2.toUInt64 >>> ((30 : Int32).toInt64.toUInt64 &&& Int64.toUInt64 63)).toInt64)) * (-4658895280553007687))
        (((p0.toInt64 <<< ((32 : Int32).toInt64 &&& 63)) ^^^ (p1.toInt64 &&& 4294967295)) + (-7046029254386353131))))
theorem qf_mix {post : Int64 → Prop} {o v : Int32} (h : post (bf_mx o v)) : wpL_mix post () o v := by
  unfold wpL_mix
  intro x1 e1 x2 e2 x3 e3 x4 e4
  subst e4
  subst e3
  subst e2
  subst e1
  exact h
theorem qf_cell {post : Int32 → Prop} {L : Nat} {xs : Nat → Int32} (c : Nat) (hL : L ≤ 260) (hc : c < 2 ^ 31) (h : ∀ r, post r) : wpL_cell post L xs () (nI c) :=
  pk_le L c (fun _ => h 0) (fun z => ⟨pk_in c L z, h _⟩)
theorem qf_tail {post : Int32 → Prop} {p : Int32} (h : ∀ r, post r) : wpL_tailOp post () p :=
  br_c (fun _ => h _) (fun _ => br_c (fun _ => h _) (fun _ => br_c (fun _ => h _) (fun _ => br_c (fun _ => h _) (fun _ => br_c (fun _ => h _) (fun _ => h _)))))
def bf_pk (h0 h1 h2 h3 h4 h5 h6 h7 h8 : Int64) : Nat → Int64
  | 0 => h0
  | 1 => h1
  | 2 => h2
  | 3 => h3
  | 4 => h4
  | 5 => h5
  | 6 => h6
  | 7 => h7
  | _ => h8
theorem qf_pick {post : Int64 → Prop} {h0 h1 h2 h3 h4 h5 h6 h7 h8 : Int64} {j : Nat} (hj : j < 9) (h : post (bf_pk h0 h1 h2 h3 h4 h5 h6 h7 h8 j)) : wpL_pick post () (nI j) h0 h1 h2 h3 h4 h5 h6 h7 h8 := by
  rcases (by omega : j = 0 ∨ j = 1 ∨ j = 2 ∨ j = 3 ∨ j = 4 ∨ j = 5 ∨ j = 6 ∨ j = 7 ∨ j = 8) with rfl | rfl | rfl | rfl | rfl | rfl | rfl | rfl | rfl
  · exact (br_t rfl h)
  · exact (br_f (by decide) (br_t rfl h))
  · exact (br_f (by decide) (br_f (by decide) (br_t rfl h)))
  · exact (br_f (by decide) (br_f (by decide) (br_f (by decide) (br_t rfl h))))
  · exact (br_f (by decide) (br_f (by decide) (br_f (by decide) (br_f (by decide) (br_t rfl h)))))
  · exact (br_f (by decide) (br_f (by decide) (br_f (by decide) (br_f (by decide) (br_f (by decide) (br_t rfl h))))))
  · exact (br_f (by decide) (br_f (by decide) (br_f (by decide) (br_f (by decide) (br_f (by decide) (br_f (by decide) (br_t rfl h)))))))
  · exact (br_f (by decide) (br_f (by decide) (br_f (by decide) (br_f (by decide) (br_f (by decide) (br_f (by decide) (br_f (by decide) (br_t rfl h))))))))
  · exact (br_f (by decide) (br_f (by decide) (br_f (by decide) (br_f (by decide) (br_f (by decide) (br_f (by decide) (br_f (by decide) (br_f (by decide) h))))))))
theorem bf_pk_s {x h0 h1 h2 h3 h4 h5 h6 h7 h8 : Int64} {j : Nat} (hj : j < 8) : bf_pk x h0 h1 h2 h3 h4 h5 h6 h7 (j + 1) = bf_pk h0 h1 h2 h3 h4 h5 h6 h7 h8 j := by
  rcases (by omega : j = 0 ∨ j = 1 ∨ j = 2 ∨ j = 3 ∨ j = 4 ∨ j = 5 ∨ j = 6 ∨ j = 7) with rfl | rfl | rfl | rfl | rfl | rfl | rfl | rfl <;> rfl
/-- the last waves' sums -/
def bf_G (P S : Nat) (wv : Nat → Int32) (h : Nat → Int64) (mk : Nat) : Prop := ∀ j, j < S → j < mk → bf_sm (fun o => bf_mx (nI o) (wv ((S - 1 - j) * P + o))) P = h j
theorem bf_G_tick {P S b mk : Nat} {h0 h1 h2 h3 h4 h5 h6 h7 h8 : Int64} {wv w lc sO sI : Nat → Int32} (hP : P ≤ 32) (hS : S ≤ 9) (G : bf_G P S wv (bf_pk h0 h1 h2 h3 h4 h5 h6 h7 h8) mk) (pm : bf_PM P sO sI b)
    (X1 : ∀ x, x + P < S * P → w x = wv (x + P)) (X2 : ∀ o, o < P → w ((S - 1) * P + o) = lc (sI (b + o)).toNatClampNeg) :
    bf_G P S w (bf_pk (bf_sm (fun i => bf_mx (sO (b + i)) (lc i)) P) h0 h1 h2 h3 h4 h5 h6 h7) (mk + 1) := by
  intro j hj hm
  cases j with
  | zero =>
    have q : bf_sm (fun i => bf_mx (sO (b + i)) (lc i)) P = bf_sm (fun o => (fun i => bf_mx (sO (b + i)) (lc i)) (sI (b + o)).toNatClampNeg) P :=
      bf_sm_pm (si := fun i => (sO (b + i)).toNatClampNeg) (ta := fun o => (sI (b + o)).toNatClampNeg) (fun i hi => by
        obtain ⟨o, ho, a1, a2⟩ := pm.1 i hi
        show (sO (b + i)).toNatClampNeg < P ∧ (sI (b + (sO (b + i)).toNatClampNeg)).toNatClampNeg = i
        rw [a1, nI_clamp (by omega), a2, nI_clamp (by omega)]
        exact ⟨ho, rfl⟩) (fun o ho => by
        obtain ⟨i, hi, a1, a2⟩ := pm.2 o ho
        show (sI (b + o)).toNatClampNeg < P ∧ (sO (b + (sI (b + o)).toNatClampNeg)).toNatClampNeg = o
        rw [a1, nI_clamp (by omega), a2, nI_clamp (by omega)]
        exact ⟨hi, rfl⟩)
    show bf_sm (fun o => bf_mx (nI o) (w ((S - 1 - 0) * P + o))) P = bf_sm (fun i => bf_mx (sO (b + i)) (lc i)) P
    rw [q]
    refine bf_sm_cg P (fun o ho => ?_)
    obtain ⟨i, hi, a1, a2⟩ := pm.2 o ho
    show bf_mx (nI o) (w ((S - 1 - 0) * P + o)) = bf_mx (sO (b + (sI (b + o)).toNatClampNeg)) (lc (sI (b + o)).toNatClampNeg)
    rw [Nat.sub_zero, X2 o ho, a1, nI_clamp (by omega), a2]
  | succ j =>
    rw [bf_pk_s (by omega), ← G j (by omega) (by omega)]
    refine bf_sm_cg P (fun o ho => ?_)
    have e : (S - 1 - (j + 1)) * P + o + P = (S - 1 - j) * P + o := by
      rw [show S - 1 - j = (S - 1 - (j + 1)) + 1 by omega, Nat.add_mul, Nat.one_mul]
      omega
    show bf_mx (nI o) (w ((S - 1 - (j + 1)) * P + o)) = bf_mx (nI o) (wv ((S - 1 - j) * P + o))
    rw [X1 _ (by rw [e]; exact bf_ix (by omega) ho), e]
def bf_J (P S T A : Nat) (dO dI sO sI : Nat → Int32) : Prop := bf_H P S T A ∧ bf_PD P dO dI ∧ ∀ s, s < T → bf_PM P sO sI (s * P)
theorem bf_PMs {P T s : Nat} {sO sI a b : Nat → Int32} (h : ∀ t, t < T → bf_PM P sO sI (t * P)) (hc : bf_PM P a b (s * P)) (hf : ∀ x, x < s * P ∨ s * P + P ≤ x → a x = sO x ∧ b x = sI x) : ∀ t, t < T → bf_PM P a b (t * P) := by
  intro t ht
  by_cases e : t = s
  · rw [e]
    exact hc
  · exact bf_PM_cg (h t ht) (fun x h1 h2 => hf x (bf_apart e h1 h2))
theorem bf_am {P : Nat} (x : Int32) (hP : P ≤ 32) (hL : ∃ l, P = 2 ^ l) : ∃ j, j < P ∧ x &&& (nI P - 1) = nI j := by
  obtain ⟨l, rfl⟩ := hL
  have h1 : 1 ≤ 2 ^ l := Nat.two_pow_pos l
  have e : nI (2 ^ l) - 1 = nI (2 ^ l - 1) := pk_sub (b := 1) h1
  rw [e]
  exact pk_andE x l (pk_tn (by omega))
theorem bf_md {T : Nat} (x : Int32) (h1 : 1 ≤ T) (h4 : T ≤ 4) : ∃ s, s < T ∧ (x &&& 2147483647) - (x &&& 2147483647) / nI T * nI T = nI s := by
  have e : x &&& 2147483647 = nI (x.toBitVec.toNat % 2 ^ 31) := pk_and x 31 (by decide)
  rw [e, pk_rem (Nat.mod_lt _ (by decide)) (by omega) (by omega)]
  exact ⟨_, Nat.mod_lt _ (by omega), rfl⟩
section QX
variable {P S T A : Nat} {dO dI sO sI lc wv : Nat → Int32}
theorem qf_request {post : Int32 → St2 → Prop} {i o : Nat} (hP : P ≤ 32) (pd : bf_PD P dO dI) (hi : i < P) (ho : o < P) (h : ∀ r a b, bf_PD P a b → post r (nI P, nI S, nI T, nI A, a, b, sO, sI, lc, wv)) : wpX_request post (nI P, nI S, nI T, nI A, dO, dI, sO, sI, lc, wv) (nI i) (nI o) := by
  by_cases h1 : dO i = -1
  · by_cases h2 : dI o = -1
    · exact xf_rq5 hP hi ho h1 h2 (h _ _ _ (bf_PD_add pd hP hi ho h1 h2))
    · exact xf_rq4 hP hi ho h1 h2 (h _ _ _ pd)
  · exact xf_rq3 hP hi ho h1 (h _ _ _ pd)
theorem qf_withdraw {post : Int32 → St2 → Prop} {i : Nat} (hP : P ≤ 32) (pd : bf_PD P dO dI) (hi : i < P) (h : ∀ r a b, bf_PD P a b → post r (nI P, nI S, nI T, nI A, a, b, sO, sI, lc, wv)) : wpX_withdraw post (nI P, nI S, nI T, nI A, dO, dI, sO, sI, lc, wv) (nI i) := by
  rcases pd.1 i hi with a | ⟨o, ho, a, c⟩
  · exact xf_wd2 hP hi a (h _ _ _ pd)
  · exact xf_wd3 hP hi ho a (h _ _ _ (bf_PD_del pd hP hi ho a c))
theorem qf_latch {post : Int32 → St2 → Prop} {i : Nat} {y : Int32} (hP : P ≤ 32) (hi : i < P) (h : ∀ r l, post r (nI P, nI S, nI T, nI A, dO, dI, sO, sI, l, wv)) : wpX_latch post (nI P, nI S, nI T, nI A, dO, dI, sO, sI, lc, wv) (nI i) y := by
  by_cases h0 : y < 0
  · exact xf_latch2 hP hi h0 (h _ _)
  · by_cases h1 : lc i = -1
    · exact xf_latch4 hP hi h0 h1 (h _ _)
    · exact xf_latch3 hP hi h0 h1 (h _ _)
theorem qf_info0 {post : Int32 → Prop} (h : post (nI P)) : wpX_info post (nI P, nI S, nI T, nI A, dO, dI, sO, sI, lc, wv) 0 := br_f (by decide) (br_f (by decide) (br_t rfl h))
theorem qf_info1 {post : Int32 → Prop} (h : post (nI S)) : wpX_info post (nI P, nI S, nI T, nI A, dO, dI, sO, sI, lc, wv) 1 := br_f (by decide) (br_f (by decide) (br_f (by decide) (br_t rfl h)))
theorem qf_info2 {post : Int32 → Prop} (h : post (nI T)) : wpX_info post (nI P, nI S, nI T, nI A, dO, dI, sO, sI, lc, wv) 2 := br_f (by decide) (br_f (by decide) (br_f (by decide) (br_f (by decide) (br_t rfl h))))
theorem qf_info3 {post : Int32 → Prop} (h : post (nI A)) : wpX_info post (nI P, nI S, nI T, nI A, dO, dI, sO, sI, lc, wv) 3 := br_f (by decide) (br_f (by decide) (br_f (by decide) (br_f (by decide) (br_f (by decide) (br_t rfl h)))))
end QX
end
section
/-! the law's checks after a step -/
abbrev bf_JT : Type := Int64 → Int64 → Int64 → Int64 → Int64 → Int64 → Int64 → Int64 → Int64 → Int32 → Int32 → Int32 → Int32 → Int32 → Int32 → (Nat → Int32) → (Nat → Int32) → (Nat → Int32) → (Nat → Int32) → (Nat → Int32) → (Nat → Int32) → Prop
/-- what the law's loop asks from the next step on -/
def bf_K (P S T st : Nat) (J : bf_JT) : Prop := ∀ (mk A : Nat) (h0 h1 h2 h3 h4 h5 h6 h7 h8 : Int64) (dO dI sO sI lc wv : Nat → Int32), mk ≤ st + 1 → bf_J P S T A dO dI sO sI → bf_G P S wv (bf_pk h0 h1 h2 h3 h4 h5 h6 h7 h8) mk → J h0 h1 h2 h3 h4 h5 h6 h7 h8 (nI mk) (nI (st + 1)) (nI P) (nI S) (nI T) (nI A) dO dI sO sI lc wv
section QA
variable {post : Int32 → Prop} {L : Nat} {xs : Nat → Int32} {J : bf_JT} {P S T A mk st kc ks : Nat} {ow : Int32} {h0 h1 h2 h3 h4 h5 h6 h7 h8 : Int64} {dO dI sO sI lc wv : Nat → Int32}
theorem qf_848 {J2 : Int32 → Prop} {j : Nat} (hP : P ≤ 32) (hS : S ≤ 9) (hj : j < S) (hq : bf_sm (fun o => bf_mx (nI o) (wv ((S - 1 - j) * P + o))) P = bf_pk h0 h1 h2 h3 h4 h5 h6 h7 h8 j) (hc : J2 (nI (j + 1))) : ∃ n, wL_law_848 post L xs J J2 (nI P) (nI S) (nI T) h0 h1 h2 h3 h4 h5 h6 h7 h8 (nI mk) ow (nI st) (nI j) kc ks (nI P) (nI S) (nI T) (nI A) dO dI sO sI lc wv n 0 0 := by
  have eS : nI S - 1 - nI j = nI (S - 1 - j) := by
    rw [show nI S - 1 = nI (S - 1) from pk_sub (b := 1) (by omega)]
    exact pk_sub (by omega)
  have key : ∀ m o, o + m = P → wL_law_848 post L xs J J2 (nI P) (nI S) (nI T) h0 h1 h2 h3 h4 h5 h6 h7 h8 (nI mk) ow (nI st) (nI j) kc ks (nI P) (nI S) (nI T) (nI A) dO dI sO sI lc wv (m + 1) (bf_sm (fun o => bf_mx (nI o) (wv ((S - 1 - j) * P + o))) o) (nI o) := by
    intro m
    induction m with
    | zero =>
      intro o ho
      have e1 : o = P := by omega
      subst e1
      exact pk_le o o (fun _ => qf_pick (by omega) (br_t hq (nm_r (nI_1 j) hc))) (fun z => absurd z (by omega))
    | succ m ih =>
      intro o ho
      refine pk_le P o (fun z => absurd z (by omega)) (fun _ => ?_)
      rw [eS]
      exact xf_output hP hS (by omega) (by omega) (qf_mix (nm_r (e' := bf_sm (fun o => bf_mx (nI o) (wv ((S - 1 - j) * P + o))) (o + 1)) rfl (nm_r (nI_1 o) (ih (o + 1) (by omega)))))
  exact ⟨P + 1, key P 0 (by omega)⟩
theorem qf_829 (Q : bf_J P S T A dO dI sO sI) (hm : mk ≤ st + 1) (hst : st < 1000) (G : bf_G P S wv (bf_pk h0 h1 h2 h3 h4 h5 h6 h7 h8) mk) (K : bf_K P S T st J) : ∃ n, wL_law_829 post L xs J (nI P) (nI S) (nI T) h0 h1 h2 h3 h4 h5 h6 h7 h8 (nI mk) ow (nI st) kc ks (nI P) (nI S) (nI T) (nI A) dO dI sO sI lc wv n 0 := by
  have hP : P ≤ 32 := Q.1.2.1
  have hS : S ≤ 9 := Q.1.2.2.2.1
  have key : ∀ m j, j + m = S → wL_law_829 post L xs J (nI P) (nI S) (nI T) h0 h1 h2 h3 h4 h5 h6 h7 h8 (nI mk) ow (nI st) kc ks (nI P) (nI S) (nI T) (nI A) dO dI sO sI lc wv (m + 1) (nI j) := by
    intro m
    induction m with
    | zero =>
      intro j hj
      have e1 : j = S := by omega
      subst e1
      exact pk_le j j (fun _ => nm_r (nI_1 st) (K _ _ _ _ _ _ _ _ _ _ _ _ _ _ _ _ _ hm Q G)) (fun z => absurd z (by omega))
    | succ m ih =>
      intro j hj
      exact pk_le S j (fun z => absurd z (by omega)) (fun _ => pk_le mk j (fun _ => nm_r (nI_1 st) (K _ _ _ _ _ _ _ _ _ _ _ _ _ _ _ _ _ hm Q G)) (fun z => qf_848 hP hS (by omega) (G j (by omega) z) (ih (j + 1) (by omega))))
  exact ⟨S + 1, key S 0 (by omega)⟩
theorem qf_736 {J2 : Int32 → Prop} {s : Nat} (hP : P ≤ 32) (hT : T ≤ 4) (hs : s < T) (pm : bf_PM P sO sI (s * P)) (hc : J2 (nI (s + 1))) : ∃ n, wL_law_736 post L xs J J2 (nI P) (nI S) (nI T) h0 h1 h2 h3 h4 h5 h6 h7 h8 (nI mk) ow (nI st) (nI s) kc ks (nI P) (nI S) (nI T) (nI A) dO dI sO sI lc wv n 0 := by
  have key : ∀ m i, i + m = P → wL_law_736 post L xs J J2 (nI P) (nI S) (nI T) h0 h1 h2 h3 h4 h5 h6 h7 h8 (nI mk) ow (nI st) (nI s) kc ks (nI P) (nI S) (nI T) (nI A) dO dI sO sI lc wv (m + 1) (nI i) := by
    intro m
    induction m with
    | zero =>
      intro i hi
      have e1 : i = P := by omega
      subst e1
      exact pk_le i i (fun _ => nm_r (nI_1 s) hc) (fun z => absurd z (by omega))
    | succ m ih =>
      intro i hi
      have hiP : i < P := by omega
      obtain ⟨o, ho, a1, a2⟩ := pm.1 i hiP
      obtain ⟨q, hq, b1, b2⟩ := pm.2 i hiP
      refine pk_le P i (fun z => absurd z (by omega)) (fun _ => xf_route hP hT hs hiP ?_)
      rw [a1]
      refine br_f (nI_pos (by omega)) (pk_le P o (fun z => absurd z (by omega)) (fun _ => xf_source hP hT hs ho ?_))
      rw [a2]
      refine br_t rfl (xf_source hP hT hs hiP ?_)
      rw [b1]
      refine br_f (nI_pos (by omega)) (pk_le P q (fun z => absurd z (by omega)) (fun _ => xf_route hP hT hs hq ?_))
      rw [b2]
      exact br_t rfl (nm_r (nI_1 i) (ih (i + 1) (by omega)))
  exact ⟨P + 1, key P 0 (by omega)⟩
theorem qf_726 (Q : bf_J P S T A dO dI sO sI) (hm : mk ≤ st + 1) (hst : st < 1000) (G : bf_G P S wv (bf_pk h0 h1 h2 h3 h4 h5 h6 h7 h8) mk) (K : bf_K P S T st J) : ∃ n, wL_law_726 post L xs J (nI P) (nI S) (nI T) h0 h1 h2 h3 h4 h5 h6 h7 h8 (nI mk) ow (nI st) kc ks (nI P) (nI S) (nI T) (nI A) dO dI sO sI lc wv n 0 := by
  have hP : P ≤ 32 := Q.1.2.1
  have hT : T ≤ 4 := Q.1.2.2.2.2.2.1
  have key : ∀ m s, s + m = T → wL_law_726 post L xs J (nI P) (nI S) (nI T) h0 h1 h2 h3 h4 h5 h6 h7 h8 (nI mk) ow (nI st) kc ks (nI P) (nI S) (nI T) (nI A) dO dI sO sI lc wv (m + 1) (nI s) := by
    intro m
    induction m with
    | zero =>
      intro s hs
      have e1 : s = T := by omega
      subst e1
      exact pk_le s s (fun _ => qf_829 Q hm hst G K) (fun z => absurd z (by omega))
    | succ m ih =>
      intro s hs
      exact pk_le T s (fun z => absurd z (by omega)) (fun _ => qf_736 hP hT (by omega) (Q.2.2 s (by omega)) (ih (s + 1) (by omega)))
  exact ⟨T + 1, key T 0 (by omega)⟩
end QA
end
section
/-! the law's operations -/
section QB
variable {post : Int32 → Prop} {L : Nat} {xs : Nat → Int32} {J : bf_JT} {P S T A mk st kc ks : Nat} {ow : Int32} {h0 h1 h2 h3 h4 h5 h6 h7 h8 : Int64} {dO dI sO sI lc wv : Nat → Int32}
theorem qf_282 {x27 : Int32} (Q : bf_J P S T A dO dI sO sI) (hm : mk ≤ st + 1) (hst : st < 1000) (G : bf_G P S wv (bf_pk h0 h1 h2 h3 h4 h5 h6 h7 h8) mk) (K : bf_K P S T st J) : ∃ n, wL_law_282 post L xs J (nI P) (nI S) (nI T) h0 h1 h2 h3 h4 h5 h6 h7 h8 (nI mk) ow (nI st) x27 kc ks n 0 (nI P) (nI S) (nI T) (nI A) dO dI sO sI lc wv := by
  have hP : P ≤ 32 := Q.1.2.1
  have key : ∀ m q a b, q + m = P → bf_PD P a b → wL_law_282 post L xs J (nI P) (nI S) (nI T) h0 h1 h2 h3 h4 h5 h6 h7 h8 (nI mk) ow (nI st) x27 kc ks (m + 1) (nI q) (nI P) (nI S) (nI T) (nI A) a b sO sI lc wv := by
    intro m
    induction m with
    | zero =>
      intro q a b hq pd
      have e1 : q = P := by omega
      subst e1
      exact pk_le q q (fun _ => qf_726 ⟨Q.1, pd, Q.2.2⟩ hm hst G K) (fun z => absurd z (by omega))
    | succ m ih =>
      intro q a b hq pd
      refine pk_le P q (fun z => absurd z (by omega)) (fun _ => qf_mix ?_)
      obtain ⟨o, ho, eo⟩ := bf_am (bf_mx x27 (nI q)).toInt32 hP Q.1.2.2.2.2.2.2.2
      rw [eo]
      exact qf_request hP pd (by omega) ho (fun r a' b' pd' => nm_r (nI_1 q) (ih (q + 1) a' b' (by omega) pd'))
  exact ⟨P + 1, key P 0 dO dI (by omega) Q.2.1⟩
theorem qf_267 {x27 x28 : Int32} (Q : bf_J P S T A dO dI sO sI) (hm : mk ≤ st + 1) (hst : st < 1000) (G : bf_G P S wv (bf_pk h0 h1 h2 h3 h4 h5 h6 h7 h8) mk) (K : bf_K P S T st J) : wL_law_267 post L xs J (nI P) (nI S) (nI T) h0 h1 h2 h3 h4 h5 h6 h7 h8 (nI mk) ow (nI st) x27 x28 kc ks (nI P) (nI S) (nI T) (nI A) dO dI sO sI lc wv := by
  have hP : P ≤ 32 := Q.1.2.1
  exact br_c (fun _ => xf_clear hP (fun a b ha hb => qf_282 ⟨Q.1, bf_PD_nil ha hb, Q.2.2⟩ hm hst G K)) (fun _ => qf_282 Q hm hst G K)
theorem qf_347 {s : Nat} (hs : s < T) (hd : ∀ i, i < P → ¬ dO i = -1 → dO i = sO (s * P + i)) (Q : bf_J P S T A dO dI sO sI) (hm : mk ≤ st + 1) (hst : st < 1000) (G : bf_G P S wv (bf_pk h0 h1 h2 h3 h4 h5 h6 h7 h8) mk) (K : bf_K P S T st J) : ∃ n, wL_law_347 post L xs J (nI P) (nI S) (nI T) h0 h1 h2 h3 h4 h5 h6 h7 h8 (nI mk) ow (nI st) (nI s) kc ks (nI P) (nI S) (nI T) (nI A) dO dI sO sI lc wv n 0 := by
  have hP : P ≤ 32 := Q.1.2.1
  have hT : T ≤ 4 := Q.1.2.2.2.2.2.1
  have key : ∀ m i, i + m = P → wL_law_347 post L xs J (nI P) (nI S) (nI T) h0 h1 h2 h3 h4 h5 h6 h7 h8 (nI mk) ow (nI st) (nI s) kc ks (nI P) (nI S) (nI T) (nI A) dO dI sO sI lc wv (m + 1) (nI i) := by
    intro m
    induction m with
    | zero =>
      intro i hi
      have e1 : i = P := by omega
      subst e1
      exact pk_le i i (fun _ => qf_726 Q hm hst G K) (fun z => absurd z (by omega))
    | succ m ih =>
      intro i hi
      have hiP : i < P := by omega
      refine pk_le P i (fun z => absurd z (by omega)) (fun _ => xf_drafted hP hiP (br_c (fun _ => nm_r (nI_1 i) (ih (i + 1) (by omega))) (fun hn => xf_route hP hT hs hiP (br_t (hd i hiP (fun e => hn (by rw [e]; decide))).symm (nm_r (nI_1 i) (ih (i + 1) (by omega)))))))
  exact ⟨P + 1, key P 0 (by omega)⟩
theorem qf_329 {s : Nat} (hs : s < T) (Q : bf_J P S T A dO dI sO sI) (hm : mk ≤ st + 1) (hst : st < 1000) (G : bf_G P S wv (bf_pk h0 h1 h2 h3 h4 h5 h6 h7 h8) mk) (K : bf_K P S T st J) : wL_law_329 post L xs J (nI P) (nI S) (nI T) h0 h1 h2 h3 h4 h5 h6 h7 h8 (nI mk) ow (nI st) (nI s) kc ks (nI P) (nI S) (nI T) (nI A) dO dI sO sI lc wv := by
  have hP : P ≤ 32 := Q.1.2.1
  have hT : T ≤ 4 := Q.1.2.2.2.2.2.1
  unfold wL_law_329
  refine xf_set hP hT hs Q.2.1 (fun a b hc hf => br_f ?_ (qf_347 hs (fun i hi h => bf_CH_d hc hi h) ⟨Q.1, Q.2.1, bf_PMs Q.2.2 hc.1 hf⟩ hm hst G K))
  rw [pk_sub (bf_cn_le dO P)]
  intro e
  have z := nI_pos (n := P - bf_cn dO P) (by omega)
  rw [e] at z
  exact z (by decide)
theorem qf_459 {J2 : Int32 → Int32 → Int32 → Int32 → Int32 → (Nat → Int32) → (Nat → Int32) → (Nat → Int32) → (Nat → Int32) → (Nat → Int32) → (Nat → Int32) → Prop} {x27 x28 x30 z0 : Int32} {i : Nat} (hP : P ≤ 32) (hi : i < P) (h : ∀ l, J2 (nI (i + 1)) (nI P) (nI S) (nI T) (nI A) dO dI sO sI l wv) : wL_law_459 post L xs J J2 (nI P) (nI S) (nI T) h0 h1 h2 h3 h4 h5 h6 h7 h8 (nI mk) ow (nI st) x27 x28 x30 (nI i) z0 (nI i) kc ks (nI P) (nI S) (nI T) (nI A) dO dI sO sI lc wv := by
  unfold wL_law_459
  exact qf_latch hP hi (fun r l => nm_r (nI_1 i) (h l))
theorem qf_416 {x27 x28 x30 : Int32} (Q : bf_J P S T A dO dI sO sI) (hm : mk ≤ st + 1) (hst : st < 1000) (G : bf_G P S wv (bf_pk h0 h1 h2 h3 h4 h5 h6 h7 h8) mk) (K : bf_K P S T st J) : ∃ n, wL_law_416 post L xs J (nI P) (nI S) (nI T) h0 h1 h2 h3 h4 h5 h6 h7 h8 (nI mk) ow (nI st) x27 x28 x30 kc ks n 0 (nI P) (nI S) (nI T) (nI A) dO dI sO sI lc wv := by
  have hP : P ≤ 32 := Q.1.2.1
  have key : ∀ m i l, i + m = P → wL_law_416 post L xs J (nI P) (nI S) (nI T) h0 h1 h2 h3 h4 h5 h6 h7 h8 (nI mk) ow (nI st) x27 x28 x30 kc ks (m + 1) (nI i) (nI P) (nI S) (nI T) (nI A) dO dI sO sI l wv := by
    intro m
    induction m with
    | zero =>
      intro i l hi
      have e1 : i = P := by omega
      subst e1
      exact pk_le i i (fun _ => qf_726 Q hm hst G K) (fun z => absurd z (by omega))
    | succ m ih =>
      intro i l hi
      exact pk_le P i (fun z => absurd z (by omega)) (fun _ => br_c (fun _ => nm_r (nI_1 i) (ih (i + 1) l (by omega))) (fun _ => br_c (fun _ => qf_459 hP (by omega) (fun l' => ih (i + 1) l' (by omega))) (fun _ => qf_459 hP (by omega) (fun l' => ih (i + 1) l' (by omega)))))
  exact ⟨P + 1, key P 0 lc (by omega)⟩
theorem qf_403 {x27 x28 : Int32} (Q : bf_J P S T A dO dI sO sI) (hm : mk ≤ st + 1) (hst : st < 1000) (G : bf_G P S wv (bf_pk h0 h1 h2 h3 h4 h5 h6 h7 h8) mk) (K : bf_K P S T st J) : wL_law_403 post L xs J (nI P) (nI S) (nI T) h0 h1 h2 h3 h4 h5 h6 h7 h8 (nI mk) ow (nI st) x27 x28 kc ks (nI P) (nI S) (nI T) (nI A) dO dI sO sI lc wv := by
  unfold wL_law_403
  exact qf_mix (qf_416 Q hm hst G K)
theorem qf_505 (Q : bf_J P S T A dO dI sO sI) (hm : mk ≤ st) (hst : st < 1000) (G : bf_G P S wv (bf_pk h0 h1 h2 h3 h4 h5 h6 h7 h8) mk) (K : bf_K P S T st J) : ∃ n, wL_law_505 post L xs J (nI P) (nI S) (nI T) h0 h1 h2 h3 h4 h5 h6 h7 (nI mk) ow (nI st) (nI A) kc ks (nI P) (nI S) (nI T) (nI A) dO dI sO sI lc wv n 0 0 := by
  obtain ⟨hP2, hP, hS1, hS, hT1, hT, hA, _⟩ := Q.1
  have pm := Q.2.2 A hA
  have key : ∀ m i, i + m = P → wL_law_505 post L xs J (nI P) (nI S) (nI T) h0 h1 h2 h3 h4 h5 h6 h7 (nI mk) ow (nI st) (nI A) kc ks (nI P) (nI S) (nI T) (nI A) dO dI sO sI lc wv (m + 1) (bf_sm (fun i => bf_mx (sO (A * P + i)) (lc i)) i) (nI i) := by
    intro m
    induction m with
    | zero =>
      intro i hi
      have e1 : i = P := by omega
      subst e1
      exact pk_le i i (fun _ => xf_tick hP hS1 hS hT hA pm (fun w l X1 X2 X3 => nm_r (nI_1 mk) (qf_726 Q (by omega) hst (bf_G_tick hP hS G pm X1 X2) K))) (fun z => absurd z (by omega))
    | succ m ih =>
      intro i hi
      exact pk_le P i (fun z => absurd z (by omega)) (fun _ => xf_route hP hT hA (by omega) (xf_latched hP (by omega) (qf_mix (nm_r (e' := bf_sm (fun i => bf_mx (sO (A * P + i)) (lc i)) (i + 1)) rfl (nm_r (nI_1 i) (ih (i + 1) (by omega)))))))
  exact ⟨P + 1, key P 0 (by omega)⟩
theorem qf_492 (Q : bf_J P S T A dO dI sO sI) (hm : mk ≤ st) (hst : st < 1000) (G : bf_G P S wv (bf_pk h0 h1 h2 h3 h4 h5 h6 h7 h8) mk) (K : bf_K P S T st J) : wL_law_492 post L xs J (nI P) (nI S) (nI T) h0 h1 h2 h3 h4 h5 h6 h7 (nI mk) ow (nI st) kc ks (nI P) (nI S) (nI T) (nI A) dO dI sO sI lc wv := by
  unfold wL_law_492
  exact qf_info3 (qf_505 Q hm hst G K)
end QB
end
section
/-! a step; the law -/
section QC
variable {post : Int32 → Prop} {L : Nat} {xs : Nat → Int32} {J : bf_JT} {P S T A mk st kc ks : Nat} {ow : Int32} {h0 h1 h2 h3 h4 h5 h6 h7 h8 : Int64} {dO dI sO sI lc wv : Nat → Int32}
theorem bf_at2 {Q : Int32 → Int32 → Prop} {x y x' y' : Int32} (e1 : x = x') (e2 : y = y') (h : Q x' y') : Q x y := by rw [e1, e2]; exact h
theorem qf_245 {x26 x27 x28 : Int32} (Q : bf_J P S T A dO dI sO sI) (hm : mk ≤ st) (hst : st < 1000) (G : bf_G P S wv (bf_pk h0 h1 h2 h3 h4 h5 h6 h7 h8) mk) (K : bf_K P S T st J) : wL_law_245 post L xs J (nI P) (nI S) (nI T) h0 h1 h2 h3 h4 h5 h6 h7 h8 (nI mk) ow (nI st) x26 x27 x28 kc ks (nI P) (nI S) (nI T) (nI A) dO dI sO sI lc wv := by
  have hm' : mk ≤ st + 1 := by omega
  have hP : P ≤ 32 := Q.1.2.1
  have hT1 : 1 ≤ T := Q.1.2.2.2.2.1
  have hT : T ≤ 4 := Q.1.2.2.2.2.2.1
  have hL := Q.1.2.2.2.2.2.2.2
  obtain ⟨s, hs, es⟩ := bf_md x27 hT1 hT
  obtain ⟨i, hi, e1⟩ := bf_am x27 hP hL
  obtain ⟨o, ho, e2⟩ := bf_am x28 hP hL
  unfold wL_law_245
  refine ⟨nI_ne0 (by omega) (by omega), nm_r es ?_⟩
  exact (br_c (fun _ => qf_267 Q hm' hst G K) (fun _ => (br_c (fun _ => qf_267 Q hm' hst G K) (fun _ => (br_c (fun _ => qf_329 hs Q hm' hst G K) (fun _ => (br_c (fun _ => qf_329 hs Q hm' hst G K) (fun _ => (br_c (fun _ => qf_403 Q hm' hst G K) (fun _ => (br_c (fun _ => qf_403 Q hm' hst G K) (fun _ => (br_c (fun _ => qf_492 Q hm hst G K) (fun _ => (br_c (fun _ => qf_492 Q hm hst G K) (fun _ => (br_c (fun _ => qf_492 Q hm hst G K) (fun _ => (br_c (fun _ => xf_select hT hs (qf_726 ⟨⟨Q.1.1, Q.1.2.1, Q.1.2.2.1, Q.1.2.2.2.1, Q.1.2.2.2.2.1, Q.1.2.2.2.2.2.1, hs, Q.1.2.2.2.2.2.2.2⟩, Q.2⟩ hm' hst G K)) (fun _ => (br_c (fun _ => bf_at2 e1 e2 (Q := fun t1 t2 => wpX_request _ (nI P, nI S, nI T, nI A, dO, dI, sO, sI, lc, wv) t1 t2) (qf_request hP Q.2.1 hi ho (fun r a b pd => qf_726 ⟨Q.1, pd, Q.2.2⟩ hm' hst G K))) (fun _ => (br_c (fun _ => xf_fill hP hL (qf_726 ⟨Q.1, bf_fz_pd hP hL Q.2.1 P (Nat.le_refl P), Q.2.2⟩ hm' hst G K)) (fun _ => (br_c (fun _ => bf_at (Q := fun t => wpX_withdraw _ (nI P, nI S, nI T, nI A, dO, dI, sO, sI, lc, wv) t) e1 (qf_withdraw hP Q.2.1 hi (fun r a b pd => qf_726 ⟨Q.1, pd, Q.2.2⟩ hm' hst G K))) (fun _ => (br_c (fun _ => xf_clear hP (fun a b ha hb => qf_726 ⟨Q.1, bf_PD_nil ha hb, Q.2.2⟩ hm' hst G K)) (fun _ => (br_c (fun _ => xf_load hP hT hs (fun a b ha hb => qf_726 ⟨Q.1, bf_PD_ld (Q.2.2 s hs) hP ha hb, Q.2.2⟩ hm' hst G K)) (fun _ => (br_c (fun _ => bf_at (Q := fun t => wpX_latch _ (nI P, nI S, nI T, nI A, dO, dI, sO, sI, lc, wv) t _) e1 (qf_latch hP hi (fun r l => qf_726 Q hm' hst G K))) (fun _ => (qf_726 Q hm' hst G K)))))))))))))))))))))))))))))))))
theorem qf_123 (hp : post 1) (hLL : L ≤ 260) : ∀ m st mk A h0 h1 h2 h3 h4 h5 h6 h7 h8 dO dI sO sI lc wv, st + m = L / 3 + 61 → mk ≤ st → bf_J P S T A dO dI sO sI → bf_G P S wv (bf_pk h0 h1 h2 h3 h4 h5 h6 h7 h8) mk → wL_law_123 post L xs (nI P) (nI S) (nI T) (nI (L / 3)) kc ks (m + 1) h0 h1 h2 h3 h4 h5 h6 h7 h8 (nI mk) (nI st) (nI P) (nI S) (nI T) (nI A) dO dI sO sI lc wv := by
  intro m
  induction m with
  | zero =>
    intro st mk A h0 h1 h2 h3 h4 h5 h6 h7 h8 dO dI sO sI lc wv hm hk Q G
    exact pk_lt (L / 3 + 60) st (fun _ => hp) (fun z => absurd z (by omega)) (hx := nI_add (L / 3) 60)
  | succ m ih =>
    intro st mk A h0 h1 h2 h3 h4 h5 h6 h7 h8 dO dI sO sI lc wv hm hk Q G
    have K : bf_K P S T st (wL_law_123 post L xs (nI P) (nI S) (nI T) (nI (L / 3)) kc ks (m + 1)) :=
      fun mk' A' g0 g1 g2 g3 g4 g5 g6 g7 g8 a b c e l w h1 h2 h3 => ih (st + 1) mk' A' g0 g1 g2 g3 g4 g5 g6 g7 g8 a b c e l w (by omega) h1 h2 h3
    refine pk_lt (L / 3 + 60) st (fun z => absurd z (by omega)) (fun _ => ?_) (hx := nI_add (L / 3) 60)
    refine pk_le st (L / 3) (fun z => ?_) (fun z => ?_)
    · refine pk_le st 0 (fun _ => qf_245 Q hk (by omega) G K) (fun z2 => ?_)
      refine nm_r (e' := nI (3 * st - 1)) ?_ (qf_cell (3 * st - 1) hLL (by omega) (fun r1 => nm_e ?_))
      · rw [show (3 : Int32) * nI st = nI (3 * st) from pk_mul 3 st]
        exact pk_sub (b := 1) (by omega)
      · exact bf_at (Q := fun t => wpL_cell _ L xs () t) (nI_add (3 * st - 1) 1) (qf_cell (3 * st - 1 + 1) hLL (by omega) (fun r2 => bf_at (Q := fun t => wpL_cell _ L xs () t) (nI_add (3 * st - 1) 2) (qf_cell (3 * st - 1 + 2) hLL (by omega) (fun r3 => qf_245 Q hk (by omega) G K))))
    · refine nm_r (e' := nI (st - L / 3 - 1)) ?_ ⟨by decide, qf_tail (fun r1 => qf_cell (st - L / 3 - 1) hLL (by omega) (fun r2 => qf_mix (qf_cell 1 hLL (by omega) (fun r3 => qf_mix (qf_245 Q hk (by omega) G K)))))⟩
      rw [pk_sub (by omega)]
      exact pk_sub (b := 1) (by omega)
end QC
theorem i_vc (xs : Nat → Int32) (L : Nat) (hL : L ≤ 260) : wpL_law (fun r => r = 1) L xs := by
  unfold wpL_law
  refine qf_cell 0 hL (by omega) (fun r1 => ⟨by decide, qf_cell 1 hL (by omega) (fun r2 => ⟨6, 640, by decide, by decide, ?_⟩)⟩)
  generalize (5 - ((r1 &&& 2147483647) - (r1 &&& 2147483647) / 5 * 5)) = x
  generalize (4 - (r2 &&& 3)) = y
  have rx := (bf_cl_c x (M := 5) (by decide) (by decide)).1
  have ry := (bf_cl_c y (M := 4) (by decide) (by decide)).1
  have H := bf_H0 rx.1 rx.2 ry.1 ry.2
  refine xf_init rfl rfl rfl (fun a b c e l w ha hb hc hl hw => ?_)
  revert H ha hb hc hl hw
  generalize 2 ^ bf_cl x 5 = P
  generalize 2 * bf_cl x 5 - 1 = S
  generalize bf_cl y 4 = T
  intro H ha hb hc hl hw
  have hb' := H
  obtain ⟨b1, b2, b3, b4, b5, b6, b7, b8⟩ := hb'
  refine qf_info0 (qf_info1 (qf_info2 ?_))
  refine pk_lt P 2 (fun z => absurd z (by omega)) (fun _ => pk_lt 32 P (fun z => absurd z (by omega)) (fun _ => pk_lt S 1 (fun z => absurd z (by omega)) (fun _ => pk_lt 9 S (fun z => absurd z (by omega)) (fun _ => pk_lt T 1 (fun z => absurd z (by omega)) (fun _ => pk_le T 4 (fun _ => ⟨by decide, ?_⟩) (fun z => absurd z (by omega)))))))
  refine nm_r (e' := nI (L / 3)) (pk_div (d := 3) (by omega) (by omega) (by omega)) ⟨L / 3 + 62, ?_⟩
  exact qf_123 (post := fun r => r = 1) rfl hL (L / 3 + 61) 0 0 0 0 0 0 0 0 0 0 0 0 a b c e l w (by omega) (by omega) ⟨H, bf_PD_nil ha hb, fun s hs => (hc s hs).1⟩ (fun j _ hj => absurd hj (by omega))
end
