/-! values, counts, the draft as a partial bijection, a slot as a permutation -/
theorem bf_ne1 {a : Nat} (h : a < 2 ^ 31) : ¬ nI a = -1 := by
  intro e
  have h2 := nI_pos (n := a) h
  rw [e] at h2
  exact h2 (by decide)
theorem bf_inj {a b : Nat} (h : nI a = nI b) (ha : a < 2 ^ 31) (hb : b < 2 ^ 31) : a = b := (nI_eq ha hb).mp h
/-- empty, or a natural -/
def bf_Vl (x : Int32) : Prop := x = -1 ∨ ∃ n : Nat, n < 2 ^ 31 ∧ x = nI n
theorem bf_vl_lt {x : Int32} (h : bf_Vl x) : x < 0 ↔ x = -1 := by
  rcases h with h | ⟨n, hn, h⟩
  · subst h
    exact ⟨fun _ => rfl, fun _ => by decide⟩
  · subst h
    exact ⟨fun z => absurd z (nI_pos hn), fun z => absurd z (bf_ne1 hn)⟩
theorem bf_vl_le {x : Int32} (h : bf_Vl x) : 0 ≤ x ↔ ¬ x = -1 := by
  rw [← bf_vl_lt h]
  exact ⟨fun a b => absurd a (Int32.not_le.mpr b), fun a => Int32.not_lt.mp a⟩
theorem bf_vl_1 : bf_Vl (-1) := Or.inl rfl
theorem bf_vl_n {n : Nat} (h : n < 2 ^ 31) : bf_Vl (nI n) := Or.inr ⟨n, h, rfl⟩
/-- how many of the first n places are held -/
def bf_cn (f : Nat → Int32) : Nat → Nat
  | 0 => 0
  | n + 1 => bf_cn f n + (if f n = -1 then 0 else 1)
theorem bf_cn_s (f : Nat → Int32) (n : Nat) : bf_cn f (n + 1) = bf_cn f n + (if f n = -1 then 0 else 1) := rfl
theorem bf_cn_t {f : Nat → Int32} {n : Nat} (h : f n = -1) : bf_cn f (n + 1) = bf_cn f n := by
  rw [bf_cn_s, if_pos h, Nat.add_zero]
theorem bf_cn_f {f : Nat → Int32} {n : Nat} (h : ¬ f n = -1) : bf_cn f (n + 1) = bf_cn f n + 1 := by
  rw [bf_cn_s, if_neg h]
theorem bf_cn_le (f : Nat → Int32) : ∀ n, bf_cn f n ≤ n := by
  intro n
  induction n with
  | zero => exact Nat.le_refl 0
  | succ n ih =>
    by_cases h : f n = -1
    · rw [bf_cn_t h]; omega
    · rw [bf_cn_f h]; omega
theorem bf_cn_cg {f g : Nat → Int32} : ∀ n, (∀ j, j < n → f j = g j) → bf_cn f n = bf_cn g n := by
  intro n
  induction n with
  | zero => intro _; rfl
  | succ n ih =>
    intro h
    rw [bf_cn_s, bf_cn_s, ih (fun j hj => h j (by omega)), h n (by omega)]
theorem bf_cn_up {f : Nat → Int32} {k : Nat} {x : Int32} (h0 : f k = -1) (hx : ¬ x = -1) : ∀ n, k < n → bf_cn (upd f k x) n = bf_cn f n + 1 := by
  intro n
  induction n with
  | zero => intro h; omega
  | succ n ih =>
    intro h
    by_cases e : n = k
    · subst e
      rw [bf_cn_f (f := upd f n x) (n := n) (by rw [pk_us]; exact hx), bf_cn_t h0, bf_cn_cg (f := upd f n x) (g := f) n (fun j hj => pk_un (by omega))]
    · rw [bf_cn_s, bf_cn_s, ih (by omega), pk_un e]
      exact Nat.add_right_comm _ _ _
theorem bf_cn_dn {f : Nat → Int32} {k : Nat} (h0 : ¬ f k = -1) : ∀ n, k < n → bf_cn (upd f k (-1)) n + 1 = bf_cn f n := by
  intro n
  induction n with
  | zero => intro h; omega
  | succ n ih =>
    intro h
    by_cases e : n = k
    · subst e
      rw [bf_cn_t (f := upd f n (-1)) (n := n) pk_us, bf_cn_f h0, bf_cn_cg (f := upd f n (-1)) (g := f) n (fun j hj => pk_un (by omega))]
    · rw [bf_cn_s, bf_cn_s, pk_un e, ← ih (by omega)]
      exact Nat.add_right_comm _ _ _
theorem bf_cn_all {f : Nat → Int32} : ∀ n, (∀ j, j < n → ¬ f j = -1) → bf_cn f n = n := by
  intro n
  induction n with
  | zero => intro _; rfl
  | succ n ih =>
    intro h
    rw [bf_cn_f (h n (by omega)), ih (fun j hj => h j (by omega))]
theorem bf_cn_nil {f : Nat → Int32} : ∀ n, (∀ j, j < n → f j = -1) → bf_cn f n = 0 := by
  intro n
  induction n with
  | zero => intro _; rfl
  | succ n ih =>
    intro h
    rw [bf_cn_t (h n (by omega)), ih (fun j hj => h j (by omega))]
theorem bf_cn_add (f : Nat → Int32) (a : Nat) : ∀ b, bf_cn f (a + b) = bf_cn f a + bf_cn (fun j => f (a + j)) b := by
  intro b
  induction b with
  | zero => rfl
  | succ b ih =>
    rw [← Nat.add_assoc, bf_cn_s, ih, bf_cn_s]
    exact Nat.add_assoc _ _ _
theorem bf_cn_up2 {f : Nat → Int32} {m : Nat} : ∀ d, bf_cn f (m + d) ≤ bf_cn f m + d := by
  intro d
  induction d with
  | zero => exact Nat.le_refl _
  | succ d ih =>
    rw [← Nat.add_assoc]
    by_cases h : f (m + d) = -1
    · rw [bf_cn_t h]; omega
    · rw [bf_cn_f h]; omega
theorem bf_cn_full {f : Nat → Int32} {m : Nat} : ∀ d, (∀ j, m ≤ j → j < m + d → ¬ f j = -1) → bf_cn f (m + d) = bf_cn f m + d := by
  intro d
  induction d with
  | zero => intro _; rfl
  | succ d ih =>
    intro h
    rw [← Nat.add_assoc, bf_cn_f (h (m + d) (by omega) (by omega)), ih (fun j h1 h2 => h j h1 (by omega))]
    omega
/-- the draft from both sides -/
def bf_PD (P : Nat) (dO dI : Nat → Int32) : Prop :=
  (∀ i, i < P → dO i = -1 ∨ ∃ o, o < P ∧ dO i = nI o ∧ dI o = nI i) ∧
  (∀ o, o < P → dI o = -1 ∨ ∃ i, i < P ∧ dI o = nI i ∧ dO i = nI o) ∧
  bf_cn dO P = bf_cn dI P
theorem bf_PD_add {P i o : Nat} {dO dI : Nat → Int32} (h : bf_PD P dO dI) (hP : P ≤ 32) (hi : i < P) (ho : o < P) (h1 : dO i = -1) (h2 : dI o = -1) : bf_PD P (upd dO i (nI o)) (upd dI o (nI i)) := by
  obtain ⟨hA, hB, hC⟩ := h
  refine ⟨fun j hj => ?_, fun q hq => ?_, ?_⟩
  · by_cases e : j = i
    · subst e
      exact Or.inr ⟨o, ho, pk_us, pk_us⟩
    · rcases hA j hj with a | ⟨q, hq, a, b⟩
      · exact Or.inl (by rw [pk_un e]; exact a)
      · have hqo : q ≠ o := by
          intro e2
          rw [e2, h2] at b
          exact bf_ne1 (by omega) b.symm
        exact Or.inr ⟨q, hq, by rw [pk_un e]; exact a, by rw [pk_un hqo]; exact b⟩
  · by_cases e : q = o
    · subst e
      exact Or.inr ⟨i, hi, pk_us, pk_us⟩
    · rcases hB q hq with a | ⟨j, hj, a, b⟩
      · exact Or.inl (by rw [pk_un e]; exact a)
      · have hji : j ≠ i := by
          intro e2
          rw [e2, h1] at b
          exact bf_ne1 (by omega) b.symm
        exact Or.inr ⟨j, hj, by rw [pk_un e]; exact a, by rw [pk_un hji]; exact b⟩
  · rw [bf_cn_up h1 (bf_ne1 (by omega)) P hi, bf_cn_up h2 (bf_ne1 (by omega)) P ho, hC]
theorem bf_PD_del {P i o : Nat} {dO dI : Nat → Int32} (h : bf_PD P dO dI) (hP : P ≤ 32) (hi : i < P) (ho : o < P) (h1 : dO i = nI o) (h2 : dI o = nI i) : bf_PD P (upd dO i (-1)) (upd dI o (-1)) := by
  obtain ⟨hA, hB, hC⟩ := h
  refine ⟨fun j hj => ?_, fun q hq => ?_, ?_⟩
  · by_cases e : j = i
    · subst e
      exact Or.inl pk_us
    · rcases hA j hj with a | ⟨q, hq, a, b⟩
      · exact Or.inl (by rw [pk_un e]; exact a)
      · have hqo : q ≠ o := by
          intro e2
          rw [e2, h2] at b
          exact e (bf_inj b (by omega) (by omega)).symm
        exact Or.inr ⟨q, hq, by rw [pk_un e]; exact a, by rw [pk_un hqo]; exact b⟩
  · by_cases e : q = o
    · subst e
      exact Or.inl pk_us
    · rcases hB q hq with a | ⟨j, hj, a, b⟩
      · exact Or.inl (by rw [pk_un e]; exact a)
      · have hji : j ≠ i := by
          intro e2
          rw [e2, h1] at b
          exact e (bf_inj b (by omega) (by omega)).symm
        exact Or.inr ⟨j, hj, by rw [pk_un e]; exact a, by rw [pk_un hji]; exact b⟩
  · have a := bf_cn_dn (f := dO) (k := i) (by rw [h1]; exact bf_ne1 (by omega)) P hi
    have b := bf_cn_dn (f := dI) (k := o) (by rw [h2]; exact bf_ne1 (by omega)) P ho
    omega
theorem bf_PD_nil {P : Nat} {dO dI : Nat → Int32} (h1 : ∀ i, i < P → dO i = -1) (h2 : ∀ i, i < P → dI i = -1) : bf_PD P dO dI :=
  ⟨fun i hi => Or.inl (h1 i hi), fun i hi => Or.inl (h2 i hi), by rw [bf_cn_nil P h1, bf_cn_nil P h2]⟩
theorem bf_PD_o {P i : Nat} {dO dI : Nat → Int32} (h : bf_PD P dO dI) (hP : P ≤ 32) (hi : i < P) {o : Nat} (ho : o < P) (e : dO i = nI o) : dI o = nI i := by
  rcases h.1 i hi with a | ⟨q, hq, a, b⟩
  · rw [a] at e
    exact absurd e.symm (bf_ne1 (by omega))
  · rw [e] at a
    rw [bf_inj a (by omega) (by omega)]
    exact b
theorem bf_PD_v {P i : Nat} {dO dI : Nat → Int32} (h : bf_PD P dO dI) (hP : P ≤ 32) (hi : i < P) : bf_Vl (dO i) := by
  rcases h.1 i hi with a | ⟨q, hq, a, _⟩
  · exact Or.inl a
  · exact Or.inr ⟨q, by omega, a⟩
/-- a slot from both sides, its first place b -/
def bf_PM (P : Nat) (sO sI : Nat → Int32) (b : Nat) : Prop :=
  (∀ i, i < P → ∃ o, o < P ∧ sO (b + i) = nI o ∧ sI (b + o) = nI i) ∧
  (∀ o, o < P → ∃ i, i < P ∧ sI (b + o) = nI i ∧ sO (b + i) = nI o)
theorem bf_PM_cg {P b : Nat} {sO sI sO' sI' : Nat → Int32} (h : bf_PM P sO sI b) (e : ∀ x, b ≤ x → x < b + P → sO' x = sO x ∧ sI' x = sI x) : bf_PM P sO' sI' b := by
  refine ⟨fun i hi => ?_, fun o ho => ?_⟩
  · obtain ⟨o, ho, a, c⟩ := h.1 i hi
    exact ⟨o, ho, by rw [(e (b + i) (by omega) (by omega)).1]; exact a, by rw [(e (b + o) (by omega) (by omega)).2]; exact c⟩
  · obtain ⟨i, hi, a, c⟩ := h.2 o ho
    exact ⟨i, hi, by rw [(e (b + o) (by omega) (by omega)).2]; exact a, by rw [(e (b + i) (by omega) (by omega)).1]; exact c⟩
theorem bf_PM_inj {P b i j : Nat} {sO sI : Nat → Int32} (h : bf_PM P sO sI b) (hP : P ≤ 32) (hi : i < P) (hj : j < P) (e : sO (b + i) = sO (b + j)) : i = j := by
  obtain ⟨o, ho, a, c⟩ := h.1 i hi
  obtain ⟨q, hq, a2, c2⟩ := h.1 j hj
  rw [a, a2] at e
  have := bf_inj e (by omega) (by omega)
  subst this
  rw [c] at c2
  exact bf_inj c2 (by omega) (by omega)
/-- a loaded slot is a draft -/
theorem bf_PD_ld {P b : Nat} {sO sI dO dI : Nat → Int32} (h : bf_PM P sO sI b) (hP : P ≤ 32) (h1 : ∀ i, i < P → dO i = sO (b + i)) (h2 : ∀ i, i < P → dI i = sI (b + i)) : bf_PD P dO dI := by
  refine ⟨fun i hi => ?_, fun o ho => ?_, ?_⟩
  · obtain ⟨o, ho, a, c⟩ := h.1 i hi
    exact Or.inr ⟨o, ho, by rw [h1 i hi]; exact a, by rw [h2 o ho]; exact c⟩
  · obtain ⟨i, hi, a, c⟩ := h.2 o ho
    exact Or.inr ⟨i, hi, by rw [h2 o ho]; exact a, by rw [h1 i hi]; exact c⟩
  · have q1 : bf_cn dO P = P := bf_cn_all P (fun i hi => by
      obtain ⟨o, ho, a, c⟩ := h.1 i hi
      rw [h1 i hi, a]
      exact bf_ne1 (by omega))
    have q2 : bf_cn dI P = P := bf_cn_all P (fun i hi => by
      obtain ⟨j, hj, a, c⟩ := h.2 i hi
      rw [h2 i hi, a]
      exact bf_ne1 (by omega))
    rw [q1, q2]
theorem bf_ix {s T P i : Nat} (hs : s < T) (hi : i < P) : s * P + i < T * P := by
  have : (s + 1) * P ≤ T * P := Nat.mul_le_mul_right P hs
  rw [Nat.add_mul, Nat.one_mul] at this
  omega
theorem bf_ix4 {s T P i : Nat} (hs : s < T) (hT : T ≤ 4) (hi : i < P) (hP : P ≤ 32) : s * P + i < 128 := by
  have := bf_ix hs hi
  have h2 : T * P ≤ 4 * 32 := Nat.mul_le_mul hT hP
  omega
theorem bf_ix9 {s T P i : Nat} (hs : s < T) (hT : T ≤ 9) (hi : i < P) (hP : P ≤ 32) : s * P + i < 288 := by
  have := bf_ix hs hi
  have h2 : T * P ≤ 9 * 32 := Nat.mul_le_mul hT hP
  omega
/-- two slots lie apart -/
theorem bf_apart {s t P x : Nat} (h : s ≠ t) (h1 : s * P ≤ x) (h2 : x < s * P + P) : x < t * P ∨ t * P + P ≤ x := by
  rcases Nat.lt_or_ge s t with a | a
  · have : (s + 1) * P ≤ t * P := Nat.mul_le_mul_right P a
    rw [Nat.add_mul, Nat.one_mul] at this
    omega
  · have : (t + 1) * P ≤ s * P := Nat.mul_le_mul_right P (by omega : t + 1 ≤ s)
    rw [Nat.add_mul, Nat.one_mul] at this
    omega
/-! the completion of a draft: storeDraft's invariant, what it leaves, what the reference's loop needs of it -/
def bf_SI (P b : Nat) (dO dI : Nat → Int32) (i f : Nat) (sO sI : Nat → Int32) : Prop :=
  f ≤ P ∧ f + bf_cn dO i = i + bf_cn dI f ∧
  (∀ j, j < i → ∃ o, o < P ∧ sO (b + j) = nI o ∧ sI (b + o) = nI j ∧
    ((dO j = nI o ∧ dI o = nI j) ∨ (dO j = -1 ∧ dI o = -1 ∧ o < f ∧ ∀ q, q < o → dI q = -1 → ∃ t, t < j ∧ sO (b + t) = nI q))) ∧
  (∀ o, o < f → dI o = -1 → ∃ j, j < i ∧ sO (b + j) = nI o)
/-- the completed slot: drafted inputs keep theirs; a free input has the least free output not yet taken -/
def bf_CH (P b : Nat) (dO dI sO sI : Nat → Int32) : Prop :=
  bf_PM P sO sI b ∧
  (∀ j, j < P → ∃ o, o < P ∧ sO (b + j) = nI o ∧
    (dO j = nI o ∨ (dO j = -1 ∧ dI o = -1 ∧ ∀ q, q < o → dI q = -1 → ∃ t, t < j ∧ sO (b + t) = nI q)))
theorem bf_SI_0 {P b : Nat} {dO dI sO sI : Nat → Int32} : bf_SI P b dO dI 0 0 sO sI :=
  ⟨Nat.zero_le _, rfl, fun j hj => absurd hj (by omega), fun j hj => absurd hj (by omega)⟩
theorem bf_SI_d {P b i f o : Nat} {dO dI sO sI : Nat → Int32} (hP : P ≤ 32) (h : bf_SI P b dO dI i f sO sI) (hi : i < P) (ho : o < P) (h1 : dO i = nI o) (h2 : dI o = nI i) : bf_SI P b dO dI (i + 1) f (upd sO (b + i) (nI o)) (upd sI (b + o) (nI i)) := by
  obtain ⟨hf, hc, hB, hC⟩ := h
  refine ⟨hf, ?_, fun j hj => ?_, fun q hq hq2 => ?_⟩
  · rw [bf_cn_f (f := dO) (n := i) (by rw [h1]; exact bf_ne1 (by omega))]
    omega
  · by_cases e : j = i
    · subst e
      exact ⟨o, ho, pk_us, pk_us, Or.inl ⟨h1, h2⟩⟩
    · obtain ⟨q, hq, a1, a2, a3⟩ := hB j (by omega)
      have hqo : q ≠ o := by
        intro e2
        rcases a3 with ⟨_, a4⟩ | ⟨_, a4, _⟩
        · rw [e2, h2] at a4
          exact e (bf_inj a4 (by omega) (by omega)).symm
        · rw [e2, h2] at a4
          exact bf_ne1 (by omega) a4
      refine ⟨q, hq, by rw [pk_un (by omega)]; exact a1, by rw [pk_un (by omega)]; exact a2, ?_⟩
      rcases a3 with a3 | ⟨a3, a4, a5, a6⟩
      · exact Or.inl a3
      · refine Or.inr ⟨a3, a4, a5, fun r hr hr2 => ?_⟩
        obtain ⟨t, ht, ht2⟩ := a6 r hr hr2
        exact ⟨t, ht, by rw [pk_un (by omega)]; exact ht2⟩
  · obtain ⟨j, hj, a⟩ := hC q hq hq2
    exact ⟨j, by omega, by rw [pk_un (by omega)]; exact a⟩
theorem bf_SI_f {P b i f o : Nat} {dO dI sO sI : Nat → Int32} (hP : P ≤ 32) (h : bf_SI P b dO dI i f sO sI) (hi : i < P) (hfo : f ≤ o) (ho : o < P) (h1 : dO i = -1) (h2 : dI o = -1) (h3 : ∀ q, f ≤ q → q < o → ¬ dI q = -1) : bf_SI P b dO dI (i + 1) (o + 1) (upd sO (b + i) (nI o)) (upd sI (b + o) (nI i)) := by
  obtain ⟨hf, hc, hB, hC⟩ := h
  refine ⟨by omega, ?_, fun j hj => ?_, fun q hq hq2 => ?_⟩
  · obtain ⟨d, rfl⟩ : ∃ d, o = f + d := ⟨o - f, by omega⟩
    rw [bf_cn_t h1, bf_cn_t h2, bf_cn_full d h3]
    omega
  · by_cases e : j = i
    · subst e
      refine ⟨o, ho, pk_us, pk_us, Or.inr ⟨h1, h2, by omega, fun q hq hq2 => ?_⟩⟩
      have hqf : q < f := by
        rcases Nat.lt_or_ge q f with a | a
        · exact a
        · exact absurd hq2 (h3 q a hq)
      obtain ⟨t, ht, a⟩ := hC q hqf hq2
      exact ⟨t, ht, by rw [pk_un (by omega)]; exact a⟩
    · obtain ⟨q, hq, a1, a2, a3⟩ := hB j (by omega)
      have hqo : q ≠ o := by
        intro e2
        rcases a3 with ⟨_, a4⟩ | ⟨_, _, a4, _⟩
        · rw [e2, h2] at a4
          exact bf_ne1 (by omega) a4.symm
        · omega
      refine ⟨q, hq, by rw [pk_un (by omega)]; exact a1, by rw [pk_un (by omega)]; exact a2, ?_⟩
      rcases a3 with a3 | ⟨a3, a4, a5, a6⟩
      · exact Or.inl a3
      · refine Or.inr ⟨a3, a4, by omega, fun r hr hr2 => ?_⟩
        obtain ⟨t, ht, ht2⟩ := a6 r hr hr2
        exact ⟨t, ht, by rw [pk_un (by omega)]; exact ht2⟩
  · by_cases e : q = o
    · subst e
      exact ⟨i, by omega, pk_us⟩
    · have hqf : q < f := by
        rcases Nat.lt_or_ge q f with a | a
        · exact a
        · exact absurd hq2 (h3 q a (by omega))
      obtain ⟨j, hj, a⟩ := hC q hqf hq2
      exact ⟨j, by omega, by rw [pk_un (by omega)]; exact a⟩
/-- a free input still finds a free output -/
theorem bf_SI_ex {P b i f : Nat} {dO dI sO sI : Nat → Int32} (h : bf_SI P b dO dI i f sO sI) (hi : i < P) (h1 : dO i = -1) (hC : bf_cn dO P = bf_cn dI P) : ∃ o, f ≤ o ∧ o < P ∧ dI o = -1 := by
  obtain ⟨hf, hc, _, _⟩ := h
  by_cases e : ∃ o, f ≤ o ∧ o < P ∧ dI o = -1
  · exact e
  · exfalso
    have a : bf_cn dI P = bf_cn dI f + (P - f) := by
      have := bf_cn_full (f := dI) (m := f) (P - f) (fun j h1 h2 h3 => e ⟨j, h1, by omega, h3⟩)
      rw [show f + (P - f) = P by omega] at this
      exact this
    have c : bf_cn dO P ≤ bf_cn dO (i + 1) + (P - (i + 1)) := by
      have := bf_cn_up2 (f := dO) (m := i + 1) (P - (i + 1))
      rw [show i + 1 + (P - (i + 1)) = P by omega] at this
      exact this
    rw [bf_cn_t h1] at c
    omega
theorem bf_SI_end {P b f : Nat} {dO dI sO sI : Nat → Int32} (hP : P ≤ 32) (pd : bf_PD P dO dI) (h : bf_SI P b dO dI P f sO sI) : bf_CH P b dO dI sO sI := by
  obtain ⟨hf, hc, hB, hC⟩ := h
  refine ⟨⟨fun i hi => ?_, fun o ho => ?_⟩, fun j hj => ?_⟩
  · obtain ⟨o, ho, a1, a2, _⟩ := hB i hi
    exact ⟨o, ho, a1, a2⟩
  · rcases pd.2.1 o ho with a | ⟨i, hi, a, c⟩
    · have hof : o < f := by
        rcases Nat.lt_or_ge o f with z | z
        · exact z
        · exfalso
          have c1 : bf_cn dI P ≤ bf_cn dI (o + 1) + (P - (o + 1)) := by
            have := bf_cn_up2 (f := dI) (m := o + 1) (P - (o + 1))
            rw [show o + 1 + (P - (o + 1)) = P by omega] at this
            exact this
          have c2 : bf_cn dI o ≤ bf_cn dI f + (o - f) := by
            have := bf_cn_up2 (f := dI) (m := f) (o - f)
            rw [show f + (o - f) = o by omega] at this
            exact this
          rw [bf_cn_t a] at c1
          have := pd.2.2
          omega
      obtain ⟨j, hj, a1⟩ := hC o hof a
      obtain ⟨q, hq, b1, b2, _⟩ := hB j hj
      rw [a1] at b1
      have := bf_inj b1 (by omega) (by omega)
      subst this
      exact ⟨j, hj, b2, a1⟩
    · obtain ⟨q, hq, b1, b2, b3⟩ := hB i hi
      rcases b3 with ⟨b3, _⟩ | ⟨b3, _⟩
      · rw [c] at b3
        have := bf_inj b3 (by omega) (by omega)
        subst this
        exact ⟨i, hi, b2, b1⟩
      · rw [c] at b3
        exact absurd b3 (bf_ne1 (by omega))
  · obtain ⟨o, ho, a1, _, a3⟩ := hB j hj
    refine ⟨o, ho, a1, ?_⟩
    rcases a3 with ⟨a3, _⟩ | ⟨a3, a4, _, a6⟩
    · exact Or.inl a3
    · exact Or.inr ⟨a3, a4, a6⟩
/-- the completion of the empty draft: each input to its own output -/
theorem bf_CH_id {P b : Nat} {dO dI sO sI : Nat → Int32} (hP : P ≤ 32) (h : bf_CH P b dO dI sO sI) (h1 : ∀ i, i < P → dO i = -1) (h2 : ∀ i, i < P → dI i = -1) : ∀ n i, i < n → i < P → sO (b + i) = nI i := by
  intro n
  induction n with
  | zero => intro i hi; omega
  | succ n ih =>
    intro i hi hiP
    obtain ⟨o, ho, a1, a2⟩ := h.2 i hiP
    rcases a2 with a2 | ⟨_, _, a3⟩
    · rw [h1 i hiP] at a2
      exact absurd a2.symm (bf_ne1 (by omega))
    · rcases Nat.lt_trichotomy o i with z | z | z
      · have e := ih o (by omega) ho
        have := bf_PM_inj h.1 hP ho hiP (e.trans a1.symm)
        omega
      · rw [← z]; rw [← z] at a1; exact a1
      · obtain ⟨t, ht, a4⟩ := a3 i z (h2 i hiP)
        rw [ih t (by omega) (by omega)] at a4
        have := bf_inj a4 (by omega) (by omega)
        omega
/-- every output below a free input's is used already .. -/
theorem bf_used {P b i g q : Nat} {dO dI sO sI : Nat → Int32} (hP : P ≤ 32) (pd : bf_PD P dO dI) (h : bf_CH P b dO dI sO sI) (hi : i < P) (h1 : dO i = -1) (hg : sO (b + i) = nI g) (hgP : g < P) (hq : q < g) : ∃ j, j < P ∧ j ≠ i ∧ ((j < i ∧ sO (b + j) = nI q) ∨ (i < j ∧ dO j = nI q)) := by
  rcases pd.2.1 q (by omega) with a | ⟨j, hj, a, c⟩
  · obtain ⟨o, ho, a1, a2⟩ := h.2 i hi
    rw [hg] at a1
    have := bf_inj a1 (by omega) (by omega)
    subst this
    rcases a2 with a2 | ⟨_, _, a3⟩
    · rw [h1] at a2
      exact absurd a2.symm (bf_ne1 (by omega))
    · obtain ⟨t, ht, a4⟩ := a3 q hq a
      exact ⟨t, by omega, by omega, Or.inl ⟨ht, a4⟩⟩
  · have hji : j ≠ i := by
      intro e
      rw [e, h1] at c
      exact bf_ne1 (by omega) c.symm
    refine ⟨j, hj, hji, ?_⟩
    rcases Nat.lt_or_ge j i with z | z
    · obtain ⟨o, ho, a1, a2⟩ := h.2 j hj
      rcases a2 with a2 | ⟨a2, _⟩
      · rw [c] at a2
        have := bf_inj a2 (by omega) (by omega)
        subst this
        exact Or.inl ⟨z, a1⟩
      · rw [c] at a2
        exact absurd a2 (bf_ne1 (by omega))
    · exact Or.inr ⟨by omega, c⟩
/-- .. and its own is not -/
theorem bf_unused {P b i g : Nat} {dO dI sO sI : Nat → Int32} (hP : P ≤ 32) (pd : bf_PD P dO dI) (h : bf_CH P b dO dI sO sI) (hi : i < P) (h1 : dO i = -1) (hg : sO (b + i) = nI g) (hgP : g < P) : (∀ j, j < i → ¬ sO (b + j) = nI g) ∧ (∀ j, j < P → ¬ dO j = nI g) := by
  refine ⟨fun j hj e => ?_, fun j hj e => ?_⟩
  · have := bf_PM_inj h.1 hP (i := j) (j := i) (by omega) hi (e.trans hg.symm)
    omega
  · have c := bf_PD_o pd hP hj hgP e
    obtain ⟨o, ho, a1, a2⟩ := h.2 i hi
    rw [hg] at a1
    have := bf_inj a1 (by omega) (by omega)
    subst this
    rcases a2 with a2 | ⟨_, a3, _⟩
    · rw [h1] at a2
      exact bf_ne1 (by omega) a2.symm
    · rw [c] at a3
      exact bf_ne1 (by omega) a3
/-- what a drafted input has is its drafted output -/
theorem bf_CH_d {P b i : Nat} {dO dI sO sI : Nat → Int32} (h : bf_CH P b dO dI sO sI) (hi : i < P) (h1 : ¬ dO i = -1) : dO i = sO (b + i) := by
  obtain ⟨o, ho, a1, a2⟩ := h.2 i hi
  rcases a2 with a2 | ⟨a2, _⟩
  · rw [a2, a1]
  · exact absurd a2 h1
