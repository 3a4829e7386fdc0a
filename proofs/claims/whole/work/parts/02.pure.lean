/-! values, counts, the draft as a partial bijection, a slot as a permutation -/
theorem bf_ne1 {a : Nat} (h : a < 2 ^ 31) : ¬ nI a = -1 := by
  intro e
  have h2 := nI_pos (n := a) h
  rw [e] at h2
  exact h2 (by decide)
theorem bf_inj {a b : Nat} (h : nI a = nI b) (ha : a < 2 ^ 31) (hb : b < 2 ^ 31) : a = b := (nI_eq ha hb).mp h
/-- empty, or a natural -/
def bf_Vl (x : Int32) : Prop := x = -1 ∨ ∃ n : Nat, n < 2 ^ 31 ∧ x = nI n
theorem bf_vl_lt {x : Int32} (h : bf_Vl x) : x < 0 ↔ x = -1 := by
  rcases h with h | ⟨n, hn, h⟩
  · subst h
    exact ⟨fun _ => rfl, fun _ => by decide⟩
  · subst h
    exact ⟨fun z => absurd z (nI_pos hn), fun z => absurd z (bf_ne1 hn)⟩
theorem bf_vl_le {x : Int32} (h : bf_Vl x) : 0 ≤ x ↔ ¬ x = -1 := by
  rw [← bf_vl_lt h]
  exact ⟨fun a b => absurd a (Int32.not_le.mpr b), fun a => Int32.not_lt.mp a⟩
theorem bf_vl_1 : bf_Vl (-1) := Or.inl rfl
theorem bf_vl_n {n : Nat} (h : n < 2 ^ 31) : bf_Vl (nI n) := Or.inr ⟨n, h, rfl⟩
/-- how many of the first n places are held -/
def bf_cn (f : Nat → Int32) : Nat → Nat
  | 0 => 0
  | n + 1 => bf_cn f n + (if f n = -1 then 0 else 1)
theorem bf_cn_s (f : Nat → Int32) (n : Nat) : bf_cn f (n + 1) = bf_cn f n + (if f n = -1 then 0 else 1) := rfl
theorem bf_cn_t {f : Nat → Int32} {n : Nat} (h : f n = -1) : bf_cn f (n + 1) = bf_cn f n := by
  rw [bf_cn_s, if_pos h, Nat.add_zero]
theorem bf_cn_f {f : Nat → Int32} {n : Nat} (h : ¬ f n = -1) : bf_cn f (n + 1) = bf_cn f n + 1 := by
  rw [bf_cn_s, if_neg h]
theorem bf_cn_le (f : Nat → Int32) : ∀ n, bf_cn f n ≤ n := by
  intro n
  induction n with
  | zero => exact Nat.le_refl 0
  | succ n ih =>
    by_cases h : f n = -1
    · rw [bf_cn_t h]; omega
    · rw [bf_cn_f h]; omega
theorem bf_cn_cg {f g : Nat → Int32} : ∀ n, (∀ j, j < n → f j = g j) → bf_cn f n = bf_cn g n := by
  intro n
  induction n with
  | zero => intro _; rfl
  | succ n ih =>
    intro h
    rw [bf_cn_s, bf_cn_s, ih (fun j hj => h j (by omega)), h n (by omega)]
theorem bf_cn_up {f : Nat → Int32} {k : Nat} {x : Int32} (h0 : f k = -1) (hx : ¬ x = -1) : ∀ n, k < n → bf_cn (upd f k x) n = bf_cn f n + 1 := by
  intro n
  induction n with
  | zero => intro h; omega
  | succ n ih =>
    intro h
    by_cases e : n = k
    · subst e
      rw [bf_cn_f (f := upd f n x) (n := n) (by rw [pk_us]; exact hx), bf_cn_t h0, bf_cn_cg (f := upd f n x) (g := f) n (fun j hj => pk_un (by omega))]
    · rw [bf_cn_s, bf_cn_s, ih (by omega), pk_un e]
      exact Nat.add_right_comm _ _ _
theorem bf_cn_dn {f : Nat → Int32} {k : Nat} (h0 : ¬ f k = -1) : ∀ n, k < n → bf_cn (upd f k (-1)) n + 1 = bf_cn f n := by
  intro n
  induction n with
  | zero => intro h; omega
  | succ n ih =>
    intro h
    by_cases e : n = k
    · subst e
      rw [bf_cn_t (f := upd f n (-1)) (n := n) pk_us, bf_cn_f h0, bf_cn_cg (f := upd f n (-1)) (g := f) n (fun j hj => pk_un (by omega))]
    · rw [bf_cn_s, bf_cn_s, pk_un e, ← ih (by omega)]
      exact Nat.add_right_comm _ _ _
theorem bf_cn_all {f : Nat → Int32} : ∀ n, (∀ j, j < n → ¬ f j = -1) → bf_cn f n = n := by
  intro n
  induction n with
  | zero => intro _; rfl
  | succ n ih =>
    intro h
    rw [bf_cn_f (h n (by omega)), ih (fun j hj => h j (by omega))]
theorem bf_cn_nil {f : Nat → Int32} : ∀ n, (∀ j, j < n → f j = -1) → bf_cn f n = 0 := by
  intro n
  induction n with
  | zero => intro _; rfl
  | succ n ih =>
    intro h
    rw [bf_cn_t (h n (by omega)), ih (fun j hj => h j (by omega))]
theorem bf_cn_add (f : Nat → Int32) (a : Nat) : ∀ b, bf_cn f (a + b) = bf_cn f a + bf_cn (fun j => f (a + j)) b := by
  intro b
  induction b with
  | zero => rfl
  | succ b ih =>
    rw [← Nat.add_assoc, bf_cn_s, ih, bf_cn_s]
    exact Nat.add_assoc _ _ _
theorem bf_cn_up2 {f : Nat → Int32} {m : Nat} : ∀ d, bf_cn f (m + d) ≤ bf_cn f m + d := by
  intro d
  induction d with
  | zero => exact Nat.le_refl _
  | succ d ih =>
    rw [← Nat.add_assoc]
    by_cases h : f (m + d) = -1
    · rw [bf_cn_t h]; omega
    · rw [bf_cn_f h]; omega
theorem bf_cn_full {f : Nat → Int32} {m : Nat} : ∀ d, (∀ j, m ≤ j → j < m + d → ¬ f j = -1) → bf_cn f (m + d) = bf_cn f m + d := by
  intro d
  induction d with
  | zero => intro _; rfl
  | succ d ih =>
    intro h
    rw [← Nat.add_assoc, bf_cn_f (h (m + d) (by omega) (by omega)), ih (fun j h1 h2 => h j h1 (by omega))]
    omega
/-- the draft from both sides -/
def bf_PD (P : Nat) (dO dI : Nat → Int32) : Prop :=
  (∀ i, i < P → dO i = -1 ∨ ∃ o, o < P ∧ dO i = nI o ∧ dI o = nI i) ∧
  (∀ o, o < P → dI o = -1 ∨ ∃ i, i < P ∧ dI o = nI i ∧ dO i = nI o) ∧
  bf_cn dO P = bf_cn dI P
theorem bf_PD_add {P i o : Nat} {dO dI : Nat → Int32} (h : bf_PD P dO dI) (hP : P ≤ 32) (hi : i < P) (ho : o < P) (h1 : dO i = -1) (h2 : dI o = -1) : bf_PD P (upd dO i (nI o)) (upd dI o (nI i)) := by
  obtain ⟨hA, hB, hC⟩ := h
  refine ⟨fun j hj => ?_, fun q hq => ?_, ?_⟩
  · by_cases e : j = i
    · subst e
      exact Or.inr ⟨o, ho, pk_us, pk_us⟩
    · rcases hA j hj with a | ⟨q, hq, a, b⟩
      · exact Or.inl (by rw [pk_un e]; exact a)
      · have hqo : q ≠ o := by
          intro e2
          rw [e2, h2] at b
          exact bf_ne1 (by omega) b.symm
        exact Or.inr ⟨q, hq, by rw [pk_un e]; exact a, by rw [pk_un hqo]; exact b⟩
  · by_cases e : q = o
    · subst e
      exact Or.inr ⟨i, hi, pk_us, pk_us⟩
    · rcases hB q hq with a | ⟨j, hj, a, b⟩
      · exact Or.inl (by rw [pk_un e]; exact a)
      · have hji : j ≠ i := by
          intro e2
          rw [e2, h1] at b
          exact bf_ne1 (by omega) b.symm
        exact Or.inr ⟨j, hj, by rw [pk_un e]; exact a, by rw [pk_un hji]; exact b⟩
  · rw [bf_cn_up h1 (bf_ne1 (by omega)) P hi, bf_cn_up h2 (bf_ne1 (by omega)) P ho, hC]
theorem bf_PD_del {P i o : Nat} {dO dI : Nat → Int32} (h : bf_PD P dO dI) (hP : P ≤ 32) (hi : i < P) (ho : o < P) (h1 : dO i = nI o) (h2 : dI o = nI i) : bf_PD P (upd dO i (-1)) (upd dI o (-1)) := by
  obtain ⟨hA, hB, hC⟩ := h
  refine ⟨fun j hj => ?_, fun q hq => ?_, ?_⟩
  · by_cases e : j = i
    · subst e
      exact Or.inl pk_us
    · rcases hA j hj with a | ⟨q, hq, a, b⟩
      · exact Or.inl (by rw [pk_un e]; exact a)
      · have hqo : q ≠ o := by
          intro e2
          rw [e2, h2] at b
          exact e (bf_inj b (by omega) (by omega)).symm
        exact Or.inr ⟨q, hq, by rw [pk_un e]; exact a, by rw [pk_un hqo]; exact b⟩
  · by_cases e : q = o
    · subst e
      exact Or.inl pk_us
    · rcases hB q hq with a | ⟨j, hj, a, b⟩
      · exact Or.inl (by rw [pk_un e]; exact a)
      · have hji : j ≠ i := by
          intro e2
          rw [e2, h1] at b
          exact e (bf_inj b (by omega) (by omega)).symm
        exact Or.inr ⟨j, hj, by rw [pk_un e]; exact a, by rw [pk_un hji]; exact b⟩
  · have a := bf_cn_dn (f := dO) (k := i) (by rw [h1]; exact bf_ne1 (by omega)) P hi
    have b := bf_cn_dn (f := dI) (k := o) (by rw [h2]; exact bf_ne1 (by omega)) P ho
    omega
theorem bf_PD_nil {P : Nat} {dO dI : Nat → Int32} (h1 : ∀ i, i < P → dO i = -1) (h2 : ∀ i, i < P → dI i = -1) : bf_PD P dO dI :=
  ⟨fun i hi => Or.inl (h1 i hi), fun i hi => Or.inl (h2 i hi), by rw [bf_cn_nil P h1, bf_cn_nil P h2]⟩
theorem bf_PD_o {P i : Nat} {dO dI : Nat → Int32} (h : bf_PD P dO dI) (hP : P ≤ 32) (hi : i < P) {o : Nat} (ho : o < P) (e : dO i = nI o) : dI o = nI i := by
  rcases h.1 i hi with a | ⟨q, hq, a, b⟩
  · rw [a] at e
    exact absurd e.symm (bf_ne1 (by omega))
  · rw [e] at a
    rw [bf_inj a (by omega) (by omega)]
    exact b
theorem bf_PD_v {P i : Nat} {dO dI : Nat → Int32} (h : bf_PD P dO dI) (hP : P ≤ 32) (hi : i < P) : bf_Vl (dO i) := by
  rcases h.1 i hi with a | ⟨q, hq, a, _⟩
  · exact Or.inl a
  · exact Or.inr ⟨q, by omega, a⟩
/-- a slot from both sides, its first place b -/
def bf_PM (P : Nat) (sO sI : Nat → Int32) (b : Nat) : Prop :=
  (∀ i, i < P → ∃ o, o < P ∧ sO (b + i) = nI o ∧ sI (b + o) = nI i) ∧
  (∀ o, o < P → ∃ i, i < P ∧ sI (b + o) = nI i ∧ sO (b + i) = nI o)
theorem bf_PM_cg {P b : Nat} {sO sI sO' sI' : Nat → Int32} (h : bf_PM P sO sI b) (e : ∀ x, b ≤ x → x < b + P → sO' x = sO x ∧ sI' x = sI x) : bf_PM P sO' sI' b := by
  refine ⟨fun i hi => ?_, fun o ho => ?_⟩
  · obtain ⟨o, ho, a, c⟩ := h.1 i hi
    exact ⟨o, ho, by rw [(e (b + i) (by omega) (by omega)).1]; exact a, by rw [(e (b + o) (by omega) (by omega)).2]; exact c⟩
  · obtain ⟨i, hi, a, c⟩ := h.2 o ho
    exact ⟨i, hi, by rw [(e (b + o) (by omega) (by omega)).2]; exact a, by rw [(e (b + i) (by omega) (by omega)).1]; exact c⟩
theorem bf_PM_inj {P b i j : Nat} {sO sI : Nat → Int32} (h : bf_PM P sO sI b) (hP : P ≤ 32) (hi : i < P) (hj : j < P) (e : sO (b + i) = sO (b + j)) : i = j := by
  obtain ⟨o, ho, a, c⟩ := h.1 i hi
  obtain ⟨q, hq, a2, c2⟩ := h.1 j hj
  rw [a, a2] at e
  have := bf_inj e (by omega) (by omega)
  subst this
  rw [c] at c2
  exact bf_inj c2 (by omega) (by omega)
/-- a loaded slot is a draft -/
theorem bf_PD_ld {P b : Nat} {sO sI dO dI : Nat → Int32} (h : bf_PM P sO sI b) (hP : P ≤ 32) (h1 : ∀ i, i < P → dO i = sO (b + i)) (h2 : ∀ i, i < P → dI i = sI (b + i)) : bf_PD P dO dI := by
  refine ⟨fun i hi => ?_, fun o ho => ?_, ?_⟩
  · obtain ⟨o, ho, a, c⟩ := h.1 i hi
    exact Or.inr ⟨o, ho, by rw [h1 i hi]; exact a, by rw [h2 o ho]; exact c⟩
  · obtain ⟨i, hi, a, c⟩ := h.2 o ho
    exact Or.inr ⟨i, hi, by rw [h2 o ho]; exact a, by rw [h1 i hi]; exact c⟩
  · have q1 : bf_cn dO P = P := bf_cn_all P (fun i hi => by
      obtain ⟨o, ho, a, c⟩ := h.1 i hi
      rw [h1 i hi, a]
      exact bf_ne1 (by omega))
    have q2 : bf_cn dI P = P := bf_cn_all P (fun i hi => by
      obtain ⟨j, hj, a, c⟩ := h.2 i hi
      rw [h2 i hi, a]
      exact bf_ne1 (by omega))
    rw [q1, q2]
theorem bf_ix {s T P i : Nat} (hs : s < T) (hi : i < P) : s * P + i < T * P := by
  have : (s + 1) * P ≤ T * P := Nat.mul_le_mul_right P hs
  rw [Nat.add_mul, Nat.one_mul] at this
  omega
theorem bf_ix4 {s T P i : Nat} (hs : s < T) (hT : T ≤ 4) (hi : i < P) (hP : P ≤ 32) : s * P + i < 128 := by
  have := bf_ix hs hi
  have h2 : T * P ≤ 4 * 32 := Nat.mul_le_mul hT hP
  omega
theorem bf_ix9 {s T P i : Nat} (hs : s < T) (hT : T ≤ 9) (hi : i < P) (hP : P ≤ 32) : s * P + i < 288 := by
  have := bf_ix hs hi
  have h2 : T * P ≤ 9 * 32 := Nat.mul_le_mul hT hP
  omega
/-- two slots lie apart -/
theorem bf_apart {s t P x : Nat} (h : s ≠ t) (h1 : s * P ≤ x) (h2 : x < s * P + P) : x < t * P ∨ t * P + P ≤ x := by
  rcases Nat.lt_or_ge s t with a | a
  · have : (s + 1) * P ≤ t * P := Nat.mul_le_mul_right P a
    rw [Nat.add_mul, Nat.one_mul] at this
    omega
  · have : (t + 1) * P ≤ s * P := Nat.mul_le_mul_right P (by omega : t + 1 ≤ s)
    rw [Nat.add_mul, Nat.one_mul] at this
    omega
