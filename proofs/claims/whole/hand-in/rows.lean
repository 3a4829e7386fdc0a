section
/-! numbers, stores, branches, a loop: pasted from kit/rows -/
theorem pk_us {f : Nat → Int32} {k : Nat} {x : Int32} : upd f k x k = x := if_pos rfl
theorem pk_un {f : Nat → Int32} {k j : Nat} {x : Int32} (h : j ≠ k) : upd f k x j = f j := if_neg h
theorem pk_sub {a b : Nat} (h : b ≤ a) : nI a - nI b = nI (a - b) := by
  obtain ⟨c, rfl⟩ : ∃ c, a = c + b := ⟨a - b, by omega⟩
  rw [← nI_add, Int32.add_sub_cancel, Nat.add_sub_cancel]
theorem pk_m1 (n : Nat) : nI (n + 1) + (-1) = nI n := by
  rw [← nI_1, Int32.add_assoc, show (1 : Int32) + (-1) = 0 from rfl, Int32.add_zero]
theorem pk_mul (a b : Nat) : nI a * nI b = nI (a * b) := (Int32.ofNat_mul a b).symm
theorem pk_ix (x : Int32) {n : Nat} (hn : n < 2 ^ 31) : x < 0 ∨ nI n ≤ x ∨ ∃ j : Nat, j < n ∧ x = nI j := by
  by_cases h : x < 0
  · exact Or.inl h
  · obtain ⟨j, hj, rfl⟩ := nI_of h
    by_cases h2 : j < n
    · exact Or.inr (Or.inr ⟨j, h2, rfl⟩)
    · exact Or.inr (Or.inl (nI_le (by omega) hj))
theorem pk_le {x y : Int32} {A B : Prop} (a b : Nat) (f : a ≤ b → A) (g : b < a → B) (hx : x = nI a := by rfl) (hy : y = nI b := by rfl) (ha : a < 2 ^ 31 := by omega) (hb : b < 2 ^ 31 := by omega) : (x ≤ y → A) ∧ (¬ x ≤ y → B) := by
  subst hx hy
  rw [nI_leI ha hb]
  exact ⟨f, fun z => g (by omega)⟩
theorem pk_lt {x y : Int32} {A B : Prop} (a b : Nat) (f : a < b → A) (g : b ≤ a → B) (hx : x = nI a := by rfl) (hy : y = nI b := by rfl) (ha : a < 2 ^ 31 := by omega) (hb : b < 2 ^ 31 := by omega) : (x < y → A) ∧ (¬ x < y → B) := by
  subst hx hy
  rw [nI_ltI ha hb]
  exact ⟨f, fun z => g (by omega)⟩
theorem pk_eq {x y : Int32} {A B : Prop} (a b : Nat) (f : a = b → A) (g : a ≠ b → B) (hx : x = nI a := by rfl) (hy : y = nI b := by rfl) (ha : a < 2 ^ 31 := by omega) (hb : b < 2 ^ 31 := by omega) : (x = y → A) ∧ (¬ x = y → B) := by
  subst hx hy
  rw [nI_eq ha hb]
  exact ⟨f, g⟩
theorem pk_in {x : Int32} (n N : Nat) (h : n < N) (hx : x = nI n := by rfl) (hN : N < 2 ^ 31 := by omega) : vp_in x N := by
  subst hx
  exact vp_in_nI h hN
theorem pk_cl {x : Int32} (n : Nat) (hx : x = nI n := by rfl) (h : n < 2 ^ 31 := by omega) : x.toNatClampNeg = n := by
  subst hx
  exact nI_clamp h
theorem pk_tn {n : Nat} (h : n < 2 ^ 32) : (nI n).toBitVec.toNat = n := Nat.mod_eq_of_lt h
theorem pk_and (x : Int32) {m : Int32} (k : Nat) (hm : m.toBitVec.toNat = 2 ^ k - 1) : x &&& m = nI (x.toBitVec.toNat % 2 ^ k) := by
  apply Int32.toBitVec_inj.mp
  apply BitVec.eq_of_toNat_eq
  rw [Int32.toBitVec_and, BitVec.toNat_and, hm, Nat.and_two_pow_sub_one_eq_mod]
  show _ = (BitVec.ofNat 32 _).toNat
  rw [BitVec.toNat_ofNat]
  exact (Nat.mod_eq_of_lt (Nat.lt_of_le_of_lt (Nat.mod_le _ _) x.toBitVec.isLt)).symm
theorem pk_andE (x : Int32) {m : Int32} (k : Nat) (hm : m.toBitVec.toNat = 2 ^ k - 1) : ∃ j : Nat, j < 2 ^ k ∧ x &&& m = nI j := ⟨_, Nat.mod_lt _ (Nat.two_pow_pos k), pk_and x k hm⟩
theorem pk_shl (a s : Int32) (k : Nat) (hs : (s.toBitVec.smod 32).toNat = k) : (a <<< s).toBitVec.toNat = a.toBitVec.toNat * 2 ^ k % 2 ^ 32 := by
  show (a.toBitVec <<< (s.toBitVec.smod 32).toNat).toNat = _
  rw [hs, BitVec.toNat_shiftLeft, Nat.shiftLeft_eq]
theorem pk_shlN {n : Nat} (s : Int32) (k : Nat) (hs : (s.toBitVec.smod 32).toNat = k) (h : n * 2 ^ k < 2 ^ 32) : nI n <<< s = nI (n * 2 ^ k) := by
  apply Int32.toBitVec_inj.mp
  apply BitVec.eq_of_toNat_eq
  have hn : n < 2 ^ 32 := Nat.lt_of_le_of_lt (Nat.le_mul_of_pos_right n (Nat.two_pow_pos k)) h
  rw [pk_shl _ _ k hs, pk_tn hn, pk_tn h, Nat.mod_eq_of_lt h]
theorem pk_loop {σ : Type} (W : Nat → Nat → σ → Prop) (I : Nat → σ → Prop) (e i0 : Nat) (s : σ) (hi : i0 ≤ e) (h0 : I i0 s) (hx : ∀ n s, I e s → W (n + 1) e s)
    (hs : ∀ n i s, i < e → I i s → (∀ s', I (i + 1) s' → W n (i + 1) s') → W (n + 1) i s) : ∃ n, W n i0 s :=
  ⟨e + 1, loop_i W I e hx hs (e + 1) i0 s hi (by omega) h0⟩
end
section
/-! values, counts, the draft as a partial bijection, a slot as a permutation -/
theorem bf_ne1 {a : Nat} (h : a < 2 ^ 31) : ¬ nI a = -1 := by
  intro e
  have h2 := nI_pos (n := a) h
  rw [e] at h2
  exact h2 (by decide)
theorem bf_inj {a b : Nat} (h : nI a = nI b) (ha : a < 2 ^ 31) (hb : b < 2 ^ 31) : a = b := (nI_eq ha hb).mp h
/-- empty, or a natural -/
def bf_Vl (x : Int32) : Prop := x = -1 ∨ ∃ n : Nat, n < 2 ^ 31 ∧ x = nI n
theorem bf_vl_lt {x : Int32} (h : bf_Vl x) : x < 0 ↔ x = -1 := by
  rcases h with h | ⟨n, hn, h⟩
  · subst h
    exact ⟨fun _ => rfl, fun _ => by decide⟩
  · subst h
    exact ⟨fun z => absurd z (nI_pos hn), fun z => absurd z (bf_ne1 hn)⟩
theorem bf_vl_le {x : Int32} (h : bf_Vl x) : 0 ≤ x ↔ ¬ x = -1 := by
  rw [← bf_vl_lt h]
  exact ⟨fun a b => absurd a (Int32.not_le.mpr b), fun a => Int32.not_lt.mp a⟩
theorem bf_vl_1 : bf_Vl (-1) := Or.inl rfl
theorem bf_vl_n {n : Nat} (h : n < 2 ^ 31) : bf_Vl (nI n) := Or.inr ⟨n, h, rfl⟩
/-- how many of the first n places are held -/
def bf_cn (f : Nat → Int32) : Nat → Nat
  | 0 => 0
  | n + 1 => bf_cn f n + (if f n = -1 then 0 else 1)
theorem bf_cn_s (f : Nat → Int32) (n : Nat) : bf_cn f (n + 1) = bf_cn f n + (if f n = -1 then 0 else 1) := rfl
theorem bf_cn_t {f : Nat → Int32} {n : Nat} (h : f n = -1) : bf_cn f (n + 1) = bf_cn f n := by
  rw [bf_cn_s, if_pos h, Nat.add_zero]
theorem bf_cn_f {f : Nat → Int32} {n : Nat} (h : ¬ f n = -1) : bf_cn f (n + 1) = bf_cn f n + 1 := by
  rw [bf_cn_s, if_neg h]
theorem bf_cn_le (f : Nat → Int32) : ∀ n, bf_cn f n ≤ n := by
  intro n
  induction n with
  | zero => exact Nat.le_refl 0
  | succ n ih =>
    by_cases h : f n = -1
    · rw [bf_cn_t h]; omega
    · rw [bf_cn_f h]; omega
theorem bf_cn_cg {f g : Nat → Int32} : ∀ n, (∀ j, j < n → f j = g j) → bf_cn f n = bf_cn g n := by
  intro n
  induction n with
  | zero => intro _; rfl
  | succ n ih =>
    intro h
    rw [bf_cn_s, bf_cn_s, ih (fun j hj => h j (by omega)), h n (by omega)]
theorem bf_cn_up {f : Nat → Int32} {k : Nat} {x : Int32} (h0 : f k = -1) (hx : ¬ x = -1) : ∀ n, k < n → bf_cn (upd f k x) n = bf_cn f n + 1 := by
  intro n
  induction n with
  | zero => intro h; omega
  | succ n ih =>
    intro h
    by_cases e : n = k
    · subst e
      rw [bf_cn_f (f := upd f n x) (n := n) (by rw [pk_us]; exact hx), bf_cn_t h0, bf_cn_cg (f := upd f n x) (g := f) n (fun j hj => pk_un (by omega))]
    · rw [bf_cn_s, bf_cn_s, ih (by omega), pk_un e]
      exact Nat.add_right_comm _ _ _
theorem bf_cn_dn {f : Nat → Int32} {k : Nat} (h0 : ¬ f k = -1) : ∀ n, k < n → bf_cn (upd f k (-1)) n + 1 = bf_cn f n := by
  intro n
  induction n with
  | zero => intro h; omega
  | succ n ih =>
    intro h
    by_cases e : n = k
    · subst e
      rw [bf_cn_t (f := upd f n (-1)) (n := n) pk_us, bf_cn_f h0, bf_cn_cg (f := upd f n (-1)) (g := f) n (fun j hj => pk_un (by omega))]
    · rw [bf_cn_s, bf_cn_s, pk_un e, ← ih (by omega)]
      exact Nat.add_right_comm _ _ _
theorem bf_cn_all {f : Nat → Int32} : ∀ n, (∀ j, j < n → ¬ f j = -1) → bf_cn f n = n := by
  intro n
  induction n with
  | zero => intro _; rfl
  | succ n ih =>
    intro h
    rw [bf_cn_f (h n (by omega)), ih (fun j hj => h j (by omega))]
theorem bf_cn_nil {f : Nat → Int32} : ∀ n, (∀ j, j < n → f j = -1) → bf_cn f n = 0 := by
  intro n
  induction n with
  | zero => intro _; rfl
  | succ n ih =>
    intro h
    rw [bf_cn_t (h n (by omega)), ih (fun j hj => h j (by omega))]
theorem bf_cn_add (f : Nat → Int32) (a : Nat) : ∀ b, bf_cn f (a + b) = bf_cn f a + bf_cn (fun j => f (a + j)) b := by
  intro b
  induction b with
  | zero => rfl
  | succ b ih =>
    rw [← Nat.add_assoc, bf_cn_s, ih, bf_cn_s]
    exact Nat.add_assoc _ _ _
theorem bf_cn_up2 {f : Nat → Int32} {m : Nat} : ∀ d, bf_cn f (m + d) ≤ bf_cn f m + d := by
  intro d
  induction d with
  | zero => exact Nat.le_refl _
  | succ d ih =>
    rw [← Nat.add_assoc]
    by_cases h : f (m + d) = -1
    · rw [bf_cn_t h]; omega
    · rw [bf_cn_f h]; omega
theorem bf_cn_full {f : Nat → Int32} {m : Nat} : ∀ d, (∀ j, m ≤ j → j < m + d → ¬ f j = -1) → bf_cn f (m + d) = bf_cn f m + d := by
  intro d
  induction d with
  | zero => intro _; rfl
  | succ d ih =>
    intro h
    rw [← Nat.add_assoc, bf_cn_f (h (m + d) (by omega) (by omega)), ih (fun j h1 h2 => h j h1 (by omega))]
    omega
/-- the draft from both sides -/
def bf_PD (P : Nat) (dO dI : Nat → Int32) : Prop :=
  (∀ i, i < P → dO i = -1 ∨ ∃ o, o < P ∧ dO i = nI o ∧ dI o = nI i) ∧
  (∀ o, o < P → dI o = -1 ∨ ∃ i, i < P ∧ dI o = nI i ∧ dO i = nI o) ∧
  bf_cn dO P = bf_cn dI P
theorem bf_PD_add {P i o : Nat} {dO dI : Nat → Int32} (h : bf_PD P dO dI) (hP : P ≤ 32) (hi : i < P) (ho : o < P) (h1 : dO i = -1) (h2 : dI o = -1) : bf_PD P (upd dO i (nI o)) (upd dI o (nI i)) := by
  obtain ⟨hA, hB, hC⟩ := h
  refine ⟨fun j hj => ?_, fun q hq => ?_, ?_⟩
  · by_cases e : j = i
    · subst e
      exact Or.inr ⟨o, ho, pk_us, pk_us⟩
    · rcases hA j hj with a | ⟨q, hq, a, b⟩
      · exact Or.inl (by rw [pk_un e]; exact a)
      · have hqo : q ≠ o := by
          intro e2
          rw [e2, h2] at b
          exact bf_ne1 (by omega) b.symm
        exact Or.inr ⟨q, hq, by rw [pk_un e]; exact a, by rw [pk_un hqo]; exact b⟩
  · by_cases e : q = o
    · subst e
      exact Or.inr ⟨i, hi, pk_us, pk_us⟩
    · rcases hB q hq with a | ⟨j, hj, a, b⟩
      · exact Or.inl (by rw [pk_un e]; exact a)
      · have hji : j ≠ i := by
          intro e2
          rw [e2, h1] at b
          exact bf_ne1 (by omega) b.symm
        exact Or.inr ⟨j, hj, by rw [pk_un e]; exact a, by rw [pk_un hji]; exact b⟩
  · rw [bf_cn_up h1 (bf_ne1 (by omega)) P hi, bf_cn_up h2 (bf_ne1 (by omega)) P ho, hC]
theorem bf_PD_del {P i o : Nat} {dO dI : Nat → Int32} (h : bf_PD P dO dI) (hP : P ≤ 32) (hi : i < P) (ho : o < P) (h1 : dO i = nI o) (h2 : dI o = nI i) : bf_PD P (upd dO i (-1)) (upd dI o (-1)) := by
  obtain ⟨hA, hB, hC⟩ := h
  refine ⟨fun j hj => ?_, fun q hq => ?_, ?_⟩
  · by_cases e : j = i
    · subst e
      exact Or.inl pk_us
    · rcases hA j hj with a | ⟨q, hq, a, b⟩
      · exact Or.inl (by rw [pk_un e]; exact a)
      · have hqo : q ≠ o := by
          intro e2
          rw [e2, h2] at b
          exact e (bf_inj b (by omega) (by omega)).symm
        exact Or.inr ⟨q, hq, by rw [pk_un e]; exact a, by rw [pk_un hqo]; exact b⟩
  · by_cases e : q = o
    · subst e
      exact Or.inl pk_us
    · rcases hB q hq with a | ⟨j, hj, a, b⟩
      · exact Or.inl (by rw [pk_un e]; exact a)
      · have hji : j ≠ i := by
          intro e2
          rw [e2, h1] at b
          exact e (bf_inj b (by omega) (by omega)).symm
        exact Or.inr ⟨j, hj, by rw [pk_un e]; exact a, by rw [pk_un hji]; exact b⟩
  · have a := bf_cn_dn (f := dO) (k := i) (by rw [h1]; exact bf_ne1 (by omega)) P hi
    have b := bf_cn_dn (f := dI) (k := o) (by rw [h2]; exact bf_ne1 (by omega)) P ho
    omega
theorem bf_PD_nil {P : Nat} {dO dI : Nat → Int32} (h1 : ∀ i, i < P → dO i = -1) (h2 : ∀ i, i < P → dI i = -1) : bf_PD P dO dI :=
  ⟨fun i hi => Or.inl (h1 i hi), fun i hi => Or.inl (h2 i hi), by rw [bf_cn_nil P h1, bf_cn_nil P h2]⟩
theorem bf_PD_o {P i : Nat} {dO dI : Nat → Int32} (h : bf_PD P dO dI) (hP : P ≤ 32) (hi : i < P) {o : Nat} (ho : o < P) (e : dO i = nI o) : dI o = nI i := by
  rcases h.1 i hi with a | ⟨q, hq, a, b⟩
  · rw [a] at e
    exact absurd e.symm (bf_ne1 (by omega))
  · rw [e] at a
    rw [bf_inj a (by omega) (by omega)]
    exact b
theorem bf_PD_v {P i : Nat} {dO dI : Nat → Int32} (h : bf_PD P dO dI) (hP : P ≤ 32) (hi : i < P) : bf_Vl (dO i) := by
  rcases h.1 i hi with a | ⟨q, hq, a, _⟩
  · exact Or.inl a
  · exact Or.inr ⟨q, by omega, a⟩
/-- a slot from both sides, its first place b -/
def bf_PM (P : Nat) (sO sI : Nat → Int32) (b : Nat) : Prop :=
  (∀ i, i < P → ∃ o, o < P ∧ sO (b + i) = nI o ∧ sI (b + o) = nI i) ∧
  (∀ o, o < P → ∃ i, i < P ∧ sI (b + o) = nI i ∧ sO (b + i) = nI o)
theorem bf_PM_cg {P b : Nat} {sO sI sO' sI' : Nat → Int32} (h : bf_PM P sO sI b) (e : ∀ x, b ≤ x → x < b + P → sO' x = sO x ∧ sI' x = sI x) : bf_PM P sO' sI' b := by
  refine ⟨fun i hi => ?_, fun o ho => ?_⟩
  · obtain ⟨o, ho, a, c⟩ := h.1 i hi
    exact ⟨o, ho, by rw [(e (b + i) (by omega) (by omega)).1]; exact a, by rw [(e (b + o) (by omega) (by omega)).2]; exact c⟩
  · obtain ⟨i, hi, a, c⟩ := h.2 o ho
    exact ⟨i, hi, by rw [(e (b + o) (by omega) (by omega)).2]; exact a, by rw [(e (b + i) (by omega) (by omega)).1]; exact c⟩
theorem bf_PM_inj {P b i j : Nat} {sO sI : Nat → Int32} (h : bf_PM P sO sI b) (hP : P ≤ 32) (hi : i < P) (hj : j < P) (e : sO (b + i) = sO (b + j)) : i = j := by
  obtain ⟨o, ho, a, c⟩ := h.1 i hi
  obtain ⟨q, hq, a2, c2⟩ := h.1 j hj
  rw [a, a2] at e
  have := bf_inj e (by omega) (by omega)
  subst this
  rw [c] at c2
  exact bf_inj c2 (by omega) (by omega)
/-- a loaded slot is a draft -/
theorem bf_PD_ld {P b : Nat} {sO sI dO dI : Nat → Int32} (h : bf_PM P sO sI b) (hP : P ≤ 32) (h1 : ∀ i, i < P → dO i = sO (b + i)) (h2 : ∀ i, i < P → dI i = sI (b + i)) : bf_PD P dO dI := by
  refine ⟨fun i hi => ?_, fun o ho => ?_, ?_⟩
  · obtain ⟨o, ho, a, c⟩ := h.1 i hi
    exact Or.inr ⟨o, ho, by rw [h1 i hi]; exact a, by rw [h2 o ho]; exact c⟩
  · obtain ⟨i, hi, a, c⟩ := h.2 o ho
    exact Or.inr ⟨i, hi, by rw [h2 o ho]; exact a, by rw [h1 i hi]; exact c⟩
  · have q1 : bf_cn dO P = P := bf_cn_all P (fun i hi => by
      obtain ⟨o, ho, a, c⟩ := h.1 i hi
      rw [h1 i hi, a]
      exact bf_ne1 (by omega))
    have q2 : bf_cn dI P = P := bf_cn_all P (fun i hi => by
      obtain ⟨j, hj, a, c⟩ := h.2 i hi
      rw [h2 i hi, a]
      exact bf_ne1 (by omega))
    rw [q1, q2]
theorem bf_ix {s T P i : Nat} (hs : s < T) (hi : i < P) : s * P + i < T * P := by
  have : (s + 1) * P ≤ T * P := Nat.mul_le_mul_right P hs
  rw [Nat.add_mul, Nat.one_mul] at this
  omega
theorem bf_ix4 {s T P i : Nat} (hs : s < T) (hT : T ≤ 4) (hi : i < P) (hP : P ≤ 32) : s * P + i < 128 := by
  have := bf_ix hs hi
  have h2 : T * P ≤ 4 * 32 := Nat.mul_le_mul hT hP
  omega
theorem bf_ix9 {s T P i : Nat} (hs : s < T) (hT : T ≤ 9) (hi : i < P) (hP : P ≤ 32) : s * P + i < 288 := by
  have := bf_ix hs hi
  have h2 : T * P ≤ 9 * 32 := Nat.mul_le_mul hT hP
  omega
/-- two slots lie apart -/
theorem bf_apart {s t P x : Nat} (h : s ≠ t) (h1 : s * P ≤ x) (h2 : x < s * P + P) : x < t * P ∨ t * P + P ≤ x := by
  rcases Nat.lt_or_ge s t with a | a
  · have : (s + 1) * P ≤ t * P := Nat.mul_le_mul_right P a
    rw [Nat.add_mul, Nat.one_mul] at this
    omega
  · have : (t + 1) * P ≤ s * P := Nat.mul_le_mul_right P (by omega : t + 1 ≤ s)
    rw [Nat.add_mul, Nat.one_mul] at this
    omega
end
section
/-! the completion of a draft: storeDraft's invariant, what it leaves, what the reference's loop needs of it -/
def bf_SI (P b : Nat) (dO dI : Nat → Int32) (i f : Nat) (sO sI : Nat → Int32) : Prop :=
  f ≤ P ∧ f + bf_cn dO i = i + bf_cn dI f ∧
  (∀ j, j < i → ∃ o, o < P ∧ sO (b + j) = nI o ∧ sI (b + o) = nI j ∧
    ((dO j = nI o ∧ dI o = nI j) ∨ (dO j = -1 ∧ dI o = -1 ∧ o < f ∧ ∀ q, q < o → dI q = -1 → ∃ t, t < j ∧ sO (b + t) = nI q))) ∧
  (∀ o, o < f → dI o = -1 → ∃ j, j < i ∧ sO (b + j) = nI o)
/-- the completed slot: drafted inputs keep theirs; a free input has the least free output not yet taken -/
def bf_CH (P b : Nat) (dO dI sO sI : Nat → Int32) : Prop :=
  bf_PM P sO sI b ∧
  (∀ j, j < P → ∃ o, o < P ∧ sO (b + j) = nI o ∧
    (dO j = nI o ∨ (dO j = -1 ∧ dI o = -1 ∧ ∀ q, q < o → dI q = -1 → ∃ t, t < j ∧ sO (b + t) = nI q)))
theorem bf_SI_0 {P b : Nat} {dO dI sO sI : Nat → Int32} : bf_SI P b dO dI 0 0 sO sI :=
  ⟨Nat.zero_le _, rfl, fun j hj => absurd hj (by omega), fun j hj => absurd hj (by omega)⟩
theorem bf_SI_d {P b i f o : Nat} {dO dI sO sI : Nat → Int32} (hP : P ≤ 32) (h : bf_SI P b dO dI i f sO sI) (hi : i < P) (ho : o < P) (h1 : dO i = nI o) (h2 : dI o = nI i) : bf_SI P b dO dI (i + 1) f (upd sO (b + i) (nI o)) (upd sI (b + o) (nI i)) := by
  obtain ⟨hf, hc, hB, hC⟩ := h
  refine ⟨hf, ?_, fun j hj => ?_, fun q hq hq2 => ?_⟩
  · rw [bf_cn_f (f := dO) (n := i) (by rw [h1]; exact bf_ne1 (by omega))]
    omega
  · by_cases e : j = i
    · subst e
      exact ⟨o, ho, pk_us, pk_us, Or.inl ⟨h1, h2⟩⟩
    · obtain ⟨q, hq, a1, a2, a3⟩ := hB j (by omega)
      have hqo : q ≠ o := by
        intro e2
        rcases a3 with ⟨_, a4⟩ | ⟨_, a4, _⟩
        · rw [e2, h2] at a4
          exact e (bf_inj a4 (by omega) (by omega)).symm
        · rw [e2, h2] at a4
          exact bf_ne1 (by omega) a4
      refine ⟨q, hq, by rw [pk_un (by omega)]; exact a1, by rw [pk_un (by omega)]; exact a2, ?_⟩
      rcases a3 with a3 | ⟨a3, a4, a5, a6⟩
      · exact Or.inl a3
      · refine Or.inr ⟨a3, a4, a5, fun r hr hr2 => ?_⟩
        obtain ⟨t, ht, ht2⟩ := a6 r hr hr2
        exact ⟨t, ht, by rw [pk_un (by omega)]; exact ht2⟩
  · obtain ⟨j, hj, a⟩ := hC q hq hq2
    exact ⟨j, by omega, by rw [pk_un (by omega)]; exact a⟩
theorem bf_SI_f {P b i f o : Nat} {dO dI sO sI : Nat → Int32} (hP : P ≤ 32) (h : bf_SI P b dO dI i f sO sI) (hi : i < P) (hfo : f ≤ o) (ho : o < P) (h1 : dO i = -1) (h2 : dI o = -1) (h3 : ∀ q, f ≤ q → q < o → ¬ dI q = -1) : bf_SI P b dO dI (i + 1) (o + 1) (upd sO (b + i) (nI o)) (upd sI (b + o) (nI i)) := by
  obtain ⟨hf, hc, hB, hC⟩ := h
  refine ⟨by omega, ?_, fun j hj => ?_, fun q hq hq2 => ?_⟩
  · obtain ⟨d, rfl⟩ : ∃ d, o = f + d := ⟨o - f, by omega⟩
    rw [bf_cn_t h1, bf_cn_t h2, bf_cn_full d h3]
    omega
  · by_cases e : j = i
    · subst e
      refine ⟨o, ho, pk_us, pk_us, Or.inr ⟨h1, h2, by omega, fun q hq hq2 => ?_⟩⟩
      have hqf : q < f := by
        rcases Nat.lt_or_ge q f with a | a
        · exact a
        · exact absurd hq2 (h3 q a hq)
      obtain ⟨t, ht, a⟩ := hC q hqf hq2
      exact ⟨t, ht, by rw [pk_un (by omega)]; exact a⟩
    · obtain ⟨q, hq, a1, a2, a3⟩ := hB j (by omega)
      have hqo : q ≠ o := by
        intro e2
        rcases a3 with ⟨_, a4⟩ | ⟨_, _, a4, _⟩
        · rw [e2, h2] at a4
          exact bf_ne1 (by omega) a4.symm
        · omega
      refine ⟨q, hq, by rw [pk_un (by omega)]; exact a1, by rw [pk_un (by omega)]; exact a2, ?_⟩
      rcases a3 with a3 | ⟨a3, a4, a5, a6⟩
      · exact Or.inl a3
      · refine Or.inr ⟨a3, a4, by omega, fun r hr hr2 => ?_⟩
        obtain ⟨t, ht, ht2⟩ := a6 r hr hr2
        exact ⟨t, ht, by rw [pk_un (by omega)]; exact ht2⟩
  · by_cases e : q = o
    · subst e
      exact ⟨i, by omega, pk_us⟩
    · have hqf : q < f := by
        rcases Nat.lt_or_ge q f with a | a
        · exact a
        · exact absurd hq2 (h3 q a (by omega))
      obtain ⟨j, hj, a⟩ := hC q hqf hq2
      exact ⟨j, by omega, by rw [pk_un (by omega)]; exact a⟩
/-- a free input still finds a free output -/
theorem bf_SI_ex {P b i f : Nat} {dO dI sO sI : Nat → Int32} (h : bf_SI P b dO dI i f sO sI) (hi : i < P) (h1 : dO i = -1) (hC : bf_cn dO P = bf_cn dI P) : ∃ o, f ≤ o ∧ o < P ∧ dI o = -1 := by
  obtain ⟨hf, hc, _, _⟩ := h
  by_cases e : ∃ o, f ≤ o ∧ o < P ∧ dI o = -1
  · exact e
  · exfalso
    have a : bf_cn dI P = bf_cn dI f + (P - f) := by
      have := bf_cn_full (f := dI) (m := f) (P - f) (fun j h1 h2 h3 => e ⟨j, h1, by omega, h3⟩)
      rw [show f + (P - f) = P by omega] at this
      exact this
    have c : bf_cn dO P ≤ bf_cn dO (i + 1) + (P - (i + 1)) := by
      have := bf_cn_up2 (f := dO) (m := i + 1) (P - (i + 1))
      rw [show i + 1 + (P - (i + 1)) = P by omega] at this
      exact this
    rw [bf_cn_t h1] at c
    omega
theorem bf_SI_end {P b f : Nat} {dO dI sO sI : Nat → Int32} (hP : P ≤ 32) (pd : bf_PD P dO dI) (h : bf_SI P b dO dI P f sO sI) : bf_CH P b dO dI sO sI := by
  obtain ⟨hf, hc, hB, hC⟩ := h
  refine ⟨⟨fun i hi => ?_, fun o ho => ?_⟩, fun j hj => ?_⟩
  · obtain ⟨o, ho, a1, a2, _⟩ := hB i hi
    exact ⟨o, ho, a1, a2⟩
  · rcases pd.2.1 o ho with a | ⟨i, hi, a, c⟩
    · have hof : o < f := by
        rcases Nat.lt_or_ge o f with z | z
        · exact z
        · exfalso
          have c1 : bf_cn dI P ≤ bf_cn dI (o + 1) + (P - (o + 1)) := by
            have := bf_cn_up2 (f := dI) (m := o + 1) (P - (o + 1))
            rw [show o + 1 + (P - (o + 1)) = P by omega] at this
            exact this
          have c2 : bf_cn dI o ≤ bf_cn dI f + (o - f) := by
            have := bf_cn_up2 (f := dI) (m := f) (o - f)
            rw [show f + (o - f) = o by omega] at this
            exact this
          rw [bf_cn_t a] at c1
          have := pd.2.2
          omega
      obtain ⟨j, hj, a1⟩ := hC o hof a
      obtain ⟨q, hq, b1, b2, _⟩ := hB j hj
      rw [a1] at b1
      have := bf_inj b1 (by omega) (by omega)
      subst this
      exact ⟨j, hj, b2, a1⟩
    · obtain ⟨q, hq, b1, b2, b3⟩ := hB i hi
      rcases b3 with ⟨b3, _⟩ | ⟨b3, _⟩
      · rw [c] at b3
        have := bf_inj b3 (by omega) (by omega)
        subst this
        exact ⟨i, hi, b2, b1⟩
      · rw [c] at b3
        exact absurd b3 (bf_ne1 (by omega))
  · obtain ⟨o, ho, a1, _, a3⟩ := hB j hj
    refine ⟨o, ho, a1, ?_⟩
    rcases a3 with ⟨a3, _⟩ | ⟨a3, a4, _, a6⟩
    · exact Or.inl a3
    · exact Or.inr ⟨a3, a4, a6⟩
/-- the completion of the empty draft: each input to its own output -/
theorem bf_CH_id {P b : Nat} {dO dI sO sI : Nat → Int32} (hP : P ≤ 32) (h : bf_CH P b dO dI sO sI) (h1 : ∀ i, i < P → dO i = -1) (h2 : ∀ i, i < P → dI i = -1) : ∀ n i, i < n → i < P → sO (b + i) = nI i := by
  intro n
  induction n with
  | zero => intro i hi; omega
  | succ n ih =>
    intro i hi hiP
    obtain ⟨o, ho, a1, a2⟩ := h.2 i hiP
    rcases a2 with a2 | ⟨_, _, a3⟩
    · rw [h1 i hiP] at a2
      exact absurd a2.symm (bf_ne1 (by omega))
    · rcases Nat.lt_trichotomy o i with z | z | z
      · have e := ih o (by omega) ho
        have := bf_PM_inj h.1 hP ho hiP (e.trans a1.symm)
        omega
      · rw [← z]; rw [← z] at a1; exact a1
      · obtain ⟨t, ht, a4⟩ := a3 i z (h2 i hiP)
        rw [ih t (by omega) (by omega)] at a4
        have := bf_inj a4 (by omega) (by omega)
        omega
/-- every output below a free input's is used already .. -/
theorem bf_used {P b i g q : Nat} {dO dI sO sI : Nat → Int32} (hP : P ≤ 32) (pd : bf_PD P dO dI) (h : bf_CH P b dO dI sO sI) (hi : i < P) (h1 : dO i = -1) (hg : sO (b + i) = nI g) (hgP : g < P) (hq : q < g) : ∃ j, j < P ∧ j ≠ i ∧ ((j < i ∧ sO (b + j) = nI q) ∨ (i < j ∧ dO j = nI q)) := by
  rcases pd.2.1 q (by omega) with a | ⟨j, hj, a, c⟩
  · obtain ⟨o, ho, a1, a2⟩ := h.2 i hi
    rw [hg] at a1
    have := bf_inj a1 (by omega) (by omega)
    subst this
    rcases a2 with a2 | ⟨_, _, a3⟩
    · rw [h1] at a2
      exact absurd a2.symm (bf_ne1 (by omega))
    · obtain ⟨t, ht, a4⟩ := a3 q hq a
      exact ⟨t, by omega, by omega, Or.inl ⟨ht, a4⟩⟩
  · have hji : j ≠ i := by
      intro e
      rw [e, h1] at c
      exact bf_ne1 (by omega) c.symm
    refine ⟨j, hj, hji, ?_⟩
    rcases Nat.lt_or_ge j i with z | z
    · obtain ⟨o, ho, a1, a2⟩ := h.2 j hj
      rcases a2 with a2 | ⟨a2, _⟩
      · rw [c] at a2
        have := bf_inj a2 (by omega) (by omega)
        subst this
        exact Or.inl ⟨z, a1⟩
      · rw [c] at a2
        exact absurd a2 (bf_ne1 (by omega))
    · exact Or.inr ⟨by omega, c⟩
/-- .. and its own is not -/
theorem bf_unused {P b i g : Nat} {dO dI sO sI : Nat → Int32} (hP : P ≤ 32) (pd : bf_PD P dO dI) (h : bf_CH P b dO dI sO sI) (hi : i < P) (h1 : dO i = -1) (hg : sO (b + i) = nI g) (hgP : g < P) : (∀ j, j < i → ¬ sO (b + j) = nI g) ∧ (∀ j, j < P → ¬ dO j = nI g) := by
  refine ⟨fun j hj e => ?_, fun j hj e => ?_⟩
  · have := bf_PM_inj h.1 hP (i := j) (j := i) (by omega) hi (e.trans hg.symm)
    omega
  · have c := bf_PD_o pd hP hj hgP e
    obtain ⟨o, ho, a1, a2⟩ := h.2 i hi
    rw [hg] at a1
    have := bf_inj a1 (by omega) (by omega)
    subst this
    rcases a2 with a2 | ⟨_, a3, _⟩
    · rw [h1] at a2
      exact bf_ne1 (by omega) a2.symm
    · rw [c] at a3
      exact bf_ne1 (by omega) a3
/-- what a drafted input has is its drafted output -/
theorem bf_CH_d {P b i : Nat} {dO dI sO sI : Nat → Int32} (h : bf_CH P b dO dI sO sI) (hi : i < P) (h1 : ¬ dO i = -1) : dO i = sO (b + i) := by
  obtain ⟨o, ho, a1, a2⟩ := h.2 i hi
  rcases a2 with a2 | ⟨a2, _⟩
  · rw [a2, a1]
  · exact absurd a2 h1
end
section
/-! the relation's pieces; what a tick makes of the waves; steps over a store or a read -/
def bf_H (P S T A : Nat) : Prop := 2 ≤ P ∧ P ≤ 32 ∧ 1 ≤ S ∧ S ≤ 9 ∧ 1 ≤ T ∧ T ≤ 4 ∧ A < T ∧ ∃ L, P = 2 ^ L
def bf_D (P : Nat) (dO dI d : Nat → Int32) : Prop := bf_PD P dO dI ∧ ∀ i, i < P → d i = dO i
def bf_S (P T : Nat) (sO sI se : Nat → Int32) : Prop := ∀ s, s < T → bf_PM P sO sI (s * P) ∧ ∀ i, i < P → se (s * 32 + i) = sO (s * P + i)
def bf_L (P : Nat) (lc ce : Nat → Int32) : Prop := ∀ i, i < P → ce i = lc i ∧ bf_Vl (lc i)
def bf_W (P S : Nat) (wv wa : Nat → Int32) : Prop := ∀ k, k < S → ∀ o, o < P → wa (k * 32 + o) = wv (k * P + o) ∧ bf_Vl (wv (k * P + o))
theorem bf_W_tick {P S b : Nat} {wv wa wv' wa' lc ce sO sI : Nat → Int32} (hP : P ≤ 32) (W0 : bf_W P S wv wa) (L0 : bf_L P lc ce) (pm : bf_PM P sO sI b)
    (X1 : ∀ x, x + P < S * P → wv' x = wv (x + P))
    (X2 : ∀ o, o < P → wv' ((S - 1) * P + o) = lc (sI (b + o)).toNatClampNeg)
    (Y1 : ∀ k o, k + 1 < S → o < P → wa' (k * 32 + o) = wa ((k + 1) * 32 + o))
    (Y2 : ∀ i o, i < P → o < P → sO (b + i) = nI o → wa' ((S - 1) * 32 + o) = ce i) : bf_W P S wv' wa' := by
  intro k hk o ho
  by_cases h : k + 1 < S
  · have a := W0 (k + 1) h o ho
    have e : k * P + o + P = (k + 1) * P + o := by rw [Nat.add_mul, Nat.one_mul]; omega
    have c : wv' (k * P + o) = wv ((k + 1) * P + o) := by
      rw [X1 (k * P + o) (by rw [e]; exact bf_ix h ho), e]
    rw [Y1 k o h ho, c]
    exact a
  · have e : k = S - 1 := by omega
    subst e
    obtain ⟨i, hi, a, c⟩ := pm.2 o ho
    have l := L0 i hi
    rw [Y2 i o hi ho c, X2 o ho, a, nI_clamp (by omega)]
    exact l
/-- a store -/
theorem bf_st {x : Int32} {N : Nat} {a : Nat → Int32} {v : Int32} {Q : (Nat → Int32) → Prop} (i : Nat) (hx : x = nI i) (hi : i < N) (hN : N < 2 ^ 31) (h : Q (upd a i v)) : vp_in x N ∧ ∀ y, y = upd a x.toNatClampNeg v → Q y := by
  subst hx
  refine ⟨vp_in_nI hi hN, fun y ey => ?_⟩
  rw [nI_clamp (by omega)] at ey
  rw [ey]
  exact h
/-- a read that is named -/
theorem bf_ld {x : Int32} {N : Nat} {a : Nat → Int32} {Q : Int32 → Prop} (i : Nat) (hx : x = nI i) (hi : i < N) (hN : N < 2 ^ 31) (h : Q (a i)) : vp_in x N ∧ ∀ y, y = a x.toNatClampNeg → Q y := by
  subst hx
  refine ⟨vp_in_nI hi hN, fun y ey => ?_⟩
  rw [nI_clamp (by omega)] at ey
  rw [ey]
  exact h
/-- a read in place -/
theorem bf_rd {x : Int32} {N : Nat} {a : Nat → Int32} {Q : Int32 → Prop} (i : Nat) (hx : x = nI i) (hi : i < N) (hN : N < 2 ^ 31) (h : Q (a i)) : vp_in x N ∧ Q (a x.toNatClampNeg) := by
  subst hx
  refine ⟨vp_in_nI hi hN, ?_⟩
  rw [nI_clamp (by omega)]
  exact h
theorem bf_mi (s P i : Nat) : nI s * nI P + nI i = nI (s * P + i) := by rw [pk_mul, nI_add]
theorem bf_m32 (s i : Nat) : nI s * 32 + nI i = nI (s * 32 + i) := bf_mi s 32 i
/-- a port, or none -/
theorem bf_pt (x : Int32) {n : Nat} (hn : n < 2 ^ 31) : (x < 0 ∨ nI n ≤ x) ∨ ∃ j : Nat, j < n ∧ x = nI j := by
  rcases pk_ix x hn with a | a | a
  · exact Or.inl (Or.inl a)
  · exact Or.inl (Or.inr a)
  · exact Or.inr a
def i_Rel (k : Nat) (u : SX) (v : SY) : Prop :=
  ∃ (P S T A : Nat) (dO dI sO sI lc wv d se ce wa : Nat → Int32), u = (nI P, nI S, nI T, nI A, dO, dI, sO, sI, lc, wv) ∧ v = (nI P, nI S, nI T, nI A, d, se, ce, wa) ∧
    bf_H P S T A ∧ bf_D P dO dI d ∧ bf_S P T sO sI se ∧ bf_L P lc ce ∧ bf_W P S wv wa
theorem bf_mk {k P S T A : Nat} {dO dI sO sI lc wv d se ce wa : Nat → Int32} (h : bf_H P S T A) (hd : bf_D P dO dI d) (hs : bf_S P T sO sI se) (hl : bf_L P lc ce) (hw : bf_W P S wv wa) : i_Rel k (nI P, nI S, nI T, nI A, dO, dI, sO, sI, lc, wv) (nI P, nI S, nI T, nI A, d, se, ce, wa) :=
  ⟨P, S, T, A, dO, dI, sO, sI, lc, wv, d, se, ce, wa, rfl, rfl, h, hd, hs, hl, hw⟩
theorem bf_eq_u {P i : Nat} {f g : Nat → Int32} {x : Int32} (h : ∀ j, j < P → f j = g j) : ∀ j, j < P → upd f i x j = upd g i x j := by
  intro j hj
  by_cases e : j = i
  · rw [e, pk_us, pk_us]
  · rw [pk_un e, pk_un e]
    exact h j hj
theorem bf_D_v {P : Nat} {dO dI d : Nat → Int32} (hP : P ≤ 32) (D : bf_D P dO dI d) : ∀ i, i < P → bf_Vl (d i) := by
  intro i hi
  rw [D.2 i hi]
  exact bf_PD_v D.1 hP hi
theorem bf_S_set {P T s : Nat} {sO sI se sO' sI' se' : Nat → Int32} (hs : s < T) (Z : bf_S P T sO sI se) (hc : bf_PM P sO' sI' (s * P))
    (hf : ∀ x, x < s * P ∨ s * P + P ≤ x → sO' x = sO x ∧ sI' x = sI x) (he : ∀ i, i < P → se' (s * 32 + i) = sO' (s * P + i))
    (hg : ∀ x, x < s * 32 ∨ s * 32 + P ≤ x → se' x = se x) (hP : P ≤ 32) : bf_S P T sO' sI' se' := by
  intro t ht
  by_cases e : t = s
  · subst e
    exact ⟨hc, he⟩
  · refine ⟨bf_PM_cg (Z t ht).1 (fun x h1 h2 => hf x (bf_apart e h1 h2)), fun i hi => ?_⟩
    rw [hg (t * 32 + i) (by omega), (hf (t * P + i) (bf_apart e (by omega) (by omega))).1]
    exact (Z t ht).2 i hi
/-- fill, pure -/
def bf_out (P : Nat) (mu ad : Int32) (i : Nat) : Nat := (nI i * mu + ad).toBitVec.toNat % P
def bf_fz (P : Nat) (mu ad : Int32) (dO dI : Nat → Int32) : Nat → (Nat → Int32) × (Nat → Int32) × Nat
  | 0 => (dO, dI, 0)
  | i + 1 =>
    if (bf_fz P mu ad dO dI i).1 i = -1 ∧ (bf_fz P mu ad dO dI i).2.1 (bf_out P mu ad i) = -1 then
      (upd (bf_fz P mu ad dO dI i).1 i (nI (bf_out P mu ad i)), upd (bf_fz P mu ad dO dI i).2.1 (bf_out P mu ad i) (nI i), (bf_fz P mu ad dO dI i).2.2 + 1)
    else bf_fz P mu ad dO dI i
theorem bf_fz_t {P : Nat} {mu ad : Int32} {dO dI : Nat → Int32} {i : Nat} (h1 : (bf_fz P mu ad dO dI i).1 i = -1) (h2 : (bf_fz P mu ad dO dI i).2.1 (bf_out P mu ad i) = -1) : bf_fz P mu ad dO dI (i + 1) = (upd (bf_fz P mu ad dO dI i).1 i (nI (bf_out P mu ad i)), upd (bf_fz P mu ad dO dI i).2.1 (bf_out P mu ad i) (nI i), (bf_fz P mu ad dO dI i).2.2 + 1) := if_pos ⟨h1, h2⟩
theorem bf_fz_f {P : Nat} {mu ad : Int32} {dO dI : Nat → Int32} {i : Nat} (h : ¬ ((bf_fz P mu ad dO dI i).1 i = -1 ∧ (bf_fz P mu ad dO dI i).2.1 (bf_out P mu ad i) = -1)) : bf_fz P mu ad dO dI (i + 1) = bf_fz P mu ad dO dI i := if_neg h
theorem bf_out_lt {P : Nat} {mu ad : Int32} {i : Nat} (h : ∃ L, P = 2 ^ L) : bf_out P mu ad i < P := by
  obtain ⟨L, rfl⟩ := h
  exact Nat.mod_lt _ (Nat.two_pow_pos L)
theorem bf_out_e {P : Nat} {mu ad : Int32} {i : Nat} (hP : P ≤ 32) (h : ∃ L, P = 2 ^ L) : (nI i * mu + ad) &&& (nI P - 1) = nI (bf_out P mu ad i) := by
  obtain ⟨L, rfl⟩ := h
  have h1 : 1 ≤ 2 ^ L := Nat.two_pow_pos L
  have e : nI (2 ^ L) - 1 = nI (2 ^ L - 1) := pk_sub (b := 1) h1
  rw [e]
  exact pk_and _ L (pk_tn (by omega))
theorem bf_fz_pd {P : Nat} {mu ad : Int32} {dO dI : Nat → Int32} (hP : P ≤ 32) (hL : ∃ L, P = 2 ^ L) (pd : bf_PD P dO dI) : ∀ i, i ≤ P → bf_PD P (bf_fz P mu ad dO dI i).1 (bf_fz P mu ad dO dI i).2.1 := by
  intro i
  induction i with
  | zero => intro _; exact pd
  | succ i ih =>
    intro hi
    by_cases h : (bf_fz P mu ad dO dI i).1 i = -1 ∧ (bf_fz P mu ad dO dI i).2.1 (bf_out P mu ad i) = -1
    · rw [bf_fz_t h.1 h.2]
      exact bf_PD_add (ih (by omega)) hP (by omega) (bf_out_lt hL) h.1 h.2
    · rw [bf_fz_f h]
      exact ih (by omega)
theorem bf_fz_c {P : Nat} {mu ad : Int32} {dO dI : Nat → Int32} : ∀ i, (bf_fz P mu ad dO dI i).2.2 ≤ i := by
  intro i
  induction i with
  | zero => exact Nat.le_refl 0
  | succ i ih =>
    by_cases h : (bf_fz P mu ad dO dI i).1 i = -1 ∧ (bf_fz P mu ad dO dI i).2.1 (bf_out P mu ad i) = -1
    · rw [bf_fz_t h.1 h.2]
      show (bf_fz P mu ad dO dI i).2.2 + 1 ≤ i + 1
      omega
    · rw [bf_fz_f h]
      omega
end
section
/-! the class's own methods: one lemma each, with a general post -/
theorem bf_least {Q : Nat → Prop} : ∀ n, (∃ k, k < n ∧ Q k) → ∃ k, k < n ∧ Q k ∧ ∀ j, j < k → ¬ Q j := by
  intro n
  induction n with
  | zero => intro ⟨k, h, _⟩; omega
  | succ n ih =>
    intro ⟨k, h, q⟩
    by_cases e : ∃ k, k < n ∧ Q k
    · obtain ⟨m, hm, a, b⟩ := ih e
      exact ⟨m, by omega, a, b⟩
    · refine ⟨k, h, q, fun j hj qj => e ⟨j, by omega, qj⟩⟩
theorem bf_fl {f s : Nat → Int32} {i : Nat} {x : Int32} (h : ∀ j, j < i → s j = f j) (hx : x = f i) : ∀ j, j < i + 1 → upd s i x j = f j := by
  intro j hj
  by_cases e : j = i
  · rw [e, pk_us, hx]
  · rw [pk_un e]
    exact h j (by omega)
section BX
variable {P S T A : Nat} {dO dI sO sI lc wv : Nat → Int32}
theorem xf_port_t {post : Int32 → Prop} {j : Nat} (hP : P ≤ 32) (hj : j < P) (h : post 1) : wpX_isPort post (nI P, nI S, nI T, nI A, dO, dI, sO, sI, lc, wv) (nI j) :=
  br_f (nI_pos (by omega)) (br_f (nI_ge hj (by omega)) h)
theorem xf_port_f {post : Int32 → Prop} {x : Int32} (hx : x < 0 ∨ nI P ≤ x) (h : post 0) : wpX_isPort post (nI P, nI S, nI T, nI A, dO, dI, sO, sI, lc, wv) x := by
  by_cases h0 : x < 0
  · exact br_t h0 h
  · exact br_f h0 (br_t (hx.resolve_left h0) h)
theorem xf_slot_t {post : Int32 → Prop} {j : Nat} (hT : T ≤ 4) (hj : j < T) (h : post 1) : wpX_isSlot post (nI P, nI S, nI T, nI A, dO, dI, sO, sI, lc, wv) (nI j) :=
  br_f (nI_pos (by omega)) (br_f (nI_ge hj (by omega)) h)
theorem xf_slot_f {post : Int32 → Prop} {x : Int32} (hx : x < 0 ∨ nI T ≤ x) (h : post 0) : wpX_isSlot post (nI P, nI S, nI T, nI A, dO, dI, sO, sI, lc, wv) x := by
  by_cases h0 : x < 0
  · exact br_t h0 h
  · exact br_f h0 (br_t (hx.resolve_left h0) h)
theorem xf_add {post : SX → Prop} {i o : Nat} (hP : P ≤ 32) (hi : i < P) (ho : o < P) (h : post (nI P, nI S, nI T, nI A, upd dO i (nI o), upd dI o (nI i), sO, sI, lc, wv)) : wpX_addPair post (nI P, nI S, nI T, nI A, dO, dI, sO, sI, lc, wv) (nI i) (nI o) :=
  bf_st i rfl (by omega) (by decide) (bf_st o rfl (by omega) (by decide) h)
theorem xf_emptyDraft {post : SX → Prop} (hP : P ≤ 32) (h : ∀ a b, (∀ i, i < P → a i = -1) → (∀ i, i < P → b i = -1) → post (nI P, nI S, nI T, nI A, a, b, sO, sI, lc, wv)) : wpX_emptyDraft post (nI P, nI S, nI T, nI A, dO, dI, sO, sI, lc, wv) :=
  pk_loop (fun n i s => wX_emptyDraft_2 post (nI P) (nI S) (nI T) (nI A) n (nI i) s.1 s.2 sO sI lc wv) (fun i s => (∀ j, j < i → s.1 j = -1) ∧ (∀ j, j < i → s.2 j = -1)) P 0 (dO, dI) (by omega) ⟨fun j hj => absurd hj (by omega), fun j hj => absurd hj (by omega)⟩
    (fun n s hs => pk_le P P (fun _ => h s.1 s.2 hs.1 hs.2) (fun z => absurd z (by omega)))
    (fun n i s hi hs hw => pk_le P i (fun z => absurd z (by omega)) (fun _ => bf_st i rfl (by omega) (by decide) (bf_st i rfl (by omega) (by decide) (nm_r (nI_1 i) (hw (_, _) ⟨bf_fl (f := fun _ => -1) hs.1 rfl, bf_fl (f := fun _ => -1) hs.2 rfl⟩)))))
theorem xf_emptyLatch {post : SX → Prop} (hP : P ≤ 32) (h : ∀ a, (∀ i, i < P → a i = -1) → post (nI P, nI S, nI T, nI A, dO, dI, sO, sI, a, wv)) : wpX_emptyLatch post (nI P, nI S, nI T, nI A, dO, dI, sO, sI, lc, wv) :=
  pk_loop (fun n i s => wX_emptyLatch_2 post (nI P) (nI S) (nI T) (nI A) n (nI i) dO dI sO sI s wv) (fun i s => ∀ j, j < i → s j = -1) P 0 lc (by omega) (fun j hj => absurd hj (by omega))
    (fun n s hs => pk_le P P (fun _ => h s hs) (fun z => absurd z (by omega)))
    (fun n i s hi hs hw => pk_le P i (fun z => absurd z (by omega)) (fun _ => bf_st i rfl (by omega) (by decide) (nm_r (nI_1 i) (hw _ (bf_fl (f := fun _ => -1) hs rfl)))))
theorem xf_emptyWaves {post : SX → Prop} (hP : P ≤ 32) (hS : S ≤ 9) (h : ∀ a, (∀ i, i < S * P → a i = -1) → post (nI P, nI S, nI T, nI A, dO, dI, sO, sI, lc, a)) : wpX_emptyWaves post (nI P, nI S, nI T, nI A, dO, dI, sO, sI, lc, wv) := by
  have hb : S * P ≤ 9 * 32 := Nat.mul_le_mul hS hP
  exact pk_loop (fun n i s => wX_emptyWaves_2 post (nI P) (nI S) (nI T) (nI A) n (nI i) dO dI sO sI lc s) (fun i s => ∀ j, j < i → s j = -1) (S * P) 0 wv (by omega) (fun j hj => absurd hj (by omega))
    (fun n s hs => pk_le (S * P) (S * P) (fun _ => h s hs) (fun z => absurd z (by omega)) (hx := pk_mul S P))
    (fun n i s hi hs hw => pk_le (S * P) i (fun z => absurd z (by omega)) (fun _ => bf_st i rfl (by omega) (by decide) (nm_r (nI_1 i) (hw _ (bf_fl (f := fun _ => -1) hs rfl)))) (hx := pk_mul S P))
theorem xf_free {post : Int32 → Prop} {f o : Nat} (hP : P ≤ 32) (hfo : f ≤ o) (ho : o < P) (h2 : dI o = -1) (h3 : ∀ q, f ≤ q → q < o → ¬ dI q = -1) (h : post (nI o)) : wpX_freeOutputFrom post (nI P, nI S, nI T, nI A, dO, dI, sO, sI, lc, wv) (nI f) :=
  pk_loop (σ := Unit) (fun n i _ => wX_freeOutputFrom_2 post (nI P) (nI S) (nI T) (nI A) dO dI sO sI lc wv n (nI i)) (fun i _ => f ≤ i) o f () hfo (Nat.le_refl f)
    (fun n _ _ => pk_le (P - 1) o (fun _ => h) (fun _ => ⟨pk_in o 32 (by omega), br_t (by rw [nI_clamp (by omega)]; exact h2) h⟩) (hx := pk_sub (b := 1) (by omega)))
    (fun n i _ hi hf hw => pk_le (P - 1) i (fun z => absurd z (by omega)) (fun _ => ⟨pk_in i 32 (by omega), br_f (by rw [nI_clamp (by omega)]; exact h3 i hf hi) (nm_r (nI_1 i) (hw () (by omega)))⟩) (hx := pk_sub (b := 1) (by omega)))
theorem xf_advance {post : SX → Prop} (hP : P ≤ 32) (hS : S ≤ 9) (hS1 : 1 ≤ S) (h : ∀ w, (∀ x, x + P < S * P → w x = wv (x + P)) → post (nI P, nI S, nI T, nI A, dO, dI, sO, sI, lc, w)) : wpX_advanceWaves post (nI P, nI S, nI T, nI A, dO, dI, sO, sI, lc, wv) := by
  have hb : S * P ≤ 9 * 32 := Nat.mul_le_mul hS hP
  have hb1 : 1 * P ≤ S * P := Nat.mul_le_mul_right P hS1
  have key : ∀ m i w, i + m = S * P → P ≤ i → (∀ x, w x = if x + P < i then wv (x + P) else wv x) → wX_advanceWaves_5 post (nI P) (nI S) (nI T) (nI A) (m + 1) (nI i) dO dI sO sI lc w := by
    intro m
    induction m with
    | zero =>
      intro i w hi hp hw
      exact pk_le (S * P) i (fun _ => h w (fun x hx => by rw [hw x, if_pos (by omega)])) (fun z => absurd z (by omega)) (hx := pk_mul S P)
    | succ m ih =>
      intro i w hi hp hw
      refine pk_le (S * P) i (fun z => absurd z (by omega)) (fun _ => ⟨pk_in i 288 (by omega), bf_st (i - P) (pk_sub hp) (by omega) (by decide) (nm_r (nI_1 i) ?_)⟩) (hx := pk_mul S P)
      rw [nI_clamp (by omega)]
      refine ih (i + 1) _ (by omega) (by omega) (fun x => ?_)
      by_cases e : x = i - P
      · rw [e, pk_us, hw i, if_neg (by omega), if_pos (by omega), show i - P + P = i by omega]
      · rw [pk_un e, hw x]
        by_cases z : x + P < i
        · rw [if_pos z, if_pos (by omega)]
        · rw [if_neg z, if_neg (by omega)]
  exact ⟨S * P - P + 1, key (S * P - P) P wv (by omega) (Nat.le_refl P) (fun x => by rw [if_neg (by omega)])⟩
end BX
end
section
section BX2
variable {P S T A : Nat} {dO dI sO sI lc wv : Nat → Int32}
theorem xf_rq1 {post : Int32 → SX → Prop} {x y : Int32} (hx : x < 0 ∨ nI P ≤ x) (h : post (-2) (nI P, nI S, nI T, nI A, dO, dI, sO, sI, lc, wv)) : wpX_request post (nI P, nI S, nI T, nI A, dO, dI, sO, sI, lc, wv) x y := by
  unfold wpX_request
  dsimp only
  exact xf_port_f hx (br_t rfl h)
theorem xf_rq2 {post : Int32 → SX → Prop} {i : Nat} {x : Int32} (hP : P ≤ 32) (hi : i < P) (hx : x < 0 ∨ nI P ≤ x) (h : post (-2) (nI P, nI S, nI T, nI A, dO, dI, sO, sI, lc, wv)) : wpX_request post (nI P, nI S, nI T, nI A, dO, dI, sO, sI, lc, wv) (nI i) x := by
  unfold wpX_request
  dsimp only
  exact xf_port_t hP hi (br_f (by decide) (xf_port_f hx (br_t rfl h)))
theorem xf_rq3 {post : Int32 → SX → Prop} {i o : Nat} (hP : P ≤ 32) (hi : i < P) (ho : o < P) (h1 : ¬ dO i = -1) (h : post (-3) (nI P, nI S, nI T, nI A, dO, dI, sO, sI, lc, wv)) : wpX_request post (nI P, nI S, nI T, nI A, dO, dI, sO, sI, lc, wv) (nI i) (nI o) := by
  unfold wpX_request
  dsimp only
  exact xf_port_t hP hi (br_f (by decide) (xf_port_t hP ho (br_f (by decide) ⟨pk_in i 32 (by omega), br_f (by rw [nI_clamp (by omega)]; exact h1) h⟩)))
theorem xf_rq4 {post : Int32 → SX → Prop} {i o : Nat} (hP : P ≤ 32) (hi : i < P) (ho : o < P) (h1 : dO i = -1) (h2 : ¬ dI o = -1) (h : post (-4) (nI P, nI S, nI T, nI A, dO, dI, sO, sI, lc, wv)) : wpX_request post (nI P, nI S, nI T, nI A, dO, dI, sO, sI, lc, wv) (nI i) (nI o) := by
  unfold wpX_request
  dsimp only
  exact xf_port_t hP hi (br_f (by decide) (xf_port_t hP ho (br_f (by decide) ⟨pk_in i 32 (by omega), br_t (by rw [nI_clamp (by omega)]; exact h1) ⟨pk_in o 32 (by omega), br_f (by rw [nI_clamp (by omega)]; exact h2) h⟩⟩)))
theorem xf_rq5 {post : Int32 → SX → Prop} {i o : Nat} (hP : P ≤ 32) (hi : i < P) (ho : o < P) (h1 : dO i = -1) (h2 : dI o = -1) (h : post 0 (nI P, nI S, nI T, nI A, upd dO i (nI o), upd dI o (nI i), sO, sI, lc, wv)) : wpX_request post (nI P, nI S, nI T, nI A, dO, dI, sO, sI, lc, wv) (nI i) (nI o) := by
  unfold wpX_request
  dsimp only
  exact xf_port_t hP hi (br_f (by decide) (xf_port_t hP ho (br_f (by decide) ⟨pk_in i 32 (by omega), br_t (by rw [nI_clamp (by omega)]; exact h1) ⟨pk_in o 32 (by omega), br_t (by rw [nI_clamp (by omega)]; exact h2) (xf_add hP hi ho h)⟩⟩)))
theorem xf_wd1 {post : Int32 → SX → Prop} {x : Int32} (hx : x < 0 ∨ nI P ≤ x) (h : post (-2) (nI P, nI S, nI T, nI A, dO, dI, sO, sI, lc, wv)) : wpX_withdraw post (nI P, nI S, nI T, nI A, dO, dI, sO, sI, lc, wv) x := by
  unfold wpX_withdraw
  dsimp only
  exact xf_port_f hx (br_t rfl h)
theorem xf_wd2 {post : Int32 → SX → Prop} {i : Nat} (hP : P ≤ 32) (hi : i < P) (a : dO i = -1) (h : post (-1) (nI P, nI S, nI T, nI A, dO, dI, sO, sI, lc, wv)) : wpX_withdraw post (nI P, nI S, nI T, nI A, dO, dI, sO, sI, lc, wv) (nI i) := by
  unfold wpX_withdraw
  dsimp only
  exact xf_port_t hP hi (br_f (by decide) (bf_ld i rfl (by omega) (by decide) (br_t a h)))
theorem xf_wd3 {post : Int32 → SX → Prop} {i o : Nat} (hP : P ≤ 32) (hi : i < P) (ho : o < P) (a : dO i = nI o) (h : post (nI o) (nI P, nI S, nI T, nI A, upd dO i (-1), upd dI o (-1), sO, sI, lc, wv)) : wpX_withdraw post (nI P, nI S, nI T, nI A, dO, dI, sO, sI, lc, wv) (nI i) := by
  unfold wpX_withdraw
  dsimp only
  exact xf_port_t hP hi (br_f (by decide) (bf_ld i rfl (by omega) (by decide) (by rw [a]; exact br_f (bf_ne1 (by omega)) (bf_st i rfl (by omega) (by decide) (bf_st o rfl (by omega) (by decide) h)))))
theorem xf_set0 {post : Int32 → SX → Prop} {x : Int32} (hx : x < 0 ∨ nI T ≤ x) (h : post (-2) (nI P, nI S, nI T, nI A, dO, dI, sO, sI, lc, wv)) : wpX_set post (nI P, nI S, nI T, nI A, dO, dI, sO, sI, lc, wv) x := by
  unfold wpX_set
  dsimp only
  exact xf_slot_f hx (br_t rfl h)
theorem xf_load0 {post : Int32 → SX → Prop} {x : Int32} (hx : x < 0 ∨ nI T ≤ x) (h : post (-2) (nI P, nI S, nI T, nI A, dO, dI, sO, sI, lc, wv)) : wpX_load post (nI P, nI S, nI T, nI A, dO, dI, sO, sI, lc, wv) x := by
  unfold wpX_load
  dsimp only
  exact xf_slot_f hx (br_t rfl h)
theorem xf_select0 {post : Int32 → SX → Prop} {x : Int32} (hx : x < 0 ∨ nI T ≤ x) (h : post (-2) (nI P, nI S, nI T, nI A, dO, dI, sO, sI, lc, wv)) : wpX_select post (nI P, nI S, nI T, nI A, dO, dI, sO, sI, lc, wv) x := by
  unfold wpX_select
  dsimp only
  exact xf_slot_f hx (br_t rfl h)
theorem xf_select {post : Int32 → SX → Prop} {s : Nat} (hT : T ≤ 4) (hs : s < T) (h : post 0 (nI P, nI S, nI T, nI s, dO, dI, sO, sI, lc, wv)) : wpX_select post (nI P, nI S, nI T, nI A, dO, dI, sO, sI, lc, wv) (nI s) := by
  unfold wpX_select
  dsimp only
  exact xf_slot_t hT hs (br_f (by decide) h)
theorem xf_route1 {post : Int32 → Prop} {x y : Int32} (hx : x < 0 ∨ nI T ≤ x) (h : post (-2)) : wpX_route post (nI P, nI S, nI T, nI A, dO, dI, sO, sI, lc, wv) x y := by
  unfold wpX_route
  dsimp only
  exact xf_slot_f hx (br_t rfl h)
theorem xf_route2 {post : Int32 → Prop} {s : Nat} {x : Int32} (hT : T ≤ 4) (hs : s < T) (hx : x < 0 ∨ nI P ≤ x) (h : post (-2)) : wpX_route post (nI P, nI S, nI T, nI A, dO, dI, sO, sI, lc, wv) (nI s) x := by
  unfold wpX_route
  dsimp only
  exact xf_slot_t hT hs (br_f (by decide) (xf_port_f hx (br_t rfl h)))
theorem xf_route {post : Int32 → Prop} {s i : Nat} (hP : P ≤ 32) (hT : T ≤ 4) (hs : s < T) (hi : i < P) (h : post (sO (s * P + i))) : wpX_route post (nI P, nI S, nI T, nI A, dO, dI, sO, sI, lc, wv) (nI s) (nI i) := by
  unfold wpX_route
  dsimp only
  exact xf_slot_t hT hs (br_f (by decide) (xf_port_t hP hi (br_f (by decide) (bf_rd (s * P + i) (bf_mi s P i) (bf_ix4 hs hT hi hP) (by decide) h))))
theorem xf_source1 {post : Int32 → Prop} {x y : Int32} (hx : x < 0 ∨ nI T ≤ x) (h : post (-2)) : wpX_source post (nI P, nI S, nI T, nI A, dO, dI, sO, sI, lc, wv) x y := by
  unfold wpX_source
  dsimp only
  exact xf_slot_f hx (br_t rfl h)
theorem xf_source2 {post : Int32 → Prop} {s : Nat} {x : Int32} (hT : T ≤ 4) (hs : s < T) (hx : x < 0 ∨ nI P ≤ x) (h : post (-2)) : wpX_source post (nI P, nI S, nI T, nI A, dO, dI, sO, sI, lc, wv) (nI s) x := by
  unfold wpX_source
  dsimp only
  exact xf_slot_t hT hs (br_f (by decide) (xf_port_f hx (br_t rfl h)))
theorem xf_source {post : Int32 → Prop} {s i : Nat} (hP : P ≤ 32) (hT : T ≤ 4) (hs : s < T) (hi : i < P) (h : post (sI (s * P + i))) : wpX_source post (nI P, nI S, nI T, nI A, dO, dI, sO, sI, lc, wv) (nI s) (nI i) := by
  unfold wpX_source
  dsimp only
  exact xf_slot_t hT hs (br_f (by decide) (xf_port_t hP hi (br_f (by decide) (bf_rd (s * P + i) (bf_mi s P i) (bf_ix4 hs hT hi hP) (by decide) h))))
theorem xf_latch1 {post : Int32 → SX → Prop} {x y : Int32} (hx : x < 0 ∨ nI P ≤ x) (h : post (-2) (nI P, nI S, nI T, nI A, dO, dI, sO, sI, lc, wv)) : wpX_latch post (nI P, nI S, nI T, nI A, dO, dI, sO, sI, lc, wv) x y := by
  unfold wpX_latch
  dsimp only
  exact xf_port_f hx (br_t rfl h)
theorem xf_latch2 {post : Int32 → SX → Prop} {i : Nat} {y : Int32} (hP : P ≤ 32) (hi : i < P) (h0 : y < 0) (h : post (-2) (nI P, nI S, nI T, nI A, dO, dI, sO, sI, lc, wv)) : wpX_latch post (nI P, nI S, nI T, nI A, dO, dI, sO, sI, lc, wv) (nI i) y := by
  unfold wpX_latch
  dsimp only
  exact xf_port_t hP hi (br_f (by decide) (br_f (Int32.not_le.mpr h0) h))
theorem xf_latch3 {post : Int32 → SX → Prop} {i : Nat} {y : Int32} (hP : P ≤ 32) (hi : i < P) (h0 : ¬ y < 0) (h1 : ¬ lc i = -1) (h : post (-3) (nI P, nI S, nI T, nI A, dO, dI, sO, sI, lc, wv)) : wpX_latch post (nI P, nI S, nI T, nI A, dO, dI, sO, sI, lc, wv) (nI i) y := by
  unfold wpX_latch
  dsimp only
  exact xf_port_t hP hi (br_f (by decide) (br_t (Int32.not_lt.mp h0) ⟨pk_in i 32 (by omega), br_f (by rw [nI_clamp (by omega)]; exact h1) h⟩))
theorem xf_latch4 {post : Int32 → SX → Prop} {i : Nat} {y : Int32} (hP : P ≤ 32) (hi : i < P) (h0 : ¬ y < 0) (h1 : lc i = -1) (h : post 0 (nI P, nI S, nI T, nI A, dO, dI, sO, sI, upd lc i y, wv)) : wpX_latch post (nI P, nI S, nI T, nI A, dO, dI, sO, sI, lc, wv) (nI i) y := by
  unfold wpX_latch
  dsimp only
  exact xf_port_t hP hi (br_f (by decide) (br_t (Int32.not_lt.mp h0) ⟨pk_in i 32 (by omega), br_t (by rw [nI_clamp (by omega)]; exact h1) (bf_st i rfl (by omega) (by decide) h)⟩))
theorem xf_output1 {post : Int32 → Prop} {x y : Int32} (hx : x < 0 ∨ nI P ≤ x) (h : post (-2)) : wpX_output post (nI P, nI S, nI T, nI A, dO, dI, sO, sI, lc, wv) x y := by
  unfold wpX_output
  dsimp only
  exact xf_port_f hx (br_t rfl h)
theorem xf_output2 {post : Int32 → Prop} {o : Nat} {x : Int32} (hP : P ≤ 32) (ho : o < P) (hx : x < 0 ∨ nI S ≤ x) (h : post (-2)) : wpX_output post (nI P, nI S, nI T, nI A, dO, dI, sO, sI, lc, wv) (nI o) x := by
  unfold wpX_output
  dsimp only
  exact xf_port_t hP ho (br_f (by decide) (br_c (fun _ => h) (fun z => br_f (fun w => absurd (hx.resolve_left z) (Int32.not_le.mpr w)) h)))
theorem xf_output {post : Int32 → Prop} {o q : Nat} (hP : P ≤ 32) (hS : S ≤ 9) (ho : o < P) (hq : q < S) (h : post (wv (q * P + o))) : wpX_output post (nI P, nI S, nI T, nI A, dO, dI, sO, sI, lc, wv) (nI o) (nI q) := by
  unfold wpX_output
  dsimp only
  exact xf_port_t hP ho (br_f (by decide) (br_f (nI_pos (by omega)) (br_t (nI_lt hq (by omega)) (bf_rd (q * P + o) (bf_mi q P o) (bf_ix9 hq hS ho hP) (by decide) h))))
theorem xf_drafted0 {post : Int32 → Prop} {x : Int32} (hx : x < 0 ∨ nI P ≤ x) (h : post (-2)) : wpX_drafted post (nI P, nI S, nI T, nI A, dO, dI, sO, sI, lc, wv) x := by
  unfold wpX_drafted
  dsimp only
  exact xf_port_f hx (br_t rfl h)
theorem xf_drafted {post : Int32 → Prop} {i : Nat} (hP : P ≤ 32) (hi : i < P) (h : post (dO i)) : wpX_drafted post (nI P, nI S, nI T, nI A, dO, dI, sO, sI, lc, wv) (nI i) := by
  unfold wpX_drafted
  dsimp only
  exact xf_port_t hP hi (br_f (by decide) (bf_rd i rfl (by omega) (by decide) h))
theorem xf_latched0 {post : Int32 → Prop} {x : Int32} (hx : x < 0 ∨ nI P ≤ x) (h : post (-2)) : wpX_latched post (nI P, nI S, nI T, nI A, dO, dI, sO, sI, lc, wv) x := by
  unfold wpX_latched
  dsimp only
  exact xf_port_f hx (br_t rfl h)
theorem xf_latched {post : Int32 → Prop} {i : Nat} (hP : P ≤ 32) (hi : i < P) (h : post (lc i)) : wpX_latched post (nI P, nI S, nI T, nI A, dO, dI, sO, sI, lc, wv) (nI i) := by
  unfold wpX_latched
  dsimp only
  exact xf_port_t hP hi (br_f (by decide) (bf_rd i rfl (by omega) (by decide) h))
end BX2
end
section
section BX3
variable {P S T A : Nat} {dO dI sO sI lc wv : Nat → Int32}
theorem xf_cnt_d {post : Int32 → Prop} {p e : Nat} (hp : p ≤ e) (he : e ≤ 32) (h : post (nI (bf_cn (fun j => dO (p + j)) (e - p)))) : wpX_countHeld__draftOutputs post (nI P, nI S, nI T, nI A, dO, dI, sO, sI, lc, wv) (nI p) (nI e) := by
  have key : ∀ m i, i + m = e - p → wX_countHeld__draftOutputs_5 post (nI e) (nI P) (nI S) (nI T) (nI A) dO dI sO sI lc wv (m + 1) (nI (bf_cn (fun j => dO (p + j)) i)) (nI (p + i)) := by
    intro m
    induction m with
    | zero =>
      intro i hi
      have e1 : i = e - p := by omega
      subst e1
      exact pk_le e (p + (e - p)) (fun _ => h) (fun z => absurd z (by omega))
    | succ m ih =>
      intro i hi
      have t := ih (i + 1) (by omega)
      refine pk_le e (p + i) (fun z => absurd z (by omega)) (fun _ => ⟨pk_in (p + i) 32 (by omega), ?_⟩)
      rw [nI_clamp (by omega)]
      by_cases z : dO (p + i) = -1
      · rw [bf_cn_t (f := fun j => dO (p + j)) z] at t
        exact br_t z (nm_r (nI_1 (p + i)) t)
      · rw [bf_cn_f (f := fun j => dO (p + j)) z] at t
        exact br_f z (nm_r (nI_1 _) (nm_r (nI_1 (p + i)) t))
  exact ⟨e - p + 1, key (e - p) 0 (by omega)⟩
theorem xf_cnt_d0 {post : Int32 → Prop} {e : Nat} (he : e ≤ 32) (h : post (nI (bf_cn dO e))) : wpX_countHeld__draftOutputs post (nI P, nI S, nI T, nI A, dO, dI, sO, sI, lc, wv) 0 (nI e) := by
  have q : bf_cn (fun j => dO (0 + j)) (e - 0) = bf_cn dO e := bf_cn_cg e (fun j _ => by rw [Nat.zero_add])
  exact xf_cnt_d (p := 0) (Nat.zero_le e) he (by rw [q]; exact h)
theorem xf_cnt_l {post : Int32 → Prop} {p e : Nat} (hp : p ≤ e) (he : e ≤ 32) (h : post (nI (bf_cn (fun j => lc (p + j)) (e - p)))) : wpX_countHeld__latchCells post (nI P, nI S, nI T, nI A, dO, dI, sO, sI, lc, wv) (nI p) (nI e) := by
  have key : ∀ m i, i + m = e - p → wX_countHeld__latchCells_5 post (nI e) (nI P) (nI S) (nI T) (nI A) dO dI sO sI lc wv (m + 1) (nI (bf_cn (fun j => lc (p + j)) i)) (nI (p + i)) := by
    intro m
    induction m with
    | zero =>
      intro i hi
      have e1 : i = e - p := by omega
      subst e1
      exact pk_le e (p + (e - p)) (fun _ => h) (fun z => absurd z (by omega))
    | succ m ih =>
      intro i hi
      have t := ih (i + 1) (by omega)
      refine pk_le e (p + i) (fun z => absurd z (by omega)) (fun _ => ⟨pk_in (p + i) 32 (by omega), ?_⟩)
      rw [nI_clamp (by omega)]
      by_cases z : lc (p + i) = -1
      · rw [bf_cn_t (f := fun j => lc (p + j)) z] at t
        exact br_t z (nm_r (nI_1 (p + i)) t)
      · rw [bf_cn_f (f := fun j => lc (p + j)) z] at t
        exact br_f z (nm_r (nI_1 _) (nm_r (nI_1 (p + i)) t))
  exact ⟨e - p + 1, key (e - p) 0 (by omega)⟩
theorem xf_cnt_l0 {post : Int32 → Prop} {e : Nat} (he : e ≤ 32) (h : post (nI (bf_cn lc e))) : wpX_countHeld__latchCells post (nI P, nI S, nI T, nI A, dO, dI, sO, sI, lc, wv) 0 (nI e) := by
  have q : bf_cn (fun j => lc (0 + j)) (e - 0) = bf_cn lc e := bf_cn_cg e (fun j _ => by rw [Nat.zero_add])
  exact xf_cnt_l (p := 0) (Nat.zero_le e) he (by rw [q]; exact h)
theorem xf_cnt_w {post : Int32 → Prop} {p e : Nat} (hp : p ≤ e) (he : e ≤ 288) (h : post (nI (bf_cn (fun j => wv (p + j)) (e - p)))) : wpX_countHeld__waveCells post (nI P, nI S, nI T, nI A, dO, dI, sO, sI, lc, wv) (nI p) (nI e) := by
  have key : ∀ m i, i + m = e - p → wX_countHeld__waveCells_5 post (nI e) (nI P) (nI S) (nI T) (nI A) dO dI sO sI lc wv (m + 1) (nI (bf_cn (fun j => wv (p + j)) i)) (nI (p + i)) := by
    intro m
    induction m with
    | zero =>
      intro i hi
      have e1 : i = e - p := by omega
      subst e1
      exact pk_le e (p + (e - p)) (fun _ => h) (fun z => absurd z (by omega))
    | succ m ih =>
      intro i hi
      have t := ih (i + 1) (by omega)
      refine pk_le e (p + i) (fun z => absurd z (by omega)) (fun _ => ⟨pk_in (p + i) 288 (by omega), ?_⟩)
      rw [nI_clamp (by omega)]
      by_cases z : wv (p + i) = -1
      · rw [bf_cn_t (f := fun j => wv (p + j)) z] at t
        exact br_t z (nm_r (nI_1 (p + i)) t)
      · rw [bf_cn_f (f := fun j => wv (p + j)) z] at t
        exact br_f z (nm_r (nI_1 _) (nm_r (nI_1 (p + i)) t))
  exact ⟨e - p + 1, key (e - p) 0 (by omega)⟩
theorem xf_cnt_w0 {post : Int32 → Prop} {e : Nat} (he : e ≤ 288) (h : post (nI (bf_cn wv e))) : wpX_countHeld__waveCells post (nI P, nI S, nI T, nI A, dO, dI, sO, sI, lc, wv) 0 (nI e) := by
  have q : bf_cn (fun j => wv (0 + j)) (e - 0) = bf_cn wv e := bf_cn_cg e (fun j _ => by rw [Nat.zero_add])
  exact xf_cnt_w (p := 0) (Nat.zero_le e) he (by rw [q]; exact h)
theorem xf_store {post : SX → Prop} {s : Nat} (hP : P ≤ 32) (hT : T ≤ 4) (hs : s < T) (pd : bf_PD P dO dI)
    (h : ∀ a b, bf_CH P (s * P) dO dI a b → (∀ x, x < s * P ∨ s * P + P ≤ x → a x = sO x ∧ b x = sI x) → post (nI P, nI S, nI T, nI A, dO, dI, a, b, lc, wv)) : wpX_storeDraft post (nI P, nI S, nI T, nI A, dO, dI, sO, sI, lc, wv) (nI s) := by
  have key : ∀ m i f a b, i + m = P → bf_SI P (s * P) dO dI i f a b → (∀ x, x < s * P ∨ s * P + P ≤ x → a x = sO x ∧ b x = sI x) → wX_storeDraft_4 post (nI s) (nI P) (nI S) (nI T) (nI A) (m + 1) (nI f) (nI i) dO dI a b lc wv := by
    intro m
    induction m with
    | zero =>
      intro i f a b hi si fr
      have e1 : i = P := by omega
      subst e1
      exact pk_le i i (fun _ => h a b (bf_SI_end hP pd si) fr) (fun z => absurd z (by omega))
    | succ m ih =>
      intro i f a b hi si fr
      have hiP : i < P := by omega
      have join : ∀ g o, o < P → bf_SI P (s * P) dO dI (i + 1) g (upd a (s * P + i) (nI o)) (upd b (s * P + o) (nI i)) → wX_storeDraft_4 post (nI s) (nI P) (nI S) (nI T) (nI A) (m + 1) (nI g) (nI (i + 1)) dO dI (upd a (s * P + i) (nI o)) (upd b (s * P + o) (nI i)) lc wv := by
        intro g o ho si'
        refine ih (i + 1) g _ _ (by omega) si' (fun x hx => ?_)
        rw [pk_un (by omega), pk_un (by omega)]
        exact fr x hx
      refine pk_le P i (fun z => absurd z (by omega)) (fun _ => bf_ld i rfl (by omega) (by decide) ?_)
      by_cases e : dO i = -1
      · obtain ⟨o0, q1, q2, q3⟩ := bf_SI_ex si hiP e pd.2.2
        obtain ⟨o, ho, ⟨hfo, h2⟩, hl⟩ := bf_least (Q := fun o => f ≤ o ∧ dI o = -1) P ⟨o0, q2, q1, q3⟩
        have h3 : ∀ q, f ≤ q → q < o → ¬ dI q = -1 := fun q a1 a2 a3 => hl q a2 ⟨a1, a3⟩
        refine br_t e (xf_free hP hfo ho h2 h3 (nm_r (nI_1 o) ?_))
        exact bf_st (s * P + i) (bf_mi s P i) (bf_ix4 hs hT hiP hP) (by decide) (bf_st (s * P + o) (bf_mi s P o) (bf_ix4 hs hT ho hP) (by decide) (nm_r (nI_1 i) (join (o + 1) o ho (bf_SI_f hP si hiP hfo ho e h2 h3))))
      · rcases pd.1 i hiP with z | ⟨o, ho, h1, h2⟩
        · exact absurd z e
        · rw [h1]
          exact br_f (bf_ne1 (by omega)) (bf_st (s * P + i) (bf_mi s P i) (bf_ix4 hs hT hiP hP) (by decide) (bf_st (s * P + o) (bf_mi s P o) (bf_ix4 hs hT ho hP) (by decide) (nm_r (nI_1 i) (join f o ho (bf_SI_d hP si hiP ho h1 h2)))))
  exact ⟨P + 1, key P 0 0 sO sI (by omega) bf_SI_0 (fun x _ => ⟨rfl, rfl⟩)⟩
theorem xf_clear {post : Int32 → SX → Prop} (hP : P ≤ 32) (h : ∀ a b, (∀ i, i < P → a i = -1) → (∀ i, i < P → b i = -1) → post (nI (bf_cn dO P)) (nI P, nI S, nI T, nI A, a, b, sO, sI, lc, wv)) : wpX_clear post (nI P, nI S, nI T, nI A, dO, dI, sO, sI, lc, wv) := by
  unfold wpX_clear
  dsimp only
  exact xf_cnt_d0 hP (xf_emptyDraft hP (fun a b ha hb => h a b ha hb))
theorem xf_set {post : Int32 → SX → Prop} {s : Nat} (hP : P ≤ 32) (hT : T ≤ 4) (hs : s < T) (pd : bf_PD P dO dI)
    (h : ∀ a b, bf_CH P (s * P) dO dI a b → (∀ x, x < s * P ∨ s * P + P ≤ x → a x = sO x ∧ b x = sI x) → post (nI P - nI (bf_cn dO P)) (nI P, nI S, nI T, nI A, dO, dI, a, b, lc, wv)) : wpX_set post (nI P, nI S, nI T, nI A, dO, dI, sO, sI, lc, wv) (nI s) := by
  unfold wpX_set
  dsimp only
  exact xf_slot_t hT hs (br_f (by decide) (xf_store hP hT hs pd (fun a b hc hf => xf_cnt_d0 hP (h a b hc hf))))
theorem xf_load {post : Int32 → SX → Prop} {s : Nat} (hP : P ≤ 32) (hT : T ≤ 4) (hs : s < T)
    (h : ∀ a b, (∀ i, i < P → a i = sO (s * P + i)) → (∀ i, i < P → b i = sI (s * P + i)) → post 0 (nI P, nI S, nI T, nI A, a, b, sO, sI, lc, wv)) : wpX_load post (nI P, nI S, nI T, nI A, dO, dI, sO, sI, lc, wv) (nI s) := by
  have key : ∀ m i a b, i + m = P → (∀ j, j < i → a j = sO (s * P + j)) → (∀ j, j < i → b j = sI (s * P + j)) → wX_load_13 post (nI s) (nI P) (nI S) (nI T) (nI A) (m + 1) (nI i) a b sO sI lc wv := by
    intro m
    induction m with
    | zero =>
      intro i a b hi ha hb
      have e1 : i = P := by omega
      subst e1
      exact pk_le i i (fun _ => h a b ha hb) (fun z => absurd z (by omega))
    | succ m ih =>
      intro i a b hi ha hb
      have hx := bf_ix4 (i := i) hs hT (by omega) hP
      refine pk_le P i (fun z => absurd z (by omega)) (fun _ => ⟨pk_in (s * P + i) 128 hx (bf_mi s P i), bf_st i rfl (by omega) (by decide) ⟨pk_in (s * P + i) 128 hx (bf_mi s P i), bf_st i rfl (by omega) (by decide) (nm_r (nI_1 i) ?_)⟩⟩)
      rw [bf_mi s P i, nI_clamp (by omega)]
      exact ih (i + 1) _ _ (by omega) (bf_fl (f := fun j => sO (s * P + j)) ha rfl) (bf_fl (f := fun j => sI (s * P + j)) hb rfl)
  unfold wpX_load
  dsimp only
  exact xf_slot_t hT hs (br_f (by decide) ⟨P + 1, key P 0 dO dI (by omega) (fun j hj => absurd hj (by omega)) (fun j hj => absurd hj (by omega))⟩)
theorem xf_launch {post : SX → Prop} (hP : P ≤ 32) (hS1 : 1 ≤ S) (hS : S ≤ 9) (hT : T ≤ 4) (hA : A < T) (pm : bf_PM P sO sI (A * P))
    (h : ∀ w, (∀ x, x < (S - 1) * P → w x = wv x) → (∀ o, o < P → w ((S - 1) * P + o) = lc (sI (A * P + o)).toNatClampNeg) → post (nI P, nI S, nI T, nI A, dO, dI, sO, sI, lc, w)) : wpX_launchLatch post (nI P, nI S, nI T, nI A, dO, dI, sO, sI, lc, wv) := by
  have hb : (S - 1) * P + P ≤ 288 := by
    have : S * P ≤ 9 * 32 := Nat.mul_le_mul hS hP
    have e : S * P = (S - 1) * P + P := by
      obtain ⟨r, rfl⟩ : ∃ r, S = r + 1 := ⟨S - 1, by omega⟩
      rw [Nat.add_mul, Nat.one_mul, Nat.add_sub_cancel]
    omega
  have key : ∀ m i w, i + m = P → (∀ x, x < (S - 1) * P → w x = wv x) → (∀ o, o < i → w ((S - 1) * P + o) = lc (sI (A * P + o)).toNatClampNeg) → wX_launchLatch_14 post (nI ((S - 1) * P)) (nI P) (nI S) (nI T) (nI A) (m + 1) (nI i) dO dI sO sI lc w := by
    intro m
    induction m with
    | zero =>
      intro i w hi h1 h2
      have e1 : i = P := by omega
      subst e1
      exact pk_le i i (fun _ => h w h1 h2) (fun z => absurd z (by omega))
    | succ m ih =>
      intro i w hi h1 h2
      obtain ⟨j, hj, a, _⟩ := pm.2 i (by omega)
      have hx := bf_ix4 (i := i) hA hT (by omega) hP
      refine pk_le P i (fun z => absurd z (by omega)) (fun _ => bf_ld (A * P + i) (bf_mi A P i) hx (by decide) ?_)
      rw [a]
      refine ⟨pk_in j 32 (by omega), bf_st ((S - 1) * P + i) (nI_add _ _) (by omega) (by decide) (nm_r (nI_1 i) (ih (i + 1) _ (by omega) (fun x hx2 => ?_) (fun o ho => ?_)))⟩
      · rw [pk_un (by omega)]
        exact h1 x hx2
      · by_cases e : o = i
        · rw [e, pk_us, a]
        · rw [pk_un (by omega)]
          exact h2 o (by omega)
  unfold wpX_launchLatch
  dsimp only
  refine nm_r (e' := nI ((S - 1) * P)) ?_ ⟨P + 1, key P 0 wv (by omega) (fun x _ => rfl) (fun o ho => absurd ho (by omega))⟩
  rw [show nI S - 1 = nI (S - 1) from pk_sub (b := 1) hS1, pk_mul]
theorem xf_tick {post : Int32 → SX → Prop} (hP : P ≤ 32) (hS1 : 1 ≤ S) (hS : S ≤ 9) (hT : T ≤ 4) (hA : A < T) (pm : bf_PM P sO sI (A * P))
    (h : ∀ w l, (∀ x, x + P < S * P → w x = wv (x + P)) → (∀ o, o < P → w ((S - 1) * P + o) = lc (sI (A * P + o)).toNatClampNeg) → (∀ i, i < P → l i = -1) → post (nI (bf_cn w P)) (nI P, nI S, nI T, nI A, dO, dI, sO, sI, l, w)) : wpX_tick post (nI P, nI S, nI T, nI A, dO, dI, sO, sI, lc, wv) := by
  unfold wpX_tick
  dsimp only
  have e : S * P = (S - 1) * P + P := by
    obtain ⟨r, rfl⟩ : ∃ r, S = r + 1 := ⟨S - 1, by omega⟩
    rw [Nat.add_mul, Nat.one_mul, Nat.add_sub_cancel]
  have hb : S * P ≤ 9 * 32 := Nat.mul_le_mul hS hP
  refine xf_advance hP hS hS1 (fun w hw => xf_launch hP hS1 hS hT hA pm (fun w2 h1 h2 => xf_emptyLatch hP (fun l hl => ?_)))
  exact xf_cnt_w0 (by omega) (h w2 l (fun x hx => by rw [h1 x (by omega)]; exact hw x hx) h2 hl)
theorem xf_fill {post : Int32 → SX → Prop} {mu ad : Int32} (hP : P ≤ 32) (hL : ∃ L, P = 2 ^ L)
    (h : post (nI (bf_fz P mu ad dO dI P).2.2) (nI P, nI S, nI T, nI A, (bf_fz P mu ad dO dI P).1, (bf_fz P mu ad dO dI P).2.1, sO, sI, lc, wv)) : wpX_fill post (nI P, nI S, nI T, nI A, dO, dI, sO, sI, lc, wv) mu ad := by
  have key : ∀ m i, i + m = P → wX_fill_5 post mu ad (m + 1) (nI (bf_fz P mu ad dO dI i).2.2) (nI i) (nI P) (nI S) (nI T) (nI A) (bf_fz P mu ad dO dI i).1 (bf_fz P mu ad dO dI i).2.1 sO sI lc wv := by
    intro m
    induction m with
    | zero =>
      intro i hi
      have e1 : i = P := by omega
      subst e1
      exact pk_le i i (fun _ => h) (fun z => absurd z (by omega))
    | succ m ih =>
      intro i hi
      have t := ih (i + 1) (by omega)
      have ho : bf_out P mu ad i < P := bf_out_lt hL
      refine pk_le P i (fun z => absurd z (by omega)) (fun _ => nm_r (bf_out_e hP hL) ⟨pk_in i 32 (by omega), ?_⟩)
      rw [nI_clamp (n := i) (by omega)]
      by_cases h1 : (bf_fz P mu ad dO dI i).1 i = -1
      · refine br_t h1 ⟨pk_in (bf_out P mu ad i) 32 (by omega), ?_⟩
        rw [nI_clamp (n := bf_out P mu ad i) (by omega)]
        by_cases h2 : (bf_fz P mu ad dO dI i).2.1 (bf_out P mu ad i) = -1
        · rw [bf_fz_t h1 h2] at t
          exact br_t h2 (xf_add hP (by omega) ho (nm_r (nI_1 _) (nm_r (nI_1 i) t)))
        · rw [bf_fz_f (fun z => h2 z.2)] at t
          exact br_f h2 (nm_r (nI_1 i) t)
      · rw [bf_fz_f (fun z => h1 z.1)] at t
        exact br_f h1 (nm_r (nI_1 i) t)
  exact ⟨P + 1, key P 0 (by omega)⟩
end BX3
end
section
/-! the reference's own methods -/
section BY
variable {P S T A : Nat} {d se ce wa : Nat → Int32}
theorem yf_port_t {post : Int32 → Prop} {j : Nat} (hP : P ≤ 32) (hj : j < P) (h : post 1) : wpY_isPort post (nI P, nI S, nI T, nI A, d, se, ce, wa) (nI j) :=
  br_f (nI_pos (by omega)) (br_f (nI_ge hj (by omega)) h)
theorem yf_port_f {post : Int32 → Prop} {x : Int32} (hx : x < 0 ∨ nI P ≤ x) (h : post 0) : wpY_isPort post (nI P, nI S, nI T, nI A, d, se, ce, wa) x := by
  by_cases h0 : x < 0
  · exact br_t h0 h
  · exact br_f h0 (br_t (hx.resolve_left h0) h)
theorem yf_slot_t {post : Int32 → Prop} {j : Nat} (hT : T ≤ 4) (hj : j < T) (h : post 1) : wpY_isSlot post (nI P, nI S, nI T, nI A, d, se, ce, wa) (nI j) :=
  br_f (nI_pos (by omega)) (br_f (nI_ge hj (by omega)) h)
theorem yf_slot_f {post : Int32 → Prop} {x : Int32} (hx : x < 0 ∨ nI T ≤ x) (h : post 0) : wpY_isSlot post (nI P, nI S, nI T, nI A, d, se, ce, wa) x := by
  by_cases h0 : x < 0
  · exact br_t h0 h
  · exact br_f h0 (br_t (hx.resolve_left h0) h)
theorem yf_has {post : Int32 → Prop} {x : Int32} (hP : P ≤ 32) (h1 : (∃ j, j < P ∧ d j = x) → post 1) (h0 : (∀ j, j < P → ¬ d j = x) → post 0) : wpY_draftHasOutput post (nI P, nI S, nI T, nI A, d, se, ce, wa) x :=
  pk_loop (σ := Unit) (fun n i _ => wY_draftHasOutput_2 post x (nI P) (nI S) (nI T) (nI A) d se ce wa n (nI i)) (fun i _ => ∀ j, j < i → ¬ d j = x) P 0 () (by omega) (fun j hj => absurd hj (by omega))
    (fun n _ h => pk_le P P (fun _ => h0 h) (fun z => absurd z (by omega)))
    (fun n i _ hi h hw => pk_le P i (fun z => absurd z (by omega)) (fun _ => ⟨pk_in i 32 (by omega), by
      rw [nI_clamp (by omega)]
      exact br_c (fun e => h1 ⟨i, hi, e⟩) (fun e => nm_r (nI_1 i) (hw () (lt_s h e)))⟩))
theorem yf_find {post : Int32 → Prop} {x : Int32} {s : Nat} (hP : P ≤ 32) (hs : s < 4) (h1 : ∀ j, j < P → se (s * 32 + j) = x → post (nI j)) (h0 : (∀ j, j < P → ¬ se (s * 32 + j) = x) → post (-1)) : wpY_find post (nI P, nI S, nI T, nI A, d, se, ce, wa) (nI s) x :=
  pk_loop (σ := Unit) (fun n i _ => wY_find_2 post (nI s) x (nI P) (nI S) (nI T) (nI A) d se ce wa n (nI i)) (fun i _ => ∀ j, j < i → ¬ se (s * 32 + j) = x) P 0 () (by omega) (fun j hj => absurd hj (by omega))
    (fun n _ h => pk_le P P (fun _ => h0 h) (fun z => absurd z (by omega)))
    (fun n i _ hi h hw => pk_le P i (fun z => absurd z (by omega)) (fun _ => ⟨pk_in (s * 32 + i) 128 (by omega) (bf_m32 s i), by
      rw [bf_m32 s i, nI_clamp (by omega)]
      exact br_c (fun e => h1 i hi e) (fun e => nm_r (nI_1 i) (hw () (lt_s h e)))⟩))
theorem yf_countDraft {post : Int32 → Prop} (hP : P ≤ 32) (hV : ∀ i, i < P → bf_Vl (d i)) (h : post (nI (bf_cn d P))) : wpY_countDraft post (nI P, nI S, nI T, nI A, d, se, ce, wa) := by
  have key : ∀ m i, i + m = P → wY_countDraft_4 post (nI P) (nI S) (nI T) (nI A) d se ce wa (m + 1) (nI (bf_cn d i)) (nI i) := by
    intro m
    induction m with
    | zero =>
      intro i hi
      have e : i = P := by omega
      subst e
      exact pk_le i i (fun _ => h) (fun z => absurd z (by omega))
    | succ m ih =>
      intro i hi
      have t := ih (i + 1) (by omega)
      refine pk_le P i (fun z => absurd z (by omega)) (fun _ => ⟨pk_in i 32 (by omega), ?_⟩)
      rw [nI_clamp (by omega)]
      by_cases e : d i = -1
      · rw [bf_cn_t e] at t
        exact br_t ((bf_vl_lt (hV i (by omega))).mpr e) (nm_r (nI_1 i) t)
      · rw [bf_cn_f e] at t
        exact br_f (fun z => e ((bf_vl_lt (hV i (by omega))).mp z)) (nm_r (nI_1 _) (nm_r (nI_1 i) t))
  exact ⟨P + 1, key P 0 (by omega)⟩
theorem yf_countWave {post : Int32 → Prop} {q : Nat} (hP : P ≤ 32) (hq : q < 9) (hV : ∀ i, i < P → bf_Vl (wa (q * 32 + i))) (h : post (nI (bf_cn (fun o => wa (q * 32 + o)) P))) : wpY_countWave post (nI P, nI S, nI T, nI A, d, se, ce, wa) (nI q) := by
  have key : ∀ m i, i + m = P → wY_countWave_4 post (nI q) (nI P) (nI S) (nI T) (nI A) d se ce wa (m + 1) (nI (bf_cn (fun o => wa (q * 32 + o)) i)) (nI i) := by
    intro m
    induction m with
    | zero =>
      intro i hi
      have e : i = P := by omega
      subst e
      exact pk_le i i (fun _ => h) (fun z => absurd z (by omega))
    | succ m ih =>
      intro i hi
      have t := ih (i + 1) (by omega)
      refine pk_le P i (fun z => absurd z (by omega)) (fun _ => ⟨pk_in (q * 32 + i) 288 (by omega) (bf_m32 q i), ?_⟩)
      rw [bf_m32 q i, nI_clamp (by omega)]
      by_cases e : wa (q * 32 + i) = -1
      · rw [bf_cn_t (f := fun o => wa (q * 32 + o)) e] at t
        exact br_t ((bf_vl_lt (hV i (by omega))).mpr e) (nm_r (nI_1 i) t)
      · rw [bf_cn_f (f := fun o => wa (q * 32 + o)) e] at t
        exact br_f (fun z => e ((bf_vl_lt (hV i (by omega))).mp z)) (nm_r (nI_1 _) (nm_r (nI_1 i) t))
  exact ⟨P + 1, key P 0 (by omega)⟩
theorem yf_rq1 {post : Int32 → SY → Prop} {x y : Int32} (hx : x < 0 ∨ nI P ≤ x) (h : post (-2) (nI P, nI S, nI T, nI A, d, se, ce, wa)) : wpY_request post (nI P, nI S, nI T, nI A, d, se, ce, wa) x y := by
  unfold wpY_request
  dsimp only
  exact yf_port_f hx (br_t rfl h)
theorem yf_rq2 {post : Int32 → SY → Prop} {i : Nat} {y : Int32} (hP : P ≤ 32) (hi : i < P) (hy : y < 0 ∨ nI P ≤ y) (h : post (-2) (nI P, nI S, nI T, nI A, d, se, ce, wa)) : wpY_request post (nI P, nI S, nI T, nI A, d, se, ce, wa) (nI i) y := by
  unfold wpY_request
  dsimp only
  exact yf_port_t hP hi (br_f (by decide) (yf_port_f hy (br_t rfl h)))
theorem yf_rq3 {post : Int32 → SY → Prop} {i o : Nat} (hP : P ≤ 32) (hi : i < P) (ho : o < P) (hv : bf_Vl (d i)) (h1 : ¬ d i = -1) (h : post (-3) (nI P, nI S, nI T, nI A, d, se, ce, wa)) : wpY_request post (nI P, nI S, nI T, nI A, d, se, ce, wa) (nI i) (nI o) := by
  unfold wpY_request
  dsimp only
  exact yf_port_t hP hi (br_f (by decide) (yf_port_t hP ho (br_f (by decide) ⟨pk_in i 32 (by omega), br_f (by rw [nI_clamp (by omega)]; exact fun z => h1 ((bf_vl_lt hv).mp z)) h⟩)))
theorem yf_rq4 {post : Int32 → SY → Prop} {i o : Nat} (hP : P ≤ 32) (hi : i < P) (ho : o < P) (h1 : d i = -1) (h2 : ∃ j, j < P ∧ d j = nI o) (h : post (-4) (nI P, nI S, nI T, nI A, d, se, ce, wa)) : wpY_request post (nI P, nI S, nI T, nI A, d, se, ce, wa) (nI i) (nI o) := by
  unfold wpY_request
  dsimp only
  exact yf_port_t hP hi (br_f (by decide) (yf_port_t hP ho (br_f (by decide) ⟨pk_in i 32 (by omega), br_t (by rw [nI_clamp (by omega), h1]; decide) (yf_has hP (fun _ => br_f (by decide) h) (fun z => absurd h2 (fun ⟨j, hj, e⟩ => z j hj e)))⟩)))
theorem yf_rq5 {post : Int32 → SY → Prop} {i o : Nat} (hP : P ≤ 32) (hi : i < P) (ho : o < P) (h1 : d i = -1) (h2 : ∀ j, j < P → ¬ d j = nI o) (h : post 0 (nI P, nI S, nI T, nI A, upd d i (nI o), se, ce, wa)) : wpY_request post (nI P, nI S, nI T, nI A, d, se, ce, wa) (nI i) (nI o) := by
  unfold wpY_request
  dsimp only
  exact yf_port_t hP hi (br_f (by decide) (yf_port_t hP ho (br_f (by decide) ⟨pk_in i 32 (by omega), br_t (by rw [nI_clamp (by omega), h1]; decide) (yf_has hP (fun ⟨j, hj, e⟩ => absurd e (h2 j hj)) (fun _ => br_t rfl (bf_st i rfl (by omega) (by decide) h)))⟩)))
end BY
end
section
section BY2
variable {P S T A : Nat} {d se ce wa : Nat → Int32}
theorem yf_drafted0 {post : Int32 → Prop} {x : Int32} (hx : x < 0 ∨ nI P ≤ x) (h : post (-2)) : wpY_drafted post (nI P, nI S, nI T, nI A, d, se, ce, wa) x := by
  unfold wpY_drafted
  dsimp only
  exact yf_port_f hx (br_t rfl h)
theorem yf_drafted {post : Int32 → Prop} {i : Nat} (hP : P ≤ 32) (hi : i < P) (h : post (d i)) : wpY_drafted post (nI P, nI S, nI T, nI A, d, se, ce, wa) (nI i) := by
  unfold wpY_drafted
  dsimp only
  exact yf_port_t hP hi (br_f (by decide) (bf_rd i rfl (by omega) (by decide) h))
theorem yf_latched0 {post : Int32 → Prop} {x : Int32} (hx : x < 0 ∨ nI P ≤ x) (h : post (-2)) : wpY_latched post (nI P, nI S, nI T, nI A, d, se, ce, wa) x := by
  unfold wpY_latched
  dsimp only
  exact yf_port_f hx (br_t rfl h)
theorem yf_latched {post : Int32 → Prop} {i : Nat} (hP : P ≤ 32) (hi : i < P) (h : post (ce i)) : wpY_latched post (nI P, nI S, nI T, nI A, d, se, ce, wa) (nI i) := by
  unfold wpY_latched
  dsimp only
  exact yf_port_t hP hi (br_f (by decide) (bf_rd i rfl (by omega) (by decide) h))
theorem yf_wd1 {post : Int32 → SY → Prop} {x : Int32} (hx : x < 0 ∨ nI P ≤ x) (h : post (-2) (nI P, nI S, nI T, nI A, d, se, ce, wa)) : wpY_withdraw post (nI P, nI S, nI T, nI A, d, se, ce, wa) x := by
  unfold wpY_withdraw
  dsimp only
  exact yf_drafted0 hx (br_t (by decide) h)
theorem yf_wd2 {post : Int32 → SY → Prop} {i : Nat} (hP : P ≤ 32) (hi : i < P) (a : d i = -1) (h : post (-1) (nI P, nI S, nI T, nI A, d, se, ce, wa)) : wpY_withdraw post (nI P, nI S, nI T, nI A, d, se, ce, wa) (nI i) := by
  unfold wpY_withdraw
  dsimp only
  exact yf_drafted hP hi (by rw [a]; exact br_t (by decide) h)
theorem yf_wd3 {post : Int32 → SY → Prop} {i o : Nat} (hP : P ≤ 32) (hi : i < P) (ho : o < P) (a : d i = nI o) (h : post (nI o) (nI P, nI S, nI T, nI A, upd d i (-1), se, ce, wa)) : wpY_withdraw post (nI P, nI S, nI T, nI A, d, se, ce, wa) (nI i) := by
  unfold wpY_withdraw
  dsimp only
  exact yf_drafted hP hi (by rw [a]; exact (br_f (nI_pos (by omega)) (bf_st i rfl (by omega) (by decide) h)))
theorem yf_set0 {post : Int32 → SY → Prop} {x : Int32} (hx : x < 0 ∨ nI T ≤ x) (h : post (-2) (nI P, nI S, nI T, nI A, d, se, ce, wa)) : wpY_set post (nI P, nI S, nI T, nI A, d, se, ce, wa) x := by
  unfold wpY_set
  dsimp only
  exact yf_slot_f hx (br_t rfl h)
theorem yf_load0 {post : Int32 → SY → Prop} {x : Int32} (hx : x < 0 ∨ nI T ≤ x) (h : post (-2) (nI P, nI S, nI T, nI A, d, se, ce, wa)) : wpY_load post (nI P, nI S, nI T, nI A, d, se, ce, wa) x := by
  unfold wpY_load
  dsimp only
  exact yf_slot_f hx (br_t rfl h)
theorem yf_select0 {post : Int32 → SY → Prop} {x : Int32} (hx : x < 0 ∨ nI T ≤ x) (h : post (-2) (nI P, nI S, nI T, nI A, d, se, ce, wa)) : wpY_select post (nI P, nI S, nI T, nI A, d, se, ce, wa) x := by
  unfold wpY_select
  dsimp only
  exact yf_slot_f hx (br_t rfl h)
theorem yf_select {post : Int32 → SY → Prop} {s : Nat} (hT : T ≤ 4) (hs : s < T) (h : post 0 (nI P, nI S, nI T, nI s, d, se, ce, wa)) : wpY_select post (nI P, nI S, nI T, nI A, d, se, ce, wa) (nI s) := by
  unfold wpY_select
  dsimp only
  exact yf_slot_t hT hs (br_f (by decide) h)
theorem yf_route1 {post : Int32 → Prop} {x y : Int32} (hx : x < 0 ∨ nI T ≤ x) (h : post (-2)) : wpY_route post (nI P, nI S, nI T, nI A, d, se, ce, wa) x y := by
  unfold wpY_route
  dsimp only
  exact yf_slot_f hx (br_t rfl h)
theorem yf_route2 {post : Int32 → Prop} {s : Nat} {x : Int32} (hT : T ≤ 4) (hs : s < T) (hx : x < 0 ∨ nI P ≤ x) (h : post (-2)) : wpY_route post (nI P, nI S, nI T, nI A, d, se, ce, wa) (nI s) x := by
  unfold wpY_route
  dsimp only
  exact yf_slot_t hT hs (br_f (by decide) (yf_port_f hx (br_t rfl h)))
theorem yf_source1 {post : Int32 → Prop} {x y : Int32} (hx : x < 0 ∨ nI T ≤ x) (h : post (-2)) : wpY_source post (nI P, nI S, nI T, nI A, d, se, ce, wa) x y := by
  unfold wpY_source
  dsimp only
  exact yf_slot_f hx (br_t rfl h)
theorem yf_source2 {post : Int32 → Prop} {s : Nat} {x : Int32} (hT : T ≤ 4) (hs : s < T) (hx : x < 0 ∨ nI P ≤ x) (h : post (-2)) : wpY_source post (nI P, nI S, nI T, nI A, d, se, ce, wa) (nI s) x := by
  unfold wpY_source
  dsimp only
  exact yf_slot_t hT hs (br_f (by decide) (yf_port_f hx (br_t rfl h)))
theorem yf_route {post : Int32 → Prop} {s i : Nat} (hP : P ≤ 32) (hT : T ≤ 4) (hs : s < T) (hi : i < P) (h : post (se (s * 32 + i))) : wpY_route post (nI P, nI S, nI T, nI A, d, se, ce, wa) (nI s) (nI i) := by
  unfold wpY_route
  dsimp only
  exact yf_slot_t hT hs (br_f (by decide) (yf_port_t hP hi (br_f (by decide) (bf_rd (s * 32 + i) (bf_m32 s i) (by omega) (by decide) h))))
theorem yf_source {post : Int32 → Prop} {s i : Nat} (hP : P ≤ 32) (hT : T ≤ 4) (hs : s < T) (hi : i < P) (h1 : ∀ j, j < P → se (s * 32 + j) = nI i → post (nI j)) (h0 : (∀ j, j < P → ¬ se (s * 32 + j) = nI i) → post (-1)) : wpY_source post (nI P, nI S, nI T, nI A, d, se, ce, wa) (nI s) (nI i) := by
  unfold wpY_source
  dsimp only
  exact yf_slot_t hT hs (br_f (by decide) (yf_port_t hP hi (br_f (by decide) (yf_find hP (by omega) h1 h0))))
theorem yf_latch1 {post : Int32 → SY → Prop} {x y : Int32} (hx : x < 0 ∨ nI P ≤ x) (h : post (-2) (nI P, nI S, nI T, nI A, d, se, ce, wa)) : wpY_latch post (nI P, nI S, nI T, nI A, d, se, ce, wa) x y := by
  unfold wpY_latch
  dsimp only
  exact yf_port_f hx (br_t rfl h)
theorem yf_latch2 {post : Int32 → SY → Prop} {i : Nat} {y : Int32} (hP : P ≤ 32) (hi : i < P) (h0 : y < 0) (h : post (-2) (nI P, nI S, nI T, nI A, d, se, ce, wa)) : wpY_latch post (nI P, nI S, nI T, nI A, d, se, ce, wa) (nI i) y := by
  unfold wpY_latch
  dsimp only
  exact yf_port_t hP hi (br_f (by decide) (br_f (Int32.not_le.mpr h0) h))
theorem yf_latch3 {post : Int32 → SY → Prop} {i : Nat} {y : Int32} (hP : P ≤ 32) (hi : i < P) (h0 : ¬ y < 0) (hv : bf_Vl (ce i)) (h1 : ¬ ce i = -1) (h : post (-3) (nI P, nI S, nI T, nI A, d, se, ce, wa)) : wpY_latch post (nI P, nI S, nI T, nI A, d, se, ce, wa) (nI i) y := by
  unfold wpY_latch
  dsimp only
  exact yf_port_t hP hi (br_f (by decide) (br_t (Int32.not_lt.mp h0) ⟨pk_in i 32 (by omega), br_f (by rw [nI_clamp (by omega)]; exact fun z => h1 ((bf_vl_lt hv).mp z)) h⟩))
theorem yf_latch4 {post : Int32 → SY → Prop} {i : Nat} {y : Int32} (hP : P ≤ 32) (hi : i < P) (h0 : ¬ y < 0) (h1 : ce i = -1) (h : post 0 (nI P, nI S, nI T, nI A, d, se, upd ce i y, wa)) : wpY_latch post (nI P, nI S, nI T, nI A, d, se, ce, wa) (nI i) y := by
  unfold wpY_latch
  dsimp only
  exact yf_port_t hP hi (br_f (by decide) (br_t (Int32.not_lt.mp h0) ⟨pk_in i 32 (by omega), br_t (by rw [nI_clamp (by omega)]; rw [h1]; decide) (bf_st i rfl (by omega) (by decide) h)⟩))
theorem yf_output1 {post : Int32 → Prop} {x y : Int32} (hx : x < 0 ∨ nI P ≤ x) (h : post (-2)) : wpY_output post (nI P, nI S, nI T, nI A, d, se, ce, wa) x y := by
  unfold wpY_output
  dsimp only
  exact yf_port_f hx (br_t rfl h)
theorem yf_output2 {post : Int32 → Prop} {o : Nat} {x : Int32} (hP : P ≤ 32) (ho : o < P) (hx : x < 0 ∨ nI S ≤ x) (h : post (-2)) : wpY_output post (nI P, nI S, nI T, nI A, d, se, ce, wa) (nI o) x := by
  unfold wpY_output
  dsimp only
  exact yf_port_t hP ho (br_f (by decide) (br_c (fun _ => h) (fun z => br_f (fun w => absurd (hx.resolve_left z) (Int32.not_le.mpr w)) h)))
theorem yf_output {post : Int32 → Prop} {o q : Nat} (hP : P ≤ 32) (hS : S ≤ 9) (ho : o < P) (hq : q < S) (h : post (wa (q * 32 + o))) : wpY_output post (nI P, nI S, nI T, nI A, d, se, ce, wa) (nI o) (nI q) := by
  unfold wpY_output
  dsimp only
  exact yf_port_t hP ho (br_f (by decide) (br_f (nI_pos (by omega)) (br_t (nI_lt hq (by omega)) (bf_rd (q * 32 + o) (bf_m32 q o) (by omega) (by decide) h))))
end BY2
end
section
section BY3
variable {P S T A : Nat} {d se ce wa : Nat → Int32}
theorem yf_clear {post : Int32 → SY → Prop} (hP : P ≤ 32) (hV : ∀ i, i < P → bf_Vl (d i)) (h : ∀ a, (∀ i, i < P → a i = -1) → post (nI (bf_cn d P)) (nI P, nI S, nI T, nI A, a, se, ce, wa)) : wpY_clear post (nI P, nI S, nI T, nI A, d, se, ce, wa) := by
  have key : ∃ n, wY_clear_7 post (nI (bf_cn d P)) (nI P) (nI S) (nI T) (nI A) n 0 d se ce wa :=
    pk_loop (fun n i s => wY_clear_7 post (nI (bf_cn d P)) (nI P) (nI S) (nI T) (nI A) n (nI i) s se ce wa) (fun i s => ∀ j, j < i → s j = -1) P 0 d (by omega) (fun j hj => absurd hj (by omega))
      (fun n s hs => pk_le P P (fun _ => h s hs) (fun z => absurd z (by omega)))
      (fun n i s hi hs hw => pk_le P i (fun z => absurd z (by omega)) (fun _ => bf_st i rfl (by omega) (by decide) (nm_r (nI_1 i) (hw _ (bf_fl (f := fun _ => -1) hs rfl)))))
  unfold wpY_clear
  dsimp only
  exact yf_countDraft hP hV key
theorem yf_load {post : Int32 → SY → Prop} {s : Nat} (hP : P ≤ 32) (hT : T ≤ 4) (hs : s < T) (h : ∀ a, (∀ i, i < P → a i = se (s * 32 + i)) → post 0 (nI P, nI S, nI T, nI A, a, se, ce, wa)) : wpY_load post (nI P, nI S, nI T, nI A, d, se, ce, wa) (nI s) := by
  have key : ∃ n, wY_load_13 post (nI s) (nI P) (nI S) (nI T) (nI A) n 0 d se ce wa :=
    pk_loop (fun n i a => wY_load_13 post (nI s) (nI P) (nI S) (nI T) (nI A) n (nI i) a se ce wa) (fun i a => ∀ j, j < i → a j = se (s * 32 + j)) P 0 d (by omega) (fun j hj => absurd hj (by omega))
      (fun n a ha => pk_le P P (fun _ => h a ha) (fun z => absurd z (by omega)))
      (fun n i a hi ha hw => pk_le P i (fun z => absurd z (by omega)) (fun _ => ⟨pk_in (s * 32 + i) 128 (by omega) (bf_m32 s i), bf_st i rfl (by omega) (by decide) (nm_r (nI_1 i) (by
        rw [bf_m32 s i, nI_clamp (by omega)]
        exact hw _ (bf_fl (f := fun j => se (s * 32 + j)) ha rfl)))⟩))
  unfold wpY_load
  dsimp only
  exact yf_slot_t hT hs (br_f (by decide) key)
/-- the second loop of set: input i at output o -/
def yf_YI (P B b : Nat) (dO sO : Nat → Int32) (i o : Nat) (e : Nat → Int32) : Prop :=
  (∀ j, j < i → e (B + j) = sO (b + j)) ∧ (∀ j, i < j → j < P → e (B + j) = dO j) ∧
  (e (B + i) = sO (b + i) ∨ (dO i = -1 ∧ e (B + i) = -1 ∧ ∃ g, sO (b + i) = nI g ∧ g < P ∧ o ≤ g))
theorem yf_set {post : Int32 → SY → Prop} {s : Nat} {dO dI sO sI : Nat → Int32} (hP : P ≤ 32) (hT : T ≤ 4) (hs : s < T) (D : bf_D P dO dI d) (hc : bf_CH P (s * P) dO dI sO sI)
    (h : ∀ e, (∀ i, i < P → e (s * 32 + i) = sO (s * P + i)) → (∀ x, x < s * 32 ∨ s * 32 + P ≤ x → e x = se x) → post (nI P - nI (bf_cn d P)) (nI P, nI S, nI T, nI A, d, e, ce, wa)) : wpY_set post (nI P, nI S, nI T, nI A, d, se, ce, wa) (nI s) := by
  have key3 : ∀ (J : Int32 → (Nat → Int32) → (Nat → Int32) → (Nat → Int32) → (Nat → Int32) → Prop) (i : Nat), i < P →
      (∀ e, (∀ j, j < i + 1 → e (s * 32 + j) = sO (s * P + j)) → (∀ j, i + 1 ≤ j → j < P → e (s * 32 + j) = dO j) → (∀ x, x < s * 32 ∨ s * 32 + P ≤ x → e x = se x) → J (nI (i + 1)) d e ce wa) →
      ∀ m o e, o + m = P → yf_YI P (s * 32) (s * P) dO sO i o e → (∀ x, x < s * 32 ∨ s * 32 + P ≤ x → e x = se x) → wY_set_56 post J (nI s) (nI i) (nI P) (nI S) (nI T) (nI A) (m + 1) (nI o) d e ce wa := by
    intro J i hi hJ m
    induction m with
    | zero =>
      intro o e ho hy fr
      have e1 : o = P := by omega
      subst e1
      refine pk_le o o (fun _ => nm_r (nI_1 i) (hJ e (fun j hj => ?_) (fun j h1 h2 => hy.2.1 j (by omega) h2) fr)) (fun z => absurd z (by omega))
      by_cases ej : j = i
      · rw [ej]
        rcases hy.2.2 with z | ⟨_, _, g, _, z1, z2⟩
        · exact z
        · omega
      · exact hy.1 j (by omega)
    | succ m ih =>
      intro o e ho hy fr
      have hoP : o < P := by omega
      refine pk_le P o (fun z => absurd z (by omega)) (fun _ => ⟨pk_in (s * 32 + i) 128 (by omega) (bf_m32 s i), ?_⟩)
      rw [bf_m32 s i, nI_clamp (by omega)]
      rcases hy.2.2 with z | ⟨z1, z2, g, z3, z4, z5⟩
      · obtain ⟨g, hg, a, _⟩ := hc.2 i hi
        refine br_t (by rw [z, a]; exact nI_pos' (by omega)) (nm_r (nI_1 o) (ih (o + 1) e (by omega) ⟨hy.1, hy.2.1, Or.inl z⟩ fr))
      · refine br_f (by rw [z2]; decide) ?_
        by_cases eg : o = g
        · subst eg
          have un := bf_unused hP D.1 hc hi z1 z3 z4
          refine yf_find hP (by omega) (fun j hj ej => ?_) (fun _ => br_f (by decide) ?_)
          · exfalso
            rcases Nat.lt_trichotomy j i with w | w | w
            · rw [hy.1 j w] at ej
              exact un.1 j w ej
            · rw [w, z2] at ej
              exact bf_ne1 (by omega) ej.symm
            · rw [hy.2.1 j w hj] at ej
              exact un.2 j hj ej
          · refine ⟨pk_in (s * 32 + i) 128 (by omega) rfl, nm_e (nm_r (nI_1 o) (ih (o + 1) _ (by omega) ⟨fun j hj => ?_, fun j h1 h2 => ?_, Or.inl ?_⟩ (fun x hx => ?_)))⟩
            · rw [pk_un (by omega)]; exact hy.1 j hj
            · rw [pk_un (by omega)]; exact hy.2.1 j h1 h2
            · rw [pk_us]; exact z3.symm
            · rw [pk_un (by omega)]; exact fr x hx
        · obtain ⟨j, hj, hji, hu⟩ := bf_used hP D.1 hc hi z1 z3 z4 (q := o) (by omega)
          refine yf_find hP (by omega) (fun t ht et => br_t (nI_pos' (by omega)) (nm_r (nI_1 o) (ih (o + 1) e (by omega) ⟨hy.1, hy.2.1, Or.inr ⟨z1, z2, g, z3, z4, by omega⟩⟩ fr))) (fun hno => ?_)
          exfalso
          rcases hu with ⟨w1, w2⟩ | ⟨w1, w2⟩
          · exact hno j hj ((hy.1 j w1).trans w2)
          · exact hno j hj ((hy.2.1 j w1 hj).trans w2)
  have key2 : ∀ m i e, i + m = P → (∀ j, j < i → e (s * 32 + j) = sO (s * P + j)) → (∀ j, i ≤ j → j < P → e (s * 32 + j) = dO j) → (∀ x, x < s * 32 ∨ s * 32 + P ≤ x → e x = se x) → wY_set_46 post (nI s) (nI P) (nI S) (nI T) (nI A) (m + 1) (nI i) d e ce wa := by
    intro m
    induction m with
    | zero =>
      intro i e hi h1 h2 fr
      have e1 : i = P := by omega
      subst e1
      exact pk_le i i (fun _ => yf_countDraft hP (bf_D_v hP D) (h e h1 fr)) (fun z => absurd z (by omega))
    | succ m ih =>
      intro i e hi h1 h2 fr
      have hiP : i < P := by omega
      refine pk_le P i (fun z => absurd z (by omega)) (fun _ => ⟨P + 1, key3 _ i hiP (fun e' a b c => ih (i + 1) e' (by omega) a b c) P 0 e (by omega) ⟨h1, fun j a b => h2 j (by omega) b, ?_⟩ fr⟩)
      by_cases z : dO i = -1
      · obtain ⟨g, hg, a, _⟩ := hc.2 i hiP
        exact Or.inr ⟨z, (h2 i (by omega) hiP).trans z, g, a, hg, by omega⟩
      · exact Or.inl ((h2 i (by omega) hiP).trans (bf_CH_d hc hiP z))
  have key1 : ∀ m i e, i + m = P → (∀ j, j < i → e (s * 32 + j) = d j) → (∀ x, x < s * 32 ∨ s * 32 + P ≤ x → e x = se x) → wY_set_13 post (nI s) (nI P) (nI S) (nI T) (nI A) (m + 1) (nI i) d e ce wa := by
    intro m
    induction m with
    | zero =>
      intro i e hi h1 fr
      have e1 : i = P := by omega
      subst e1
      exact pk_le i i (fun _ => ⟨i + 1, key2 i 0 e (by omega) (fun j hj => absurd hj (by omega)) (fun j _ hj => (h1 j hj).trans (D.2 j hj)) fr⟩) (fun z => absurd z (by omega))
    | succ m ih =>
      intro i e hi h1 fr
      refine pk_le P i (fun z => absurd z (by omega)) (fun _ => ⟨pk_in i 32 (by omega), bf_st (s * 32 + i) (bf_m32 s i) (by omega) (by decide) (nm_r (nI_1 i) ?_)⟩)
      rw [nI_clamp (by omega)]
      refine ih (i + 1) _ (by omega) (fun j hj => ?_) (fun x hx => ?_)
      · by_cases ej : j = i
        · rw [ej, pk_us]
        · rw [pk_un (by omega)]
          exact h1 j (by omega)
      · rw [pk_un (by omega)]
        exact fr x hx
  unfold wpY_set
  dsimp only
  exact yf_slot_t hT hs (br_f (by decide) ⟨P + 1, key1 P 0 se (by omega) (fun j hj => absurd hj (by omega)) (fun x _ => rfl)⟩)
/-- the waves after k - 1 rows and o places of the next have moved -/
def yf_TI (P : Nat) (wa : Nat → Int32) (k o : Nat) (w : Nat → Int32) : Prop := ∀ r c, c < P → w (r * 32 + c) = if r + 1 < k ∨ (r + 1 = k ∧ c < o) then wa ((r + 1) * 32 + c) else wa (r * 32 + c)
theorem yf_TI_n {P k : Nat} {wa w : Nat → Int32} (hk : 1 ≤ k) (h : yf_TI P wa k P w) : yf_TI P wa (k + 1) 0 w := by
  intro r c hc
  rw [h r c hc]
  by_cases z : r + 1 < k ∨ (r + 1 = k ∧ c < P)
  · rw [if_pos z, if_pos (by omega)]
  · rw [if_neg z, if_neg (by omega)]
theorem yf_TI_s {P k o : Nat} {wa w : Nat → Int32} (hP : P ≤ 32) (hk : 1 ≤ k) (ho : o < P) (h : yf_TI P wa k o w) : yf_TI P wa k (o + 1) (upd w ((k - 1) * 32 + o) (w (k * 32 + o))) := by
  intro r c hc
  by_cases e : r = k - 1 ∧ c = o
  · rw [e.1, e.2, pk_us, h k o ho, if_neg (by omega), if_pos (by omega), show k - 1 + 1 = k by omega]
  · rw [pk_un (by omega), h r c hc]
    by_cases z : r + 1 < k ∨ (r + 1 = k ∧ c < o)
    · rw [if_pos z, if_pos (by omega)]
    · rw [if_neg z, if_neg (by omega)]
theorem yf_tick {post : Int32 → SY → Prop} (hP : P ≤ 32) (hS1 : 1 ≤ S) (hS : S ≤ 9) (hT : T ≤ 4) (hA : A < T)
    (hR : ∀ i, i < P → ∃ o, o < P ∧ se (A * 32 + i) = nI o) (hJ : ∀ i j, i < P → j < P → se (A * 32 + i) = se (A * 32 + j) → i = j)
    (hV : ∀ w : Nat → Int32, (∀ r o, r + 1 < S → o < P → w (r * 32 + o) = wa ((r + 1) * 32 + o)) → (∀ i o, i < P → o < P → se (A * 32 + i) = nI o → w ((S - 1) * 32 + o) = ce i) → ∀ o, o < P → bf_Vl (w o))
    (h : ∀ w c : Nat → Int32, (∀ r o, r + 1 < S → o < P → w (r * 32 + o) = wa ((r + 1) * 32 + o)) → (∀ i o, i < P → o < P → se (A * 32 + i) = nI o → w ((S - 1) * 32 + o) = ce i) → (∀ i, i < P → c i = -1) → post (nI (bf_cn w P)) (nI P, nI S, nI T, nI A, d, se, c, w)) : wpY_tick post (nI P, nI S, nI T, nI A, d, se, ce, wa) := by
  have keyC : ∀ m i w c, i + m = P → (∀ r o, r + 1 < S → o < P → w (r * 32 + o) = wa ((r + 1) * 32 + o)) → (∀ j o, j < i → o < P → se (A * 32 + j) = nI o → w ((S - 1) * 32 + o) = ce j) → (∀ j, j < i → c j = -1) → (∀ j, i ≤ j → c j = ce j) → wY_tick_58 post (nI P) (nI S) (nI T) (nI A) (m + 1) (nI i) d se c w := by
    intro m
    induction m with
    | zero =>
      intro i w c hi h1 h2 h3 h4
      have e1 : i = P := by omega
      subst e1
      refine pk_le i i (fun _ => yf_countWave (q := 0) hP (by omega) (fun o ho => ?_) ?_) (fun z => absurd z (by omega))
      · rw [Nat.zero_mul, Nat.zero_add]
        exact hV w h1 h2 o ho
      · have e2 : bf_cn (fun o => w (0 * 32 + o)) i = bf_cn w i := bf_cn_cg i (fun o _ => by rw [Nat.zero_mul, Nat.zero_add])
        rw [e2]
        exact h w c h1 h2 h3
    | succ m ih =>
      intro i w c hi h1 h2 h3 h4
      have hiP : i < P := by omega
      obtain ⟨o, ho, a⟩ := hR i hiP
      have ex : (nI S - 1) * 32 + nI o = nI ((S - 1) * 32 + o) := by
        rw [show nI S - 1 = nI (S - 1) from pk_sub (b := 1) hS1]
        exact bf_m32 (S - 1) o
      refine pk_le P i (fun z => absurd z (by omega)) (fun _ => ⟨pk_in (A * 32 + i) 128 (by omega) (bf_m32 A i), ⟨pk_in i 32 (by omega), ?_⟩⟩)
      rw [bf_m32 A i, nI_clamp (n := A * 32 + i) (by omega), a]
      refine bf_st ((S - 1) * 32 + o) ex (by omega) (by decide) (bf_st i rfl (by omega) (by decide) (nm_r (nI_1 i) ?_))
      rw [nI_clamp (by omega)]
      refine ih (i + 1) _ _ (by omega) (fun r q hr hq => ?_) (fun j q hj hq ej => ?_) (fun j hj => ?_) (fun j hj => ?_)
      · rw [pk_un (by omega)]
        exact h1 r q hr hq
      · by_cases e : j = i
        · rw [e] at ej ⊢
          rw [a] at ej
          have := bf_inj ej (by omega) (by omega)
          rw [this, pk_us]
          exact h4 i (Nat.le_refl i)
        · have : q ≠ o := by
            intro eq
            rw [eq] at ej
            exact e (hJ j i (by omega) hiP (ej.trans a.symm))
          rw [pk_un (by omega)]
          exact h2 j q (by omega) hq ej
      · by_cases e : j = i
        · rw [e, pk_us]
        · rw [pk_un e]
          exact h3 j (by omega)
      · rw [pk_un (by omega)]
        exact h4 j (by omega)
  have keyB : ∀ (J : Int32 → (Nat → Int32) → (Nat → Int32) → (Nat → Int32) → (Nat → Int32) → Prop) (k : Nat), 1 ≤ k → k < S →
      (∀ w, yf_TI P wa (k + 1) 0 w → J (nI (k + 1)) d se ce w) →
      ∀ m o w, o + m = P → yf_TI P wa k o w → wY_tick_12 post J (nI k) (nI P) (nI S) (nI T) (nI A) (m + 1) (nI o) d se ce w := by
    intro J k hk1 hk hJ2 m
    induction m with
    | zero =>
      intro o w ho hw
      have e1 : o = P := by omega
      subst e1
      exact pk_le o o (fun _ => nm_r (nI_1 k) (hJ2 w (yf_TI_n hk1 hw))) (fun z => absurd z (by omega))
    | succ m ih =>
      intro o w ho hw
      have hoP : o < P := by omega
      have ex : (nI k - 1) * 32 + nI o = nI ((k - 1) * 32 + o) := by
        rw [show nI k - 1 = nI (k - 1) from pk_sub (b := 1) hk1]
        exact bf_m32 (k - 1) o
      refine pk_le P o (fun z => absurd z (by omega)) (fun _ => ⟨pk_in (k * 32 + o) 288 (by omega) (bf_m32 k o), bf_st ((k - 1) * 32 + o) ex (by omega) (by decide) (nm_r (nI_1 o) ?_)⟩)
      rw [bf_m32 k o, nI_clamp (by omega)]
      exact ih (o + 1) _ (by omega) (yf_TI_s hP hk1 hoP hw)
  have keyA : ∀ m k w, k + m = S → 1 ≤ k → yf_TI P wa k 0 w → wY_tick_2 post (nI P) (nI S) (nI T) (nI A) (m + 1) (nI k) d se ce w := by
    intro m
    induction m with
    | zero =>
      intro k w hk hk1 hw
      have e1 : k = S := by omega
      subst e1
      exact pk_le k k (fun _ => ⟨P + 1, keyC P 0 w ce (by omega) (fun r o hr ho => by rw [hw r o ho, if_pos (Or.inl hr)]) (fun j o hj => absurd hj (by omega)) (fun j hj => absurd hj (by omega)) (fun j _ => rfl)⟩) (fun z => absurd z (by omega))
    | succ m ih =>
      intro k w hk hk1 hw
      exact pk_le S k (fun z => absurd z (by omega)) (fun _ => ⟨P + 1, keyB _ k hk1 (by omega) (fun w' hw' => ih (k + 1) w' (by omega) (by omega) hw') P 0 w (by omega) hw⟩)
  unfold wpY_tick
  dsimp only
  exact ⟨S, by
    obtain ⟨r, rfl⟩ : ∃ r, S = r + 1 := ⟨S - 1, by omega⟩
    exact keyA r 1 wa (by omega) (by omega) (fun r c _ => by rw [if_neg (by omega)])⟩
theorem yf_fill {post : Int32 → SY → Prop} {mu ad : Int32} {dO dI : Nat → Int32} (hP : P ≤ 32) (hL : ∃ L, P = 2 ^ L) (D : bf_D P dO dI d)
    (h : ∀ a, (∀ i, i < P → a i = (bf_fz P mu ad dO dI P).1 i) → post (nI (bf_fz P mu ad dO dI P).2.2) (nI P, nI S, nI T, nI A, a, se, ce, wa)) : wpY_fill post (nI P, nI S, nI T, nI A, d, se, ce, wa) mu ad := by
  have key : ∀ m i a, i + m = P → (∀ j, j < P → a j = (bf_fz P mu ad dO dI i).1 j) → wY_fill_5 post mu ad (nI P) (nI S) (nI T) (nI A) (m + 1) (nI (bf_fz P mu ad dO dI i).2.2) (nI i) a se ce wa := by
    intro m
    induction m with
    | zero =>
      intro i a hi ha
      have e1 : i = P := by omega
      subst e1
      exact pk_le i i (fun _ => h a ha) (fun z => absurd z (by omega))
    | succ m ih =>
      intro i a hi ha
      have hiP : i < P := by omega
      have t := fun a' => ih (i + 1) a' (by omega)
      have ho : bf_out P mu ad i < P := bf_out_lt hL
      have pd := bf_fz_pd (mu := mu) (ad := ad) hP hL D.1 i (by omega)
      refine pk_le P i (fun z => absurd z (by omega)) (fun _ => nm_r (bf_out_e hP hL) ⟨pk_in i 32 (by omega), ?_⟩)
      rw [nI_clamp (n := i) (by omega)]
      by_cases h1 : (bf_fz P mu ad dO dI i).1 i = -1
      · refine br_f (by rw [ha i hiP, h1]; decide) ?_
        by_cases h2 : (bf_fz P mu ad dO dI i).2.1 (bf_out P mu ad i) = -1
        · rw [bf_fz_t h1 h2] at t
          refine yf_has hP (fun ⟨j, hj, ej⟩ => ?_) (fun _ => br_t rfl ⟨pk_in i 32 (by omega), nm_e (nm_r (nI_1 _) (nm_r (nI_1 i) (t _ (bf_eq_u ha))))⟩)
          rw [ha j hj] at ej
          have := bf_PD_o pd hP hj ho ej
          rw [h2] at this
          exact absurd this.symm (bf_ne1 (by omega))
        · rw [bf_fz_f (fun z => h2 z.2)] at t
          refine yf_has hP (fun _ => br_f (by decide) (nm_r (nI_1 i) (t _ ha))) (fun hno => ?_)
          rcases pd.2.1 _ ho with z | ⟨j, hj, a1, a2⟩
          · exact absurd z h2
          · exact absurd ((ha j hj).trans a2) (hno j hj)
      · rw [bf_fz_f (fun z => h1 z.1)] at t
        refine br_t ?_ (nm_r (nI_1 i) (t _ ha))
        rw [ha i hiP]
        exact (bf_vl_le (bf_PD_v pd hP hiP)).mpr h1
  exact ⟨P + 1, key P 0 d (by omega) D.2⟩
end BY3
end
section
/-! the two counts of info that the reference makes by its own loops; the class's flight count -/
section BI
variable {P S T A : Nat} {d se ce wa dO dI sO sI lc wv : Nat → Int32}
theorem yf_cells {post : Int32 → Prop} (hP : P ≤ 32) (hV : ∀ i, i < P → bf_Vl (ce i)) (h : post (nI (bf_cn ce P))) : ∃ n, wY_info_58 post (nI P) (nI S) (nI T) (nI A) d se ce wa n 0 0 := by
  have key : ∀ m i, i + m = P → wY_info_58 post (nI P) (nI S) (nI T) (nI A) d se ce wa (m + 1) (nI (bf_cn ce i)) (nI i) := by
    intro m
    induction m with
    | zero =>
      intro i hi
      have e : i = P := by omega
      subst e
      exact pk_le i i (fun _ => h) (fun z => absurd z (by omega))
    | succ m ih =>
      intro i hi
      have t := ih (i + 1) (by omega)
      refine pk_le P i (fun z => absurd z (by omega)) (fun _ => ⟨pk_in i 32 (by omega), ?_⟩)
      rw [nI_clamp (by omega)]
      by_cases e : ce i = -1
      · rw [bf_cn_t e] at t
        exact br_t ((bf_vl_lt (hV i (by omega))).mpr e) (nm_r (Int32.add_zero _) (nm_r (nI_1 i) t))
      · rw [bf_cn_f e] at t
        exact br_f (fun z => e ((bf_vl_lt (hV i (by omega))).mp z)) (nm_r (nI_1 _) (nm_r (nI_1 i) t))
  exact ⟨P + 1, key P 0 (by omega)⟩
theorem bf_row {F : Nat → Int32} {P k : Nat} (hk : 1 ≤ k) : bf_cn (fun j => F (P + j)) (k * P) = bf_cn (fun j => F (P + j)) ((k - 1) * P) + bf_cn (fun o => F (k * P + o)) P := by
  obtain ⟨r, rfl⟩ : ∃ r, k = r + 1 := ⟨k - 1, by omega⟩
  rw [Nat.add_sub_cancel, Nat.add_mul, Nat.one_mul, bf_cn_add]
  refine congrArg _ (bf_cn_cg P (fun j _ => ?_))
  show F (P + (r * P + j)) = F (r * P + P + j)
  exact congrArg F (by omega)
theorem yf_flight {post : Int32 → Prop} (hP : P ≤ 32) (hS1 : 1 ≤ S) (hS : S ≤ 9) (W : bf_W P S wv wa) (h : post (nI (bf_cn (fun j => wv (P + j)) ((S - 1) * P)))) : ∃ n, wY_info_99 post (nI P) (nI S) (nI T) (nI A) d se ce wa n 0 1 := by
  have key : ∀ m k, k + m = S → 1 ≤ k → wY_info_99 post (nI P) (nI S) (nI T) (nI A) d se ce wa (m + 1) (nI (bf_cn (fun j => wv (P + j)) ((k - 1) * P))) (nI k) := by
    intro m
    induction m with
    | zero =>
      intro k hk hk1
      have e : k = S := by omega
      subst e
      exact pk_le k k (fun _ => h) (fun z => absurd z (by omega))
    | succ m ih =>
      intro k hk hk1
      have t := ih (k + 1) (by omega) (by omega)
      rw [Nat.add_sub_cancel, bf_row hk1, ← bf_cn_cg (f := fun o => wa (k * 32 + o)) (g := fun o => wv (k * P + o)) P (fun o ho => (W k (by omega) o ho).1)] at t
      exact pk_le S k (fun z => absurd z (by omega)) (fun _ => yf_countWave hP (by omega) (fun o ho => by
        have w := W k (by omega) o ho
        rw [w.1]
        exact w.2) (nm_r (nI_add _ _) (nm_r (nI_1 k) t)))
  obtain ⟨r, rfl⟩ : ∃ r, S = r + 1 := ⟨S - 1, by omega⟩
  have z := key r 1 (by omega) (by omega)
  have e0 : (1 - 1) * P = 0 := Nat.zero_mul P
  rw [e0] at z
  exact ⟨r + 1, z⟩
theorem xf_flight {post : Int32 → Prop} (hP : P ≤ 32) (hS1 : 1 ≤ S) (hS : S ≤ 9) (h : post (nI (bf_cn (fun j => wv (P + j)) ((S - 1) * P)))) : wpX_countHeld__waveCells post (nI P, nI S, nI T, nI A, dO, dI, sO, sI, lc, wv) (nI P) (nI S * nI P) := by
  have e : S * P = (S - 1) * P + P := by
    obtain ⟨r, rfl⟩ : ∃ r, S = r + 1 := ⟨S - 1, by omega⟩
    rw [Nat.add_mul, Nat.one_mul, Nat.add_sub_cancel]
  have hb : S * P ≤ 9 * 32 := Nat.mul_le_mul hS hP
  rw [pk_mul]
  refine xf_cnt_w (by omega) (by omega) ?_
  rw [show S * P - P = (S - 1) * P by omega]
  exact h
end BI
end
section
/-! the constructors -/
def bf_cl (x : Int32) (M : Nat) : Nat := if 1 ≤ x then (if x ≤ nI M then x.toNatClampNeg else M) else 1
theorem bf_cl_c (x : Int32) {M : Nat} (hM : M < 2 ^ 31) (hM1 : 1 ≤ M) : (1 ≤ bf_cl x M ∧ bf_cl x M ≤ M) ∧ ((1 ≤ x ∧ x ≤ nI M ∧ x = nI (bf_cl x M)) ∨ (1 ≤ x ∧ ¬ x ≤ nI M ∧ bf_cl x M = M) ∨ (¬ 1 ≤ x ∧ bf_cl x M = 1)) := by
  by_cases h : 1 ≤ x
  · by_cases h2 : x ≤ nI M
    · have h0 : ¬ x < 0 := fun z => absurd (Int32.lt_of_le_of_lt h z) (by decide)
      obtain ⟨j, hj, rfl⟩ := nI_of h0
      have e : bf_cl (nI j) M = j := by
        unfold bf_cl
        rw [if_pos h, if_pos h2, nI_clamp hj]
      have h' : nI 1 ≤ nI j := h
      rw [nI_leI (by omega) hj] at h'
      have h2' := h2
      rw [nI_leI hj hM] at h2'
      rw [e]
      exact ⟨⟨h', h2'⟩, Or.inl ⟨h, h2, rfl⟩⟩
    · have e : bf_cl x M = M := by
        unfold bf_cl
        rw [if_pos h, if_neg h2]
      rw [e]
      exact ⟨⟨hM1, Nat.le_refl M⟩, Or.inr (Or.inl ⟨h, h2, rfl⟩)⟩
  · have e : bf_cl x M = 1 := by
      unfold bf_cl
      rw [if_neg h]
    rw [e]
    exact ⟨⟨Nat.le_refl 1, hM1⟩, Or.inr (Or.inr ⟨h, rfl⟩)⟩
theorem bf_at {Q : Int32 → Prop} {x y : Int32} (e : x = y) (h : Q y) : Q x := by rw [e]; exact h
theorem xf_clamp {post : Int32 → Prop} {x : Int32} (M : Nat) (hM : M < 2 ^ 31) (hM1 : 1 ≤ M) (h : post (nI (bf_cl x M))) : wpX_clampFromOne post x (nI M) := by
  rcases (bf_cl_c x hM hM1).2 with ⟨a, b, c⟩ | ⟨a, b, c⟩ | ⟨a, c⟩
  · exact br_t a (br_t b (bf_at c h))
  · rw [c] at h
    exact br_t a (br_f b h)
  · rw [c] at h
    exact br_f a h
theorem bf_shl {L : Nat} (h1 : 1 ≤ L) (h5 : L ≤ 5) : (1 : Int32) <<< (nI L &&& 31) = nI (2 ^ L) := by
  rcases (by omega : L = 1 ∨ L = 2 ∨ L = 3 ∨ L = 4 ∨ L = 5) with rfl | rfl | rfl | rfl | rfl <;> decide
theorem bf_2l {L : Nat} (h1 : 1 ≤ L) : (2 : Int32) * nI L - 1 = nI (2 * L - 1) := by
  rw [show (2 : Int32) * nI L = nI (2 * L) from pk_mul 2 L]
  exact pk_sub (b := 1) (by omega)
theorem bf_H0 {L T : Nat} (h1 : 1 ≤ L) (h5 : L ≤ 5) (t1 : 1 ≤ T) (t4 : T ≤ 4) : bf_H (2 ^ L) (2 * L - 1) T 0 := by
  refine ⟨?_, ?_, by omega, by omega, t1, t4, by omega, L, rfl⟩
  · exact Nat.pow_le_pow_right (n := 2) (by omega) h1
  · have z : 2 ^ L ≤ 2 ^ 5 := Nat.pow_le_pow_right (by omega) h5
    exact z
theorem bf_a31 {i : Nat} (h : i < 128) : nI i &&& 31 = nI (i % 32) := by
  rw [pk_and (nI i) (m := 31) 5 (by decide), pk_tn (by omega)]
section BN
variable {post : SY → Prop}
theorem yf_166 {fp fs ft fa : Int32} {d se ce : Nat → Int32} (wa : Nat → Int32) (h : ∀ w, (∀ i, i < 288 → w i = -1) → post (fp, fs, ft, fa, d, se, ce, w)) : ∃ n, wY_init_166 post fp fs ft fa n 0 d se ce wa :=
  pk_loop (fun n i s => wY_init_166 post fp fs ft fa n (nI i) d se ce s) (fun i s => ∀ j, j < i → s j = -1) 288 0 wa (by omega) (fun j hj => absurd hj (by omega))
    (fun n s hs => pk_le 288 288 (fun _ => h s hs) (fun z => absurd z (by omega)))
    (fun n i s hi hs hw => pk_le 288 i (fun z => absurd z (by omega)) (fun _ => bf_st i rfl (by omega) (by decide) (nm_r (nI_1 i) (hw _ (bf_fl (f := fun _ => -1) hs rfl)))))
theorem yf_137 {fp fs ft fa : Int32} {d ce : Nat → Int32} (se wa : Nat → Int32) (h : ∀ e w, (∀ i, i < 128 → e i = nI (i % 32)) → (∀ i, i < 288 → w i = -1) → post (fp, fs, ft, fa, d, e, ce, w)) : ∃ n, wY_init_137 post fp fs ft fa n 0 d se ce wa :=
  pk_loop (fun n i s => wY_init_137 post fp fs ft fa n (nI i) d s ce wa) (fun i s => ∀ j, j < i → s j = nI (j % 32)) 128 0 se (by omega) (fun j hj => absurd hj (by omega))
    (fun n s hs => pk_le 128 128 (fun _ => yf_166 wa (fun w hw => h s w hs hw)) (fun z => absurd z (by omega)))
    (fun n i s hi hs hw => pk_le 128 i (fun z => absurd z (by omega)) (fun _ => bf_st i rfl (by omega) (by decide) (nm_r (nI_1 i) (hw _ (bf_fl (f := fun j => nI (j % 32)) hs (bf_a31 hi))))))
theorem yf_105 {fp fs ft fa : Int32} (d se ce wa : Nat → Int32) (h : ∀ a e c w, (∀ i, i < 32 → a i = -1) → (∀ i, i < 128 → e i = nI (i % 32)) → (∀ i, i < 32 → c i = -1) → (∀ i, i < 288 → w i = -1) → post (fp, fs, ft, fa, a, e, c, w)) : ∃ n, wY_init_105 post fp fs ft fa n 0 d se ce wa :=
  pk_loop (fun n i s => wY_init_105 post fp fs ft fa n (nI i) s.1 se s.2 wa) (fun i s => (∀ j, j < i → s.1 j = -1) ∧ (∀ j, j < i → s.2 j = -1)) 32 0 (d, ce) (by omega) ⟨fun j hj => absurd hj (by omega), fun j hj => absurd hj (by omega)⟩
    (fun n s hs => pk_le 32 32 (fun _ => yf_137 se wa (fun e w he hw => h s.1 e s.2 w hs.1 he hs.2 hw)) (fun z => absurd z (by omega)))
    (fun n i s hi hs hw => pk_le 32 i (fun z => absurd z (by omega)) (fun _ => bf_st i rfl (by omega) (by decide) (bf_st i rfl (by omega) (by decide) (nm_r (nI_1 i) (hw (_, _) ⟨bf_fl (f := fun _ => -1) hs.1 rfl, bf_fl (f := fun _ => -1) hs.2 rfl⟩)))))
theorem yf_78 {L T : Nat} {f1 f2 f3 f4 : Int32} (d se ce wa : Nat → Int32) (h1 : 1 ≤ L) (h5 : L ≤ 5) (h : ∀ a e c w, (∀ i, i < 32 → a i = -1) → (∀ i, i < 128 → e i = nI (i % 32)) → (∀ i, i < 32 → c i = -1) → (∀ i, i < 288 → w i = -1) → post (nI (2 ^ L), nI (2 * L - 1), nI T, nI 0, a, e, c, w)) : wY_init_78 post (nI L) (nI T) f1 f2 f3 f4 d se ce wa :=
  nm_r (bf_shl h1 h5) (nm_r (bf_2l h1) (yf_105 d se ce wa h))
theorem yf_57 {L : Nat} {y : Int32} {f1 f2 f3 f4 : Int32} (d se ce wa : Nat → Int32) (h1 : 1 ≤ L) (h5 : L ≤ 5) (h : ∀ a e c w, (∀ i, i < 32 → a i = -1) → (∀ i, i < 128 → e i = nI (i % 32)) → (∀ i, i < 32 → c i = -1) → (∀ i, i < 288 → w i = -1) → post (nI (2 ^ L), nI (2 * L - 1), nI (bf_cl y 4), nI 0, a, e, c, w)) : wY_init_57 post y (nI L) f1 f2 f3 f4 d se ce wa := by
  have z := yf_78 (f1 := f1) (f2 := f2) (f3 := f3) (f4 := f4) d se ce wa h1 h5 h
  rcases (bf_cl_c y (M := 4) (by decide) (by decide)).2 with ⟨a, b, c⟩ | ⟨a, b, c⟩ | ⟨a, c⟩
  · refine br_t a (br_t b ?_)
    exact bf_at (Q := fun t => wY_init_78 post (nI L) t f1 f2 f3 f4 d se ce wa) c z
  · rw [c] at z
    exact br_t a (br_f b z)
  · rw [c] at z
    exact br_f a z
theorem yf_init {x y : Int32} (h : ∀ a e c w, (∀ i, i < 32 → a i = -1) → (∀ i, i < 128 → e i = nI (i % 32)) → (∀ i, i < 32 → c i = -1) → (∀ i, i < 288 → w i = -1) → post (nI (2 ^ bf_cl x 5), nI (2 * bf_cl x 5 - 1), nI (bf_cl y 4), nI 0, a, e, c, w)) : wpY_init post x y := by
  have r := bf_cl_c x (M := 5) (by decide) (by decide)
  have z := yf_57 (post := post) (y := y) (f1 := 0) (f2 := 0) (f3 := 0) (f4 := 0) (fun _ => 0) (fun _ => 0) (fun _ => 0) (fun _ => 0) r.1.1 r.1.2 h
  rcases r.2 with ⟨a, b, c⟩ | ⟨a, b, c⟩ | ⟨a, c⟩
  · refine br_t a (br_t b ?_)
    exact bf_at (Q := fun t => wY_init_57 post y t 0 0 0 0 (fun _ => 0) (fun _ => 0) (fun _ => 0) (fun _ => 0)) c z
  · rw [c] at z
    exact br_t a (br_f b z)
  · rw [c] at z
    exact br_f a z
end BN
theorem xf_init {post : SX → Prop} {x y : Int32} {P S T : Nat} (hP' : P = 2 ^ bf_cl x 5) (hS' : S = 2 * bf_cl x 5 - 1) (hT' : T = bf_cl y 4)
    (h : ∀ a b c e l w, (∀ i, i < P → a i = -1) → (∀ i, i < P → b i = -1) → (∀ t, t < T → bf_PM P c e (t * P) ∧ ∀ i, i < P → c (t * P + i) = nI i) → (∀ i, i < P → l i = -1) → (∀ i, i < S * P → w i = -1) → post (nI P, nI S, nI T, nI 0, a, b, c, e, l, w)) : wpX_init post x y := by
  have rx := (bf_cl_c x (M := 5) (by decide) (by decide)).1
  have ry := (bf_cl_c y (M := 4) (by decide) (by decide)).1
  have H := bf_H0 rx.1 rx.2 ry.1 ry.2
  rw [← hP', ← hS', ← hT'] at H
  have hP : P ≤ 32 := H.2.1
  have hS : S ≤ 9 := H.2.2.2.1
  have hT : T ≤ 4 := H.2.2.2.2.2.1
  have key : ∀ a b l w, (∀ i, i < P → a i = -1) → (∀ i, i < P → b i = -1) → (∀ i, i < P → l i = -1) → (∀ i, i < S * P → w i = -1) →
      ∀ m s c e, s + m = T → (∀ t, t < s → bf_PM P c e (t * P) ∧ ∀ i, i < P → c (t * P + i) = nI i) → wX_init_106 post (m + 1) (nI s) (nI P) (nI S) (nI T) (nI 0) a b c e l w := by
    intro a b l w ha hb hl hw m
    induction m with
    | zero =>
      intro s c e hs hc
      have e1 : s = T := by omega
      subst e1
      exact pk_le s s (fun _ => h a b c e l w ha hb hc hl hw) (fun z => absurd z (by omega))
    | succ m ih =>
      intro s c e hs hc
      refine pk_le T s (fun z => absurd z (by omega)) (fun _ => xf_store hP hT (by omega) (bf_PD_nil ha hb) (fun c' e' hc' hf => nm_r (nI_1 s) (ih (s + 1) c' e' (by omega) (fun t ht => ?_))))
      by_cases et : t = s
      · subst et
        exact ⟨hc'.1, fun i hi => bf_CH_id hP hc' ha hb P i hi hi⟩
      · refine ⟨bf_PM_cg (hc t (by omega)).1 (fun x h1 h2 => hf x (bf_apart et h1 h2)), fun i hi => ?_⟩
        rw [(hf (t * P + i) (bf_apart et (by omega) (by omega))).1]
        exact (hc t (by omega)).2 i hi
  unfold wpX_init
  refine xf_clamp 5 (by decide) (by decide) (nm_r (e' := nI P) (by rw [hP']; exact bf_shl rx.1 rx.2) (nm_r (e' := nI S) (by rw [hS']; exact bf_2l rx.1) (xf_clamp 4 (by decide) (by decide) ?_)))
  rw [← hT']
  refine xf_emptyDraft (A := 0) hP (fun a b ha hb => xf_emptyLatch (A := 0) hP (fun l hl => xf_emptyWaves (A := 0) hP hS (fun w hw => ?_)))
  exact ⟨T + 1, key a b l w ha hb hl hw T 0 _ _ (by omega) (fun t ht => absurd ht (by omega))⟩
end
section
/-! the owed statements -/
theorem i_up {k : Nat} {u : SX} {v : SY} (h : i_Rel k u v) : i_Rel (k + 3) u v := h
theorem i_vc_request {k : Nat} {u : SX} {v : SY} (I : i_Rel k u v) (hk : k + 3 ≤ 1538) (v1 : Int32) (v2 : Int32) : wpX_request (fun r u' => wpY_request (fun r' v' => r' = r ∧ i_Rel (k + 3) u' v') v v1 v2) u v1 v2 := by
  obtain ⟨P, S, T, A, dO, dI, sO, sI, lc, wv, d, se, ce, wa, rfl, rfl, H, D, Z, L, W⟩ := I
  have hP : P ≤ 32 := H.2.1
  rcases bf_pt v1 (n := P) (by omega) with hn | ⟨i, hi, rfl⟩
  · exact xf_rq1 hn (yf_rq1 hn ⟨rfl, bf_mk H D Z L W⟩)
  rcases bf_pt v2 (n := P) (by omega) with hn | ⟨o, ho, rfl⟩
  · exact xf_rq2 hP hi hn (yf_rq2 hP hi hn ⟨rfl, bf_mk H D Z L W⟩)
  have e := D.2 i hi
  by_cases h1 : dO i = -1
  · by_cases h2 : dI o = -1
    · refine xf_rq5 hP hi ho h1 h2 (yf_rq5 hP hi ho (e.trans h1) (fun j hj e2 => ?_) ⟨rfl, bf_mk H ⟨bf_PD_add D.1 hP hi ho h1 h2, bf_eq_u D.2⟩ Z L W⟩)
      rw [D.2 j hj] at e2
      have := bf_PD_o D.1 hP hj ho e2
      rw [h2] at this
      exact bf_ne1 (by omega) this.symm
    · rcases D.1.2.1 o ho with a | ⟨j, hj, a, c⟩
      · exact absurd a h2
      · exact xf_rq4 hP hi ho h1 h2 (yf_rq4 hP hi ho (e.trans h1) ⟨j, hj, (D.2 j hj).trans c⟩ ⟨rfl, bf_mk H D Z L W⟩)
  · exact xf_rq3 hP hi ho h1 (yf_rq3 hP hi ho (by rw [e]; exact bf_PD_v D.1 hP hi) (by rw [e]; exact h1) ⟨rfl, bf_mk H D Z L W⟩)
theorem i_vc_withdraw {k : Nat} {u : SX} {v : SY} (I : i_Rel k u v) (hk : k + 3 ≤ 1538) (v1 : Int32) : wpX_withdraw (fun r u' => wpY_withdraw (fun r' v' => r' = r ∧ i_Rel (k + 3) u' v') v v1) u v1 := by
  obtain ⟨P, S, T, A, dO, dI, sO, sI, lc, wv, d, se, ce, wa, rfl, rfl, H, D, Z, L, W⟩ := I
  have hP : P ≤ 32 := H.2.1
  rcases bf_pt v1 (n := P) (by omega) with hn | ⟨i, hi, rfl⟩
  · exact xf_wd1 hn (yf_wd1 hn ⟨rfl, bf_mk H D Z L W⟩)
  rcases D.1.1 i hi with a | ⟨o, ho, a, c⟩
  · exact xf_wd2 hP hi a (yf_wd2 hP hi ((D.2 i hi).trans a) ⟨rfl, bf_mk H D Z L W⟩)
  · exact xf_wd3 hP hi ho a (yf_wd3 hP hi ho ((D.2 i hi).trans a) ⟨rfl, bf_mk H ⟨bf_PD_del D.1 hP hi ho a c, bf_eq_u D.2⟩ Z L W⟩)
theorem i_vc_clear {k : Nat} {u : SX} {v : SY} (I : i_Rel k u v) (hk : k + 3 ≤ 1538) : wpX_clear (fun r u' => wpY_clear (fun r' v' => r' = r ∧ i_Rel (k + 3) u' v') v) u := by
  obtain ⟨P, S, T, A, dO, dI, sO, sI, lc, wv, d, se, ce, wa, rfl, rfl, H, D, Z, L, W⟩ := I
  have hP : P ≤ 32 := H.2.1
  exact xf_clear hP (fun a b ha hb => yf_clear hP (bf_D_v hP D) (fun d' hd' => ⟨congrArg nI (bf_cn_cg P D.2), bf_mk H ⟨bf_PD_nil ha hb, fun i hi => (hd' i hi).trans (ha i hi).symm⟩ Z L W⟩))
theorem i_vc_fill {k : Nat} {u : SX} {v : SY} (I : i_Rel k u v) (hk : k + 3 ≤ 1538) (v1 : Int32) (v2 : Int32) : wpX_fill (fun r u' => wpY_fill (fun r' v' => r' = r ∧ i_Rel (k + 3) u' v') v v1 v2) u v1 v2 := by
  obtain ⟨P, S, T, A, dO, dI, sO, sI, lc, wv, d, se, ce, wa, rfl, rfl, H, D, Z, L, W⟩ := I
  have hP : P ≤ 32 := H.2.1
  have hL := H.2.2.2.2.2.2.2
  exact xf_fill hP hL (yf_fill hP hL D (fun d' hd' => ⟨rfl, bf_mk H ⟨bf_fz_pd hP hL D.1 P (Nat.le_refl P), hd'⟩ Z L W⟩))
theorem i_vc_set {k : Nat} {u : SX} {v : SY} (I : i_Rel k u v) (hk : k + 3 ≤ 1538) (v1 : Int32) : wpX_set (fun r u' => wpY_set (fun r' v' => r' = r ∧ i_Rel (k + 3) u' v') v v1) u v1 := by
  obtain ⟨P, S, T, A, dO, dI, sO, sI, lc, wv, d, se, ce, wa, rfl, rfl, H, D, Z, L, W⟩ := I
  have hP : P ≤ 32 := H.2.1
  have hT : T ≤ 4 := H.2.2.2.2.2.1
  rcases bf_pt v1 (n := T) (by omega) with hn | ⟨s, hs, rfl⟩
  · exact xf_set0 hn (yf_set0 hn ⟨rfl, bf_mk H D Z L W⟩)
  · exact xf_set hP hT hs D.1 (fun sO' sI' hc hf => yf_set hP hT hs D hc (fun se' he hg => ⟨by rw [bf_cn_cg P D.2], bf_mk H D (bf_S_set hs Z hc.1 hf he hg hP) L W⟩))
theorem i_vc_load {k : Nat} {u : SX} {v : SY} (I : i_Rel k u v) (hk : k + 3 ≤ 1538) (v1 : Int32) : wpX_load (fun r u' => wpY_load (fun r' v' => r' = r ∧ i_Rel (k + 3) u' v') v v1) u v1 := by
  obtain ⟨P, S, T, A, dO, dI, sO, sI, lc, wv, d, se, ce, wa, rfl, rfl, H, D, Z, L, W⟩ := I
  have hP : P ≤ 32 := H.2.1
  have hT : T ≤ 4 := H.2.2.2.2.2.1
  rcases bf_pt v1 (n := T) (by omega) with hn | ⟨s, hs, rfl⟩
  · exact xf_load0 hn (yf_load0 hn ⟨rfl, bf_mk H D Z L W⟩)
  · exact xf_load hP hT hs (fun a b ha hb => yf_load hP hT hs (fun d' hd' => ⟨rfl, bf_mk H ⟨bf_PD_ld (Z s hs).1 hP ha hb, fun i hi => by rw [hd' i hi, ha i hi]; exact (Z s hs).2 i hi⟩ Z L W⟩))
theorem i_vc_select {k : Nat} {u : SX} {v : SY} (I : i_Rel k u v) (hk : k + 3 ≤ 1538) (v1 : Int32) : wpX_select (fun r u' => wpY_select (fun r' v' => r' = r ∧ i_Rel (k + 3) u' v') v v1) u v1 := by
  obtain ⟨P, S, T, A, dO, dI, sO, sI, lc, wv, d, se, ce, wa, rfl, rfl, H, D, Z, L, W⟩ := I
  have hP : P ≤ 32 := H.2.1
  have hT : T ≤ 4 := H.2.2.2.2.2.1
  rcases bf_pt v1 (n := T) (by omega) with hn | ⟨s, hs, rfl⟩
  · exact xf_select0 hn (yf_select0 hn ⟨rfl, bf_mk H D Z L W⟩)
  · exact xf_select hT hs (yf_select hT hs ⟨rfl, bf_mk ⟨H.1, H.2.1, H.2.2.1, H.2.2.2.1, H.2.2.2.2.1, H.2.2.2.2.2.1, hs, H.2.2.2.2.2.2.2⟩ D Z L W⟩)
theorem i_vc_route {k : Nat} {u : SX} {v : SY} (I : i_Rel k u v) (hk : k + 3 ≤ 1538) (v1 : Int32) (v2 : Int32) : wpX_route (fun r => wpY_route (fun r' => r' = r ∧ i_Rel (k + 3) u v) v v1 v2) u v1 v2 := by
  have I' : i_Rel (k + 3) u v := I
  obtain ⟨P, S, T, A, dO, dI, sO, sI, lc, wv, d, se, ce, wa, rfl, rfl, H, D, Z, L, W⟩ := I
  have hP : P ≤ 32 := H.2.1
  have hT : T ≤ 4 := H.2.2.2.2.2.1
  rcases bf_pt v1 (n := T) (by omega) with hn | ⟨s, hs, rfl⟩
  · exact xf_route1 hn (yf_route1 hn ⟨rfl, I'⟩)
  rcases bf_pt v2 (n := P) (by omega) with hn | ⟨i, hi, rfl⟩
  · exact xf_route2 hT hs hn (yf_route2 hT hs hn ⟨rfl, I'⟩)
  · exact xf_route hP hT hs hi (yf_route hP hT hs hi ⟨(Z s hs).2 i hi, I'⟩)
theorem i_vc_source {k : Nat} {u : SX} {v : SY} (I : i_Rel k u v) (hk : k + 3 ≤ 1538) (v1 : Int32) (v2 : Int32) : wpX_source (fun r => wpY_source (fun r' => r' = r ∧ i_Rel (k + 3) u v) v v1 v2) u v1 v2 := by
  have I' : i_Rel (k + 3) u v := I
  obtain ⟨P, S, T, A, dO, dI, sO, sI, lc, wv, d, se, ce, wa, rfl, rfl, H, D, Z, L, W⟩ := I
  have hP : P ≤ 32 := H.2.1
  have hT : T ≤ 4 := H.2.2.2.2.2.1
  rcases bf_pt v1 (n := T) (by omega) with hn | ⟨s, hs, rfl⟩
  · exact xf_source1 hn (yf_source1 hn ⟨rfl, I'⟩)
  rcases bf_pt v2 (n := P) (by omega) with hn | ⟨o, ho, rfl⟩
  · exact xf_source2 hT hs hn (yf_source2 hT hs hn ⟨rfl, I'⟩)
  obtain ⟨i, hi, a, c⟩ := (Z s hs).1.2 o ho
  refine xf_source hP hT hs ho (yf_source hP hT hs ho (fun j hj e => ⟨?_, I'⟩) (fun hno => absurd (((Z s hs).2 i hi).trans c) (hno i hi)))
  rw [(Z s hs).2 j hj] at e
  rw [a, bf_PM_inj (Z s hs).1 hP hj hi (e.trans c.symm)]
theorem i_vc_latch {k : Nat} {u : SX} {v : SY} (I : i_Rel k u v) (hk : k + 3 ≤ 1538) (v1 : Int32) (v2 : Int32) : wpX_latch (fun r u' => wpY_latch (fun r' v' => r' = r ∧ i_Rel (k + 3) u' v') v v1 v2) u v1 v2 := by
  obtain ⟨P, S, T, A, dO, dI, sO, sI, lc, wv, d, se, ce, wa, rfl, rfl, H, D, Z, L, W⟩ := I
  have hP : P ≤ 32 := H.2.1
  rcases bf_pt v1 (n := P) (by omega) with hn | ⟨i, hi, rfl⟩
  · exact xf_latch1 hn (yf_latch1 hn ⟨rfl, bf_mk H D Z L W⟩)
  by_cases h0 : v2 < 0
  · exact xf_latch2 hP hi h0 (yf_latch2 hP hi h0 ⟨rfl, bf_mk H D Z L W⟩)
  obtain ⟨e, hv⟩ := L i hi
  by_cases h1 : lc i = -1
  · refine xf_latch4 hP hi h0 h1 (yf_latch4 hP hi h0 (e.trans h1) ⟨rfl, bf_mk H D Z (fun j hj => ?_) W⟩)
    by_cases ej : j = i
    · rw [ej, pk_us, pk_us]
      obtain ⟨m, hm, em⟩ := nI_of h0
      exact ⟨rfl, Or.inr ⟨m, hm, em⟩⟩
    · rw [pk_un ej, pk_un ej]
      exact L j hj
  · exact xf_latch3 hP hi h0 h1 (yf_latch3 hP hi h0 (by rw [e]; exact hv) (by rw [e]; exact h1) ⟨rfl, bf_mk H D Z L W⟩)
theorem i_vc_tick {k : Nat} {u : SX} {v : SY} (I : i_Rel k u v) (hk : k + 3 ≤ 1538) : wpX_tick (fun r u' => wpY_tick (fun r' v' => r' = r ∧ i_Rel (k + 3) u' v') v) u := by
  obtain ⟨P, S, T, A, dO, dI, sO, sI, lc, wv, d, se, ce, wa, rfl, rfl, H, D, Z, L, W⟩ := I
  have H' := H
  obtain ⟨hP2, hP, hS1, hS, hT1, hT, hA, _⟩ := H'
  have pm := (Z A hA).1
  refine xf_tick hP hS1 hS hT hA pm (fun wv' lc' X1 X2 X3 => ?_)
  have key : ∀ wa' : Nat → Int32, (∀ r o, r + 1 < S → o < P → wa' (r * 32 + o) = wa ((r + 1) * 32 + o)) → (∀ i o, i < P → o < P → se (A * 32 + i) = nI o → wa' ((S - 1) * 32 + o) = ce i) → bf_W P S wv' wa' :=
    fun wa' Y1 Y2 => bf_W_tick hP W L pm X1 X2 Y1 (fun i o hi ho e => Y2 i o hi ho (((Z A hA).2 i hi).trans e))
  have e0 : ∀ wa' : Nat → Int32, bf_W P S wv' wa' → ∀ o, o < P → wa' o = wv' o ∧ bf_Vl (wv' o) := fun wa' w o ho => by
    have := w 0 (by omega) o ho
    rw [Nat.zero_mul, Nat.zero_mul, Nat.zero_add] at this
    exact this
  refine yf_tick hP hS1 hS hT hA (fun i hi => ?_) (fun i j hi hj e => ?_) (fun wa' Y1 Y2 o ho => ?_) (fun wa' ce' Y1 Y2 Y3 => ⟨?_, bf_mk H D Z (fun i hi => ?_) (key wa' Y1 Y2)⟩)
  · obtain ⟨o, ho, a, _⟩ := pm.1 i hi
    exact ⟨o, ho, ((Z A hA).2 i hi).trans a⟩
  · rw [(Z A hA).2 i hi, (Z A hA).2 j hj] at e
    exact bf_PM_inj pm hP hi hj e
  · have := e0 wa' (key wa' Y1 Y2) o ho
    rw [this.1]
    exact this.2
  · exact congrArg nI (bf_cn_cg P (fun o ho => (e0 wa' (key wa' Y1 Y2) o ho).1))
  · rw [Y3 i hi, X3 i hi]
    exact ⟨rfl, bf_vl_1⟩
theorem i_vc_output {k : Nat} {u : SX} {v : SY} (I : i_Rel k u v) (hk : k + 3 ≤ 1538) (v1 : Int32) (v2 : Int32) : wpX_output (fun r => wpY_output (fun r' => r' = r ∧ i_Rel (k + 3) u v) v v1 v2) u v1 v2 := by
  have I' : i_Rel (k + 3) u v := I
  obtain ⟨P, S, T, A, dO, dI, sO, sI, lc, wv, d, se, ce, wa, rfl, rfl, H, D, Z, L, W⟩ := I
  have hP : P ≤ 32 := H.2.1
  have hS : S ≤ 9 := H.2.2.2.1
  rcases bf_pt v1 (n := P) (by omega) with hn | ⟨o, ho, rfl⟩
  · exact xf_output1 hn (yf_output1 hn ⟨rfl, I'⟩)
  rcases bf_pt v2 (n := S) (by omega) with hn | ⟨q, hq, rfl⟩
  · exact xf_output2 hP ho hn (yf_output2 hP ho hn ⟨rfl, I'⟩)
  · exact xf_output hP hS ho hq (yf_output hP hS ho hq ⟨(W q hq o ho).1, I'⟩)
theorem i_vc_drafted {k : Nat} {u : SX} {v : SY} (I : i_Rel k u v) (hk : k + 3 ≤ 1538) (v1 : Int32) : wpX_drafted (fun r => wpY_drafted (fun r' => r' = r ∧ i_Rel (k + 3) u v) v v1) u v1 := by
  have I' : i_Rel (k + 3) u v := I
  obtain ⟨P, S, T, A, dO, dI, sO, sI, lc, wv, d, se, ce, wa, rfl, rfl, H, D, Z, L, W⟩ := I
  have hP : P ≤ 32 := H.2.1
  rcases bf_pt v1 (n := P) (by omega) with hn | ⟨i, hi, rfl⟩
  · exact xf_drafted0 hn (yf_drafted0 hn ⟨rfl, I'⟩)
  · exact xf_drafted hP hi (yf_drafted hP hi ⟨D.2 i hi, I'⟩)
theorem i_vc_latched {k : Nat} {u : SX} {v : SY} (I : i_Rel k u v) (hk : k + 3 ≤ 1538) (v1 : Int32) : wpX_latched (fun r => wpY_latched (fun r' => r' = r ∧ i_Rel (k + 3) u v) v v1) u v1 := by
  have I' : i_Rel (k + 3) u v := I
  obtain ⟨P, S, T, A, dO, dI, sO, sI, lc, wv, d, se, ce, wa, rfl, rfl, H, D, Z, L, W⟩ := I
  have hP : P ≤ 32 := H.2.1
  rcases bf_pt v1 (n := P) (by omega) with hn | ⟨i, hi, rfl⟩
  · exact xf_latched0 hn (yf_latched0 hn ⟨rfl, I'⟩)
  · exact xf_latched hP hi (yf_latched hP hi ⟨(L i hi).1, I'⟩)
theorem i_vc0 (k0 : Int32) (k1 : Int32) : wpX_init (fun u => wpY_init (fun v => i_Rel 2 u v) k0 k1) k0 k1 := by
  have rx := (bf_cl_c k0 (M := 5) (by decide) (by decide)).1
  have ry := (bf_cl_c k1 (M := 4) (by decide) (by decide)).1
  have H := bf_H0 rx.1 rx.2 ry.1 ry.2
  refine xf_init (P := 2 ^ bf_cl k0 5) (S := 2 * bf_cl k0 5 - 1) (T := bf_cl k1 4) rfl rfl rfl (fun a b c e l w ha hb hc hl hw => yf_init (fun d se ce wa hd hse hce hwa => ?_))
  have hP := H.2.1
  have hS := H.2.2.2.1
  have hT := H.2.2.2.2.2.1
  revert H ha hb hc hl hw hP hS hT
  generalize 2 ^ bf_cl k0 5 = P
  generalize 2 * bf_cl k0 5 - 1 = S
  generalize bf_cl k1 4 = T
  intro H ha hb hc hl hw hP hS hT
  refine bf_mk H ⟨bf_PD_nil ha hb, fun i hi => by rw [hd i (by omega), ha i hi]⟩ (fun s hs => ⟨(hc s hs).1, fun i hi => ?_⟩) (fun i hi => ?_) (fun k hk o ho => ?_)
  · rw [(hc s hs).2 i hi, hse (s * 32 + i) (by omega)]
    exact congrArg nI (by omega)
  · rw [hce i (by omega), hl i hi]
    exact ⟨rfl, bf_vl_1⟩
  · rw [hwa (k * 32 + o) (by omega), hw (k * P + o) (bf_ix hk ho)]
    exact ⟨rfl, bf_vl_1⟩
theorem i_vc_info {k : Nat} {u : SX} {v : SY} (I : i_Rel k u v) (hk : k + 3 ≤ 1538) (v1 : Int32) : wpX_info (fun r => wpY_info (fun r' => r' = r ∧ i_Rel (k + 3) u v) v v1) u v1 := by
  have I' : i_Rel (k + 3) u v := I
  obtain ⟨P, S, T, A, dO, dI, sO, sI, lc, wv, d, se, ce, wa, rfl, rfl, H, D, Z, L, W⟩ := I
  obtain ⟨hP2, hP, hS1, hS, hT1, hT, hA, _⟩ := H
  by_cases c0 : v1 = 0
  · subst c0
    exact (br_f (by decide) (br_f (by decide) (br_t rfl (br_t rfl ⟨rfl, I'⟩))))
  by_cases c1 : v1 = 1
  · subst c1
    exact (br_f (by decide) (br_f (by decide) (br_f (by decide) (br_t rfl (br_f (by decide) (br_t rfl ⟨rfl, I'⟩))))))
  by_cases c2 : v1 = 2
  · subst c2
    exact (br_f (by decide) (br_f (by decide) (br_f (by decide) (br_f (by decide) (br_t rfl (br_f (by decide) (br_f (by decide) (br_t rfl ⟨rfl, I'⟩))))))))
  by_cases c3 : v1 = 3
  · subst c3
    exact (br_f (by decide) (br_f (by decide) (br_f (by decide) (br_f (by decide) (br_f (by decide) (br_t rfl (br_f (by decide) (br_f (by decide) (br_f (by decide) (br_t rfl ⟨rfl, I'⟩))))))))))
  by_cases c4 : v1 = 4
  · subst c4
    exact (br_f (by decide) (br_f (by decide) (br_f (by decide) (br_f (by decide) (br_f (by decide) (br_f (by decide) (br_t rfl (xf_cnt_d0 hP (br_f (by decide) (br_f (by decide) (br_f (by decide) (br_f (by decide) (br_t rfl (yf_countDraft hP (bf_D_v hP D) ⟨congrArg nI (bf_cn_cg P D.2), I'⟩))))))))))))))
  by_cases c5 : v1 = 5
  · subst c5
    exact (br_f (by decide) (br_f (by decide) (br_f (by decide) (br_f (by decide) (br_f (by decide) (br_f (by decide) (br_f (by decide) (br_t rfl (xf_cnt_l0 hP (br_f (by decide) (br_f (by decide) (br_f (by decide) (br_f (by decide) (br_f (by decide) (br_t rfl (yf_cells hP (fun i hi => by rw [(L i hi).1]; exact (L i hi).2) ⟨congrArg nI (bf_cn_cg P (fun i hi => (L i hi).1)), I'⟩))))))))))))))))
  by_cases c6 : v1 = 6
  · subst c6
    exact (br_f (by decide) (br_f (by decide) (br_f (by decide) (br_f (by decide) (br_f (by decide) (br_f (by decide) (br_f (by decide) (br_f (by decide) (br_t rfl (xf_flight hP hS1 hS (br_f (by decide) (br_f (by decide) (br_f (by decide) (br_f (by decide) (br_f (by decide) (br_f (by decide) (br_t rfl (yf_flight hP hS1 hS W ⟨rfl, I'⟩))))))))))))))))))
  exact br_c (fun _ => (br_f c0 (br_f c1 (br_f c2 (br_f c3 (br_f c4 (br_f c5 (br_f c6 ⟨rfl, I'⟩)))))))) (fun _ => br_c (fun _ => (br_f c0 (br_f c1 (br_f c2 (br_f c3 (br_f c4 (br_f c5 (br_f c6 ⟨rfl, I'⟩)))))))) (fun _ => (br_f c0 (br_f c1 (br_f c2 (br_f c3 (br_f c4 (br_f c5 (br_f c6 trivial)))))))))
end
