/-! sums of 64 bits: over a permutation the sum is the same -/
def bf_sm (f : Nat → Int64) : Nat → Int64
  | 0 => 0
  | n + 1 => bf_sm f n + f n
theorem bf_sm_s (f : Nat → Int64) (n : Nat) : bf_sm f (n + 1) = bf_sm f n + f n := rfl
theorem bf_sm_cg {f g : Nat → Int64} : ∀ n, (∀ j, j < n → f j = g j) → bf_sm f n = bf_sm g n := by
  intro n
  induction n with
  | zero => intro _; rfl
  | succ n ih =>
    intro h
    rw [bf_sm_s, bf_sm_s, ih (fun j hj => h j (by omega)), h n (by omega)]
theorem bf_sm_0 : ∀ n, bf_sm (fun _ => 0) n = 0 := by
  intro n
  induction n with
  | zero => rfl
  | succ n ih => rw [bf_sm_s, ih]; rfl
theorem bf_sm_add (f g : Nat → Int64) : ∀ n, bf_sm (fun i => f i + g i) n = bf_sm f n + bf_sm g n := by
  intro n
  induction n with
  | zero => rfl
  | succ n ih =>
    rw [bf_sm_s, bf_sm_s, bf_sm_s, ih]
    show bf_sm f n + bf_sm g n + (f n + g n) = bf_sm f n + f n + (bf_sm g n + g n)
    rw [Int64.add_assoc, Int64.add_assoc, ← Int64.add_assoc (bf_sm g n), Int64.add_comm (bf_sm g n) (f n), Int64.add_assoc]
theorem bf_sm_sw (h : Nat → Nat → Int64) (m : Nat) : ∀ n, bf_sm (fun i => bf_sm (fun o => h i o) m) n = bf_sm (fun o => bf_sm (fun i => h i o) n) m := by
  intro n
  induction n with
  | zero => exact (bf_sm_0 m).symm
  | succ n ih =>
    rw [bf_sm_s, ih, ← bf_sm_add]
    rfl
theorem bf_sm_1 {k : Nat} (c : Int64) : ∀ n, bf_sm (fun i => if i = k then c else 0) n = if k < n then c else 0 := by
  intro n
  induction n with
  | zero => rw [if_neg (by omega)]; rfl
  | succ n ih =>
    rw [bf_sm_s, ih]
    by_cases e : n = k
    · rw [if_neg (by omega), if_pos e, if_pos (by omega), Int64.zero_add]
    · rw [if_neg e, Int64.add_zero]
      by_cases e2 : k < n
      · rw [if_pos e2, if_pos (by omega)]
      · rw [if_neg e2, if_neg (by omega)]
theorem bf_sm_pm {n : Nat} {g : Nat → Int64} {si ta : Nat → Nat} (h1 : ∀ i, i < n → si i < n ∧ ta (si i) = i) (h2 : ∀ o, o < n → ta o < n ∧ si (ta o) = o) : bf_sm g n = bf_sm (fun o => g (ta o)) n := by
  have a : bf_sm g n = bf_sm (fun i => bf_sm (fun o => if o = si i then g i else 0) n) n :=
    bf_sm_cg n (fun i hi => by rw [bf_sm_1, if_pos (h1 i hi).1])
  have b : bf_sm (fun o => g (ta o)) n = bf_sm (fun o => bf_sm (fun i => if o = si i then g i else 0) n) n :=
    bf_sm_cg n (fun o ho => by
      have c : bf_sm (fun i => if o = si i then g i else 0) n = bf_sm (fun i => if i = ta o then g (ta o) else 0) n :=
        bf_sm_cg n (fun i hi => by
          by_cases e : i = ta o
          · rw [if_pos e, e, if_pos (h2 o ho).2.symm]
          · rw [if_neg e, if_neg (fun z => e (by rw [z]; exact (h1 i hi).2.symm))])
      rw [c, bf_sm_1, if_pos (h2 o ho).1])
  rw [a, b]
  exact bf_sm_sw (fun i o => if o = si i then g i else 0) n n
