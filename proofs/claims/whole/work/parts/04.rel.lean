/-! the relation's pieces; what a tick makes of the waves; steps over a store or a read -/
def bf_H (P S T A : Nat) : Prop := 2 ≤ P ∧ P ≤ 32 ∧ 1 ≤ S ∧ S ≤ 9 ∧ 1 ≤ T ∧ T ≤ 4 ∧ A < T ∧ ∃ L, P = 2 ^ L
def bf_D (P : Nat) (dO dI d : Nat → Int32) : Prop := bf_PD P dO dI ∧ ∀ i, i < P → d i = dO i
def bf_S (P T : Nat) (sO sI se : Nat → Int32) : Prop := ∀ s, s < T → bf_PM P sO sI (s * P) ∧ ∀ i, i < P → se (s * 32 + i) = sO (s * P + i)
def bf_L (P : Nat) (lc ce : Nat → Int32) : Prop := ∀ i, i < P → ce i = lc i ∧ bf_Vl (lc i)
def bf_W (P S : Nat) (wv wa : Nat → Int32) : Prop := ∀ k, k < S → ∀ o, o < P → wa (k * 32 + o) = wv (k * P + o) ∧ bf_Vl (wv (k * P + o))
theorem bf_W_tick {P S b : Nat} {wv wa wv' wa' lc ce sO sI : Nat → Int32} (hP : P ≤ 32) (W0 : bf_W P S wv wa) (L0 : bf_L P lc ce) (pm : bf_PM P sO sI b)
    (X1 : ∀ x, x + P < S * P → wv' x = wv (x + P))
    (X2 : ∀ o, o < P → wv' ((S - 1) * P + o) = lc (sI (b + o)).toNatClampNeg)
    (Y1 : ∀ k o, k + 1 < S → o < P → wa' (k * 32 + o) = wa ((k + 1) * 32 + o))
    (Y2 : ∀ i o, i < P → o < P → sO (b + i) = nI o → wa' ((S - 1) * 32 + o) = ce i) : bf_W P S wv' wa' := by
  intro k hk o ho
  by_cases h : k + 1 < S
  · have a := W0 (k + 1) h o ho
    have e : k * P + o + P = (k + 1) * P + o := by rw [Nat.add_mul, Nat.one_mul]; omega
    have c : wv' (k * P + o) = wv ((k + 1) * P + o) := by
      rw [X1 (k * P + o) (by rw [e]; exact bf_ix h ho), e]
    rw [Y1 k o h ho, c]
    exact a
  · have e : k = S - 1 := by omega
    subst e
    obtain ⟨i, hi, a, c⟩ := pm.2 o ho
    have l := L0 i hi
    rw [Y2 i o hi ho c, X2 o ho, a, nI_clamp (by omega)]
    exact l
/-- a store -/
theorem bf_st {x : Int32} {N : Nat} {a : Nat → Int32} {v : Int32} {Q : (Nat → Int32) → Prop} (i : Nat) (hx : x = nI i) (hi : i < N) (hN : N < 2 ^ 31) (h : Q (upd a i v)) : vp_in x N ∧ ∀ y, y = upd a x.toNatClampNeg v → Q y := by
  subst hx
  refine ⟨vp_in_nI hi hN, fun y ey => ?_⟩
  rw [nI_clamp (by omega)] at ey
  rw [ey]
  exact h
/-- a read that is named -/
theorem bf_ld {x : Int32} {N : Nat} {a : Nat → Int32} {Q : Int32 → Prop} (i : Nat) (hx : x = nI i) (hi : i < N) (hN : N < 2 ^ 31) (h : Q (a i)) : vp_in x N ∧ ∀ y, y = a x.toNatClampNeg → Q y := by
  subst hx
  refine ⟨vp_in_nI hi hN, fun y ey => ?_⟩
  rw [nI_clamp (by omega)] at ey
  rw [ey]
  exact h
/-- a read in place -/
theorem bf_rd {x : Int32} {N : Nat} {a : Nat → Int32} {Q : Int32 → Prop} (i : Nat) (hx : x = nI i) (hi : i < N) (hN : N < 2 ^ 31) (h : Q (a i)) : vp_in x N ∧ Q (a x.toNatClampNeg) := by
  subst hx
  refine ⟨vp_in_nI hi hN, ?_⟩
  rw [nI_clamp (by omega)]
  exact h
theorem bf_mi (s P i : Nat) : nI s * nI P + nI i = nI (s * P + i) := by rw [pk_mul, nI_add]
theorem bf_m32 (s i : Nat) : nI s * 32 + nI i = nI (s * 32 + i) := bf_mi s 32 i
/-- a port, or none -/
theorem bf_pt (x : Int32) {n : Nat} (hn : n < 2 ^ 31) : (x < 0 ∨ nI n ≤ x) ∨ ∃ j : Nat, j < n ∧ x = nI j := by
  rcases pk_ix x hn with a | a | a
  · exact Or.inl (Or.inl a)
  · exact Or.inl (Or.inr a)
  · exact Or.inr a
