/-! the relation's pieces; what a tick makes of the waves; steps over a store or a read -/
def bf_H (P S T A : Nat) : Prop := 2 ≤ P ∧ P ≤ 32 ∧ 1 ≤ S ∧ S ≤ 9 ∧ 1 ≤ T ∧ T ≤ 4 ∧ A < T ∧ ∃ L, P = 2 ^ L
def bf_D (P : Nat) (dO dI d : Nat → Int32) : Prop := bf_PD P dO dI ∧ ∀ i, i < P → d i = dO i
def bf_S (P T : Nat) (sO sI se : Nat → Int32) : Prop := ∀ s, s < T → bf_PM P sO sI (s * P) ∧ ∀ i, i < P → se (s * 32 + i) = sO (s * P + i)
def bf_L (P : Nat) (lc ce : Nat → Int32) : Prop := ∀ i, i < P → ce i = lc i ∧ bf_Vl (lc i)
def bf_W (P S : Nat) (wv wa : Nat → Int32) : Prop := ∀ k, k < S → ∀ o, o < P → wa (k * 32 + o) = wv (k * P + o) ∧ bf_Vl (wv (k * P + o))
theorem bf_W_tick {P S b : Nat} {wv wa wv' wa' lc ce sO sI : Nat → Int32} (hP : P ≤ 32) (W0 : bf_W P S wv wa) (L0 : bf_L P lc ce) (pm : bf_PM P sO sI b)
    (X1 : ∀ x, x + P < S * P → wv' x = wv (x + P))
    (X2 : ∀ o, o < P → wv' ((S - 1) * P + o) = lc (sI (b + o)).toNatClampNeg)
    (Y1 : ∀ k o, k + 1 < S → o < P → wa' (k * 32 + o) = wa ((k + 1) * 32 + o))
    (Y2 : ∀ i o, i < P → o < P → sO (b + i) = nI o → wa' ((S - 1) * 32 + o) = ce i) : bf_W P S wv' wa' := by
  intro k hk o ho
  by_cases h : k + 1 < S
  · have a := W0 (k + 1) h o ho
    have e : k * P + o + P = (k + 1) * P + o := by rw [Nat.add_mul, Nat.one_mul]; omega
    have c : wv' (k * P + o) = wv ((k + 1) * P + o) := by
      rw [X1 (k * P + o) (by rw [e]; exact bf_ix h ho), e]
    rw [Y1 k o h ho, c]
    exact a
  · have e : k = S - 1 := by omega
    subst e
    obtain ⟨i, hi, a, c⟩ := pm.2 o ho
    have l := L0 i hi
    rw [Y2 i o hi ho c, X2 o ho, a, nI_clamp (by omega)]
    exact l
/-- a store -/
theorem bf_st {x : Int32} {N : Nat} {a : Nat → Int32} {v : Int32} {Q : (Nat → Int32) → Prop} (i : Nat) (hx : x = nI i) (hi : i < N) (hN : N < 2 ^ 31) (h : Q (upd a i v)) : vp_in x N ∧ ∀ y, y = upd a x.toNatClampNeg v → Q y := by
  subst hx
  refine ⟨vp_in_nI hi hN, fun y ey => ?_⟩
  rw [nI_clamp (by omega)] at ey
  rw [ey]
  exact h
/-- a read that is named -/
theorem bf_ld {x : Int32} {N : Nat} {a : Nat → Int32} {Q : Int32 → Prop} (i : Nat) (hx : x = nI i) (hi : i < N) (hN : N < 2 ^ 31) (h : Q (a i)) : vp_in x N ∧ ∀ y, y = a x.toNatClampNeg → Q y := by
  subst hx
  refine ⟨vp_in_nI hi hN, fun y ey => ?_⟩
  rw [nI_clamp (by omega)] at ey
  rw [ey]
  exact h
/-- a read in place -/
theorem bf_rd {x : Int32} {N : Nat} {a : Nat → Int32} {Q : Int32 → Prop} (i : Nat) (hx : x = nI i) (hi : i < N) (hN : N < 2 ^ 31) (h : Q (a i)) : vp_in x N ∧ Q (a x.toNatClampNeg) := by
  subst hx
  refine ⟨vp_in_nI hi hN, ?_⟩
  rw [nI_clamp (by omega)]
  exact h
theorem bf_mi (s P i : Nat) : nI s * nI P + nI i = nI (s * P + i) := by rw [pk_mul, nI_add]
theorem bf_m32 (s i : Nat) : nI s * 32 + nI i = nI (s * 32 + i) := bf_mi s 32 i
/-- a port, or none -/
theorem bf_pt (x : Int32) {n : Nat} (hn : n < 2 ^ 31) : (x < 0 ∨ nI n ≤ x) ∨ ∃ j : Nat, j < n ∧ x = nI j := by
  rcases pk_ix x hn with a | a | a
  · exact Or.inl (Or.inl a)
  · exact Or.inl (Or.inr a)
  · exact Or.inr a
def i_Rel (k : Nat) (u : SX) (v : SY) : Prop :=
  ∃ (P S T A : Nat) (dO dI sO sI lc wv d se ce wa : Nat → Int32), u = (nI P, nI S, nI T, nI A, dO, dI, sO, sI, lc, wv) ∧ v = (nI P, nI S, nI T, nI A, d, se, ce, wa) ∧
    bf_H P S T A ∧ bf_D P dO dI d ∧ bf_S P T sO sI se ∧ bf_L P lc ce ∧ bf_W P S wv wa
theorem bf_mk {k P S T A : Nat} {dO dI sO sI lc wv d se ce wa : Nat → Int32} (h : bf_H P S T A) (hd : bf_D P dO dI d) (hs : bf_S P T sO sI se) (hl : bf_L P lc ce) (hw : bf_W P S wv wa) : i_Rel k (nI P, nI S, nI T, nI A, dO, dI, sO, sI, lc, wv) (nI P, nI S, nI T, nI A, d, se, ce, wa) :=
  ⟨P, S, T, A, dO, dI, sO, sI, lc, wv, d, se, ce, wa, rfl, rfl, h, hd, hs, hl, hw⟩
theorem bf_eq_u {P i : Nat} {f g : Nat → Int32} {x : Int32} (h : ∀ j, j < P → f j = g j) : ∀ j, j < P → upd f i x j = upd g i x j := by
  intro j hj
  by_cases e : j = i
  · rw [e, pk_us, pk_us]
  · rw [pk_un e, pk_un e]
    exact h j hj
theorem bf_D_v {P : Nat} {dO dI d : Nat → Int32} (hP : P ≤ 32) (D : bf_D P dO dI d) : ∀ i, i < P → bf_Vl (d i) := by
  intro i hi
  rw [D.2 i hi]
  exact bf_PD_v D.1 hP hi
theorem bf_S_set {P T s : Nat} {sO sI se sO' sI' se' : Nat → Int32} (hs : s < T) (Z : bf_S P T sO sI se) (hc : bf_PM P sO' sI' (s * P))
    (hf : ∀ x, x < s * P ∨ s * P + P ≤ x → sO' x = sO x ∧ sI' x = sI x) (he : ∀ i, i < P → se' (s * 32 + i) = sO' (s * P + i))
    (hg : ∀ x, x < s * 32 ∨ s * 32 + P ≤ x → se' x = se x) (hP : P ≤ 32) : bf_S P T sO' sI' se' := by
  intro t ht
  by_cases e : t = s
  · subst e
    exact ⟨hc, he⟩
  · refine ⟨bf_PM_cg (Z t ht).1 (fun x h1 h2 => hf x (bf_apart e h1 h2)), fun i hi => ?_⟩
    rw [hg (t * 32 + i) (by omega), (hf (t * P + i) (bf_apart e (by omega) (by omega))).1]
    exact (Z t ht).2 i hi
/-- fill, pure -/
def bf_out (P : Nat) (mu ad : Int32) (i : Nat) : Nat := (nI i * mu + ad).toBitVec.toNat % P
def bf_fz (P : Nat) (mu ad : Int32) (dO dI : Nat → Int32) : Nat → (Nat → Int32) × (Nat → Int32) × Nat
  | 0 => (dO, dI, 0)
  | i + 1 =>
    if (bf_fz P mu ad dO dI i).1 i = -1 ∧ (bf_fz P mu ad dO dI i).2.1 (bf_out P mu ad i) = -1 then
      (upd (bf_fz P mu ad dO dI i).1 i (nI (bf_out P mu ad i)), upd (bf_fz P mu ad dO dI i).2.1 (bf_out P mu ad i) (nI i), (bf_fz P mu ad dO dI i).2.2 + 1)
    else bf_fz P mu ad dO dI i
theorem bf_fz_t {P : Nat} {mu ad : Int32} {dO dI : Nat → Int32} {i : Nat} (h1 : (bf_fz P mu ad dO dI i).1 i = -1) (h2 : (bf_fz P mu ad dO dI i).2.1 (bf_out P mu ad i) = -1) : bf_fz P mu ad dO dI (i + 1) = (upd (bf_fz P mu ad dO dI i).1 i (nI (bf_out P mu ad i)), upd (bf_fz P mu ad dO dI i).2.1 (bf_out P mu ad i) (nI i), (bf_fz P mu ad dO dI i).2.2 + 1) := if_pos ⟨h1, h2⟩
theorem bf_fz_f {P : Nat} {mu ad : Int32} {dO dI : Nat → Int32} {i : Nat} (h : ¬ ((bf_fz P mu ad dO dI i).1 i = -1 ∧ (bf_fz P mu ad dO dI i).2.1 (bf_out P mu ad i) = -1)) : bf_fz P mu ad dO dI (i + 1) = bf_fz P mu ad dO dI i := if_neg h
theorem bf_out_lt {P : Nat} {mu ad : Int32} {i : Nat} (h : ∃ L, P = 2 ^ L) : bf_out P mu ad i < P := by
  obtain ⟨L, rfl⟩ := h
  exact Nat.mod_lt _ (Nat.two_pow_pos L)
theorem bf_out_e {P : Nat} {mu ad : Int32} {i : Nat} (hP : P ≤ 32) (h : ∃ L, P = 2 ^ L) : (nI i * mu + ad) &&& (nI P - 1) = nI (bf_out P mu ad i) := by
  obtain ⟨L, rfl⟩ := h
  have h1 : 1 ≤ 2 ^ L := Nat.two_pow_pos L
  have e : nI (2 ^ L) - 1 = nI (2 ^ L - 1) := pk_sub (b := 1) h1
  rw [e]
  exact pk_and _ L (pk_tn (by omega))
theorem bf_fz_pd {P : Nat} {mu ad : Int32} {dO dI : Nat → Int32} (hP : P ≤ 32) (hL : ∃ L, P = 2 ^ L) (pd : bf_PD P dO dI) : ∀ i, i ≤ P → bf_PD P (bf_fz P mu ad dO dI i).1 (bf_fz P mu ad dO dI i).2.1 := by
  intro i
  induction i with
  | zero => intro _; exact pd
  | succ i ih =>
    intro hi
    by_cases h : (bf_fz P mu ad dO dI i).1 i = -1 ∧ (bf_fz P mu ad dO dI i).2.1 (bf_out P mu ad i) = -1
    · rw [bf_fz_t h.1 h.2]
      exact bf_PD_add (ih (by omega)) hP (by omega) (bf_out_lt hL) h.1 h.2
    · rw [bf_fz_f h]
      exact ih (by omega)
theorem bf_fz_c {P : Nat} {mu ad : Int32} {dO dI : Nat → Int32} : ∀ i, (bf_fz P mu ad dO dI i).2.2 ≤ i := by
  intro i
  induction i with
  | zero => exact Nat.le_refl 0
  | succ i ih =>
    by_cases h : (bf_fz P mu ad dO dI i).1 i = -1 ∧ (bf_fz P mu ad dO dI i).2.1 (bf_out P mu ad i) = -1
    · rw [bf_fz_t h.1 h.2]
      show (bf_fz P mu ad dO dI i).2.2 + 1 ≤ i + 1
      omega
    · rw [bf_fz_f h]
      omega
