def bf_H (P S T A : Nat) : Prop := 2 ≤ P ∧ P ≤ 32 ∧ 1 ≤ S ∧ S ≤ 9 ∧ 1 ≤ T ∧ T ≤ 4 ∧ A < T ∧ ∃ L, P = 2 ^ L
/-- a store -/
theorem bf_st {x : Int32} {N : Nat} {a : Nat → Int32} {v : Int32} {Q : (Nat → Int32) → Prop} (i : Nat) (hx : x = nI i) (hi : i < N) (hN : N < 2 ^ 31) (h : Q (upd a i v)) : vp_in x N ∧ ∀ y, y = upd a x.toNatClampNeg v → Q y := by
  subst hx
  refine ⟨vp_in_nI hi hN, fun y ey => ?_⟩
  rw [nI_clamp (by omega)] at ey
  rw [ey]
  exact h
/-- a read that is named -/
theorem bf_ld {x : Int32} {N : Nat} {a : Nat → Int32} {Q : Int32 → Prop} (i : Nat) (hx : x = nI i) (hi : i < N) (hN : N < 2 ^ 31) (h : Q (a i)) : vp_in x N ∧ ∀ y, y = a x.toNatClampNeg → Q y := by
  subst hx
  refine ⟨vp_in_nI hi hN, fun y ey => ?_⟩
  rw [nI_clamp (by omega)] at ey
  rw [ey]
  exact h
/-- a read in place -/
theorem bf_rd {x : Int32} {N : Nat} {a : Nat → Int32} {Q : Int32 → Prop} (i : Nat) (hx : x = nI i) (hi : i < N) (hN : N < 2 ^ 31) (h : Q (a i)) : vp_in x N ∧ Q (a x.toNatClampNeg) := by
  subst hx
  refine ⟨vp_in_nI hi hN, ?_⟩
  rw [nI_clamp (by omega)]
  exact h
theorem bf_mi (s P i : Nat) : nI s * nI P + nI i = nI (s * P + i) := by rw [pk_mul, nI_add]
theorem bf_m32 (s i : Nat) : nI s * 32 + nI i = nI (s * 32 + i) := bf_mi s 32 i
/-- a port, or none -/
theorem bf_pt (x : Int32) {n : Nat} (hn : n < 2 ^ 31) : (x < 0 ∨ nI n ≤ x) ∨ ∃ j : Nat, j < n ∧ x = nI j := by
  rcases pk_ix x hn with a | a | a
  · exact Or.inl (Or.inl a)
  · exact Or.inl (Or.inr a)
  · exact Or.inr a
/-- fill, pure -/
def bf_out (P : Nat) (mu ad : Int32) (i : Nat) : Nat := (nI i * mu + ad).toBitVec.toNat % P
def bf_fz (P : Nat) (mu ad : Int32) (dO dI : Nat → Int32) : Nat → (Nat → Int32) × (Nat → Int32) × Nat
  | 0 => (dO, dI, 0)
  | i + 1 =>
    if (bf_fz P mu ad dO dI i).1 i = -1 ∧ (bf_fz P mu ad dO dI i).2.1 (bf_out P mu ad i) = -1 then
      (upd (bf_fz P mu ad dO dI i).1 i (nI (bf_out P mu ad i)), upd (bf_fz P mu ad dO dI i).2.1 (bf_out P mu ad i) (nI i), (bf_fz P mu ad dO dI i).2.2 + 1)
    else bf_fz P mu ad dO dI i
theorem bf_fz_t {P : Nat} {mu ad : Int32} {dO dI : Nat → Int32} {i : Nat} (h1 : (bf_fz P mu ad dO dI i).1 i = -1) (h2 : (bf_fz P mu ad dO dI i).2.1 (bf_out P mu ad i) = -1) : bf_fz P mu ad dO dI (i + 1) = (upd (bf_fz P mu ad dO dI i).1 i (nI (bf_out P mu ad i)), upd (bf_fz P mu ad dO dI i).2.1 (bf_out P mu ad i) (nI i), (bf_fz P mu ad dO dI i).2.2 + 1) := if_pos ⟨h1, h2⟩
theorem bf_fz_f {P : Nat} {mu ad : Int32} {dO dI : Nat → Int32} {i : Nat} (h : ¬ ((bf_fz P mu ad dO dI i).1 i = -1 ∧ (bf_fz P mu ad dO dI i).2.1 (bf_out P mu ad i) = -1)) : bf_fz P mu ad dO dI (i + 1) = bf_fz P mu ad dO dI i := if_neg h
theorem bf_out_lt {P : Nat} {mu ad : Int32} {i : Nat} (h : ∃ L, P = 2 ^ L) : bf_out P mu ad i < P := by
  obtain ⟨L, rfl⟩ := h
  exact Nat.mod_lt _ (Nat.two_pow_pos L)
theorem bf_out_e {P : Nat} {mu ad : Int32} {i : Nat} (hP : P ≤ 32) (h : ∃ L, P = 2 ^ L) : (nI i * mu + ad) &&& (nI P - 1) = nI (bf_out P mu ad i) := by
  obtain ⟨L, rfl⟩ := h
  have h1 : 1 ≤ 2 ^ L := Nat.two_pow_pos L
  have e : nI (2 ^ L) - 1 = nI (2 ^ L - 1) := pk_sub (b := 1) h1
  rw [e]
  exact pk_and _ L (pk_tn (by omega))
theorem bf_fz_pd {P : Nat} {mu ad : Int32} {dO dI : Nat → Int32} (hP : P ≤ 32) (hL : ∃ L, P = 2 ^ L) (pd : bf_PD P dO dI) : ∀ i, i ≤ P → bf_PD P (bf_fz P mu ad dO dI i).1 (bf_fz P mu ad dO dI i).2.1 := by
  intro i
  induction i with
  | zero => intro _; exact pd
  | succ i ih =>
    intro hi
    by_cases h : (bf_fz P mu ad dO dI i).1 i = -1 ∧ (bf_fz P mu ad dO dI i).2.1 (bf_out P mu ad i) = -1
    · rw [bf_fz_t h.1 h.2]
      exact bf_PD_add (ih (by omega)) hP (by omega) (bf_out_lt hL) h.1 h.2
    · rw [bf_fz_f h]
      exact ih (by omega)
theorem bf_fz_c {P : Nat} {mu ad : Int32} {dO dI : Nat → Int32} : ∀ i, (bf_fz P mu ad dO dI i).2.2 ≤ i := by
  intro i
  induction i with
  | zero => exact Nat.le_refl 0
  | succ i ih =>
    by_cases h : (bf_fz P mu ad dO dI i).1 i = -1 ∧ (bf_fz P mu ad dO dI i).2.1 (bf_out P mu ad i) = -1
    · rw [bf_fz_t h.1 h.2]
      show (bf_fz P mu ad dO dI i).2.2 + 1 ≤ i + 1
      omega
    · rw [bf_fz_f h]
      omega
/-! the class's own methods: one lemma each, with a general post -/
theorem bf_least {Q : Nat → Prop} : ∀ n, (∃ k, k < n ∧ Q k) → ∃ k, k < n ∧ Q k ∧ ∀ j, j < k → ¬ Q j := by
  intro n
  induction n with
  | zero => intro ⟨k, h, _⟩; omega
  | succ n ih =>
    intro ⟨k, h, q⟩
    by_cases e : ∃ k, k < n ∧ Q k
    · obtain ⟨m, hm, a, b⟩ := ih e
      exact ⟨m, by omega, a, b⟩
    · refine ⟨k, h, q, fun j hj qj => e ⟨j, by omega, qj⟩⟩
theorem bf_fl {f s : Nat → Int32} {i : Nat} {x : Int32} (h : ∀ j, j < i → s j = f j) (hx : x = f i) : ∀ j, j < i + 1 → upd s i x j = f j := by
  intro j hj
  by_cases e : j = i
  · rw [e, pk_us, hx]
  · rw [pk_un e]
    exact h j (by omega)
section BX
variable {P S T A : Nat} {dO dI sO sI lc wv : Nat → Int32}
theorem xf_port_t {post : Int32 → Prop} {j : Nat} (hP : P ≤ 32) (hj : j < P) (h : post 1) : wpX_isPort post (nI P, nI S, nI T, nI A, dO, dI, sO, sI, lc, wv) (nI j) :=
  br_f (nI_pos (by omega)) (br_f (nI_ge hj (by omega)) h)
theorem xf_port_f {post : Int32 → Prop} {x : Int32} (hx : x < 0 ∨ nI P ≤ x) (h : post 0) : wpX_isPort post (nI P, nI S, nI T, nI A, dO, dI, sO, sI, lc, wv) x := by
  by_cases h0 : x < 0
  · exact br_t h0 h
  · exact br_f h0 (br_t (hx.resolve_left h0) h)
theorem xf_slot_t {post : Int32 → Prop} {j : Nat} (hT : T ≤ 4) (hj : j < T) (h : post 1) : wpX_isSlot post (nI P, nI S, nI T, nI A, dO, dI, sO, sI, lc, wv) (nI j) :=
  br_f (nI_pos (by omega)) (br_f (nI_ge hj (by omega)) h)
theorem xf_slot_f {post : Int32 → Prop} {x : Int32} (hx : x < 0 ∨ nI T ≤ x) (h : post 0) : wpX_isSlot post (nI P, nI S, nI T, nI A, dO, dI, sO, sI, lc, wv) x := by
  by_cases h0 : x < 0
  · exact br_t h0 h
  · exact br_f h0 (br_t (hx.resolve_left h0) h)
theorem xf_add {post : St2 → Prop} {i o : Nat} (hP : P ≤ 32) (hi : i < P) (ho : o < P) (h : post (nI P, nI S, nI T, nI A, upd dO i (nI o), upd dI o (nI i), sO, sI, lc, wv)) : wpX_addPair post (nI P, nI S, nI T, nI A, dO, dI, sO, sI, lc, wv) (nI i) (nI o) :=
  bf_st i rfl (by omega) (by decide) (bf_st o rfl (by omega) (by decide) h)
theorem xf_emptyDraft {post : St2 → Prop} (hP : P ≤ 32) (h : ∀ a b, (∀ i, i < P → a i = -1) → (∀ i, i < P → b i = -1) → post (nI P, nI S, nI T, nI A, a, b, sO, sI, lc, wv)) : wpX_emptyDraft post (nI P, nI S, nI T, nI A, dO, dI, sO, sI, lc, wv) :=
  pk_loop (fun n i s => wX_emptyDraft_2 post (nI P) (nI S) (nI T) (nI A) n (nI i) s.1 s.2 sO sI lc wv) (fun i s => (∀ j, j < i → s.1 j = -1) ∧ (∀ j, j < i → s.2 j = -1)) P 0 (dO, dI) (by omega) ⟨fun j hj => absurd hj (by omega), fun j hj => absurd hj (by omega)⟩
    (fun n s hs => pk_le P P (fun _ => h s.1 s.2 hs.1 hs.2) (fun z => absurd z (by omega)))
    (fun n i s hi hs hw => pk_le P i (fun z => absurd z (by omega)) (fun _ => bf_st i rfl (by omega) (by decide) (bf_st i rfl (by omega) (by decide) (nm_r (nI_1 i) (hw (_, _) ⟨bf_fl (f := fun _ => -1) hs.1 rfl, bf_fl (f := fun _ => -1) hs.2 rfl⟩)))))
theorem xf_emptyLatch {post : St2 → Prop} (hP : P ≤ 32) (h : ∀ a, (∀ i, i < P → a i = -1) → post (nI P, nI S, nI T, nI A, dO, dI, sO, sI, a, wv)) : wpX_emptyLatch post (nI P, nI S, nI T, nI A, dO, dI, sO, sI, lc, wv) :=
  pk_loop (fun n i s => wX_emptyLatch_2 post (nI P) (nI S) (nI T) (nI A) n (nI i) dO dI sO sI s wv) (fun i s => ∀ j, j < i → s j = -1) P 0 lc (by omega) (fun j hj => absurd hj (by omega))
    (fun n s hs => pk_le P P (fun _ => h s hs) (fun z => absurd z (by omega)))
    (fun n i s hi hs hw => pk_le P i (fun z => absurd z (by omega)) (fun _ => bf_st i rfl (by omega) (by decide) (nm_r (nI_1 i) (hw _ (bf_fl (f := fun _ => -1) hs rfl)))))
theorem xf_emptyWaves {post : St2 → Prop} (hP : P ≤ 32) (hS : S ≤ 9) (h : ∀ a, (∀ i, i < S * P → a i = -1) → post (nI P, nI S, nI T, nI A, dO, dI, sO, sI, lc, a)) : wpX_emptyWaves post (nI P, nI S, nI T, nI A, dO, dI, sO, sI, lc, wv) := by
  have hb : S * P ≤ 9 * 32 := Nat.mul_le_mul hS hP
  exact pk_loop (fun n i s => wX_emptyWaves_2 post (nI P) (nI S) (nI T) (nI A) n (nI i) dO dI sO sI lc s) (fun i s => ∀ j, j < i → s j = -1) (S * P) 0 wv (by omega) (fun j hj => absurd hj (by omega))
    (fun n s hs => pk_le (S * P) (S * P) (fun _ => h s hs) (fun z => absurd z (by omega)) (hx := pk_mul S P))
    (fun n i s hi hs hw => pk_le (S * P) i (fun z => absurd z (by omega)) (fun _ => bf_st i rfl (by omega) (by decide) (nm_r (nI_1 i) (hw _ (bf_fl (f := fun _ => -1) hs rfl)))) (hx := pk_mul S P))
theorem xf_free {post : Int32 → Prop} {f o : Nat} (hP : P ≤ 32) (hfo : f ≤ o) (ho : o < P) (h2 : dI o = -1) (h3 : ∀ q, f ≤ q → q < o → ¬ dI q = -1) (h : post (nI o)) : wpX_freeOutputFrom post (nI P, nI S, nI T, nI A, dO, dI, sO, sI, lc, wv) (nI f) :=
  pk_loop (σ := Unit) (fun n i _ => wX_freeOutputFrom_2 post (nI P) (nI S) (nI T) (nI A) dO dI sO sI lc wv n (nI i)) (fun i _ => f ≤ i) o f () hfo (Nat.le_refl f)
    (fun n _ _ => pk_le (P - 1) o (fun _ => h) (fun _ => ⟨pk_in o 32 (by omega), br_t (by rw [nI_clamp (by omega)]; exact h2) h⟩) (hx := pk_sub (b := 1) (by omega)))
    (fun n i _ hi hf hw => pk_le (P - 1) i (fun z => absurd z (by omega)) (fun _ => ⟨pk_in i 32 (by omega), br_f (by rw [nI_clamp (by omega)]; exact h3 i hf hi) (nm_r (nI_1 i) (hw () (by omega)))⟩) (hx := pk_sub (b := 1) (by omega)))
theorem xf_advance {post : St2 → Prop} (hP : P ≤ 32) (hS : S ≤ 9) (hS1 : 1 ≤ S) (h : ∀ w, (∀ x, x + P < S * P → w x = wv (x + P)) → post (nI P, nI S, nI T, nI A, dO, dI, sO, sI, lc, w)) : wpX_advanceWaves post (nI P, nI S, nI T, nI A, dO, dI, sO, sI, lc, wv) := by
  have hb : S * P ≤ 9 * 32 := Nat.mul_le_mul hS hP
  have hb1 : 1 * P ≤ S * P := Nat.mul_le_mul_right P hS1
  have key : ∀ m i w, i + m = S * P → P ≤ i → (∀ x, w x = if x + P < i then wv (x + P) else wv x) → wX_advanceWaves_5 post (nI P) (nI S) (nI T) (nI A) (m + 1) (nI i) dO dI sO sI lc w := by
    intro m
    induction m with
    | zero =>
      intro i w hi hp hw
      exact pk_le (S * P) i (fun _ => h w (fun x hx => by rw [hw x, if_pos (by omega)])) (fun z => absurd z (by omega)) (hx := pk_mul S P)
    | succ m ih =>
      intro i w hi hp hw
      refine pk_le (S * P) i (fun z => absurd z (by omega)) (fun _ => ⟨pk_in i 288 (by omega), bf_st (i - P) (pk_sub hp) (by omega) (by decide) (nm_r (nI_1 i) ?_)⟩) (hx := pk_mul S P)
      rw [nI_clamp (by omega)]
      refine ih (i + 1) _ (by omega) (by omega) (fun x => ?_)
      by_cases e : x = i - P
      · rw [e, pk_us, hw i, if_neg (by omega), if_pos (by omega), show i - P + P = i by omega]
      · rw [pk_un e, hw x]
        by_cases z : x + P < i
        · rw [if_pos z, if_pos (by omega)]
        · rw [if_neg z, if_neg (by omega)]
  exact ⟨S * P - P + 1, key (S * P - P) P wv (by omega) (Nat.le_refl P) (fun x => by rw [if_neg (by omega)])⟩
end BX
