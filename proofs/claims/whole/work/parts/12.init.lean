/-! the constructors -/
def bf_cl (x : Int32) (M : Nat) : Nat := if 1 ≤ x then (if x ≤ nI M then x.toNatClampNeg else M) else 1
theorem bf_cl_c (x : Int32) {M : Nat} (hM : M < 2 ^ 31) (hM1 : 1 ≤ M) : (1 ≤ bf_cl x M ∧ bf_cl x M ≤ M) ∧ ((1 ≤ x ∧ x ≤ nI M ∧ x = nI (bf_cl x M)) ∨ (1 ≤ x ∧ ¬ x ≤ nI M ∧ bf_cl x M = M) ∨ (¬ 1 ≤ x ∧ bf_cl x M = 1)) := by
  by_cases h : 1 ≤ x
  · by_cases h2 : x ≤ nI M
    · have h0 : ¬ x < 0 := fun z => absurd (Int32.lt_of_le_of_lt h z) (by decide)
      obtain ⟨j, hj, rfl⟩ := nI_of h0
      have e : bf_cl (nI j) M = j := by
        unfold bf_cl
        rw [if_pos h, if_pos h2, nI_clamp hj]
      have h' : nI 1 ≤ nI j := h
      rw [nI_leI (by omega) hj] at h'
      have h2' := h2
      rw [nI_leI hj hM] at h2'
      rw [e]
      exact ⟨⟨h', h2'⟩, Or.inl ⟨h, h2, rfl⟩⟩
    · have e : bf_cl x M = M := by
        unfold bf_cl
        rw [if_pos h, if_neg h2]
      rw [e]
      exact ⟨⟨hM1, Nat.le_refl M⟩, Or.inr (Or.inl ⟨h, h2, rfl⟩)⟩
  · have e : bf_cl x M = 1 := by
      unfold bf_cl
      rw [if_neg h]
    rw [e]
    exact ⟨⟨Nat.le_refl 1, hM1⟩, Or.inr (Or.inr ⟨h, rfl⟩)⟩
theorem bf_at {Q : Int32 → Prop} {x y : Int32} (e : x = y) (h : Q y) : Q x := by rw [e]; exact h
theorem xf_clamp {post : Int32 → Prop} {x : Int32} (M : Nat) (hM : M < 2 ^ 31) (hM1 : 1 ≤ M) (h : post (nI (bf_cl x M))) : wpX_clampFromOne post x (nI M) := by
  rcases (bf_cl_c x hM hM1).2 with ⟨a, b, c⟩ | ⟨a, b, c⟩ | ⟨a, c⟩
  · exact br_t a (br_t b (bf_at c h))
  · rw [c] at h
    exact br_t a (br_f b h)
  · rw [c] at h
    exact br_f a h
theorem bf_shl {L : Nat} (h1 : 1 ≤ L) (h5 : L ≤ 5) : (1 : Int32) <<< (nI L &&& 31) = nI (2 ^ L) := by
  rcases (by omega : L = 1 ∨ L = 2 ∨ L = 3 ∨ L = 4 ∨ L = 5) with rfl | rfl | rfl | rfl | rfl <;> decide
theorem bf_2l {L : Nat} (h1 : 1 ≤ L) : (2 : Int32) * nI L - 1 = nI (2 * L - 1) := by
  rw [show (2 : Int32) * nI L = nI (2 * L) from pk_mul 2 L]
  exact pk_sub (b := 1) (by omega)
theorem bf_H0 {L T : Nat} (h1 : 1 ≤ L) (h5 : L ≤ 5) (t1 : 1 ≤ T) (t4 : T ≤ 4) : bf_H (2 ^ L) (2 * L - 1) T 0 := by
  refine ⟨?_, ?_, by omega, by omega, t1, t4, by omega, L, rfl⟩
  · exact Nat.pow_le_pow_right (n := 2) (by omega) h1
  · have z : 2 ^ L ≤ 2 ^ 5 := Nat.pow_le_pow_right (by omega) h5
    exact z
theorem bf_a31 {i : Nat} (h : i < 128) : nI i &&& 31 = nI (i % 32) := by
  rw [pk_and (nI i) (m := 31) 5 (by decide), pk_tn (by omega)]
section BN
variable {post : SY → Prop}
theorem yf_166 {fp fs ft fa : Int32} {d se ce : Nat → Int32} (wa : Nat → Int32) (h : ∀ w, (∀ i, i < 288 → w i = -1) → post (fp, fs, ft, fa, d, se, ce, w)) : ∃ n, wY_init_166 post fp fs ft fa n 0 d se ce wa :=
  pk_loop (fun n i s => wY_init_166 post fp fs ft fa n (nI i) d se ce s) (fun i s => ∀ j, j < i → s j = -1) 288 0 wa (by omega) (fun j hj => absurd hj (by omega))
    (fun n s hs => pk_le 288 288 (fun _ => h s hs) (fun z => absurd z (by omega)))
    (fun n i s hi hs hw => pk_le 288 i (fun z => absurd z (by omega)) (fun _ => bf_st i rfl (by omega) (by decide) (nm_r (nI_1 i) (hw _ (bf_fl (f := fun _ => -1) hs rfl)))))
theorem yf_137 {fp fs ft fa : Int32} {d ce : Nat → Int32} (se wa : Nat → Int32) (h : ∀ e w, (∀ i, i < 128 → e i = nI (i % 32)) → (∀ i, i < 288 → w i = -1) → post (fp, fs, ft, fa, d, e, ce, w)) : ∃ n, wY_init_137 post fp fs ft fa n 0 d se ce wa :=
  pk_loop (fun n i s => wY_init_137 post fp fs ft fa n (nI i) d s ce wa) (fun i s => ∀ j, j < i → s j = nI (j % 32)) 128 0 se (by omega) (fun j hj => absurd hj (by omega))
    (fun n s hs => pk_le 128 128 (fun _ => yf_166 wa (fun w hw => h s w hs hw)) (fun z => absurd z (by omega)))
    (fun n i s hi hs hw => pk_le 128 i (fun z => absurd z (by omega)) (fun _ => bf_st i rfl (by omega) (by decide) (nm_r (nI_1 i) (hw _ (bf_fl (f := fun j => nI (j % 32)) hs (bf_a31 hi))))))
theorem yf_105 {fp fs ft fa : Int32} (d se ce wa : Nat → Int32) (h : ∀ a e c w, (∀ i, i < 32 → a i = -1) → (∀ i, i < 128 → e i = nI (i % 32)) → (∀ i, i < 32 → c i = -1) → (∀ i, i < 288 → w i = -1) → post (fp, fs, ft, fa, a, e, c, w)) : ∃ n, wY_init_105 post fp fs ft fa n 0 d se ce wa :=
  pk_loop (fun n i s => wY_init_105 post fp fs ft fa n (nI i) s.1 se s.2 wa) (fun i s => (∀ j, j < i → s.1 j = -1) ∧ (∀ j, j < i → s.2 j = -1)) 32 0 (d, ce) (by omega) ⟨fun j hj => absurd hj (by omega), fun j hj => absurd hj (by omega)⟩
    (fun n s hs => pk_le 32 32 (fun _ => yf_137 se wa (fun e w he hw => h s.1 e s.2 w hs.1 he hs.2 hw)) (fun z => absurd z (by omega)))
    (fun n i s hi hs hw => pk_le 32 i (fun z => absurd z (by omega)) (fun _ => bf_st i rfl (by omega) (by decide) (bf_st i rfl (by omega) (by decide) (nm_r (nI_1 i) (hw (_, _) ⟨bf_fl (f := fun _ => -1) hs.1 rfl, bf_fl (f := fun _ => -1) hs.2 rfl⟩)))))
theorem yf_78 {L T : Nat} {f1 f2 f3 f4 : Int32} (d se ce wa : Nat → Int32) (h1 : 1 ≤ L) (h5 : L ≤ 5) (h : ∀ a e c w, (∀ i, i < 32 → a i = -1) → (∀ i, i < 128 → e i = nI (i % 32)) → (∀ i, i < 32 → c i = -1) → (∀ i, i < 288 → w i = -1) → post (nI (2 ^ L), nI (2 * L - 1), nI T, nI 0, a, e, c, w)) : wY_init_78 post (nI L) (nI T) f1 f2 f3 f4 d se ce wa :=
  nm_r (bf_shl h1 h5) (nm_r (bf_2l h1) (yf_105 d se ce wa h))
theorem yf_57 {L : Nat} {y : Int32} {f1 f2 f3 f4 : Int32} (d se ce wa : Nat → Int32) (h1 : 1 ≤ L) (h5 : L ≤ 5) (h : ∀ a e c w, (∀ i, i < 32 → a i = -1) → (∀ i, i < 128 → e i = nI (i % 32)) → (∀ i, i < 32 → c i = -1) → (∀ i, i < 288 → w i = -1) → post (nI (2 ^ L), nI (2 * L - 1), nI (bf_cl y 4), nI 0, a, e, c, w)) : wY_init_57 post y (nI L) f1 f2 f3 f4 d se ce wa := by
  have z := yf_78 (f1 := f1) (f2 := f2) (f3 := f3) (f4 := f4) d se ce wa h1 h5 h
  rcases (bf_cl_c y (M := 4) (by decide) (by decide)).2 with ⟨a, b, c⟩ | ⟨a, b, c⟩ | ⟨a, c⟩
  · refine br_t a (br_t b ?_)
    exact bf_at (Q := fun t => wY_init_78 post (nI L) t f1 f2 f3 f4 d se ce wa) c z
  · rw [c] at z
    exact br_t a (br_f b z)
  · rw [c] at z
    exact br_f a z
theorem yf_init {x y : Int32} (h : ∀ a e c w, (∀ i, i < 32 → a i = -1) → (∀ i, i < 128 → e i = nI (i % 32)) → (∀ i, i < 32 → c i = -1) → (∀ i, i < 288 → w i = -1) → post (nI (2 ^ bf_cl x 5), nI (2 * bf_cl x 5 - 1), nI (bf_cl y 4), nI 0, a, e, c, w)) : wpY_init post x y := by
  have r := bf_cl_c x (M := 5) (by decide) (by decide)
  have z := yf_57 (post := post) (y := y) (f1 := 0) (f2 := 0) (f3 := 0) (f4 := 0) (fun _ => 0) (fun _ => 0) (fun _ => 0) (fun _ => 0) r.1.1 r.1.2 h
  rcases r.2 with ⟨a, b, c⟩ | ⟨a, b, c⟩ | ⟨a, c⟩
  · refine br_t a (br_t b ?_)
    exact bf_at (Q := fun t => wY_init_57 post y t 0 0 0 0 (fun _ => 0) (fun _ => 0) (fun _ => 0) (fun _ => 0)) c z
  · rw [c] at z
    exact br_t a (br_f b z)
  · rw [c] at z
    exact br_f a z
end BN
theorem xf_init {post : SX → Prop} {x y : Int32} {P S T : Nat} (hP' : P = 2 ^ bf_cl x 5) (hS' : S = 2 * bf_cl x 5 - 1) (hT' : T = bf_cl y 4)
    (h : ∀ a b c e l w, (∀ i, i < P → a i = -1) → (∀ i, i < P → b i = -1) → (∀ t, t < T → bf_PM P c e (t * P) ∧ ∀ i, i < P → c (t * P + i) = nI i) → (∀ i, i < P → l i = -1) → (∀ i, i < S * P → w i = -1) → post (nI P, nI S, nI T, nI 0, a, b, c, e, l, w)) : wpX_init post x y := by
  have rx := (bf_cl_c x (M := 5) (by decide) (by decide)).1
  have ry := (bf_cl_c y (M := 4) (by decide) (by decide)).1
  have H := bf_H0 rx.1 rx.2 ry.1 ry.2
  rw [← hP', ← hS', ← hT'] at H
  have hP : P ≤ 32 := H.2.1
  have hS : S ≤ 9 := H.2.2.2.1
  have hT : T ≤ 4 := H.2.2.2.2.2.1
  have key : ∀ a b l w, (∀ i, i < P → a i = -1) → (∀ i, i < P → b i = -1) → (∀ i, i < P → l i = -1) → (∀ i, i < S * P → w i = -1) →
      ∀ m s c e, s + m = T → (∀ t, t < s → bf_PM P c e (t * P) ∧ ∀ i, i < P → c (t * P + i) = nI i) → wX_init_106 post (m + 1) (nI s) (nI P) (nI S) (nI T) (nI 0) a b c e l w := by
    intro a b l w ha hb hl hw m
    induction m with
    | zero =>
      intro s c e hs hc
      have e1 : s = T := by omega
      subst e1
      exact pk_le s s (fun _ => h a b c e l w ha hb hc hl hw) (fun z => absurd z (by omega))
    | succ m ih =>
      intro s c e hs hc
      refine pk_le T s (fun z => absurd z (by omega)) (fun _ => xf_store hP hT (by omega) (bf_PD_nil ha hb) (fun c' e' hc' hf => nm_r (nI_1 s) (ih (s + 1) c' e' (by omega) (fun t ht => ?_))))
      by_cases et : t = s
      · subst et
        exact ⟨hc'.1, fun i hi => bf_CH_id hP hc' ha hb P i hi hi⟩
      · refine ⟨bf_PM_cg (hc t (by omega)).1 (fun x h1 h2 => hf x (bf_apart et h1 h2)), fun i hi => ?_⟩
        rw [(hf (t * P + i) (bf_apart et (by omega) (by omega))).1]
        exact (hc t (by omega)).2 i hi
  unfold wpX_init
  refine xf_clamp 5 (by decide) (by decide) (nm_r (e' := nI P) (by rw [hP']; exact bf_shl rx.1 rx.2) (nm_r (e' := nI S) (by rw [hS']; exact bf_2l rx.1) (xf_clamp 4 (by decide) (by decide) ?_)))
  rw [← hT']
  refine xf_emptyDraft (A := 0) hP (fun a b ha hb => xf_emptyLatch (A := 0) hP (fun l hl => xf_emptyWaves (A := 0) hP hS (fun w hw => ?_)))
  exact ⟨T + 1, key a b l w ha hb hl hw T 0 _ _ (by omega) (fun t ht => absurd ht (by omega))⟩
