section BX3
variable {P S T A : Nat} {dO dI sO sI lc wv : Nat → Int32}
theorem xf_cnt_d {post : Int32 → Prop} {p e : Nat} (hp : p ≤ e) (he : e ≤ 32) (h : post (nI (bf_cn (fun j => dO (p + j)) (e - p)))) : wpX_countHeld post dO (nI p) (nI e) := by
  have key : ∀ m i, i + m = e - p → wX_countHeld_5 post (nI e) dO (m + 1) (nI (bf_cn (fun j => dO (p + j)) i)) (nI (p + i)) := by
    intro m
    induction m with
    | zero =>
      intro i hi
      have e1 : i = e - p := by omega
      subst e1
      exact pk_le e (p + (e - p)) (fun _ => h) (fun z => absurd z (by omega))
    | succ m ih =>
      intro i hi
      have t := ih (i + 1) (by omega)
      refine pk_le e (p + i) (fun z => absurd z (by omega)) (fun _ => ⟨pk_in (p + i) 32 (by omega), ?_⟩)
      rw [nI_clamp (by omega)]
      by_cases z : dO (p + i) = -1
      · rw [bf_cn_t (f := fun j => dO (p + j)) z] at t
        exact br_t z (nm_r (nI_1 (p + i)) t)
      · rw [bf_cn_f (f := fun j => dO (p + j)) z] at t
        exact br_f z (nm_r (nI_1 _) (nm_r (nI_1 (p + i)) t))
  exact ⟨e - p + 1, key (e - p) 0 (by omega)⟩
theorem xf_cnt_d0 {post : Int32 → Prop} {e : Nat} (he : e ≤ 32) (h : post (nI (bf_cn dO e))) : wpX_countHeld post dO 0 (nI e) := by
  have q : bf_cn (fun j => dO (0 + j)) (e - 0) = bf_cn dO e := bf_cn_cg e (fun j _ => by rw [Nat.zero_add])
  exact xf_cnt_d (p := 0) (Nat.zero_le e) he (by rw [q]; exact h)
theorem xf_cnt_w {post : Int32 → Prop} {p e : Nat} (hp : p ≤ e) (he : e ≤ 288) (h : post (nI (bf_cn (fun j => dO (p + j)) (e - p)))) : wpX_countHeld_2 post dO (nI p) (nI e) := by
  have key : ∀ m i, i + m = e - p → wX_countHeld_2_5 post (nI e) dO (m + 1) (nI (bf_cn (fun j => dO (p + j)) i)) (nI (p + i)) := by
    intro m
    induction m with
    | zero =>
      intro i hi
      have e1 : i = e - p := by omega
      subst e1
      exact pk_le e (p + (e - p)) (fun _ => h) (fun z => absurd z (by omega))
    | succ m ih =>
      intro i hi
      have t := ih (i + 1) (by omega)
      refine pk_le e (p + i) (fun z => absurd z (by omega)) (fun _ => ⟨pk_in (p + i) 288 (by omega), ?_⟩)
      rw [nI_clamp (by omega)]
      by_cases z : dO (p + i) = -1
      · rw [bf_cn_t (f := fun j => dO (p + j)) z] at t
        exact br_t z (nm_r (nI_1 (p + i)) t)
      · rw [bf_cn_f (f := fun j => dO (p + j)) z] at t
        exact br_f z (nm_r (nI_1 _) (nm_r (nI_1 (p + i)) t))
  exact ⟨e - p + 1, key (e - p) 0 (by omega)⟩
theorem xf_cnt_w0 {post : Int32 → Prop} {e : Nat} (he : e ≤ 288) (h : post (nI (bf_cn dO e))) : wpX_countHeld_2 post dO 0 (nI e) := by
  have q : bf_cn (fun j => dO (0 + j)) (e - 0) = bf_cn dO e := bf_cn_cg e (fun j _ => by rw [Nat.zero_add])
  exact xf_cnt_w (p := 0) (Nat.zero_le e) he (by rw [q]; exact h)
theorem xf_store {post : St2 → Prop} {s : Nat} (hP : P ≤ 32) (hT : T ≤ 4) (hs : s < T) (pd : bf_PD P dO dI)
    (h : ∀ a b, bf_CH P (s * P) dO dI a b → (∀ x, x < s * P ∨ s * P + P ≤ x → a x = sO x ∧ b x = sI x) → post (nI P, nI S, nI T, nI A, dO, dI, a, b, lc, wv)) : wpX_storeDraft post (nI P, nI S, nI T, nI A, dO, dI, sO, sI, lc, wv) (nI s) := by
  have key : ∀ m i f a b, i + m = P → bf_SI P (s * P) dO dI i f a b → (∀ x, x < s * P ∨ s * P + P ≤ x → a x = sO x ∧ b x = sI x) → wX_storeDraft_4 post (nI s) (nI P) (nI S) (nI T) (nI A) (m + 1) (nI f) (nI i) dO dI a b lc wv := by
    intro m
    induction m with
    | zero =>
      intro i f a b hi si fr
      have e1 : i = P := by omega
      subst e1
      exact pk_le i i (fun _ => h a b (bf_SI_end hP pd si) fr) (fun z => absurd z (by omega))
    | succ m ih =>
      intro i f a b hi si fr
      have hiP : i < P := by omega
      have join : ∀ g o, o < P → bf_SI P (s * P) dO dI (i + 1) g (upd a (s * P + i) (nI o)) (upd b (s * P + o) (nI i)) → wX_storeDraft_4 post (nI s) (nI P) (nI S) (nI T) (nI A) (m + 1) (nI g) (nI (i + 1)) dO dI (upd a (s * P + i) (nI o)) (upd b (s * P + o) (nI i)) lc wv := by
        intro g o ho si'
        refine ih (i + 1) g _ _ (by omega) si' (fun x hx => ?_)
        rw [pk_un (by omega), pk_un (by omega)]
        exact fr x hx
      refine pk_le P i (fun z => absurd z (by omega)) (fun _ => bf_ld i rfl (by omega) (by decide) ?_)
      by_cases e : dO i = -1
      · obtain ⟨o0, q1, q2, q3⟩ := bf_SI_ex si hiP e pd.2.2
        obtain ⟨o, ho, ⟨hfo, h2⟩, hl⟩ := bf_least (Q := fun o => f ≤ o ∧ dI o = -1) P ⟨o0, q2, q1, q3⟩
        have h3 : ∀ q, f ≤ q → q < o → ¬ dI q = -1 := fun q a1 a2 a3 => hl q a2 ⟨a1, a3⟩
        refine br_t e (xf_free hP hfo ho h2 h3 (nm_r (nI_1 o) ?_))
        exact bf_st (s * P + i) (bf_mi s P i) (bf_ix4 hs hT hiP hP) (by decide) (bf_st (s * P + o) (bf_mi s P o) (bf_ix4 hs hT ho hP) (by decide) (nm_r (nI_1 i) (join (o + 1) o ho (bf_SI_f hP si hiP hfo ho e h2 h3))))
      · rcases pd.1 i hiP with z | ⟨o, ho, h1, h2⟩
        · exact absurd z e
        · rw [h1]
          exact br_f (bf_ne1 (by omega)) (bf_st (s * P + i) (bf_mi s P i) (bf_ix4 hs hT hiP hP) (by decide) (bf_st (s * P + o) (bf_mi s P o) (bf_ix4 hs hT ho hP) (by decide) (nm_r (nI_1 i) (join f o ho (bf_SI_d hP si hiP ho h1 h2)))))
  exact ⟨P + 1, key P 0 0 sO sI (by omega) bf_SI_0 (fun x _ => ⟨rfl, rfl⟩)⟩
theorem xf_clear {post : Int32 → St2 → Prop} (hP : P ≤ 32) (h : ∀ a b, (∀ i, i < P → a i = -1) → (∀ i, i < P → b i = -1) → post (nI (bf_cn dO P)) (nI P, nI S, nI T, nI A, a, b, sO, sI, lc, wv)) : wpX_clear post (nI P, nI S, nI T, nI A, dO, dI, sO, sI, lc, wv) := by
  unfold wpX_clear
  dsimp only
  exact xf_cnt_d0 hP (xf_emptyDraft hP (fun a b ha hb => h a b ha hb))
theorem xf_set {post : Int32 → St2 → Prop} {s : Nat} (hP : P ≤ 32) (hT : T ≤ 4) (hs : s < T) (pd : bf_PD P dO dI)
    (h : ∀ a b, bf_CH P (s * P) dO dI a b → (∀ x, x < s * P ∨ s * P + P ≤ x → a x = sO x ∧ b x = sI x) → post (nI P - nI (bf_cn dO P)) (nI P, nI S, nI T, nI A, dO, dI, a, b, lc, wv)) : wpX_set post (nI P, nI S, nI T, nI A, dO, dI, sO, sI, lc, wv) (nI s) := by
  unfold wpX_set
  dsimp only
  exact xf_slot_t hT hs (br_f (by decide) (xf_store hP hT hs pd (fun a b hc hf => xf_cnt_d0 hP (h a b hc hf))))
theorem xf_load {post : Int32 → St2 → Prop} {s : Nat} (hP : P ≤ 32) (hT : T ≤ 4) (hs : s < T)
    (h : ∀ a b, (∀ i, i < P → a i = sO (s * P + i)) → (∀ i, i < P → b i = sI (s * P + i)) → post 0 (nI P, nI S, nI T, nI A, a, b, sO, sI, lc, wv)) : wpX_load post (nI P, nI S, nI T, nI A, dO, dI, sO, sI, lc, wv) (nI s) := by
  have key : ∀ m i a b, i + m = P → (∀ j, j < i → a j = sO (s * P + j)) → (∀ j, j < i → b j = sI (s * P + j)) → wX_load_13 post (nI s) (nI P) (nI S) (nI T) (nI A) (m + 1) (nI i) a b sO sI lc wv := by
    intro m
    induction m with
    | zero =>
      intro i a b hi ha hb
      have e1 : i = P := by omega
      subst e1
      exact pk_le i i (fun _ => h a b ha hb) (fun z => absurd z (by omega))
    | succ m ih =>
      intro i a b hi ha hb
      have hx := bf_ix4 (i := i) hs hT (by omega) hP
      refine pk_le P i (fun z => absurd z (by omega)) (fun _ => ⟨pk_in (s * P + i) 128 hx (bf_mi s P i), bf_st i rfl (by omega) (by decide) ⟨pk_in (s * P + i) 128 hx (bf_mi s P i), bf_st i rfl (by omega) (by decide) (nm_r (nI_1 i) ?_)⟩⟩)
      rw [bf_mi s P i, nI_clamp (by omega)]
      exact ih (i + 1) _ _ (by omega) (bf_fl (f := fun j => sO (s * P + j)) ha rfl) (bf_fl (f := fun j => sI (s * P + j)) hb rfl)
  unfold wpX_load
  dsimp only
  exact xf_slot_t hT hs (br_f (by decide) ⟨P + 1, key P 0 dO dI (by omega) (fun j hj => absurd hj (by omega)) (fun j hj => absurd hj (by omega))⟩)
theorem xf_launch {post : St2 → Prop} (hP : P ≤ 32) (hS1 : 1 ≤ S) (hS : S ≤ 9) (hT : T ≤ 4) (hA : A < T) (pm : bf_PM P sO sI (A * P))
    (h : ∀ w, (∀ x, x < (S - 1) * P → w x = wv x) → (∀ o, o < P → w ((S - 1) * P + o) = lc (sI (A * P + o)).toNatClampNeg) → post (nI P, nI S, nI T, nI A, dO, dI, sO, sI, lc, w)) : wpX_launchLatch post (nI P, nI S, nI T, nI A, dO, dI, sO, sI, lc, wv) := by
  have hb : (S - 1) * P + P ≤ 288 := by
    have : S * P ≤ 9 * 32 := Nat.mul_le_mul hS hP
    have e : S * P = (S - 1) * P + P := by
      obtain ⟨r, rfl⟩ : ∃ r, S = r + 1 := ⟨S - 1, by omega⟩
      rw [Nat.add_mul, Nat.one_mul, Nat.add_sub_cancel]
    omega
  have key : ∀ m i w, i + m = P → (∀ x, x < (S - 1) * P → w x = wv x) → (∀ o, o < i → w ((S - 1) * P + o) = lc (sI (A * P + o)).toNatClampNeg) → wX_launchLatch_14 post (nI ((S - 1) * P)) (nI P) (nI S) (nI T) (nI A) (m + 1) (nI i) dO dI sO sI lc w := by
    intro m
    induction m with
    | zero =>
      intro i w hi h1 h2
      have e1 : i = P := by omega
      subst e1
      exact pk_le i i (fun _ => h w h1 h2) (fun z => absurd z (by omega))
    | succ m ih =>
      intro i w hi h1 h2
      obtain ⟨j, hj, a, _⟩ := pm.2 i (by omega)
      have hx := bf_ix4 (i := i) hA hT (by omega) hP
      refine pk_le P i (fun z => absurd z (by omega)) (fun _ => bf_ld (A * P + i) (bf_mi A P i) hx (by decide) ?_)
      rw [a]
      refine ⟨pk_in j 32 (by omega), bf_st ((S - 1) * P + i) (nI_add _ _) (by omega) (by decide) (nm_r (nI_1 i) (ih (i + 1) _ (by omega) (fun x hx2 => ?_) (fun o ho => ?_)))⟩
      · rw [pk_un (by omega)]
        exact h1 x hx2
      · by_cases e : o = i
        · rw [e, pk_us, a]
        · rw [pk_un (by omega)]
          exact h2 o (by omega)
  unfold wpX_launchLatch
  dsimp only
  refine nm_r (e' := nI ((S - 1) * P)) ?_ ⟨P + 1, key P 0 wv (by omega) (fun x _ => rfl) (fun o ho => absurd ho (by omega))⟩
  rw [show nI S - 1 = nI (S - 1) from pk_sub (b := 1) hS1, pk_mul]
theorem xf_tick {post : Int32 → St2 → Prop} (hP : P ≤ 32) (hS1 : 1 ≤ S) (hS : S ≤ 9) (hT : T ≤ 4) (hA : A < T) (pm : bf_PM P sO sI (A * P))
    (h : ∀ w l, (∀ x, x + P < S * P → w x = wv (x + P)) → (∀ o, o < P → w ((S - 1) * P + o) = lc (sI (A * P + o)).toNatClampNeg) → (∀ i, i < P → l i = -1) → post (nI (bf_cn w P)) (nI P, nI S, nI T, nI A, dO, dI, sO, sI, l, w)) : wpX_tick post (nI P, nI S, nI T, nI A, dO, dI, sO, sI, lc, wv) := by
  unfold wpX_tick
  dsimp only
  have e : S * P = (S - 1) * P + P := by
    obtain ⟨r, rfl⟩ : ∃ r, S = r + 1 := ⟨S - 1, by omega⟩
    rw [Nat.add_mul, Nat.one_mul, Nat.add_sub_cancel]
  have hb : S * P ≤ 9 * 32 := Nat.mul_le_mul hS hP
  refine xf_advance hP hS hS1 (fun w hw => xf_launch hP hS1 hS hT hA pm (fun w2 h1 h2 => xf_emptyLatch hP (fun l hl => ?_)))
  exact xf_cnt_w0 (by omega) (h w2 l (fun x hx => by rw [h1 x (by omega)]; exact hw x hx) h2 hl)
theorem xf_fill {post : Int32 → St2 → Prop} {mu ad : Int32} (hP : P ≤ 32) (hL : ∃ L, P = 2 ^ L)
    (h : post (nI (bf_fz P mu ad dO dI P).2.2) (nI P, nI S, nI T, nI A, (bf_fz P mu ad dO dI P).1, (bf_fz P mu ad dO dI P).2.1, sO, sI, lc, wv)) : wpX_fill post (nI P, nI S, nI T, nI A, dO, dI, sO, sI, lc, wv) mu ad := by
  have key : ∀ m i, i + m = P → wX_fill_5 post mu ad (m + 1) (nI (bf_fz P mu ad dO dI i).2.2) (nI i) (nI P) (nI S) (nI T) (nI A) (bf_fz P mu ad dO dI i).1 (bf_fz P mu ad dO dI i).2.1 sO sI lc wv := by
    intro m
    induction m with
    | zero =>
      intro i hi
      have e1 : i = P := by omega
      subst e1
      exact pk_le i i (fun _ => h) (fun z => absurd z (by omega))
    | succ m ih =>
      intro i hi
      have t := ih (i + 1) (by omega)
      have ho : bf_out P mu ad i < P := bf_out_lt hL
      refine pk_le P i (fun z => absurd z (by omega)) (fun _ => nm_r (bf_out_e hP hL) ⟨pk_in i 32 (by omega), ?_⟩)
      rw [nI_clamp (n := i) (by omega)]
      by_cases h1 : (bf_fz P mu ad dO dI i).1 i = -1
      · refine br_t h1 ⟨pk_in (bf_out P mu ad i) 32 (by omega), ?_⟩
        rw [nI_clamp (n := bf_out P mu ad i) (by omega)]
        by_cases h2 : (bf_fz P mu ad dO dI i).2.1 (bf_out P mu ad i) = -1
        · rw [bf_fz_t h1 h2] at t
          exact br_t h2 (xf_add hP (by omega) ho (nm_r (nI_1 _) (nm_r (nI_1 i) t)))
        · rw [bf_fz_f (fun z => h2 z.2)] at t
          exact br_f h2 (nm_r (nI_1 i) t)
      · rw [bf_fz_f (fun z => h1 z.1)] at t
        exact br_f h1 (nm_r (nI_1 i) t)
  exact ⟨P + 1, key P 0 (by omega)⟩
end BX3
/-! the constructors -/
def bf_cl (x : Int32) (M : Nat) : Nat := if 1 ≤ x then (if x ≤ nI M then x.toNatClampNeg else M) else 1
theorem bf_cl_c (x : Int32) {M : Nat} (hM : M < 2 ^ 31) (hM1 : 1 ≤ M) : (1 ≤ bf_cl x M ∧ bf_cl x M ≤ M) ∧ ((1 ≤ x ∧ x ≤ nI M ∧ x = nI (bf_cl x M)) ∨ (1 ≤ x ∧ ¬ x ≤ nI M ∧ bf_cl x M = M) ∨ (¬ 1 ≤ x ∧ bf_cl x M = 1)) := by
  by_cases h : 1 ≤ x
  · by_cases h2 : x ≤ nI M
    · have h0 : ¬ x < 0 := fun z => absurd (Int32.lt_of_le_of_lt h z) (by decide)
      obtain ⟨j, hj, rfl⟩ := nI_of h0
      have e : bf_cl (nI j) M = j := by
        unfold bf_cl
        rw [if_pos h, if_pos h2, nI_clamp hj]
      have h' : nI 1 ≤ nI j := h
      rw [nI_leI (by omega) hj] at h'
      have h2' := h2
      rw [nI_leI hj hM] at h2'
      rw [e]
      exact ⟨⟨h', h2'⟩, Or.inl ⟨h, h2, rfl⟩⟩
    · have e : bf_cl x M = M := by
        unfold bf_cl
        rw [if_pos h, if_neg h2]
      rw [e]
      exact ⟨⟨hM1, Nat.le_refl M⟩, Or.inr (Or.inl ⟨h, h2, rfl⟩)⟩
  · have e : bf_cl x M = 1 := by
      unfold bf_cl
      rw [if_neg h]
    rw [e]
    exact ⟨⟨Nat.le_refl 1, hM1⟩, Or.inr (Or.inr ⟨h, rfl⟩)⟩
theorem bf_at {Q : Int32 → Prop} {x y : Int32} (e : x = y) (h : Q y) : Q x := by rw [e]; exact h
theorem xf_clamp {post : Int32 → Prop} {x : Int32} (M : Nat) (hM : M < 2 ^ 31) (hM1 : 1 ≤ M) (h : post (nI (bf_cl x M))) : wpX_clampFromOne post () x (nI M) := by
  rcases (bf_cl_c x hM hM1).2 with ⟨a, b, c⟩ | ⟨a, b, c⟩ | ⟨a, c⟩
  · exact br_t a (br_t b (bf_at c h))
  · rw [c] at h
    exact br_t a (br_f b h)
  · rw [c] at h
    exact br_f a h
theorem bf_shl {L : Nat} (h1 : 1 ≤ L) (h5 : L ≤ 5) : (1 : Int32) <<< (nI L &&& 31) = nI (2 ^ L) := by
  rcases (by omega : L = 1 ∨ L = 2 ∨ L = 3 ∨ L = 4 ∨ L = 5) with rfl | rfl | rfl | rfl | rfl <;> decide
theorem bf_2l {L : Nat} (h1 : 1 ≤ L) : (2 : Int32) * nI L - 1 = nI (2 * L - 1) := by
  rw [show (2 : Int32) * nI L = nI (2 * L) from pk_mul 2 L]
  exact pk_sub (b := 1) (by omega)
theorem bf_H0 {L T : Nat} (h1 : 1 ≤ L) (h5 : L ≤ 5) (t1 : 1 ≤ T) (t4 : T ≤ 4) : bf_H (2 ^ L) (2 * L - 1) T 0 := by
  refine ⟨?_, ?_, by omega, by omega, t1, t4, by omega, L, rfl⟩
  · exact Nat.pow_le_pow_right (n := 2) (by omega) h1
  · have z : 2 ^ L ≤ 2 ^ 5 := Nat.pow_le_pow_right (by omega) h5
    exact z
theorem xf_init {post : St2 → Prop} {x y : Int32} {P S T : Nat} (hP' : P = 2 ^ bf_cl x 5) (hS' : S = 2 * bf_cl x 5 - 1) (hT' : T = bf_cl y 4)
    (h : ∀ a b c e l w, (∀ i, i < P → a i = -1) → (∀ i, i < P → b i = -1) → (∀ t, t < T → bf_PM P c e (t * P) ∧ ∀ i, i < P → c (t * P + i) = nI i) → (∀ i, i < P → l i = -1) → (∀ i, i < S * P → w i = -1) → post (nI P, nI S, nI T, nI 0, a, b, c, e, l, w)) : wpX_init post 6 640 (0, 0, 0, 0) x y := by
  have rx := (bf_cl_c x (M := 5) (by decide) (by decide)).1
  have ry := (bf_cl_c y (M := 4) (by decide) (by decide)).1
  have H := bf_H0 rx.1 rx.2 ry.1 ry.2
  rw [← hP', ← hS', ← hT'] at H
  have hP : P ≤ 32 := H.2.1
  have hS : S ≤ 9 := H.2.2.2.1
  have hT : T ≤ 4 := H.2.2.2.2.2.1
  have key : ∀ a b l w, (∀ i, i < P → a i = -1) → (∀ i, i < P → b i = -1) → (∀ i, i < P → l i = -1) → (∀ i, i < S * P → w i = -1) →
      ∀ m s c e, s + m = T → (∀ t, t < s → bf_PM P c e (t * P) ∧ ∀ i, i < P → c (t * P + i) = nI i) → wX_init_106 post 6 640 6 640 (m + 1) (nI s) (nI P) (nI S) (nI T) (nI 0) a b c e l w := by
    intro a b l w ha hb hl hw m
    induction m with
    | zero =>
      intro s c e hs hc
      have e1 : s = T := by omega
      subst e1
      exact pk_le s s (fun _ => h a b c e l w ha hb hc hl hw) (fun z => absurd z (by omega))
    | succ m ih =>
      intro s c e hs hc
      refine pk_le T s (fun z => absurd z (by omega)) (fun _ => xf_store hP hT (by omega) (bf_PD_nil ha hb) (fun c' e' hc' hf => nm_r (nI_1 s) (ih (s + 1) c' e' (by omega) (fun t ht => ?_))))
      by_cases et : t = s
      · subst et
        exact ⟨hc'.1, fun i hi => bf_CH_id hP hc' ha hb P i hi hi⟩
      · refine ⟨bf_PM_cg (hc t (by omega)).1 (fun x h1 h2 => hf x (bf_apart et h1 h2)), fun i hi => ?_⟩
        rw [(hf (t * P + i) (bf_apart et (by omega) (by omega))).1]
        exact (hc t (by omega)).2 i hi
  unfold wpX_init
  refine ⟨by decide, by decide, by decide, by decide, by decide, by decide, by decide, by decide, by decide, by decide, by decide, by decide, ?_⟩
  refine xf_clamp 5 (by decide) (by decide) (nm_r (e' := nI P) (by rw [hP']; exact bf_shl rx.1 rx.2) (nm_r (e' := nI S) (by rw [hS']; exact bf_2l rx.1) (xf_clamp 4 (by decide) (by decide) ?_)))
  rw [← hT']
  refine xf_emptyDraft (A := 0) hP (fun a b ha hb => xf_emptyLatch (A := 0) hP (fun l hl => xf_emptyWaves (A := 0) hP hS (fun w hw => ?_)))
  exact ⟨T + 1, key a b l w ha hb hl hw T 0 _ _ (by omega) (fun t ht => absurd ht (by omega))⟩
