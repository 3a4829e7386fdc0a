/-! the reference's own methods -/
section BY
variable {P S T A : Nat} {d se ce wa : Nat → Int32}
theorem yf_port_t {post : Int32 → Prop} {j : Nat} (hP : P ≤ 32) (hj : j < P) (h : post 1) : wpY_isPort post (nI P, nI S, nI T, nI A, d, se, ce, wa) (nI j) :=
  br_f (nI_pos (by omega)) (br_f (nI_ge hj (by omega)) h)
theorem yf_port_f {post : Int32 → Prop} {x : Int32} (hx : x < 0 ∨ nI P ≤ x) (h : post 0) : wpY_isPort post (nI P, nI S, nI T, nI A, d, se, ce, wa) x := by
  by_cases h0 : x < 0
  · exact br_t h0 h
  · exact br_f h0 (br_t (hx.resolve_left h0) h)
theorem yf_slot_t {post : Int32 → Prop} {j : Nat} (hT : T ≤ 4) (hj : j < T) (h : post 1) : wpY_isSlot post (nI P, nI S, nI T, nI A, d, se, ce, wa) (nI j) :=
  br_f (nI_pos (by omega)) (br_f (nI_ge hj (by omega)) h)
theorem yf_slot_f {post : Int32 → Prop} {x : Int32} (hx : x < 0 ∨ nI T ≤ x) (h : post 0) : wpY_isSlot post (nI P, nI S, nI T, nI A, d, se, ce, wa) x := by
  by_cases h0 : x < 0
  · exact br_t h0 h
  · exact br_f h0 (br_t (hx.resolve_left h0) h)
theorem yf_has {post : Int32 → Prop} {x : Int32} (hP : P ≤ 32) (h1 : (∃ j, j < P ∧ d j = x) → post 1) (h0 : (∀ j, j < P → ¬ d j = x) → post 0) : wpY_draftHasOutput post (nI P, nI S, nI T, nI A, d, se, ce, wa) x :=
  pk_loop (σ := Unit) (fun n i _ => wY_draftHasOutput_2 post x (nI P) (nI S) (nI T) (nI A) d se ce wa n (nI i)) (fun i _ => ∀ j, j < i → ¬ d j = x) P 0 () (by omega) (fun j hj => absurd hj (by omega))
    (fun n _ h => pk_le P P (fun _ => h0 h) (fun z => absurd z (by omega)))
    (fun n i _ hi h hw => pk_le P i (fun z => absurd z (by omega)) (fun _ => ⟨pk_in i 32 (by omega), by
      rw [nI_clamp (by omega)]
      exact br_c (fun e => h1 ⟨i, hi, e⟩) (fun e => nm_r (nI_1 i) (hw () (lt_s h e)))⟩))
theorem yf_find {post : Int32 → Prop} {x : Int32} {s : Nat} (hP : P ≤ 32) (hs : s < 4) (h1 : ∀ j, j < P → se (s * 32 + j) = x → post (nI j)) (h0 : (∀ j, j < P → ¬ se (s * 32 + j) = x) → post (-1)) : wpY_find post (nI P, nI S, nI T, nI A, d, se, ce, wa) (nI s) x :=
  pk_loop (σ := Unit) (fun n i _ => wY_find_2 post (nI s) x (nI P) (nI S) (nI T) (nI A) d se ce wa n (nI i)) (fun i _ => ∀ j, j < i → ¬ se (s * 32 + j) = x) P 0 () (by omega) (fun j hj => absurd hj (by omega))
    (fun n _ h => pk_le P P (fun _ => h0 h) (fun z => absurd z (by omega)))
    (fun n i _ hi h hw => pk_le P i (fun z => absurd z (by omega)) (fun _ => ⟨pk_in (s * 32 + i) 128 (by omega) (bf_m32 s i), by
      rw [bf_m32 s i, nI_clamp (by omega)]
      exact br_c (fun e => h1 i hi e) (fun e => nm_r (nI_1 i) (hw () (lt_s h e)))⟩))
theorem yf_countDraft {post : Int32 → Prop} (hP : P ≤ 32) (hV : ∀ i, i < P → bf_Vl (d i)) (h : post (nI (bf_cn d P))) : wpY_countDraft post (nI P, nI S, nI T, nI A, d, se, ce, wa) := by
  have key : ∀ m i, i + m = P → wY_countDraft_4 post (nI P) (nI S) (nI T) (nI A) d se ce wa (m + 1) (nI (bf_cn d i)) (nI i) := by
    intro m
    induction m with
    | zero =>
      intro i hi
      have e : i = P := by omega
      subst e
      exact pk_le i i (fun _ => h) (fun z => absurd z (by omega))
    | succ m ih =>
      intro i hi
      have t := ih (i + 1) (by omega)
      refine pk_le P i (fun z => absurd z (by omega)) (fun _ => ⟨pk_in i 32 (by omega), ?_⟩)
      rw [nI_clamp (by omega)]
      by_cases e : d i = -1
      · rw [bf_cn_t e] at t
        exact br_t ((bf_vl_lt (hV i (by omega))).mpr e) (nm_r (nI_1 i) t)
      · rw [bf_cn_f e] at t
        exact br_f (fun z => e ((bf_vl_lt (hV i (by omega))).mp z)) (nm_r (nI_1 _) (nm_r (nI_1 i) t))
  exact ⟨P + 1, key P 0 (by omega)⟩
theorem yf_countWave {post : Int32 → Prop} {q : Nat} (hP : P ≤ 32) (hq : q < 9) (hV : ∀ i, i < P → bf_Vl (wa (q * 32 + i))) (h : post (nI (bf_cn (fun o => wa (q * 32 + o)) P))) : wpY_countWave post (nI P, nI S, nI T, nI A, d, se, ce, wa) (nI q) := by
  have key : ∀ m i, i + m = P → wY_countWave_4 post (nI q) (nI P) (nI S) (nI T) (nI A) d se ce wa (m + 1) (nI (bf_cn (fun o => wa (q * 32 + o)) i)) (nI i) := by
    intro m
    induction m with
    | zero =>
      intro i hi
      have e : i = P := by omega
      subst e
      exact pk_le i i (fun _ => h) (fun z => absurd z (by omega))
    | succ m ih =>
      intro i hi
      have t := ih (i + 1) (by omega)
      refine pk_le P i (fun z => absurd z (by omega)) (fun _ => ⟨pk_in (q * 32 + i) 288 (by omega) (bf_m32 q i), ?_⟩)
      rw [bf_m32 q i, nI_clamp (by omega)]
      by_cases e : wa (q * 32 + i) = -1
      · rw [bf_cn_t (f := fun o => wa (q * 32 + o)) e] at t
        exact br_t ((bf_vl_lt (hV i (by omega))).mpr e) (nm_r (nI_1 i) t)
      · rw [bf_cn_f (f := fun o => wa (q * 32 + o)) e] at t
        exact br_f (fun z => e ((bf_vl_lt (hV i (by omega))).mp z)) (nm_r (nI_1 _) (nm_r (nI_1 i) t))
  exact ⟨P + 1, key P 0 (by omega)⟩
theorem yf_rq1 {post : Int32 → SY → Prop} {x y : Int32} (hx : x < 0 ∨ nI P ≤ x) (h : post (-2) (nI P, nI S, nI T, nI A, d, se, ce, wa)) : wpY_request post (nI P, nI S, nI T, nI A, d, se, ce, wa) x y := by
  unfold wpY_request
  dsimp only
  exact yf_port_f hx (br_t rfl h)
theorem yf_rq2 {post : Int32 → SY → Prop} {i : Nat} {y : Int32} (hP : P ≤ 32) (hi : i < P) (hy : y < 0 ∨ nI P ≤ y) (h : post (-2) (nI P, nI S, nI T, nI A, d, se, ce, wa)) : wpY_request post (nI P, nI S, nI T, nI A, d, se, ce, wa) (nI i) y := by
  unfold wpY_request
  dsimp only
  exact yf_port_t hP hi (br_f (by decide) (yf_port_f hy (br_t rfl h)))
theorem yf_rq3 {post : Int32 → SY → Prop} {i o : Nat} (hP : P ≤ 32) (hi : i < P) (ho : o < P) (hv : bf_Vl (d i)) (h1 : ¬ d i = -1) (h : post (-3) (nI P, nI S, nI T, nI A, d, se, ce, wa)) : wpY_request post (nI P, nI S, nI T, nI A, d, se, ce, wa) (nI i) (nI o) := by
  unfold wpY_request
  dsimp only
  exact yf_port_t hP hi (br_f (by decide) (yf_port_t hP ho (br_f (by decide) ⟨pk_in i 32 (by omega), br_f (by rw [nI_clamp (by omega)]; exact fun z => h1 ((bf_vl_lt hv).mp z)) h⟩)))
theorem yf_rq4 {post : Int32 → SY → Prop} {i o : Nat} (hP : P ≤ 32) (hi : i < P) (ho : o < P) (h1 : d i = -1) (h2 : ∃ j, j < P ∧ d j = nI o) (h : post (-4) (nI P, nI S, nI T, nI A, d, se, ce, wa)) : wpY_request post (nI P, nI S, nI T, nI A, d, se, ce, wa) (nI i) (nI o) := by
  unfold wpY_request
  dsimp only
  exact yf_port_t hP hi (br_f (by decide) (yf_port_t hP ho (br_f (by decide) ⟨pk_in i 32 (by omega), br_t (by rw [nI_clamp (by omega), h1]; decide) (yf_has hP (fun _ => br_f (by decide) h) (fun z => absurd h2 (fun ⟨j, hj, e⟩ => z j hj e)))⟩)))
theorem yf_rq5 {post : Int32 → SY → Prop} {i o : Nat} (hP : P ≤ 32) (hi : i < P) (ho : o < P) (h1 : d i = -1) (h2 : ∀ j, j < P → ¬ d j = nI o) (h : post 0 (nI P, nI S, nI T, nI A, upd d i (nI o), se, ce, wa)) : wpY_request post (nI P, nI S, nI T, nI A, d, se, ce, wa) (nI i) (nI o) := by
  unfold wpY_request
  dsimp only
  exact yf_port_t hP hi (br_f (by decide) (yf_port_t hP ho (br_f (by decide) ⟨pk_in i 32 (by omega), br_t (by rw [nI_clamp (by omega), h1]; decide) (yf_has hP (fun ⟨j, hj, e⟩ => absurd e (h2 j hj)) (fun _ => br_t rfl (bf_st i rfl (by omega) (by decide) h)))⟩)))
end BY
