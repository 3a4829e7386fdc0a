section BY2
variable {P S T A : Nat} {d se ce wa : Nat → Int32}
theorem yf_drafted0 {post : Int32 → Prop} {x : Int32} (hx : x < 0 ∨ nI P ≤ x) (h : post (-2)) : wpY_drafted post (nI P, nI S, nI T, nI A, d, se, ce, wa) x := by
  unfold wpY_drafted
  dsimp only
  exact yf_port_f hx (br_t rfl h)
theorem yf_drafted {post : Int32 → Prop} {i : Nat} (hP : P ≤ 32) (hi : i < P) (h : post (d i)) : wpY_drafted post (nI P, nI S, nI T, nI A, d, se, ce, wa) (nI i) := by
  unfold wpY_drafted
  dsimp only
  exact yf_port_t hP hi (br_f (by decide) (bf_rd i rfl (by omega) (by decide) h))
theorem yf_latched0 {post : Int32 → Prop} {x : Int32} (hx : x < 0 ∨ nI P ≤ x) (h : post (-2)) : wpY_latched post (nI P, nI S, nI T, nI A, d, se, ce, wa) x := by
  unfold wpY_latched
  dsimp only
  exact yf_port_f hx (br_t rfl h)
theorem yf_latched {post : Int32 → Prop} {i : Nat} (hP : P ≤ 32) (hi : i < P) (h : post (ce i)) : wpY_latched post (nI P, nI S, nI T, nI A, d, se, ce, wa) (nI i) := by
  unfold wpY_latched
  dsimp only
  exact yf_port_t hP hi (br_f (by decide) (bf_rd i rfl (by omega) (by decide) h))
theorem yf_wd1 {post : Int32 → SY → Prop} {x : Int32} (hx : x < 0 ∨ nI P ≤ x) (h : post (-2) (nI P, nI S, nI T, nI A, d, se, ce, wa)) : wpY_withdraw post (nI P, nI S, nI T, nI A, d, se, ce, wa) x := by
  unfold wpY_withdraw
  dsimp only
  exact yf_drafted0 hx (br_t (by decide) h)
theorem yf_wd2 {post : Int32 → SY → Prop} {i : Nat} (hP : P ≤ 32) (hi : i < P) (a : d i = -1) (h : post (-1) (nI P, nI S, nI T, nI A, d, se, ce, wa)) : wpY_withdraw post (nI P, nI S, nI T, nI A, d, se, ce, wa) (nI i) := by
  unfold wpY_withdraw
  dsimp only
  exact yf_drafted hP hi (by rw [a]; exact br_t (by decide) h)
theorem yf_wd3 {post : Int32 → SY → Prop} {i o : Nat} (hP : P ≤ 32) (hi : i < P) (ho : o < P) (a : d i = nI o) (h : post (nI o) (nI P, nI S, nI T, nI A, upd d i (-1), se, ce, wa)) : wpY_withdraw post (nI P, nI S, nI T, nI A, d, se, ce, wa) (nI i) := by
  unfold wpY_withdraw
  dsimp only
  exact yf_drafted hP hi (by rw [a]; exact (br_f (nI_pos (by omega)) (bf_st i rfl (by omega) (by decide) h)))
theorem yf_set0 {post : Int32 → SY → Prop} {x : Int32} (hx : x < 0 ∨ nI T ≤ x) (h : post (-2) (nI P, nI S, nI T, nI A, d, se, ce, wa)) : wpY_set post (nI P, nI S, nI T, nI A, d, se, ce, wa) x := by
  unfold wpY_set
  dsimp only
  exact yf_slot_f hx (br_t rfl h)
theorem yf_load0 {post : Int32 → SY → Prop} {x : Int32} (hx : x < 0 ∨ nI T ≤ x) (h : post (-2) (nI P, nI S, nI T, nI A, d, se, ce, wa)) : wpY_load post (nI P, nI S, nI T, nI A, d, se, ce, wa) x := by
  unfold wpY_load
  dsimp only
  exact yf_slot_f hx (br_t rfl h)
theorem yf_select0 {post : Int32 → SY → Prop} {x : Int32} (hx : x < 0 ∨ nI T ≤ x) (h : post (-2) (nI P, nI S, nI T, nI A, d, se, ce, wa)) : wpY_select post (nI P, nI S, nI T, nI A, d, se, ce, wa) x := by
  unfold wpY_select
  dsimp only
  exact yf_slot_f hx (br_t rfl h)
theorem yf_select {post : Int32 → SY → Prop} {s : Nat} (hT : T ≤ 4) (hs : s < T) (h : post 0 (nI P, nI S, nI T, nI s, d, se, ce, wa)) : wpY_select post (nI P, nI S, nI T, nI A, d, se, ce, wa) (nI s) := by
  unfold wpY_select
  dsimp only
  exact yf_slot_t hT hs (br_f (by decide) h)
theorem yf_route1 {post : Int32 → Prop} {x y : Int32} (hx : x < 0 ∨ nI T ≤ x) (h : post (-2)) : wpY_route post (nI P, nI S, nI T, nI A, d, se, ce, wa) x y := by
  unfold wpY_route
  dsimp only
  exact yf_slot_f hx (br_t rfl h)
theorem yf_route2 {post : Int32 → Prop} {s : Nat} {x : Int32} (hT : T ≤ 4) (hs : s < T) (hx : x < 0 ∨ nI P ≤ x) (h : post (-2)) : wpY_route post (nI P, nI S, nI T, nI A, d, se, ce, wa) (nI s) x := by
  unfold wpY_route
  dsimp only
  exact yf_slot_t hT hs (br_f (by decide) (yf_port_f hx (br_t rfl h)))
theorem yf_source1 {post : Int32 → Prop} {x y : Int32} (hx : x < 0 ∨ nI T ≤ x) (h : post (-2)) : wpY_source post (nI P, nI S, nI T, nI A, d, se, ce, wa) x y := by
  unfold wpY_source
  dsimp only
  exact yf_slot_f hx (br_t rfl h)
theorem yf_source2 {post : Int32 → Prop} {s : Nat} {x : Int32} (hT : T ≤ 4) (hs : s < T) (hx : x < 0 ∨ nI P ≤ x) (h : post (-2)) : wpY_source post (nI P, nI S, nI T, nI A, d, se, ce, wa) (nI s) x := by
  unfold wpY_source
  dsimp only
  exact yf_slot_t hT hs (br_f (by decide) (yf_port_f hx (br_t rfl h)))
theorem yf_route {post : Int32 → Prop} {s i : Nat} (hP : P ≤ 32) (hT : T ≤ 4) (hs : s < T) (hi : i < P) (h : post (se (s * 32 + i))) : wpY_route post (nI P, nI S, nI T, nI A, d, se, ce, wa) (nI s) (nI i) := by
  unfold wpY_route
  dsimp only
  exact yf_slot_t hT hs (br_f (by decide) (yf_port_t hP hi (br_f (by decide) (bf_rd (s * 32 + i) (bf_m32 s i) (by omega) (by decide) h))))
theorem yf_source {post : Int32 → Prop} {s i : Nat} (hP : P ≤ 32) (hT : T ≤ 4) (hs : s < T) (hi : i < P) (h1 : ∀ j, j < P → se (s * 32 + j) = nI i → post (nI j)) (h0 : (∀ j, j < P → ¬ se (s * 32 + j) = nI i) → post (-1)) : wpY_source post (nI P, nI S, nI T, nI A, d, se, ce, wa) (nI s) (nI i) := by
  unfold wpY_source
  dsimp only
  exact yf_slot_t hT hs (br_f (by decide) (yf_port_t hP hi (br_f (by decide) (yf_find hP (by omega) h1 h0))))
theorem yf_latch1 {post : Int32 → SY → Prop} {x y : Int32} (hx : x < 0 ∨ nI P ≤ x) (h : post (-2) (nI P, nI S, nI T, nI A, d, se, ce, wa)) : wpY_latch post (nI P, nI S, nI T, nI A, d, se, ce, wa) x y := by
  unfold wpY_latch
  dsimp only
  exact yf_port_f hx (br_t rfl h)
theorem yf_latch2 {post : Int32 → SY → Prop} {i : Nat} {y : Int32} (hP : P ≤ 32) (hi : i < P) (h0 : y < 0) (h : post (-2) (nI P, nI S, nI T, nI A, d, se, ce, wa)) : wpY_latch post (nI P, nI S, nI T, nI A, d, se, ce, wa) (nI i) y := by
  unfold wpY_latch
  dsimp only
  exact yf_port_t hP hi (br_f (by decide) (br_f (Int32.not_le.mpr h0) h))
theorem yf_latch3 {post : Int32 → SY → Prop} {i : Nat} {y : Int32} (hP : P ≤ 32) (hi : i < P) (h0 : ¬ y < 0) (hv : bf_Vl (ce i)) (h1 : ¬ ce i = -1) (h : post (-3) (nI P, nI S, nI T, nI A, d, se, ce, wa)) : wpY_latch post (nI P, nI S, nI T, nI A, d, se, ce, wa) (nI i) y := by
  unfold wpY_latch
  dsimp only
  exact yf_port_t hP hi (br_f (by decide) (br_t (Int32.not_lt.mp h0) ⟨pk_in i 32 (by omega), br_f (by rw [nI_clamp (by omega)]; exact fun z => h1 ((bf_vl_lt hv).mp z)) h⟩))
theorem yf_latch4 {post : Int32 → SY → Prop} {i : Nat} {y : Int32} (hP : P ≤ 32) (hi : i < P) (h0 : ¬ y < 0) (h1 : ce i = -1) (h : post 0 (nI P, nI S, nI T, nI A, d, se, upd ce i y, wa)) : wpY_latch post (nI P, nI S, nI T, nI A, d, se, ce, wa) (nI i) y := by
  unfold wpY_latch
  dsimp only
  exact yf_port_t hP hi (br_f (by decide) (br_t (Int32.not_lt.mp h0) ⟨pk_in i 32 (by omega), br_t (by rw [nI_clamp (by omega)]; rw [h1]; decide) (bf_st i rfl (by omega) (by decide) h)⟩))
theorem yf_output1 {post : Int32 → Prop} {x y : Int32} (hx : x < 0 ∨ nI P ≤ x) (h : post (-2)) : wpY_output post (nI P, nI S, nI T, nI A, d, se, ce, wa) x y := by
  unfold wpY_output
  dsimp only
  exact yf_port_f hx (br_t rfl h)
theorem yf_output2 {post : Int32 → Prop} {o : Nat} {x : Int32} (hP : P ≤ 32) (ho : o < P) (hx : x < 0 ∨ nI S ≤ x) (h : post (-2)) : wpY_output post (nI P, nI S, nI T, nI A, d, se, ce, wa) (nI o) x := by
  unfold wpY_output
  dsimp only
  exact yf_port_t hP ho (br_f (by decide) (br_c (fun _ => h) (fun z => br_f (fun w => absurd (hx.resolve_left z) (Int32.not_le.mpr w)) h)))
theorem yf_output {post : Int32 → Prop} {o q : Nat} (hP : P ≤ 32) (hS : S ≤ 9) (ho : o < P) (hq : q < S) (h : post (wa (q * 32 + o))) : wpY_output post (nI P, nI S, nI T, nI A, d, se, ce, wa) (nI o) (nI q) := by
  unfold wpY_output
  dsimp only
  exact yf_port_t hP ho (br_f (by decide) (br_f (nI_pos (by omega)) (br_t (nI_lt hq (by omega)) (bf_rd (q * 32 + o) (bf_m32 q o) (by omega) (by decide) h))))
end BY2
