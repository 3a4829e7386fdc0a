section BX2
variable {P S T A : Nat} {dO dI sO sI lc wv : Nat → Int32}
theorem xf_rq1 {post : Int32 → St2 → Prop} {x y : Int32} (hx : x < 0 ∨ nI P ≤ x) (h : post (-2) (nI P, nI S, nI T, nI A, dO, dI, sO, sI, lc, wv)) : wpX_request post (nI P, nI S, nI T, nI A, dO, dI, sO, sI, lc, wv) x y := by
  unfold wpX_request
  dsimp only
  exact xf_port_f hx (br_t rfl h)
theorem xf_rq2 {post : Int32 → St2 → Prop} {i : Nat} {x : Int32} (hP : P ≤ 32) (hi : i < P) (hx : x < 0 ∨ nI P ≤ x) (h : post (-2) (nI P, nI S, nI T, nI A, dO, dI, sO, sI, lc, wv)) : wpX_request post (nI P, nI S, nI T, nI A, dO, dI, sO, sI, lc, wv) (nI i) x := by
  unfold wpX_request
  dsimp only
  exact xf_port_t hP hi (br_f (by decide) (xf_port_f hx (br_t rfl h)))
theorem xf_rq3 {post : Int32 → St2 → Prop} {i o : Nat} (hP : P ≤ 32) (hi : i < P) (ho : o < P) (h1 : ¬ dO i = -1) (h : post (-3) (nI P, nI S, nI T, nI A, dO, dI, sO, sI, lc, wv)) : wpX_request post (nI P, nI S, nI T, nI A, dO, dI, sO, sI, lc, wv) (nI i) (nI o) := by
  unfold wpX_request
  dsimp only
  exact xf_port_t hP hi (br_f (by decide) (xf_port_t hP ho (br_f (by decide) ⟨pk_in i 32 (by omega), br_f (by rw [nI_clamp (by omega)]; exact h1) h⟩)))
theorem xf_rq4 {post : Int32 → St2 → Prop} {i o : Nat} (hP : P ≤ 32) (hi : i < P) (ho : o < P) (h1 : dO i = -1) (h2 : ¬ dI o = -1) (h : post (-4) (nI P, nI S, nI T, nI A, dO, dI, sO, sI, lc, wv)) : wpX_request post (nI P, nI S, nI T, nI A, dO, dI, sO, sI, lc, wv) (nI i) (nI o) := by
  unfold wpX_request
  dsimp only
  exact xf_port_t hP hi (br_f (by decide) (xf_port_t hP ho (br_f (by decide) ⟨pk_in i 32 (by omega), br_t (by rw [nI_clamp (by omega)]; exact h1) ⟨pk_in o 32 (by omega), br_f (by rw [nI_clamp (by omega)]; exact h2) h⟩⟩)))
theorem xf_rq5 {post : Int32 → St2 → Prop} {i o : Nat} (hP : P ≤ 32) (hi : i < P) (ho : o < P) (h1 : dO i = -1) (h2 : dI o = -1) (h : post 0 (nI P, nI S, nI T, nI A, upd dO i (nI o), upd dI o (nI i), sO, sI, lc, wv)) : wpX_request post (nI P, nI S, nI T, nI A, dO, dI, sO, sI, lc, wv) (nI i) (nI o) := by
  unfold wpX_request
  dsimp only
  exact xf_port_t hP hi (br_f (by decide) (xf_port_t hP ho (br_f (by decide) ⟨pk_in i 32 (by omega), br_t (by rw [nI_clamp (by omega)]; exact h1) ⟨pk_in o 32 (by omega), br_t (by rw [nI_clamp (by omega)]; exact h2) (xf_add hP hi ho h)⟩⟩)))
theorem xf_wd1 {post : Int32 → St2 → Prop} {x : Int32} (hx : x < 0 ∨ nI P ≤ x) (h : post (-2) (nI P, nI S, nI T, nI A, dO, dI, sO, sI, lc, wv)) : wpX_withdraw post (nI P, nI S, nI T, nI A, dO, dI, sO, sI, lc, wv) x := by
  unfold wpX_withdraw
  dsimp only
  exact xf_port_f hx (br_t rfl h)
theorem xf_wd2 {post : Int32 → St2 → Prop} {i : Nat} (hP : P ≤ 32) (hi : i < P) (a : dO i = -1) (h : post (-1) (nI P, nI S, nI T, nI A, dO, dI, sO, sI, lc, wv)) : wpX_withdraw post (nI P, nI S, nI T, nI A, dO, dI, sO, sI, lc, wv) (nI i) := by
  unfold wpX_withdraw
  dsimp only
  exact xf_port_t hP hi (br_f (by decide) (bf_ld i rfl (by omega) (by decide) (br_t a h)))
theorem xf_wd3 {post : Int32 → St2 → Prop} {i o : Nat} (hP : P ≤ 32) (hi : i < P) (ho : o < P) (a : dO i = nI o) (h : post (nI o) (nI P, nI S, nI T, nI A, upd dO i (-1), upd dI o (-1), sO, sI, lc, wv)) : wpX_withdraw post (nI P, nI S, nI T, nI A, dO, dI, sO, sI, lc, wv) (nI i) := by
  unfold wpX_withdraw
  dsimp only
  exact xf_port_t hP hi (br_f (by decide) (bf_ld i rfl (by omega) (by decide) (by rw [a]; exact br_f (bf_ne1 (by omega)) (bf_st i rfl (by omega) (by decide) (bf_st o rfl (by omega) (by decide) h)))))
theorem xf_set0 {post : Int32 → St2 → Prop} {x : Int32} (hx : x < 0 ∨ nI T ≤ x) (h : post (-2) (nI P, nI S, nI T, nI A, dO, dI, sO, sI, lc, wv)) : wpX_set post (nI P, nI S, nI T, nI A, dO, dI, sO, sI, lc, wv) x := by
  unfold wpX_set
  dsimp only
  exact xf_slot_f hx (br_t rfl h)
theorem xf_load0 {post : Int32 → St2 → Prop} {x : Int32} (hx : x < 0 ∨ nI T ≤ x) (h : post (-2) (nI P, nI S, nI T, nI A, dO, dI, sO, sI, lc, wv)) : wpX_load post (nI P, nI S, nI T, nI A, dO, dI, sO, sI, lc, wv) x := by
  unfold wpX_load
  dsimp only
  exact xf_slot_f hx (br_t rfl h)
theorem xf_select0 {post : Int32 → St2 → Prop} {x : Int32} (hx : x < 0 ∨ nI T ≤ x) (h : post (-2) (nI P, nI S, nI T, nI A, dO, dI, sO, sI, lc, wv)) : wpX_select post (nI P, nI S, nI T, nI A, dO, dI, sO, sI, lc, wv) x := by
  unfold wpX_select
  dsimp only
  exact xf_slot_f hx (br_t rfl h)
theorem xf_select {post : Int32 → St2 → Prop} {s : Nat} (hT : T ≤ 4) (hs : s < T) (h : post 0 (nI P, nI S, nI T, nI s, dO, dI, sO, sI, lc, wv)) : wpX_select post (nI P, nI S, nI T, nI A, dO, dI, sO, sI, lc, wv) (nI s) := by
  unfold wpX_select
  dsimp only
  exact xf_slot_t hT hs (br_f (by decide) h)
theorem xf_route1 {post : Int32 → Prop} {x y : Int32} (hx : x < 0 ∨ nI T ≤ x) (h : post (-2)) : wpX_route post (nI P, nI S, nI T, nI A, dO, dI, sO, sI, lc, wv) x y := by
  unfold wpX_route
  dsimp only
  exact xf_slot_f hx (br_t rfl h)
theorem xf_route2 {post : Int32 → Prop} {s : Nat} {x : Int32} (hT : T ≤ 4) (hs : s < T) (hx : x < 0 ∨ nI P ≤ x) (h : post (-2)) : wpX_route post (nI P, nI S, nI T, nI A, dO, dI, sO, sI, lc, wv) (nI s) x := by
  unfold wpX_route
  dsimp only
  exact xf_slot_t hT hs (br_f (by decide) (xf_port_f hx (br_t rfl h)))
theorem xf_route {post : Int32 → Prop} {s i : Nat} (hP : P ≤ 32) (hT : T ≤ 4) (hs : s < T) (hi : i < P) (h : post (sO (s * P + i))) : wpX_route post (nI P, nI S, nI T, nI A, dO, dI, sO, sI, lc, wv) (nI s) (nI i) := by
  unfold wpX_route
  dsimp only
  exact xf_slot_t hT hs (br_f (by decide) (xf_port_t hP hi (br_f (by decide) (bf_rd (s * P + i) (bf_mi s P i) (bf_ix4 hs hT hi hP) (by decide) h))))
theorem xf_source1 {post : Int32 → Prop} {x y : Int32} (hx : x < 0 ∨ nI T ≤ x) (h : post (-2)) : wpX_source post (nI P, nI S, nI T, nI A, dO, dI, sO, sI, lc, wv) x y := by
  unfold wpX_source
  dsimp only
  exact xf_slot_f hx (br_t rfl h)
theorem xf_source2 {post : Int32 → Prop} {s : Nat} {x : Int32} (hT : T ≤ 4) (hs : s < T) (hx : x < 0 ∨ nI P ≤ x) (h : post (-2)) : wpX_source post (nI P, nI S, nI T, nI A, dO, dI, sO, sI, lc, wv) (nI s) x := by
  unfold wpX_source
  dsimp only
  exact xf_slot_t hT hs (br_f (by decide) (xf_port_f hx (br_t rfl h)))
theorem xf_source {post : Int32 → Prop} {s i : Nat} (hP : P ≤ 32) (hT : T ≤ 4) (hs : s < T) (hi : i < P) (h : post (sI (s * P + i))) : wpX_source post (nI P, nI S, nI T, nI A, dO, dI, sO, sI, lc, wv) (nI s) (nI i) := by
  unfold wpX_source
  dsimp only
  exact xf_slot_t hT hs (br_f (by decide) (xf_port_t hP hi (br_f (by decide) (bf_rd (s * P + i) (bf_mi s P i) (bf_ix4 hs hT hi hP) (by decide) h))))
theorem xf_latch1 {post : Int32 → St2 → Prop} {x y : Int32} (hx : x < 0 ∨ nI P ≤ x) (h : post (-2) (nI P, nI S, nI T, nI A, dO, dI, sO, sI, lc, wv)) : wpX_latch post (nI P, nI S, nI T, nI A, dO, dI, sO, sI, lc, wv) x y := by
  unfold wpX_latch
  dsimp only
  exact xf_port_f hx (br_t rfl h)
theorem xf_latch2 {post : Int32 → St2 → Prop} {i : Nat} {y : Int32} (hP : P ≤ 32) (hi : i < P) (h0 : y < 0) (h : post (-2) (nI P, nI S, nI T, nI A, dO, dI, sO, sI, lc, wv)) : wpX_latch post (nI P, nI S, nI T, nI A, dO, dI, sO, sI, lc, wv) (nI i) y := by
  unfold wpX_latch
  dsimp only
  exact xf_port_t hP hi (br_f (by decide) (br_f (Int32.not_le.mpr h0) h))
theorem xf_latch3 {post : Int32 → St2 → Prop} {i : Nat} {y : Int32} (hP : P ≤ 32) (hi : i < P) (h0 : ¬ y < 0) (h1 : ¬ lc i = -1) (h : post (-3) (nI P, nI S, nI T, nI A, dO, dI, sO, sI, lc, wv)) : wpX_latch post (nI P, nI S, nI T, nI A, dO, dI, sO, sI, lc, wv) (nI i) y := by
  unfold wpX_latch
  dsimp only
  exact xf_port_t hP hi (br_f (by decide) (br_t (Int32.not_lt.mp h0) ⟨pk_in i 32 (by omega), br_f (by rw [nI_clamp (by omega)]; exact h1) h⟩))
theorem xf_latch4 {post : Int32 → St2 → Prop} {i : Nat} {y : Int32} (hP : P ≤ 32) (hi : i < P) (h0 : ¬ y < 0) (h1 : lc i = -1) (h : post 0 (nI P, nI S, nI T, nI A, dO, dI, sO, sI, upd lc i y, wv)) : wpX_latch post (nI P, nI S, nI T, nI A, dO, dI, sO, sI, lc, wv) (nI i) y := by
  unfold wpX_latch
  dsimp only
  exact xf_port_t hP hi (br_f (by decide) (br_t (Int32.not_lt.mp h0) ⟨pk_in i 32 (by omega), br_t (by rw [nI_clamp (by omega)]; exact h1) (bf_st i rfl (by omega) (by decide) h)⟩))
theorem xf_output1 {post : Int32 → Prop} {x y : Int32} (hx : x < 0 ∨ nI P ≤ x) (h : post (-2)) : wpX_output post (nI P, nI S, nI T, nI A, dO, dI, sO, sI, lc, wv) x y := by
  unfold wpX_output
  dsimp only
  exact xf_port_f hx (br_t rfl h)
theorem xf_output2 {post : Int32 → Prop} {o : Nat} {x : Int32} (hP : P ≤ 32) (ho : o < P) (hx : x < 0 ∨ nI S ≤ x) (h : post (-2)) : wpX_output post (nI P, nI S, nI T, nI A, dO, dI, sO, sI, lc, wv) (nI o) x := by
  unfold wpX_output
  dsimp only
  exact xf_port_t hP ho (br_f (by decide) (br_c (fun _ => h) (fun z => br_f (fun w => absurd (hx.resolve_left z) (Int32.not_le.mpr w)) h)))
theorem xf_output {post : Int32 → Prop} {o q : Nat} (hP : P ≤ 32) (hS : S ≤ 9) (ho : o < P) (hq : q < S) (h : post (wv (q * P + o))) : wpX_output post (nI P, nI S, nI T, nI A, dO, dI, sO, sI, lc, wv) (nI o) (nI q) := by
  unfold wpX_output
  dsimp only
  exact xf_port_t hP ho (br_f (by decide) (br_f (nI_pos (by omega)) (br_t (nI_lt hq (by omega)) (bf_rd (q * P + o) (bf_mi q P o) (bf_ix9 hq hS ho hP) (by decide) h))))
theorem xf_drafted0 {post : Int32 → Prop} {x : Int32} (hx : x < 0 ∨ nI P ≤ x) (h : post (-2)) : wpX_drafted post (nI P, nI S, nI T, nI A, dO, dI, sO, sI, lc, wv) x := by
  unfold wpX_drafted
  dsimp only
  exact xf_port_f hx (br_t rfl h)
theorem xf_drafted {post : Int32 → Prop} {i : Nat} (hP : P ≤ 32) (hi : i < P) (h : post (dO i)) : wpX_drafted post (nI P, nI S, nI T, nI A, dO, dI, sO, sI, lc, wv) (nI i) := by
  unfold wpX_drafted
  dsimp only
  exact xf_port_t hP hi (br_f (by decide) (bf_rd i rfl (by omega) (by decide) h))
theorem xf_latched0 {post : Int32 → Prop} {x : Int32} (hx : x < 0 ∨ nI P ≤ x) (h : post (-2)) : wpX_latched post (nI P, nI S, nI T, nI A, dO, dI, sO, sI, lc, wv) x := by
  unfold wpX_latched
  dsimp only
  exact xf_port_f hx (br_t rfl h)
theorem xf_latched {post : Int32 → Prop} {i : Nat} (hP : P ≤ 32) (hi : i < P) (h : post (lc i)) : wpX_latched post (nI P, nI S, nI T, nI A, dO, dI, sO, sI, lc, wv) (nI i) := by
  unfold wpX_latched
  dsimp only
  exact xf_port_t hP hi (br_f (by decide) (bf_rd i rfl (by omega) (by decide) h))
end BX2
