/-! the owed statements -/
theorem i_up {k : Nat} {u : SX} {v : SY} (h : i_Rel k u v) : i_Rel (k + 3) u v := h
theorem i_vc_request {k : Nat} {u : SX} {v : SY} (I : i_Rel k u v) (hk : k + 3 ≤ 1538) (v1 : Int32) (v2 : Int32) : wpX_request (fun r u' => wpY_request (fun r' v' => r' = r ∧ i_Rel (k + 3) u' v') v v1 v2) u v1 v2 := by
  obtain ⟨P, S, T, A, dO, dI, sO, sI, lc, wv, d, se, ce, wa, rfl, rfl, H, D, Z, L, W⟩ := I
  have hP : P ≤ 32 := H.2.1
  rcases bf_pt v1 (n := P) (by omega) with hn | ⟨i, hi, rfl⟩
  · exact xf_rq1 hn (yf_rq1 hn ⟨rfl, bf_mk H D Z L W⟩)
  rcases bf_pt v2 (n := P) (by omega) with hn | ⟨o, ho, rfl⟩
  · exact xf_rq2 hP hi hn (yf_rq2 hP hi hn ⟨rfl, bf_mk H D Z L W⟩)
  have e := D.2 i hi
  by_cases h1 : dO i = -1
  · by_cases h2 : dI o = -1
    · refine xf_rq5 hP hi ho h1 h2 (yf_rq5 hP hi ho (e.trans h1) (fun j hj e2 => ?_) ⟨rfl, bf_mk H ⟨bf_PD_add D.1 hP hi ho h1 h2, bf_eq_u D.2⟩ Z L W⟩)
      rw [D.2 j hj] at e2
      have := bf_PD_o D.1 hP hj ho e2
      rw [h2] at this
      exact bf_ne1 (by omega) this.symm
    · rcases D.1.2.1 o ho with a | ⟨j, hj, a, c⟩
      · exact absurd a h2
      · exact xf_rq4 hP hi ho h1 h2 (yf_rq4 hP hi ho (e.trans h1) ⟨j, hj, (D.2 j hj).trans c⟩ ⟨rfl, bf_mk H D Z L W⟩)
  · exact xf_rq3 hP hi ho h1 (yf_rq3 hP hi ho (by rw [e]; exact bf_PD_v D.1 hP hi) (by rw [e]; exact h1) ⟨rfl, bf_mk H D Z L W⟩)
theorem i_vc_withdraw {k : Nat} {u : SX} {v : SY} (I : i_Rel k u v) (hk : k + 3 ≤ 1538) (v1 : Int32) : wpX_withdraw (fun r u' => wpY_withdraw (fun r' v' => r' = r ∧ i_Rel (k + 3) u' v') v v1) u v1 := by
  obtain ⟨P, S, T, A, dO, dI, sO, sI, lc, wv, d, se, ce, wa, rfl, rfl, H, D, Z, L, W⟩ := I
  have hP : P ≤ 32 := H.2.1
  rcases bf_pt v1 (n := P) (by omega) with hn | ⟨i, hi, rfl⟩
  · exact xf_wd1 hn (yf_wd1 hn ⟨rfl, bf_mk H D Z L W⟩)
  rcases D.1.1 i hi with a | ⟨o, ho, a, c⟩
  · exact xf_wd2 hP hi a (yf_wd2 hP hi ((D.2 i hi).trans a) ⟨rfl, bf_mk H D Z L W⟩)
  · exact xf_wd3 hP hi ho a (yf_wd3 hP hi ho ((D.2 i hi).trans a) ⟨rfl, bf_mk H ⟨bf_PD_del D.1 hP hi ho a c, bf_eq_u D.2⟩ Z L W⟩)
theorem i_vc_clear {k : Nat} {u : SX} {v : SY} (I : i_Rel k u v) (hk : k + 3 ≤ 1538) : wpX_clear (fun r u' => wpY_clear (fun r' v' => r' = r ∧ i_Rel (k + 3) u' v') v) u := by
  obtain ⟨P, S, T, A, dO, dI, sO, sI, lc, wv, d, se, ce, wa, rfl, rfl, H, D, Z, L, W⟩ := I
  have hP : P ≤ 32 := H.2.1
  exact xf_clear hP (fun a b ha hb => yf_clear hP (bf_D_v hP D) (fun d' hd' => ⟨congrArg nI (bf_cn_cg P D.2), bf_mk H ⟨bf_PD_nil ha hb, fun i hi => (hd' i hi).trans (ha i hi).symm⟩ Z L W⟩))
theorem i_vc_fill {k : Nat} {u : SX} {v : SY} (I : i_Rel k u v) (hk : k + 3 ≤ 1538) (v1 : Int32) (v2 : Int32) : wpX_fill (fun r u' => wpY_fill (fun r' v' => r' = r ∧ i_Rel (k + 3) u' v') v v1 v2) u v1 v2 := by
  obtain ⟨P, S, T, A, dO, dI, sO, sI, lc, wv, d, se, ce, wa, rfl, rfl, H, D, Z, L, W⟩ := I
  have hP : P ≤ 32 := H.2.1
  have hL := H.2.2.2.2.2.2.2
  exact xf_fill hP hL (yf_fill hP hL D (fun d' hd' => ⟨rfl, bf_mk H ⟨bf_fz_pd hP hL D.1 P (Nat.le_refl P), hd'⟩ Z L W⟩))
theorem i_vc_set {k : Nat} {u : SX} {v : SY} (I : i_Rel k u v) (hk : k + 3 ≤ 1538) (v1 : Int32) : wpX_set (fun r u' => wpY_set (fun r' v' => r' = r ∧ i_Rel (k + 3) u' v') v v1) u v1 := by
  obtain ⟨P, S, T, A, dO, dI, sO, sI, lc, wv, d, se, ce, wa, rfl, rfl, H, D, Z, L, W⟩ := I
  have hP : P ≤ 32 := H.2.1
  have hT : T ≤ 4 := H.2.2.2.2.2.1
  rcases bf_pt v1 (n := T) (by omega) with hn | ⟨s, hs, rfl⟩
  · exact xf_set0 hn (yf_set0 hn ⟨rfl, bf_mk H D Z L W⟩)
  · exact xf_set hP hT hs D.1 (fun sO' sI' hc hf => yf_set hP hT hs D hc (fun se' he hg => ⟨by rw [bf_cn_cg P D.2], bf_mk H D (bf_S_set hs Z hc.1 hf he hg hP) L W⟩))
theorem i_vc_load {k : Nat} {u : SX} {v : SY} (I : i_Rel k u v) (hk : k + 3 ≤ 1538) (v1 : Int32) : wpX_load (fun r u' => wpY_load (fun r' v' => r' = r ∧ i_Rel (k + 3) u' v') v v1) u v1 := by
  obtain ⟨P, S, T, A, dO, dI, sO, sI, lc, wv, d, se, ce, wa, rfl, rfl, H, D, Z, L, W⟩ := I
  have hP : P ≤ 32 := H.2.1
  have hT : T ≤ 4 := H.2.2.2.2.2.1
  rcases bf_pt v1 (n := T) (by omega) with hn | ⟨s, hs, rfl⟩
  · exact xf_load0 hn (yf_load0 hn ⟨rfl, bf_mk H D Z L W⟩)
  · exact xf_load hP hT hs (fun a b ha hb => yf_load hP hT hs (fun d' hd' => ⟨rfl, bf_mk H ⟨bf_PD_ld (Z s hs).1 hP ha hb, fun i hi => by rw [hd' i hi, ha i hi]; exact (Z s hs).2 i hi⟩ Z L W⟩))
theorem i_vc_select {k : Nat} {u : SX} {v : SY} (I : i_Rel k u v) (hk : k + 3 ≤ 1538) (v1 : Int32) : wpX_select (fun r u' => wpY_select (fun r' v' => r' = r ∧ i_Rel (k + 3) u' v') v v1) u v1 := by
  obtain ⟨P, S, T, A, dO, dI, sO, sI, lc, wv, d, se, ce, wa, rfl, rfl, H, D, Z, L, W⟩ := I
  have hP : P ≤ 32 := H.2.1
  have hT : T ≤ 4 := H.2.2.2.2.2.1
  rcases bf_pt v1 (n := T) (by omega) with hn | ⟨s, hs, rfl⟩
  · exact xf_select0 hn (yf_select0 hn ⟨rfl, bf_mk H D Z L W⟩)
  · exact xf_select hT hs (yf_select hT hs ⟨rfl, bf_mk ⟨H.1, H.2.1, H.2.2.1, H.2.2.2.1, H.2.2.2.2.1, H.2.2.2.2.2.1, hs, H.2.2.2.2.2.2.2⟩ D Z L W⟩)
theorem i_vc_route {k : Nat} {u : SX} {v : SY} (I : i_Rel k u v) (hk : k + 3 ≤ 1538) (v1 : Int32) (v2 : Int32) : wpX_route (fun r => wpY_route (fun r' => r' = r ∧ i_Rel (k + 3) u v) v v1 v2) u v1 v2 := by
  have I' : i_Rel (k + 3) u v := I
  obtain ⟨P, S, T, A, dO, dI, sO, sI, lc, wv, d, se, ce, wa, rfl, rfl, H, D, Z, L, W⟩ := I
  have hP : P ≤ 32 := H.2.1
  have hT : T ≤ 4 := H.2.2.2.2.2.1
  rcases bf_pt v1 (n := T) (by omega) with hn | ⟨s, hs, rfl⟩
  · exact xf_route1 hn (yf_route1 hn ⟨rfl, I'⟩)
  rcases bf_pt v2 (n := P) (by omega) with hn | ⟨i, hi, rfl⟩
  · exact xf_route2 hT hs hn (yf_route2 hT hs hn ⟨rfl, I'⟩)
  · exact xf_route hP hT hs hi (yf_route hP hT hs hi ⟨(Z s hs).2 i hi, I'⟩)
theorem i_vc_source {k : Nat} {u : SX} {v : SY} (I : i_Rel k u v) (hk : k + 3 ≤ 1538) (v1 : Int32) (v2 : Int32) : wpX_source (fun r => wpY_source (fun r' => r' = r ∧ i_Rel (k + 3) u v) v v1 v2) u v1 v2 := by
  have I' : i_Rel (k + 3) u v := I
  obtain ⟨P, S, T, A, dO, dI, sO, sI, lc, wv, d, se, ce, wa, rfl, rfl, H, D, Z, L, W⟩ := I
  have hP : P ≤ 32 := H.2.1
  have hT : T ≤ 4 := H.2.2.2.2.2.1
  rcases bf_pt v1 (n := T) (by omega) with hn | ⟨s, hs, rfl⟩
  · exact xf_source1 hn (yf_source1 hn ⟨rfl, I'⟩)
  rcases bf_pt v2 (n := P) (by omega) with hn | ⟨o, ho, rfl⟩
  · exact xf_source2 hT hs hn (yf_source2 hT hs hn ⟨rfl, I'⟩)
  obtain ⟨i, hi, a, c⟩ := (Z s hs).1.2 o ho
  refine xf_source hP hT hs ho (yf_source hP hT hs ho (fun j hj e => ⟨?_, I'⟩) (fun hno => absurd (((Z s hs).2 i hi).trans c) (hno i hi)))
  rw [(Z s hs).2 j hj] at e
  rw [a, bf_PM_inj (Z s hs).1 hP hj hi (e.trans c.symm)]
theorem i_vc_latch {k : Nat} {u : SX} {v : SY} (I : i_Rel k u v) (hk : k + 3 ≤ 1538) (v1 : Int32) (v2 : Int32) : wpX_latch (fun r u' => wpY_latch (fun r' v' => r' = r ∧ i_Rel (k + 3) u' v') v v1 v2) u v1 v2 := by
  obtain ⟨P, S, T, A, dO, dI, sO, sI, lc, wv, d, se, ce, wa, rfl, rfl, H, D, Z, L, W⟩ := I
  have hP : P ≤ 32 := H.2.1
  rcases bf_pt v1 (n := P) (by omega) with hn | ⟨i, hi, rfl⟩
  · exact xf_latch1 hn (yf_latch1 hn ⟨rfl, bf_mk H D Z L W⟩)
  by_cases h0 : v2 < 0
  · exact xf_latch2 hP hi h0 (yf_latch2 hP hi h0 ⟨rfl, bf_mk H D Z L W⟩)
  obtain ⟨e, hv⟩ := L i hi
  by_cases h1 : lc i = -1
  · refine xf_latch4 hP hi h0 h1 (yf_latch4 hP hi h0 (e.trans h1) ⟨rfl, bf_mk H D Z (fun j hj => ?_) W⟩)
    by_cases ej : j = i
    · rw [ej, pk_us, pk_us]
      obtain ⟨m, hm, em⟩ := nI_of h0
      exact ⟨rfl, Or.inr ⟨m, hm, em⟩⟩
    · rw [pk_un ej, pk_un ej]
      exact L j hj
  · exact xf_latch3 hP hi h0 h1 (yf_latch3 hP hi h0 (by rw [e]; exact hv) (by rw [e]; exact h1) ⟨rfl, bf_mk H D Z L W⟩)
theorem i_vc_tick {k : Nat} {u : SX} {v : SY} (I : i_Rel k u v) (hk : k + 3 ≤ 1538) : wpX_tick (fun r u' => wpY_tick (fun r' v' => r' = r ∧ i_Rel (k + 3) u' v') v) u := by
  obtain ⟨P, S, T, A, dO, dI, sO, sI, lc, wv, d, se, ce, wa, rfl, rfl, H, D, Z, L, W⟩ := I
  have H' := H
  obtain ⟨hP2, hP, hS1, hS, hT1, hT, hA, _⟩ := H'
  have pm := (Z A hA).1
  refine xf_tick hP hS1 hS hT hA pm (fun wv' lc' X1 X2 X3 => ?_)
  have key : ∀ wa' : Nat → Int32, (∀ r o, r + 1 < S → o < P → wa' (r * 32 + o) = wa ((r + 1) * 32 + o)) → (∀ i o, i < P → o < P → se (A * 32 + i) = nI o → wa' ((S - 1) * 32 + o) = ce i) → bf_W P S wv' wa' :=
    fun wa' Y1 Y2 => bf_W_tick hP W L pm X1 X2 Y1 (fun i o hi ho e => Y2 i o hi ho (((Z A hA).2 i hi).trans e))
  have e0 : ∀ wa' : Nat → Int32, bf_W P S wv' wa' → ∀ o, o < P → wa' o = wv' o ∧ bf_Vl (wv' o) := fun wa' w o ho => by
    have := w 0 (by omega) o ho
    rw [Nat.zero_mul, Nat.zero_mul, Nat.zero_add] at this
    exact this
  refine yf_tick hP hS1 hS hT hA (fun i hi => ?_) (fun i j hi hj e => ?_) (fun wa' Y1 Y2 o ho => ?_) (fun wa' ce' Y1 Y2 Y3 => ⟨?_, bf_mk H D Z (fun i hi => ?_) (key wa' Y1 Y2)⟩)
  · obtain ⟨o, ho, a, _⟩ := pm.1 i hi
    exact ⟨o, ho, ((Z A hA).2 i hi).trans a⟩
  · rw [(Z A hA).2 i hi, (Z A hA).2 j hj] at e
    exact bf_PM_inj pm hP hi hj e
  · have := e0 wa' (key wa' Y1 Y2) o ho
    rw [this.1]
    exact this.2
  · exact congrArg nI (bf_cn_cg P (fun o ho => (e0 wa' (key wa' Y1 Y2) o ho).1))
  · rw [Y3 i hi, X3 i hi]
    exact ⟨rfl, bf_vl_1⟩
theorem i_vc_output {k : Nat} {u : SX} {v : SY} (I : i_Rel k u v) (hk : k + 3 ≤ 1538) (v1 : Int32) (v2 : Int32) : wpX_output (fun r => wpY_output (fun r' => r' = r ∧ i_Rel (k + 3) u v) v v1 v2) u v1 v2 := by
  have I' : i_Rel (k + 3) u v := I
  obtain ⟨P, S, T, A, dO, dI, sO, sI, lc, wv, d, se, ce, wa, rfl, rfl, H, D, Z, L, W⟩ := I
  have hP : P ≤ 32 := H.2.1
  have hS : S ≤ 9 := H.2.2.2.1
  rcases bf_pt v1 (n := P) (by omega) with hn | ⟨o, ho, rfl⟩
  · exact xf_output1 hn (yf_output1 hn ⟨rfl, I'⟩)
  rcases bf_pt v2 (n := S) (by omega) with hn | ⟨q, hq, rfl⟩
  · exact xf_output2 hP ho hn (yf_output2 hP ho hn ⟨rfl, I'⟩)
  · exact xf_output hP hS ho hq (yf_output hP hS ho hq ⟨(W q hq o ho).1, I'⟩)
theorem i_vc_drafted {k : Nat} {u : SX} {v : SY} (I : i_Rel k u v) (hk : k + 3 ≤ 1538) (v1 : Int32) : wpX_drafted (fun r => wpY_drafted (fun r' => r' = r ∧ i_Rel (k + 3) u v) v v1) u v1 := by
  have I' : i_Rel (k + 3) u v := I
  obtain ⟨P, S, T, A, dO, dI, sO, sI, lc, wv, d, se, ce, wa, rfl, rfl, H, D, Z, L, W⟩ := I
  have hP : P ≤ 32 := H.2.1
  rcases bf_pt v1 (n := P) (by omega) with hn | ⟨i, hi, rfl⟩
  · exact xf_drafted0 hn (yf_drafted0 hn ⟨rfl, I'⟩)
  · exact xf_drafted hP hi (yf_drafted hP hi ⟨D.2 i hi, I'⟩)
theorem i_vc_latched {k : Nat} {u : SX} {v : SY} (I : i_Rel k u v) (hk : k + 3 ≤ 1538) (v1 : Int32) : wpX_latched (fun r => wpY_latched (fun r' => r' = r ∧ i_Rel (k + 3) u v) v v1) u v1 := by
  have I' : i_Rel (k + 3) u v := I
  obtain ⟨P, S, T, A, dO, dI, sO, sI, lc, wv, d, se, ce, wa, rfl, rfl, H, D, Z, L, W⟩ := I
  have hP : P ≤ 32 := H.2.1
  rcases bf_pt v1 (n := P) (by omega) with hn | ⟨i, hi, rfl⟩
  · exact xf_latched0 hn (yf_latched0 hn ⟨rfl, I'⟩)
  · exact xf_latched hP hi (yf_latched hP hi ⟨(L i hi).1, I'⟩)
theorem i_vc0 (k0 : Int32) (k1 : Int32) : wpX_init (fun u => wpY_init (fun v => i_Rel 2 u v) k0 k1) k0 k1 := by
  have rx := (bf_cl_c k0 (M := 5) (by decide) (by decide)).1
  have ry := (bf_cl_c k1 (M := 4) (by decide) (by decide)).1
  have H := bf_H0 rx.1 rx.2 ry.1 ry.2
  refine xf_init (P := 2 ^ bf_cl k0 5) (S := 2 * bf_cl k0 5 - 1) (T := bf_cl k1 4) rfl rfl rfl (fun a b c e l w ha hb hc hl hw => yf_init (fun d se ce wa hd hse hce hwa => ?_))
  have hP := H.2.1
  have hS := H.2.2.2.1
  have hT := H.2.2.2.2.2.1
  revert H ha hb hc hl hw hP hS hT
  generalize 2 ^ bf_cl k0 5 = P
  generalize 2 * bf_cl k0 5 - 1 = S
  generalize bf_cl k1 4 = T
  intro H ha hb hc hl hw hP hS hT
  refine bf_mk H ⟨bf_PD_nil ha hb, fun i hi => by rw [hd i (by omega), ha i hi]⟩ (fun s hs => ⟨(hc s hs).1, fun i hi => ?_⟩) (fun i hi => ?_) (fun k hk o ho => ?_)
  · rw [(hc s hs).2 i hi, hse (s * 32 + i) (by omega)]
    exact congrArg nI (by omega)
  · rw [hce i (by omega), hl i hi]
    exact ⟨rfl, bf_vl_1⟩
  · rw [hwa (k * 32 + o) (by omega), hw (k * P + o) (bf_ix hk ho)]
    exact ⟨rfl, bf_vl_1⟩
theorem i_vc_info {k : Nat} {u : SX} {v : SY} (I : i_Rel k u v) (hk : k + 3 ≤ 1538) (v1 : Int32) : wpX_info (fun r => wpY_info (fun r' => r' = r ∧ i_Rel (k + 3) u v) v v1) u v1 := by
  have I' : i_Rel (k + 3) u v := I
  obtain ⟨P, S, T, A, dO, dI, sO, sI, lc, wv, d, se, ce, wa, rfl, rfl, H, D, Z, L, W⟩ := I
  obtain ⟨hP2, hP, hS1, hS, hT1, hT, hA, _⟩ := H
  by_cases c0 : v1 = 0
  · subst c0
    exact (br_f (by decide) (br_f (by decide) (br_t rfl (br_t rfl ⟨rfl, I'⟩))))
  by_cases c1 : v1 = 1
  · subst c1
    exact (br_f (by decide) (br_f (by decide) (br_f (by decide) (br_t rfl (br_f (by decide) (br_t rfl ⟨rfl, I'⟩))))))
  by_cases c2 : v1 = 2
  · subst c2
    exact (br_f (by decide) (br_f (by decide) (br_f (by decide) (br_f (by decide) (br_t rfl (br_f (by decide) (br_f (by decide) (br_t rfl ⟨rfl, I'⟩))))))))
  by_cases c3 : v1 = 3
  · subst c3
    exact (br_f (by decide) (br_f (by decide) (br_f (by decide) (br_f (by decide) (br_f (by decide) (br_t rfl (br_f (by decide) (br_f (by decide) (br_f (by decide) (br_t rfl ⟨rfl, I'⟩))))))))))
  by_cases c4 : v1 = 4
  · subst c4
    exact (br_f (by decide) (br_f (by decide) (br_f (by decide) (br_f (by decide) (br_f (by decide) (br_f (by decide) (br_t rfl (xf_cnt_d0 hP (br_f (by decide) (br_f (by decide) (br_f (by decide) (br_f (by decide) (br_t rfl (yf_countDraft hP (bf_D_v hP D) ⟨congrArg nI (bf_cn_cg P D.2), I'⟩))))))))))))))
  by_cases c5 : v1 = 5
  · subst c5
    exact (br_f (by decide) (br_f (by decide) (br_f (by decide) (br_f (by decide) (br_f (by decide) (br_f (by decide) (br_f (by decide) (br_t rfl (xf_cnt_l0 hP (br_f (by decide) (br_f (by decide) (br_f (by decide) (br_f (by decide) (br_f (by decide) (br_t rfl (yf_cells hP (fun i hi => by rw [(L i hi).1]; exact (L i hi).2) ⟨congrArg nI (bf_cn_cg P (fun i hi => (L i hi).1)), I'⟩))))))))))))))))
  by_cases c6 : v1 = 6
  · subst c6
    exact (br_f (by decide) (br_f (by decide) (br_f (by decide) (br_f (by decide) (br_f (by decide) (br_f (by decide) (br_f (by decide) (br_f (by decide) (br_t rfl (xf_flight hP hS1 hS (br_f (by decide) (br_f (by decide) (br_f (by decide) (br_f (by decide) (br_f (by decide) (br_f (by decide) (br_t rfl (yf_flight hP hS1 hS W ⟨rfl, I'⟩))))))))))))))))))
  exact br_c (fun _ => (br_f c0 (br_f c1 (br_f c2 (br_f c3 (br_f c4 (br_f c5 (br_f c6 ⟨rfl, I'⟩)))))))) (fun _ => br_c (fun _ => (br_f c0 (br_f c1 (br_f c2 (br_f c3 (br_f c4 (br_f c5 (br_f c6 ⟨rfl, I'⟩)))))))) (fun _ => (br_f c0 (br_f c1 (br_f c2 (br_f c3 (br_f c4 (br_f c5 (br_f c6 trivial)))))))))
