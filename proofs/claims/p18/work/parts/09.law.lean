/-! a step; the law -/
section QC
variable {post : Int32 → Prop} {L : Nat} {xs : Nat → Int32} {J : bf_JT} {P S T A mk st kc ks : Nat} {ow : Int32} {h0 h1 h2 h3 h4 h5 h6 h7 h8 : Int64} {dO dI sO sI lc wv : Nat → Int32}
theorem bf_at2 {Q : Int32 → Int32 → Prop} {x y x' y' : Int32} (e1 : x = x') (e2 : y = y') (h : Q x' y') : Q x y := by rw [e1, e2]; exact h
theorem qf_245 {x26 x27 x28 : Int32} (Q : bf_J P S T A dO dI sO sI) (hm : mk ≤ st) (hst : st < 1000) (G : bf_G P S wv (bf_pk h0 h1 h2 h3 h4 h5 h6 h7 h8) mk) (K : bf_K P S T st J) : wL_law_245 post L xs J (nI P) (nI S) (nI T) h0 h1 h2 h3 h4 h5 h6 h7 h8 (nI mk) ow (nI st) x26 x27 x28 kc ks (nI P) (nI S) (nI T) (nI A) dO dI sO sI lc wv := by
  have hm' : mk ≤ st + 1 := by omega
  have hP : P ≤ 32 := Q.1.2.1
  have hT1 : 1 ≤ T := Q.1.2.2.2.2.1
  have hT : T ≤ 4 := Q.1.2.2.2.2.2.1
  have hL := Q.1.2.2.2.2.2.2.2
  obtain ⟨s, hs, es⟩ := bf_md x27 hT1 hT
  obtain ⟨i, hi, e1⟩ := bf_am x27 hP hL
  obtain ⟨o, ho, e2⟩ := bf_am x28 hP hL
  unfold wL_law_245
  refine ⟨nI_ne0 (by omega) (by omega), nm_r es ?_⟩
  exact (br_c (fun _ => qf_267 Q hm' hst G K) (fun _ => (br_c (fun _ => qf_267 Q hm' hst G K) (fun _ => (br_c (fun _ => qf_329 hs Q hm' hst G K) (fun _ => (br_c (fun _ => qf_329 hs Q hm' hst G K) (fun _ => (br_c (fun _ => qf_403 Q hm' hst G K) (fun _ => (br_c (fun _ => qf_403 Q hm' hst G K) (fun _ => (br_c (fun _ => qf_492 Q hm hst G K) (fun _ => (br_c (fun _ => qf_492 Q hm hst G K) (fun _ => (br_c (fun _ => qf_492 Q hm hst G K) (fun _ => (br_c (fun _ => xf_select hT hs (qf_726 ⟨⟨Q.1.1, Q.1.2.1, Q.1.2.2.1, Q.1.2.2.2.1, Q.1.2.2.2.2.1, Q.1.2.2.2.2.2.1, hs, Q.1.2.2.2.2.2.2.2⟩, Q.2⟩ hm' hst G K)) (fun _ => (br_c (fun _ => bf_at2 e1 e2 (Q := fun t1 t2 => wpX_request _ (nI P, nI S, nI T, nI A, dO, dI, sO, sI, lc, wv) t1 t2) (qf_request hP Q.2.1 hi ho (fun r a b pd => qf_726 ⟨Q.1, pd, Q.2.2⟩ hm' hst G K))) (fun _ => (br_c (fun _ => xf_fill hP hL (qf_726 ⟨Q.1, bf_fz_pd hP hL Q.2.1 P (Nat.le_refl P), Q.2.2⟩ hm' hst G K)) (fun _ => (br_c (fun _ => bf_at (Q := fun t => wpX_withdraw _ (nI P, nI S, nI T, nI A, dO, dI, sO, sI, lc, wv) t) e1 (qf_withdraw hP Q.2.1 hi (fun r a b pd => qf_726 ⟨Q.1, pd, Q.2.2⟩ hm' hst G K))) (fun _ => (br_c (fun _ => xf_clear hP (fun a b ha hb => qf_726 ⟨Q.1, bf_PD_nil ha hb, Q.2.2⟩ hm' hst G K)) (fun _ => (br_c (fun _ => xf_load hP hT hs (fun a b ha hb => qf_726 ⟨Q.1, bf_PD_ld (Q.2.2 s hs) hP ha hb, Q.2.2⟩ hm' hst G K)) (fun _ => (br_c (fun _ => bf_at (Q := fun t => wpX_latch _ (nI P, nI S, nI T, nI A, dO, dI, sO, sI, lc, wv) t _) e1 (qf_latch hP hi (fun r l => qf_726 Q hm' hst G K))) (fun _ => (qf_726 Q hm' hst G K)))))))))))))))))))))))))))))))))
theorem qf_123 (hp : post 1) (hLL : L ≤ 260) : ∀ m st mk A h0 h1 h2 h3 h4 h5 h6 h7 h8 dO dI sO sI lc wv, st + m = L / 3 + 61 → mk ≤ st → bf_J P S T A dO dI sO sI → bf_G P S wv (bf_pk h0 h1 h2 h3 h4 h5 h6 h7 h8) mk → wL_law_123 post L xs (nI P) (nI S) (nI T) (nI (L / 3)) kc ks (m + 1) h0 h1 h2 h3 h4 h5 h6 h7 h8 (nI mk) (nI st) (nI P) (nI S) (nI T) (nI A) dO dI sO sI lc wv := by
  intro m
  induction m with
  | zero =>
    intro st mk A h0 h1 h2 h3 h4 h5 h6 h7 h8 dO dI sO sI lc wv hm hk Q G
    exact pk_lt (L / 3 + 60) st (fun _ => hp) (fun z => absurd z (by omega)) (hx := nI_add (L / 3) 60)
  | succ m ih =>
    intro st mk A h0 h1 h2 h3 h4 h5 h6 h7 h8 dO dI sO sI lc wv hm hk Q G
    have K : bf_K P S T st (wL_law_123 post L xs (nI P) (nI S) (nI T) (nI (L / 3)) kc ks (m + 1)) :=
      fun mk' A' g0 g1 g2 g3 g4 g5 g6 g7 g8 a b c e l w h1 h2 h3 => ih (st + 1) mk' A' g0 g1 g2 g3 g4 g5 g6 g7 g8 a b c e l w (by omega) h1 h2 h3
    refine pk_lt (L / 3 + 60) st (fun z => absurd z (by omega)) (fun _ => ?_) (hx := nI_add (L / 3) 60)
    refine pk_le st (L / 3) (fun z => ?_) (fun z => ?_)
    · refine pk_le st 0 (fun _ => qf_245 Q hk (by omega) G K) (fun z2 => ?_)
      refine nm_r (e' := nI (3 * st - 1)) ?_ (qf_cell (3 * st - 1) hLL (by omega) (fun r1 => nm_e ?_))
      · rw [show (3 : Int32) * nI st = nI (3 * st) from pk_mul 3 st]
        exact pk_sub (b := 1) (by omega)
      · exact bf_at (Q := fun t => wpL_cell _ L xs () t) (nI_add (3 * st - 1) 1) (qf_cell (3 * st - 1 + 1) hLL (by omega) (fun r2 => bf_at (Q := fun t => wpL_cell _ L xs () t) (nI_add (3 * st - 1) 2) (qf_cell (3 * st - 1 + 2) hLL (by omega) (fun r3 => qf_245 Q hk (by omega) G K))))
    · refine nm_r (e' := nI (st - L / 3 - 1)) ?_ ⟨by decide, qf_tail (fun r1 => qf_cell (st - L / 3 - 1) hLL (by omega) (fun r2 => qf_mix (qf_cell 1 hLL (by omega) (fun r3 => qf_mix (qf_245 Q hk (by omega) G K)))))⟩
      rw [pk_sub (by omega)]
      exact pk_sub (b := 1) (by omega)
end QC
theorem i_vc (xs : Nat → Int32) (L : Nat) (hL : L ≤ 260) : wpL_law (fun r => r = 1) L xs := by
  unfold wpL_law
  refine qf_cell 0 hL (by omega) (fun r1 => ⟨by decide, qf_cell 1 hL (by omega) (fun r2 => ⟨6, 640, by decide, by decide, ?_⟩)⟩)
  generalize (5 - ((r1 &&& 2147483647) - (r1 &&& 2147483647) / 5 * 5)) = x
  generalize (4 - (r2 &&& 3)) = y
  have rx := (bf_cl_c x (M := 5) (by decide) (by decide)).1
  have ry := (bf_cl_c y (M := 4) (by decide) (by decide)).1
  have H := bf_H0 rx.1 rx.2 ry.1 ry.2
  refine xf_init rfl rfl rfl (fun a b c e l w ha hb hc hl hw => ?_)
  revert H ha hb hc hl hw
  generalize 2 ^ bf_cl x 5 = P
  generalize 2 * bf_cl x 5 - 1 = S
  generalize bf_cl y 4 = T
  intro H ha hb hc hl hw
  have hb' := H
  obtain ⟨b1, b2, b3, b4, b5, b6, b7, b8⟩ := hb'
  refine qf_info0 (qf_info1 (qf_info2 ?_))
  refine pk_lt P 2 (fun z => absurd z (by omega)) (fun _ => pk_lt 32 P (fun z => absurd z (by omega)) (fun _ => pk_lt S 1 (fun z => absurd z (by omega)) (fun _ => pk_lt 9 S (fun z => absurd z (by omega)) (fun _ => pk_lt T 1 (fun z => absurd z (by omega)) (fun _ => pk_le T 4 (fun _ => ⟨by decide, ?_⟩) (fun z => absurd z (by omega)))))))
  refine nm_r (e' := nI (L / 3)) (pk_div (d := 3) (by omega) (by omega) (by omega)) ⟨L / 3 + 62, ?_⟩
  exact qf_123 (post := fun r => r = 1) rfl hL (L / 3 + 61) 0 0 0 0 0 0 0 0 0 0 0 0 a b c e l w (by omega) (by omega) ⟨H, bf_PD_nil ha hb, fun s hs => (hc s hs).1⟩ (fun j _ hj => absurd hj (by omega))
