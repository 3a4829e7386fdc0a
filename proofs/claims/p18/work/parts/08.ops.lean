/-! the law's operations -/
section QB
variable {post : Int32 → Prop} {L : Nat} {xs : Nat → Int32} {J : bf_JT} {P S T A mk st kc ks : Nat} {ow : Int32} {h0 h1 h2 h3 h4 h5 h6 h7 h8 : Int64} {dO dI sO sI lc wv : Nat → Int32}
theorem qf_282 {x27 : Int32} (Q : bf_J P S T A dO dI sO sI) (hm : mk ≤ st + 1) (hst : st < 1000) (G : bf_G P S wv (bf_pk h0 h1 h2 h3 h4 h5 h6 h7 h8) mk) (K : bf_K P S T st J) : ∃ n, wL_law_282 post L xs J (nI P) (nI S) (nI T) h0 h1 h2 h3 h4 h5 h6 h7 h8 (nI mk) ow (nI st) x27 kc ks n 0 (nI P) (nI S) (nI T) (nI A) dO dI sO sI lc wv := by
  have hP : P ≤ 32 := Q.1.2.1
  have key : ∀ m q a b, q + m = P → bf_PD P a b → wL_law_282 post L xs J (nI P) (nI S) (nI T) h0 h1 h2 h3 h4 h5 h6 h7 h8 (nI mk) ow (nI st) x27 kc ks (m + 1) (nI q) (nI P) (nI S) (nI T) (nI A) a b sO sI lc wv := by
    intro m
    induction m with
    | zero =>
      intro q a b hq pd
      have e1 : q = P := by omega
      subst e1
      exact pk_le q q (fun _ => qf_726 ⟨Q.1, pd, Q.2.2⟩ hm hst G K) (fun z => absurd z (by omega))
    | succ m ih =>
      intro q a b hq pd
      refine pk_le P q (fun z => absurd z (by omega)) (fun _ => qf_mix ?_)
      obtain ⟨o, ho, eo⟩ := bf_am (bf_mx x27 (nI q)).toInt32 hP Q.1.2.2.2.2.2.2.2
      rw [eo]
      exact qf_request hP pd (by omega) ho (fun r a' b' pd' => nm_r (nI_1 q) (ih (q + 1) a' b' (by omega) pd'))
  exact ⟨P + 1, key P 0 dO dI (by omega) Q.2.1⟩
theorem qf_267 {x27 x28 : Int32} (Q : bf_J P S T A dO dI sO sI) (hm : mk ≤ st + 1) (hst : st < 1000) (G : bf_G P S wv (bf_pk h0 h1 h2 h3 h4 h5 h6 h7 h8) mk) (K : bf_K P S T st J) : wL_law_267 post L xs J (nI P) (nI S) (nI T) h0 h1 h2 h3 h4 h5 h6 h7 h8 (nI mk) ow (nI st) x27 x28 kc ks (nI P) (nI S) (nI T) (nI A) dO dI sO sI lc wv := by
  have hP : P ≤ 32 := Q.1.2.1
  exact br_c (fun _ => xf_clear hP (fun a b ha hb => qf_282 ⟨Q.1, bf_PD_nil ha hb, Q.2.2⟩ hm hst G K)) (fun _ => qf_282 Q hm hst G K)
theorem qf_347 {s : Nat} (hs : s < T) (hd : ∀ i, i < P → ¬ dO i = -1 → dO i = sO (s * P + i)) (Q : bf_J P S T A dO dI sO sI) (hm : mk ≤ st + 1) (hst : st < 1000) (G : bf_G P S wv (bf_pk h0 h1 h2 h3 h4 h5 h6 h7 h8) mk) (K : bf_K P S T st J) : ∃ n, wL_law_347 post L xs J (nI P) (nI S) (nI T) h0 h1 h2 h3 h4 h5 h6 h7 h8 (nI mk) ow (nI st) (nI s) kc ks (nI P) (nI S) (nI T) (nI A) dO dI sO sI lc wv n 0 := by
  have hP : P ≤ 32 := Q.1.2.1
  have hT : T ≤ 4 := Q.1.2.2.2.2.2.1
  have key : ∀ m i, i + m = P → wL_law_347 post L xs J (nI P) (nI S) (nI T) h0 h1 h2 h3 h4 h5 h6 h7 h8 (nI mk) ow (nI st) (nI s) kc ks (nI P) (nI S) (nI T) (nI A) dO dI sO sI lc wv (m + 1) (nI i) := by
    intro m
    induction m with
    | zero =>
      intro i hi
      have e1 : i = P := by omega
      subst e1
      exact pk_le i i (fun _ => qf_726 Q hm hst G K) (fun z => absurd z (by omega))
    | succ m ih =>
      intro i hi
      have hiP : i < P := by omega
      refine pk_le P i (fun z => absurd z (by omega)) (fun _ => xf_drafted hP hiP (br_c (fun _ => nm_r (nI_1 i) (ih (i + 1) (by omega))) (fun hn => xf_route hP hT hs hiP (br_t (hd i hiP (fun e => hn (by rw [e]; decide))).symm (nm_r (nI_1 i) (ih (i + 1) (by omega)))))))
  exact ⟨P + 1, key P 0 (by omega)⟩
theorem qf_329 {s : Nat} (hs : s < T) (Q : bf_J P S T A dO dI sO sI) (hm : mk ≤ st + 1) (hst : st < 1000) (G : bf_G P S wv (bf_pk h0 h1 h2 h3 h4 h5 h6 h7 h8) mk) (K : bf_K P S T st J) : wL_law_329 post L xs J (nI P) (nI S) (nI T) h0 h1 h2 h3 h4 h5 h6 h7 h8 (nI mk) ow (nI st) (nI s) kc ks (nI P) (nI S) (nI T) (nI A) dO dI sO sI lc wv := by
  have hP : P ≤ 32 := Q.1.2.1
  have hT : T ≤ 4 := Q.1.2.2.2.2.2.1
  unfold wL_law_329
  refine xf_set hP hT hs Q.2.1 (fun a b hc hf => br_f ?_ (qf_347 hs (fun i hi h => bf_CH_d hc hi h) ⟨Q.1, Q.2.1, bf_PMs Q.2.2 hc.1 hf⟩ hm hst G K))
  rw [pk_sub (bf_cn_le dO P)]
  intro e
  have z := nI_pos (n := P - bf_cn dO P) (by omega)
  rw [e] at z
  exact z (by decide)
theorem qf_459 {J2 : Int32 → Int32 → Int32 → Int32 → Int32 → (Nat → Int32) → (Nat → Int32) → (Nat → Int32) → (Nat → Int32) → (Nat → Int32) → (Nat → Int32) → Prop} {x27 x28 x30 z0 : Int32} {i : Nat} (hP : P ≤ 32) (hi : i < P) (h : ∀ l, J2 (nI (i + 1)) (nI P) (nI S) (nI T) (nI A) dO dI sO sI l wv) : wL_law_459 post L xs J J2 (nI P) (nI S) (nI T) h0 h1 h2 h3 h4 h5 h6 h7 h8 (nI mk) ow (nI st) x27 x28 x30 (nI i) z0 (nI i) kc ks (nI P) (nI S) (nI T) (nI A) dO dI sO sI lc wv := by
  unfold wL_law_459
  exact qf_latch hP hi (fun r l => nm_r (nI_1 i) (h l))
theorem qf_416 {x27 x28 x30 : Int32} (Q : bf_J P S T A dO dI sO sI) (hm : mk ≤ st + 1) (hst : st < 1000) (G : bf_G P S wv (bf_pk h0 h1 h2 h3 h4 h5 h6 h7 h8) mk) (K : bf_K P S T st J) : ∃ n, wL_law_416 post L xs J (nI P) (nI S) (nI T) h0 h1 h2 h3 h4 h5 h6 h7 h8 (nI mk) ow (nI st) x27 x28 x30 kc ks n 0 (nI P) (nI S) (nI T) (nI A) dO dI sO sI lc wv := by
  have hP : P ≤ 32 := Q.1.2.1
  have key : ∀ m i l, i + m = P → wL_law_416 post L xs J (nI P) (nI S) (nI T) h0 h1 h2 h3 h4 h5 h6 h7 h8 (nI mk) ow (nI st) x27 x28 x30 kc ks (m + 1) (nI i) (nI P) (nI S) (nI T) (nI A) dO dI sO sI l wv := by
    intro m
    induction m with
    | zero =>
      intro i l hi
      have e1 : i = P := by omega
      subst e1
      exact pk_le i i (fun _ => qf_726 Q hm hst G K) (fun z => absurd z (by omega))
    | succ m ih =>
      intro i l hi
      exact pk_le P i (fun z => absurd z (by omega)) (fun _ => br_c (fun _ => nm_r (nI_1 i) (ih (i + 1) l (by omega))) (fun _ => br_c (fun _ => qf_459 hP (by omega) (fun l' => ih (i + 1) l' (by omega))) (fun _ => qf_459 hP (by omega) (fun l' => ih (i + 1) l' (by omega)))))
  exact ⟨P + 1, key P 0 lc (by omega)⟩
theorem qf_403 {x27 x28 : Int32} (Q : bf_J P S T A dO dI sO sI) (hm : mk ≤ st + 1) (hst : st < 1000) (G : bf_G P S wv (bf_pk h0 h1 h2 h3 h4 h5 h6 h7 h8) mk) (K : bf_K P S T st J) : wL_law_403 post L xs J (nI P) (nI S) (nI T) h0 h1 h2 h3 h4 h5 h6 h7 h8 (nI mk) ow (nI st) x27 x28 kc ks (nI P) (nI S) (nI T) (nI A) dO dI sO sI lc wv := by
  unfold wL_law_403
  exact qf_mix (qf_416 Q hm hst G K)
theorem qf_505 (Q : bf_J P S T A dO dI sO sI) (hm : mk ≤ st) (hst : st < 1000) (G : bf_G P S wv (bf_pk h0 h1 h2 h3 h4 h5 h6 h7 h8) mk) (K : bf_K P S T st J) : ∃ n, wL_law_505 post L xs J (nI P) (nI S) (nI T) h0 h1 h2 h3 h4 h5 h6 h7 (nI mk) ow (nI st) (nI A) kc ks (nI P) (nI S) (nI T) (nI A) dO dI sO sI lc wv n 0 0 := by
  obtain ⟨hP2, hP, hS1, hS, hT1, hT, hA, _⟩ := Q.1
  have pm := Q.2.2 A hA
  have key : ∀ m i, i + m = P → wL_law_505 post L xs J (nI P) (nI S) (nI T) h0 h1 h2 h3 h4 h5 h6 h7 (nI mk) ow (nI st) (nI A) kc ks (nI P) (nI S) (nI T) (nI A) dO dI sO sI lc wv (m + 1) (bf_sm (fun i => bf_mx (sO (A * P + i)) (lc i)) i) (nI i) := by
    intro m
    induction m with
    | zero =>
      intro i hi
      have e1 : i = P := by omega
      subst e1
      exact pk_le i i (fun _ => xf_tick hP hS1 hS hT hA pm (fun w l X1 X2 X3 => nm_r (nI_1 mk) (qf_726 Q (by omega) hst (bf_G_tick hP hS G pm X1 X2) K))) (fun z => absurd z (by omega))
    | succ m ih =>
      intro i hi
      exact pk_le P i (fun z => absurd z (by omega)) (fun _ => xf_route hP hT hA (by omega) (xf_latched hP (by omega) (qf_mix (nm_r (e' := bf_sm (fun i => bf_mx (sO (A * P + i)) (lc i)) (i + 1)) rfl (nm_r (nI_1 i) (ih (i + 1) (by omega)))))))
  exact ⟨P + 1, key P 0 (by omega)⟩
theorem qf_492 (Q : bf_J P S T A dO dI sO sI) (hm : mk ≤ st) (hst : st < 1000) (G : bf_G P S wv (bf_pk h0 h1 h2 h3 h4 h5 h6 h7 h8) mk) (K : bf_K P S T st J) : wL_law_492 post L xs J (nI P) (nI S) (nI T) h0 h1 h2 h3 h4 h5 h6 h7 (nI mk) ow (nI st) kc ks (nI P) (nI S) (nI T) (nI A) dO dI sO sI lc wv := by
  unfold wL_law_492
  exact qf_info3 (qf_505 Q hm hst G K)
end QB
