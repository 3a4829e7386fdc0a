/-! the law's checks after a step -/
abbrev bf_JT : Type := Int64 → Int64 → Int64 → Int64 → Int64 → Int64 → Int64 → Int64 → Int64 → Int32 → Int32 → Int32 → Int32 → Int32 → Int32 → (Nat → Int32) → (Nat → Int32) → (Nat → Int32) → (Nat → Int32) → (Nat → Int32) → (Nat → Int32) → Prop
/-- what the law's loop asks from the next step on -/
def bf_K (P S T st : Nat) (J : bf_JT) : Prop := ∀ (mk A : Nat) (h0 h1 h2 h3 h4 h5 h6 h7 h8 : Int64) (dO dI sO sI lc wv : Nat → Int32), mk ≤ st + 1 → bf_J P S T A dO dI sO sI → bf_G P S wv (bf_pk h0 h1 h2 h3 h4 h5 h6 h7 h8) mk → J h0 h1 h2 h3 h4 h5 h6 h7 h8 (nI mk) (nI (st + 1)) (nI P) (nI S) (nI T) (nI A) dO dI sO sI lc wv
section QA
variable {post : Int32 → Prop} {L : Nat} {xs : Nat → Int32} {J : bf_JT} {P S T A mk st kc ks : Nat} {ow : Int32} {h0 h1 h2 h3 h4 h5 h6 h7 h8 : Int64} {dO dI sO sI lc wv : Nat → Int32}
theorem qf_848 {J2 : Int32 → Prop} {j : Nat} (hP : P ≤ 32) (hS : S ≤ 9) (hj : j < S) (hq : bf_sm (fun o => bf_mx (nI o) (wv ((S - 1 - j) * P + o))) P = bf_pk h0 h1 h2 h3 h4 h5 h6 h7 h8 j) (hc : J2 (nI (j + 1))) : ∃ n, wL_law_848 post L xs J J2 (nI P) (nI S) (nI T) h0 h1 h2 h3 h4 h5 h6 h7 h8 (nI mk) ow (nI st) (nI j) kc ks (nI P) (nI S) (nI T) (nI A) dO dI sO sI lc wv n 0 0 := by
  have eS : nI S - 1 - nI j = nI (S - 1 - j) := by
    rw [show nI S - 1 = nI (S - 1) from pk_sub (b := 1) (by omega)]
    exact pk_sub (by omega)
  have key : ∀ m o, o + m = P → wL_law_848 post L xs J J2 (nI P) (nI S) (nI T) h0 h1 h2 h3 h4 h5 h6 h7 h8 (nI mk) ow (nI st) (nI j) kc ks (nI P) (nI S) (nI T) (nI A) dO dI sO sI lc wv (m + 1) (bf_sm (fun o => bf_mx (nI o) (wv ((S - 1 - j) * P + o))) o) (nI o) := by
    intro m
    induction m with
    | zero =>
      intro o ho
      have e1 : o = P := by omega
      subst e1
      exact pk_le o o (fun _ => qf_pick (by omega) (br_t hq (nm_r (nI_1 j) hc))) (fun z => absurd z (by omega))
    | succ m ih =>
      intro o ho
      refine pk_le P o (fun z => absurd z (by omega)) (fun _ => ?_)
      rw [eS]
      exact xf_output hP hS (by omega) (by omega) (qf_mix (nm_r (e' := bf_sm (fun o => bf_mx (nI o) (wv ((S - 1 - j) * P + o))) (o + 1)) rfl (nm_r (nI_1 o) (ih (o + 1) (by omega)))))
  exact ⟨P + 1, key P 0 (by omega)⟩
theorem qf_829 (Q : bf_J P S T A dO dI sO sI) (hm : mk ≤ st + 1) (hst : st < 1000) (G : bf_G P S wv (bf_pk h0 h1 h2 h3 h4 h5 h6 h7 h8) mk) (K : bf_K P S T st J) : ∃ n, wL_law_829 post L xs J (nI P) (nI S) (nI T) h0 h1 h2 h3 h4 h5 h6 h7 h8 (nI mk) ow (nI st) kc ks (nI P) (nI S) (nI T) (nI A) dO dI sO sI lc wv n 0 := by
  have hP : P ≤ 32 := Q.1.2.1
  have hS : S ≤ 9 := Q.1.2.2.2.1
  have key : ∀ m j, j + m = S → wL_law_829 post L xs J (nI P) (nI S) (nI T) h0 h1 h2 h3 h4 h5 h6 h7 h8 (nI mk) ow (nI st) kc ks (nI P) (nI S) (nI T) (nI A) dO dI sO sI lc wv (m + 1) (nI j) := by
    intro m
    induction m with
    | zero =>
      intro j hj
      have e1 : j = S := by omega
      subst e1
      exact pk_le j j (fun _ => nm_r (nI_1 st) (K _ _ _ _ _ _ _ _ _ _ _ _ _ _ _ _ _ hm Q G)) (fun z => absurd z (by omega))
    | succ m ih =>
      intro j hj
      exact pk_le S j (fun z => absurd z (by omega)) (fun _ => pk_le mk j (fun _ => nm_r (nI_1 st) (K _ _ _ _ _ _ _ _ _ _ _ _ _ _ _ _ _ hm Q G)) (fun z => qf_848 hP hS (by omega) (G j (by omega) z) (ih (j + 1) (by omega))))
  exact ⟨S + 1, key S 0 (by omega)⟩
theorem qf_736 {J2 : Int32 → Prop} {s : Nat} (hP : P ≤ 32) (hT : T ≤ 4) (hs : s < T) (pm : bf_PM P sO sI (s * P)) (hc : J2 (nI (s + 1))) : ∃ n, wL_law_736 post L xs J J2 (nI P) (nI S) (nI T) h0 h1 h2 h3 h4 h5 h6 h7 h8 (nI mk) ow (nI st) (nI s) kc ks (nI P) (nI S) (nI T) (nI A) dO dI sO sI lc wv n 0 := by
  have key : ∀ m i, i + m = P → wL_law_736 post L xs J J2 (nI P) (nI S) (nI T) h0 h1 h2 h3 h4 h5 h6 h7 h8 (nI mk) ow (nI st) (nI s) kc ks (nI P) (nI S) (nI T) (nI A) dO dI sO sI lc wv (m + 1) (nI i) := by
    intro m
    induction m with
    | zero =>
      intro i hi
      have e1 : i = P := by omega
      subst e1
      exact pk_le i i (fun _ => nm_r (nI_1 s) hc) (fun z => absurd z (by omega))
    | succ m ih =>
      intro i hi
      have hiP : i < P := by omega
      obtain ⟨o, ho, a1, a2⟩ := pm.1 i hiP
      obtain ⟨q, hq, b1, b2⟩ := pm.2 i hiP
      refine pk_le P i (fun z => absurd z (by omega)) (fun _ => xf_route hP hT hs hiP ?_)
      rw [a1]
      refine br_f (nI_pos (by omega)) (pk_le P o (fun z => absurd z (by omega)) (fun _ => xf_source hP hT hs ho ?_))
      rw [a2]
      refine br_t rfl (xf_source hP hT hs hiP ?_)
      rw [b1]
      refine br_f (nI_pos (by omega)) (pk_le P q (fun z => absurd z (by omega)) (fun _ => xf_route hP hT hs hq ?_))
      rw [b2]
      exact br_t rfl (nm_r (nI_1 i) (ih (i + 1) (by omega)))
  exact ⟨P + 1, key P 0 (by omega)⟩
theorem qf_726 (Q : bf_J P S T A dO dI sO sI) (hm : mk ≤ st + 1) (hst : st < 1000) (G : bf_G P S wv (bf_pk h0 h1 h2 h3 h4 h5 h6 h7 h8) mk) (K : bf_K P S T st J) : ∃ n, wL_law_726 post L xs J (nI P) (nI S) (nI T) h0 h1 h2 h3 h4 h5 h6 h7 h8 (nI mk) ow (nI st) kc ks (nI P) (nI S) (nI T) (nI A) dO dI sO sI lc wv n 0 := by
  have hP : P ≤ 32 := Q.1.2.1
  have hT : T ≤ 4 := Q.1.2.2.2.2.2.1
  have key : ∀ m s, s + m = T → wL_law_726 post L xs J (nI P) (nI S) (nI T) h0 h1 h2 h3 h4 h5 h6 h7 h8 (nI mk) ow (nI st) kc ks (nI P) (nI S) (nI T) (nI A) dO dI sO sI lc wv (m + 1) (nI s) := by
    intro m
    induction m with
    | zero =>
      intro s hs
      have e1 : s = T := by omega
      subst e1
      exact pk_le s s (fun _ => qf_829 Q hm hst G K) (fun z => absurd z (by omega))
    | succ m ih =>
      intro s hs
      exact pk_le T s (fun z => absurd z (by omega)) (fun _ => qf_736 hP hT (by omega) (Q.2.2 s (by omega)) (ih (s + 1) (by omega)))
  exact ⟨T + 1, key T 0 (by omega)⟩
end QA
