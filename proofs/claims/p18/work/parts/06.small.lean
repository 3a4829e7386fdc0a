/-! the law's small methods, and the class's calls as the law needs them -/
def bf_mx (p0 p1 : Int32) : Int64 :=
  (fun x4 : Int64 => x4 ^^^ ((x4.toUInt64 >>> ((31 : Int32).toInt64.toUInt64 &&& Int64.toUInt64 63)).toInt64))
    ((fun x3 : Int64 => (x3 ^^^ ((x3.toUInt64 >>> ((27 : Int32).toInt64.toUInt64 &&& Int64.toUInt64 63)).toInt64)) * (-7723592293110705685))
      ((fun x2 : Int64 => (x2 ^^^ ((x2.toUInt64 >>> ((30 : Int32).toInt64.toUInt64 &&& Int64.toUInt64 63)).toInt64)) * (-4658895280553007687))
        (((p0.toInt64 <<< ((32 : Int32).toInt64 &&& 63)) ^^^ (p1.toInt64 &&& 4294967295)) + (-7046029254386353131))))
theorem qf_mix {post : Int64 → Prop} {o v : Int32} (h : post (bf_mx o v)) : wpL_mix post () o v := by
  unfold wpL_mix
  intro x1 e1 x2 e2 x3 e3 x4 e4
  subst e4
  subst e3
  subst e2
  subst e1
  exact h
theorem qf_cell {post : Int32 → Prop} {L : Nat} {xs : Nat → Int32} (c : Nat) (hL : L ≤ 260) (hc : c < 2 ^ 31) (h : ∀ r, post r) : wpL_cell post L xs () (nI c) :=
  pk_le L c (fun _ => h 0) (fun z => ⟨pk_in c L z, h _⟩)
theorem qf_tail {post : Int32 → Prop} {p : Int32} (h : ∀ r, post r) : wpL_tailOp post () p :=
  br_c (fun _ => h _) (fun _ => br_c (fun _ => h _) (fun _ => br_c (fun _ => h _) (fun _ => br_c (fun _ => h _) (fun _ => br_c (fun _ => h _) (fun _ => h _)))))
def bf_pk (h0 h1 h2 h3 h4 h5 h6 h7 h8 : Int64) : Nat → Int64
  | 0 => h0
  | 1 => h1
  | 2 => h2
  | 3 => h3
  | 4 => h4
  | 5 => h5
  | 6 => h6
  | 7 => h7
  | _ => h8
theorem qf_pick {post : Int64 → Prop} {h0 h1 h2 h3 h4 h5 h6 h7 h8 : Int64} {j : Nat} (hj : j < 9) (h : post (bf_pk h0 h1 h2 h3 h4 h5 h6 h7 h8 j)) : wpL_pick post () (nI j) h0 h1 h2 h3 h4 h5 h6 h7 h8 := by
  rcases (by omega : j = 0 ∨ j = 1 ∨ j = 2 ∨ j = 3 ∨ j = 4 ∨ j = 5 ∨ j = 6 ∨ j = 7 ∨ j = 8) with rfl | rfl | rfl | rfl | rfl | rfl | rfl | rfl | rfl
  · exact (br_t rfl h)
  · exact (br_f (by decide) (br_t rfl h))
  · exact (br_f (by decide) (br_f (by decide) (br_t rfl h)))
  · exact (br_f (by decide) (br_f (by decide) (br_f (by decide) (br_t rfl h))))
  · exact (br_f (by decide) (br_f (by decide) (br_f (by decide) (br_f (by decide) (br_t rfl h)))))
  · exact (br_f (by decide) (br_f (by decide) (br_f (by decide) (br_f (by decide) (br_f (by decide) (br_t rfl h))))))
  · exact (br_f (by decide) (br_f (by decide) (br_f (by decide) (br_f (by decide) (br_f (by decide) (br_f (by decide) (br_t rfl h)))))))
  · exact (br_f (by decide) (br_f (by decide) (br_f (by decide) (br_f (by decide) (br_f (by decide) (br_f (by decide) (br_f (by decide) (br_t rfl h))))))))
  · exact (br_f (by decide) (br_f (by decide) (br_f (by decide) (br_f (by decide) (br_f (by decide) (br_f (by decide) (br_f (by decide) (br_f (by decide) h))))))))
theorem bf_pk_s {x h0 h1 h2 h3 h4 h5 h6 h7 h8 : Int64} {j : Nat} (hj : j < 8) : bf_pk x h0 h1 h2 h3 h4 h5 h6 h7 (j + 1) = bf_pk h0 h1 h2 h3 h4 h5 h6 h7 h8 j := by
  rcases (by omega : j = 0 ∨ j = 1 ∨ j = 2 ∨ j = 3 ∨ j = 4 ∨ j = 5 ∨ j = 6 ∨ j = 7) with rfl | rfl | rfl | rfl | rfl | rfl | rfl | rfl <;> rfl
/-- the last waves' sums -/
def bf_G (P S : Nat) (wv : Nat → Int32) (h : Nat → Int64) (mk : Nat) : Prop := ∀ j, j < S → j < mk → bf_sm (fun o => bf_mx (nI o) (wv ((S - 1 - j) * P + o))) P = h j
theorem bf_G_tick {P S b mk : Nat} {h0 h1 h2 h3 h4 h5 h6 h7 h8 : Int64} {wv w lc sO sI : Nat → Int32} (hP : P ≤ 32) (hS : S ≤ 9) (G : bf_G P S wv (bf_pk h0 h1 h2 h3 h4 h5 h6 h7 h8) mk) (pm : bf_PM P sO sI b)
    (X1 : ∀ x, x + P < S * P → w x = wv (x + P)) (X2 : ∀ o, o < P → w ((S - 1) * P + o) = lc (sI (b + o)).toNatClampNeg) :
    bf_G P S w (bf_pk (bf_sm (fun i => bf_mx (sO (b + i)) (lc i)) P) h0 h1 h2 h3 h4 h5 h6 h7) (mk + 1) := by
  intro j hj hm
  cases j with
  | zero =>
    have q : bf_sm (fun i => bf_mx (sO (b + i)) (lc i)) P = bf_sm (fun o => (fun i => bf_mx (sO (b + i)) (lc i)) (sI (b + o)).toNatClampNeg) P :=
      bf_sm_pm (si := fun i => (sO (b + i)).toNatClampNeg) (ta := fun o => (sI (b + o)).toNatClampNeg) (fun i hi => by
        obtain ⟨o, ho, a1, a2⟩ := pm.1 i hi
        show (sO (b + i)).toNatClampNeg < P ∧ (sI (b + (sO (b + i)).toNatClampNeg)).toNatClampNeg = i
        rw [a1, nI_clamp (by omega), a2, nI_clamp (by omega)]
        exact ⟨ho, rfl⟩) (fun o ho => by
        obtain ⟨i, hi, a1, a2⟩ := pm.2 o ho
        show (sI (b + o)).toNatClampNeg < P ∧ (sO (b + (sI (b + o)).toNatClampNeg)).toNatClampNeg = o
        rw [a1, nI_clamp (by omega), a2, nI_clamp (by omega)]
        exact ⟨hi, rfl⟩)
    show bf_sm (fun o => bf_mx (nI o) (w ((S - 1 - 0) * P + o))) P = bf_sm (fun i => bf_mx (sO (b + i)) (lc i)) P
    rw [q]
    refine bf_sm_cg P (fun o ho => ?_)
    obtain ⟨i, hi, a1, a2⟩ := pm.2 o ho
    show bf_mx (nI o) (w ((S - 1 - 0) * P + o)) = bf_mx (sO (b + (sI (b + o)).toNatClampNeg)) (lc (sI (b + o)).toNatClampNeg)
    rw [Nat.sub_zero, X2 o ho, a1, nI_clamp (by omega), a2]
  | succ j =>
    rw [bf_pk_s (by omega), ← G j (by omega) (by omega)]
    refine bf_sm_cg P (fun o ho => ?_)
    have e : (S - 1 - (j + 1)) * P + o + P = (S - 1 - j) * P + o := by
      rw [show S - 1 - j = (S - 1 - (j + 1)) + 1 by omega, Nat.add_mul, Nat.one_mul]
      omega
    show bf_mx (nI o) (w ((S - 1 - (j + 1)) * P + o)) = bf_mx (nI o) (wv ((S - 1 - j) * P + o))
    rw [X1 _ (by rw [e]; exact bf_ix (by omega) ho), e]
def bf_J (P S T A : Nat) (dO dI sO sI : Nat → Int32) : Prop := bf_H P S T A ∧ bf_PD P dO dI ∧ ∀ s, s < T → bf_PM P sO sI (s * P)
theorem bf_PMs {P T s : Nat} {sO sI a b : Nat → Int32} (h : ∀ t, t < T → bf_PM P sO sI (t * P)) (hc : bf_PM P a b (s * P)) (hf : ∀ x, x < s * P ∨ s * P + P ≤ x → a x = sO x ∧ b x = sI x) : ∀ t, t < T → bf_PM P a b (t * P) := by
  intro t ht
  by_cases e : t = s
  · rw [e]
    exact hc
  · exact bf_PM_cg (h t ht) (fun x h1 h2 => hf x (bf_apart e h1 h2))
theorem bf_am {P : Nat} (x : Int32) (hP : P ≤ 32) (hL : ∃ l, P = 2 ^ l) : ∃ j, j < P ∧ x &&& (nI P - 1) = nI j := by
  obtain ⟨l, rfl⟩ := hL
  have h1 : 1 ≤ 2 ^ l := Nat.two_pow_pos l
  have e : nI (2 ^ l) - 1 = nI (2 ^ l - 1) := pk_sub (b := 1) h1
  rw [e]
  exact pk_andE x l (pk_tn (by omega))
theorem bf_md {T : Nat} (x : Int32) (h1 : 1 ≤ T) (h4 : T ≤ 4) : ∃ s, s < T ∧ (x &&& 2147483647) - (x &&& 2147483647) / nI T * nI T = nI s := by
  have e : x &&& 2147483647 = nI (x.toBitVec.toNat % 2 ^ 31) := pk_and x 31 (by decide)
  rw [e, pk_rem (Nat.mod_lt _ (by decide)) (by omega) (by omega)]
  exact ⟨_, Nat.mod_lt _ (by omega), rfl⟩
section QX
variable {P S T A : Nat} {dO dI sO sI lc wv : Nat → Int32}
theorem qf_request {post : Int32 → St2 → Prop} {i o : Nat} (hP : P ≤ 32) (pd : bf_PD P dO dI) (hi : i < P) (ho : o < P) (h : ∀ r a b, bf_PD P a b → post r (nI P, nI S, nI T, nI A, a, b, sO, sI, lc, wv)) : wpX_request post (nI P, nI S, nI T, nI A, dO, dI, sO, sI, lc, wv) (nI i) (nI o) := by
  by_cases h1 : dO i = -1
  · by_cases h2 : dI o = -1
    · exact xf_rq5 hP hi ho h1 h2 (h _ _ _ (bf_PD_add pd hP hi ho h1 h2))
    · exact xf_rq4 hP hi ho h1 h2 (h _ _ _ pd)
  · exact xf_rq3 hP hi ho h1 (h _ _ _ pd)
theorem qf_withdraw {post : Int32 → St2 → Prop} {i : Nat} (hP : P ≤ 32) (pd : bf_PD P dO dI) (hi : i < P) (h : ∀ r a b, bf_PD P a b → post r (nI P, nI S, nI T, nI A, a, b, sO, sI, lc, wv)) : wpX_withdraw post (nI P, nI S, nI T, nI A, dO, dI, sO, sI, lc, wv) (nI i) := by
  rcases pd.1 i hi with a | ⟨o, ho, a, c⟩
  · exact xf_wd2 hP hi a (h _ _ _ pd)
  · exact xf_wd3 hP hi ho a (h _ _ _ (bf_PD_del pd hP hi ho a c))
theorem qf_latch {post : Int32 → St2 → Prop} {i : Nat} {y : Int32} (hP : P ≤ 32) (hi : i < P) (h : ∀ r l, post r (nI P, nI S, nI T, nI A, dO, dI, sO, sI, l, wv)) : wpX_latch post (nI P, nI S, nI T, nI A, dO, dI, sO, sI, lc, wv) (nI i) y := by
  by_cases h0 : y < 0
  · exact xf_latch2 hP hi h0 (h _ _)
  · by_cases h1 : lc i = -1
    · exact xf_latch4 hP hi h0 h1 (h _ _)
    · exact xf_latch3 hP hi h0 h1 (h _ _)
theorem qf_info0 {post : Int32 → Prop} (h : post (nI P)) : wpX_info post (nI P, nI S, nI T, nI A, dO, dI, sO, sI, lc, wv) 0 := br_f (by decide) (br_f (by decide) (br_t rfl h))
theorem qf_info1 {post : Int32 → Prop} (h : post (nI S)) : wpX_info post (nI P, nI S, nI T, nI A, dO, dI, sO, sI, lc, wv) 1 := br_f (by decide) (br_f (by decide) (br_f (by decide) (br_t rfl h)))
theorem qf_info2 {post : Int32 → Prop} (h : post (nI T)) : wpX_info post (nI P, nI S, nI T, nI A, dO, dI, sO, sI, lc, wv) 2 := br_f (by decide) (br_f (by decide) (br_f (by decide) (br_f (by decide) (br_t rfl h))))
theorem qf_info3 {post : Int32 → Prop} (h : post (nI A)) : wpX_info post (nI P, nI S, nI T, nI A, dO, dI, sO, sI, lc, wv) 3 := br_f (by decide) (br_f (by decide) (br_f (by decide) (br_f (by decide) (br_f (by decide) (br_t rfl h)))))
end QX
