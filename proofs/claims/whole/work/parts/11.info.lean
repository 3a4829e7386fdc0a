/-! the two counts of info that the reference makes by its own loops; the class's flight count -/
section BI
variable {P S T A : Nat} {d se ce wa dO dI sO sI lc wv : Nat → Int32}
theorem yf_cells {post : Int32 → Prop} (hP : P ≤ 32) (hV : ∀ i, i < P → bf_Vl (ce i)) (h : post (nI (bf_cn ce P))) : ∃ n, wY_info_58 post (nI P) (nI S) (nI T) (nI A) d se ce wa n 0 0 := by
  have key : ∀ m i, i + m = P → wY_info_58 post (nI P) (nI S) (nI T) (nI A) d se ce wa (m + 1) (nI (bf_cn ce i)) (nI i) := by
    intro m
    induction m with
    | zero =>
      intro i hi
      have e : i = P := by omega
      subst e
      exact pk_le i i (fun _ => h) (fun z => absurd z (by omega))
    | succ m ih =>
      intro i hi
      have t := ih (i + 1) (by omega)
      refine pk_le P i (fun z => absurd z (by omega)) (fun _ => ⟨pk_in i 32 (by omega), ?_⟩)
      rw [nI_clamp (by omega)]
      by_cases e : ce i = -1
      · rw [bf_cn_t e] at t
        exact br_t ((bf_vl_lt (hV i (by omega))).mpr e) (nm_r (Int32.add_zero _) (nm_r (nI_1 i) t))
      · rw [bf_cn_f e] at t
        exact br_f (fun z => e ((bf_vl_lt (hV i (by omega))).mp z)) (nm_r (nI_1 _) (nm_r (nI_1 i) t))
  exact ⟨P + 1, key P 0 (by omega)⟩
theorem bf_row {F : Nat → Int32} {P k : Nat} (hk : 1 ≤ k) : bf_cn (fun j => F (P + j)) (k * P) = bf_cn (fun j => F (P + j)) ((k - 1) * P) + bf_cn (fun o => F (k * P + o)) P := by
  obtain ⟨r, rfl⟩ : ∃ r, k = r + 1 := ⟨k - 1, by omega⟩
  rw [Nat.add_sub_cancel, Nat.add_mul, Nat.one_mul, bf_cn_add]
  refine congrArg _ (bf_cn_cg P (fun j _ => ?_))
  show F (P + (r * P + j)) = F (r * P + P + j)
  exact congrArg F (by omega)
theorem yf_flight {post : Int32 → Prop} (hP : P ≤ 32) (hS1 : 1 ≤ S) (hS : S ≤ 9) (W : bf_W P S wv wa) (h : post (nI (bf_cn (fun j => wv (P + j)) ((S - 1) * P)))) : ∃ n, wY_info_99 post (nI P) (nI S) (nI T) (nI A) d se ce wa n 0 1 := by
  have key : ∀ m k, k + m = S → 1 ≤ k → wY_info_99 post (nI P) (nI S) (nI T) (nI A) d se ce wa (m + 1) (nI (bf_cn (fun j => wv (P + j)) ((k - 1) * P))) (nI k) := by
    intro m
    induction m with
    | zero =>
      intro k hk hk1
      have e : k = S := by omega
      subst e
      exact pk_le k k (fun _ => h) (fun z => absurd z (by omega))
    | succ m ih =>
      intro k hk hk1
      have t := ih (k + 1) (by omega) (by omega)
      rw [Nat.add_sub_cancel, bf_row hk1, ← bf_cn_cg (f := fun o => wa (k * 32 + o)) (g := fun o => wv (k * P + o)) P (fun o ho => (W k (by omega) o ho).1)] at t
      exact pk_le S k (fun z => absurd z (by omega)) (fun _ => yf_countWave hP (by omega) (fun o ho => by
        have w := W k (by omega) o ho
        rw [w.1]
        exact w.2) (nm_r (nI_add _ _) (nm_r (nI_1 k) t)))
  obtain ⟨r, rfl⟩ : ∃ r, S = r + 1 := ⟨S - 1, by omega⟩
  have z := key r 1 (by omega) (by omega)
  have e0 : (1 - 1) * P = 0 := Nat.zero_mul P
  rw [e0] at z
  exact ⟨r + 1, z⟩
theorem xf_flight {post : Int32 → Prop} (hP : P ≤ 32) (hS1 : 1 ≤ S) (hS : S ≤ 9) (h : post (nI (bf_cn (fun j => wv (P + j)) ((S - 1) * P)))) : wpX_countHeld__waveCells post (nI P, nI S, nI T, nI A, dO, dI, sO, sI, lc, wv) (nI P) (nI S * nI P) := by
  have e : S * P = (S - 1) * P + P := by
    obtain ⟨r, rfl⟩ : ∃ r, S = r + 1 := ⟨S - 1, by omega⟩
    rw [Nat.add_mul, Nat.one_mul, Nat.add_sub_cancel]
  have hb : S * P ≤ 9 * 32 := Nat.mul_le_mul hS hP
  rw [pk_mul]
  refine xf_cnt_w (by omega) (by omega) ?_
  rw [show S * P - P = (S - 1) * P by omega]
  exact h
end BI
