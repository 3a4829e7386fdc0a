section BY3
variable {P S T A : Nat} {d se ce wa : Nat → Int32}
theorem yf_clear {post : Int32 → SY → Prop} (hP : P ≤ 32) (hV : ∀ i, i < P → bf_Vl (d i)) (h : ∀ a, (∀ i, i < P → a i = -1) → post (nI (bf_cn d P)) (nI P, nI S, nI T, nI A, a, se, ce, wa)) : wpY_clear post (nI P, nI S, nI T, nI A, d, se, ce, wa) := by
  have key : ∃ n, wY_clear_7 post (nI (bf_cn d P)) (nI P) (nI S) (nI T) (nI A) n 0 d se ce wa :=
    pk_loop (fun n i s => wY_clear_7 post (nI (bf_cn d P)) (nI P) (nI S) (nI T) (nI A) n (nI i) s se ce wa) (fun i s => ∀ j, j < i → s j = -1) P 0 d (by omega) (fun j hj => absurd hj (by omega))
      (fun n s hs => pk_le P P (fun _ => h s hs) (fun z => absurd z (by omega)))
      (fun n i s hi hs hw => pk_le P i (fun z => absurd z (by omega)) (fun _ => bf_st i rfl (by omega) (by decide) (nm_r (nI_1 i) (hw _ (bf_fl (f := fun _ => -1) hs rfl)))))
  unfold wpY_clear
  dsimp only
  exact yf_countDraft hP hV key
theorem yf_load {post : Int32 → SY → Prop} {s : Nat} (hP : P ≤ 32) (hT : T ≤ 4) (hs : s < T) (h : ∀ a, (∀ i, i < P → a i = se (s * 32 + i)) → post 0 (nI P, nI S, nI T, nI A, a, se, ce, wa)) : wpY_load post (nI P, nI S, nI T, nI A, d, se, ce, wa) (nI s) := by
  have key : ∃ n, wY_load_13 post (nI s) (nI P) (nI S) (nI T) (nI A) n 0 d se ce wa :=
    pk_loop (fun n i a => wY_load_13 post (nI s) (nI P) (nI S) (nI T) (nI A) n (nI i) a se ce wa) (fun i a => ∀ j, j < i → a j = se (s * 32 + j)) P 0 d (by omega) (fun j hj => absurd hj (by omega))
      (fun n a ha => pk_le P P (fun _ => h a ha) (fun z => absurd z (by omega)))
      (fun n i a hi ha hw => pk_le P i (fun z => absurd z (by omega)) (fun _ => ⟨pk_in (s * 32 + i) 128 (by omega) (bf_m32 s i), bf_st i rfl (by omega) (by decide) (nm_r (nI_1 i) (by
        rw [bf_m32 s i, nI_clamp (by omega)]
        exact hw _ (bf_fl (f := fun j => se (s * 32 + j)) ha rfl)))⟩))
  unfold wpY_load
  dsimp only
  exact yf_slot_t hT hs (br_f (by decide) key)
/-- the second loop of set: input i at output o -/
def yf_YI (P B b : Nat) (dO sO : Nat → Int32) (i o : Nat) (e : Nat → Int32) : Prop :=
  (∀ j, j < i → e (B + j) = sO (b + j)) ∧ (∀ j, i < j → j < P → e (B + j) = dO j) ∧
  (e (B + i) = sO (b + i) ∨ (dO i = -1 ∧ e (B + i) = -1 ∧ ∃ g, sO (b + i) = nI g ∧ g < P ∧ o ≤ g))
theorem yf_set {post : Int32 → SY → Prop} {s : Nat} {dO dI sO sI : Nat → Int32} (hP : P ≤ 32) (hT : T ≤ 4) (hs : s < T) (D : bf_D P dO dI d) (hc : bf_CH P (s * P) dO dI sO sI)
    (h : ∀ e, (∀ i, i < P → e (s * 32 + i) = sO (s * P + i)) → (∀ x, x < s * 32 ∨ s * 32 + P ≤ x → e x = se x) → post (nI P - nI (bf_cn d P)) (nI P, nI S, nI T, nI A, d, e, ce, wa)) : wpY_set post (nI P, nI S, nI T, nI A, d, se, ce, wa) (nI s) := by
  have key3 : ∀ (J : Int32 → (Nat → Int32) → (Nat → Int32) → (Nat → Int32) → (Nat → Int32) → Prop) (i : Nat), i < P →
      (∀ e, (∀ j, j < i + 1 → e (s * 32 + j) = sO (s * P + j)) → (∀ j, i + 1 ≤ j → j < P → e (s * 32 + j) = dO j) → (∀ x, x < s * 32 ∨ s * 32 + P ≤ x → e x = se x) → J (nI (i + 1)) d e ce wa) →
      ∀ m o e, o + m = P → yf_YI P (s * 32) (s * P) dO sO i o e → (∀ x, x < s * 32 ∨ s * 32 + P ≤ x → e x = se x) → wY_set_56 post J (nI s) (nI i) (nI P) (nI S) (nI T) (nI A) (m + 1) (nI o) d e ce wa := by
    intro J i hi hJ m
    induction m with
    | zero =>
      intro o e ho hy fr
      have e1 : o = P := by omega
      subst e1
      refine pk_le o o (fun _ => nm_r (nI_1 i) (hJ e (fun j hj => ?_) (fun j h1 h2 => hy.2.1 j (by omega) h2) fr)) (fun z => absurd z (by omega))
      by_cases ej : j = i
      · rw [ej]
        rcases hy.2.2 with z | ⟨_, _, g, _, z1, z2⟩
        · exact z
        · omega
      · exact hy.1 j (by omega)
    | succ m ih =>
      intro o e ho hy fr
      have hoP : o < P := by omega
      refine pk_le P o (fun z => absurd z (by omega)) (fun _ => ⟨pk_in (s * 32 + i) 128 (by omega) (bf_m32 s i), ?_⟩)
      rw [bf_m32 s i, nI_clamp (by omega)]
      rcases hy.2.2 with z | ⟨z1, z2, g, z3, z4, z5⟩
      · obtain ⟨g, hg, a, _⟩ := hc.2 i hi
        refine br_t (by rw [z, a]; exact nI_pos' (by omega)) (nm_r (nI_1 o) (ih (o + 1) e (by omega) ⟨hy.1, hy.2.1, Or.inl z⟩ fr))
      · refine br_f (by rw [z2]; decide) ?_
        by_cases eg : o = g
        · subst eg
          have un := bf_unused hP D.1 hc hi z1 z3 z4
          refine yf_find hP (by omega) (fun j hj ej => ?_) (fun _ => br_f (by decide) ?_)
          · exfalso
            rcases Nat.lt_trichotomy j i with w | w | w
            · rw [hy.1 j w] at ej
              exact un.1 j w ej
            · rw [w, z2] at ej
              exact bf_ne1 (by omega) ej.symm
            · rw [hy.2.1 j w hj] at ej
              exact un.2 j hj ej
          · refine ⟨pk_in (s * 32 + i) 128 (by omega) rfl, nm_e (nm_r (nI_1 o) (ih (o + 1) _ (by omega) ⟨fun j hj => ?_, fun j h1 h2 => ?_, Or.inl ?_⟩ (fun x hx => ?_)))⟩
            · rw [pk_un (by omega)]; exact hy.1 j hj
            · rw [pk_un (by omega)]; exact hy.2.1 j h1 h2
            · rw [pk_us]; exact z3.symm
            · rw [pk_un (by omega)]; exact fr x hx
        · obtain ⟨j, hj, hji, hu⟩ := bf_used hP D.1 hc hi z1 z3 z4 (q := o) (by omega)
          refine yf_find hP (by omega) (fun t ht et => br_t (nI_pos' (by omega)) (nm_r (nI_1 o) (ih (o + 1) e (by omega) ⟨hy.1, hy.2.1, Or.inr ⟨z1, z2, g, z3, z4, by omega⟩⟩ fr))) (fun hno => ?_)
          exfalso
          rcases hu with ⟨w1, w2⟩ | ⟨w1, w2⟩
          · exact hno j hj ((hy.1 j w1).trans w2)
          · exact hno j hj ((hy.2.1 j w1 hj).trans w2)
  have key2 : ∀ m i e, i + m = P → (∀ j, j < i → e (s * 32 + j) = sO (s * P + j)) → (∀ j, i ≤ j → j < P → e (s * 32 + j) = dO j) → (∀ x, x < s * 32 ∨ s * 32 + P ≤ x → e x = se x) → wY_set_46 post (nI s) (nI P) (nI S) (nI T) (nI A) (m + 1) (nI i) d e ce wa := by
    intro m
    induction m with
    | zero =>
      intro i e hi h1 h2 fr
      have e1 : i = P := by omega
      subst e1
      exact pk_le i i (fun _ => yf_countDraft hP (bf_D_v hP D) (h e h1 fr)) (fun z => absurd z (by omega))
    | succ m ih =>
      intro i e hi h1 h2 fr
      have hiP : i < P := by omega
      refine pk_le P i (fun z => absurd z (by omega)) (fun _ => ⟨P + 1, key3 _ i hiP (fun e' a b c => ih (i + 1) e' (by omega) a b c) P 0 e (by omega) ⟨h1, fun j a b => h2 j (by omega) b, ?_⟩ fr⟩)
      by_cases z : dO i = -1
      · obtain ⟨g, hg, a, _⟩ := hc.2 i hiP
        exact Or.inr ⟨z, (h2 i (by omega) hiP).trans z, g, a, hg, by omega⟩
      · exact Or.inl ((h2 i (by omega) hiP).trans (bf_CH_d hc hiP z))
  have key1 : ∀ m i e, i + m = P → (∀ j, j < i → e (s * 32 + j) = d j) → (∀ x, x < s * 32 ∨ s * 32 + P ≤ x → e x = se x) → wY_set_13 post (nI s) (nI P) (nI S) (nI T) (nI A) (m + 1) (nI i) d e ce wa := by
    intro m
    induction m with
    | zero =>
      intro i e hi h1 fr
      have e1 : i = P := by omega
      subst e1
      exact pk_le i i (fun _ => ⟨i + 1, key2 i 0 e (by omega) (fun j hj => absurd hj (by omega)) (fun j _ hj => (h1 j hj).trans (D.2 j hj)) fr⟩) (fun z => absurd z (by omega))
    | succ m ih =>
      intro i e hi h1 fr
      refine pk_le P i (fun z => absurd z (by omega)) (fun _ => ⟨pk_in i 32 (by omega), bf_st (s * 32 + i) (bf_m32 s i) (by omega) (by decide) (nm_r (nI_1 i) ?_)⟩)
      rw [nI_clamp (by omega)]
      refine ih (i + 1) _ (by omega) (fun j hj => ?_) (fun x hx => ?_)
      · by_cases ej : j = i
        · rw [ej, pk_us]
        · rw [pk_un (by omega)]
          exact h1 j (by omega)
      · rw [pk_un (by omega)]
        exact fr x hx
  unfold wpY_set
  dsimp only
  exact yf_slot_t hT hs (br_f (by decide) ⟨P + 1, key1 P 0 se (by omega) (fun j hj => absurd hj (by omega)) (fun x _ => rfl)⟩)
/-- the waves after k - 1 rows and o places of the next have moved -/
def yf_TI (P : Nat) (wa : Nat → Int32) (k o : Nat) (w : Nat → Int32) : Prop := ∀ r c, c < P → w (r * 32 + c) = if r + 1 < k ∨ (r + 1 = k ∧ c < o) then wa ((r + 1) * 32 + c) else wa (r * 32 + c)
theorem yf_TI_n {P k : Nat} {wa w : Nat → Int32} (hk : 1 ≤ k) (h : yf_TI P wa k P w) : yf_TI P wa (k + 1) 0 w := by
  intro r c hc
  rw [h r c hc]
  by_cases z : r + 1 < k ∨ (r + 1 = k ∧ c < P)
  · rw [if_pos z, if_pos (by omega)]
  · rw [if_neg z, if_neg (by omega)]
theorem yf_TI_s {P k o : Nat} {wa w : Nat → Int32} (hP : P ≤ 32) (hk : 1 ≤ k) (ho : o < P) (h : yf_TI P wa k o w) : yf_TI P wa k (o + 1) (upd w ((k - 1) * 32 + o) (w (k * 32 + o))) := by
  intro r c hc
  by_cases e : r = k - 1 ∧ c = o
  · rw [e.1, e.2, pk_us, h k o ho, if_neg (by omega), if_pos (by omega), show k - 1 + 1 = k by omega]
  · rw [pk_un (by omega), h r c hc]
    by_cases z : r + 1 < k ∨ (r + 1 = k ∧ c < o)
    · rw [if_pos z, if_pos (by omega)]
    · rw [if_neg z, if_neg (by omega)]
theorem yf_tick {post : Int32 → SY → Prop} (hP : P ≤ 32) (hS1 : 1 ≤ S) (hS : S ≤ 9) (hT : T ≤ 4) (hA : A < T)
    (hR : ∀ i, i < P → ∃ o, o < P ∧ se (A * 32 + i) = nI o) (hJ : ∀ i j, i < P → j < P → se (A * 32 + i) = se (A * 32 + j) → i = j)
    (hV : ∀ w : Nat → Int32, (∀ r o, r + 1 < S → o < P → w (r * 32 + o) = wa ((r + 1) * 32 + o)) → (∀ i o, i < P → o < P → se (A * 32 + i) = nI o → w ((S - 1) * 32 + o) = ce i) → ∀ o, o < P → bf_Vl (w o))
    (h : ∀ w c : Nat → Int32, (∀ r o, r + 1 < S → o < P → w (r * 32 + o) = wa ((r + 1) * 32 + o)) → (∀ i o, i < P → o < P → se (A * 32 + i) = nI o → w ((S - 1) * 32 + o) = ce i) → (∀ i, i < P → c i = -1) → post (nI (bf_cn w P)) (nI P, nI S, nI T, nI A, d, se, c, w)) : wpY_tick post (nI P, nI S, nI T, nI A, d, se, ce, wa) := by
  have keyC : ∀ m i w c, i + m = P → (∀ r o, r + 1 < S → o < P → w (r * 32 + o) = wa ((r + 1) * 32 + o)) → (∀ j o, j < i → o < P → se (A * 32 + j) = nI o → w ((S - 1) * 32 + o) = ce j) → (∀ j, j < i → c j = -1) → (∀ j, i ≤ j → c j = ce j) → wY_tick_58 post (nI P) (nI S) (nI T) (nI A) (m + 1) (nI i) d se c w := by
    intro m
    induction m with
    | zero =>
      intro i w c hi h1 h2 h3 h4
      have e1 : i = P := by omega
      subst e1
      refine pk_le i i (fun _ => yf_countWave (q := 0) hP (by omega) (fun o ho => ?_) ?_) (fun z => absurd z (by omega))
      · rw [Nat.zero_mul, Nat.zero_add]
        exact hV w h1 h2 o ho
      · have e2 : bf_cn (fun o => w (0 * 32 + o)) i = bf_cn w i := bf_cn_cg i (fun o _ => by rw [Nat.zero_mul, Nat.zero_add])
        rw [e2]
        exact h w c h1 h2 h3
    | succ m ih =>
      intro i w c hi h1 h2 h3 h4
      have hiP : i < P := by omega
      obtain ⟨o, ho, a⟩ := hR i hiP
      have ex : (nI S - 1) * 32 + nI o = nI ((S - 1) * 32 + o) := by
        rw [show nI S - 1 = nI (S - 1) from pk_sub (b := 1) hS1]
        exact bf_m32 (S - 1) o
      refine pk_le P i (fun z => absurd z (by omega)) (fun _ => ⟨pk_in (A * 32 + i) 128 (by omega) (bf_m32 A i), ⟨pk_in i 32 (by omega), ?_⟩⟩)
      rw [bf_m32 A i, nI_clamp (n := A * 32 + i) (by omega), a]
      refine bf_st ((S - 1) * 32 + o) ex (by omega) (by decide) (bf_st i rfl (by omega) (by decide) (nm_r (nI_1 i) ?_))
      rw [nI_clamp (by omega)]
      refine ih (i + 1) _ _ (by omega) (fun r q hr hq => ?_) (fun j q hj hq ej => ?_) (fun j hj => ?_) (fun j hj => ?_)
      · rw [pk_un (by omega)]
        exact h1 r q hr hq
      · by_cases e : j = i
        · rw [e] at ej ⊢
          rw [a] at ej
          have := bf_inj ej (by omega) (by omega)
          rw [this, pk_us]
          exact h4 i (Nat.le_refl i)
        · have : q ≠ o := by
            intro eq
            rw [eq] at ej
            exact e (hJ j i (by omega) hiP (ej.trans a.symm))
          rw [pk_un (by omega)]
          exact h2 j q (by omega) hq ej
      · by_cases e : j = i
        · rw [e, pk_us]
        · rw [pk_un e]
          exact h3 j (by omega)
      · rw [pk_un (by omega)]
        exact h4 j (by omega)
  have keyB : ∀ (J : Int32 → (Nat → Int32) → (Nat → Int32) → (Nat → Int32) → (Nat → Int32) → Prop) (k : Nat), 1 ≤ k → k < S →
      (∀ w, yf_TI P wa (k + 1) 0 w → J (nI (k + 1)) d se ce w) →
      ∀ m o w, o + m = P → yf_TI P wa k o w → wY_tick_12 post J (nI k) (nI P) (nI S) (nI T) (nI A) (m + 1) (nI o) d se ce w := by
    intro J k hk1 hk hJ2 m
    induction m with
    | zero =>
      intro o w ho hw
      have e1 : o = P := by omega
      subst e1
      exact pk_le o o (fun _ => nm_r (nI_1 k) (hJ2 w (yf_TI_n hk1 hw))) (fun z => absurd z (by omega))
    | succ m ih =>
      intro o w ho hw
      have hoP : o < P := by omega
      have ex : (nI k - 1) * 32 + nI o = nI ((k - 1) * 32 + o) := by
        rw [show nI k - 1 = nI (k - 1) from pk_sub (b := 1) hk1]
        exact bf_m32 (k - 1) o
      refine pk_le P o (fun z => absurd z (by omega)) (fun _ => ⟨pk_in (k * 32 + o) 288 (by omega) (bf_m32 k o), bf_st ((k - 1) * 32 + o) ex (by omega) (by decide) (nm_r (nI_1 o) ?_)⟩)
      rw [bf_m32 k o, nI_clamp (by omega)]
      exact ih (o + 1) _ (by omega) (yf_TI_s hP hk1 hoP hw)
  have keyA : ∀ m k w, k + m = S → 1 ≤ k → yf_TI P wa k 0 w → wY_tick_2 post (nI P) (nI S) (nI T) (nI A) (m + 1) (nI k) d se ce w := by
    intro m
    induction m with
    | zero =>
      intro k w hk hk1 hw
      have e1 : k = S := by omega
      subst e1
      exact pk_le k k (fun _ => ⟨P + 1, keyC P 0 w ce (by omega) (fun r o hr ho => by rw [hw r o ho, if_pos (Or.inl hr)]) (fun j o hj => absurd hj (by omega)) (fun j hj => absurd hj (by omega)) (fun j _ => rfl)⟩) (fun z => absurd z (by omega))
    | succ m ih =>
      intro k w hk hk1 hw
      exact pk_le S k (fun z => absurd z (by omega)) (fun _ => ⟨P + 1, keyB _ k hk1 (by omega) (fun w' hw' => ih (k + 1) w' (by omega) (by omega) hw') P 0 w (by omega) hw⟩)
  unfold wpY_tick
  dsimp only
  exact ⟨S, by
    obtain ⟨r, rfl⟩ : ∃ r, S = r + 1 := ⟨S - 1, by omega⟩
    exact keyA r 1 wa (by omega) (by omega) (fun r c _ => by rw [if_neg (by omega)])⟩
theorem yf_fill {post : Int32 → SY → Prop} {mu ad : Int32} {dO dI : Nat → Int32} (hP : P ≤ 32) (hL : ∃ L, P = 2 ^ L) (D : bf_D P dO dI d)
    (h : ∀ a, (∀ i, i < P → a i = (bf_fz P mu ad dO dI P).1 i) → post (nI (bf_fz P mu ad dO dI P).2.2) (nI P, nI S, nI T, nI A, a, se, ce, wa)) : wpY_fill post (nI P, nI S, nI T, nI A, d, se, ce, wa) mu ad := by
  have key : ∀ m i a, i + m = P → (∀ j, j < P → a j = (bf_fz P mu ad dO dI i).1 j) → wY_fill_5 post mu ad (nI P) (nI S) (nI T) (nI A) (m + 1) (nI (bf_fz P mu ad dO dI i).2.2) (nI i) a se ce wa := by
    intro m
    induction m with
    | zero =>
      intro i a hi ha
      have e1 : i = P := by omega
      subst e1
      exact pk_le i i (fun _ => h a ha) (fun z => absurd z (by omega))
    | succ m ih =>
      intro i a hi ha
      have hiP : i < P := by omega
      have t := fun a' => ih (i + 1) a' (by omega)
      have ho : bf_out P mu ad i < P := bf_out_lt hL
      have pd := bf_fz_pd (mu := mu) (ad := ad) hP hL D.1 i (by omega)
      refine pk_le P i (fun z => absurd z (by omega)) (fun _ => nm_r (bf_out_e hP hL) ⟨pk_in i 32 (by omega), ?_⟩)
      rw [nI_clamp (n := i) (by omega)]
      by_cases h1 : (bf_fz P mu ad dO dI i).1 i = -1
      · refine br_f (by rw [ha i hiP, h1]; decide) ?_
        by_cases h2 : (bf_fz P mu ad dO dI i).2.1 (bf_out P mu ad i) = -1
        · rw [bf_fz_t h1 h2] at t
          refine yf_has hP (fun ⟨j, hj, ej⟩ => ?_) (fun _ => br_t rfl ⟨pk_in i 32 (by omega), nm_e (nm_r (nI_1 _) (nm_r (nI_1 i) (t _ (bf_eq_u ha))))⟩)
          rw [ha j hj] at ej
          have := bf_PD_o pd hP hj ho ej
          rw [h2] at this
          exact absurd this.symm (bf_ne1 (by omega))
        · rw [bf_fz_f (fun z => h2 z.2)] at t
          refine yf_has hP (fun _ => br_f (by decide) (nm_r (nI_1 i) (t _ ha))) (fun hno => ?_)
          rcases pd.2.1 _ ho with z | ⟨j, hj, a1, a2⟩
          · exact absurd z h2
          · exact absurd ((ha j hj).trans a2) (hno j hj)
      · rw [bf_fz_f (fun z => h1 z.1)] at t
        refine br_t ?_ (nm_r (nI_1 i) (t _ ha))
        rw [ha i hiP]
        exact (bf_vl_le (bf_PD_v pd hP hiP)).mpr h1
  exact ⟨P + 1, key P 0 d (by omega) D.2⟩
end BY3
