/-! scheme -/
theorem pu_cmp {x y : Int64} : (lg_cmp x y = 0) = (x = y) := by
  unfold lg_cmp
  by_cases h : x > y
  · rw [if_pos h]
    have h1 : ¬ x = y := by
      rintro rfl
      exact absurd h (Int64.lt_irrefl)
    simp [h1]
  · rw [if_neg h]
    by_cases h1 : x = y
    · simp [h1]
    · rw [if_neg h1]; simp [h1]
def pu_hs (s : Nat → Int64) (v : Int64) : Nat → Nat → Bool
  | 0, _ => false
  | j + 1, k => decide (s k = v) || pu_hs s v j (k + 1)
theorem pu_hs_eq {s s' : Nat → Int64} {v : Int64} : ∀ (j k : Nat), (∀ i, i < k + j → s i = s' i) → pu_hs s v j k = pu_hs s' v j k
  | 0, _, _ => rfl
  | j + 1, k, h => by
    unfold pu_hs
    rw [h k (by omega), pu_hs_eq j (k + 1) (fun i hi => h i (by omega))]
theorem pu_hasC (s : Nat → Int64) (v : Int64) : ∀ (j k f : Nat), k + j ≤ 4 → j < f → f_X3_hasScheme_L2 (nI (k + j)) s v f (nI k) = some (if pu_hs s v j k = true then 1 else 0) := by
  intro j
  induction j with
  | zero =>
    intro k f hk hf
    obtain ⟨f, rfl⟩ : ∃ g, f = g + 1 := ⟨f - 1, by omega⟩
    rw [f_X3_hasScheme_L2, if_pos (by rw [pu_l (by omega) (by omega)]; omega)]
    rfl
  | succ j ih =>
    intro k f hk hf
    obtain ⟨f, rfl⟩ : ∃ g, f = g + 1 := ⟨f - 1, by omega⟩
    have a1 : ¬ (k + (j + 1) ≤ k) := by omega
    rw [f_X3_hasScheme_L2]
    simp (disch := omega) only [pl1, pu_l, pu_gi, nI_clamp, nI_add, a1, if_false, pu_cmp, pu_hs]
    by_cases h : s k = v
    · simp only [h, if_true, decide_true, Bool.true_or]
    · simp only [h, if_false, decide_false, Bool.false_or]
      rw [show k + (j + 1) = k + 1 + j by omega]
      exact ih (k + 1) f (by omega) (by omega)
theorem pu_hasS (s : Nat → Int64) (v : Int64) {c : Nat} (hc : c ≤ 4) : f_X3_hasScheme (nI c) s v = some (if pu_hs s v c 0 = true then 1 else 0) := by
  have h := pu_hasC s v c 0 1000 (by omega) (by omega)
  rw [Nat.zero_add] at h
  exact h
theorem pu_isAR (s : Nat → Int64) (v : Int64) : ∀ (j k f : Nat) (b : Bool), k + j ≤ 4 → j < f → f_X10_isAllowed_L5 (nI (k + j)) s v f (if b = true then 1 else 0) (nI k) = some (if (b || pu_hs s v j k) = true then 1 else 0) := by
  intro j
  induction j with
  | zero =>
    intro k f b hk hf
    obtain ⟨f, rfl⟩ : ∃ g, f = g + 1 := ⟨f - 1, by omega⟩
    rw [f_X10_isAllowed_L5, if_pos (by rw [pu_l (by omega) (by omega)]; omega)]
    simp [pu_hs]
  | succ j ih =>
    intro k f b hk hf
    obtain ⟨f, rfl⟩ : ∃ g, f = g + 1 := ⟨f - 1, by omega⟩
    have a1 : ¬ (k + (j + 1) ≤ k) := by omega
    rw [f_X10_isAllowed_L5]
    simp (disch := omega) only [pu_l, pu_gi, nI_clamp, a1, if_false, pu_cmp, pu_hs, f_X10_isAllowed_L30, f_X10_isAllowed_L35]
    have e : nI k + 1 = nI (k + 1) := nI_1 k
    rw [e, show k + (j + 1) = k + 1 + j by omega]
    cases b with
    | true =>
      have := ih (k + 1) f true (by omega) (by omega)
      simp only [if_true, Bool.true_or] at this ⊢
      rw [if_neg (by decide)]
      exact this
    | false =>
      simp only [Bool.false_eq_true, if_false, Bool.false_or, if_true]
      by_cases h : s k = v
      · have := ih (k + 1) f true (by omega) (by omega)
        simp only [if_true, Bool.true_or] at this
        simp only [h, if_true, decide_true, Bool.true_or]
        exact this
      · have := ih (k + 1) f false (by omega) (by omega)
        simp only [Bool.false_eq_true, if_false, Bool.false_or] at this
        simp only [h, if_false, decide_false, Bool.false_or]
        exact this
theorem pu_isA (s : Nat → Int64) (v : Int64) {c : Nat} (hc : c ≤ 4) : f_X10_isAllowed (nI c) s v = some (if pu_hs s v c 0 = true then 1 else 0) := by
  have h := pu_isAR s v c 0 1000 false (by omega) (by omega)
  rw [Nat.zero_add] at h
  simp only [Bool.false_eq_true, if_false, Bool.false_or] at h
  unfold f_X10_isAllowed
  rw [show f_X10_isAllowed_L5 (nI c) s v 1000 0 0 = _ from h]
  cases pu_hs s v c 0 <;> rfl
/-- a word: its size, if it is one -/
def pu_w (v : Int64) : Nat → Bool → Nat → Option Nat
  | 0, _, sz => some sz
  | j + 1, e, sz => if pu_b v (7 - j) = 0 then pu_w v j true sz else if (97 ≤ pu_b v (7 - j) ∧ pu_b v (7 - j) ≤ 122) ∧ e = false then pu_w v j false (sz + 1) else none
def pu_wr : Option Nat → Int32
  | none => 0
  | some s => if s = 0 then 0 else 1
theorem pu_wordC (v : Int64) : ∀ (j : Nat), j ≤ 8 → ∀ (f sz : Nat) (e : Bool), j < f → (if e = true then sz < 8 - j else sz = 8 - j) → f_X9_isWord_L4 v f (nI sz) (nI (8 - j)) = some (pu_wr (pu_w v j e sz)) := by
  intro j
  induction j with
  | zero =>
    intro _ f sz e hf hs
    obtain ⟨f, rfl⟩ : ∃ g, f = g + 1 := ⟨f - 1, by omega⟩
    have hz : sz ≤ 8 := by split at hs <;> omega
    rw [f_X9_isWord_L4, if_pos (show (8 : Int32) ≤ nI (8 - 0) by decide)]
    simp (disch := omega) only [pl0, pu_l, pu_w, pu_wr]
    by_cases h0 : sz = 0
    · rw [if_pos (by omega), if_pos h0]
    · rw [if_neg (by omega), if_neg h0]
  | succ j ih =>
    intro hj f sz e hf hs
    obtain ⟨f, rfl⟩ : ∃ g, f = g + 1 := ⟨f - 1, by omega⟩
    have hb := pu_b_lt v (7 - j)
    have e1 : 8 - (j + 1) = 7 - j := by omega
    have e2 : 7 - j + 1 = 8 - j := by omega
    have hz : sz ≤ 8 := by split at hs <;> omega
    have a0 : ¬ (8 ≤ 7 - j) := by omega
    rw [e1] at hs
    rw [f_X9_isWord_L4, e1, pu_cls (by omega)]
    simp (disch := omega) only [pl8, pl97, pl122, pu_l, pu_m, Option.bind_some, a0, if_false, f_X9_isWord_L35, f_X9_isWord_L36, f_X9_isWord_L55, f_X9_isWord_L66]
    by_cases h0 : pu_b v (7 - j) = 0
    · simp (disch := omega) only [h0, pl0, pl1, pu_e, if_true, pu_w, nI_add, e2, Nat.add_zero, show (0 : Nat) < 97 by decide]
      refine ih (by omega) f sz true (by omega) ?_
      simp only [if_true]
      split at hs <;> omega
    · by_cases h1 : 97 ≤ pu_b v (7 - j) ∧ pu_b v (7 - j) ≤ 122
      · have b1 : ¬ (pu_b v (7 - j) < 97) := by omega
        have b2 : ¬ (122 < pu_b v (7 - j)) := by omega
        have b3 : ¬ ((1 : Nat) = 0) := by omega
        simp (disch := omega) only [b1, b2, b3, if_false, pl0, pl1, pu_e, h0, pu_w, h1, and_self, true_and, nI_add, e2, pu_l]
        cases e with
        | true =>
          have b4 : ¬ (7 - j ≤ sz) := by simp only [if_true] at hs; omega
          simp only [b4, if_false, Bool.true_eq_false, pu_wr]
          rfl
        | false =>
          have b4 : 7 - j ≤ sz := by simp only [Bool.false_eq_true, if_false] at hs; omega
          simp only [b4, if_true]
          refine ih (by omega) f (sz + 1) false (by omega) ?_
          simp only [Bool.false_eq_true, if_false] at hs ⊢
          omega
      · have b5 : ¬ ((97 ≤ pu_b v (7 - j) ∧ pu_b v (7 - j) ≤ 122) ∧ e = false) := fun q => h1 q.1
        simp (disch := omega) only [pl0, pl1, pu_e, h0, if_false, pu_w, b5, if_true, pu_wr]
        by_cases b1 : pu_b v (7 - j) < 97
        · simp only [b1, if_true]
        · simp only [b1, if_false, show 122 < pu_b v (7 - j) by omega, if_true]
theorem pu_isWord (v : Int64) : f_X9_isWord v = some (pu_wr (pu_w v 8 false 0)) := by
  unfold f_X9_isWord
  exact pu_wordC v 8 (Nat.le_refl _) 1000 0 false (by decide) rfl
theorem pu_wt (v : Int64) : ∀ (j sz : Nat), pu_w v j true sz = none ∨ pu_w v j true sz = some sz
  | 0, sz => Or.inr rfl
  | j + 1, sz => by
    unfold pu_w
    by_cases h0 : pu_b v (7 - j) = 0
    · rw [if_pos h0]; exact pu_wt v j sz
    · rw [if_neg h0, if_neg (fun q => absurd q.2 (by decide))]; exact Or.inl rfl
/-- the reference: its second loop -/
theorem pu_sch2 (v : Int64) (c : Int32) (s : Nat → Int64) : ∀ (j : Nat), j ≤ 8 → ∀ (f : Nat) (b : Bool) (sz : Nat), j < f → f_X10_scheme_L56 v f c s (if b = true then 1 else 0) (nI (8 - j)) = some (c, s, if (b && (pu_w v j true sz).isSome) = true then 1 else 0) := by
  intro j
  induction j with
  | zero =>
    intro _ f b sz hf
    obtain ⟨f, rfl⟩ : ∃ g, f = g + 1 := ⟨f - 1, by omega⟩
    rw [f_X10_scheme_L56, if_pos (show (8 : Int32) ≤ nI (8 - 0) by decide)]
    simp [pu_w]
  | succ j ih =>
    intro hj f b sz hf
    obtain ⟨f, rfl⟩ : ∃ g, f = g + 1 := ⟨f - 1, by omega⟩
    have hb := pu_b_lt v (7 - j)
    have e1 : 8 - (j + 1) = 7 - j := by omega
    have e3 : nI (7 - j) + 1 = nI (8 - j) := by rw [nI_1, show 7 - j + 1 = 8 - j by omega]
    have a0 : ¬ (8 ≤ 7 - j) := by omega
    rw [f_X10_scheme_L56, e1, pu_ref (by omega)]
    simp (disch := omega) only [pl8, pu_l, Option.bind_some, a0, if_false, f_X10_scheme_L81, f_X10_scheme_L82, e3]
    have hF := ih (by omega) f false sz (by omega)
    have hT := ih (by omega) f true sz (by omega)
    simp only [Bool.false_eq_true, if_false, Bool.false_and, if_true, Bool.true_and] at hF hT
    cases b with
    | false =>
      simp only [Bool.false_eq_true, if_false, Bool.false_and, if_true]
      exact hF
    | true =>
      simp only [if_true, Bool.true_and]
      rw [if_neg (by decide)]
      by_cases h0 : pu_b v (7 - j) = 0
      · rw [if_pos (by rw [h0]; rfl), hT]
        simp only [pu_w, h0, if_true]
      · rw [if_neg (show ¬ nI (pu_b v (7 - j)) = 0 from fun q => h0 ((nI_eq (a := pu_b v (7 - j)) (b := 0) (by omega) (by decide)).mp q)), hF]
        simp only [pu_w, h0, if_false, Bool.true_eq_false, and_false, Option.isSome_none, Bool.false_eq_true]
/-- its first loop -/
theorem pu_sch1 (v : Int64) (c : Int32) (s : Nat → Int64) : ∀ (j : Nat), j ≤ 8 → ∀ (f : Nat), j < f → ∃ i, i ≤ j ∧ f_X10_scheme_L2 v f c s (nI (8 - j)) = some (c, s, nI (8 - i)) ∧ pu_w v j false (8 - j) = if (pu_w v i true (8 - i)).isSome = true then some (8 - i) else none := by
  intro j
  induction j with
  | zero =>
    intro _ f hf
    obtain ⟨f, rfl⟩ : ∃ g, f = g + 1 := ⟨f - 1, by omega⟩
    refine ⟨0, Nat.le_refl _, ?_, rfl⟩
    rw [f_X10_scheme_L2, if_pos (show (8 : Int32) ≤ nI (8 - 0) by decide)]
  | succ j ih =>
    intro hj f hf
    obtain ⟨f, rfl⟩ : ∃ g, f = g + 1 := ⟨f - 1, by omega⟩
    have hb := pu_b_lt v (7 - j)
    have e1 : 8 - (j + 1) = 7 - j := by omega
    have e2 : 7 - j + 1 = 8 - j := by omega
    have e3 : nI (7 - j) + 1 = nI (8 - j) := by rw [nI_1, e2]
    have a0 : ¬ (8 ≤ 7 - j) := by omega
    rw [f_X10_scheme_L2, e1, pu_ref (by omega)]
    simp (disch := omega) only [pl8, pl97, pl122, pu_l, pu_m, Option.bind_some, a0, if_false, e3]
    by_cases h1 : 97 ≤ pu_b v (7 - j) ∧ pu_b v (7 - j) ≤ 122
    · have b1 : ¬ (pu_b v (7 - j) < 97) := by omega
      have b2 : ¬ (122 < pu_b v (7 - j)) := by omega
      have h0 : ¬ (pu_b v (7 - j) = 0) := by omega
      obtain ⟨i, hi, q1, q2⟩ := ih (by omega) f (by omega)
      refine ⟨i, by omega, ?_, ?_⟩
      · simp only [b1, b2, if_false]
        exact q1
      · simp only [pu_w, h0, if_false, h1, and_self, if_true, e2]
        exact q2
    · refine ⟨j + 1, Nat.le_refl _, ?_, ?_⟩
      · rw [e1]
        by_cases b1 : pu_b v (7 - j) < 97
        · simp only [b1, if_true]
        · simp only [b1, if_false, show 122 < pu_b v (7 - j) by omega, if_true]
      · rw [e1]
        simp only [pu_w, h1, false_and, if_false]
        by_cases h0 : pu_b v (7 - j) = 0
        · simp only [h0, if_true]
          rcases pu_wt v j (7 - j) with q | q <;> rw [q] <;> simp
        · simp only [h0, if_false, Option.isSome_none, Bool.false_eq_true]
theorem pu_scheme (v : Int64) {c : Nat} (hc : c ≤ 4) (s s' : Nat → Int64) (hs : ∀ i, i < c → s i = s' i) : ∃ c' t t' r, c' ≤ 4 ∧ f_X9_scheme (nI c) s v = some (nI c', t, r) ∧ f_X10_scheme (nI c) s' v = some (nI c', t', r) ∧ ∀ i, i < c' → t i = t' i := by
  obtain ⟨i, hi, q1, q2⟩ := pu_sch1 v (nI c) s' 8 (Nat.le_refl _) 1000 (by decide)
  have hh : pu_hs s v c 0 = pu_hs s' v c 0 := pu_hs_eq c 0 (fun i hi => hs i (by omega))
  unfold f_X9_scheme f_X10_scheme
  rw [pu_isWord, show f_X10_scheme_L2 v 1000 (nI c) s' 0 = f_X10_scheme_L2 v 1000 (nI c) s' (nI (8 - 8)) from rfl, q1]
  simp only [Option.bind_some]
  have hw : pu_w v 8 false 0 = if (pu_w v i true (8 - i)).isSome = true then some (8 - i) else none := q2
  rw [hw]
  -- the second loop's answer
  have h2 := fun b => pu_sch2 v (nI c) s' i (by omega) 1000 b (8 - i) (by omega)
  have hL : ∀ b : Bool, f_X10_scheme_L51 v (nI c) s' (nI (8 - i)) (if b = true then 1 else 0) = if (b && (pu_w v i true (8 - i)).isSome) = true then (if pu_hs s' v c 0 = true then some (nI c, s', 0) else ms_gi (nI c) 4 (some (nI (c + 1), vp_updL s' c v, 1))) else some (nI c, s', 0) := by
    intro b
    unfold f_X10_scheme_L51
    rw [h2 b]
    simp only [Option.bind_some]
    cases hb : (b && (pu_w v i true (8 - i)).isSome) with
    | false => rfl
    | true =>
      simp only [if_true]
      rw [if_neg (by decide), pu_isA s' v hc]
      simp only [Option.bind_some]
      cases pu_hs s' v c 0 with
      | true => rfl
      | false =>
        simp (disch := omega) only [Bool.false_eq_true, if_false, if_true, nI_clamp, pl1, nI_add]
  have e0 : (nI (8 - i) ≤ 0) = (8 - i ≤ 0) := by rw [pl0, pu_l (by omega) (by decide)]
  have e4 : ((4 : Int32) ≤ nI c) = (4 ≤ c) := by rw [pl4, pu_l (by decide) (by omega)]
  simp only [e0, e4, f_X10_scheme_L50]
  have hL0 := hL false
  have hL1 := hL true
  simp only [Bool.false_eq_true, if_false, Bool.false_and, if_true, Bool.true_and] at hL0 hL1
  rw [hL0, hL1]
  by_cases hz : 8 - i ≤ 0
  · -- no letters
    refine ⟨c, s, s', 0, hc, ?_, ?_, hs⟩
    · have : pu_wr (if (pu_w v i true (8 - i)).isSome = true then some (8 - i) else none) = 0 := by
        split
        · simp only [pu_wr]; rw [if_pos (by omega)]
        · rfl
      rw [this]; rfl
    · rw [if_pos hz]
  · rw [if_neg hz]
    cases hk : (pu_w v i true (8 - i)).isSome with
    | false =>
      refine ⟨c, s, s', 0, hc, rfl, ?_, hs⟩
      simp only [Bool.false_eq_true, if_false, ite_self]
    | true =>
      simp only [if_true]
      have hwr : pu_wr (some (8 - i)) = 1 := by simp only [pu_wr]; rw [if_neg (by omega)]
      rw [hwr, if_neg (show ¬ (1 : Int32) = 0 by decide)]
      unfold f_X3_addScheme
      simp only [e4]
      by_cases h4 : 4 ≤ c
      · rw [if_pos h4, if_pos h4]
        exact ⟨c, s, s', 0, hc, rfl, rfl, hs⟩
      · rw [if_neg h4, if_neg h4, pu_hasS s v hc, hh]
        simp only [Option.bind_some]
        cases hx : pu_hs s' v c 0 with
        | true => exact ⟨c, s, s', 0, hc, rfl, rfl, hs⟩
        | false =>
          refine ⟨c + 1, vp_updL s c v, vp_updL s' c v, 1, by omega, ?_, ?_, ?_⟩
          · simp (disch := omega) only [Bool.false_eq_true, if_false, if_true, pu_gi, nI_clamp, pl1, nI_add, Option.bind_some]
            rfl
          · simp (disch := omega) only [Bool.false_eq_true, if_false, pu_gi]
          · intro k hk
            unfold vp_updL
            by_cases hkc : k = c
            · rw [if_pos hkc, if_pos hkc]
            · rw [if_neg hkc, if_neg hkc]; exact hs k (by omega)
