/-! put -/
theorem pl0 : (0 : Int32) = nI 0 := rfl
theorem pl1 : (1 : Int32) = nI 1 := rfl
theorem pl2 : (2 : Int32) = nI 2 := rfl
theorem pl4 : (4 : Int32) = nI 4 := rfl
theorem pl8 : (8 : Int32) = nI 8 := rfl
theorem pl18 : (18 : Int32) = nI 18 := rfl
theorem pl25 : (25 : Int32) = nI 25 := rfl
theorem pl26 : (26 : Int32) = nI 26 := rfl
theorem pl32 : (32 : Int32) = nI 32 := rfl
theorem pl126 : (126 : Int32) = nI 126 := rfl
theorem pl200 : (200 : Int32) = nI 200 := rfl
theorem pl702 : (702 : Int32) = nI 702 := rfl
def pu_cnt (v : Int64) : Nat → Nat
  | 0 => 0
  | j + 1 => (if pu_b v (7 - j) = 0 then 0 else 1) + pu_cnt v j
def pu_ok (v : Int64) : Nat → Bool
  | 0 => true
  | j + 1 => (pu_b v (7 - j) = 0 || (32 ≤ pu_b v (7 - j) && pu_b v (7 - j) ≤ 126)) && pu_ok v j
def pu_app (v : Int64) : Nat → Nat → (Nat → Int32) → Nat × (Nat → Int32)
  | 0, n, r => (n, r)
  | j + 1, n, r => if pu_b v (7 - j) = 0 then pu_app v j n r else pu_app v j (n + 1) (upd r n (nI (pu_b v (7 - j))))
theorem pu_plain {k : Nat} (h : k < 256) : f_X9_isPlain (nI k) = some (if 32 ≤ k ∧ k ≤ 126 then 1 else 0) := by
  unfold f_X9_isPlain
  simp (disch := omega) only [pl32, pl126, pu_m]
  by_cases h1 : k < 32
  · rw [if_pos h1, if_neg (by omega)]
  · by_cases h2 : 126 < k
    · rw [if_neg h1, if_pos h2, if_neg (by omega)]
    · rw [if_neg h1, if_neg h2, if_pos (by omega)]
theorem pu_put1 (v : Int64) (sz ov : Int32) (row : Nat → Int32) : ∀ (j : Nat), j ≤ 8 → ∀ (f m : Nat), j < f → m + j ≤ 8 → f_X9_put_L5 v f sz ov row (nI m) (nI (8 - j)) = if pu_ok v j = true then f_X9_put_L5 v 1 sz ov row (nI (m + pu_cnt v j)) (nI 8) else some (sz, ov, row, 0) := by
  intro j
  induction j with
  | zero =>
    intro _ f m hf hm
    obtain ⟨f, rfl⟩ : ∃ g, f = g + 1 := ⟨f - 1, by omega⟩
    rw [if_pos (show pu_ok v 0 = true from rfl)]
    show f_X9_put_L5 v (f + 1) sz ov row (nI m) (nI 8) = f_X9_put_L5 v (0 + 1) sz ov row (nI m) (nI 8)
    rw [f_X9_put_L5, f_X9_put_L5, if_pos (show (8 : Int32) ≤ nI 8 by decide), if_pos (show (8 : Int32) ≤ nI 8 by decide)]
  | succ j ih =>
    intro hj f m hf hm
    obtain ⟨f, rfl⟩ : ∃ g, f = g + 1 := ⟨f - 1, by omega⟩
    have hb := pu_b_lt v (7 - j)
    have e : 8 - (j + 1) = 7 - j := by omega
    have e2 : 7 - j + 1 = 8 - j := by omega
    rw [f_X9_put_L5, e, pu_cls (by omega)]
    simp (disch := omega) only [pl0, pl1, pl8, pu_l, Option.bind_some, pu_e, pu_plain]
    rw [if_neg (by omega)]
    simp only [pu_ok, pu_cnt, f_X9_put_L35, f_X9_put_L46]
    by_cases h0 : pu_b v (7 - j) = 0
    · simp (disch := omega) only [pl0, pl1, h0, nI_add, e2, if_true, Nat.add_zero, Nat.zero_add, decide_true, Bool.true_or, Bool.true_and]
      exact ih (by omega) f m (by omega) (by omega)
    · simp (disch := omega) only [pl0, pl1, h0, nI_add, e2, if_false, pu_e, decide_false, Bool.false_or]
      by_cases h1 : 32 ≤ pu_b v (7 - j) ∧ pu_b v (7 - j) ≤ 126
      · simp (disch := omega) only [h1, and_self, if_true, pu_e, decide_true, Bool.true_and]
        rw [if_neg (by omega), show m + (1 + pu_cnt v j) = m + 1 + pu_cnt v j by omega]
        exact ih (by omega) f (m + 1) (by omega) (by omega)
      · have h2 : (decide (32 ≤ pu_b v (7 - j)) && decide (pu_b v (7 - j) ≤ 126)) = false := by
          simp only [Bool.and_eq_false_iff, decide_eq_false_iff_not]
          omega
        simp only [h1, if_false, if_true, h2, Bool.false_and, Bool.false_eq_true]
theorem pu_chr {b : Nat} (h : b < 65536) : ((nI b).toUInt32 % 65536).toInt32 = nI b := by rw [pk_char, pk_tn (by omega), Nat.mod_eq_of_lt h]
theorem pu_vch {b : Nat} (h : b < 65536) : vp_nar .char (nI b) = nI b := by
  have := pk_vc (nI b)
  rw [pu_chr h] at this
  exact this
theorem pu_add {n : Nat} (h : n < 200) (ov : Int32) (row : Nat → Int32) (c : Int32) : f_X1_add (nI n) ov row c = some (nI (n + 1), ov, upd row n (vp_nar .char c)) := by
  unfold f_X1_add
  simp (disch := omega) only [pl200, pl1, pu_m, pu_gi, nI_add, nI_clamp]
  rw [if_pos h]
theorem pu_addF (ov : Int32) (row : Nat → Int32) (c : Int32) : f_X1_add (nI 200) ov row c = some (nI 200, 1, row) := rfl
theorem pu_put2 (v : Int64) (ov : Int32) : ∀ (j : Nat), j ≤ 8 → ∀ (f n : Nat) (row : Nat → Int32), j < f → n + pu_cnt v j ≤ 200 → f_X9_put_L74 v f (nI n) ov row (nI (8 - j)) = some (nI (pu_app v j n row).1, ov, (pu_app v j n row).2) := by
  intro j
  induction j with
  | zero =>
    intro _ f n row hf hn
    obtain ⟨f, rfl⟩ : ∃ g, f = g + 1 := ⟨f - 1, by omega⟩
    rw [f_X9_put_L74, if_pos (show (8 : Int32) ≤ nI (8 - 0) by decide)]
    rfl
  | succ j ih =>
    intro hj f n row hf hn
    obtain ⟨f, rfl⟩ : ∃ g, f = g + 1 := ⟨f - 1, by omega⟩
    have hb := pu_b_lt v (7 - j)
    have e : 8 - (j + 1) = 7 - j := by omega
    have e2 : 7 - j + 1 = 8 - j := by omega
    rw [f_X9_put_L74, e, pu_cls (by omega)]
    simp only [pu_cnt] at hn
    simp (disch := omega) only [pl0, pl1, pl8, pu_l, Option.bind_some, pu_e, f_X9_put_L104, nI_add, e2, pu_app]
    rw [if_neg (by omega)]
    by_cases h0 : pu_b v (7 - j) = 0
    · simp only [h0, if_true] at hn ⊢
      exact ih (by omega) f n row (by omega) (by omega)
    · simp only [h0, if_false] at hn ⊢
      rw [pu_chr (by omega), pu_add (by omega), pu_vch (by omega)]
      simp only [Option.bind_some]
      exact ih (by omega) f (n + 1) _ (by omega) (by omega)
theorem pu_putC (v : Int64) {n : Nat} (hn : n ≤ 200) (ov : Int32) (row : Nat → Int32) : f_X9_put (nI n) ov row v = if pu_ok v 8 = true ∧ n + pu_cnt v 8 ≤ 200 then some (nI (pu_app v 8 n row).1, ov, (pu_app v 8 n row).2, 1) else some (nI n, ov, row, 0) := by
  have hc : ∀ j, pu_cnt v j ≤ j := fun j => by
    induction j with
    | zero => exact Nat.le_refl _
    | succ j ih => simp only [pu_cnt]; split <;> omega
  have h8 := hc 8
  have h1 := pu_put1 v (nI n) ov row 8 (Nat.le_refl _) 1000 0 (by decide) (by decide)
  unfold f_X9_put
  rw [show f_X9_put_L5 v 1000 (nI n) ov row 0 0 = f_X9_put_L5 v 1000 (nI n) ov row (nI 0) (nI (8 - 8)) from rfl, h1]
  by_cases hk : pu_ok v 8 = true
  · rw [if_pos hk]
    show f_X9_put_L5 v (0 + 1) (nI n) ov row (nI (0 + pu_cnt v 8)) (nI 8) = _
    rw [f_X9_put_L5, if_pos (show (8 : Int32) ≤ nI 8 by decide)]
    simp (disch := omega) only [f_X1_size, Option.bind_some, nI_add, pl200, pu_l, Nat.zero_add]
    by_cases h2 : n + pu_cnt v 8 ≤ 200
    · rw [if_pos h2, if_pos ⟨hk, h2⟩, show f_X9_put_L74 v 1000 (nI n) ov row 0 = f_X9_put_L74 v 1000 (nI n) ov row (nI (8 - 8)) from rfl, pu_put2 v ov 8 (Nat.le_refl _) 1000 n row (by decide) h2]
      rfl
    · rw [if_neg h2, if_neg (fun q => h2 q.2)]
  · rw [if_neg hk, if_neg (fun q => hk q.1)]
/-! the same of the reference -/
theorem pu_put3 (v : Int64) (sz : Int32) (row : Nat → Int32) : ∀ (j : Nat), j ≤ 8 → ∀ (f m : Nat), j < f → m + j ≤ 8 → f_X10_put_L5 v f sz row (nI m) (nI (8 - j)) = if pu_ok v j = true then f_X10_put_L5 v 1 sz row (nI (m + pu_cnt v j)) (nI 8) else some (sz, row, 0) := by
  intro j
  induction j with
  | zero =>
    intro _ f m hf hm
    obtain ⟨f, rfl⟩ : ∃ g, f = g + 1 := ⟨f - 1, by omega⟩
    rw [if_pos (show pu_ok v 0 = true from rfl)]
    show f_X10_put_L5 v (f + 1) sz row (nI m) (nI 8) = f_X10_put_L5 v (0 + 1) sz row (nI m) (nI 8)
    rw [f_X10_put_L5, f_X10_put_L5, if_pos (show (8 : Int32) ≤ nI 8 by decide), if_pos (show (8 : Int32) ≤ nI 8 by decide)]
  | succ j ih =>
    intro hj f m hf hm
    obtain ⟨f, rfl⟩ : ∃ g, f = g + 1 := ⟨f - 1, by omega⟩
    have hb := pu_b_lt v (7 - j)
    have e : 8 - (j + 1) = 7 - j := by omega
    have e2 : 7 - j + 1 = 8 - j := by omega
    rw [f_X10_put_L5, e, pu_ref (by omega)]
    simp (disch := omega) only [pl0, pl1, pl8, pl32, pl126, pu_l, pu_m, Option.bind_some, pu_e]
    rw [if_neg (by omega)]
    simp only [pu_ok, pu_cnt, f_X10_put_L41, f_X10_put_L52]
    by_cases h0 : pu_b v (7 - j) = 0
    · simp (disch := omega) only [pl0, pl1, h0, nI_add, e2, if_true, Nat.add_zero, Nat.zero_add, decide_true, Bool.true_or, Bool.true_and]
      exact ih (by omega) f m (by omega) (by omega)
    · simp (disch := omega) only [pl0, pl1, h0, nI_add, e2, if_false, pu_e, decide_false, Bool.false_or]
      by_cases h1 : 32 ≤ pu_b v (7 - j) ∧ pu_b v (7 - j) ≤ 126
      · simp (disch := omega) only [h1, and_self, if_true, pu_e, decide_true, Bool.true_and]
        rw [if_neg (by omega), show m + (1 + pu_cnt v j) = m + 1 + pu_cnt v j by omega]
        exact ih (by omega) f (m + 1) (by omega) (by omega)
      · have h2 : (decide (32 ≤ pu_b v (7 - j)) && decide (pu_b v (7 - j) ≤ 126)) = false := by
          simp only [Bool.and_eq_false_iff, decide_eq_false_iff_not]
          omega
        simp only [h2, Bool.false_and, Bool.false_eq_true, if_false]
        by_cases h3 : pu_b v (7 - j) < 32
        · rw [if_pos h3]
        · rw [if_neg h3, if_neg (by omega)]
theorem pu_put4 (v : Int64) : ∀ (j : Nat), j ≤ 8 → ∀ (f n : Nat) (row : Nat → Int32), j < f → n + pu_cnt v j ≤ 200 → f_X10_put_L77 v f (nI n) row (nI (8 - j)) = some (nI (pu_app v j n row).1, (pu_app v j n row).2) := by
  intro j
  induction j with
  | zero =>
    intro _ f n row hf hn
    obtain ⟨f, rfl⟩ : ∃ g, f = g + 1 := ⟨f - 1, by omega⟩
    rw [f_X10_put_L77, if_pos (show (8 : Int32) ≤ nI (8 - 0) by decide)]
    rfl
  | succ j ih =>
    intro hj f n row hf hn
    obtain ⟨f, rfl⟩ : ∃ g, f = g + 1 := ⟨f - 1, by omega⟩
    have hb := pu_b_lt v (7 - j)
    have e : 8 - (j + 1) = 7 - j := by omega
    have e2 : 7 - j + 1 = 8 - j := by omega
    rw [f_X10_put_L77, e, pu_ref (by omega)]
    simp only [pu_cnt] at hn
    simp (disch := omega) only [pl0, pl1, pl8, pu_l, Option.bind_some, pu_e, f_X10_put_L118, nI_add, e2, pu_app]
    rw [if_neg (by omega)]
    by_cases h0 : pu_b v (7 - j) = 0
    · simp only [h0, if_true] at hn ⊢
      exact ih (by omega) f n row (by omega) (by omega)
    · simp only [h0, if_false] at hn ⊢
      rw [pu_gi (by omega) (by decide), nI_clamp (by omega)]
      exact ih (by omega) f (n + 1) _ (by omega) (by omega)
theorem pu_putR (v : Int64) {n : Nat} (hn : n ≤ 200) (row : Nat → Int32) : f_X10_put (nI n) row v = if pu_ok v 8 = true ∧ n + pu_cnt v 8 ≤ 200 then some (nI (pu_app v 8 n row).1, (pu_app v 8 n row).2, 1) else some (nI n, row, 0) := by
  have hc : ∀ j, pu_cnt v j ≤ j := fun j => by
    induction j with
    | zero => exact Nat.le_refl _
    | succ j ih => simp only [pu_cnt]; split <;> omega
  have h8 := hc 8
  have h1 := pu_put3 v (nI n) row 8 (Nat.le_refl _) 1000 0 (by decide) (by decide)
  unfold f_X10_put
  rw [show f_X10_put_L5 v 1000 (nI n) row 0 0 = f_X10_put_L5 v 1000 (nI n) row (nI 0) (nI (8 - 8)) from rfl, h1]
  by_cases hk : pu_ok v 8 = true
  · rw [if_pos hk]
    show f_X10_put_L5 v (0 + 1) (nI n) row (nI (0 + pu_cnt v 8)) (nI 8) = _
    rw [f_X10_put_L5, if_pos (show (8 : Int32) ≤ nI 8 by decide)]
    simp (disch := omega) only [Option.bind_some, nI_add, pl200, pu_l, Nat.zero_add]
    by_cases h2 : n + pu_cnt v 8 ≤ 200
    · rw [if_pos h2, if_pos ⟨hk, h2⟩, show f_X10_put_L77 v 1000 (nI n) row 0 = f_X10_put_L77 v 1000 (nI n) row (nI (8 - 8)) from rfl, pu_put4 v 8 (Nat.le_refl _) 1000 n row (by decide) h2]
      rfl
    · rw [if_neg h2, if_neg (fun q => h2 q.2)]
  · rw [if_neg hk, if_neg (fun q => hk q.1)]
/-- a character of an input -/
def pu_ch (c : Int32) : Prop := ∃ k : Nat, 32 ≤ k ∧ k ≤ 126 ∧ c = nI k
theorem pu_appR (v : Int64) : ∀ (j n : Nat) (r r' : Nat → Int32), pu_ok v j = true → (∀ i, i < n → r i = r' i ∧ pu_ch (r i)) → (pu_app v j n r).1 = n + pu_cnt v j ∧ (pu_app v j n r').1 = n + pu_cnt v j ∧ ∀ i, i < n + pu_cnt v j → (pu_app v j n r).2 i = (pu_app v j n r').2 i ∧ pu_ch ((pu_app v j n r).2 i) := by
  intro j
  induction j with
  | zero => intro n r r' _ h; exact ⟨rfl, rfl, h⟩
  | succ j ih =>
    intro n r r' hk h
    simp only [pu_ok, Bool.and_eq_true] at hk
    simp only [pu_app, pu_cnt]
    by_cases h0 : pu_b v (7 - j) = 0
    · simp only [h0, if_true, Nat.zero_add]
      exact ih n r r' hk.2 h
    · simp only [h0, if_false]
      rw [show n + (1 + pu_cnt v j) = n + 1 + pu_cnt v j by omega]
      refine ih (n + 1) _ _ hk.2 (fun i hi => ?_)
      have h1 := hk.1
      simp only [h0, decide_false, Bool.false_or, Bool.and_eq_true, decide_eq_true_eq] at h1
      by_cases hin : i = n
      · subst hin
        simp only [upd, if_true]
        exact ⟨trivial, _, h1.1, h1.2, rfl⟩
      · simp only [upd, hin, if_false]
        exact h i (by omega)
