/-! reset, restore -/
theorem pu_res1 : ∀ (j : Nat), j ≤ 26 → ∀ (f : Nat) (sc : Int32) (A T : Nat → Int32), j < f → ∃ A' T', f_X3_restore_L2 f sc A T (nI (26 - j)) = some (sc, A', T') ∧ (∀ k, k < 26 → A' k = if 26 - j ≤ k then (if k = 18 then 2 else 1) else A k) ∧ (∀ k, k < 26 → T' k = if 26 - j ≤ k then 0 else T k) := by
  intro j
  induction j with
  | zero =>
    intro _ f sc A T hf
    obtain ⟨f, rfl⟩ : ∃ g, f = g + 1 := ⟨f - 1, by omega⟩
    refine ⟨A, T, ?_, fun k hk => ?_, fun k hk => ?_⟩
    · rw [f_X3_restore_L2, if_pos (show (26 : Int32) ≤ nI (26 - 0) by decide)]
    · rw [if_neg (by omega)]
    · rw [if_neg (by omega)]
  | succ j ih =>
    intro hj f sc A T hf
    obtain ⟨f, rfl⟩ : ∃ g, f = g + 1 := ⟨f - 1, by omega⟩
    have e1 : 26 - (j + 1) = 25 - j := by omega
    have e2 : 25 - j + 1 = 26 - j := by omega
    have a0 : ¬ (26 ≤ 25 - j) := by omega
    obtain ⟨A', T', h1, h2, h3⟩ := ih (by omega) f sc (upd A (25 - j) (if 25 - j = 18 then 2 else 1)) (upd T (25 - j) 0) (by omega)
    refine ⟨A', T', ?_, fun k hk => ?_, fun k hk => ?_⟩
    · rw [f_X3_restore_L2, e1]
      simp (disch := omega) only [pl26, pl18, pl1, pu_l, pu_e, a0, if_false, f_X3_restore_L24, pu_gi, nI_clamp, nI_add, e2]
      by_cases h18 : 25 - j = 18
      · rw [if_pos h18] at h1 ⊢
        exact h1
      · rw [if_neg h18] at h1 ⊢
        exact h1
    · rw [h2 k hk, e1]
      by_cases q : 26 - j ≤ k
      · rw [if_pos q, if_pos (show 25 - j ≤ k by omega)]
      · rw [if_neg q]
        unfold upd
        by_cases q2 : k = 25 - j
        · rw [if_pos q2, if_pos (show 25 - j ≤ k by omega), q2]
        · rw [if_neg q2, if_neg (show ¬ 25 - j ≤ k by omega)]
    · rw [h3 k hk, e1]
      by_cases q : 26 - j ≤ k
      · rw [if_pos q, if_pos (show 25 - j ≤ k by omega)]
      · rw [if_neg q]
        unfold upd
        by_cases q2 : k = 25 - j
        · rw [if_pos q2, if_pos (show 25 - j ≤ k by omega)]
        · rw [if_neg q2, if_neg (show ¬ 25 - j ≤ k by omega)]
theorem pu_restore (sc : Int32) (A T : Nat → Int32) : ∃ A' T', f_X3_restore sc A T = some (0, A', T') ∧ (∀ k, k < 26 → A' k = if k = 18 then 2 else 1) ∧ ∀ k, k < 27 → T' k = 0 := by
  obtain ⟨A', T', h1, h2, h3⟩ := pu_res1 26 (Nat.le_refl _) 1000 sc A T (by decide)
  refine ⟨A', upd T' 26 0, ?_, fun k hk => ?_, fun k hk => ?_⟩
  · unfold f_X3_restore
    rw [show f_X3_restore_L2 1000 sc A T 0 = _ from h1]
    rfl
  · rw [h2 k hk, if_pos (show 26 - 26 ≤ k by omega)]
  · unfold upd
    by_cases q : k = 26
    · rw [if_pos q]
    · rw [if_neg q, h3 k (by omega), if_pos (by omega)]
theorem pu_res2 : ∀ (j : Nat), j ≤ 26 → ∀ (f : Nat) (sc : Int32) (A T : Nat → Int32), j < f → ∃ A', f_X10_reset_L2 f sc A T (nI (26 - j)) = some (sc, A', T) ∧ (∀ k, k < 26 → A' k = if 26 - j ≤ k then (if k = 18 then 2 else 1) else A k) := by
  intro j
  induction j with
  | zero =>
    intro _ f sc A T hf
    obtain ⟨f, rfl⟩ : ∃ g, f = g + 1 := ⟨f - 1, by omega⟩
    refine ⟨A, ?_, fun k hk => ?_⟩
    · rw [f_X10_reset_L2, if_pos (show (26 : Int32) ≤ nI (26 - 0) by decide)]
    · rw [if_neg (by omega)]
  | succ j ih =>
    intro hj f sc A T hf
    obtain ⟨f, rfl⟩ : ∃ g, f = g + 1 := ⟨f - 1, by omega⟩
    have e1 : 26 - (j + 1) = 25 - j := by omega
    have e2 : 25 - j + 1 = 26 - j := by omega
    have a0 : ¬ (26 ≤ 25 - j) := by omega
    obtain ⟨A', h1, h2⟩ := ih (by omega) f sc (upd A (25 - j) (if 25 - j = 18 then 2 else 1)) T (by omega)
    refine ⟨A', ?_, fun k hk => ?_⟩
    · rw [f_X10_reset_L2, e1]
      simp (disch := omega) only [pl26, pl18, pl1, pu_l, pu_e, a0, if_false, f_X10_reset_L24, pu_gi, nI_clamp, nI_add, e2]
      by_cases h18 : 25 - j = 18
      · rw [if_pos h18] at h1 ⊢
        exact h1
      · rw [if_neg h18] at h1 ⊢
        exact h1
    · rw [h2 k hk, e1]
      by_cases q : 26 - j ≤ k
      · rw [if_pos q, if_pos (show 25 - j ≤ k by omega)]
      · rw [if_neg q]
        unfold upd
        by_cases q2 : k = 25 - j
        · rw [if_pos q2, if_pos (show 25 - j ≤ k by omega), q2]
        · rw [if_neg q2, if_neg (show ¬ 25 - j ≤ k by omega)]
theorem pu_res3 : ∀ (j : Nat), j ≤ 702 → ∀ (f : Nat) (sc : Int32) (A T : Nat → Int32), j < f → ∃ T', f_X10_reset_L33 f sc A T (nI (702 - j)) = some (sc, A, T') ∧ (∀ k, k < 702 → T' k = if 702 - j ≤ k then 0 else T k) := by
  intro j
  induction j with
  | zero =>
    intro _ f sc A T hf
    obtain ⟨f, rfl⟩ : ∃ g, f = g + 1 := ⟨f - 1, by omega⟩
    refine ⟨T, ?_, fun k hk => ?_⟩
    · rw [f_X10_reset_L33, if_pos (show (702 : Int32) ≤ nI (702 - 0) by decide)]
    · rw [if_neg (by omega)]
  | succ j ih =>
    intro hj f sc A T hf
    obtain ⟨f, rfl⟩ : ∃ g, f = g + 1 := ⟨f - 1, by omega⟩
    have e1 : 702 - (j + 1) = 701 - j := by omega
    have e2 : 701 - j + 1 = 702 - j := by omega
    have a0 : ¬ (702 ≤ 701 - j) := by omega
    have e3 : vp_nar .boolean 0 = 0 := by decide
    obtain ⟨T', h1, h2⟩ := ih (by omega) f sc A (upd T (701 - j) 0) (by omega)
    refine ⟨T', ?_, fun k hk => ?_⟩
    · rw [f_X10_reset_L33, e1, e3]
      simp (disch := omega) only [pl702, pu_l, a0, if_false, pu_gi, nI_clamp]
      rw [nI_1, e2]
      exact h1
    · rw [h2 k hk, e1]
      by_cases q : 702 - j ≤ k
      · rw [if_pos q, if_pos (show 701 - j ≤ k by omega)]
      · rw [if_neg q]
        unfold upd
        by_cases q2 : k = 701 - j
        · rw [if_pos q2, if_pos (show 701 - j ≤ k by omega)]
        · rw [if_neg q2, if_neg (show ¬ 701 - j ≤ k by omega)]
theorem pu_reset (sc : Int32) (A T : Nat → Int32) : ∃ A' T', f_X10_reset sc A T = some (0, A', T') ∧ (∀ k, k < 26 → A' k = if k = 18 then 2 else 1) ∧ ∀ k, k < 702 → T' k = 0 := by
  obtain ⟨A', h1, h2⟩ := pu_res2 26 (Nat.le_refl _) 1000 sc A T (by decide)
  obtain ⟨T', h3, h4⟩ := pu_res3 702 (Nat.le_refl _) 1000 sc A' T (by decide)
  refine ⟨A', T', ?_, fun k hk => ?_, fun k hk => ?_⟩
  · unfold f_X10_reset
    rw [show f_X10_reset_L2 1000 sc A T 0 = _ from h1]
    simp only [Option.bind_some]
    rw [show f_X10_reset_L33 1000 sc A' T 0 = _ from h3]
    rfl
  · rw [h2 k hk, if_pos (show 26 - 26 ≤ k by omega)]
  · rw [h4 k hk, if_pos (by omega)]
theorem pu_at0 {xt mt : Nat → Int32} (h1 : ∀ k, k < 27 → xt k = 0) (h2 : ∀ k, k < 702 → mt k = 0) : pu_at xt mt := by
  intro r hr a ha
  rw [h1 r hr, h2 _ (by omega), b_0]
  rfl
/-! eight characters of a stretch: both programs pack them alike -/
/-- what eight characters make, from the last -/
def pu_pk (c : Nat → Nat) : Nat → Nat
  | 0 => 0
  | j + 1 => pu_pk c j + c j * 2 ^ (8 * j)
theorem pu_pk_lt (c : Nat → Nat) (hc : ∀ i, c i < 256) : ∀ j, pu_pk c j < 2 ^ (8 * j)
  | 0 => by unfold pu_pk; decide
  | j + 1 => by
    have h1 := pu_pk_lt c hc j
    have h2 := hc j
    have h3 : c j * 2 ^ (8 * j) ≤ 255 * 2 ^ (8 * j) := Nat.mul_le_mul_right _ (by omega)
    have h4 : 2 ^ (8 * (j + 1)) = 256 * 2 ^ (8 * j) := by rw [show 8 * (j + 1) = 8 + 8 * j by omega, Nat.pow_add]
    unfold pu_pk
    omega
def pu_hn (c : Nat → Nat) : Nat → Nat
  | 0 => 0
  | j + 1 => pu_hn c j * 256 + c (7 - j)
theorem pu_hn_pk (c : Nat → Nat) : ∀ j, j ≤ 8 → pu_hn c j * 2 ^ (8 * (8 - j)) + pu_pk c (8 - j) = pu_pk c 8
  | 0, _ => by simp [pu_hn]
  | j + 1, h => by
    have ih := pu_hn_pk c j (by omega)
    rw [show 8 - j = (8 - (j + 1)) + 1 by omega] at ih
    rw [← ih]
    have e : 8 - (j + 1) = 7 - j := by omega
    rw [e]
    simp only [pu_hn, pu_pk]
    have h4 : 2 ^ (8 * (7 - j + 1)) = 256 * 2 ^ (8 * (7 - j)) := by rw [show 8 * (7 - j + 1) = 8 + 8 * (7 - j) by omega, Nat.pow_add]
    rw [h4, Nat.add_mul, Nat.mul_assoc]
    omega
