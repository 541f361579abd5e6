/-! action, attribute, scheme, reset -/
theorem pl14 : (14 : Int32) = nI 14 := rfl
theorem pl27 : (27 : Int32) = nI 27 := rfl
theorem pl97 : (97 : Int32) = nI 97 := rfl
theorem pl122 : (122 : Int32) = nI 122 := rfl
theorem pu_isln {j : Nat} (h : j < 2 ^ 31) : f_X9_isLetterNumber (nI j) = some (if j < 26 then 1 else 0) := by
  unfold f_X9_isLetterNumber
  simp (disch := omega) only [pl26, pu_l]
  rw [if_neg (nI_pos h)]
  by_cases h1 : j < 26
  · rw [if_neg (by omega), if_pos h1]
  · rw [if_pos (by omega), if_neg h1]
theorem pu_isln_neg {x : Int32} (h : x < 0) : f_X9_isLetterNumber x = some 0 := by unfold f_X9_isLetterNumber; rw [if_pos h]
theorem pu_isln_big {x : Int32} (h : nI 26 ≤ x) (h0 : ¬ x < 0) : f_X9_isLetterNumber x = some 0 := by
  unfold f_X9_isLetterNumber
  rw [if_neg h0, if_pos (show (26 : Int32) ≤ x from h)]
theorem pu_gt25 {x : Int32} (h : nI 26 ≤ x) : (25 : Int32) < x := by
  have h1 := Int32.le_iff_toInt_le.mp h
  apply Int32.lt_iff_toInt_lt.mpr
  rw [nI_toInt (by decide)] at h1
  have h2 : (25 : Int32).toInt = 25 := by decide
  omega
theorem pu_gt2 {x : Int32} (h : nI 3 ≤ x) : (2 : Int32) < x := by
  have h1 := Int32.le_iff_toInt_le.mp h
  apply Int32.lt_iff_toInt_lt.mpr
  rw [nI_toInt (by decide)] at h1
  have h2 : (2 : Int32).toInt = 2 := by decide
  omega
theorem pu_action (xa ma : Nat → Int32) (v1 v2 : Int32) : (f_X9_action xa v1 v2 = some (xa, 0) ∧ f_X10_action ma v1 v2 = some (ma, 0)) ∨ ∃ j a, j < 26 ∧ a ≤ 2 ∧ f_X9_action xa v1 v2 = some (upd xa j (nI a), 1) ∧ f_X10_action ma v1 v2 = some (upd ma j (nI a), 1) := by
  rcases pu_cases v1 26 (by decide) with h | ⟨h, h0⟩ | ⟨j, hj, rfl⟩
  · left
    unfold f_X9_action f_X10_action
    rw [pu_isln_neg h, if_pos h]
    exact ⟨rfl, rfl⟩
  · left
    unfold f_X9_action f_X10_action
    rw [pu_isln_big h h0, if_neg h0, if_pos (pu_gt25 h)]
    exact ⟨rfl, rfl⟩
  · rcases pu_cases v2 3 (by decide) with h | ⟨h, h0⟩ | ⟨a, ha, rfl⟩
    · left
      unfold f_X9_action f_X10_action
      rw [pu_isln (by omega), if_pos hj]
      simp (disch := omega) only [Option.bind_some, pl25, pu_m]
      rw [if_neg (by decide), if_pos h, if_neg (nI_pos (by omega)), if_neg (by omega), if_pos h]
      exact ⟨rfl, rfl⟩
    · left
      unfold f_X9_action f_X10_action
      rw [pu_isln (by omega), if_pos hj]
      simp (disch := omega) only [Option.bind_some, pl25, pu_m]
      rw [if_neg (by decide), if_neg h0, if_pos (pu_gt2 h), if_neg (nI_pos (by omega)), if_neg (by omega), if_neg h0, if_pos (pu_gt2 h)]
      exact ⟨rfl, rfl⟩
    · unfold f_X9_action f_X10_action f_X9_action_L28 f_X10_action_L31 f_X3_setAction
      have a1 : ¬ 25 < j := by omega
      have a2 : ¬ j < 0 := by omega
      have a3 : ¬ a < 0 := by omega
      have a4 : ¬ 2 < a := by omega
      have a5 : ¬ (1 = 0) := by omega
      simp (disch := omega) only [pu_isln, Option.bind_some, pl25, pl2, pl18, pl0, pl1, pu_m, pu_e, pu_gi, nI_clamp, if_pos hj, a1, a2, a3, a4, a5, if_false]
      by_cases h1 : j = 18
      · by_cases h2 : a = 0
        · left
          simp only [h1, h2, if_true, and_self]
        · right
          refine ⟨j, a, hj, by omega, ?_⟩
          simp only [h1, h2, if_true, if_false, and_self]
      · right
        refine ⟨j, a, hj, by omega, ?_⟩
        simp only [h1, if_false, and_self]
/-! attribute: a row of bits against a row of booleans -/
def pu_at (xt mt : Nat → Int32) : Prop := ∀ r, r < 27 → ∀ a, a < 26 → mt (26 * r + a) = if bt (xt r) a = true then 1 else 0
theorem pu_b1 : ∀ a, a < 26 → ∀ i, i < 32 → bt ((1 : Int32) <<< (nI a &&& 31)) i = decide (i = a) := by decide +kernel
theorem pu_narb {v : Int32} (h : v = 0 ∨ v = 1) : vp_nar .boolean v = v := by rcases h with rfl | rfl <;> decide
theorem pu_set {xt mt : Nat → Int32} (h : pu_at xt mt) {r a : Nat} (hr : r < 27) (ha : a < 26) {x : Int32} {b : Bool} (hx : ∀ i, i < 26 → bt x i = if i = a then b else bt (xt r) i) : pu_at (upd xt r x) (upd mt (26 * r + a) (if b = true then 1 else 0)) := by
  intro r' hr' a' ha'
  unfold upd
  by_cases h1 : r' = r
  · subst h1
    by_cases h2 : a' = a
    · subst h2
      simp only [if_true, hx a' ha']
    · have h3 : ¬ (26 * r' + a' = 26 * r' + a) := by omega
      simp only [h3, if_false, if_true, hx a' ha', h2]
      exact h r' hr' a' ha'
  · have h3 : ¬ (26 * r' + a' = 26 * r + a) := by omega
    simp only [h3, h1, if_false]
    exact h r' hr' a' ha'
theorem pu_setC {xt mt : Nat → Int32} (h : pu_at xt mt) {r a : Nat} (hr : r < 27) (ha : a < 26) {v3 : Int32} (h3 : v3 = 0 ∨ v3 = 1) (v1 : Int32) : ∃ xt', f_X3_setAttribute_L13 v1 (nI a) v3 xt (nI r) = some xt' ∧ pu_at xt' (upd mt (26 * r + a) (vp_nar .boolean v3)) := by
  rw [pu_narb h3]
  unfold f_X3_setAttribute_L13
  simp (disch := omega) only [pu_gi, nI_clamp]
  rcases h3 with rfl | rfl
  · refine ⟨_, rfl, pu_set (b := false) h hr ha (fun i hi => ?_)⟩
    rw [b_and, b_xor, pu_b1 a ha i (by omega), b_m1 i (by omega)]
    by_cases h4 : i = a <;> simp [h4]
  · refine ⟨_, rfl, pu_set (b := true) h hr ha (fun i hi => ?_)⟩
    rw [b_or, pu_b1 a ha i (by omega)]
    by_cases h4 : i = a <;> simp [h4]
theorem pu_attr1 {xt mt : Nat → Int32} (h : pu_at xt mt) {v1 v3 : Int32} {r a : Nat} (h3 : v3 = 0 ∨ v3 = 1) (hr : r < 27) (ha : a < 26) (e1 : f_X3_setAttribute xt v1 (nI a) v3 = f_X3_setAttribute_L13 v1 (nI a) v3 xt (nI r)) (g1 : ¬ v1 < (-1)) (g2 : ¬ 25 < v1) (g3 : (if 0 ≤ v1 then v1 else 26) = nI r) (g4 : f_X9_attribute xt v1 (nI a) v3 = f_X9_attribute_L24 v1 (nI a) v3 xt 1) : ∃ xt' mt' r, f_X9_attribute xt v1 (nI a) v3 = some (xt', r) ∧ f_X10_attribute mt v1 (nI a) v3 = some (mt', r) ∧ pu_at xt' mt' := by
  obtain ⟨xt', k1, k2⟩ := pu_setC h hr ha h3 v1
  have a1 : ¬ 25 < a := by omega
  have a2 : ¬ a < 0 := by omega
  have hL : f_X10_attribute_L33 v1 (nI a) v3 mt = some (upd mt (26 * r + a) (vp_nar .boolean v3), 1) := by
    unfold f_X10_attribute_L33
    have : f_X10_attribute_L43 v1 (nI a) v3 mt (nI r) = some (upd mt (26 * r + a) (vp_nar .boolean v3), 1) := by
      unfold f_X10_attribute_L43
      simp (disch := omega) only [pl26, pk_mul, nI_add, pu_gi, nI_clamp]
    by_cases h0 : (0 : Int32) ≤ v1
    · rw [if_pos h0] at g3 ⊢
      rw [g3] at this ⊢
      exact this
    · rw [if_neg h0] at g3 ⊢
      rw [g3]
      exact this
  have hR : f_X10_attribute mt v1 (nI a) v3 = if a = 14 then (if v3 = 0 then some (upd mt (26 * r + a) (vp_nar .boolean v3), 1) else some (mt, 0)) else some (upd mt (26 * r + a) (vp_nar .boolean v3), 1) := by
    unfold f_X10_attribute
    rw [if_neg g1, if_neg g2, hL]
    rw [if_neg (show ¬ nI a < 0 from nI_pos (by omega)), if_neg (show ¬ (25 : Int32) < nI a from nI_nlt (a := 25) (b := a) (by omega) (by decide))]
    simp (disch := omega) only [pl14, pu_e]
  have hC : f_X9_attribute xt v1 (nI a) v3 = if a = 14 then (if v3 = 0 then some (xt', 1) else some (xt, 0)) else some (xt', 1) := by
    rw [g4]
    unfold f_X9_attribute_L24 f_X9_attribute_L43
    rw [e1, k1, if_neg (show ¬ (1 : Int32) = 0 by decide)]
    simp (disch := omega) only [pl14, pu_e, Option.bind_some]
  rw [hC, hR]
  by_cases h14 : a = 14
  · rw [if_pos h14, if_pos h14]
    by_cases hv : v3 = 0
    · rw [if_pos hv, if_pos hv]
      exact ⟨_, _, _, rfl, rfl, k2⟩
    · rw [if_neg hv, if_neg hv]
      exact ⟨_, _, _, rfl, rfl, h⟩
  · rw [if_neg h14, if_neg h14]
    exact ⟨_, _, _, rfl, rfl, k2⟩
theorem pu_lt_m1 {x : Int32} (h : x < 0) (h1 : ¬ x = -1) : x < -1 := by
  have a1 := Int32.lt_iff_toInt_lt.mp h
  have a2 : x.toInt ≠ (-1 : Int32).toInt := fun q => h1 (Int32.toInt_inj.mp q)
  apply Int32.lt_iff_toInt_lt.mpr
  have e0 : (0 : Int32).toInt = 0 := by decide
  have e1 : (-1 : Int32).toInt = -1 := by decide
  omega
theorem pu_attribute {xt mt : Nat → Int32} (h : pu_at xt mt) (v1 v2 v3 : Int32) (h3 : v3 = 0 ∨ v3 = 1) : ∃ xt' mt' r, f_X9_attribute xt v1 v2 v3 = some (xt', r) ∧ f_X10_attribute mt v1 v2 v3 = some (mt', r) ∧ pu_at xt' mt' := by
  -- the row
  have hrow : (v1 < -1 ∨ (25 : Int32) < v1 ∧ ¬ v1 < 0) ∨ ∃ r, r < 27 ∧ ¬ v1 < (-1) ∧ ¬ 25 < v1 ∧ (if 0 ≤ v1 then v1 else 26) = nI r ∧ ((v1 = -1 ∧ r = 26) ∨ v1 = nI r ∧ r < 26) := by
    by_cases hm : v1 = -1
    · subst hm
      exact Or.inr ⟨26, by decide, by decide, by decide, by decide, Or.inl ⟨rfl, rfl⟩⟩
    · rcases pu_cases v1 26 (by decide) with h | ⟨h, h0⟩ | ⟨j, hj, rfl⟩
      · exact Or.inl (Or.inl (pu_lt_m1 h hm))
      · exact Or.inl (Or.inr ⟨pu_gt25 h, h0⟩)
      · refine Or.inr ⟨j, by omega, ?_, nI_nlt (a := 25) (b := j) (by omega) (by decide), ?_, Or.inr ⟨rfl, hj⟩⟩
        · intro q
          have q1 := Int32.lt_iff_toInt_lt.mp q
          rw [nI_toInt (by omega)] at q1
          have e1 : (-1 : Int32).toInt = -1 := by decide
          omega
        · rw [if_pos (nI_pos' (by omega))]
  rcases hrow with hbad | ⟨r, hr, g1, g2, g3, hr2⟩
  · refine ⟨xt, mt, 0, ?_, ?_, h⟩
    · have hm : ¬ v1 = -1 := by
        rintro rfl
        rcases hbad with q | ⟨q, -⟩
        · exact absurd q (by decide)
        · exact absurd q (by decide)
      have hz : f_X9_isLetterNumber v1 = some 0 := by
        unfold f_X9_isLetterNumber
        by_cases hn : v1 < 0
        · rw [if_pos hn]
        · rw [if_neg hn]
          rcases hbad with q | ⟨q, -⟩
          · exfalso
            apply hn
            have q1 := Int32.lt_iff_toInt_lt.mp q
            apply Int32.lt_iff_toInt_lt.mpr
            have e1 : (-1 : Int32).toInt = -1 := by decide
            have e0 : (0 : Int32).toInt = 0 := by decide
            omega
          · rw [if_pos]
            have q1 := Int32.lt_iff_toInt_lt.mp q
            apply Int32.le_iff_toInt_le.mpr
            have e1 : (25 : Int32).toInt = 25 := by decide
            have e0 : (26 : Int32).toInt = 26 := by decide
            omega
      unfold f_X9_attribute
      rw [if_neg hm, hz]
      rfl
    · unfold f_X10_attribute
      rcases hbad with q | ⟨q, q2⟩
      · rw [if_pos q]
      · by_cases h5 : v1 < -1
        · rw [if_pos h5]
        · rw [if_neg h5, if_pos q]
  · have hX : f_X9_attribute xt v1 v2 v3 = f_X9_attribute_L12 v1 v2 v3 xt := by
      unfold f_X9_attribute
      rcases hr2 with ⟨q, -⟩ | ⟨q, q2⟩
      · rw [if_pos q]
      · by_cases hm : v1 = -1
        · rw [if_pos hm]
        · rw [if_neg hm, q, pu_isln (by omega), if_pos q2]
          rfl
    have hS : f_X3_setAttribute xt v1 v2 v3 = f_X3_setAttribute_L13 v1 v2 v3 xt (nI r) := by
      unfold f_X3_setAttribute
      rcases hr2 with ⟨q, q2⟩ | ⟨q, q2⟩
      · subst q q2
        rfl
      · rw [q, pu_isln (by omega), if_pos q2]
        rfl
    rcases pu_cases v2 26 (by decide) with hv | ⟨hv, hv0⟩ | ⟨a, ha, rfl⟩
    · refine ⟨xt, mt, 0, ?_, ?_, h⟩
      · rw [hX]
        unfold f_X9_attribute_L12
        rw [pu_isln_neg hv]
        rfl
      · unfold f_X10_attribute
        rw [if_neg g1, if_neg g2, if_pos hv]
    · refine ⟨xt, mt, 0, ?_, ?_, h⟩
      · rw [hX]
        unfold f_X9_attribute_L12
        rw [pu_isln_big hv hv0]
        rfl
      · unfold f_X10_attribute
        rw [if_neg g1, if_neg g2, if_neg hv0, if_pos (pu_gt25 hv)]
    · refine pu_attr1 h h3 hr ha hS g1 g2 g3 ?_
      rw [hX]
      unfold f_X9_attribute_L12
      rw [pu_isln (by omega), if_pos ha]
      rfl
