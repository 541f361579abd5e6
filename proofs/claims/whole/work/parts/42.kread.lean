/-! the class reads a whole tag -/
theorem tagL56 {t row : Nat → Int32} {n : Nat} (h : TX t n row) (en : Bool) (nm : Int32) : ∀ (j p f v : Nat) (acc : List (Nat × Nat × Nat)) (had : Int32) (bT eT : Nat → Int32), n < p + j → p ≤ n + 1 → j < f → v ≤ p → (en = false → KG had bT eT t n (sVals t acc)) → ∃ (pc : Nat) (had' : Int32) (bT' eT' : Nat → Int32), f_X4_readTag_L56 (nI n) row f (nI p) had nm (b2 en) bT eT (nI v) = some (nI pc, had', nm, b2 en, bT', eT', b2 (sTagL t n j p acc).isSome) ∧ (match sTagL t n j p acc with
    | none => n ≤ pc ∧ pc ≤ n + 1
    | some (r, acc') => pc = r ∧ p < r ∧ r ≤ n ∧ (en = false → KG had' bT' eT' t n (sVals t acc'))) := by
  have hn := h.1
  intro j
  induction j with
  | zero =>
    intro p f v acc had bT eT hp hp1 hf hv hg
    obtain ⟨f, rfl⟩ : ∃ g, f = g + 1 := ⟨f - 1, by omega⟩
    refine ⟨p, had, bT, eT, ?_, ⟨by omega, hp1⟩⟩
    rw [f_X4_readTag_L56]
    simp only [f_X1_size, Option.bind_some]
    rw [if_pos (show nI n ≤ nI p from nI_le (by omega) (by omega))]
    split <;> rfl
  | succ j ih =>
    intro p f v acc had bT eT hp hp1 hf hv hg
    obtain ⟨f, rfl⟩ : ∃ g, f = g + 1 := ⟨f - 1, by omega⟩
    rw [f_X4_readTag_L56]
    simp only [f_X1_size, Option.bind_some]
    unfold sTagL
    by_cases hnp : n ≤ p
    · simp only [if_pos hnp]
      refine ⟨p, had, bT, eT, ?_, ⟨hnp, hp1⟩⟩
      rw [if_pos (show nI n ≤ nI p from nI_le (by omega) (by omega))]
      split <;> rfl
    · simp only [if_neg hnp]
      rw [if_neg (show ¬ (200 : Int32) ≤ nI v from nI_ge (b := 200) (by omega) (by decide)), if_neg (show ¬ nI n ≤ nI p from nI_ge (by omega) (by omega)), atC h (by omega), Option.bind_some]
      by_cases c62 : t p = 62
      · simp only [if_pos c62]
        rw [nI_1]
        exact ⟨p + 1, had, bT, eT, rfl, rfl, by omega, by omega, hg⟩
      · simp only [if_neg c62]
        have hstep : ∀ (p' : Nat) (acc' : List (Nat × Nat × Nat)) (had' : Int32) (bT' eT' : Nat → Int32), p + 1 ≤ p' → p' ≤ n + 1 → (en = false → KG had' bT' eT' t n (sVals t acc')) → ∃ (pc : Nat) (had2 : Int32) (bT2 eT2 : Nat → Int32), f_X4_readTag_L136 (nI n) row (f_X4_readTag_L56 (nI n) row f) (nI p') had' nm (b2 en) bT' eT' (nI v) = some (nI pc, had2, nm, b2 en, bT2, eT2, b2 (sTagL t n j p' acc').isSome) ∧ (match sTagL t n j p' acc' with
            | none => n ≤ pc ∧ pc ≤ n + 1
            | some (r, acc2) => pc = r ∧ p < r ∧ r ≤ n ∧ (en = false → KG had2 bT2 eT2 t n (sVals t acc2))) := by
          intro p' acc' had' bT' eT' g1 g2 g3
          unfold f_X4_readTag_L136
          rw [nI_1]
          obtain ⟨pc, had2, bT2, eT2, k1, k2⟩ := ih p' f (v + 1) acc' had' bT' eT' (by omega) g2 (by omega) (by omega) g3
          refine ⟨pc, had2, bT2, eT2, k1, ?_⟩
          revert k2
          cases sTagL t n j p' acc' with
          | none => exact id
          | some q => exact fun k2 => ⟨k2.1, by omega, k2.2.2⟩
        by_cases c32 : t p = 32
        · simp only [if_pos c32, c32, true_or, if_true]
          unfold f_X4_readTag_L119
          rw [nI_1]
          exact hstep (p + 1) acc had bT eT (by omega) (by omega) hg
        · by_cases c47 : t p = 47
          · simp only [if_neg c32, c47, or_true, if_true]
            unfold f_X4_readTag_L119
            rw [nI_1]
            exact hstep (p + 1) acc had bT eT (by omega) (by omega) hg
          · simp only [if_neg c32, if_neg c47, if_neg (show ¬ (t p = 32 ∨ t p = 47) from fun q => q.elim c32 c47)]
            obtain ⟨had', bT', eT', g1, g2⟩ := readAttC (en := en) h (show p < n by omega) hg
            have hle := sAt_le h (show p < n by omega)
            rw [g1, Option.bind_some]
            exact hstep _ _ had' bT' eT' hle.1 hle.2 (by rw [sVals_put]; exact g2)
def sTq (t : Nat → Int32) (p : Nat) : Nat := if decide (t (p + 1) = 47) = true then p + 2 else p + 1
theorem sTq_let {t row : Nat → Int32} {n p : Nat} (h : TX t n row) (ht : sIsTag t p = true) : sLet (t (sTq t p)) = true ∧ sTq t p < n := by
  have h0 : sLet 0 = false := by decide
  have h47 : sLet 47 = false := by decide
  have hl : sLet (t (sTq t p)) = true := by
    unfold sTq
    unfold sIsTag at ht
    by_cases c : t (p + 1) = 47
    · simp only [c, decide_true, if_true]
      simpa [c, h47] using ht
    · simp only [c, decide_false, Bool.false_eq_true, if_false]
      simpa [c] using ht
  refine ⟨hl, ?_⟩
  by_cases g : sTq t p < n
  · exact g
  · rw [h.ge (by omega), h0] at hl
    exact absurd hl (by decide)
theorem KG0 (bT eT t : Nat → Int32) (n : Nat) : KG 0 bT eT t n [] := fun a _ => b_0 a
theorem readTagC {t row : Nat → Int32} {n p : Nat} (h : TX t n row) (ht : sIsTag t p = true) (had nm en0 : Int32) (bT eT : Nat → Int32) : ∃ (pc : Nat) (had' : Int32) (bT' eT' : Nat → Int32), f_X4_readTag (nI p) (nI n) row had nm en0 bT eT = some (nI pc, had', nI (sName t n (sTq t p)), b2 (decide (t (p + 1) = 47)), bT', eT', b2 (sTagL t n (n + 1) (sNameEnd t n (sTq t p)) []).isSome) ∧ (match sTagL t n (n + 1) (sNameEnd t n (sTq t p)) [] with
    | none => n ≤ pc ∧ pc ≤ n + 1
    | some (r, acc') => pc = r ∧ p + 3 ≤ r ∧ r ≤ n ∧ (decide (t (p + 1) = 47) = false → KG had' bT' eT' t n (sVals t acc'))) := by
  have hn := h.1
  have hl := sTq_let h ht
  have hq : p + 1 ≤ sTq t p ∧ sTq t p ≤ p + 2 := by unfold sTq; split <;> omega
  have hb := nameEnd_le (t := t) (n := n) (p := sTq t p) (by omega)
  have hb2 : sTq t p + 1 ≤ sNameEnd t n (sTq t p) := by
    have : ¬ sNameEnd t n (sTq t p) = sTq t p := by
      intro e
      have h1 := sFind_at (fun i => !sLet (t i)) (n - sTq t p) (sTq t p)
      unfold sNameEnd at e
      rw [e] at h1
      have := h1 (by omega)
      rw [hl.1] at this
      exact absurd this (by decide)
    omega
  obtain ⟨pc, had', bT', eT', g1, g2⟩ := tagL56 h (decide (t (p + 1) = 47)) (nI (sName t n (sTq t p))) (n + 1) (sNameEnd t n (sTq t p)) 1000 0 [] 0 bT eT (by omega) (by omega) (by omega) (by omega) (fun _ => KG0 _ _ _ _)
  refine ⟨pc, had', bT', eT', ?_, ?_⟩
  · have h38 : ∀ z : Int32, nI p + z = nI (sTq t p) → f_X4_readTag_L38 (nI n) row (nI p) had nm en0 bT eT (b2 (decide (t (p + 1) = 47))) (nI p) z = some (nI pc, had', nI (sName t n (sTq t p)), b2 (decide (t (p + 1) = 47)), bT', eT', b2 (sTagL t n (n + 1) (sNameEnd t n (sTq t p)) []).isSome) := by
      intro z hz
      unfold f_X4_readTag_L38 f_X6_begin
      rw [hz, readNameC h hl.2 hl.1, Option.bind_some, pu_gz (by cases decide (t (p + 1) = 47) <;> simp [b2]), Option.bind_some]
      exact g1
    unfold f_X4_readTag f_X4_readTag_L23
    rw [nI_1, atC h (by omega), Option.bind_some]
    by_cases c : t (p + 1) = 47
    · rw [if_pos c, if_neg (by decide)]
      have e : b2 (decide (t (p + 1) = 47)) = 1 := by simp [c, b2]
      have := h38 2 (by unfold sTq; rw [if_pos (by simp [c])]; exact nI_add p 2)
      rw [e] at this ⊢
      exact this
    · rw [if_neg c, if_pos rfl]
      have e : b2 (decide (t (p + 1) = 47)) = 0 := by simp [c, b2]
      have := h38 1 (by unfold sTq; rw [if_neg (by simp [c])]; exact nI_1 p)
      rw [e] at this ⊢
      exact this
  · revert g2
    cases sTagL t n (n + 1) (sNameEnd t n (sTq t p)) [] with
    | none => exact id
    | some q => exact fun g2 => ⟨g2.1, by omega, g2.2.2⟩
