/-! a reference found by both -/
theorem nI2 (p k : Nat) : nI p + nI k = nI (p + k) := nI_add p k
theorem findC {t row : Nat → Int32} {n p : Nat} (h : TX t n row) (hp : p < 2 ^ 27) : f_X5_find (nI n) row (nI p) = some (sPack (sRef t p)) := by
  have h2 := hasC (p := p) (i := 2) h (by omega) (by decide)
  have h3 := hasC (p := p) (i := 3) h (by omega) (by decide)
  have h4 := hasC (p := p) (i := 4) h (by omega) (by decide)
  have h5 := hasC (p := p) (i := 5) h (by omega) (by decide)
  rw [show ms_byt.getD 2 [] = [38, 108, 116, 59] from rfl] at h2
  rw [show ms_byt.getD 3 [] = [38, 103, 116, 59] from rfl] at h3
  rw [show ms_byt.getD 4 [] = [38, 97, 109, 112, 59] from rfl] at h4
  rw [show ms_byt.getD 5 [] = [38, 113, 117, 111, 116, 59] from rfl] at h5
  unfold f_X5_find sRef
  rw [atC h (by omega), show nI p + 1 = nI (p + 1) from nI_1 p, atC h (by omega), h2, h3, h4, h5, numC h (by omega)]
  simp only [Option.bind_some, sHas, Bool.and_true, Bool.and_eq_true, decide_eq_true_eq, Nat.add_assoc]
  by_cases h38 : t p = 38
  · simp only [h38, if_true, true_and]
    by_cases h35 : t (p + 1) = 35
    · simp only [h35, if_true]
    · simp only [h35, if_false]
      by_cases c2 : t (p + 1) = 108 ∧ t (p + 2) = 116 ∧ t (p + 3) = 59
      · simp only [c2, and_self, if_true]
        rfl
      · rw [if_neg c2, if_neg c2, if_pos rfl]
        by_cases c3 : t (p + 1) = 103 ∧ t (p + 2) = 116 ∧ t (p + 3) = 59
        · simp only [c3, and_self, if_true]
          rfl
        · rw [if_neg c3, if_neg c3, if_pos rfl]
          by_cases c4 : t (p + 1) = 97 ∧ t (p + 2) = 109 ∧ t (p + 3) = 112 ∧ t (p + 4) = 59
          · simp only [c4, and_self, if_true]
            rfl
          · rw [if_neg c4, if_neg c4, if_pos rfl]
            by_cases c5 : t (p + 1) = 113 ∧ t (p + 2) = 117 ∧ t (p + 3) = 111 ∧ t (p + 4) = 116 ∧ t (p + 5) = 59
            · simp only [c5, and_self, if_true]
              rfl
            · rw [if_neg c5, if_neg c5, if_pos rfl]
              rfl
  · simp only [h38, if_false]
    rfl
theorem szC {t : Nat → Int32} {p : Nat} : f_X5_sizeOf (sPack (sRef t p)) = some (match sRef t p with
    | none => 0
    | some (_, s) => nI s) := by
  unfold f_X5_sizeOf
  cases hr : sRef t p with
  | none => rfl
  | some q =>
    obtain ⟨c, s⟩ := q
    have := sRef_in hr
    show some (nI (s * 256 + c) >>> ((8 : Int32) &&& 31)) = some (nI s)
    rw [pk_shrN (by omega) ((8 : Int32) &&& 31) 8 (by decide), show (s * 256 + c) / 2 ^ 8 = s by omega]
theorem chC {t : Nat → Int32} {p c s : Nat} (hr : sRef t p = some (c, s)) : f_X5_characterOf (sPack (sRef t p)) = some (nI c) := by
  have h := sRef_in hr
  rw [hr]
  unfold f_X5_characterOf sPack
  have e : nI (s * 256 + c) &&& (255 : Int32) = nI c := by
    rw [pk_andN (by omega) 8 (by decide), show (s * 256 + c) % 2 ^ 8 = c by omega]
  rw [e, pu_chr (by omega), pu_gc (by omega)]
/-- the end of the reference's own test -/
theorem r241 {n p e s : Nat} {row : Nat → Int32} (hp : p < 2 ^ 28) (he : e < 2 ^ 28) (hs : s < 2 ^ 20) (code : Int32) : f_X10_reference_L241 (nI n) row (nI p) (nI e) code (nI s) = some (code, if p + s ≤ e then nI s else 0) := by
  unfold f_X10_reference_L241
  rw [nI_add]
  simp (disch := omega) only [pu_m]
  by_cases h : p + s ≤ e
  · rw [if_neg (show ¬ e < p + s by omega), if_pos h]
  · rw [if_pos (show e < p + s by omega), if_neg h]
theorem refR {t row : Nat → Int32} {n p e : Nat} (h : TX t n row) (hp : p < 2 ^ 27) (he : e < 2 ^ 27) (code : Int32) : f_X10_reference (nI n) code row (nI p) (nI e) = match sRef t p with
    | none => some (code, 0)
    | some (c, s) => some (nI c, if p + s ≤ e then nI s else 0) := by
  have r0 : f_X10_reference_L241 (nI n) row (nI p) (nI e) code 0 = some (code, 0) := by
    have := r241 (n := n) (row := row) (s := 0) (p := p) (e := e) (by omega) (by omega) (by decide) code
    rw [show (0 : Int32) = nI 0 from rfl, this]
    split <;> rfl
  have rk := fun (c : Int32) (s : Nat) (hs : s < 2 ^ 20) => r241 (n := n) (row := row) (s := s) (p := p) (e := e) (by omega) (by omega) hs c
  have h221 : f_X10_reference_L221 (nI n) row (nI p) (nI e) code 0 = if t (p + 1) = 35 then (match sNum t p with
      | none => some (code, 0)
      | some (c, s) => some (nI c, if p + s ≤ e then nI s else 0)) else some (code, 0) := by
    unfold f_X10_reference_L221
    rw [show nI p + 1 = nI (p + 1) from nI_1 p, show nI p + 2 = nI (p + 2) from nI_add p 2, atR h (by omega), numR h (by omega)]
    simp only [Option.bind_some]
    by_cases h35 : t (p + 1) = 35
    · rw [if_pos h35, if_pos h35]
      cases hn : sNum t p with
      | none => exact r0
      | some q =>
        obtain ⟨c, s⟩ := q
        have := sNum_in hn
        exact rk _ s (by omega)
    · rw [if_neg h35, if_neg h35]
      exact r0
  have h149 : f_X10_reference_L149 (nI n) row (nI p) (nI e) code 0 = if t (p + 1) = 113 ∧ t (p + 2) = 117 ∧ t (p + 3) = 111 ∧ t (p + 4) = 116 ∧ t (p + 5) = 59 then some (nI 34, if p + 6 ≤ e then nI 6 else 0) else f_X10_reference_L221 (nI n) row (nI p) (nI e) code 0 := by
    unfold f_X10_reference_L149
    rw [show nI p + 1 = nI (p + 1) from nI_1 p, show nI p + 2 = nI (p + 2) from nI_add p 2, show nI p + 3 = nI (p + 3) from nI_add p 3, show nI p + 4 = nI (p + 4) from nI_add p 4, show nI p + 5 = nI (p + 5) from nI_add p 5, atR h (by omega), atR h (by omega), atR h (by omega), atR h (by omega), atR h (by omega)]
    simp only [Option.bind_some]
    rw [show f_X10_reference_L241 (nI n) row (nI p) (nI e) 34 6 = _ from rk 34 6 (by decide)]
    by_cases c1 : t (p + 1) = 113 <;> by_cases c2 : t (p + 2) = 117 <;> by_cases c3 : t (p + 3) = 111 <;> by_cases c4 : t (p + 4) = 116 <;> by_cases c5 : t (p + 5) = 59 <;> simp only [c1, c2, c3, c4, c5, and_self, and_true, true_and, and_false, false_and, if_true, if_false] <;> rfl
  have h90 : f_X10_reference_L90 (nI n) row (nI p) (nI e) code 0 = if t (p + 1) = 97 ∧ t (p + 2) = 109 ∧ t (p + 3) = 112 ∧ t (p + 4) = 59 then some (nI 38, if p + 5 ≤ e then nI 5 else 0) else f_X10_reference_L149 (nI n) row (nI p) (nI e) code 0 := by
    unfold f_X10_reference_L90
    rw [show nI p + 1 = nI (p + 1) from nI_1 p, show nI p + 2 = nI (p + 2) from nI_add p 2, show nI p + 3 = nI (p + 3) from nI_add p 3, show nI p + 4 = nI (p + 4) from nI_add p 4, atR h (by omega), atR h (by omega), atR h (by omega), atR h (by omega)]
    simp only [Option.bind_some]
    rw [show f_X10_reference_L241 (nI n) row (nI p) (nI e) 38 5 = _ from rk 38 5 (by decide)]
    by_cases c1 : t (p + 1) = 97 <;> by_cases c2 : t (p + 2) = 109 <;> by_cases c3 : t (p + 3) = 112 <;> by_cases c4 : t (p + 4) = 59 <;> simp only [c1, c2, c3, c4, and_self, and_true, true_and, and_false, false_and, if_true, if_false] <;> rfl
  have h62 : f_X10_reference_L62 (nI n) row (nI p) (nI e) code = if t (p + 1) = 108 then some (nI 60, if p + 4 ≤ e then nI 4 else 0) else some (nI 62, if p + 4 ≤ e then nI 4 else 0) := by
    unfold f_X10_reference_L62 f_X10_reference_L84
    rw [show nI p + 1 = nI (p + 1) from nI_1 p, atR h (by omega)]
    simp only [Option.bind_some]
    rw [show f_X10_reference_L241 (nI n) row (nI p) (nI e) 60 4 = _ from rk 60 4 (by decide), show f_X10_reference_L241 (nI n) row (nI p) (nI e) 62 4 = _ from rk 62 4 (by decide)]
    rfl
  unfold f_X10_reference sRef
  rw [show nI p + 1 = nI (p + 1) from nI_1 p, show nI p + 2 = nI (p + 2) from nI_add p 2, show nI p + 3 = nI (p + 3) from nI_add p 3, atR h (by omega), atR h (by omega), atR h (by omega), atR h (by omega), h62, h90, h149, h221]
  simp only [Option.bind_some]
  by_cases h38 : t p = 38
  · simp only [h38, if_true]
    by_cases a1 : t (p + 1) = 35
    · have b1 : ¬ t (p + 1) = 108 := by rw [a1]; decide
      have b2 : ¬ t (p + 1) = 103 := by rw [a1]; decide
      have b3 : ¬ t (p + 1) = 97 := by rw [a1]; decide
      have b4 : ¬ t (p + 1) = 113 := by rw [a1]; decide
      simp only [a1, show ¬ (35 : Int32) = 108 by decide, show ¬ (35 : Int32) = 103 by decide, show ¬ (35 : Int32) = 97 by decide, show ¬ (35 : Int32) = 113 by decide, if_true, if_false, false_and, ite_self]
    · simp only [a1, if_false]
      by_cases d1 : t (p + 2) = 116 ∧ t (p + 3) = 59
      · simp only [d1, and_self, if_true, and_true]
        by_cases e1 : t (p + 1) = 108
        · simp only [e1, if_true]
        · simp only [e1, if_false]
          by_cases e2 : t (p + 1) = 103
          · simp only [e2, if_true]
          · simp only [e2, if_false, show ¬ (116 : Int32) = 109 by decide, show ¬ (116 : Int32) = 117 by decide, false_and, and_false]
      · have hx : ∀ x : Option (Int32 × Int32), (if t (p + 2) = 116 then (if t (p + 3) = 59 then x else if t (p + 1) = 97 ∧ t (p + 2) = 109 ∧ t (p + 3) = 112 ∧ t (p + 4) = 59 then some (nI 38, if p + 5 ≤ e then nI 5 else 0) else if t (p + 1) = 113 ∧ t (p + 2) = 117 ∧ t (p + 3) = 111 ∧ t (p + 4) = 116 ∧ t (p + 5) = 59 then some (nI 34, if p + 6 ≤ e then nI 6 else 0) else some (code, 0)) else if t (p + 1) = 97 ∧ t (p + 2) = 109 ∧ t (p + 3) = 112 ∧ t (p + 4) = 59 then some (nI 38, if p + 5 ≤ e then nI 5 else 0) else if t (p + 1) = 113 ∧ t (p + 2) = 117 ∧ t (p + 3) = 111 ∧ t (p + 4) = 116 ∧ t (p + 5) = 59 then some (nI 34, if p + 6 ≤ e then nI 6 else 0) else some (code, 0)) = if t (p + 1) = 97 ∧ t (p + 2) = 109 ∧ t (p + 3) = 112 ∧ t (p + 4) = 59 then some (nI 38, if p + 5 ≤ e then nI 5 else 0) else if t (p + 1) = 113 ∧ t (p + 2) = 117 ∧ t (p + 3) = 111 ∧ t (p + 4) = 116 ∧ t (p + 5) = 59 then some (nI 34, if p + 6 ≤ e then nI 6 else 0) else some (code, 0) := by
          intro x
          by_cases q1 : t (p + 2) = 116
          · have q2 : ¬ t (p + 3) = 59 := fun q => d1 ⟨q1, q⟩
            rw [if_pos q1, if_neg q2]
          · rw [if_neg q1]
        rw [hx]
        have d2 : ¬ (t (p + 1) = 108 ∧ t (p + 2) = 116 ∧ t (p + 3) = 59) := fun q => d1 q.2
        have d3 : ¬ (t (p + 1) = 103 ∧ t (p + 2) = 116 ∧ t (p + 3) = 59) := fun q => d1 q.2
        rw [if_neg d2, if_neg d3]
        by_cases c4 : t (p + 1) = 97 ∧ t (p + 2) = 109 ∧ t (p + 3) = 112 ∧ t (p + 4) = 59
        · rw [if_pos c4, if_pos c4]
        · rw [if_neg c4, if_neg c4]
          by_cases c5 : t (p + 1) = 113 ∧ t (p + 2) = 117 ∧ t (p + 3) = 111 ∧ t (p + 4) = 116 ∧ t (p + 5) = 59
          · rw [if_pos c5, if_pos c5]
          · rw [if_neg c5, if_neg c5]
  · simp only [h38, if_false]
