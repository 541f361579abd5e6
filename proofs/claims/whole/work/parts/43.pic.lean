/-! the picture: a run of text; bounds -/
theorem sD_dig {t : Nat → Int32} {p : Nat} : ∀ (j k v i : Nat), k ≤ i → i < (sD t p j k v).1 → sDig (t (p + i)) = true
  | 0, k, v, i, h1, h2 => by simp [sD] at h2; omega
  | j + 1, k, v, i, h1, h2 => by
    unfold sD at h2
    split at h2
    · rename_i hd
      by_cases e : i = k
      · subst e; exact hd
      · exact sD_dig j (k + 1) _ i (by omega) h2
    · simp at h2
      omega
/-- no character of a reference is a '<' or none -/
theorem sRef_ch {t : Nat → Int32} {p c s i : Nat} (h : sRef t p = some (c, s)) (hi : i < s) : ¬ t (p + i) = 60 ∧ ¬ t (p + i) = 0 := by
  have w : ∀ {x y : Int32}, x = y → ¬ y = 60 → ¬ y = 0 → ¬ x = 60 ∧ ¬ x = 0 := fun e a b => e ▸ ⟨a, b⟩
  unfold sRef at h
  split at h
  · rename_i h0
    split at h
    · rename_i h1
      have hd := fun i => sD_dig (t := t) (p := p + 2) 3 0 0 i (Nat.zero_le _)
      unfold sNum at h
      split at h
      · rename_i hc
        simp only [Option.some.injEq, Prod.mk.injEq] at h
        by_cases e0 : i = 0
        · subst e0; exact w h0 (by decide) (by decide)
        · by_cases e1 : i = 1
          · subst e1; exact w h1 (by decide) (by decide)
          · by_cases e2 : i - 2 < (sD t (p + 2) 3 0 0).1
            · have := hd (i - 2) e2
              rw [show p + 2 + (i - 2) = p + i by omega] at this
              constructor
              · intro q; rw [q] at this; exact absurd this (by decide)
              · intro q; rw [q] at this; exact absurd this (by decide)
            · have : p + i = p + 2 + (sD t (p + 2) 3 0 0).1 := by omega
              rw [this]
              exact w hc.2.1 (by decide) (by decide)
      · cases h
    · have h4 : ∀ {a b d : Int32}, t (p + 1) = a ∧ t (p + 2) = b ∧ t (p + 3) = d → (¬ a = 60 ∧ ¬ a = 0) → (¬ b = 60 ∧ ¬ b = 0) → (¬ d = 60 ∧ ¬ d = 0) → i < 4 → ¬ t (p + i) = 60 ∧ ¬ t (p + i) = 0 := by
        intro a b d q ha hb hd hi4
        have : i = 0 ∨ i = 1 ∨ i = 2 ∨ i = 3 := by omega
        rcases this with e | e | e | e <;> subst e
        · exact w h0 (by decide) (by decide)
        · exact w q.1 ha.1 ha.2
        · exact w q.2.1 hb.1 hb.2
        · exact w q.2.2 hd.1 hd.2
      split at h
      · rename_i q
        cases h
        exact h4 q (by decide) (by decide) (by decide) hi
      · split at h
        · rename_i q
          cases h
          exact h4 q (by decide) (by decide) (by decide) hi
        · split at h
          · rename_i q
            cases h
            by_cases e : i = 4
            · subst e; exact w q.2.2.2 (by decide) (by decide)
            · exact h4 ⟨q.1, q.2.1, q.2.2.1⟩ (by decide) (by decide) (by decide) (by omega)
          · split at h
            · rename_i q
              cases h
              by_cases e : i = 4
              · subst e; exact w q.2.2.2.1 (by decide) (by decide)
              · by_cases e : i = 5
                · subst e; exact w q.2.2.2.2 (by decide) (by decide)
                · exact h4 ⟨q.1, q.2.1, q.2.2.1⟩ (by decide) (by decide) (by decide) (by omega)
            · cases h
  · cases h
theorem sMark_60 {t : Nat → Int32} {i : Nat} (h : sMark t i = true) : t i = 60 := by
  unfold sMark at h
  simp only [Bool.and_eq_true, decide_eq_true_eq] at h
  exact h.1
theorem sRef_fit {t row : Nat → Int32} {n p e c s : Nat} (ht : TX t n row) (h : sRef t p = some (c, s)) (he : e = n ∨ sMark t e = true) (hp : p < e) : p + s ≤ e := by
  by_cases g : p + s ≤ e
  · exact g
  · have := sRef_ch h (i := e - p) (by omega)
    rw [show p + (e - p) = e by omega] at this
    rcases he with q | q
    · rw [ht.ge (by omega)] at this
      exact absurd rfl this.2
    · exact absurd (sMark_60 q) this.1
theorem sTok_text {t row : Nat → Int32} {n p : Nat} {st : Stk} {nd : List Nd} (ht : TX t n row) (hp : p < n) (hm : sMark t p = false) : sTok t n (p, false, st, nd) = match sRef t p with
    | some (c, s) => (p + s, false, st, sAdd [nI c] st nd)
    | none => (p + 1, false, st, sAdd [t p] st nd) := by
  unfold sTok
  dsimp only
  rw [if_neg (show ¬ n ≤ p by omega), if_neg (show ¬ false = true by decide), if_pos hm]
  cases hr : sRef t p with
  | none => rfl
  | some q =>
    obtain ⟨c, s⟩ := q
    exact if_pos (sRef_fit ht hr (Or.inl rfl) hp)
/-- a run of text is read by steps -/
theorem sRun {t row : Nat → Int32} {n e : Nat} (ht : TX t n row) (he : e ≤ n) (hE : e = n ∨ sMark t e = true) {st : Stk} : ∀ (j p : Nat) (nd : List Nd), e - p ≤ j → p < e → (∀ i, p ≤ i → i < e → sMark t i = false) → ∃ k, sIter t n k (p, false, st, nd) = (e, false, st, sAdd (sRes t e j p) st nd) := by
  intro j
  induction j with
  | zero => intro p nd h1 h2; omega
  | succ j ih =>
    intro p nd h1 h2 hm
    have h0 := hm p (Nat.le_refl _) h2
    have hT := sTok_text (st := st) (nd := nd) ht (show p < n by omega) h0
    have key : ∀ (q : Nat) (c : Int32), sTok t n (p, false, st, nd) = (q, false, st, sAdd [c] st nd) → sRes t e (j + 1) p = c :: sRes t e j q → p < q → q ≤ e → ∃ k, sIter t n k (p, false, st, nd) = (e, false, st, sAdd (sRes t e (j + 1) p) st nd) := by
      intro q c g1 g2 g3 g4
      rw [g2]
      by_cases eq : q = e
      · refine ⟨1, ?_⟩
        rw [sIter, g1, sIter, sRes_ge (by omega), eq]
      · obtain ⟨k, hk⟩ := ih q (sAdd [c] st nd) (by omega) (by omega) (fun i a b => hm i (by omega) b)
        refine ⟨k + 1, ?_⟩
        rw [sIter, g1, hk, sAdd_app]
        rfl
    cases hr : sRef t p with
    | none =>
      rw [hr] at hT
      exact key (p + 1) (t p) hT (sRes_one h2 hr) (by omega) (by omega)
    | some q =>
      obtain ⟨c, s⟩ := q
      rw [hr] at hT
      have hf := sRef_fit ht hr hE h2
      have := sRef_in hr
      exact key (p + s) (nI c) hT (sRes_fit h2 hr hf) (by omega) hf
/-! bounds -/
def stoM : List Nd → Nat
  | [] => 0
  | x :: r => stoM r + x.2.2.2.2.1.length + vLen x.2.2.2.2.2
def acM : List Nd → Nat
  | [] => 0
  | x :: r => acM r + x.2.2.2.2.2.length
def BD (n : Nat) (S : PS) : Prop := S.1 ≤ n ∧ S.2.2.2.length ≤ S.1 ∧ stoM S.2.2.2 ≤ S.1 ∧ 2 * acM S.2.2.2 ≤ S.1
theorem acN_le : ∀ nd, acN nd ≤ acM nd
  | [] => Nat.le_refl _
  | x :: r => by
    have := acN_le r
    have := sSort_len x.2.2.2.2.2
    simp only [acN, acM]
    omega
theorem cvN_le : ∀ nd, chN nd + vsN nd ≤ stoM nd
  | [] => Nat.le_refl _
  | x :: r => by
    have := cvN_le r
    have := sSort_vLen x.2.2.2.2.2
    simp only [chN, vsN, stoM]
    omega
theorem sAdd_bd (cs : List Int32) (st : Stk) (nd : List Nd) : (sAdd cs st nd).length ≤ nd.length + 1 ∧ stoM (sAdd cs st nd) = stoM nd + cs.length ∧ acM (sAdd cs st nd) = acM nd := by
  refine ⟨sAdd_len cs st nd, ?_, ?_⟩
  · unfold sAdd
    split
    · simp [stoM, vLen]
    · split
      · simp [stoM]; omega
      · simp [stoM, vLen]
  · unfold sAdd
    split
    · simp [acM]
    · split
      · simp [acM]
      · simp [acM]
theorem sEnd_bd (l : Nat) (st : Stk) (nd : List Nd) : (sEnd l st nd).2.length ≤ nd.length + 1 ∧ stoM (sEnd l st nd).2 = stoM nd ∧ acM (sEnd l st nd).2 = acM nd := by
  unfold sEnd
  split
  · exact ⟨by simp, rfl, rfl⟩
  · split
    · unfold sStart
      dsimp only
      cases sFull 15 (sPrep 15 st) with
      | true => exact ⟨by simp, rfl, rfl⟩
      | false => exact ⟨by simp, by simp [stoM, sNode, vLen], by simp [acM, sNode]⟩
    · exact ⟨by simp, rfl, rfl⟩
theorem sStart_bd (l : Nat) (at' : List At) (st : Stk) (nd : List Nd) : (sStart l at' st nd).2.2.length ≤ nd.length + 1 ∧ stoM (sStart l at' st nd).2.2 ≤ stoM nd + vLen at' ∧ acM (sStart l at' st nd).2.2 ≤ acM nd + at'.length := by
  unfold sStart
  dsimp only
  cases sFull l (sPrep l st) with
  | true => exact ⟨by simp, by simp, by simp⟩
  | false => exact ⟨by simp, by simp [stoM, sNode], by simp [acM, sNode]⟩
def rl : List (Nat × Nat × Nat) → Nat
  | [] => 0
  | q :: r => (q.2.2 - q.2.1) + rl r
theorem rl_app : ∀ (xs ys : List (Nat × Nat × Nat)), rl (xs ++ ys) = rl xs + rl ys
  | [], ys => by simp [rl]
  | q :: r, ys => by
    simp only [List.cons_append, rl, rl_app r ys]
    omega
theorem sVals_vLen (t : Nat → Int32) : ∀ acc, vLen (sVals t acc) ≤ rl acc
  | [] => Nat.le_refl _
  | q :: r => by
    have := sVals_vLen t r
    have h2 := sVal_len t q.2.1 q.2.2
    show (sVal t q.2.1 q.2.2).length + vLen (sVals t r) ≤ (q.2.2 - q.2.1) + rl r
    omega
theorem sVals_len (t : Nat → Int32) (acc : List (Nat × Nat × Nat)) : (sVals t acc).length = acc.length := by simp [sVals]
theorem sPutA_bd (acc : List (Nat × Nat × Nat)) (a : Option Nat) (b e : Nat) : (sPutA acc a b e).length ≤ acc.length + (if a.isSome = true then 1 else 0) ∧ rl (sPutA acc a b e) ≤ rl acc + (e - b) := by
  unfold sPutA
  cases a with
  | none => exact ⟨by simp, by simp⟩
  | some l =>
    dsimp only
    split
    · exact ⟨by simp, by omega⟩
    · refine ⟨by simp, ?_⟩
      rw [rl_app]
      simp [rl]
theorem sTagL_rl {t row : Nat → Int32} {n : Nat} (h : TX t n row) : ∀ (j p : Nat) (acc : List (Nat × Nat × Nat)) (r : Nat) (acc' : List (Nat × Nat × Nat)), sTagL t n j p acc = some (r, acc') → rl acc' + p < rl acc + r ∧ r ≤ n
  | 0, p, acc, r, acc', hs => by cases hs
  | j + 1, p, acc, r, acc', hs => by
    unfold sTagL at hs
    split at hs
    · cases hs
    · rename_i hp
      split at hs
      · cases hs
        omega
      · split at hs
        · have := sTagL_rl h j (p + 1) acc r acc' hs
          omega
        · have ih := sTagL_rl h j _ _ r acc' hs
          have hb := (sPutA_bd acc (sAl t n p) (sAt t n p).1 (sAt t n p).2.1).2
          have hx : (sAt t n p).2.1 - (sAt t n p).1 + p ≤ (sAt t n p).2.2 := by
            have h1 := sAe_le (t := t) (show p < n by omega)
            have h2 := sBl_le (t := t) (n := n) (p := sAe t n p) h1.2
            unfold sAt
            dsimp only
            split
            · rename_i hc
              have hr := t_lt h hc (by decide)
              have h3 := sVb_le h hr
              have h4 := sVe_le h hr
              show sVe t n _ - sVb t n _ + p ≤ sVn t n _
              unfold sVn
              split <;> omega
            · show 0 - 0 + p ≤ sBl t n _
              omega
          omega
/-- an attribute with a letter takes two characters, or the next one is a '/' or a '>' -/
theorem sAt_two {t row : Nat → Int32} {n p : Nat} (h : TX t n row) (hp : p < n) (ha : (sAl t n p).isSome = true) : p + 2 ≤ (sAt t n p).2.2 ∨ ((sAt t n p).2.2 = p + 1 ∧ (n ≤ p + 1 ∨ t (p + 1) = 47 ∨ t (p + 1) = 62)) := by
  unfold sAl at ha
  split at ha
  · rename_i hc
    have e := hc.1
    have h2 := sBl_le (t := t) (n := n) (p := p + 1) (by omega)
    unfold sAt
    dsimp only
    rw [e]
    split
    · rename_i hq
      have hr := t_lt h hq (by decide)
      have h3 := sVb_le h hr
      have h4 := sVe_le h hr
      refine Or.inl ?_
      show p + 2 ≤ sVn t n _
      unfold sVn
      split <;> omega
    · rename_i hq
      show p + 2 ≤ sBl t n (p + 1) ∨ (sBl t n (p + 1) = p + 1 ∧ _)
      by_cases g : sBl t n (p + 1) = p + 1
      · refine Or.inr ⟨g, ?_⟩
        by_cases hn : n ≤ p + 1
        · exact Or.inl hn
        · refine Or.inr ?_
          have h5 := sFind_at (fun i => decide (t i = 32) || decide (t i = 47) || decide (t i = 62) || decide (t i = 61)) (n - (p + 1)) (p + 1)
          unfold sAe at e
          rw [e] at h5
          have h6 := h5 (by omega)
          have h7 := sFind_at (fun i => !decide (t i = 32)) (n - (p + 1)) (p + 1)
          have g' := g
          unfold sBl at g'
          rw [g'] at h7
          have h8 := h7 (by omega)
          rw [g] at hq
          simp only [Bool.or_eq_true, decide_eq_true_eq] at h6
          simp only [Bool.not_eq_true', decide_eq_false_iff_not] at h8
          rcases h6 with ((q | q) | q) | q
          · exact absurd q h8
          · exact Or.inl q
          · exact Or.inr q
          · exact absurd q hq
      · exact Or.inl (by omega)
  · cases ha
theorem sTagL_ac {t row : Nat → Int32} {n : Nat} (h : TX t n row) : ∀ (j p : Nat) (acc : List (Nat × Nat × Nat)) (r : Nat) (acc' : List (Nat × Nat × Nat)), sTagL t n j p acc = some (r, acc') → 2 * acc'.length + p ≤ 2 * acc.length + r := by
  intro j
  induction j using Nat.strongRecOn with
  | ind j ih =>
    intro p acc r acc' hs
    cases j with
    | zero => cases hs
    | succ j =>
      unfold sTagL at hs
      split at hs
      · cases hs
      · rename_i hp
        split at hs
        · cases hs
          omega
        · split at hs
          · have := ih j (by omega) (p + 1) acc r acc' hs
            omega
          · have hb := (sPutA_bd acc (sAl t n p) (sAt t n p).1 (sAt t n p).2.1).1
            have hle := sAt_le h (show p < n by omega)
            cases ha : (sAl t n p).isSome with
            | false =>
              rw [ha] at hb
              simp at hb
              have := ih j (by omega) _ _ r acc' hs
              omega
            | true =>
              rw [ha] at hb
              simp at hb
              rcases sAt_two h (show p < n by omega) ha with q | ⟨q1, q2⟩
              · have := ih j (by omega) _ _ r acc' hs
                omega
              · rw [q1] at hs
                cases j with
                | zero => cases hs
                | succ j =>
                  unfold sTagL at hs
                  split at hs
                  · cases hs
                  · split at hs
                    · cases hs
                      omega
                    · rename_i h62
                      have h47 : t (p + 1) = 47 := by
                        rcases q2 with q | q | q
                        · omega
                        · exact q
                        · exact absurd q h62
                      rw [if_pos (Or.inr h47)] at hs
                      have := ih j (by omega) _ _ r acc' hs
                      omega
