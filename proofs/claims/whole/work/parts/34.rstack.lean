/-! the reference's list of open elements: places of nodes; ix: which, the top first -/
def RS (op le fo : Nat → Int32) (base : Nat) : Stk → List Nat → Prop
  | [], [] => True
  | (l, f) :: r, i :: is => op r.length = nI (base + i) ∧ i < 256 ∧ le (base + i) = nI l ∧ l ≤ 26 ∧ fo (base + i) = b2 f ∧ (∀ j ∈ is, j < i) ∧ RS op le fo base r is
  | _, _ => False
theorem RS.cons {op le fo : Nat → Int32} {base : Nat} {x : Nat × Bool} {r : Stk} {ix : List Nat} (h : RS op le fo base (x :: r) ix) : ∃ i is, ix = i :: is ∧ op r.length = nI (base + i) ∧ i < 256 ∧ le (base + i) = nI x.1 ∧ x.1 ≤ 26 ∧ fo (base + i) = b2 x.2 ∧ (∀ j ∈ is, j < i) ∧ RS op le fo base r is := by
  obtain ⟨l, f⟩ := x
  cases ix with
  | nil => exact absurd h (by simp [RS])
  | cons i is => exact ⟨i, is, rfl, h⟩
theorem topR0 {op : Nat → Int32} : f_X10_top (nI 0) op = some (-1) := rfl
theorem topR {op le fo : Nat → Int32} {base : Nat} {x : Nat × Bool} {r : Stk} {i : Nat} {is : List Nat} (h : RS op le fo base (x :: r) (i :: is)) (h8 : r.length < 8) : f_X10_top (nI (r.length + 1)) op = some (nI (base + i)) := by
  obtain ⟨l, f⟩ := x
  unfold f_X10_top
  rw [if_neg (show ¬ nI (r.length + 1) = 0 from nI_ne0 (by omega) (by omega)), nI_pred, pu_gi h8 (by decide), nI_clamp (by omega), h.1]
theorem alienR {op le fo : Nat → Int32} {base : Nat} {st : Stk} {ix : List Nat} (h : RS op le fo base st ix) (h8 : st.length ≤ 8) (hb : base ≤ 256) : f_X10_alien (nI st.length) le fo op = some (b2 (sAlien st)) := by
  unfold f_X10_alien
  cases st with
  | nil => rfl
  | cons x r =>
    obtain ⟨i, is, rfl, g1, g2, g3, g4, g5, g6, g7⟩ := h.cons
    have hr : r.length < 8 := h8
    show (if nI (r.length + 1) ≤ 0 then _ else _) = _
    rw [if_neg (show ¬ nI (r.length + 1) ≤ 0 from nI_nle (by omega) (by omega))]
    show ms_gi (nI (r.length + 1) - 1) 8 (ms_gi (op (nI (r.length + 1) - 1).toNatClampNeg) 512 (if fo (op (nI (r.length + 1) - 1).toNatClampNeg).toNatClampNeg = 0 then some 0 else ms_gi (nI (r.length + 1) - 1) 8 (ms_gi (op (nI (r.length + 1) - 1).toNatClampNeg) 512 (if le (op (nI (r.length + 1) - 1).toNatClampNeg).toNatClampNeg = 5 then some 0 else some 1)))) = _
    rw [nI_pred, nI_clamp (by omega), g1, nI_clamp (by omega), g5, g3, pu_gi hr (by decide), pu_gi (by omega) (by decide), pu_gi hr (by decide), pu_gi (by omega) (by decide)]
    obtain ⟨l, f⟩ := x
    simp only [b2_0]
    cases f with
    | false => rfl
    | true =>
      rw [if_neg (by decide), show (5 : Int32) = nI 5 from rfl]
      have h26 : l ≤ 26 := g4
      rw [show nI (l, true).1 = nI l from rfl]
      simp (disch := omega) only [pu_e]
      by_cases e : l = 5 <;> simp [e, b2, sAlien]
theorem scopeR1 {op le fo : Nat → Int32} {base l m : Nat} (hb : base ≤ 256) (hl : l ≤ 26) (hm : m ≤ 26) (N : Int32) : ∀ (s : Stk) (ix : List Nat) (k : Nat), RS op le fo base s ix → s.length ≤ 8 → s.length < k → f_X10_inScope_L7 N le fo op (nI l) (nI m) k (sIx s) = some (match sScope l m s with
    | none => -1
    | some (_, r) => nI r.length) := by
  intro s
  induction s with
  | nil =>
    intro ix k _ _ hk
    obtain ⟨k, rfl⟩ : ∃ g, k = g + 1 := ⟨k - 1, by omega⟩
    rw [f_X10_inScope_L7]
    rfl
  | cons x r ih =>
    intro ix k h hs hk
    obtain ⟨k, rfl⟩ : ∃ g, k = g + 1 := ⟨k - 1, by omega⟩
    obtain ⟨i, is, rfl, g1, g2, g3, g4, g5, g6, g7⟩ := h.cons
    obtain ⟨l', f'⟩ := x
    have hr : r.length < 8 := hs
    have hk2 : r.length + 1 < k + 1 := hk
    have h26 : l' ≤ 26 := g4
    have g3' : le (base + i) = nI l' := g3
    have g5' : fo (base + i) = b2 f' := g5
    rw [f_X10_inScope_L7, show sIx ((l', f') :: r) = nI r.length from rfl, if_neg (nI_pos (by omega)), nI_clamp (by omega), g1, nI_clamp (by omega), g5', g3']
    simp (disch := omega) only [pu_gi, pu_e, b2_0]
    unfold sScope
    cases f' with
    | true => rfl
    | false =>
      simp only [if_true, Bool.false_eq_true, if_false]
      by_cases e1 : l' = l
      · rw [if_pos e1, if_pos (Or.inl e1)]
      · rw [if_neg e1]
        by_cases e2 : l' = m
        · rw [if_pos e2, if_pos (Or.inr e2)]
        · rw [if_neg e2, if_neg (fun q => q.elim e1 e2), show nI r.length + (-1) = sIx r from sIx_pred (l', false) r (by omega)]
          exact ih is k g7 (by omega) (by omega)
theorem scopeR {op le fo : Nat → Int32} {base l m : Nat} {st : Stk} {ix : List Nat} (h : RS op le fo base st ix) (h8 : st.length ≤ 8) (hb : base ≤ 256) (hl : l ≤ 26) (hm : m ≤ 26) : f_X10_inScope (nI st.length) le fo op (nI l) (nI m) = some (match sScope l m st with
    | none => -1
    | some (_, r) => nI r.length) := by
  unfold f_X10_inScope
  rw [sIx_len st (by omega)]
  exact scopeR1 hb hl hm _ st ix 1000 h h8 (by omega)
/-- below an element that is closed the list is as it was -/
theorem RS.drop {op le fo : Nat → Int32} {base : Nat} : ∀ {s : Stk} {ix : List Nat} (k : Nat), RS op le fo base s ix → RS op le fo base (s.drop k) (ix.drop k)
  | s, ix, 0, h => h
  | [], [], k + 1, _ => by simp [RS]
  | x :: r, ix, k + 1, h => by
    obtain ⟨i, is, rfl, -, -, -, -, -, -, g7⟩ := h.cons
    exact RS.drop k g7
theorem sScope_drop {l m l' : Nat} : ∀ {s r : Stk}, sScope l m s = some (l', r) → ∃ k, r = s.drop k ∧ 0 < k ∧ k ≤ s.length
  | [], r, h => by cases h
  | (a, f) :: s, r, h => by
    unfold sScope at h
    split at h
    · cases h
    · split at h
      · cases h
        exact ⟨1, rfl, by decide, by simp⟩
      · obtain ⟨k, h1, h2, h3⟩ := sScope_drop h
        exact ⟨k + 1, h1, by omega, by simp; omega⟩
theorem sTail_drop {f : Bool} {l : Nat} : ∀ {s r : Stk}, sTail f l s = some r → ∃ k, r = s.drop k ∧ 0 < k ∧ k ≤ s.length
  | [], r, h => by cases h
  | (a, f') :: s, r, h => by
    unfold sTail at h
    split at h
    · split at h
      · cases h
        exact ⟨1, rfl, by decide, by simp⟩
      · obtain ⟨k, h1, h2, h3⟩ := sTail_drop h
        exact ⟨k + 1, h1, by omega, by simp; omega⟩
    · cases h
