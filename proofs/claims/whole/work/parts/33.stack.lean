/-! the class's list of open elements -/
def b2 (b : Bool) : Int32 := if b = true then 1 else 0
theorem b2_0 {b : Bool} : (b2 b = 0) = (b = false) := by cases b <;> simp [b2]
theorem b2_e {a b : Bool} : (b2 a = b2 b) = (a = b) := by cases a <;> cases b <;> simp [b2]
def KS (names foreigns : Nat → Int32) : Stk → Prop
  | [] => True
  | (l, f) :: r => names r.length = nI l ∧ l ≤ 26 ∧ foreigns r.length = b2 f ∧ KS names foreigns r
/-- the place of the top -/
def sIx : Stk → Int32
  | [] => -1
  | _ :: r => nI r.length
theorem sIx_pred (x : Nat × Bool) (r : Stk) (h : r.length < 2 ^ 31) : sIx (x :: r) + (-1) = sIx r := by
  cases r with
  | nil => show nI 0 + (-1) = -1; decide
  | cons y r => exact pk_m1 r.length
theorem sIx_len (st : Stk) (h : st.length < 2 ^ 31) : nI st.length - 1 = sIx st := by
  cases st with
  | nil => show nI 0 - 1 = -1; decide
  | cons y r => exact nI_pred r.length
theorem isForC {nm fr : Nat → Int32} {l : Nat} {f : Bool} {r : Stk} {N : Nat} (h : KS nm fr ((l, f) :: r)) (h1 : r.length < N) (h2 : N ≤ 8) : f_X2_isForeign (nI N) fr (nI r.length) = some (b2 f) := by
  unfold f_X2_isForeign
  rw [if_neg (nI_pos (by omega)), if_neg (nI_ge h1 (by omega)), pu_gi (by omega) (by decide), nI_clamp (by omega), h.2.2.1]
  cases f <;> rfl
theorem isForC0 {fr : Nat → Int32} {N : Nat} : f_X2_isForeign (nI N) fr (-1) = some 0 := by
  unfold f_X2_isForeign
  rw [if_pos (by decide)]
theorem isNamC {nm fr : Nat → Int32} {l m : Nat} {f : Bool} {r : Stk} {N : Nat} (h : KS nm fr ((l, f) :: r)) (hm : m ≤ 26) (h1 : r.length < N) (h2 : N ≤ 8) : f_X2_isNamed (nI N) nm (nI r.length) (nI m) = some (b2 (decide (l = m))) := by
  have hl := h.2.1
  unfold f_X2_isNamed
  rw [if_neg (nI_pos (by omega)), if_neg (nI_ge h1 (by omega)), pu_gi (by omega) (by decide), nI_clamp (by omega), h.1]
  simp (disch := omega) only [pu_e]
  by_cases e : l = m
  · simp [e, b2]
  · simp [e, b2]
theorem alienC {nm fr : Nat → Int32} {st : Stk} (h : KS nm fr st) (h8 : st.length ≤ 8) : f_X2_isAlien (nI st.length) nm fr = some (b2 (sAlien st)) := by
  unfold f_X2_isAlien
  rw [sIx_len st (by omega)]
  cases st with
  | nil =>
    show (f_X2_isForeign (nI 0) fr (-1)).bind _ = _
    rw [isForC0]
    rfl
  | cons x r =>
    obtain ⟨l, f⟩ := x
    have h9 : r.length + 1 ≤ 8 := h8
    rw [show sIx ((l, f) :: r) = nI r.length from rfl, show ((l, f) :: r).length = r.length + 1 from rfl, isForC (N := r.length + 1) h (by omega) h9]
    simp only [Option.bind_some, b2_0]
    cases f with
    | false => rfl
    | true =>
      rw [if_neg (by decide), show (5 : Int32) = nI 5 from rfl, isNamC (N := r.length + 1) h (by decide) (by omega) h9]
      simp only [Option.bind_some, b2_0, sAlien, Bool.true_and]
      by_cases e : l = 5 <;> simp [e, b2]
theorem tailC1 {nm fr : Nat → Int32} {N l : Nat} (hl : l ≤ 26) (hN : N ≤ 8) (f0 : Bool) : ∀ (s : Stk) (k : Nat), KS nm fr s → s.length ≤ N → s.length < k → f_X2_lastInTail_L18 (nI N) nm fr (nI l) k (b2 f0) (sIx s) = some (match sTail f0 l s with
    | none => -1
    | some r => nI r.length) := by
  intro s
  induction s with
  | nil =>
    intro k _ _ hk
    obtain ⟨k, rfl⟩ : ∃ g, k = g + 1 := ⟨k - 1, by omega⟩
    rw [f_X2_lastInTail_L18]
    rfl
  | cons x r ih =>
    obtain ⟨l', f'⟩ := x
    intro k h hs hk
    obtain ⟨k, rfl⟩ : ∃ g, k = g + 1 := ⟨k - 1, by omega⟩
    have hlen : r.length + 1 ≤ N := hs
    have hk2 : r.length + 1 < k + 1 := hk
    rw [f_X2_lastInTail_L18]
    show (if nI r.length < 0 then _ else _) = _
    rw [if_neg (nI_pos (by omega)), show sIx ((l', f') :: r) = nI r.length from rfl, isForC h (by omega) hN]
    simp only [Option.bind_some, b2_e]
    rw [isNamC h hl (by omega) hN]
    simp only [Option.bind_some, b2_0, sTail]
    by_cases e1 : f' = f0
    · simp only [e1, if_true]
      by_cases e2 : l' = l
      · simp only [e2, decide_true, if_true, Bool.true_eq_false, if_false]
      · simp only [e2, decide_false, if_true, if_false]
        have := ih k h.2.2.2 (by omega) (by omega)
        rw [show nI r.length + (-1) = sIx r from sIx_pred (l', f') r (by omega)]
        exact this
    · simp only [e1, if_false]
theorem tailC {nm fr : Nat → Int32} {st : Stk} {l : Nat} (h : KS nm fr st) (h8 : st.length ≤ 8) (hl : l ≤ 26) : f_X2_lastInTail (nI st.length) nm fr (nI l) = some (match sTail (sTop st) l st with
    | none => -1
    | some r => nI r.length) := by
  unfold f_X2_lastInTail
  rw [sIx_len st (by omega)]
  have ht : f_X2_isForeign (nI st.length) fr (sIx st) = some (b2 (sTop st)) := by
    cases st with
    | nil => exact isForC0
    | cons x r =>
      obtain ⟨l', f'⟩ := x
      exact isForC h (by simp) h8
  rw [ht]
  simp only [Option.bind_some]
  exact tailC1 hl h8 _ st 1000 h (Nat.le_refl _) (by omega)
theorem sScope_tail (l : Nat) : ∀ (s : Stk), sScope l l s = (sTail false l s).map (fun r => (l, r))
  | [] => rfl
  | (l', f') :: r => by
    unfold sScope sTail
    cases f' with
    | true => simp
    | false =>
      by_cases e : l' = l
      · simp [e]
      · simp [e, sScope_tail l r]
theorem sTail_top {l : Nat} {f : Bool} {s : Stk} (h : sTop s ≠ f) : sTail f l s = none := by
  cases s with
  | nil => rfl
  | cons x r =>
    obtain ⟨l', f'⟩ := x
    unfold sTail
    rw [if_neg (show ¬ f' = f from h)]
theorem scopeC {nm fr : Nat → Int32} {st : Stk} {l : Nat} (h : KS nm fr st) (h8 : st.length ≤ 8) (hl : l ≤ 26) : f_X2_lastInScope (nI st.length) nm fr (nI l) = some (match sTail false l st with
    | none => -1
    | some r => nI r.length) := by
  unfold f_X2_lastInScope
  rw [tailC h h8 hl, sIx_len st (by omega)]
  have ht : f_X2_isForeign (nI st.length) fr (sIx st) = some (b2 (sTop st)) := by
    cases st with
    | nil => exact isForC0
    | cons x r =>
      obtain ⟨l', f'⟩ := x
      exact isForC h (by simp) h8
  rw [ht]
  simp only [Option.bind_some, b2_0]
  cases hs : sTop st with
  | false => simp only [if_true]
  | true =>
    rw [sTail_top (f := false) (by rw [hs]; decide)]
    rfl
theorem KS.tail {nm fr : Nat → Int32} : ∀ {s r : Stk} {f : Bool} {l : Nat}, KS nm fr s → sTail f l s = some r → KS nm fr r ∧ r.length < s.length
  | [], r, f, l, _, h => by cases h
  | (l', f') :: s, r, f, l, hk, h => by
    unfold sTail at h
    split at h
    · split at h
      · cases h
        exact ⟨hk.2.2.2, by simp⟩
      · have := KS.tail hk.2.2.2 h
        exact ⟨this.1, by simp; omega⟩
    · cases h
theorem closeC0 {N : Nat} : f_X2_close (nI N) (-1) = some (nI N) := by
  unfold f_X2_close
  rw [if_pos (by decide)]
theorem closeC {N k : Nat} (h : k < N) (hN : N ≤ 8) : f_X2_close (nI N) (nI k) = some (nI k) := by
  unfold f_X2_close
  rw [if_neg (nI_pos (by omega)), if_neg (nI_ge h (by omega))]
