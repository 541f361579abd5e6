/-! the class's builder: what is open before a START, elements put -/
def SI : Stk → Prop
  | [] => True
  | (_, f) :: r => (f = false → sAlien r = false) ∧ SI r
def sS1 (l : Nat) (st : Stk) : Stk := if sBlock l = true then sLeave st else st
theorem sTail_lt {f : Bool} {l : Nat} : ∀ {s r : Stk}, sTail f l s = some r → r.length < s.length
  | [], r, h => by cases h
  | (l', f') :: s, r, h => by
    unfold sTail at h
    split at h
    · split at h
      · cases h
        simp
      · have := sTail_lt h
        simp
        omega
    · cases h
theorem SI.tail {f : Bool} {l : Nat} : ∀ {s r : Stk}, SI s → sTail f l s = some r → SI r
  | [], r, _, h => by cases h
  | (l', f') :: s, r, hs, h => by
    unfold sTail at h
    split at h
    · split at h
      · cases h
        exact hs.2
      · exact SI.tail hs.2 h
    · cases h
theorem SI.tailF {l : Nat} : ∀ {s r : Stk}, SI s → sTail false l s = some r → sAlien r = false
  | [], r, _, h => by cases h
  | (l', f') :: s, r, hs, h => by
    unfold sTail at h
    split at h
    · rename_i hf
      split at h
      · cases h
        exact hs.1 hf
      · exact SI.tailF hs.2 h
    · cases h
theorem SI.leave : ∀ {s : Stk}, SI s → SI (sLeave s)
  | [], _ => trivial
  | (l, f) :: r, h => by
    unfold sLeave
    split
    · exact SI.leave h.2
    · exact h
theorem sLeave_len : ∀ (s : Stk), (sLeave s).length ≤ s.length
  | [] => Nat.le_refl _
  | x :: r => by
    have := sLeave_len r
    unfold sLeave
    split
    · simp; omega
    · simp
def sShutT (l : Nat) (s : Stk) : Stk := match sTail false l s with
  | none => s
  | some r => r
theorem sShutT_eq (l : Nat) (s : Stk) : sShut (sScope l l s) s = sShutT l s := by
  rw [sScope_tail]
  unfold sShutT
  cases sTail false l s <;> rfl
theorem sShutT_SI {l : Nat} {s : Stk} (h : SI s) : SI (sShutT l s) := by
  unfold sShutT
  split
  · exact h
  · rename_i r hr
    exact h.tail hr
theorem sShutT_al {l : Nat} {s : Stk} (h : SI s) (ha : sAlien s = false) : sAlien (sShutT l s) = false := by
  unfold sShutT
  split
  · exact ha
  · rename_i r hr
    exact h.tailF hr
theorem sShutT_len (l : Nat) (s : Stk) : (sShutT l s).length ≤ s.length := by
  unfold sShutT
  split
  · exact Nat.le_refl _
  · rename_i r hr
    exact Nat.le_of_lt (sTail_lt hr)
/-- an l that is nearer than a u -/
def sItem (s : Stk) : Stk := match sTail false 11 s, sTail false 20 s with
  | none, _ => s
  | some r, none => r
  | some r, some q => if q.length < r.length then r else s
theorem sItem_eq : ∀ (s : Stk), (match sScope 11 20 s with
    | some (11, r) => some r
    | _ => none) = (match sTail false 11 s, sTail false 20 s with
    | none, _ => none
    | some r, none => some r
    | some r, some q => if q.length < r.length then some r else none)
  | [] => rfl
  | (l, f) :: s => by
    have ih := sItem_eq s
    unfold sScope sTail
    cases f with
    | true => simp
    | false =>
      by_cases e1 : l = 11
      · subst e1
        simp only [Bool.false_eq_true, if_false, if_true, true_or, show ¬ (11 : Nat) = 20 by decide]
        cases hq : sTail false 20 s with
        | none => rfl
        | some q =>
          have := sTail_lt hq
          show some s = if q.length < s.length then some s else none
          rw [if_pos this]
      · by_cases e2 : l = 20
        · subst e2
          simp only [Bool.false_eq_true, if_false, if_true, or_true, show ¬ (20 : Nat) = 11 by decide]
          cases hq : sTail false 11 s with
          | none => rfl
          | some q =>
            have := sTail_lt hq
            show none = if s.length < q.length then some q else none
            rw [if_neg (by omega)]
        · simp only [Bool.false_eq_true, if_false, if_true, e1, e2, or_self]
          exact ih
theorem sItem_eq2 (s : Stk) : (match sScope 11 20 s with
    | some (11, r) => r
    | _ => s) = sItem s := by
  have h := sItem_eq s
  have e1 : (match sScope 11 20 s with
    | some (11, r) => r
    | _ => s) = (match sScope 11 20 s with
    | some (11, r) => some r
    | _ => none).getD s := by split <;> rfl
  rw [e1, h]
  unfold sItem
  split <;> try rfl
  split <;> rfl
theorem sItem_or (s : Stk) : sItem s = s ∨ ∃ r, sTail false 11 s = some r ∧ sItem s = r := by
  unfold sItem
  split
  · exact Or.inl rfl
  · rename_i r h1 h2
    exact Or.inr ⟨r, h1, rfl⟩
  · rename_i r q h1 h2
    split
    · exact Or.inr ⟨r, h1, rfl⟩
    · exact Or.inl rfl
def sClose (l : Nat) (s : Stk) : Stk :=
  let s2 := if sBlock l = true then sShutT 15 s else s
  let s3 := if l = 11 then sItem s2 else s2
  if l = 0 then sShutT 0 s3 else s3
theorem sPrep_eq (l : Nat) (st : Stk) : sPrep l st = if sAlien (sS1 l st) = true then sS1 l st else sClose l (sS1 l st) := by
  unfold sPrep sClose sS1
  simp only [sShutT_eq, ← sItem_eq2]
  rfl
theorem SI.s1 {l : Nat} {st : Stk} (h : SI st) : SI (sS1 l st) := by
  unfold sS1
  split
  · exact h.leave
  · exact h
theorem sItem_SI {s : Stk} (h : SI s) : SI (sItem s) := by
  rcases sItem_or s with e | ⟨r, h1, e⟩
  · rw [e]; exact h
  · rw [e]; exact h.tail h1
theorem sItem_al {s : Stk} (h : SI s) (ha : sAlien s = false) : sAlien (sItem s) = false := by
  rcases sItem_or s with e | ⟨r, h1, e⟩
  · rw [e]; exact ha
  · rw [e]; exact h.tailF h1
theorem sItem_len (s : Stk) : (sItem s).length ≤ s.length := by
  rcases sItem_or s with e | ⟨r, h1, e⟩
  · rw [e]; exact Nat.le_refl _
  · rw [e]; exact Nat.le_of_lt (sTail_lt h1)
theorem sClose_all {l : Nat} {s : Stk} (h : SI s) (ha : sAlien s = false) : SI (sClose l s) ∧ sAlien (sClose l s) = false ∧ (sClose l s).length ≤ s.length := by
  unfold sClose
  dsimp only
  have a1 : SI (if sBlock l = true then sShutT 15 s else s) ∧ sAlien (if sBlock l = true then sShutT 15 s else s) = false ∧ (if sBlock l = true then sShutT 15 s else s).length ≤ s.length := by
    split
    · exact ⟨sShutT_SI h, sShutT_al h ha, sShutT_len _ _⟩
    · exact ⟨h, ha, Nat.le_refl _⟩
  revert a1
  generalize (if sBlock l = true then sShutT 15 s else s) = s2
  intro a1
  have a2 : SI (if l = 11 then sItem s2 else s2) ∧ sAlien (if l = 11 then sItem s2 else s2) = false ∧ (if l = 11 then sItem s2 else s2).length ≤ s.length := by
    split
    · exact ⟨sItem_SI a1.1, sItem_al a1.1 a1.2.1, Nat.le_trans (sItem_len _) a1.2.2⟩
    · exact a1
  revert a2
  generalize (if l = 11 then sItem s2 else s2) = s3
  intro a2
  show SI (if l = 0 then sShutT 0 s3 else s3) ∧ sAlien (if l = 0 then sShutT 0 s3 else s3) = false ∧ (if l = 0 then sShutT 0 s3 else s3).length ≤ s.length
  split
  · exact ⟨sShutT_SI a2.1, sShutT_al a2.1 a2.2.1, Nat.le_trans (sShutT_len _ _) a2.2.2⟩
  · exact a2
theorem sS1_len (l : Nat) (st : Stk) : (sS1 l st).length ≤ st.length := by
  unfold sS1
  split
  · exact sLeave_len _
  · exact Nat.le_refl _
theorem sPrep_all {l : Nat} {st : Stk} (h : SI st) : SI (sPrep l st) ∧ sAlien (sPrep l st) = sAlien (sS1 l st) ∧ (sPrep l st).length ≤ st.length := by
  rw [sPrep_eq]
  have h1 := h.s1 (l := l)
  have h2 := sS1_len l st
  cases ha : sAlien (sS1 l st) with
  | true => exact ⟨h1, ha, h2⟩
  | false =>
    have := sClose_all (l := l) h1 ha
    simp only [Bool.false_eq_true, if_false]
    exact ⟨this.1, this.2.1, Nat.le_trans this.2.2 h2⟩
/-! the class does so -/
theorem blockC {l : Nat} (hl : l ≤ 26) : f_X9_isBlock (nI l) = some (b2 (sBlock l)) := by
  have : ∀ l, l < 27 → f_X9_isBlock (nI l) = some (b2 (sBlock l)) := by decide +kernel
  exact this l (by omega)
theorem emptyC {l : Nat} (hl : l ≤ 26) : f_X9_isEmptyName (nI l) = some (b2 (sEmpty l)) := by
  have : ∀ l, l < 27 → f_X9_isEmptyName (nI l) = some (b2 (sEmpty l)) := by decide +kernel
  exact this l (by omega)
theorem KS.sub {nm fr : Nat → Int32} {s : Stk} : ∀ {a : Stk}, KS nm fr (a ++ s) → KS nm fr s
  | [], h => h
  | (_, _) :: a, h => KS.sub (a := a) h.2.2.2
theorem leaveC1 {nm fr : Nat → Int32} : ∀ (s : Stk) (v f : Nat), KS nm fr s → s.length + v ≤ 8 → s.length < f → f_X0_leaveAliens_L2 nm fr f (nI s.length) (nI v) = some (nI (sLeave s).length) ∧ KS nm fr (sLeave s) := by
  intro s
  induction s with
  | nil =>
    intro v f h h8 hf
    obtain ⟨f, rfl⟩ : ∃ g, f = g + 1 := ⟨f - 1, by omega⟩
    rw [f_X0_leaveAliens_L2, alienC h (by simp)]
    simp only [Option.bind_some]
    refine ⟨?_, trivial⟩
    split <;> rfl
  | cons x r ih =>
    intro v f h h8 hf
    obtain ⟨f, rfl⟩ : ∃ g, f = g + 1 := ⟨f - 1, by omega⟩
    have hlen : (x :: r).length = r.length + 1 := rfl
    rw [hlen] at h8 hf
    rw [f_X0_leaveAliens_L2, alienC h (by omega), if_neg (show ¬ (8 : Int32) ≤ nI v from nI_ge (b := 8) (by omega) (by decide)), Option.bind_some]
    simp only [b2_0, f_X2_size, Option.bind_some]
    unfold sLeave
    cases ha : sAlien (x :: r) with
    | false => simp only [if_true, Bool.false_eq_true, if_false]; exact ⟨trivial, h⟩
    | true =>
      simp only [Bool.true_eq_false, if_false, if_true]
      rw [hlen, nI_pred, closeC (by omega) (by omega), Option.bind_some, nI_1]
      exact ih (v + 1) f (KS.sub (a := [x]) h) (by omega) (by omega)
theorem s1C {nm fr : Nat → Int32} {st : Stk} (h : KS nm fr st) (h8 : st.length ≤ 8) : f_X0_leaveAliens (nI st.length) nm fr = some (nI (sLeave st).length) ∧ KS nm fr (sLeave st) := by
  have := leaveC1 st 0 1000 h (by omega) (by omega)
  unfold f_X0_leaveAliens
  rw [show (0 : Int32) = nI 0 from rfl, this.1]
  exact ⟨rfl, this.2⟩
theorem shutC {nm fr : Nat → Int32} {s : Stk} {l : Nat} (h : KS nm fr s) (h8 : s.length ≤ 8) (hl : l ≤ 26) : ((f_X2_lastInScope (nI s.length) nm fr (nI l)).bind (fun q => f_X2_close (nI s.length) q)) = some (nI (sShutT l s).length) ∧ KS nm fr (sShutT l s) := by
  rw [scopeC h h8 hl, Option.bind_some]
  unfold sShutT
  cases hr : sTail false l s with
  | none => exact ⟨closeC0, h⟩
  | some r =>
    have := h.tail hr
    exact ⟨closeC this.2 h8, this.1⟩
theorem bind2 {α β γ : Type} {x : Option α} {g : α → Option β} {k : β → Option γ} {o : β} (h : x.bind g = some o) : x.bind (fun q => (g q).bind k) = k o := by
  cases x with
  | none => cases h
  | some a =>
    rw [Option.bind_some] at h ⊢
    rw [h, Option.bind_some]
theorem nI_m1 {k : Nat} (h : k < 2 ^ 31) : (-1 : Int32) ≤ nI k := by
  rw [Int32.le_iff_toInt_le, nI_toInt h, show (-1 : Int32).toInt = -1 by decide]; omega
theorem nI_m1' {k : Nat} (h : k < 2 ^ 31) : ¬ nI k ≤ (-1 : Int32) := by
  rw [Int32.le_iff_toInt_le, nI_toInt h, show (-1 : Int32).toInt = -1 by decide]; omega
theorem itemC {nm fr : Nat → Int32} {s : Stk} (h : KS nm fr s) (h8 : s.length ≤ 8) : f_X0_closeBefore_L42 nm fr (nI 11) (nI s.length) = some (nI (sItem s).length) ∧ KS nm fr (sItem s) := by
  unfold f_X0_closeBefore_L42
  rw [if_pos (show nI 11 = 11 from rfl), show (11 : Int32) = nI 11 from rfl, show (20 : Int32) = nI 20 from rfl, scopeC h h8 (by decide), scopeC h h8 (by decide)]
  simp only [Option.bind_some]
  unfold sItem
  cases h11 : sTail false 11 s with
  | none =>
    cases h20 : sTail false 20 s with
    | none => exact ⟨by rw [if_pos (show (-1 : Int32) ≤ -1 by decide)], h⟩
    | some q =>
      have := h.tail h20
      exact ⟨by rw [if_pos (show (-1 : Int32) ≤ nI q.length from nI_m1 (by omega))], h⟩
  | some r =>
    have hr := h.tail h11
    cases h20 : sTail false 20 s with
    | none =>
      refine ⟨?_, hr.1⟩
      show (if nI r.length ≤ -1 then _ else _) = _
      rw [if_neg (nI_m1' (by omega)), closeC hr.2 h8, Option.bind_some]
    | some q =>
      have hq := h.tail h20
      show (if nI r.length ≤ nI q.length then _ else _) = some (nI (if q.length < r.length then r else s).length) ∧ KS nm fr (if q.length < r.length then r else s)
      by_cases c : q.length < r.length
      · rw [if_neg (nI_ge c (by omega)), closeC hr.2 h8, if_pos c, Option.bind_some]
        exact ⟨rfl, hr.1⟩
      · rw [if_pos (nI_le (by omega) (by omega)), if_neg c]
        exact ⟨rfl, h⟩
