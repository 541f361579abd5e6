/-! elements put by the class -/
theorem cb42 {nm fr : Nat → Int32} {l : Nat} {v : Int32} (hl : l ≤ 26) (h : ¬ l = 11) : f_X0_closeBefore_L42 nm fr (nI l) v = some v := by
  unfold f_X0_closeBefore_L42
  rw [if_neg (show ¬ nI l = 11 from fun q => h (by rw [show (11 : Int32) = nI 11 from rfl, pu_e (by omega) (by decide)] at q; exact q))]
theorem cb23 {nm fr : Nat → Int32} {l : Nat} {s : Stk} (hl : l ≤ 26) (h : KS nm fr s) (h8 : s.length ≤ 8) : f_X0_closeBefore_L23 nm fr (nI l) (nI s.length) = some (nI (if l = 0 then sShutT 0 (if l = 11 then sItem s else s) else (if l = 11 then sItem s else s)).length) ∧ KS nm fr (if l = 0 then sShutT 0 (if l = 11 then sItem s else s) else (if l = 11 then sItem s else s)) := by
  unfold f_X0_closeBefore_L23
  by_cases h0 : l = 0
  · subst h0
    have := shutC (l := 0) h h8 (by decide)
    rw [if_pos (show nI 0 = 0 from rfl), if_pos rfl, if_neg (show ¬ (0 : Nat) = 11 by decide), show (0 : Int32) = nI 0 from rfl, bind2 this.1, cb42 (by decide) (by decide)]
    exact ⟨rfl, this.2⟩
  · rw [if_neg (show ¬ nI l = 0 from nI_ne0 (by omega) (by omega)), if_neg h0]
    by_cases h11 : l = 11
    · subst h11
      rw [if_pos rfl]
      exact itemC h h8
    · rw [if_neg h11, cb42 hl h11]
      exact ⟨rfl, h⟩
theorem closeBeforeC {nm fr : Nat → Int32} {l : Nat} {s : Stk} (hl : l ≤ 26) (h : KS nm fr s) (h8 : s.length ≤ 8) : f_X0_closeBefore (nI s.length) nm fr (nI l) = some (nI (sClose l s).length) ∧ KS nm fr (sClose l s) := by
  unfold f_X0_closeBefore sClose
  rw [blockC hl, Option.bind_some]
  simp only [b2_0]
  cases hb : sBlock l with
  | false =>
    simp only [if_true, Bool.false_eq_true, if_false]
    exact cb23 hl h h8
  | true =>
    simp only [Bool.true_eq_false, if_false, if_true]
    have := shutC (l := 15) h h8 (by decide)
    rw [show (15 : Int32) = nI 15 from rfl, bind2 this.1]
    exact cb23 hl this.2 (Nat.le_trans (sShutT_len _ _) h8)
theorem isFullC {N : Nat} (h : N ≤ 8) : f_X2_isFull (nI N) = some (b2 (N == 8)) := by
  unfold f_X2_isFull
  rw [show (8 : Int32) = nI 8 from rfl]
  simp (disch := omega) only [pu_m]
  by_cases e : N = 8
  · rw [if_neg (by omega)]; simp [e, b2]
  · rw [if_pos (by omega)]; simp [e, b2]
theorem openAddC {N l : Nat} (h : N < 8) (nm fr : Nat → Int32) (f : Bool) : f_X2_add (nI N) nm fr (nI l) (b2 f) = some (nI (N + 1), upd nm N (nI l), upd fr N (b2 f)) := by
  unfold f_X2_add
  rw [if_neg (show ¬ (8 : Int32) ≤ nI N from nI_ge (b := 8) h (by decide)), pu_gi h (by decide), pu_gi h (by decide), nI_clamp (by omega), nI_1, pu_narb (by cases f <;> simp [b2])]
theorem addElC {N a l d : Nat} (hN : N < 200) (hl : l ≤ 26) (hd : d ≤ 8) (cd bg en : Nat → Int32) (f : Bool) : f_X7_addElement (nI N) (nI a) cd bg en (nI l) (nI d) (b2 f) = some (nI (N + 1), upd cd N (nI (cdN (3, l, d, f, [], []))), upd bg N (nI a), upd en N (nI a), nI N) := by
  unfold f_X7_addElement f_X7_addElement_L26
  rw [code3 hl hd]
  have h4 := code4 (m := 3 + 4 * l + 128 * d) (by omega) f
  have e : nI (3 + 4 * l + 128 * d + (if f = true then 4096 else 0)) = nI (cdN (3, l, d, f, [], [])) := rfl
  rw [e] at h4
  cases f with
  | false =>
    rw [if_pos (show b2 false = 0 from rfl)]
    have h4' : nI (3 + 4 * l + 128 * d) ||| 0 = nI (cdN (3, l, d, false, [], [])) := h4
    rw [h4', addNodeC hN]
    rfl
  | true =>
    rw [if_neg (show ¬ b2 true = 0 by decide)]
    have h4' : nI (3 + 4 * l + 128 * d) ||| 4096 = nI (cdN (3, l, d, true, [], [])) := h4
    rw [h4', addNodeC hN]
    rfl
/-- what putElement answers -/
def oPut (N a l : Nat) (s : Stk) (cd bg en nm fr : Nat → Int32) : Int32 × (Nat → Int32) × (Nat → Int32) × (Nat → Int32) × Int32 × (Nat → Int32) × (Nat → Int32) × Int32 :=
  if sFull l s = true then (nI N, cd, bg, en, nI s.length, nm, fr, -1)
  else (nI (N + 1), upd cd N (nI (cdN (sNode l s []))), upd bg N (nI a), upd en N (nI a), (if sStays l s = true then nI (s.length + 1) else nI s.length), (if sStays l s = true then upd nm s.length (nI l) else nm), (if sStays l s = true then upd fr s.length (b2 (sFor l s)) else fr), nI N)
theorem put76 {N a l : Nat} {s : Stk} (hN : N < 200) (hl : l ≤ 26) (h8 : s.length ≤ 8) (cd bg en nm fr : Nat → Int32) (hf : sFull l s = false) : f_X0_putElement_L76 (nI a) (nI l) (nI N) cd bg en (nI s.length) nm fr (b2 (sStays l s)) (b2 (sFor l s)) = some (oPut N a l s cd bg en nm fr) := by
  unfold f_X0_putElement_L76 oPut
  rw [hf]
  simp only [f_X0_depth, f_X2_size, Option.bind_some, Bool.false_eq_true, if_false]
  rw [addElC hN hl h8, Option.bind_some]
  simp only [b2_0]
  cases hs : sStays l s with
  | false =>
    simp only [if_true, Bool.false_eq_true, if_false]
    rfl
  | true =>
    have : s.length < 8 := by
      unfold sFull at hf
      rw [hs] at hf
      simp at hf
      omega
    simp only [Bool.true_eq_false, if_false, if_true]
    rw [openAddC this]
    rfl
theorem put61 {N a l : Nat} {s : Stk} (hN : N < 200) (hl : l ≤ 26) (h8 : s.length ≤ 8) (cd bg en nm fr : Nat → Int32) (hf : sFull l s = false) : f_X0_putElement_L61 (nI a) (nI l) (nI N) cd bg en (nI s.length) nm fr (b2 (sAlien s)) (b2 (sStays l s)) = some (oPut N a l s cd bg en nm fr) := by
  have h76 := put76 (a := a) hN hl h8 cd bg en nm fr hf
  unfold f_X0_putElement_L61 f_X0_putElement_L71
  simp only [b2_0]
  rw [show (21 : Int32) = nI 21 from rfl]
  simp (disch := omega) only [pu_e]
  cases ha : sAlien s with
  | true =>
    have e : sFor l s = true := by unfold sFor; rw [ha]; simp
    rw [e] at h76
    simp only [Bool.true_eq_false, if_false]
    exact h76
  | false =>
    simp only [if_true]
    by_cases e21 : l = 21
    · have e : sFor l s = true := by unfold sFor; rw [e21]; rfl
      rw [e] at h76
      rw [if_pos e21]
      exact h76
    · have e : sFor l s = false := by unfold sFor; rw [ha]; simp [e21]
      rw [e] at h76
      rw [if_neg e21]
      exact h76
theorem put44 {N a l : Nat} {s : Stk} (hN : N < 200) (hl : l ≤ 26) (h8 : s.length ≤ 8) (cd bg en nm fr : Nat → Int32) : f_X0_putElement_L44 (nI a) (nI l) (nI N) cd bg en (nI s.length) nm fr (b2 (sAlien s)) (b2 (sStays l s)) = some (oPut N a l s cd bg en nm fr) := by
  unfold f_X0_putElement_L44
  rw [isFullC h8, Option.bind_some]
  simp only [b2_0]
  cases hs : sStays l s with
  | false =>
    have hf : sFull l s = false := by unfold sFull; rw [hs]; rfl
    rw [if_pos rfl, ← hs]
    exact put61 hN hl h8 cd bg en nm fr hf
  | true =>
    rw [if_neg (show ¬ true = false by decide)]
    cases h9 : (s.length == 8) with
    | false =>
      have hf : sFull l s = false := by unfold sFull; rw [h9]; simp
      rw [if_pos rfl, ← hs]
      exact put61 hN hl h8 cd bg en nm fr hf
    | true =>
      have hf : sFull l s = true := by unfold sFull; rw [h9, hs]; rfl
      rw [if_neg (show ¬ true = false by decide)]
      unfold oPut
      rw [if_pos hf]
theorem put28 {N a l : Nat} {s : Stk} (hN : N < 200) (hl : l ≤ 26) (h8 : s.length ≤ 8) (cd bg en nm fr : Nat → Int32) : f_X0_putElement_L28 (nI a) (nI l) (nI N) cd bg en (nI s.length) nm fr (b2 (sAlien s)) = some (oPut N a l s cd bg en nm fr) := by
  have h44 := put44 (a := a) hN hl h8 cd bg en nm fr
  unfold f_X0_putElement_L28 f_X0_putElement_L39
  rw [emptyC hl, Option.bind_some]
  simp only [b2_0]
  cases ha : sAlien s with
  | true =>
    have e : sStays l s = true := by unfold sStays; rw [ha]; rfl
    rw [e, ha] at h44
    rw [if_neg (show ¬ true = false by decide)]
    exact h44
  | false =>
    rw [if_pos rfl]
    cases he : sEmpty l with
    | false =>
      have e : sStays l s = true := by unfold sStays; rw [he]; simp
      rw [e, ha] at h44
      rw [if_pos rfl]
      exact h44
    | true =>
      have e : sStays l s = false := by unfold sStays; rw [ha, he]; rfl
      rw [e, ha] at h44
      rw [if_neg (show ¬ true = false by decide)]
      exact h44
theorem put11 {N a l : Nat} {st : Stk} (hN : N < 200) (hl : l ≤ 26) (hi : SI st) (cd bg en nm fr : Nat → Int32) (hk : KS nm fr (sS1 l st)) (h8 : st.length ≤ 8) : f_X0_putElement_L11 (nI a) (nI l) (nI N) cd bg en (nI (sS1 l st).length) nm fr = some (oPut N a l (sPrep l st) cd bg en nm fr) ∧ KS nm fr (sPrep l st) := by
  have hs := sS1_len l st
  have hp := sPrep_all (l := l) hi
  have h28 := put28 (a := a) (s := sPrep l st) hN hl (by omega) cd bg en nm fr
  rw [hp.2.1] at h28
  unfold f_X0_putElement_L11
  rw [alienC hk (by omega), Option.bind_some]
  simp only [b2_0]
  cases ha : sAlien (sS1 l st) with
  | true =>
    have e : sPrep l st = sS1 l st := by rw [sPrep_eq, if_pos ha]
    rw [e, ha] at h28
    rw [if_neg (show ¬ true = false by decide), e]
    exact ⟨h28, hk⟩
  | false =>
    have e : sPrep l st = sClose l (sS1 l st) := by rw [sPrep_eq, if_neg (by rw [ha]; decide)]
    have hc := closeBeforeC hl hk (by omega)
    rw [ha, e] at h28
    rw [if_pos rfl, hc.1, Option.bind_some, e]
    exact ⟨h28, hc.2⟩
theorem putC {N a l : Nat} {st : Stk} (hN : N < 200) (hl : l ≤ 26) (hi : SI st) (cd bg en nm fr : Nat → Int32) (hk : KS nm fr st) (h8 : st.length ≤ 8) : f_X0_putElement (nI N) (nI a) cd bg en (nI st.length) nm fr (nI l) = some (oPut N a l (sPrep l st) cd bg en nm fr) ∧ KS nm fr (sPrep l st) := by
  unfold f_X0_putElement
  rw [blockC hl, Option.bind_some]
  simp only [b2_0]
  cases hb : sBlock l with
  | false =>
    have e : sS1 l st = st := by unfold sS1; rw [if_neg (by rw [hb]; decide)]
    rw [if_pos rfl]
    have := put11 (a := a) hN hl hi cd bg en nm fr (by rw [e]; exact hk) h8
    rw [e] at this
    exact this
  | true =>
    have e : sS1 l st = sLeave st := by unfold sS1; rw [if_pos hb]
    have h1 := s1C hk h8
    rw [if_neg (show ¬ true = false by decide), h1.1, Option.bind_some]
    have := put11 (a := a) hN hl hi cd bg en nm fr (by rw [e]; exact h1.2) h8
    rw [e] at this
    exact this
theorem KS.congr {nm fr nm' fr' : Nat → Int32} : ∀ {s : Stk}, KS nm fr s → (∀ i, i < s.length → nm' i = nm i ∧ fr' i = fr i) → KS nm' fr' s
  | [], _, _ => trivial
  | (l, f) :: r, h, he => by
    have e := he r.length (by simp)
    exact ⟨by rw [e.1]; exact h.1, h.2.1, by rw [e.2]; exact h.2.2.1, KS.congr h.2.2.2 (fun i hi => he i (by simp; omega))⟩
theorem sStart_full {l : Nat} {at' : List At} {st : Stk} {nd : List Nd} (h : sFull l (sPrep l st) = true) : sStart l at' st nd = (false, sPrep l st, nd) := by unfold sStart; simp only [h, if_true]
theorem sStart_put {l : Nat} {at' : List At} {st : Stk} {nd : List Nd} (h : sFull l (sPrep l st) = false) : sStart l at' st nd = (true, (if sStays l (sPrep l st) = true then (l, sFor l (sPrep l st)) :: sPrep l st else sPrep l st), sNode l (sPrep l st) at' :: nd) := by unfold sStart; simp only [h, Bool.false_eq_true, if_false]
/-- what is open is as said after a START -/
theorem KS.put {l : Nat} {s : Stk} {nm fr : Nat → Int32} (h : KS nm fr s) (hl : l ≤ 26) : KS (if sStays l s = true then upd nm s.length (nI l) else nm) (if sStays l s = true then upd fr s.length (b2 (sFor l s)) else fr) (if sStays l s = true then (l, sFor l s) :: s else s) := by
  cases hs : sStays l s with
  | false => exact h
  | true => exact ⟨pk_us, hl, pk_us, h.congr (fun i hi => ⟨pk_un (by omega), pk_un (by omega)⟩)⟩
theorem SI.put {l : Nat} {s : Stk} (h : SI s) : SI (if sStays l s = true then (l, sFor l s) :: s else s) := by
  cases hs : sStays l s with
  | false => exact h
  | true =>
    refine ⟨fun hf => ?_, h⟩
    unfold sFor at hf
    cases ha : sAlien s with
    | false => rfl
    | true => rw [ha] at hf; simp at hf
theorem len_put {l : Nat} {s : Stk} (h8 : s.length ≤ 8) (hf : sFull l s = false) : (if sStays l s = true then (l, sFor l s) :: s else s).length ≤ 8 := by
  cases hs : sStays l s with
  | false => exact h8
  | true =>
    unfold sFull at hf
    rw [hs] at hf
    simp at hf
    simp
    omega
theorem len_put2 {l : Nat} {s : Stk} : (if sStays l s = true then nI (s.length + 1) else nI s.length) = nI (if sStays l s = true then (l, sFor l s) :: s else s).length := by
  cases hs : sStays l s <;> rfl
