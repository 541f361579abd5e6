/-! the picture of cleaning -/
def tO (s : List Int32) : Nat → Int32 := fun i => s.getD i 0
def TXL (s : List Int32) : Prop := s.length ≤ 200 ∧ ∀ c ∈ s, pu_ch c
theorem getD_mem {s : List Int32} {i : Nat} (h : i < s.length) : s.getD i 0 ∈ s := by
  rw [List.getD_eq_getElem?_getD, List.getElem?_eq_getElem h]
  exact List.getElem_mem h
theorem TXL.toTX {s : List Int32} {row : RowF} (h : TXL s) (hr : ∀ i, i < s.length → row i = s.getD i 0) : TX (tO s) s.length row := by
  refine ⟨h.1, fun i => ?_, fun i hi => ?_⟩
  · unfold tx
    by_cases c : i < s.length
    · rw [if_pos c, hr i c]
      rfl
    · rw [if_neg c]
      show s.getD i 0 = 0
      rw [List.getD_eq_getElem?_getD, List.getElem?_eq_none (by omega)]
      rfl
  · rw [hr i hi]
    exact h.2 _ (getD_mem hi)
/-- readings come to an end -/
theorem sIter_end {t row : Nat → Int32} {n : Nat} (h : TX t n row) : ∀ (m : Nat) (S : PS), PI n S → 2 * (n - S.1) + rB S.2.1 ≤ m → n ≤ (sIter t n m S).1
  | 0, S, hS, hm => by
    show n ≤ S.1
    omega
  | m + 1, S, hS, hm => by
    rw [sIter]
    by_cases hp : S.1 < n
    · have hstep := sTok_PI h hS hp
      refine sIter_end h m _ hstep.1 ?_
      have r0 : rB false = 0 := rfl
      have r1 : rB true = 1 := rfl
      have rle : rB (sTok t n S).2.1 ≤ 1 := by cases (sTok t n S).2.1 <;> decide
      have hSn : (sTok t n S).1 ≤ n := hstep.1.bd.1
      cases hr : S.2.1 with
      | true =>
        rw [hstep.2.2.1 hr, r0]
        rw [hr, r1] at hm
        have := hstep.2.1
        omega
      | false =>
        have := hstep.2.2.2.1 hr
        omega
    · rw [sTok_stop (by omega), sIter_stop m (by omega)]
      omega
def nds (s : List Int32) : List Nd := (sIter (tO s) s.length (2 * s.length) (0, false, [], [])).2.2.2
theorem nds_same {s : List Int32} (h : TXL s) {k : Nat} (hk : s.length ≤ (sIter (tO s) s.length k (0, false, [], [])).1) : (sIter (tO s) s.length k (0, false, [], [])).2.2.2 = nds s := by
  have ht := h.toTX (row := fun i => s.getD i 0) (fun i _ => rfl)
  have h2 := sIter_end ht (2 * s.length) (0, false, [], []) (PI0 _) (by show 2 * (s.length - 0) + 0 ≤ 2 * s.length; omega)
  rw [sIter_same hk h2]
  rfl
theorem nds_PI {s : List Int32} (h : TXL s) : PI s.length (sIter (tO s) s.length (2 * s.length) (0, false, [], [])) := sIter_PI (h.toTX (row := fun i => s.getD i 0) (fun i _ => rfl)) _ _ (PI0 _)
theorem nds_all {s : List Int32} (h : TXL s) : (∀ x ∈ nds s, WN x) ∧ TS (nds s) ∧ (nds s).length ≤ 200 ∧ stoM (nds s) ≤ 200 ∧ acM (nds s) ≤ 100 := by
  have hP := nds_PI h
  have h1 := h.1
  have := RT.wf_le hP h1
  exact ⟨hP.wf, hP.ts, this.1, this.2.1, this.2.2⟩
def sF (xa : RowF) (ok : Nat → At → Bool) (s : List Int32) : List Int32 := sOut xa ok (nds s)
theorem sF_all {xa : RowF} {ok : Nat → At → Bool} {s : List Int32} (h : TXL s) : (∀ c ∈ sF xa ok s, pu_ch c) ∧ (sF xa ok s).length ≤ 4000 := by
  obtain ⟨h1, h2, h3, h4, h5⟩ := nds_all h
  refine ⟨sOut_ok h1, ?_⟩
  have := sOut_len (xa := xa) (ok := ok) (nds s)
  show (sOut xa ok (nds s)).length ≤ 4000
  omega
/-- rounds that were made; what is left if it settled -/
def sCl (F : List Int32 → List Int32) : Nat → List Int32 → Nat × Option (List Int32)
  | 0, _ => (0, none)
  | j + 1, s => if F s = s then (1, some s) else if 200 < (F s).length ∨ j = 0 then (1, none) else ((sCl F j (F s)).1 + 1, (sCl F j (F s)).2)
theorem sCl_TXL {F : List Int32 → List Int32} (hF : ∀ s, TXL s → ∀ c ∈ F s, pu_ch c) : ∀ (j : Nat) (s : List Int32), TXL s → (sCl F j s).1 ≤ j ∧ ∀ o, (sCl F j s).2 = some o → TXL o
  | 0, s, _ => ⟨Nat.le_refl _, fun o h => by cases h⟩
  | j + 1, s, hs => by
    unfold sCl
    split
    · exact ⟨by omega, fun o h => by cases h; exact hs⟩
    · split
      · exact ⟨by omega, fun o h => by cases h⟩
      · rename_i h2
        have ih := sCl_TXL hF j (F s) ⟨by omega, hF s hs⟩
        exact ⟨by have := ih.1; show (sCl F j (F s)).1 + 1 ≤ j + 1; omega, ih.2⟩
theorem listExt {s o : List Int32} (hl : o.length = s.length) (h : ∀ i, i < s.length → o.getD i 0 = s.getD i 0) : o = s := by
  apply List.ext_getElem hl
  intro i h1 h2
  have := h i h2
  rw [List.getD_eq_getElem?_getD, List.getD_eq_getElem?_getD, List.getElem?_eq_getElem h1, List.getElem?_eq_getElem h2] at this
  exact this
def eqL (o s : List Int32) : Nat → Nat → Bool
  | _, 0 => true
  | k, j + 1 => decide (o.getD k 0 = s.getD k 0) && eqL o s (k + 1) j
theorem eqL_iff (o s : List Int32) : ∀ (j k : Nat), (eqL o s k j = true) = (∀ i, k ≤ i → i < k + j → o.getD i 0 = s.getD i 0)
  | 0, k => by
    apply propext
    exact ⟨fun _ i a b => by omega, fun _ => rfl⟩
  | j + 1, k => by
    rw [show eqL o s k (j + 1) = (decide (o.getD k 0 = s.getD k 0) && eqL o s (k + 1) j) from rfl, Bool.and_eq_true, eqL_iff o s j (k + 1)]
    apply propext
    constructor
    · rintro ⟨h1, h2⟩ i a b
      by_cases e : i = k
      · subst e; simpa using h1
      · exact h2 i (by omega) (by omega)
    · intro h
      exact ⟨by simpa using h k (Nat.le_refl _) (by omega), fun i a b => h i (by omega) (by omega)⟩
theorem eqL_eq {o s : List Int32} (h : o.length = s.length) : eqL o s 0 s.length = decide (o = s) := by
  rw [Bool.eq_iff_iff, eqL_iff, decide_eq_true_eq]
  constructor
  · intro q
    exact listExt h (fun i hi => q i (Nat.zero_le _) (by omega))
  · intro q i _ _
    rw [q]
/-! the same for both -/
theorem sSf_xa {xa ya : RowF} {ok : Nat → At → Bool} (h : ∀ l, l < 26 → xa l = ya l) : ∀ nd, sSf xa ok nd = sSf ya ok nd := by
  have h1 : isDr xa = isDr ya := by
    funext x
    unfold isDr
    by_cases c : x.2.1 < 26
    · rw [h _ c]
    · rw [decide_eq_false c]
      simp
  have h2 : keepB xa = keepB ya := by
    funext l
    unfold keepB
    by_cases c : l < 26
    · rw [h _ c]
    · rw [decide_eq_false c]
      simp
  intro nd
  induction nd with
  | nil => rfl
  | cons x r ih =>
    show sStp xa ok x r.length (sSf xa ok r) = sStp ya ok x r.length (sSf ya ok r)
    rw [ih]
    unfold sStp sEnt ktB gnB
    rw [h1, h2]
theorem sF_xa {xa ya : RowF} {ok : Nat → At → Bool} (h : ∀ l, l < 26 → xa l = ya l) : sF xa ok = sF ya ok := by
  funext s
  unfold sF sOut
  rw [sSf_xa h]
theorem sSafe_eq {sch sch' : Nat → Int64} {ns : Nat} (h : ∀ i, i < ns → sch i = sch' i) (v : List Int32) : sSafe sch ns v = sSafe sch' ns v := by
  have hp := fun x => pu_hs_eq (v := x) ns 0 (fun i hi => h i (by omega))
  unfold sSafe
  split
  · rfl
  · split
    · split
      · rfl
      · rw [hp]
    · rfl
theorem okC_eq {xt : RowF} {sch sch' : Nat → Int64} {ns : Nat} (h : ∀ i, i < ns → sch i = sch' i) : okC xt sch ns = okC xt sch' ns := by
  funext l q
  unfold okC
  rw [sSafe_eq h]
