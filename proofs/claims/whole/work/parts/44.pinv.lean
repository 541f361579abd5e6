/-! what holds of every state of the picture -/
def sHasEnd (l : Nat) (f : Bool) : Prop := f = true ∨ sEmpty l = false
def WN (x : Nd) : Prop := (x.1 = 1 ∨ x.1 = 2 ∨ x.1 = 3) ∧ x.2.1 ≤ 26 ∧ x.2.2.1 ≤ 8 ∧ (¬ x.1 = 3 → x.2.1 = 0 ∧ x.2.2.2.1 = false ∧ x.2.2.2.2.2 = []) ∧ (x.1 = 3 → x.2.2.2.2.1 = []) ∧ (∀ c ∈ x.2.2.2.2.1, pu_ch c) ∧ (∀ q ∈ x.2.2.2.2.2, q.1 < 26 ∧ ∀ c ∈ q.2, pu_ch c) ∧ x.2.2.2.2.2.Pairwise (fun a b => ¬ a.1 = b.1) ∧ (x.1 = 3 → sHasEnd x.2.1 x.2.2.2.1 → x.2.2.1 < 8)
def sPar (d : Nat) : List Nd → List Nd
  | [] => []
  | x :: r => if x.2.2.1 < d then x :: r else sPar d r
def IXc (nd : List Nd) : Stk → Prop
  | [] => True
  | (l, f) :: s => (∃ at' q, sPar (s.length + 1) nd = (3, l, s.length, f, [], at') :: q) ∧ sHasEnd l f ∧ IXc nd s
def TS : List Nd → Prop
  | [] => True
  | x :: r => (x.2.2.1 = 0 ∨ ∃ y q, sPar x.2.2.1 r = y :: q ∧ y.1 = 3 ∧ y.2.2.1 + 1 = x.2.2.1 ∧ sHasEnd y.2.1 y.2.2.2.1) ∧ TS r
def HD (st : Stk) : List Nd → Prop
  | [] => st = []
  | x :: _ => st.length ≤ x.2.2.1 + 1 ∧ (¬ x.1 = 3 → st.length ≤ x.2.2.1)
def PI (n : Nat) (S : PS) : Prop := BD n S ∧ SI S.2.2.1 ∧ S.2.2.1.length ≤ 8 ∧ (∀ x ∈ S.2.2.2, WN x) ∧ IXc S.2.2.2 S.2.2.1 ∧ TS S.2.2.2 ∧ HD S.2.2.1 S.2.2.2
theorem PI.bd {n : Nat} {S : PS} (h : PI n S) : BD n S := h.1
theorem PI.si {n : Nat} {S : PS} (h : PI n S) : SI S.2.2.1 := h.2.1
theorem PI.le {n : Nat} {S : PS} (h : PI n S) : S.2.2.1.length ≤ 8 := h.2.2.1
theorem PI.wf {n : Nat} {S : PS} (h : PI n S) : ∀ x ∈ S.2.2.2, WN x := h.2.2.2.1
theorem PI.ix {n : Nat} {S : PS} (h : PI n S) : IXc S.2.2.2 S.2.2.1 := h.2.2.2.2.1
theorem PI.ts {n : Nat} {S : PS} (h : PI n S) : TS S.2.2.2 := h.2.2.2.2.2.1
theorem PI.hd {n : Nat} {S : PS} (h : PI n S) : HD S.2.2.1 S.2.2.2 := h.2.2.2.2.2.2
theorem PI0 (n : Nat) : PI n (0, false, [], []) := ⟨⟨Nat.zero_le _, Nat.le_refl _, Nat.le_refl _, Nat.le_refl _⟩, trivial, Nat.zero_le _, fun x hx => by simp at hx, trivial, trivial, rfl⟩
theorem IXc_skip {x : Nd} {nd : List Nd} : ∀ {st : Stk}, st.length ≤ x.2.2.1 → IXc nd st → IXc (x :: nd) st
  | [], _, _ => trivial
  | (l, f) :: s, h, hi => by
    obtain ⟨⟨at', q, h1⟩, h2, h3⟩ := hi
    have hl : s.length + 1 ≤ x.2.2.1 := h
    refine ⟨⟨at', q, ?_⟩, h2, IXc_skip (by omega) h3⟩
    rw [sPar, if_neg (by omega)]
    exact h1
theorem IXc_unskip {x : Nd} {nd : List Nd} : ∀ {st : Stk}, st.length ≤ x.2.2.1 → IXc (x :: nd) st → IXc nd st
  | [], _, _ => trivial
  | (l, f) :: s, h, hi => by
    obtain ⟨⟨at', q, h1⟩, h2, h3⟩ := hi
    have hl : s.length + 1 ≤ x.2.2.1 := h
    refine ⟨⟨at', q, ?_⟩, h2, IXc_unskip (by omega) h3⟩
    rw [sPar, if_neg (by omega)] at h1
    exact h1
theorem IXc.suf {nd : List Nd} : ∀ (a : Stk) {s : Stk}, IXc nd (a ++ s) → IXc nd s
  | [], _, h => h
  | (_, _) :: a, _, h => IXc.suf a h.2.2
theorem TS_of {nd : List Nd} {st : Stk} (h : IXc nd st) : st.length = 0 ∨ ∃ y q, sPar st.length nd = y :: q ∧ y.1 = 3 ∧ y.2.2.1 + 1 = st.length ∧ sHasEnd y.2.1 y.2.2.2.1 := by
  cases st with
  | nil => exact Or.inl rfl
  | cons x s =>
    obtain ⟨l, f⟩ := x
    obtain ⟨⟨at', q, h1⟩, h2, h3⟩ := h
    exact Or.inr ⟨_, q, h1, rfl, rfl, h2⟩
theorem HD.suf {a s : Stk} {nd : List Nd} (h : HD (a ++ s) nd) : HD s nd := by
  cases nd with
  | nil =>
    have : a ++ s = [] := h
    exact (List.append_eq_nil_iff.mp this).2
  | cons x r =>
    obtain ⟨h1, h2⟩ := h
    rw [List.length_append] at h1 h2
    exact ⟨by omega, fun q => by have := h2 q; omega⟩
/-! parts of the stack -/
theorem sTail_suf {f : Bool} {l : Nat} : ∀ {s r : Stk}, sTail f l s = some r → ∃ a, s = a ++ r
  | [], r, h => by cases h
  | (l', f') :: s, r, h => by
    unfold sTail at h
    split at h
    · split at h
      · cases h
        exact ⟨[(l', f')], rfl⟩
      · obtain ⟨a, e⟩ := sTail_suf h
        exact ⟨(l', f') :: a, by rw [e]; rfl⟩
    · cases h
theorem suf_trans {a b c : Stk} (h1 : ∃ x, a = x ++ b) (h2 : ∃ x, b = x ++ c) : ∃ x, a = x ++ c := by
  obtain ⟨x, e1⟩ := h1
  obtain ⟨y, e2⟩ := h2
  exact ⟨x ++ y, by rw [e1, e2, List.append_assoc]⟩
theorem sLeave_suf : ∀ (s : Stk), ∃ a, s = a ++ sLeave s
  | [] => ⟨[], rfl⟩
  | x :: r => by
    unfold sLeave
    split
    · obtain ⟨a, e⟩ := sLeave_suf r
      exact ⟨x :: a, by rw [List.cons_append, ← e]⟩
    · exact ⟨[], rfl⟩
theorem sShutT_suf (l : Nat) (s : Stk) : ∃ a, s = a ++ sShutT l s := by
  unfold sShutT
  split
  · exact ⟨[], rfl⟩
  · rename_i r hr
    exact sTail_suf hr
theorem sItem_suf (s : Stk) : ∃ a, s = a ++ sItem s := by
  rcases sItem_or s with e | ⟨r, h1, e⟩
  · rw [e]; exact ⟨[], rfl⟩
  · rw [e]; exact sTail_suf h1
theorem sPrep_suf (l : Nat) (st : Stk) : ∃ a, st = a ++ sPrep l st := by
  rw [sPrep_eq]
  have h1 : ∃ a, st = a ++ sS1 l st := by
    unfold sS1
    split
    · exact sLeave_suf st
    · exact ⟨[], rfl⟩
  refine suf_trans h1 ?_
  split
  · exact ⟨[], rfl⟩
  · unfold sClose
    dsimp only
    refine suf_trans (b := if sBlock l = true then sShutT 15 (sS1 l st) else sS1 l st) ?_ ?_
    · split
      · exact sShutT_suf _ _
      · exact ⟨[], rfl⟩
    · generalize (if sBlock l = true then sShutT 15 (sS1 l st) else sS1 l st) = s2
      refine suf_trans (b := if l = 11 then sItem s2 else s2) ?_ ?_
      · split
        · exact sItem_suf _
        · exact ⟨[], rfl⟩
      · generalize (if l = 11 then sItem s2 else s2) = s3
        split
        · exact sShutT_suf _ _
        · exact ⟨[], rfl⟩
/-! characters -/
theorem pu_ch_nI {c : Nat} (h1 : 32 ≤ c) (h2 : c ≤ 126) : pu_ch (nI c) := ⟨c, h1, h2, rfl⟩
theorem sSeg_mem {t : Nat → Int32} {b e : Nat} {c : Int32} (h : c ∈ sSeg t b e) : ∃ i, b ≤ i ∧ i < e ∧ c = t i := by
  unfold sSeg at h
  obtain ⟨i, hi, rfl⟩ := List.mem_map.mp h
  rw [List.mem_range] at hi
  exact ⟨b + i, by omega, by omega, rfl⟩
theorem sRes_ch {t row : Nat → Int32} {n e : Nat} (h : TX t n row) (he : e ≤ n) : ∀ (j p : Nat) (c : Int32), c ∈ sRes t e j p → pu_ch c
  | 0, p, c, hc => by simp [sRes] at hc
  | j + 1, p, c, hc => by
    by_cases hp : p < e
    · cases hr : sRef t p with
      | none =>
        rw [sRes_one hp hr] at hc
        rcases List.mem_cons.mp hc with rfl | q
        · exact h.ch (by omega)
        · exact sRes_ch h he j _ c q
      | some q =>
        obtain ⟨d, s⟩ := q
        have hs := sRef_in hr
        by_cases hf : p + s ≤ e
        · rw [sRes_fit hp hr hf] at hc
          rcases List.mem_cons.mp hc with rfl | q
          · exact pu_ch_nI hs.1 hs.2.1
          · exact sRes_ch h he j _ c q
        · rw [sRes_not hp hr hf] at hc
          rcases List.mem_cons.mp hc with rfl | q
          · exact h.ch (by omega)
          · exact sRes_ch h he j _ c q
    · rw [sRes_ge hp] at hc
      simp at hc
theorem sVal_ch {t row : Nat → Int32} {n b e : Nat} {c : Int32} (h : TX t n row) (he : e ≤ n) (hc : c ∈ sVal t b e) : pu_ch c := sRes_ch h he _ _ c hc
/-- the attributes of a tag -/
def GA (n : Nat) (acc : List (Nat × Nat × Nat)) : Prop := (∀ q ∈ acc, q.1 < 26 ∧ q.2.2 ≤ n) ∧ acc.Pairwise (fun a b => ¬ a.1 = b.1)
theorem GA_put {n b e : Nat} {acc : List (Nat × Nat × Nat)} {a : Option Nat} (h : GA n acc) (ha : ∀ l, a = some l → l < 26) (he : e ≤ n) : GA n (sPutA acc a b e) := by
  unfold sPutA
  cases a with
  | none => exact h
  | some l =>
    dsimp only
    split
    · exact h
    · rename_i hn
      refine ⟨fun q hq => ?_, ?_⟩
      · rcases List.mem_append.mp hq with g | g
        · exact h.1 q g
        · rw [List.mem_singleton] at g
          subst g
          exact ⟨ha l rfl, he⟩
      · rw [List.pairwise_append]
        refine ⟨h.2, List.pairwise_singleton _ _, fun x hx y hy q => hn ?_⟩
        rw [List.mem_singleton] at hy
        subst hy
        rw [List.any_eq_true]
        exact ⟨x, hx, by simpa using q⟩
theorem sTagL_GA {t row : Nat → Int32} {n : Nat} (h : TX t n row) : ∀ (j p : Nat) (acc : List (Nat × Nat × Nat)) (r : Nat) (acc' : List (Nat × Nat × Nat)), GA n acc → sTagL t n j p acc = some (r, acc') → GA n acc'
  | 0, p, acc, r, acc', _, hs => by cases hs
  | j + 1, p, acc, r, acc', hg, hs => by
    unfold sTagL at hs
    split at hs
    · cases hs
    · rename_i hp
      split at hs
      · cases hs
        exact hg
      · split at hs
        · exact sTagL_GA h j _ _ r acc' hg hs
        · refine sTagL_GA h j _ _ r acc' (GA_put hg (fun l hl => sAl_lt h (by omega) hl) ?_) hs
          unfold sAt
          dsimp only
          split
          · rename_i hc
            exact (sVe_le h (t_lt h hc (by decide))).2
          · exact Nat.zero_le _
theorem GA_vals {t row : Nat → Int32} {n : Nat} (h : TX t n row) {acc : List (Nat × Nat × Nat)} (hg : GA n acc) : (∀ q ∈ sVals t acc, q.1 < 26 ∧ ∀ c ∈ q.2, pu_ch c) ∧ (sVals t acc).Pairwise (fun a b => ¬ a.1 = b.1) := by
  refine ⟨fun q hq => ?_, ?_⟩
  · unfold sVals at hq
    obtain ⟨x, hx, rfl⟩ := List.mem_map.mp hq
    exact ⟨(hg.1 x hx).1, fun c hc => sVal_ch h (hg.1 x hx).2 hc⟩
  · unfold sVals
    rw [List.pairwise_map]
    exact hg.2
