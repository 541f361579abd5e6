/-! every step keeps it -/
theorem PI.pos {n p p' : Nat} {raw raw' : Bool} {st : Stk} {nd : List Nd} (h : PI n (p, raw, st, nd)) (h1 : p ≤ p') (h2 : p' ≤ n) : PI n (p', raw', st, nd) := by
  obtain ⟨⟨b1, b2, b3, b4⟩, h2', h3, h4, h5, h6, h7⟩ := h
  refine ⟨⟨h2, ?_, ?_, ?_⟩, h2', h3, h4, h5, h6, h7⟩
  · exact Nat.le_trans b2 h1
  · exact Nat.le_trans b3 h1
  · exact Nat.le_trans b4 h1
theorem PI.suf {n p p' : Nat} {raw raw' : Bool} {a st : Stk} {nd : List Nd} (h : PI n (p, raw, a ++ st, nd)) (hs : SI st) (h1 : p ≤ p') (h2 : p' ≤ n) : PI n (p', raw', st, nd) := by
  obtain ⟨⟨b1, b2, b3, b4⟩, h2', h3, h4, h5, h6, h7⟩ := h
  refine ⟨⟨h2, Nat.le_trans b2 h1, Nat.le_trans b3 h1, Nat.le_trans b4 h1⟩, hs, ?_, h4, IXc.suf a h5, h6, HD.suf h7⟩
  have : (a ++ st).length ≤ 8 := h3
  rw [List.length_append] at this
  show st.length ≤ 8
  omega
theorem PI.node {n p p' : Nat} {raw raw' : Bool} {st : Stk} {nd : List Nd} {x : Nd} (h : PI n (p, raw, st, nd)) (hx : WN x) (hd : x.2.2.1 = st.length) (h1 : p + 1 ≤ p') (h2 : p' ≤ n) (h3 : p + x.2.2.2.2.1.length + vLen x.2.2.2.2.2 ≤ p') (h4 : p + 2 * x.2.2.2.2.2.length ≤ p') : PI n (p', raw', st, x :: nd) := by
  obtain ⟨⟨b1, b2, b3, b4⟩, c2, c3, c4, c5, c6, c7⟩ := h
  have b2' : nd.length ≤ p := b2
  have b3' : stoM nd ≤ p := b3
  have b4' : 2 * acM nd ≤ p := b4
  refine ⟨⟨h2, ?_, ?_, ?_⟩, c2, c3, ?_, IXc_skip (show st.length ≤ x.2.2.1 by omega) c5, ⟨?_, c6⟩, ?_⟩
  · show nd.length + 1 ≤ p'
    omega
  · show stoM nd + x.2.2.2.2.1.length + vLen x.2.2.2.2.2 ≤ p'
    omega
  · show 2 * (acM nd + x.2.2.2.2.2.length) ≤ p'
    omega
  · intro y hy
    rcases List.mem_cons.mp hy with rfl | q
    · exact hx
    · exact c4 y q
  · rw [hd]
    exact TS_of c5
  · exact ⟨by show st.length ≤ _; omega, fun _ => by show st.length ≤ _; omega⟩
theorem PI.add {n p p' : Nat} {raw raw' : Bool} {st : Stk} {nd : List Nd} {cs : List Int32} (h : PI n (p, raw, st, nd)) (hc : ∀ c ∈ cs, pu_ch c) (h1 : p + 1 ≤ p') (h2 : p' ≤ n) (h3 : p + cs.length ≤ p') : PI n (p', raw', st, sAdd cs st nd) := by
  have hle : st.length ≤ 8 := h.le
  have hw : WN (1, 0, st.length, false, cs, []) := ⟨Or.inl rfl, Nat.zero_le _, hle, fun _ => ⟨rfl, rfl, rfl⟩, fun q => absurd q (show ¬ (1 : Nat) = 3 by decide), hc, fun q hq => by simp at hq, List.Pairwise.nil, fun q => absurd q (show ¬ (1 : Nat) = 3 by decide)⟩
  have hN := PI.node (raw' := raw') h hw rfl h1 h2 (by show p + cs.length + 0 ≤ p'; omega) (by show p + 2 * 0 ≤ p'; omega)
  cases nd with
  | nil => exact hN
  | cons x r =>
    unfold sAdd
    dsimp only
    split
    · rename_i hq
      obtain ⟨⟨b1, b2, b3, b4⟩, c2, c3, c4, c5, c6, c7⟩ := h
      have b2' : r.length + 1 ≤ p := b2
      have b3' : stoM r + x.2.2.2.2.1.length + vLen x.2.2.2.2.2 ≤ p := b3
      have b4' : 2 * (acM r + x.2.2.2.2.2.length) ≤ p := b4
      have hwx := c4 x List.mem_cons_self
      have hx0 := hwx.2.2.2.1 (by rw [hq.1]; decide)
      have hix : IXc r st := IXc_unskip (show st.length ≤ x.2.2.1 by omega) c5
      refine ⟨⟨h2, ?_, ?_, ?_⟩, c2, c3, ?_, IXc_skip (x := (1, x.2.1, st.length, x.2.2.2.1, x.2.2.2.2.1 ++ cs, x.2.2.2.2.2)) (Nat.le_refl _) hix, ⟨?_, c6.2⟩, ?_⟩
      · show r.length + 1 ≤ p'
        omega
      · show stoM r + (x.2.2.2.2.1 ++ cs).length + vLen x.2.2.2.2.2 ≤ p'
        rw [List.length_append]
        omega
      · show 2 * (acM r + x.2.2.2.2.2.length) ≤ p'
        omega
      · intro y hy
        rcases List.mem_cons.mp hy with rfl | q
        · refine ⟨Or.inl rfl, hwx.2.1, hle, fun _ => hx0, fun q => absurd q (show ¬ (1 : Nat) = 3 by decide), fun c hc' => ?_, hwx.2.2.2.2.2.2.1, hwx.2.2.2.2.2.2.2.1, fun q => absurd q (show ¬ (1 : Nat) = 3 by decide)⟩
          rcases List.mem_append.mp hc' with g | g
          · exact hwx.2.2.2.2.2.1 c g
          · exact hc c g
        · exact c4 y (List.mem_cons_of_mem _ q)
      · have := c6.1
        rw [hq.2] at this
        exact this
      · exact ⟨by show st.length ≤ st.length + 1; omega, fun _ => Nat.le_refl _⟩
    · exact hN
theorem PI.com {n p p' : Nat} {raw raw' : Bool} {st : Stk} {nd : List Nd} {cs : List Int32} (h : PI n (p, raw, st, nd)) (hc : ∀ c ∈ cs, pu_ch c) (h1 : p + 1 ≤ p') (h2 : p' ≤ n) (h3 : p + cs.length ≤ p') : PI n (p', raw', st, sCom cs st nd) := by
  have hle : st.length ≤ 8 := h.le
  have hw : WN (2, 0, st.length, false, cs, []) := ⟨Or.inr (Or.inl rfl), Nat.zero_le _, hle, fun _ => ⟨rfl, rfl, rfl⟩, fun q => absurd q (show ¬ (2 : Nat) = 3 by decide), hc, fun q hq => by simp at hq, List.Pairwise.nil, fun q => absurd q (show ¬ (2 : Nat) = 3 by decide)⟩
  exact PI.node (raw' := raw') h hw rfl h1 h2 (by show p + cs.length + 0 ≤ p'; omega) (by show p + 2 * 0 ≤ p'; omega)
theorem PI.prep {n p : Nat} {raw : Bool} {st : Stk} {nd : List Nd} (h : PI n (p, raw, st, nd)) (l : Nat) (raw' : Bool) : PI n (p, raw', sPrep l st, nd) := by
  obtain ⟨a, e⟩ := sPrep_suf l st
  have hs := (sPrep_all (l := l) h.si).1
  rw [e] at h
  exact PI.suf h hs (Nat.le_refl _) h.bd.1
theorem PI.start {n p p' l : Nat} {raw raw' : Bool} {st : Stk} {nd : List Nd} {at' : List At} (h : PI n (p, raw, st, nd)) (hl : l ≤ 26) (ha : (∀ q ∈ at', q.1 < 26 ∧ ∀ c ∈ q.2, pu_ch c) ∧ at'.Pairwise (fun a b => ¬ a.1 = b.1)) (h1 : p + 1 ≤ p') (h2 : p' ≤ n) (h3 : p + vLen at' ≤ p') (h4 : p + 2 * at'.length ≤ p') : PI n (p', raw', (sStart l at' st nd).2.1, (sStart l at' st nd).2.2) := by
  have hp := h.prep l raw'
  have hle : (sPrep l st).length ≤ 8 := hp.le
  cases hf : sFull l (sPrep l st) with
  | true =>
    rw [sStart_full hf]
    exact hp.pos (by omega) h2
  | false =>
    rw [sStart_put hf]
    have hw : WN (sNode l (sPrep l st) at') := by
      refine ⟨Or.inr (Or.inr rfl), hl, hle, fun q => absurd rfl q, fun _ => rfl, fun c hc => by simp [sNode] at hc, ha.1, ha.2, fun _ hE => ?_⟩
      show (sPrep l st).length < 8
      have hst : sStays l (sPrep l st) = true := by
        unfold sStays
        rcases hE with q | q
        · have q : sFor l (sPrep l st) = true := q
          unfold sFor at q
          by_cases e : l = 21
          · subst e; simp [sEmpty]
          · have e' : (l == 21) = false := by simpa using e
            rw [e', Bool.false_or] at q
            rw [q]
            rfl
        · have q : sEmpty l = false := q
          rw [q]
          simp
      have := len_put (l := l) (s := sPrep l st) hle hf
      rw [if_pos hst] at this
      exact this
    have hN := PI.node (raw' := raw') hp hw rfl h1 h2 (by show p + 0 + vLen at' ≤ p'; omega) h4
    cases hs : sStays l (sPrep l st) with
    | false => exact hN
    | true =>
      have hlt := len_put (l := l) (s := sPrep l st) hle hf
      have hsi := SI.put (l := l) (s := sPrep l st) hp.si
      rw [if_pos hs] at hlt hsi
      refine ⟨hN.bd, hsi, hlt, hN.wf, ⟨⟨at', nd, ?_⟩, ?_, hN.ix⟩, hN.ts, ?_⟩
      · exact if_pos (show (sPrep l st).length < (sPrep l st).length + 1 by omega)
      · unfold sHasEnd
        unfold sStays at hs
        cases hal : sAlien (sPrep l st) with
        | true => left; unfold sFor; rw [hal]; simp
        | false =>
          rw [hal] at hs
          right
          simpa using hs
      · exact ⟨Nat.le_refl _, fun q => absurd rfl q⟩
theorem PI.ende {n p p' l : Nat} {raw raw' : Bool} {st : Stk} {nd : List Nd} (h : PI n (p, raw, st, nd)) (h1 : p + 1 ≤ p') (h2 : p' ≤ n) : PI n (p', raw', (sEnd l st nd).1, (sEnd l st nd).2) := by
  unfold sEnd
  split
  · rename_i r hr
    have hs := h.si.tail hr
    obtain ⟨a, e⟩ := sTail_suf hr
    rw [e] at h
    exact PI.suf h hs (by omega) h2
  · split
    · have hS := PI.start (raw' := raw') (l := 15) (at' := []) h (by decide) ⟨fun q hq => by simp at hq, List.Pairwise.nil⟩ h1 h2 (by show p + 0 ≤ p'; omega) (by show p + 2 * 0 ≤ p'; omega)
      cases hf : sFull 15 (sPrep 15 st) with
      | true =>
        rw [sStart_full hf] at hS ⊢
        exact hS
      | false =>
        have hst : sStays 15 (sPrep 15 st) = true := by unfold sStays; simp [sEmpty]
        rw [sStart_put hf, if_pos hst] at hS ⊢
        have hsi : SI (sPrep 15 st) := hS.si.2
        exact PI.suf (a := [(15, sFor 15 (sPrep 15 st))]) hS hsi (Nat.le_refl _) h2
    · exact h.pos (by omega) h2
theorem sName_le {t row : Nat → Int32} {n p : Nat} (h : TX t n row) (hp : p < n) (hl : sLet (t p) = true) : sName t n p ≤ 26 := by
  unfold sName
  split
  · exact Nat.le_of_lt (sLn_lt (h.ch hp) hl)
  · exact Nat.le_refl _
theorem sTagL_up {t row : Nat → Int32} {n p r : Nat} {acc : List (Nat × Nat × Nat)} (h : TX t n row) (ht : sIsTag t p = true) (hs : sTagL t n (n + 1) (sNameEnd t n (sTq t p)) [] = some (r, acc)) : p + 3 ≤ r ∧ r ≤ n ∧ p + rl acc ≤ r ∧ p + 2 * acc.length ≤ r := by
  have hl := sTq_let h ht
  have hq : p + 1 ≤ sTq t p := by unfold sTq; split <;> omega
  have hb := nameEnd_le (t := t) (n := n) (p := sTq t p) (by omega)
  have hb2 : sTq t p + 1 ≤ sNameEnd t n (sTq t p) := by
    have : ¬ sNameEnd t n (sTq t p) = sTq t p := by
      intro e
      have h1 := sFind_at (fun i => !sLet (t i)) (n - sTq t p) (sTq t p)
      unfold sNameEnd at e
      rw [e] at h1
      have := h1 (by omega)
      rw [hl.1] at this
      exact absurd this (by decide)
    omega
  have g1 := sTagL_rl h _ _ _ _ _ hs
  have g2 := sTagL_ac h _ _ _ _ _ hs
  have e1 : rl ([] : List (Nat × Nat × Nat)) = 0 := rfl
  have e2 : ([] : List (Nat × Nat × Nat)).length = 0 := rfl
  omega
theorem sTok_tag {t : Nat → Int32} {n p : Nat} {st : Stk} {nd : List Nd} (hp : p < n) (hm : sMark t p = true) (ht : sIsTag t p = true) : sTok t n (p, false, st, nd) = match sTagL t n (n + 1) (sNameEnd t n (sTq t p)) [] with
    | none => (n, false, st, nd)
    | some (r, acc) => if decide (t (p + 1) = 47) = true then (r, false, (sEnd (sName t n (sTq t p)) st nd).1, (sEnd (sName t n (sTq t p)) st nd).2)
      else (r, (sStart (sName t n (sTq t p)) (sVals t acc) st nd).1 && sRawAt (sName t n (sTq t p)) st, (sStart (sName t n (sTq t p)) (sVals t acc) st nd).2.1, (sStart (sName t n (sTq t p)) (sVals t acc) st nd).2.2) := by
  unfold sTok
  dsimp only
  rw [if_neg (show ¬ n ≤ p by omega), if_neg (show ¬ false = true by decide), if_neg (by rw [hm]; decide), if_neg (by rw [ht]; decide)]
  rfl
theorem sTok_raw {t : Nat → Int32} {n p : Nat} {st : Stk} {nd : List Nd} (hp : p < n) : sTok t n (p, true, st, nd) = (sFind (sRawEnd t) (n - p) p, false, st, if p < sFind (sRawEnd t) (n - p) p then sAdd (sSeg t p (sFind (sRawEnd t) (n - p) p)) st nd else nd) := by
  unfold sTok
  dsimp only
  rw [if_neg (show ¬ n ≤ p by omega), if_pos rfl]
def sCe1 (t : Nat → Int32) (n p : Nat) : Nat := sFind (fun i => decide (t i = 45) && decide (t (i + 1) = 45) && decide (t (i + 2) = 62)) (n - (p + 4)) (p + 4)
def sCe2 (t : Nat → Int32) (n p : Nat) : Nat := sFind (fun i => decide (t i = 62)) (n - (p + 2)) (p + 2)
theorem sTok_com {t : Nat → Int32} {n p : Nat} {st : Stk} {nd : List Nd} (hp : p < n) (hm : sMark t p = true) (ht : sIsTag t p = false) : sTok t n (p, false, st, nd) = if sLong t p = true then ((if sCe1 t n p < n then sCe1 t n p + 3 else n), false, st, sCom (sSeg t (p + 4) (sCe1 t n p)) st nd) else ((if sCe2 t n p < n then sCe2 t n p + 1 else n), false, st, sCom (sSeg t (p + 2) (sCe2 t n p)) st nd) := by
  unfold sTok
  dsimp only
  rw [if_neg (show ¬ n ≤ p by omega), if_neg (show ¬ false = true by decide), if_neg (by rw [hm]; decide), if_pos ht]
  rfl
theorem sLong_lt {t row : Nat → Int32} {n p : Nat} (h : TX t n row) (hl : sLong t p = true) : p + 4 ≤ n := by
  unfold sLong at hl
  simp only [Bool.and_eq_true, decide_eq_true_eq] at hl
  have := t_lt h hl.2 (by decide)
  omega
theorem sMark_lt {t row : Nat → Int32} {n p : Nat} (h : TX t n row) (hm : sMark t p = true) : p + 2 ≤ n := by
  have h1 : ¬ t (p + 1) = 0 := by
    intro e
    unfold sMark at hm
    rw [e] at hm
    have : sLet 0 = false := by decide
    simp [this] at hm
  have h2 : ¬ n ≤ p + 1 := fun q => h1 (h.ge q)
  omega
theorem sCe1_le {t row : Nat → Int32} {n p : Nat} (h : TX t n row) (hl : sLong t p = true) : p + 4 ≤ sCe1 t n p ∧ sCe1 t n p ≤ n ∧ (sCe1 t n p < n → sCe1 t n p + 3 ≤ n) := by
  have h0 := sLong_lt h hl
  have h1 := sFind_le (fun i => decide (t i = 45) && decide (t (i + 1) = 45) && decide (t (i + 2) = 62)) (n - (p + 4)) (p + 4)
  have h2 := sFind_at (fun i => decide (t i = 45) && decide (t (i + 1) = 45) && decide (t (i + 2) = 62)) (n - (p + 4)) (p + 4)
  have e : sCe1 t n p = sFind (fun i => decide (t i = 45) && decide (t (i + 1) = 45) && decide (t (i + 2) = 62)) (n - (p + 4)) (p + 4) := rfl
  rw [← e] at h1 h2
  refine ⟨by omega, by omega, fun q => ?_⟩
  have := h2 (by omega)
  simp only [Bool.and_eq_true, decide_eq_true_eq] at this
  have := t_lt h this.2 (by decide)
  omega
theorem sCe2_le {t : Nat → Int32} {n p : Nat} (h0 : p + 2 ≤ n) : p + 2 ≤ sCe2 t n p ∧ sCe2 t n p ≤ n := by
  have h1 := sFind_le (fun i => decide (t i = 62)) (n - (p + 2)) (p + 2)
  unfold sCe2
  omega
theorem seg_pu {t row : Nat → Int32} {n b e : Nat} (h : TX t n row) (he : e ≤ n) : ∀ c ∈ sSeg t b e, pu_ch c := by
  intro c hc
  obtain ⟨i, h1, h2, rfl⟩ := sSeg_mem hc
  exact h.ch (by omega)
/-- a step: it keeps what holds, and it goes on -/
theorem sTok_PI {t row : Nat → Int32} {n : Nat} (h : TX t n row) {S : PS} (hS : PI n S) (hp : S.1 < n) : PI n (sTok t n S) ∧ S.1 ≤ (sTok t n S).1 ∧ (S.2.1 = true → (sTok t n S).2.1 = false) ∧ (S.2.1 = false → S.1 + 1 ≤ (sTok t n S).1) ∧ ((sTok t n S).2.1 = true → S.1 + 3 ≤ (sTok t n S).1) := by
  obtain ⟨p, raw, st, nd⟩ := S
  replace hp : p < n := hp
  cases raw with
  | true =>
    rw [sTok_raw hp]
    have hf := sFind_le (sRawEnd t) (n - p) p
    dsimp only
    revert hf
    generalize sFind (sRawEnd t) (n - p) p = e
    intro hf
    refine ⟨?_, hf.1, fun _ => rfl, fun q => absurd q (show ¬ true = false by decide), fun q => absurd q (show ¬ false = true by decide)⟩
    by_cases c : p < e
    · rw [if_pos c]
      exact hS.add (seg_pu h (by omega)) (by omega) (by omega) (by rw [sSeg_len]; omega)
    · rw [if_neg c]
      exact hS.pos hf.1 (by omega)
  | false =>
    have hf : ∀ {A : Prop}, (false = true → A) := fun q => absurd q (by decide)
    cases hm : sMark t p with
    | false =>
      rw [sTok_text h hp hm]
      cases hr : sRef t p with
      | none => exact ⟨hS.add (fun c hc => by rw [List.mem_singleton] at hc; subst hc; exact h.ch hp) (by omega) (by omega) (by simp), by show p ≤ p + 1; omega, fun _ => rfl, fun _ => Nat.le_refl _, hf⟩
      | some q =>
        obtain ⟨c, s⟩ := q
        have hs := sRef_in hr
        have hfit := sRef_fit h hr (Or.inl rfl) hp
        exact ⟨hS.add (fun d hd => by rw [List.mem_singleton] at hd; subst hd; exact pu_ch_nI hs.1 hs.2.1) (by omega) hfit (by simp; omega), by show p ≤ p + s; omega, fun _ => rfl, fun _ => by show p + 1 ≤ p + s; omega, hf⟩
    | true =>
      have hm2 := sMark_lt h hm
      cases ht : sIsTag t p with
      | false =>
        rw [sTok_com hp hm ht]
        by_cases hl : sLong t p = true
        · rw [if_pos hl]
          have := sCe1_le h hl
          have hx : p + 1 ≤ (if sCe1 t n p < n then sCe1 t n p + 3 else n) ∧ (if sCe1 t n p < n then sCe1 t n p + 3 else n) ≤ n ∧ sCe1 t n p ≤ (if sCe1 t n p < n then sCe1 t n p + 3 else n) := by
            by_cases q : sCe1 t n p < n
            · have := this.2.2 q
              simp only [q, if_true]
              omega
            · simp only [q, if_false]
              omega
          exact ⟨hS.com (seg_pu h (by omega)) hx.1 hx.2.1 (by rw [sSeg_len]; omega), by show p ≤ _; omega, fun _ => rfl, fun _ => hx.1, hf⟩
        · rw [if_neg hl]
          have := sCe2_le (t := t) hm2
          have hx : p + 1 ≤ (if sCe2 t n p < n then sCe2 t n p + 1 else n) ∧ (if sCe2 t n p < n then sCe2 t n p + 1 else n) ≤ n ∧ sCe2 t n p ≤ (if sCe2 t n p < n then sCe2 t n p + 1 else n) := by
            by_cases q : sCe2 t n p < n
            · simp only [q, if_true]
              omega
            · simp only [q, if_false]
              omega
          exact ⟨hS.com (seg_pu h (by omega)) hx.1 hx.2.1 (by rw [sSeg_len]; omega), by show p ≤ _; omega, fun _ => rfl, fun _ => hx.1, hf⟩
      | true =>
        rw [sTok_tag hp hm ht]
        have hl := sTq_let h ht
        cases hs : sTagL t n (n + 1) (sNameEnd t n (sTq t p)) [] with
        | none => exact ⟨hS.pos (by omega) (Nat.le_refl _), by show p ≤ n; omega, fun _ => rfl, fun _ => by show p + 1 ≤ n; omega, hf⟩
        | some q =>
          obtain ⟨r, acc⟩ := q
          have hu := sTagL_up h ht hs
          show PI n (if _ then _ else _) ∧ _
          dsimp only
          split
          · exact ⟨hS.ende (by omega) hu.2.1, by show p ≤ r; omega, fun _ => rfl, fun _ => by show p + 1 ≤ r; omega, hf⟩
          · have hg := GA_vals h (sTagL_GA h _ _ _ _ _ (show GA n [] from ⟨fun q hq => by simp at hq, List.Pairwise.nil⟩) hs)
            have hv := sVals_vLen t acc
            have hv2 := sVals_len t acc
            exact ⟨hS.start (sName_le h hl.2 hl.1) hg (by omega) hu.2.1 (by omega) (by omega), by show p ≤ r; omega, fun q => absurd q (show ¬ false = true by decide), fun _ => by show p + 1 ≤ r; omega, fun _ => hu.1⟩
