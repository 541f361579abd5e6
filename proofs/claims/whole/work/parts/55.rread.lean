/-! the reference reads a tag, a token, a whole text -/
def RWset (R : RW) (w a s : Nat) : RW := ⟨R.ct, R.kd, R.le, R.pr, R.dp, R.fo, R.fr, R.to, upd R.ac w (nI a), R.ow, R.an, R.vf, R.vt, upd R.sd w (nI s), R.so, R.op⟩
theorem RWset_RI {w : Nat} {nd : List Nd} {st : Stk} {at' : List At} {R : RW} (h : RJ w nd st at' R) : RI w nd st (RWset R w (acM nd) (stoM nd)) := ⟨h.rt, h.rs, h.ct, pk_us, pk_us⟩
theorem RWset_FM {w a s : Nat} {R R' : RW} (h : FM w R R') : FM w R (RWset R' w a s) := by
  refine ⟨fun i hi => ?_, h.f2, h.f3⟩
  have := h.f1 i hi
  exact ⟨this.1, (pk_un (by omega)).trans this.2.1, (pk_un (by omega)).trans this.2.2⟩
theorem smallLn {t row : Nat → Int32} {n p : Nat} (h : TX t n row) (hp : p < n) (hl : sLet (t p) = true) : ∃ c, f_X10_small (t p) = some c ∧ c - 97 = nI (sLn (t p)) := by
  obtain ⟨k, h3, h4, hk⟩ := h.ch hp
  have hs : ∀ k, k < 127 → sLet (nI k) = true → (f_X10_small (nI k)).bind (fun q => some (q - 97)) = some (nI (sLn (nI k))) := by decide +kernel
  have hs2 := hs k (by omega) (by rw [← hk]; exact hl)
  rw [← hk] at hs2
  cases hsm : f_X10_small (t p) with
  | none => rw [hsm] at hs2; cases hs2
  | some c =>
    rw [hsm, Option.bind_some] at hs2
    exact ⟨c, rfl, Option.some.inj hs2⟩
theorem sNameEnd_let {t : Nat → Int32} {n p : Nat} (hp : p < n) (hl : sLet (t p) = true) : sNameEnd t n p = sFind (fun i => !sLet (t i)) (n - (p + 1)) (p + 1) := by
  unfold sNameEnd
  rw [show n - p = (n - (p + 1)) + 1 by omega]
  rw [show sFind (fun i => !sLet (t i)) (n - (p + 1) + 1) p = if (!sLet (t p)) = true then p else sFind (fun i => !sLet (t i)) (n - (p + 1)) (p + 1) from rfl, hl, if_neg (by decide)]
theorem tagR {t row : Nat → Int32} {n w p : Nat} {nd : List Nd} {st : Stk} {R : RW} (ht : TX t n row) (hw : w < 2) (hS : PI n (p, false, st, nd)) (hp : p < n) (hm : sMark t p = true) (hg : sIsTag t p = true) (h : RI w nd st R) (wh nm code : Int32) : ∃ (R' : RW) (wh' nm' code' : Int32), f_X10_tag (nI n) (nI w) (nI p) 0 (nI st.length) wh nm code row R.ct R.kd R.le R.pr R.dp R.fo R.fr R.to R.ac R.ow R.an R.vf R.vt R.sd R.so R.op (b2 (decide (t (p + 1) = 47))) = some (oT (sTok t n (p, false, st, nd)).1 (sTok t n (p, false, st, nd)).2.1 (sTok t n (p, false, st, nd)).2.2.1.length wh' nm' code' R') ∧ RI w (sTok t n (p, false, st, nd)).2.2.2 (sTok t n (p, false, st, nd)).2.2.1 R' ∧ FM w R R' := by
  have hn := ht.1
  have hb2 : nd.length ≤ p := hS.bd.2.1
  have hb3 : stoM nd ≤ p := hS.bd.2.2.1
  have hb4 : 2 * acM nd ≤ p := hS.bd.2.2.2
  have hl := sTq_let ht hg
  have hname := sName_le ht hl.2 hl.1
  have hq : p + 1 ≤ sTq t p ∧ sTq t p ≤ p + 2 := by unfold sTq; split <;> omega
  have hne := sNameEnd_let hl.2 hl.1
  have hb := nameEnd_le (t := t) (n := n) (p := sTq t p) (by omega)
  have hle := sFind_le (fun i => !sLet (t i)) (n - (sTq t p + 1)) (sTq t p + 1)
  rw [← hne] at hle
  obtain ⟨c, hc1, hc2⟩ := smallLn ht hl.2 hl.1
  rw [sTok_tag hp hm hg]
  have h33 : ∀ z : Int32, nI p + z = nI (sTq t p) → ∃ (R' : RW) (wh' nm' code' : Int32), f_X10_tag_L33 (nI n) (nI w) row (b2 (decide (t (p + 1) = 47))) (nI p) 0 (nI st.length) wh nm code R.ct R.kd R.le R.pr R.dp R.fo R.fr R.to R.ac R.ow R.an R.vf R.vt R.sd R.so R.op (nI (stoM nd)) (nI (acM nd)) (nI p) z = some (oT (sTok t n (p, false, st, nd)).1 (sTok t n (p, false, st, nd)).2.1 (sTok t n (p, false, st, nd)).2.2.1.length wh' nm' code' R') ∧ RI w (sTok t n (p, false, st, nd)).2.2.2 (sTok t n (p, false, st, nd)).2.2.1 R' ∧ FM w R R' := by
    intro z hz
    rw [sTok_tag hp hm hg]
    unfold f_X10_tag_L33
    rw [hz, pu_gi (show sTq t p < 200 by omega) (by decide), nI_clamp (by omega), ← ht.lt hl.2, hc1, Option.bind_some, nI_1, nmL56 ht _ _ _ _ _ _ _ _ R (n - (sTq t p + 1)) (sTq t p + 1) 1000 (c - 97) rfl (by omega) (by omega), Option.bind_some]
    dsimp only
    rw [← hne, hc2]
    have hnm : (if sNameEnd t n (sTq t p) = sTq t p + 1 then nI (sLn (t (sTq t p))) else 26) = nI (sName t n (sTq t p)) := by
      unfold sName
      split <;> rfl
    rw [hnm]
    obtain ⟨R1, code1, p1, g1, g2, g3⟩ := tagL85 (p0 := p) ht hw hb3 (by omega) (b2 (decide (t (p + 1) = 47))) (nI p) 0 (nI st.length) (nI (sName t n (sTq t p))) (nI (stoM nd)) (n + 1) (sNameEnd t n (sTq t p)) 1000 [] R code (by omega) (by omega) (by omega) ⟨fun q hq => by simp at hq, List.Pairwise.nil⟩ (by show 0 + p ≤ _; omega) (RJ.nil h)
    rw [g1, Option.bind_some]
    dsimp only
    cases hs : sTagL t n (n + 1) (sNameEnd t n (sTq t p)) [] with
    | none =>
      rw [hs] at g3
      obtain ⟨at2, g3⟩ := g3
      show ∃ (R' : RW) (wh' nm' code' : Int32), (if b2 false = 0 then _ else _) = _ ∧ _
      rw [if_pos (show b2 false = 0 from rfl), pu_gi hw (by decide), pu_gi hw (by decide), nI_clamp (by omega)]
      exact ⟨RWset R1 w (acM nd) (stoM nd), _, _, _, rfl, RWset_RI g3, RWset_FM g2⟩
    | some q =>
      obtain ⟨r, acc⟩ := q
      rw [hs] at g3
      obtain ⟨g3, g4⟩ := g3
      have hu := sTagL_up ht hg hs
      have hGA := sTagL_GA ht _ _ _ _ _ (show GA n [] from ⟨fun q hq => by simp at hq, List.Pairwise.nil⟩) hs
      have hGV := GA_vals ht hGA
      have h26 := len26 (fun q hq => (hGV.1 q hq).1) hGV.2
      have hv := sVals_vLen t acc
      show ∃ (R' : RW) (wh' nm' code' : Int32), (if b2 true = 0 then _ else _) = _ ∧ _
      rw [if_neg (show ¬ b2 true = 0 by decide), nI_1, g3]
      simp only [b2_0]
      unfold f_X10_tag_L229 f_X10_tag_L249
      rw [pu_gi hw (by decide), pu_gi hw (by decide), nI_clamp (show w < 2 ^ 31 by omega)]
      cases hen : decide (t (p + 1) = 47) with
      | true =>
        rw [if_neg (by decide), if_neg (show ¬ b2 true = 0 by decide)]
        simp only [if_true]
        obtain ⟨R2, k1, k2, k3, k4, k5, k6, k7, k8, k9⟩ := endsR (l := sName t n (sTq t p)) hw hname hS (by omega) (by omega) (RWset_RI g4)
        have k1' : f_X10_ends (nI w) 0 (nI st.length) R1.ct R1.kd R1.le R1.pr R1.dp R1.fo R1.fr R1.to (upd R1.ac w (nI (acM nd))) R1.ow (upd R1.sd w (nI (stoM nd))) R1.op (nI (sName t n (sTq t p))) (nI (acM nd)) = some (oE 0 (sEnd (sName t n (sTq t p)) st nd).1.length R2) := k1
        rw [k1', Option.bind_some]
        refine ⟨R2, b2 true, nI (sName t n (sTq t p)), code1, ?_, k2, (RWset_FM g2).trans k9⟩
        have k3' : R2.ac = upd R1.ac w (nI (acM nd)) := k3
        have k4' : R2.sd = upd R1.sd w (nI (stoM nd)) := k4
        have k5' : R2.so = R1.so := k5
        have k6' : R2.an = R1.an := k6
        have k7' : R2.vf = R1.vf := k7
        have k8' : R2.vt = R1.vt := k8
        unfold oT oE
        dsimp only
        rw [k3', k4', k5', k6', k7', k8']
        rfl
      | false =>
        rw [if_pos rfl]
        simp only [Bool.false_eq_true, if_false]
        obtain ⟨R2, k1, k2, k3, k4, k5, k6, k7, k8, k9⟩ := startsR (l := sName t n (sTq t p)) (at' := sVals t acc) hw hname hS (by omega) (by omega) g4 0
        rw [k1, Option.bind_some]
        cases hf : sFull (sName t n (sTq t p)) (sPrep (sName t n (sTq t p)) st) with
        | true =>
          rw [hf, if_pos rfl] at k2
          subst k2
          rw [sStart_full hf]
          simp only [if_true]
          unfold oS
          dsimp only
          rw [if_pos rfl, if_pos (show b2 false = 0 from rfl), pu_gi hw (by decide), pu_gi hw (by decide)]
          refine ⟨RWset R2 w (acM nd) (stoM nd), _, _, _, rfl, ?_, RWset_FM g2⟩
          refine RWset_RI (at' := sVals t acc) ?_
          obtain ⟨a, e⟩ := sPrep_suf (sName t n (sTq t p)) st
          have hx := g4.rs
          rw [e] at hx
          exact ⟨g4.rt, hx.suf a, g4.ct, g4.sd, g4.ac, g4.ra⟩
        | false =>
          rw [hf] at k2
          simp only [Bool.false_eq_true, if_false] at k2
          rw [sStart_put hf]
          simp only [Bool.false_eq_true, if_false]
          unfold oS
          dsimp only
          rw [if_neg (show ¬ (1 : Int32) = 0 by decide), if_pos (show b2 false = 0 from rfl)]
          refine ⟨R2, b2 true, nI (sName t n (sTq t p)), code1, ?_, k2, g2.trans k9⟩
          unfold oT
          rw [k3, k4, k5, k6, k7, k8, Bool.true_and]
          rfl
  unfold f_X10_tag
  rw [pu_gi hw (by decide), pu_gi hw (by decide), nI_clamp (show w < 2 ^ 31 by omega), h.sd, h.ac]
  rw [sTok_tag hp hm hg] at h33
  simp only [b2_0]
  by_cases c47 : t (p + 1) = 47
  · rw [if_neg (by simp [c47])]
    exact h33 2 (by unfold sTq; rw [if_pos (by simp [c47])]; exact nI_add p 2)
  · rw [if_pos (by simp [c47])]
    exact h33 1 (by unfold sTq; rw [if_neg (by simp [c47])]; exact nI_1 p)
theorem rawTokR {t row : Nat → Int32} {n w p : Nat} {nd : List Nd} {st : Stk} {R : RW} (ht : TX t n row) (hw : w < 2) (hS : PI n (p, true, st, nd)) (hp : p < n) (h : RI w nd st R) (wh nm code : Int32) : ∃ (R' : RW) (wh' nm' code' : Int32), f_X10_token (nI n) (nI w) (nI p) (b2 true) (nI st.length) wh nm code row R.ct R.kd R.le R.pr R.dp R.fo R.fr R.to R.ac R.ow R.an R.vf R.vt R.sd R.so R.op = some (oT (sTok t n (p, true, st, nd)).1 (sTok t n (p, true, st, nd)).2.1 (sTok t n (p, true, st, nd)).2.2.1.length wh' nm' code' R') ∧ RI w (sTok t n (p, true, st, nd)).2.2.2 (sTok t n (p, true, st, nd)).2.2.1 R' ∧ FM w R R' := by
  have hn := ht.1
  have hf := sFind_le (sRawEnd t) (n - p) p
  rw [sTok_raw hp]
  unfold f_X10_token
  rw [if_neg (show ¬ b2 true = 0 by decide), rawEndR ht (by omega), Option.bind_some]
  obtain ⟨R', g1, g2, g3⟩ := rawL17 (e := sFind (sRawEnd t) (n - p) p) (st := st) ht hw (by omega) wh nm code (sFind (sRawEnd t) (n - p) p - p) p 1000 nd R (by omega) (by omega) (hS.pos (Nat.le_refl _) (by omega)) h
  rw [g1]
  exact ⟨R', wh, nm, code, rfl, g2, g3⟩
theorem textTokR {t row : Nat → Int32} {n w p : Nat} {nd : List Nd} {st : Stk} {R : RW} (ht : TX t n row) (hw : w < 2) (hS : PI n (p, false, st, nd)) (hp : p < n) (hm : sMark t p = false) (h : RI w nd st R) (wh nm code : Int32) : ∃ (R' : RW) (wh' nm' code' : Int32), f_X10_token_L337 (nI n) (nI w) row (nI p) 0 (nI st.length) wh nm code R.ct R.kd R.le R.pr R.dp R.fo R.fr R.to R.ac R.ow R.an R.vf R.vt R.sd R.so R.op = some (oT (sTok t n (p, false, st, nd)).1 (sTok t n (p, false, st, nd)).2.1 (sTok t n (p, false, st, nd)).2.2.1.length wh' nm' code' R') ∧ RI w (sTok t n (p, false, st, nd)).2.2.2 (sTok t n (p, false, st, nd)).2.2.1 R' ∧ FM w R R' := by
  have hn := ht.1
  have hb2 : nd.length ≤ p := hS.bd.2.1
  have hb3 : stoM nd ≤ p := hS.bd.2.2.1
  rw [sTok_text ht hp hm]
  unfold f_X10_token_L337 f_X10_token_L371
  cases hr : sRef t p with
  | none =>
    obtain ⟨c1, k1⟩ := refR0 (e := n) ht (show p < 2 ^ 27 by omega) (by omega) code (Or.inl hr)
    obtain ⟨R', g1, e1, e2, e3, e4, e5, e6, g2, g3⟩ := letR hw hS (by omega) (by omega) h (t p)
    rw [k1, Option.bind_some]
    dsimp only
    rw [if_pos (show (0 : Int32) ≤ 0 from Int32.le_refl 0), pu_gi (by omega) (by decide), nI_clamp (by omega), ← ht.lt hp, g1, Option.bind_some, if_pos (show (0 : Int32) ≤ 0 from Int32.le_refl 0), nI_1]
    refine ⟨R', wh, nm, c1, ?_, g2, g3⟩
    unfold oT
    rw [e1, e2, e3, e4, e5, e6]
    rfl
  | some q =>
    obtain ⟨c, s⟩ := q
    have hs := sRef_in hr
    have hfit := sRef_fit ht hr (Or.inl rfl) hp
    have k1 := refR1 (e := n) ht (show p < 2 ^ 27 by omega) (by omega) code hr hfit
    obtain ⟨R', g1, e1, e2, e3, e4, e5, e6, g2, g3⟩ := letR hw hS (by omega) (by omega) h (nI c)
    rw [k1, Option.bind_some]
    dsimp only
    rw [if_neg (show ¬ nI s ≤ 0 from nI_nle (by omega) (by omega)), g1, Option.bind_some, if_neg (show ¬ nI s ≤ 0 from nI_nle (by omega) (by omega)), nI_add]
    refine ⟨R', wh, nm, nI c, ?_, g2, g3⟩
    unfold oT
    rw [e1, e2, e3, e4, e5, e6]
    rfl
theorem comL130 {t row : Nat → Int32} {n w : Nat} (h : TX t n row) (pos raw oc wh nm code : Int32) (R : RW) : ∀ (j p f : Nat), n - p = j → p ≤ n → j < f → f_X10_token_L130 (nI n) (nI w) row f pos raw oc wh nm code R.ct R.kd R.le R.pr R.dp R.fo R.fr R.to R.ac R.ow R.an R.vf R.vt R.sd R.so R.op (nI p) = some (pos, raw, oc, wh, nm, code, R.ct, R.kd, R.le, R.pr, R.dp, R.fo, R.fr, R.to, R.ac, R.ow, R.an, R.vf, R.vt, R.sd, R.so, R.op, nI (sFind (fun i => decide (t i = 45) && decide (t (i + 1) = 45) && decide (t (i + 2) = 62)) j p)) := by
  have hn := h.1
  intro j
  induction j with
  | zero =>
    intro p f hp hp4 hf
    obtain ⟨f, rfl⟩ : ∃ g, f = g + 1 := ⟨f - 1, by omega⟩
    rw [f_X10_token_L130, if_pos (nI_le (by omega) (by omega))]
    rfl
  | succ j ih =>
    intro p f hp hp4 hf
    obtain ⟨f, rfl⟩ : ∃ g, f = g + 1 := ⟨f - 1, by omega⟩
    rw [f_X10_token_L130, if_neg (nI_ge (by omega) (by omega)), pu_gi (by omega) (by decide), nI_clamp (by omega), ← h.lt (show p < n by omega)]
    simp only [f_X10_token_L173]
    rw [nI_1, show nI p + 2 = nI (p + 2) from nI_add p 2, atR h (by omega), Option.bind_some, atR h (by omega), Option.bind_some, ih (p + 1) f (by omega) (by omega) (by omega)]
    rw [show sFind (fun i => decide (t i = 45) && decide (t (i + 1) = 45) && decide (t (i + 2) = 62)) (j + 1) p = if (decide (t p = 45) && decide (t (p + 1) = 45) && decide (t (p + 2) = 62)) = true then p else sFind (fun i => decide (t i = 45) && decide (t (i + 1) = 45) && decide (t (i + 2) = 62)) j (p + 1) from rfl]
    generalize sFind (fun i => decide (t i = 45) && decide (t (i + 1) = 45) && decide (t (i + 2) = 62)) j (p + 1) = z
    by_cases c1 : t p = 45
    · by_cases c2 : t (p + 1) = 45
      · by_cases c3 : t (p + 2) = 62 <;> simp [c1, c2, c3]
      · simp [c1, c2]
    · simp [c1]
theorem comTok1 {t row : Nat → Int32} {n w p : Nat} {nd : List Nd} {st : Stk} {R : RW} (ht : TX t n row) (hw : w < 2) (hS : PI n (p, false, st, nd)) (hp : p < n) (hm : sMark t p = true) (hg : sIsTag t p = false) (hl : sLong t p = false) (h : RI w nd st R) (wh nm code : Int32) : ∃ (R' : RW) (wh' nm' code' : Int32), f_X10_token_L253 (nI n) (nI w) row (nI p) 0 (nI st.length) wh nm code R.ct R.kd R.le R.pr R.dp R.fo R.fr R.to R.ac R.ow R.an R.vf R.vt R.sd R.so R.op = some (oT (sTok t n (p, false, st, nd)).1 (sTok t n (p, false, st, nd)).2.1 (sTok t n (p, false, st, nd)).2.2.1.length wh' nm' code' R') ∧ RI w (sTok t n (p, false, st, nd)).2.2.2 (sTok t n (p, false, st, nd)).2.2.1 R' ∧ FM w R R' := by
  have hn := ht.1
  have hm2 := sMark_lt ht hm
  have hc := sCe2_le (t := t) hm2
  rw [sTok_com hp hm hg, if_neg (by rw [hl]; decide)]
  unfold f_X10_token_L253
  rw [show nI p + 2 = nI (p + 2) from nI_add p 2, seekR ht hm2, Option.bind_some]
  rw [show sFind (fun i => decide (t i = 62)) (n - (p + 2)) (p + 2) = sCe2 t n p from rfl]
  obtain ⟨R', g1, e1, e2, e3, e4, e5, e6, g2, g3⟩ := comR (b := p + 2) (e := sCe2 t n p) ht hw hS hc.1 hc.2 (by omega) h
  rw [g1, Option.bind_some]
  refine ⟨R', wh, nm, code, ?_, g2, g3⟩
  unfold oT
  rw [e1, e2, e3, e4, e5, e6]
  dsimp only
  by_cases c : sCe2 t n p < n
  · rw [if_neg (nI_ge c (by omega)), if_pos c, nI_1]
    rfl
  · rw [if_pos (nI_le (by omega) (by omega)), if_neg c]
    rfl
theorem tokR {t row : Nat → Int32} {n w p : Nat} {raw : Bool} {nd : List Nd} {st : Stk} {R : RW} (ht : TX t n row) (hw : w < 2) (hS : PI n (p, raw, st, nd)) (hp : p < n) (h : RI w nd st R) (wh nm code : Int32) : ∃ (R' : RW) (wh' nm' code' : Int32), f_X10_token (nI n) (nI w) (nI p) (b2 raw) (nI st.length) wh nm code row R.ct R.kd R.le R.pr R.dp R.fo R.fr R.to R.ac R.ow R.an R.vf R.vt R.sd R.so R.op = some (oT (sTok t n (p, raw, st, nd)).1 (sTok t n (p, raw, st, nd)).2.1 (sTok t n (p, raw, st, nd)).2.2.1.length wh' nm' code' R') ∧ RI w (sTok t n (p, raw, st, nd)).2.2.2 (sTok t n (p, raw, st, nd)).2.2.1 R' ∧ FM w R R' := by
  have hn := ht.1
  cases raw with
  | true => exact rawTokR ht hw hS hp h wh nm code
  | false =>
    have h337 := fun hm => textTokR ht hw hS hp hm h wh nm code
    have h253 := fun hm hg hl => comTok1 ht hw hS hp hm hg hl h wh nm code
    have htag := fun hm hg => tagR ht hw hS hp hm hg h wh nm code
    unfold f_X10_token
    rw [if_pos (show b2 false = 0 from rfl), show b2 false = 0 from rfl, pu_gi (show p < 200 by omega) (by decide), nI_clamp (show p < 2 ^ 31 by omega), ← ht.lt hp]
    have l33 : sLet 33 = false := by decide
    have l63 : sLet 63 = false := by decide
    have l47 : sLet 47 = false := by decide
    by_cases c60 : t p = 60
    · rw [if_pos c60]
      unfold f_X10_token_L71
      rw [nI_1, show nI p + 2 = nI (p + 2) from nI_add p 2, show nI p + 3 = nI (p + 3) from nI_add p 3, show nI p + 4 = nI (p + 4) from nI_add p 4, atR ht (by omega), Option.bind_some, atR ht (by omega), Option.bind_some, atR ht (by omega), Option.bind_some, if_neg (show ¬ (1 : Int32) = 0 by decide)]
      unfold f_X10_token_L215 f_X10_token_L302
      rw [if_neg (show ¬ (1 : Int32) = 0 by decide), if_neg (show ¬ (1 : Int32) = 0 by decide), show nI p + 2 = nI (p + 2) from nI_add p 2, atR ht (by omega), Option.bind_some, sLetR, Option.bind_some, sLetR, Option.bind_some]
      unfold f_X10_token_L319 f_X10_token_L331
      by_cases c33 : t (p + 1) = 33
      · have hm : sMark t p = true := by unfold sMark; simp [c60, c33]
        have hg : sIsTag t p = false := by unfold sIsTag; simp [c33, l33]
        have hgo := h253 hm hg
        simp only [if_pos c33]
        by_cases cl : t (p + 2) = 45 ∧ t (p + 3) = 45
        · have hl : sLong t p = true := by unfold sLong; simp [c33, cl]
          have hc := sCe1_le ht hl
          rw [if_pos cl.1, if_pos cl.2, comL130 ht _ _ _ _ _ _ R (n - (p + 4)) (p + 4) 1000 rfl (by omega) (by omega), Option.bind_some]
          rw [sTok_com hp hm hg, if_pos hl]
          dsimp only
          rw [show sFind (fun i => decide (t i = 45) && decide (t (i + 1) = 45) && decide (t (i + 2) = 62)) (n - (p + 4)) (p + 4) = sCe1 t n p from rfl, show nI p + 4 = nI (p + 4) from nI_add p 4]
          obtain ⟨R', g1, e1, e2, e3, e4, e5, e6, g2, g3⟩ := comR (b := p + 4) (e := sCe1 t n p) ht hw hS hc.1 hc.2.1 (by omega) h
          rw [g1, Option.bind_some]
          refine ⟨R', wh, nm, code, ?_, g2, g3⟩
          unfold oT
          rw [e1, e2, e3, e4, e5, e6]
          by_cases c : sCe1 t n p < n
          · rw [if_neg (nI_ge c (by omega)), if_pos c, show nI (sCe1 t n p) + 3 = nI (sCe1 t n p + 3) from nI_add _ 3]
            rfl
          · rw [if_pos (nI_le (by omega) (by omega)), if_neg c]
            rfl
        · have hl : sLong t p = false := by
            unfold sLong
            by_cases a1 : t (p + 2) = 45
            · have a2 : ¬ t (p + 3) = 45 := fun q => cl ⟨a1, q⟩
              simp [a2]
            · simp [a1]
          have hgo := hgo hl
          by_cases a1 : t (p + 2) = 45
          · have a2 : ¬ t (p + 3) = 45 := fun q => cl ⟨a1, q⟩
            rw [if_pos a1, if_neg a2]
            exact hgo
          · rw [if_neg a1]
            exact hgo
      · simp only [if_neg c33]
        have hl : sLong t p = false := by unfold sLong; simp [c33]
        by_cases c63 : t (p + 1) = 63
        · have hm : sMark t p = true := by unfold sMark; simp [c60, c63]
          have hg : sIsTag t p = false := by unfold sIsTag; simp [c63, l63]
          rw [if_pos c63]
          exact h253 hm hg hl
        · rw [if_neg c63]
          by_cases c47 : t (p + 1) = 47
          · have hm : sMark t p = true := by unfold sMark; simp [c60, c47]
            have e1 : sLet (t (p + 1)) = false := by rw [c47]; exact l47
            rw [if_pos c47, e1]
            cases hq : sLet (t (p + 2)) with
            | false =>
              have hg : sIsTag t p = false := by unfold sIsTag; simp [e1, hq]
              rw [if_pos (by decide)]
              exact h253 hm hg hl
            | true =>
              have hg : sIsTag t p = true := by unfold sIsTag; simp [c47, hq]
              rw [if_neg (by decide), if_pos (by decide), if_pos c47]
              obtain ⟨R', wh', nm', code', g1, g2, g3⟩ := htag hm hg
              have e2 : b2 (decide (t (p + 1) = 47)) = 1 := by simp [c47, b2]
              rw [e2] at g1
              refine ⟨R', wh', nm', code', ?_, g2, g3⟩
              rw [if_pos c47, g1]
              rfl
          · rw [if_neg c47, if_neg c47]
            cases hq : sLet (t (p + 1)) with
            | false =>
              have hm : sMark t p = false := by unfold sMark; simp [c33, c63, c47, hq]
              rw [if_pos (by decide)]
              exact h337 hm
            | true =>
              have hm : sMark t p = true := by unfold sMark; simp [c60, hq]
              have hg : sIsTag t p = true := by unfold sIsTag; simp [hq]
              rw [if_neg (by decide)]
              obtain ⟨R', wh', nm', code', g1, g2, g3⟩ := htag hm hg
              have e2 : b2 (decide (t (p + 1) = 47)) = 0 := by simp [c47, b2]
              rw [e2] at g1
              refine ⟨R', wh', nm', code', ?_, g2, g3⟩
              rw [if_neg c47, g1]
              rfl
    · have hm : sMark t p = false := by unfold sMark; simp [c60]
      rw [if_neg c60]
      unfold f_X10_token_L71
      rw [nI_1, atR ht (by omega), Option.bind_some, if_pos (show (0 : Int32) = 0 from rfl)]
      unfold f_X10_token_L215
      rw [if_pos (show (0 : Int32) = 0 from rfl)]
      unfold f_X10_token_L302
      rw [if_pos (show (0 : Int32) = 0 from rfl)]
      exact h337 hm
theorem readL45 {t row : Nat → Int32} {n w : Nat} (ht : TX t n row) (hw : w < 2) : ∀ (m f : Nat) (S : PS) (R : RW) (wh nm code : Int32), 2 * (n - S.1) + rB S.2.1 ≤ m → m < f → PI n S → RI w S.2.2.2 S.2.2.1 R → ∃ (k : Nat) (R' : RW) (o1 o2 o3 wh' nm' code' : Int32), f_X10_read_L45 (nI n) (nI w) row f (nI S.1) (b2 S.2.1) (nI S.2.2.1.length) wh nm code R.ct R.kd R.le R.pr R.dp R.fo R.fr R.to R.ac R.ow R.an R.vf R.vt R.sd R.so R.op = some (o1, o2, o3, wh', nm', code', R'.ct, R'.kd, R'.le, R'.pr, R'.dp, R'.fo, R'.fr, R'.to, R'.ac, R'.ow, R'.an, R'.vf, R'.vt, R'.sd, R'.so, R'.op) ∧ n ≤ (sIter t n k S).1 ∧ RI w (sIter t n k S).2.2.2 (sIter t n k S).2.2.1 R' ∧ FM w R R' := by
  have hn := ht.1
  intro m
  induction m using Nat.strongRecOn with
  | ind m ih =>
    intro f S R wh nm code hm hf hS h
    obtain ⟨f, rfl⟩ : ∃ g, f = g + 1 := ⟨f - 1, by omega⟩
    have hSn : S.1 ≤ n := hS.bd.1
    rw [f_X10_read_L45]
    by_cases hend : n ≤ S.1
    · rw [if_pos (nI_le hend (by omega))]
      exact ⟨0, R, _, _, _, _, _, _, rfl, hend, h, FM.refl w R⟩
    · rw [if_neg (nI_ge (show S.1 < n by omega) (by omega))]
      have hstep := sTok_PI ht hS (show S.1 < n by omega)
      obtain ⟨R1, wh1, nm1, code1, g1, g2, g3⟩ := tokR (raw := S.2.1) (st := S.2.2.1) (nd := S.2.2.2) ht hw hS (show S.1 < n by omega) h wh nm code
      rw [g1, Option.bind_some]
      have r0 : rB false = 0 := rfl
      have r1 : rB true = 1 := rfl
      have rle : rB (sTok t n S).2.1 ≤ 1 := by cases (sTok t n S).2.1 <;> decide
      have hdec : 2 * (n - (sTok t n S).1) + rB (sTok t n S).2.1 < 2 * (n - S.1) + rB S.2.1 := by
        cases hr : S.2.1 with
        | true =>
          rw [hstep.2.2.1 hr, r0, r1]
          have := hstep.2.1
          omega
        | false =>
          have := hstep.2.2.2.1 hr
          rw [r0]
          omega
      obtain ⟨k, R2, o1, o2, o3, wh2, nm2, code2, k1, k2, k3, k4⟩ := ih (2 * (n - (sTok t n S).1) + rB (sTok t n S).2.1) (by omega) f (sTok t n S) R1 wh1 nm1 code1 (Nat.le_refl _) (by omega) hstep.1 g2
      exact ⟨k + 1, R2, o1, o2, o3, wh2, nm2, code2, k1, k2, k3, g3.trans k4⟩
theorem readR {t row : Nat → Int32} {n w : Nat} (ht : TX t n row) (hw : w < 2) (R : RW) (p0 r0 o0 wh nm code : Int32) : ∃ (k : Nat) (R' : RW) (o1 o2 o3 wh' nm' code' : Int32), f_X10_read (nI n) (nI w) p0 r0 o0 wh nm code row R.ct R.kd R.le R.pr R.dp R.fo R.fr R.to R.ac R.ow R.an R.vf R.vt R.sd R.so R.op = some (o1, o2, o3, wh', nm', code', R'.ct, R'.kd, R'.le, R'.pr, R'.dp, R'.fo, R'.fr, R'.to, R'.ac, R'.ow, R'.an, R'.vf, R'.vt, R'.sd, R'.so, R'.op) ∧ n ≤ (sIter t n k (0, false, [], [])).1 ∧ RI w (sIter t n k (0, false, [], [])).2.2.2 (sIter t n k (0, false, [], [])).2.2.1 R' ∧ FM w R R' := by
  have hn := ht.1
  have h0 : RI w [] [] ⟨upd R.ct w (nI 0), R.kd, R.le, R.pr, R.dp, R.fo, R.fr, R.to, upd R.ac w (nI 0), R.ow, R.an, R.vf, R.vt, upd R.sd w (nI 0), R.so, R.op⟩ := ⟨trivial, trivial, pk_us, pk_us, pk_us⟩
  have hf0 : FM w R ⟨upd R.ct w (nI 0), R.kd, R.le, R.pr, R.dp, R.fo, R.fr, R.to, upd R.ac w (nI 0), R.ow, R.an, R.vf, R.vt, upd R.sd w (nI 0), R.so, R.op⟩ := ⟨fun i hi => ⟨pk_un (by omega), pk_un (by omega), pk_un (by omega)⟩, fun i hi => ⟨rfl, rfl, rfl, rfl, rfl, rfl, rfl, rfl⟩, fun i hi => ⟨rfl, rfl, rfl, rfl⟩⟩
  obtain ⟨k, R', o1, o2, o3, wh', nm', code', k1, k2, k3, k4⟩ := readL45 ht hw (2 * n) 1000 (0, false, [], []) _ wh nm code (by show 2 * (n - 0) + 0 ≤ 2 * n; omega) (by omega) (PI0 n) h0
  refine ⟨k, R', o1, o2, o3, wh', nm', code', ?_, k2, k3, hf0.trans k4⟩
  unfold f_X10_read
  rw [pu_gi hw (by decide), pu_gi hw (by decide), pu_gi hw (by decide), nI_clamp (show w < 2 ^ 31 by omega)]
  have k1' : f_X10_read_L45 (nI n) (nI w) row 1000 0 0 0 wh nm code (upd R.ct w 0) R.kd R.le R.pr R.dp R.fo R.fr R.to (upd R.ac w 0) R.ow R.an R.vf R.vt (upd R.sd w 0) R.so R.op = some (o1, o2, o3, wh', nm', code', R'.ct, R'.kd, R'.le, R'.pr, R'.dp, R'.fo, R'.fr, R'.to, R'.ac, R'.ow, R'.an, R'.vf, R'.vt, R'.sd, R'.so, R'.op) := k1
  rw [k1']
  rfl
