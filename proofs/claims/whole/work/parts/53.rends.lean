/-! the reference: starts and ends -/
theorem RSs_of {op kd le pr dp fo fr to so ow an vf vt : Nat → Int32} {B A : Nat} {nd : List Nd} (ht : RT B A kd le pr dp fo fr to so ow an vf vt nd) (hl : nd.length ≤ 256) (hw : ∀ x ∈ nd, WN x) {st : Stk} (h8 : st.length ≤ 8) (hx : RSx op B nd st) (hi : IXc nd st) : RSs op le fo B st := by
  refine ⟨h8, fun a s e => ?_⟩
  rw [e] at hx hi
  exact ⟨ixN nd s, (RS_of ht hl hw (hx.suf a) (hi.suf a)).1⟩
def sFin (l : Nat) (s : Stk) : Stk := if l = 0 then sShutT 0 (if l = 11 then sItem s else s) else (if l = 11 then sItem s else s)
theorem starts112 {w l : Nat} {s : Stk} {R : RW} (hw : w < 2) (hl : l ≤ 26) (h : RSs R.op R.le R.fo (256 * w) s) (h11 : ¬ l = 11) (v2 rw0 : Int32) : f_X10_starts_L112 (nI w) R.ac R.sd (nI l) v2 rw0 (nI s.length) R.ct R.kd R.le R.pr R.dp R.fo R.fr R.to R.ow R.op 0 = f_X10_starts_L134 (nI w) R.ac R.sd (nI l) v2 rw0 (nI (sFin l s).length) R.ct R.kd R.le R.pr R.dp R.fo R.fr R.to R.ow R.op := by
  unfold f_X10_starts_L112 sFin
  rw [if_pos rfl, if_neg h11]
  have e0 : (nI l = 0) = (l = 0) := pu_e (b := 0) (by omega) (by decide)
  simp only [e0]
  by_cases c : l = 0
  · subst c
    have := h.shut (l := 0) hw (by decide)
    rw [if_pos rfl, if_pos rfl, show (0 : Int32) = nI 0 from rfl, bind2 this]
  · rw [if_neg c, if_neg c]
theorem starts59 {w l : Nat} {s : Stk} {R : RW} (hw : w < 2) (hl : l ≤ 26) (h : RSs R.op R.le R.fo (256 * w) s) (v2 rw0 : Int32) : f_X10_starts_L59 (nI w) R.ac R.sd (nI l) v2 rw0 (nI s.length) R.ct R.kd R.le R.pr R.dp R.fo R.fr R.to R.ow R.op 0 = f_X10_starts_L134 (nI w) R.ac R.sd (nI l) v2 rw0 (nI (sFin l s).length) R.ct R.kd R.le R.pr R.dp R.fo R.fr R.to R.ow R.op := by
  unfold f_X10_starts_L59
  rw [if_pos rfl]
  have e11 : (nI l = 11) = (l = 11) := pu_e (b := 11) (by omega) (by decide)
  simp only [e11]
  by_cases c : l = 11
  · subst c
    have h8 := h.1
    have hfin : sFin 11 s = sItem s := by unfold sFin; rw [if_neg (by decide), if_pos rfl]
    have h112 : ∀ k : Int32, f_X10_starts_L112 (nI w) R.ac R.sd (nI 11) v2 rw0 k R.ct R.kd R.le R.pr R.dp R.fo R.fr R.to R.ow R.op 0 = f_X10_starts_L134 (nI w) R.ac R.sd (nI 11) v2 rw0 k R.ct R.kd R.le R.pr R.dp R.fo R.fr R.to R.ow R.op := by
      intro k
      unfold f_X10_starts_L112
      rw [if_pos rfl, if_neg (show ¬ nI 11 = 0 by decide)]
    have h108 : f_X10_starts_L108 (nI w) R.ac R.sd (nI 11) v2 rw0 (nI s.length) R.ct R.kd R.le R.pr R.dp R.fo R.fr R.to R.ow R.op 0 = f_X10_starts_L134 (nI w) R.ac R.sd (nI 11) v2 rw0 (nI s.length) R.ct R.kd R.le R.pr R.dp R.fo R.fr R.to R.ow R.op := by
      unfold f_X10_starts_L108 f_X10_starts_L109 f_X10_closeAt
      rw [if_pos rfl, Option.bind_some, h112]
    have hit := sItem_eq2 s
    rw [if_pos rfl, show (11 : Int32) = nI 11 from rfl, show (20 : Int32) = nI 20 from rfl, h.scope hw (by decide) (by decide), Option.bind_some, hfin]
    cases hs : sScope 11 20 s with
    | none =>
      rw [hs] at hit
      have hit : s = sItem s := hit
      show (if (-1 : Int32) = -1 then _ else _) = _
      rw [if_pos rfl, h108, ← hit]
    | some q =>
      obtain ⟨l', r⟩ := q
      rw [hs] at hit
      obtain ⟨a, f, e⟩ := sScope_at hs
      obtain ⟨ix, hx⟩ := h.2 a ((l', f) :: r) e
      obtain ⟨i, is, rfl, g1, g2, g3, g4, g5, g6, g7⟩ := hx.cons
      have hlen := congrArg List.length e
      rw [List.length_append, List.length_cons] at hlen
      have g3 : R.le (256 * w + i) = nI l' := g3
      have g4 : l' ≤ 26 := g4
      show (if nI r.length = -1 then _ else ms_gi (nI r.length) 8 (ms_gi (R.op (nI r.length).toNatClampNeg) 512 (if R.le (R.op (nI r.length).toNatClampNeg).toNatClampNeg = nI 11 then f_X10_starts_L109 (nI w) R.ac R.sd (nI 11) v2 rw0 (nI s.length) R.ct R.kd R.le R.pr R.dp R.fo R.fr R.to R.ow R.op 0 (nI r.length) else f_X10_starts_L108 (nI w) R.ac R.sd (nI 11) v2 rw0 (nI s.length) R.ct R.kd R.le R.pr R.dp R.fo R.fr R.to R.ow R.op 0))) = _
      rw [if_neg (nI_ne (by omega)), nI_clamp (by omega), g1, nI_clamp (by omega), g3, pu_gi (by omega) (by decide), pu_gi (by omega) (by decide), h108]
      have el : (nI l' = nI 11) = (l' = 11) := pu_e (by omega) (by decide)
      simp only [el]
      by_cases c1 : l' = 11
      · subst c1
        have hit : r = sItem s := hit
        rw [if_pos rfl]
        unfold f_X10_starts_L109 f_X10_closeAt
        rw [if_neg (nI_ne (by omega)), Option.bind_some, h112, ← hit]
      · have hit : s = sItem s := by
          rw [← hit]
          split
          · rename_i heq
            cases heq
            exact absurd rfl c1
          · rfl
        rw [if_neg c1, ← hit]
  · rw [if_neg c]
    exact starts112 hw hl h c v2 rw0
theorem sPrep_fin (l : Nat) (st : Stk) (ha : sAlien (sS1 l st) = false) : sPrep l st = sFin l (if sBlock l = true then sShutT 15 (sS1 l st) else sS1 l st) := by
  rw [sPrep_eq, if_neg (by rw [ha]; decide)]
  rfl
theorem sS1_suf (l : Nat) (st : Stk) : ∃ a, st = a ++ sS1 l st := by
  unfold sS1
  split
  · exact sLeave_suf st
  · exact ⟨[], rfl⟩
theorem startsR {n w l p : Nat} {raw : Bool} {nd : List Nd} {st : Stk} {at' : List At} {R : RW} (hw : w < 2) (hl : l ≤ 26) (hS : PI n (p, raw, st, nd)) (hN : nd.length < 200) (h1 : acM nd + at'.length ≤ 128) (h : RJ w nd st at' R) (rw0 : Int32) : ∃ R' : RW, f_X10_starts (nI w) rw0 (nI st.length) R.ct R.kd R.le R.pr R.dp R.fo R.fr R.to R.ac R.ow R.sd R.op (nI l) (nI (acM nd)) = some (if sFull l (sPrep l st) = true then oS rw0 (sPrep l st).length R' 0 else oS (b2 (sRawAt l st)) (if sStays l (sPrep l st) = true then (l, sFor l (sPrep l st)) :: sPrep l st else sPrep l st).length R' 1) ∧ (if sFull l (sPrep l st) = true then R' = R else RI w (sNode l (sPrep l st) at' :: nd) (if sStays l (sPrep l st) = true then (l, sFor l (sPrep l st)) :: sPrep l st else sPrep l st) R') ∧ R'.ac = R.ac ∧ R'.sd = R.sd ∧ R'.so = R.so ∧ R'.an = R.an ∧ R'.vf = R.vf ∧ R'.vt = R.vt ∧ FM w R R' := by
  have h8 : st.length ≤ 8 := hS.le
  have hP := hS.prep l raw
  have hJ : RJ w nd (sPrep l st) at' R := by
    obtain ⟨a, e⟩ := sPrep_suf l st
    have hx := h.rs
    rw [e] at hx
    exact ⟨h.rt, hx.suf a, h.ct, h.sd, h.ac, h.ra⟩
  have hR := RSs_of h.rt (by omega) hS.wf h8 h.rs hS.ix
  have hR1 := hR.sufE (sS1_suf l st)
  obtain ⟨R', g1, g2⟩ := starts134 hw hl hP hN h1 hJ rw0
  refine ⟨R', ?_, g2⟩
  unfold f_X10_starts
  rw [startsL0 hw hl rw0 (nI (acM nd)) R.ac R.sd R.ct R.kd R.pr R.dp R.fr R.to R.ow st 1000 hR (by omega), Option.bind_some]
  dsimp only
  rw [hR1.alien hw, Option.bind_some, blockR hl, Option.bind_some]
  simp only [b2_0]
  cases ha : sAlien (sS1 l st) with
  | true =>
    have e : sPrep l st = sS1 l st := by rw [sPrep_eq, if_pos ha]
    rw [if_neg (by decide), ← e]
    unfold f_X10_starts_L59 f_X10_starts_L112
    rw [if_neg (show ¬ b2 true = 0 by decide), if_neg (show ¬ b2 true = 0 by decide)]
    exact g1
  | false =>
    have e := sPrep_fin l st ha
    rw [if_pos rfl]
    cases hb : sBlock l with
    | false =>
      rw [hb, if_neg (by decide)] at e
      rw [if_pos rfl]
      show f_X10_starts_L59 (nI w) R.ac R.sd (nI l) (nI (acM nd)) rw0 (nI (sS1 l st).length) R.ct R.kd R.le R.pr R.dp R.fo R.fr R.to R.ow R.op 0 = _
      rw [starts59 hw hl hR1, ← e]
      exact g1
    | true =>
      rw [hb, if_pos rfl] at e
      rw [if_neg (by decide), show (15 : Int32) = nI 15 from rfl, bind2 (hR1.shut (l := 15) hw (by decide))]
      show f_X10_starts_L59 (nI w) R.ac R.sd (nI l) (nI (acM nd)) rw0 (nI (sShutT 15 (sS1 l st)).length) R.ct R.kd R.le R.pr R.dp R.fo R.fr R.to R.ow R.op 0 = _
      rw [starts59 hw hl (hR1.sufE (sShutT_suf 15 (sS1 l st))), ← e]
      exact g1
/-! ends -/
def sStop (f0 : Bool) (l : Nat) : Stk → Stk
  | [] => []
  | (l', f') :: r => if f' = f0 then (if l' = l then (l', f') :: r else sStop f0 l r) else (l', f') :: r
theorem sStop_tail (f0 : Bool) (l : Nat) : ∀ s : Stk, sTail f0 l s = match sStop f0 l s with
    | [] => none
    | (_, f') :: r => if f' = f0 then some r else none
  | [] => rfl
  | (l', f') :: s => by
    unfold sTail sStop
    by_cases c : f' = f0
    · rw [if_pos c, if_pos c]
      by_cases c2 : l' = l
      · rw [if_pos c2, if_pos c2]
        show some s = if f' = f0 then some s else none
        rw [if_pos c]
      · rw [if_neg c2, if_neg c2]
        exact sStop_tail f0 l s
    · rw [if_neg c, if_neg c]
      show none = if f' = f0 then some s else none
      rw [if_neg c]
theorem sStop_suf (f0 : Bool) (l : Nat) : ∀ s : Stk, ∃ a, s = a ++ sStop f0 l s
  | [] => ⟨[], rfl⟩
  | (l', f') :: s => by
    unfold sStop
    split
    · split
      · exact ⟨[], rfl⟩
      · obtain ⟨a, e⟩ := sStop_suf f0 l s
        exact ⟨(l', f') :: a, by rw [List.cons_append, ← e]⟩
    · exact ⟨[], rfl⟩
theorem endsL7 {w l : Nat} {x0 : Nat × Bool} {r0 : Stk} {R : RW} (hw : w < 2) (hl : l ≤ 26) (h : RSs R.op R.le R.fo (256 * w) (x0 :: r0)) (v2 raw : Int32) : ∀ (s : Stk) (a : Stk) (f : Nat), x0 :: r0 = a ++ s → s.length < f → f_X10_ends_L7 (nI w) R.ac R.sd (nI l) v2 f raw (nI (r0.length + 1)) R.ct R.kd R.le R.pr R.dp R.fo R.fr R.to R.ow R.op (sIx s) = some (raw, nI (r0.length + 1), R.ct, R.kd, R.le, R.pr, R.dp, R.fo, R.fr, R.to, R.ow, R.op, sIx (sStop x0.2 l s)) := by
  have h8 : r0.length + 1 ≤ 8 := h.1
  obtain ⟨ix0, hx0⟩ := h.2 [] _ rfl
  obtain ⟨i0, is0, rfl, t1, t2, t3, t4, t5, t6, t7⟩ := hx0.cons
  intro s
  induction s with
  | nil =>
    intro a f e hf
    obtain ⟨f, rfl⟩ : ∃ g, f = g + 1 := ⟨f - 1, by omega⟩
    rw [f_X10_ends_L7, if_pos (show sIx [] < 0 by decide)]
    rfl
  | cons x r ih =>
    intro a f e hf
    obtain ⟨f, rfl⟩ : ∃ g, f = g + 1 := ⟨f - 1, by omega⟩
    obtain ⟨l', f'⟩ := x
    have hlen := congrArg List.length e
    rw [List.length_append, List.length_cons, List.length_cons] at hlen
    have hf2 : r.length + 1 < f + 1 := hf
    obtain ⟨ix, hx⟩ := h.2 a ((l', f') :: r) e
    obtain ⟨i, is, rfl, g1, g2, g3, g4, g5, g6, g7⟩ := hx.cons
    have g3 : R.le (256 * w + i) = nI l' := g3
    have g4 : l' ≤ 26 := g4
    have g5 : R.fo (256 * w + i) = b2 f' := g5
    have ih' := ih (a ++ [(l', f')]) f (by rw [e, List.append_assoc]; rfl) (by omega)
    rw [f_X10_ends_L7, show sIx ((l', f') :: r) = nI r.length from rfl, if_neg (nI_pos (by omega)), nI_pred, nI_clamp (show r.length < 2 ^ 31 by omega), nI_clamp (show r0.length < 2 ^ 31 by omega), g1, t1, nI_clamp (show 256 * w + i < 2 ^ 31 by omega), nI_clamp (show 256 * w + i0 < 2 ^ 31 by omega), g5, t5, g3, pu_gi (show r.length < 8 by omega) (by decide), pu_gi (show 256 * w + i < 512 by omega) (by decide), pu_gi (show r0.length < 8 by omega) (by decide), pu_gi (show 256 * w + i0 < 512 by omega) (by decide), pu_gi (show r.length < 8 by omega) (by decide), pu_gi (show 256 * w + i < 512 by omega) (by decide)]
    have el : (nI l' = nI l) = (l' = l) := pu_e (by omega) (by omega)
    simp only [b2_e, el]
    unfold sStop
    by_cases c1 : f' = x0.2
    · rw [if_pos c1, if_pos c1]
      by_cases c2 : l' = l
      · rw [if_pos c2, if_pos c2]
        rfl
      · rw [if_neg c2, if_neg c2, show nI r.length + (-1) = sIx r from sIx_pred (l', f') r (by omega)]
        exact ih'
    · rw [if_neg c1, if_neg c1]
      rfl
def oE (raw : Int32) (k : Nat) (R : RW) : Int32 × Int32 × RowF × RowF × RowF × RowF × RowF × RowF × RowF × RowF × RowF × RowF := (raw, nI k, R.ct, R.kd, R.le, R.pr, R.dp, R.fo, R.fr, R.to, R.ow, R.op)
theorem RJ.nil {w : Nat} {nd : List Nd} {st : Stk} {R : RW} (h : RI w nd st R) : RJ w nd st [] R := ⟨h.rt, h.rs, h.ct, h.sd, h.ac, trivial⟩
theorem RI.suf {w : Nat} {nd : List Nd} {a st : Stk} {R : RW} (h : RI w nd (a ++ st) R) : RI w nd st R := ⟨h.rt, h.rs.suf a, h.ct, h.sd, h.ac⟩
theorem endsR {n w l p : Nat} {raw : Bool} {nd : List Nd} {st : Stk} {R : RW} (hw : w < 2) (hl : l ≤ 26) (hS : PI n (p, raw, st, nd)) (hN : nd.length < 200) (h1 : acM nd ≤ 100) (h : RI w nd st R) : ∃ R' : RW, f_X10_ends (nI w) 0 (nI st.length) R.ct R.kd R.le R.pr R.dp R.fo R.fr R.to R.ac R.ow R.sd R.op (nI l) (nI (acM nd)) = some (oE 0 (sEnd l st nd).1.length R') ∧ RI w (sEnd l st nd).2 (sEnd l st nd).1 R' ∧ R'.ac = R.ac ∧ R'.sd = R.sd ∧ R'.so = R.so ∧ R'.an = R.an ∧ R'.vf = R.vf ∧ R'.vt = R.vt ∧ FM w R R' := by
  have h8 : st.length ≤ 8 := hS.le
  have hR := RSs_of h.rt (by omega) hS.wf h8 h.rs hS.ix
  -- not found
  have hno : sTail (sTop st) l st = none → ∀ v3 : Int32, ∃ R' : RW, f_X10_ends_L100 (nI w) R.ac R.sd (nI l) (nI (acM nd)) 0 (nI st.length) R.ct R.kd R.le R.pr R.dp R.fo R.fr R.to R.ow R.op v3 = some (oE 0 (sEnd l st nd).1.length R') ∧ RI w (sEnd l st nd).2 (sEnd l st nd).1 R' ∧ R'.ac = R.ac ∧ R'.sd = R.sd ∧ R'.so = R.so ∧ R'.an = R.an ∧ R'.vf = R.vf ∧ R'.vt = R.vt ∧ FM w R R' := by
    intro hx v3
    unfold f_X10_ends_L100 f_X10_ends_L101 sEnd
    rw [hx, if_pos rfl]
    have e15 : (nI l = 15) = (l = 15) := pu_e (b := 15) (by omega) (by decide)
    simp only [e15]
    rw [hR.alien hw, Option.bind_some]
    simp only [b2_0]
    by_cases c : l = 15 ∧ sAlien st = false
    · rw [if_pos c.1, if_pos c.2]
      simp only [if_pos c]
      obtain ⟨R', g1, g2, g3, g4, g5, g6, g7, g8, g9⟩ := startsR (l := 15) (at' := []) hw (by decide) hS hN (by show acM nd + 0 ≤ 128; omega) (RJ.nil h) 0
      rw [show (15 : Int32) = nI 15 from rfl, g1, Option.bind_some]
      cases hf : sFull 15 (sPrep 15 st) with
      | true =>
        rw [hf, if_pos rfl] at g2
        subst g2
        rw [sStart_full hf]
        simp only [if_true]
        refine ⟨R', ?_, ?_, rfl, rfl, rfl, rfl, rfl, rfl, g9⟩
        · rfl
        · obtain ⟨a, e⟩ := sPrep_suf 15 st
          rw [e] at h
          exact h.suf
      | false =>
        have hS15 : sStays 15 (sPrep 15 st) = true := by unfold sStays; simp [sEmpty]
        rw [hf, hS15] at g2
        simp only [Bool.false_eq_true, if_false, if_true] at g2
        rw [sStart_put hf]
        simp only [Bool.false_eq_true, if_false, hS15, if_true]
        refine ⟨R', ?_, RI.suf (a := [(15, sFor 15 (sPrep 15 st))]) g2, g3, g4, g5, g6, g7, g8, g9⟩
        unfold oS oE
        dsimp only
        rw [if_neg (show ¬ (1 : Int32) = 0 by decide), show sRawAt 15 st = false from rfl, List.length_cons, nI_pred]
        rfl
    · simp only [if_neg c]
      refine ⟨R, ?_, h, rfl, rfl, rfl, rfl, rfl, rfl, FM.refl w R⟩
      by_cases c1 : l = 15
      · rw [if_pos c1, if_neg (fun q => c ⟨c1, q⟩)]
        rfl
      · rw [if_neg c1]
        rfl
  unfold f_X10_ends
  cases st with
  | nil =>
    have e0 : f_X10_ends_L7 (nI w) R.ac R.sd (nI l) (nI (acM nd)) 1000 0 (nI ([] : Stk).length) R.ct R.kd R.le R.pr R.dp R.fo R.fr R.to R.ow R.op (nI ([] : Stk).length - 1) = some (0, nI ([] : Stk).length, R.ct, R.kd, R.le, R.pr, R.dp, R.fo, R.fr, R.to, R.ow, R.op, -1) := by
      rw [show nI ([] : Stk).length - 1 = -1 from rfl, f_X10_ends_L7, if_pos (show (-1 : Int32) < 0 by decide)]
    rw [e0, Option.bind_some]
    dsimp only
    rw [if_pos (show (-1 : Int32) < 0 by decide)]
    exact hno rfl (-1)
  | cons x0 r0 =>
    have h8' : r0.length + 1 ≤ 8 := h8
    have e7 := endsL7 hw hl hR (nI (acM nd)) 0 (x0 :: r0) [] 1000 rfl (by omega)
    have hst := sStop_tail x0.2 l (x0 :: r0)
    have htop : sTop (x0 :: r0) = x0.2 := rfl
    rw [show nI (x0 :: r0).length - 1 = sIx (x0 :: r0) from sIx_len _ (by omega)]
    rw [show nI (x0 :: r0).length = nI (r0.length + 1) from rfl, e7, Option.bind_some]
    dsimp only
    cases hs : sStop x0.2 l (x0 :: r0) with
    | nil =>
      rw [hs] at hst
      rw [if_pos (show sIx [] < 0 by decide)]
      exact hno (by rw [htop]; exact hst) (-1)
    | cons y r =>
      obtain ⟨l', f'⟩ := y
      rw [hs] at hst
      have hst : sTail x0.2 l (x0 :: r0) = if f' = x0.2 then some r else none := hst
      obtain ⟨a, e⟩ := sStop_suf x0.2 l (x0 :: r0)
      rw [hs] at e
      have hlen := congrArg List.length e
      rw [List.length_append, List.length_cons, List.length_cons] at hlen
      obtain ⟨ix, hx⟩ := hR.2 a ((l', f') :: r) e
      obtain ⟨i, is, rfl, g1, g2, g3, g4, g5, g6, g7⟩ := hx.cons
      have g5 : R.fo (256 * w + i) = b2 f' := g5
      obtain ⟨ix0, hx0⟩ := hR.2 [] _ rfl
      obtain ⟨i0, is0, rfl, t1, t2, t3, t4, t5, t6, t7⟩ := hx0.cons
      show ∃ R' : RW, (if nI r.length < 0 then f_X10_ends_L100 (nI w) R.ac R.sd (nI l) (nI (acM nd)) 0 (nI (r0.length + 1)) R.ct R.kd R.le R.pr R.dp R.fo R.fr R.to R.ow R.op (nI r.length) else ms_gi (nI r.length) 8 (ms_gi (R.op (nI r.length).toNatClampNeg) 512 (ms_gi (nI (r0.length + 1) - 1) 8 (ms_gi (R.op (nI (r0.length + 1) - 1).toNatClampNeg) 512 (if R.fo (R.op (nI r.length).toNatClampNeg).toNatClampNeg = R.fo (R.op (nI (r0.length + 1) - 1).toNatClampNeg).toNatClampNeg then f_X10_ends_L101 (nI w) R.ac R.sd (nI l) (nI (acM nd)) 0 (nI (r0.length + 1)) R.ct R.kd R.le R.pr R.dp R.fo R.fr R.to R.ow R.op (nI r.length) 1 else f_X10_ends_L100 (nI w) R.ac R.sd (nI l) (nI (acM nd)) 0 (nI (r0.length + 1)) R.ct R.kd R.le R.pr R.dp R.fo R.fr R.to R.ow R.op (nI r.length)))))) = some (oE 0 (sEnd l (x0 :: r0) nd).1.length R') ∧ RI w (sEnd l (x0 :: r0) nd).2 (sEnd l (x0 :: r0) nd).1 R' ∧ R'.ac = R.ac ∧ R'.sd = R.sd ∧ R'.so = R.so ∧ R'.an = R.an ∧ R'.vf = R.vf ∧ R'.vt = R.vt ∧ FM w R R'
      rw [if_neg (nI_pos (by omega)), nI_pred, nI_clamp (show r.length < 2 ^ 31 by omega), nI_clamp (show r0.length < 2 ^ 31 by omega), g1, t1, nI_clamp (show 256 * w + i < 2 ^ 31 by omega), nI_clamp (show 256 * w + i0 < 2 ^ 31 by omega), g5, t5, pu_gi (show r.length < 8 by omega) (by decide), pu_gi (show 256 * w + i < 512 by omega) (by decide), pu_gi (show r0.length < 8 by omega) (by decide), pu_gi (show 256 * w + i0 < 512 by omega) (by decide)]
      simp only [b2_e]
      by_cases c : f' = x0.2
      · rw [if_pos c] at hst ⊢
        refine ⟨R, ?_, ?_, rfl, rfl, rfl, rfl, rfl, rfl, FM.refl w R⟩
        · unfold f_X10_ends_L101 sEnd
          rw [if_neg (show ¬ (1 : Int32) = 0 by decide), htop, hst]
          rfl
        · unfold sEnd
          rw [htop, hst]
          have e2 : x0 :: r0 = (a ++ [(l', f')]) ++ r := by rw [e, List.append_assoc]; rfl
          rw [e2] at h
          exact h.suf
      · rw [if_neg c] at hst ⊢
        exact hno (by rw [htop]; exact hst) _
