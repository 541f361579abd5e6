/-! the reference puts an element -/
theorem blockR {l : Nat} (hl : l ≤ 26) : f_X10_isBlock (nI l) = some (b2 (sBlock l)) := blockC hl
theorem emptyR {l : Nat} (hl : l ≤ 26) : f_X10_isEmpty (nI l) = some (b2 (sEmpty l)) := emptyC hl
theorem sScope_at {l m l' : Nat} : ∀ {s r : Stk}, sScope l m s = some (l', r) → ∃ a f, s = a ++ (l', f) :: r
  | [], r, h => by cases h
  | (a, f) :: s, r, h => by
    unfold sScope at h
    split at h
    · cases h
    · split at h
      · cases h
        exact ⟨[], f, rfl⟩
      · obtain ⟨x, g, e⟩ := sScope_at h
        exact ⟨(a, f) :: x, g, by rw [e]; rfl⟩
theorem closeAtR {N : Nat} {o : Option (Nat × Stk)} {s : Stk} (hN : s.length = N) : (∀ l r, o = some (l, r) → r.length ≤ 8) → f_X10_closeAt (nI N) (match o with
    | none => -1
    | some (_, r) => nI r.length) = some (nI (sShut o s).length) := by
  intro hr
  unfold f_X10_closeAt sShut
  cases o with
  | none =>
    show (if (-1 : Int32) = -1 then _ else _) = _
    rw [if_pos rfl]
    show some (nI N) = some (nI s.length)
    rw [hN]
  | some q =>
    obtain ⟨l, r⟩ := q
    have := hr l r rfl
    show (if nI r.length = -1 then _ else _) = _
    rw [if_neg (nI_ne (by omega))]
/-- the list of open elements, for all its parts -/
def RSs (op le fo : Nat → Int32) (B : Nat) (st : Stk) : Prop := st.length ≤ 8 ∧ ∀ a s, st = a ++ s → ∃ ix, RS op le fo B s ix
theorem RSs.suf {op le fo : Nat → Int32} {B : Nat} {a s : Stk} (h : RSs op le fo B (a ++ s)) : RSs op le fo B s := by
  refine ⟨?_, fun b s' e => h.2 (a ++ b) s' (by rw [e, List.append_assoc])⟩
  have := h.1
  rw [List.length_append] at this
  omega
theorem RSs.sufE {op le fo : Nat → Int32} {B : Nat} {st s : Stk} (h : RSs op le fo B st) (he : ∃ a, st = a ++ s) : RSs op le fo B s := by
  obtain ⟨a, e⟩ := he
  rw [e] at h
  exact h.suf
theorem RSs.alien {op le fo : Nat → Int32} {w : Nat} {s : Stk} (h : RSs op le fo (256 * w) s) (hw : w < 2) : f_X10_alien (nI s.length) le fo op = some (b2 (sAlien s)) := by
  obtain ⟨ix, hx⟩ := h.2 [] s rfl
  exact alienR hx h.1 (by omega)
theorem RSs.scope {op le fo : Nat → Int32} {w l m : Nat} {s : Stk} (h : RSs op le fo (256 * w) s) (hw : w < 2) (hl : l ≤ 26) (hm : m ≤ 26) : f_X10_inScope (nI s.length) le fo op (nI l) (nI m) = some (match sScope l m s with
    | none => -1
    | some (_, r) => nI r.length) := by
  obtain ⟨ix, hx⟩ := h.2 [] s rfl
  exact scopeR hx h.1 (by omega) hl hm
theorem sScope_len {l m : Nat} {s : Stk} (h8 : s.length ≤ 8) : ∀ l' r, sScope l m s = some (l', r) → r.length ≤ 8 := by
  intro l' r h
  obtain ⟨a, f, e⟩ := sScope_at h
  have := congrArg List.length e
  rw [List.length_append, List.length_cons] at this
  omega
theorem RSs.shut {op le fo : Nat → Int32} {w l : Nat} {s : Stk} (h : RSs op le fo (256 * w) s) (hw : w < 2) (hl : l ≤ 26) : (f_X10_inScope (nI s.length) le fo op (nI l) (nI l)).bind (fun q => f_X10_closeAt (nI s.length) q) = some (nI (sShutT l s).length) := by
  rw [h.scope hw hl hl, Option.bind_some, closeAtR rfl (sScope_len h.1), sShutT_eq]
theorem startsL0 {w l : Nat} {op le fo : Nat → Int32} (hw : w < 2) (hl : l ≤ 26) (raw v2 : Int32) (ac sd ct kd pr dp fr to ow : Nat → Int32) : ∀ (s : Stk) (f : Nat), RSs op le fo (256 * w) s → s.length < f → f_X10_starts_L0 (nI w) ac sd (nI l) v2 f raw (nI s.length) ct kd le pr dp fo fr to ow op = some (raw, nI (sS1 l s).length, ct, kd, le, pr, dp, fo, fr, to, ow, op) := by
  intro s
  induction s with
  | nil =>
    intro f h hf
    obtain ⟨f, rfl⟩ : ∃ g, f = g + 1 := ⟨f - 1, by omega⟩
    rw [f_X10_starts_L0, h.alien hw, Option.bind_some, if_pos (show b2 (sAlien []) = 0 from rfl)]
    have : sS1 l [] = [] := by unfold sS1; split <;> rfl
    rw [this]
  | cons x r ih =>
    intro f h hf
    obtain ⟨f, rfl⟩ : ∃ g, f = g + 1 := ⟨f - 1, by omega⟩
    have hlen : (x :: r).length = r.length + 1 := rfl
    rw [f_X10_starts_L0, h.alien hw, Option.bind_some, blockR hl, Option.bind_some]
    simp only [b2_0]
    unfold sS1
    cases hb : sBlock l with
    | false =>
      simp only [if_true, Bool.false_eq_true, if_false]
      split <;> rfl
    | true =>
      unfold sLeave
      cases ha : sAlien (x :: r) with
      | false => simp only [if_true, Bool.false_eq_true, if_false]
      | true =>
        simp only [Bool.true_eq_false, if_false, if_true]
        have ih' := ih f (RSs.suf (a := [x]) h) (by omega)
        unfold sS1 at ih'
        rw [hb, if_pos rfl] at ih'
        rw [hlen, nI_pred]
        exact ih'
theorem ownL184 {w k0 : Nat} {B : Nat} (hw : w < 2) (l v2 raw oc v3 v4 o : Int32) (ac sd ct kd le pr dp fo fr to op an vf vt so : Nat → Int32) (hac : ac w = nI k0) (hk0 : k0 ≤ 128) : ∀ (xs : List At) (k s f : Nat) (ow : Nat → Int32), RA B (128 * w) ow an vf vt so (-1) xs k s → k + xs.length = k0 → xs.length < f → ∃ ow' : Nat → Int32, f_X10_starts_L184 (nI w) ac sd l v2 f raw oc ct kd le pr dp fo fr to ow op v3 v4 o (nI k) = some (raw, oc, ct, kd, le, pr, dp, fo, fr, to, ow', op, v3, v4, o) ∧ RA B (128 * w) ow' an vf vt so o xs k s ∧ (∀ i, i < 128 * w + k → ow' i = ow i) := by
  intro xs
  induction xs with
  | nil =>
    intro k s f ow h hk hf
    obtain ⟨f, rfl⟩ : ∃ g, f = g + 1 := ⟨f - 1, by simp at hf; omega⟩
    have hk : k = k0 := hk
    refine ⟨ow, ?_, trivial, fun i _ => rfl⟩
    rw [f_X10_starts_L184, pu_gi hw (by decide), nI_clamp (show w < 2 ^ 31 by omega), hac, if_pos (nI_le (by omega) (by omega))]
  | cons q r ih =>
    intro k s f ow h hk hf
    have hlen : (q :: r).length = r.length + 1 := rfl
    obtain ⟨f, rfl⟩ : ∃ g, f = g + 1 := ⟨f - 1, by omega⟩
    obtain ⟨g1, g2, g3, g4, g5, g6⟩ := h
    have g6' : RA B (128 * w) (upd ow (128 * w + k) o) an vf vt so (-1) r (k + 1) (s + q.2.length) := by
      have : ∀ (ys : List At) (a z : Nat), k < a → RA B (128 * w) ow an vf vt so (-1) ys a z → RA B (128 * w) (upd ow (128 * w + k) o) an vf vt so (-1) ys a z := by
        intro ys
        induction ys with
        | nil => intro a z _ _; trivial
        | cons y ys ihy =>
          intro a z ha hy
          exact ⟨by rw [pk_un (by omega)]; exact hy.1, hy.2.1, hy.2.2.1, hy.2.2.2.1, hy.2.2.2.2.1, ihy (a + 1) _ (by omega) hy.2.2.2.2.2⟩
      exact this r _ _ (by omega) g6
    obtain ⟨ow', k1, k2, k3⟩ := ih (k + 1) (s + q.2.length) f _ g6' (by omega) (by omega)
    refine ⟨ow', ?_, ⟨by rw [k3 _ (by omega), pk_us], g2, g3, g4, g5, k2⟩, fun i hi => by rw [k3 i (by omega), pk_un (by omega)]⟩
    rw [f_X10_starts_L184, pu_gi hw (by decide), nI_clamp (show w < 2 ^ 31 by omega), hac, if_neg (nI_ge (by omega) (by omega)), p128, nI_add, pu_gi (show 128 * w + k < 256 by omega) (by decide), nI_clamp (show 128 * w + k < 2 ^ 31 by omega), nI_1]
    exact k1
def oS (raw : Int32) (k : Nat) (R : RW) (did : Int32) : Int32 × Int32 × RowF × RowF × RowF × RowF × RowF × RowF × RowF × RowF × RowF × RowF × Int32 := (raw, nI k, R.ct, R.kd, R.le, R.pr, R.dp, R.fo, R.fr, R.to, R.ow, R.op, did)
/-- at the end of starts: the element is put or not -/
theorem starts134 {n w l p : Nat} {raw : Bool} {nd : List Nd} {s : Stk} {at' : List At} {R : RW} (hw : w < 2) (hl : l ≤ 26) (hS : PI n (p, raw, s, nd)) (hN : nd.length < 200) (h1 : acM nd + at'.length ≤ 128) (h : RJ w nd s at' R) (rw0 : Int32) : ∃ R' : RW, f_X10_starts_L134 (nI w) R.ac R.sd (nI l) (nI (acM nd)) rw0 (nI s.length) R.ct R.kd R.le R.pr R.dp R.fo R.fr R.to R.ow R.op = some (if sFull l s = true then oS rw0 s.length R' 0 else oS (b2 (l == 18 && !sAlien s)) (if sStays l s = true then (l, sFor l s) :: s else s).length R' 1) ∧ (if sFull l s = true then R' = R else RI w (sNode l s at' :: nd) (if sStays l s = true then (l, sFor l s) :: s else s) R') ∧ R'.ac = R.ac ∧ R'.sd = R.sd ∧ R'.so = R.so ∧ R'.an = R.an ∧ R'.vf = R.vf ∧ R'.vt = R.vt ∧ FM w R R' := by
  have h8 : s.length ≤ 8 := hS.le
  have hrs := RS_of h.rt (by omega) hS.wf h.rs hS.ix
  have hj : ∀ j ∈ ixN nd s, j < nd.length := fun j q => Nat.lt_of_lt_of_le (hrs.2 j q) (sPar_len _ _)
  have hA := alienR hrs.1 h8 (by omega)
  have hadd := addR (k := 3) (l := l) hw h.ct h.sd (by omega) h.rs h8 hrs.1 hj (by decide) hl R.kd R.pr R.dp R.fr R.to
  rw [show (decide (3 = 3) && sFor l s) = sFor l s by simp] at hadd
  -- the element is put
  have put : sFull l s = false → ∃ R' : RW, f_X10_starts_L173 (nI w) R.ac R.sd (nI l) (nI (acM nd)) rw0 (nI s.length) R.ct R.kd R.le R.pr R.dp R.fo R.fr R.to R.ow R.op (b2 (sAlien s)) (b2 (sStays l s)) = some (oS (b2 (l == 18 && !sAlien s)) (if sStays l s = true then (l, sFor l s) :: s else s).length R' 1) ∧ RI w (sNode l s at' :: nd) (if sStays l s = true then (l, sFor l s) :: s else s) R' ∧ R'.ac = R.ac ∧ R'.sd = R.sd ∧ R'.so = R.so ∧ R'.an = R.an ∧ R'.vf = R.vf ∧ R'.vt = R.vt ∧ FM w R R' := by
    intro hf
    unfold f_X10_starts_L173
    rw [show (3 : Int32) = nI 3 from rfl, hadd, Option.bind_some]
    dsimp only
    obtain ⟨ow', k1, k2, k3⟩ := ownL184 (k0 := acM nd + at'.length) hw (nI l) (nI (acM nd)) rw0 (nI s.length) (b2 (sAlien s)) (b2 (sStays l s)) (nI (256 * w + nd.length)) R.ac R.sd (upd R.ct w (nI (nd.length + 1))) (upd R.kd (256 * w + nd.length) (nI 3)) (upd R.le (256 * w + nd.length) (nI l)) (upd R.pr (256 * w + nd.length) (sPv (256 * w) s.length nd)) (upd R.dp (256 * w + nd.length) (nI s.length)) (upd R.fo (256 * w + nd.length) (b2 (sFor l s))) (upd R.fr (256 * w + nd.length) (nI (stoM nd + vLen at'))) (upd R.to (256 * w + nd.length) (nI (stoM nd + vLen at'))) R.op R.an R.vf R.vt R.so h.ac h1 at' (acM nd) (stoM nd) 1000 R.ow h.ra rfl (by omega)
    rw [k1, Option.bind_some]
    dsimp only
    have hRT : RT (256 * w) (128 * w) (upd R.kd (256 * w + nd.length) (nI 3)) (upd R.le (256 * w + nd.length) (nI l)) (upd R.pr (256 * w + nd.length) (sPv (256 * w) s.length nd)) (upd R.dp (256 * w + nd.length) (nI s.length)) (upd R.fo (256 * w + nd.length) (b2 (sFor l s))) (upd R.fr (256 * w + nd.length) (nI (stoM nd + vLen at'))) (upd R.to (256 * w + nd.length) (nI (stoM nd + vLen at'))) R.so ow' R.an R.vf R.vt (sNode l s at' :: nd) := by
      refine ⟨⟨pk_us, pk_us, pk_us, pk_us, ?_⟩, fun q => absurd rfl q, k2, RT.congr h.rt (fun i a b => ⟨pk_un (by omega), pk_un (by omega), pk_un (by omega), pk_un (by omega), pk_un (by omega), pk_un (by omega), pk_un (by omega)⟩) (fun i a b => rfl) (fun i a b => ⟨k3 i (by omega), rfl, rfl, rfl⟩)⟩
      rw [pk_us]
      rfl
    have h248 : ∀ (k : Nat) (op' : Nat → Int32), f_X10_starts_L248 (nI w) R.ac R.sd (nI l) (nI (acM nd)) rw0 (nI k) (upd R.ct w (nI (nd.length + 1))) (upd R.kd (256 * w + nd.length) (nI 3)) (upd R.le (256 * w + nd.length) (nI l)) (upd R.pr (256 * w + nd.length) (sPv (256 * w) s.length nd)) (upd R.dp (256 * w + nd.length) (nI s.length)) (upd R.fo (256 * w + nd.length) (b2 (sFor l s))) (upd R.fr (256 * w + nd.length) (nI (stoM nd + vLen at'))) (upd R.to (256 * w + nd.length) (nI (stoM nd + vLen at'))) ow' op' (b2 (sAlien s)) = some (oS (b2 (l == 18 && !sAlien s)) k ⟨upd R.ct w (nI (nd.length + 1)), upd R.kd (256 * w + nd.length) (nI 3), upd R.le (256 * w + nd.length) (nI l), upd R.pr (256 * w + nd.length) (sPv (256 * w) s.length nd), upd R.dp (256 * w + nd.length) (nI s.length), upd R.fo (256 * w + nd.length) (b2 (sFor l s)), upd R.fr (256 * w + nd.length) (nI (stoM nd + vLen at')), upd R.to (256 * w + nd.length) (nI (stoM nd + vLen at')), R.ac, ow', R.an, R.vf, R.vt, R.sd, R.so, op'⟩ 1) := by
      intro k op'
      unfold f_X10_starts_L248 oS
      have e18 : (nI l = 18) = (l = 18) := pu_e (b := 18) (by omega) (by decide)
      simp only [e18, b2_0]
      by_cases c : l = 18
      · rw [if_pos c]
        cases sAlien s <;> simp [c, b2]
      · rw [if_neg c]
        have : (l == 18) = false := by simpa using c
        rw [this]
        rfl
    have hfm : ∀ op' : Nat → Int32, FM w R ⟨upd R.ct w (nI (nd.length + 1)), upd R.kd (256 * w + nd.length) (nI 3), upd R.le (256 * w + nd.length) (nI l), upd R.pr (256 * w + nd.length) (sPv (256 * w) s.length nd), upd R.dp (256 * w + nd.length) (nI s.length), upd R.fo (256 * w + nd.length) (b2 (sFor l s)), upd R.fr (256 * w + nd.length) (nI (stoM nd + vLen at')), upd R.to (256 * w + nd.length) (nI (stoM nd + vLen at')), R.ac, ow', R.an, R.vf, R.vt, R.sd, R.so, op'⟩ := fun op' => ⟨fun i hi => ⟨pk_un (by omega), rfl, rfl⟩, fun i hi => ⟨pk_un (by omega), pk_un (by omega), pk_un (by omega), pk_un (by omega), pk_un (by omega), pk_un (by omega), pk_un (by omega), rfl⟩, fun i hi => ⟨k3 i (by omega), rfl, rfl, rfl⟩⟩
    have hsd : R.sd w = nI (stoM (sNode l s at' :: nd)) := by rw [h.sd]; rfl
    simp only [b2_0]
    cases hst : sStays l s with
    | false =>
      rw [if_pos rfl, h248]
      exact ⟨_, rfl, ⟨hRT, RSx.skip (Nat.le_refl _) h.rs, pk_us, hsd, h.ac⟩, rfl, rfl, rfl, rfl, rfl, rfl, hfm _⟩
    | true =>
      have hlt : s.length < 8 := by
        have := len_put (l := l) (s := s) h8 hf
        rw [if_pos hst] at this
        exact this
      rw [if_neg (by decide), pu_gi hlt (by decide), nI_clamp (by omega), nI_1, h248]
      refine ⟨_, rfl, ⟨hRT, ⟨?_, ?_⟩, pk_us, hsd, h.ac⟩, rfl, rfl, rfl, rfl, rfl, rfl, hfm _⟩
      · show upd R.op s.length (nI (256 * w + nd.length)) s.length = sPv (256 * w) (s.length + 1) (sNode l s at' :: nd)
        rw [pk_us]
        unfold sPv
        rw [show sPar (s.length + 1) (sNode l s at' :: nd) = sNode l s at' :: nd from if_pos (show s.length < s.length + 1 by omega)]
      · have hx := RSx.skip (op := R.op) (x := sNode l s at') (Nat.le_refl _) h.rs
        have : ∀ (z : Stk), z.length ≤ s.length → RSx R.op (256 * w) (sNode l s at' :: nd) z → RSx (upd R.op s.length (nI (256 * w + nd.length))) (256 * w) (sNode l s at' :: nd) z := by
          intro z
          induction z with
          | nil => intro _ _; trivial
          | cons y z ihz =>
            intro hz hy
            have hz : z.length + 1 ≤ s.length := hz
            exact ⟨by rw [pk_un (by omega)]; exact hy.1, ihz (by omega) hy.2⟩
        exact this s (Nat.le_refl _) hx
  have h155 : ∃ R' : RW, f_X10_starts_L155 (nI w) R.ac R.sd (nI l) (nI (acM nd)) rw0 (nI s.length) R.ct R.kd R.le R.pr R.dp R.fo R.fr R.to R.ow R.op (b2 (sAlien s)) (b2 (sStays l s)) = some (if sFull l s = true then oS rw0 s.length R' 0 else oS (b2 (l == 18 && !sAlien s)) (if sStays l s = true then (l, sFor l s) :: s else s).length R' 1) ∧ (if sFull l s = true then R' = R else RI w (sNode l s at' :: nd) (if sStays l s = true then (l, sFor l s) :: s else s) R') ∧ R'.ac = R.ac ∧ R'.sd = R.sd ∧ R'.so = R.so ∧ R'.an = R.an ∧ R'.vf = R.vf ∧ R'.vt = R.vt ∧ FM w R R' := by
    unfold f_X10_starts_L155
    have e8 : (nI s.length = 8) = (s.length = 8) := pu_e (b := 8) (by omega) (by decide)
    simp only [b2_0, e8]
    cases hf : sFull l s with
    | true =>
      have hst : sStays l s = true ∧ s.length = 8 := by
        unfold sFull at hf
        simpa using hf
      rw [if_neg (by rw [hst.1]; decide), if_pos hst.2]
      exact ⟨R, rfl, rfl, rfl, rfl, rfl, rfl, rfl, rfl, FM.refl w R⟩
    | false =>
      simp only [Bool.false_eq_true, if_false]
      have hp := put hf
      cases hst : sStays l s with
      | false => rw [hst] at hp; exact hp
      | true =>
        rw [hst] at hp
        have : ¬ s.length = 8 := by
          intro q
          unfold sFull at hf
          rw [hst, q] at hf
          exact absurd hf (by decide)
        rw [if_neg (by decide), if_neg this]
        exact hp
  unfold f_X10_starts_L134 f_X10_starts_L150
  rw [hA, Option.bind_some, emptyR hl, Option.bind_some]
  simp only [b2_0]
  cases ha : sAlien s with
  | true =>
    have e : sStays l s = true := by unfold sStays; rw [ha]; rfl
    rw [ha, e] at h155
    rw [if_neg (by decide), e]
    exact h155
  | false =>
    rw [if_pos rfl]
    cases he : sEmpty l with
    | false =>
      have e : sStays l s = true := by unfold sStays; rw [he]; simp
      rw [ha, e] at h155
      rw [if_pos rfl, e]
      exact h155
    | true =>
      have e : sStays l s = false := by unfold sStays; rw [ha, he]; rfl
      rw [ha, e] at h155
      rw [if_neg (by decide), e]
      exact h155
