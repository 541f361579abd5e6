/-! the reference notes an attribute -/
def RJ (w : Nat) (nd : List Nd) (st : Stk) (at' : List At) (R : RW) : Prop := RT (256 * w) (128 * w) R.kd R.le R.pr R.dp R.fo R.fr R.to R.so R.ow R.an R.vf R.vt nd ∧ RSx R.op (256 * w) nd st ∧ R.ct w = nI nd.length ∧ R.sd w = nI (stoM nd + vLen at') ∧ R.ac w = nI (acM nd + at'.length) ∧ RA (256 * w) (128 * w) R.ow R.an R.vf R.vt R.so (-1) at' (acM nd) (stoM nd)
theorem RJ.rt {w : Nat} {nd : List Nd} {st : Stk} {at' : List At} {R : RW} (h : RJ w nd st at' R) : RT (256 * w) (128 * w) R.kd R.le R.pr R.dp R.fo R.fr R.to R.so R.ow R.an R.vf R.vt nd := h.1
theorem RJ.rs {w : Nat} {nd : List Nd} {st : Stk} {at' : List At} {R : RW} (h : RJ w nd st at' R) : RSx R.op (256 * w) nd st := h.2.1
theorem RJ.ct {w : Nat} {nd : List Nd} {st : Stk} {at' : List At} {R : RW} (h : RJ w nd st at' R) : R.ct w = nI nd.length := h.2.2.1
theorem RJ.sd {w : Nat} {nd : List Nd} {st : Stk} {at' : List At} {R : RW} (h : RJ w nd st at' R) : R.sd w = nI (stoM nd + vLen at') := h.2.2.2.1
theorem RJ.ac {w : Nat} {nd : List Nd} {st : Stk} {at' : List At} {R : RW} (h : RJ w nd st at' R) : R.ac w = nI (acM nd + at'.length) := h.2.2.2.2.1
theorem RJ.ra {w : Nat} {nd : List Nd} {st : Stk} {at' : List At} {R : RW} (h : RJ w nd st at' R) : RA (256 * w) (128 * w) R.ow R.an R.vf R.vt R.so (-1) at' (acM nd) (stoM nd) := h.2.2.2.2.2
theorem vLen_app : ∀ (xs ys : List At), vLen (xs ++ ys) = vLen xs + vLen ys
  | [], ys => by simp [vLen]
  | q :: r, ys => by
    simp only [List.cons_append, vLen, vLen_app r ys]
    omega
theorem RA_app {B A : Nat} {ow an vf vt so : Nat → Int32} {o : Int32} : ∀ {xs ys : List At} {a s : Nat}, RA B A ow an vf vt so o xs a s → RA B A ow an vf vt so o ys (a + xs.length) (s + vLen xs) → RA B A ow an vf vt so o (xs ++ ys) a s
  | [], ys, a, s, _, h => h
  | q :: r, ys, a, s, h, h2 => by
    obtain ⟨g1, g2, g3, g4, g5, g6⟩ := h
    refine ⟨g1, g2, g3, g4, g5, RA_app g6 ?_⟩
    have e1 : a + (q :: r).length = a + 1 + r.length := by simp; omega
    have e2 : s + vLen (q :: r) = s + q.2.length + vLen r := by simp [vLen]; omega
    rw [e1, e2] at h2
    exact h2
theorem refR0 {t row : Nat → Int32} {n p e : Nat} (h : TX t n row) (hp : p < 2 ^ 27) (he : e < 2 ^ 27) (code : Int32) (hr : sRef t p = none ∨ ∃ c s, sRef t p = some (c, s) ∧ ¬ p + s ≤ e) : ∃ code', f_X10_reference (nI n) code row (nI p) (nI e) = some (code', 0) := by
  rw [refR h hp he]
  rcases hr with hr | ⟨c, s, hr, hf⟩
  · rw [hr]; exact ⟨code, rfl⟩
  · rw [hr]
    exact ⟨nI c, by show some (nI c, if p + s ≤ e then nI s else 0) = _; rw [if_neg hf]⟩
theorem refR1 {t row : Nat → Int32} {n p e c s : Nat} (h : TX t n row) (hp : p < 2 ^ 27) (he : e < 2 ^ 27) (code : Int32) (hr : sRef t p = some (c, s)) (hf : p + s ≤ e) : f_X10_reference (nI n) code row (nI p) (nI e) = some (nI c, nI s) := by
  rw [refR h hp he, hr]
  show some (nI c, if p + s ≤ e then nI s else 0) = _
  rw [if_pos hf]
theorem noteL55 {t row : Nat → Int32} {n w e : Nat} (h : TX t n row) (hw : w < 2) (he : e ≤ n) (v1 v2 v4 : Int32) (ac ow an vf vt : Nat → Int32) : ∀ (j p s f : Nat) (code : Int32) (sd so : Nat → Int32), e - p ≤ j → p ≤ 400 → sd w = nI s → s + (sRes t e j p).length ≤ 256 → j < f → ∃ (code' : Int32) (sd' : Nat → Int32), f_X10_note_L55 (nI n) (nI w) row v1 v2 (nI e) f code ac ow an vf vt sd so v4 (nI p) = some (code', ac, ow, an, vf, vt, sd', ap so (256 * w + s) (sRes t e j p), v4) ∧ sd' w = nI (s + (sRes t e j p).length) ∧ (∀ i, ¬ i = w → sd' i = sd i) := by
  have hn := h.1
  intro j
  induction j with
  | zero =>
    intro p s f code sd so hp hp4 hs hk hf
    obtain ⟨f, rfl⟩ : ∃ g, f = g + 1 := ⟨f - 1, by omega⟩
    refine ⟨code, sd, ?_, by simpa [sRes] using hs, fun i _ => rfl⟩
    rw [f_X10_note_L55, if_pos (nI_le (by omega) (by omega))]
    rfl
  | succ j ih =>
    intro p s f code sd so hp hp4 hs hk hf
    obtain ⟨f, rfl⟩ : ∃ g, f = g + 1 := ⟨f - 1, by omega⟩
    by_cases hpe : p < e
    · have plain : (sRef t p = none ∨ ∃ c s, sRef t p = some (c, s) ∧ ¬ p + s ≤ e) → sRes t e (j + 1) p = t p :: sRes t e j (p + 1) → ∃ (code' : Int32) (sd' : Nat → Int32), f_X10_note_L55 (nI n) (nI w) row v1 v2 (nI e) (f + 1) code ac ow an vf vt sd so v4 (nI p) = some (code', ac, ow, an, vf, vt, sd', ap so (256 * w + s) (sRes t e (j + 1) p), v4) ∧ sd' w = nI (s + (sRes t e (j + 1) p).length) ∧ (∀ i, ¬ i = w → sd' i = sd i) := by
        intro hr hres
        obtain ⟨code1, h1⟩ := refR0 (e := e) h (show p < 2 ^ 27 by omega) (by omega) code hr
        rw [hres, List.length_cons] at hk ⊢
        obtain ⟨code', sd', g1, g2, g3⟩ := ih (p + 1) (s + 1) f code1 (upd sd w (nI (s + 1))) (upd so (256 * w + s) (t p)) (by omega) (by omega) pk_us (by omega) (by omega)
        refine ⟨code', sd', ?_, by rw [g2]; congr 1; omega, fun i hi => by rw [g3 i hi, pk_un hi]⟩
        rw [f_X10_note_L55, if_neg (nI_ge hpe (by omega)), h1, Option.bind_some]
        dsimp only
        rw [if_pos (show (0 : Int32) ≤ 0 from Int32.le_refl 0), pu_gi (by omega) (by decide), nI_clamp (by omega), ← h.lt (show p < n by omega)]
        unfold f_X10_note_L90 f_X10_note_L106
        rw [keepR hw hs (by omega), Option.bind_some, if_pos (show (0 : Int32) ≤ 0 from Int32.le_refl 0), nI_1]
        exact g1
      cases hr : sRef t p with
      | none => exact plain (Or.inl hr) (sRes_one hpe hr)
      | some q =>
        obtain ⟨c, z⟩ := q
        have hz := sRef_in hr
        by_cases hfit : p + z ≤ e
        · have h1 := refR1 (e := e) h (show p < 2 ^ 27 by omega) (by omega) code hr hfit
          rw [sRes_fit hpe hr hfit, List.length_cons] at hk ⊢
          obtain ⟨code', sd', g1, g2, g3⟩ := ih (p + z) (s + 1) f (nI c) (upd sd w (nI (s + 1))) (upd so (256 * w + s) (nI c)) (by omega) (by omega) pk_us (by omega) (by omega)
          refine ⟨code', sd', ?_, by rw [g2]; congr 1; omega, fun i hi => by rw [g3 i hi, pk_un hi]⟩
          rw [f_X10_note_L55, if_neg (nI_ge hpe (by omega)), h1, Option.bind_some]
          dsimp only
          rw [if_neg (show ¬ nI z ≤ 0 from nI_nle (by omega) (by omega))]
          unfold f_X10_note_L90 f_X10_note_L106
          rw [keepR hw hs (by omega), Option.bind_some, if_neg (show ¬ nI z ≤ 0 from nI_nle (by omega) (by omega)), nI_add]
          exact g1
        · exact plain (Or.inr ⟨c, z, hr, hfit⟩) (sRes_not hpe hr hfit)
    · refine ⟨code, sd, ?_, by rw [sRes_ge hpe]; exact hs, fun i _ => rfl⟩
      rw [f_X10_note_L55, if_pos (nI_le (by omega) (by omega)), sRes_ge hpe]
      rfl
theorem noteR {t row : Nat → Int32} {n w a b e : Nat} {nd : List Nd} {st : Stk} {at' : List At} {R : RW} (ht : TX t n row) (hw : w < 2) (hbe : b ≤ e) (he : e ≤ n) (h : RJ w nd st at' R) (h1 : acM nd + at'.length < 128) (h2 : stoM nd + vLen at' + (e - b) ≤ 255) (code : Int32) : ∃ (code' : Int32) (R' : RW), f_X10_note (nI n) (nI w) code row R.ac R.ow R.an R.vf R.vt R.sd R.so (nI a) (nI b) (nI e) = some (code', R'.ac, R'.ow, R'.an, R'.vf, R'.vt, R'.sd, R'.so) ∧ R'.ct = R.ct ∧ R'.kd = R.kd ∧ R'.le = R.le ∧ R'.pr = R.pr ∧ R'.dp = R.dp ∧ R'.fo = R.fo ∧ R'.fr = R.fr ∧ R'.to = R.to ∧ R'.op = R.op ∧ RJ w nd st (at' ++ [(a, sVal t b e)]) R' ∧ FM w R R' := by
  have hn := ht.1
  have hlen := sVal_len t b e
  obtain ⟨code', sd', g1, g2, g3⟩ := noteL55 ht hw he (nI a) (nI b) (nI (128 * w + (acM nd + at'.length))) R.ac (upd R.ow (128 * w + (acM nd + at'.length)) (-1)) (upd R.an (128 * w + (acM nd + at'.length)) (nI a)) (upd R.vf (128 * w + (acM nd + at'.length)) (nI (stoM nd + vLen at'))) R.vt (e - b) b (stoM nd + vLen at') 1000 code R.sd R.so (Nat.le_refl _) (by omega) h.sd (by have : (sRes t e (e - b) b).length ≤ e - b := hlen; omega) (by omega)
  refine ⟨code', ⟨R.ct, R.kd, R.le, R.pr, R.dp, R.fo, R.fr, R.to, upd R.ac w (nI (acM nd + at'.length + 1)), upd R.ow (128 * w + (acM nd + at'.length)) (-1), upd R.an (128 * w + (acM nd + at'.length)) (nI a), upd R.vf (128 * w + (acM nd + at'.length)) (nI (stoM nd + vLen at')), upd R.vt (128 * w + (acM nd + at'.length)) (nI (stoM nd + vLen at' + (sVal t b e).length)), sd', ap R.so (256 * w + (stoM nd + vLen at')) (sVal t b e), R.op⟩, ?_, rfl, rfl, rfl, rfl, rfl, rfl, rfl, rfl, rfl, ⟨?_, h.rs, h.ct, ?_, ?_, ?_⟩, ⟨?_, ?_, ?_⟩⟩
  · unfold f_X10_note
    rw [nI_clamp (show w < 2 ^ 31 by omega), h.ac, h.sd, p128, nI_add, pu_gi hw (by decide), pu_gi (show 128 * w + (acM nd + at'.length) < 256 by omega) (by decide), pu_gi (show 128 * w + (acM nd + at'.length) < 256 by omega) (by decide), pu_gi hw (by decide), pu_gi (show 128 * w + (acM nd + at'.length) < 256 by omega) (by decide), nI_clamp (show 128 * w + (acM nd + at'.length) < 2 ^ 31 by omega), g1, Option.bind_some]
    dsimp only
    rw [pu_gi hw (by decide), pu_gi (show 128 * w + (acM nd + at'.length) < 256 by omega) (by decide), pu_gi hw (by decide), pu_gi hw (by decide), nI_clamp (show 128 * w + (acM nd + at'.length) < 2 ^ 31 by omega), g2, h.ac, nI_1]
    rfl
  · refine RT.congr h.rt (fun i a b => ⟨rfl, rfl, rfl, rfl, rfl, rfl, rfl⟩) (fun i x y => ap_lt _ _ _ _ (by omega)) (fun i x y => ⟨pk_un (by omega), pk_un (by omega), pk_un (by omega), pk_un (by omega)⟩)
  · rw [vLen_app]
    show sd' w = nI (stoM nd + (vLen at' + ((sVal t b e).length + 0)))
    rw [g2]
    congr 1
    show stoM nd + vLen at' + (sVal t b e).length = _
    omega
  · dsimp only [RW.ac]
    rw [pk_us, List.length_append]
    congr 1
  · refine RA_app (RA.congr h.ra (fun i x y => ⟨pk_un (by omega), pk_un (by omega), pk_un (by omega), pk_un (by omega)⟩) (fun i x y => ap_lt _ _ _ _ (by omega))) ⟨pk_us, pk_us, pk_us, pk_us, ?_, trivial⟩
    have := seg_ap R.so (256 * w + (stoM nd + vLen at')) (sVal t b e)
    exact this
  · exact fun i hi => ⟨rfl, g3 i (by omega), pk_un (by omega)⟩
  · exact fun i hi => ⟨rfl, rfl, rfl, rfl, rfl, rfl, rfl, ap_lt _ _ _ _ (by omega)⟩
  · exact fun i hi => ⟨pk_un (by omega), pk_un (by omega), pk_un (by omega), pk_un (by omega)⟩
/-! the letter was had before -/
def sNew (xs : List At) (a : Option Nat) : Option Nat := match a with
  | none => none
  | some l => if xs.any (fun q => q.1 == l) = true then none else some l
theorem findL300 {n w k0 : Nat} {B : Nat} {row : Nat → Int32} (hw : w < 2) (v1 v2 wh code v3 v6 v7 : Int32) (ac ow an vf vt sd so so' : Nat → Int32) (o : Int32) (hac : ac w = nI k0) (hk0 : k0 ≤ 128) : ∀ (xs : List At) (k s f : Nat) (a : Option Nat), RA B (128 * w) ow an vf vt so' o xs k s → k + xs.length = k0 → xs.length < f → (∀ l, a = some l → l < 26) → (∀ q ∈ xs, q.1 < 26) → f_X10_takeAttribute_L300 (nI n) (nI w) row v1 v2 f wh code ac ow an vf vt sd so v3 (oA a) v6 v7 (nI k) = some (wh, code, ac, ow, an, vf, vt, sd, so, v3, oA (sNew xs a), v6, v7) := by
  intro xs
  induction xs with
  | nil =>
    intro k s f a h hk hf ha hq
    obtain ⟨f, rfl⟩ : ∃ g, f = g + 1 := ⟨f - 1, by simp at hf; omega⟩
    have hk : k = k0 := hk
    rw [f_X10_takeAttribute_L300, pu_gi hw (by decide), nI_clamp (show w < 2 ^ 31 by omega), hac, if_pos (nI_le (by omega) (by omega))]
    cases a with
    | none => rfl
    | some l => simp [sNew]
  | cons q r ih =>
    intro k s f a h hk hf ha hq
    have hlen : (q :: r).length = r.length + 1 := rfl
    obtain ⟨f, rfl⟩ : ∃ g, f = g + 1 := ⟨f - 1, by omega⟩
    obtain ⟨g1, g2, g3, g4, g5, g6⟩ := h
    have hq1 := hq q List.mem_cons_self
    have ih2 := fun a' ha' => ih (k + 1) _ f a' g6 (by omega) (by omega) ha' (fun x hx => hq x (List.mem_cons_of_mem _ hx))
    rw [f_X10_takeAttribute_L300, pu_gi hw (by decide), nI_clamp (show w < 2 ^ 31 by omega), hac, if_neg (nI_ge (by omega) (by omega)), p128, nI_add, pu_gi (show 128 * w + k < 256 by omega) (by decide), nI_clamp (show 128 * w + k < 2 ^ 31 by omega), g2]
    unfold f_X10_takeAttribute_L341
    rw [nI_1]
    cases a with
    | none =>
      rw [show oA none = -1 from rfl, if_neg (nI_ne (by omega))]
      exact ih2 none (fun l q => by cases q)
    | some l =>
      have hl := ha l rfl
      have ee : (nI q.1 = oA (some l)) = (q.1 = l) := pu_e (by omega) (by omega)
      simp only [ee]
      by_cases c : q.1 = l
      · rw [if_pos c]
        have e1 : sNew (q :: r) (some l) = sNew r none := by simp [sNew, c]
        rw [e1]
        exact ih2 none (fun l q => by cases q)
      · rw [if_neg c]
        have e1 : sNew (q :: r) (some l) = sNew r (some l) := by
          have : (q.1 == l) = false := by simpa using c
          unfold sNew
          simp only [List.any_cons, this, Bool.false_or]
        rw [e1]
        exact ih2 (some l) ha
theorem sPutV_new (at' : List At) (a : Option Nat) (v : List Int32) : sPutV at' a v = match sNew at' a with
    | none => at'
    | some l => at' ++ [(l, v)] := by
  unfold sPutV sNew
  cases a with
  | none => rfl
  | some l =>
    dsimp only
    split <;> rfl
theorem sNew_lt {xs : List At} {a : Option Nat} (ha : ∀ l, a = some l → l < 26) : ∀ l, sNew xs a = some l → l < 26 := by
  intro l h
  unfold sNew at h
  cases a with
  | none => cases h
  | some k =>
    dsimp only at h
    split at h
    · cases h
    · cases h
      exact ha _ rfl
theorem RJ.ac' {w : Nat} {nd : List Nd} {st : Stk} {at' : List At} {R : RW} (h : RJ w nd st at' R) : R.ac w = nI (acM nd + at'.length) := h.ac
theorem L297R {t row : Nat → Int32} {n w b e : Nat} {nd : List Nd} {st : Stk} {at' : List At} {R : RW} {a : Option Nat} (ht : TX t n row) (hw : w < 2) (hbe : b ≤ e) (he : e ≤ n) (h : RJ w nd st at' R) (h1 : acM nd + at'.length < 128) (h2 : stoM nd + vLen at' + (e - b) ≤ 255) (ha : ∀ l, a = some l → l < 26) (hq : ∀ q ∈ at', q.1 < 26) (wh : Bool) (code v1 v3 : Int32) : ∃ (code' : Int32) (R' : RW), f_X10_takeAttribute_L297 (nI n) (nI w) row v1 (nI (acM nd)) (b2 wh) code R.ac R.ow R.an R.vf R.vt R.sd R.so v3 (oA a) (nI b) (nI e) = some (b2 wh, code', R'.ac, R'.ow, R'.an, R'.vf, R'.vt, R'.sd, R'.so, v3) ∧ R'.ct = R.ct ∧ R'.kd = R.kd ∧ R'.le = R.le ∧ R'.pr = R.pr ∧ R'.dp = R.dp ∧ R'.fo = R.fo ∧ R'.fr = R.fr ∧ R'.to = R.to ∧ R'.op = R.op ∧ RJ w nd st (if wh = true then sPutV at' a (sVal t b e) else at') R' ∧ FM w R R' := by
  unfold f_X10_takeAttribute_L297
  rw [findL300 (k0 := acM nd + at'.length) hw v1 (nI (acM nd)) (b2 wh) code v3 (nI b) (nI e) R.ac R.ow R.an R.vf R.vt R.sd R.so R.so (-1) h.ac (by omega) at' (acM nd) (stoM nd) 1000 a h.ra rfl (by omega) ha hq, Option.bind_some]
  dsimp only
  rw [sPutV_new]
  cases hs : sNew at' a with
  | none =>
    rw [show oA none = -1 from rfl, if_pos rfl]
    refine ⟨code, R, rfl, rfl, rfl, rfl, rfl, rfl, rfl, rfl, rfl, rfl, ?_, FM.refl w R⟩
    cases wh <;> exact h
  | some l =>
    have hl := sNew_lt ha l hs
    rw [show oA (some l) = nI l from rfl, if_neg (nI_ne (by omega))]
    simp only [b2_0]
    cases wh with
    | false =>
      rw [if_pos rfl]
      exact ⟨code, R, rfl, rfl, rfl, rfl, rfl, rfl, rfl, rfl, rfl, rfl, h, FM.refl w R⟩
    | true =>
      rw [if_neg (by decide)]
      obtain ⟨code', R', k1, k2⟩ := noteR (a := l) ht hw hbe he h h1 h2 code
      rw [k1]
      exact ⟨code', R', rfl, k2⟩
