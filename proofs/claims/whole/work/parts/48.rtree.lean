/-! the reference's tree -/
theorem sPar_len (d : Nat) : ∀ nd : List Nd, (sPar d nd).length ≤ nd.length
  | [] => Nat.le_refl _
  | x :: r => by
    unfold sPar
    split
    · exact Nat.le_refl _
    · have := sPar_len d r
      simp
      omega
theorem sPar_suf (d : Nat) : ∀ nd : List Nd, ∃ a, nd = a ++ sPar d nd
  | [] => ⟨[], rfl⟩
  | x :: r => by
    unfold sPar
    split
    · exact ⟨[], rfl⟩
    · obtain ⟨a, e⟩ := sPar_suf d r
      exact ⟨x :: a, by rw [List.cons_append, ← e]⟩
theorem sPar_mono {d d' : Nat} (h : d' ≤ d) : ∀ nd : List Nd, sPar d' nd = sPar d' (sPar d nd)
  | [] => rfl
  | x :: r => by
    by_cases c : x.2.2.1 < d
    · rw [show sPar d (x :: r) = x :: r by rw [sPar, if_pos c]]
    · rw [show sPar d (x :: r) = sPar d r by rw [sPar, if_neg c], sPar, if_neg (by omega)]
      exact sPar_mono h r
theorem sPar_0 : ∀ nd : List Nd, sPar 0 nd = []
  | [] => rfl
  | x :: r => by rw [sPar, if_neg (by omega), sPar_0 r]
/-- a parent's place -/
def sPv (B d : Nat) (nd : List Nd) : Int32 := match sPar d nd with
  | [] => -1
  | _ :: q => nI (B + q.length)
def RA (B A : Nat) (ow an vf vt so : Nat → Int32) (o : Int32) : List At → Nat → Nat → Prop
  | [], _, _ => True
  | q :: r, a, s => ow (A + a) = o ∧ an (A + a) = nI q.1 ∧ vf (A + a) = nI s ∧ vt (A + a) = nI (s + q.2.length) ∧ seg so (B + s) q.2 ∧ RA B A ow an vf vt so o r (a + 1) (s + q.2.length)
theorem RA.congr {B A : Nat} {ow an vf vt so ow' an' vf' vt' so' : Nat → Int32} {o : Int32} : ∀ {xs : List At} {a s : Nat}, RA B A ow an vf vt so o xs a s → (∀ i, A ≤ i → i < A + a + xs.length → ow' i = ow i ∧ an' i = an i ∧ vf' i = vf i ∧ vt' i = vt i) → (∀ i, B ≤ i → i < B + s + vLen xs → so' i = so i) → RA B A ow' an' vf' vt' so' o xs a s
  | [], _, _, _, _, _ => trivial
  | q :: r, a, s, h, h1, h2 => by
    obtain ⟨g1, g2, g3, g4, g5, g6⟩ := h
    have e := h1 (A + a) (by omega) (by simp)
    have hv : vLen (q :: r) = q.2.length + vLen r := rfl
    refine ⟨by rw [e.1, g1], by rw [e.2.1, g2], by rw [e.2.2.1, g3], by rw [e.2.2.2, g4], fun i hi => ?_, RA.congr g6 (fun i hi hi' => h1 i hi (by simp; omega)) (fun i hi hi' => h2 i hi (by omega))⟩
    rw [h2 _ (by omega) (by omega)]
    exact g5 i hi
def RT (B A : Nat) (kd le pr dp fo fr to so ow an vf vt : Nat → Int32) : List Nd → Prop
  | [] => True
  | x :: r => (kd (B + r.length) = nI x.1 ∧ le (B + r.length) = nI x.2.1 ∧ pr (B + r.length) = sPv B x.2.2.1 r ∧ dp (B + r.length) = nI x.2.2.1 ∧ fo (B + r.length) = b2 x.2.2.2.1) ∧ (¬ x.1 = 3 → fr (B + r.length) = nI (stoM r) ∧ to (B + r.length) = nI (stoM (x :: r)) ∧ seg so (B + stoM r) x.2.2.2.2.1) ∧ RA B A ow an vf vt so (nI (B + r.length)) x.2.2.2.2.2 (acM r) (stoM r) ∧ RT B A kd le pr dp fo fr to so ow an vf vt r
theorem RT.congr {B A : Nat} {kd le pr dp fo fr to so ow an vf vt kd' le' pr' dp' fo' fr' to' so' ow' an' vf' vt' : Nat → Int32} : ∀ {nd : List Nd}, RT B A kd le pr dp fo fr to so ow an vf vt nd → (∀ i, B ≤ i → i < B + nd.length → kd' i = kd i ∧ le' i = le i ∧ pr' i = pr i ∧ dp' i = dp i ∧ fo' i = fo i ∧ fr' i = fr i ∧ to' i = to i) → (∀ i, B ≤ i → i < B + stoM nd → so' i = so i) → (∀ i, A ≤ i → i < A + acM nd → ow' i = ow i ∧ an' i = an i ∧ vf' i = vf i ∧ vt' i = vt i) → RT B A kd' le' pr' dp' fo' fr' to' so' ow' an' vf' vt' nd
  | [], _, _, _, _ => trivial
  | x :: r, h, h1, h2, h3 => by
    obtain ⟨⟨g1, g2, g3, g4, g5⟩, g6, g7, g8⟩ := h
    have e := h1 (B + r.length) (by omega) (by simp)
    have hs : stoM (x :: r) = stoM r + x.2.2.2.2.1.length + vLen x.2.2.2.2.2 := rfl
    have ha : acM (x :: r) = acM r + x.2.2.2.2.2.length := rfl
    refine ⟨⟨by rw [e.1, g1], by rw [e.2.1, g2], by rw [e.2.2.1, g3], by rw [e.2.2.2.1, g4], by rw [e.2.2.2.2.1, g5]⟩, fun q => ?_, RA.congr g7 (fun i a b => h3 i a (by omega)) (fun i a b => h2 i a (by omega)), RT.congr g8 (fun i a b => h1 i a (by simp; omega)) (fun i a b => h2 i a (by omega)) (fun i a b => h3 i a (by omega))⟩
    obtain ⟨k1, k2, k3⟩ := g6 q
    refine ⟨by rw [e.2.2.2.2.2.1, k1], by rw [e.2.2.2.2.2.2, k2], fun i hi => ?_⟩
    rw [h2 _ (by omega) (by omega)]
    exact k3 i hi
theorem RT.drop {B A : Nat} {kd le pr dp fo fr to so ow an vf vt : Nat → Int32} : ∀ (a : List Nd) {b : List Nd}, RT B A kd le pr dp fo fr to so ow an vf vt (a ++ b) → RT B A kd le pr dp fo fr to so ow an vf vt b
  | [], _, h => h
  | _ :: a, _, h => RT.drop a h.2.2.2
theorem RT.par {B A d : Nat} {kd le pr dp fo fr to so ow an vf vt : Nat → Int32} {nd : List Nd} {y : Nd} {q : List Nd} (h : RT B A kd le pr dp fo fr to so ow an vf vt nd) (hp : sPar d nd = y :: q) : RT B A kd le pr dp fo fr to so ow an vf vt (y :: q) := by
  obtain ⟨a, e⟩ := sPar_suf d nd
  rw [hp] at e
  rw [e] at h
  exact RT.drop a h
/-! the list of open elements -/
def RSx (op : Nat → Int32) (B : Nat) (nd : List Nd) : Stk → Prop
  | [] => True
  | _ :: s => op s.length = sPv B (s.length + 1) nd ∧ RSx op B nd s
def ixN (nd : List Nd) : Stk → List Nat
  | [] => []
  | _ :: s => ((sPar (s.length + 1) nd).length - 1) :: ixN nd s
theorem RS_of {op kd le pr dp fo fr to so ow an vf vt : Nat → Int32} {B A : Nat} {nd : List Nd} (ht : RT B A kd le pr dp fo fr to so ow an vf vt nd) (hl : nd.length ≤ 256) (hw : ∀ x ∈ nd, WN x) : ∀ {st : Stk}, RSx op B nd st → IXc nd st → RS op le fo B st (ixN nd st) ∧ (∀ j ∈ ixN nd st, j < (sPar st.length nd).length)
  | [], _, _ => ⟨trivial, fun j hj => by simp [ixN] at hj⟩
  | (l, f) :: s, h, hi => by
    obtain ⟨h1, h2⟩ := h
    obtain ⟨⟨at', q, e⟩, -, h3⟩ := hi
    have ih := RS_of ht hl hw h2 h3
    have hy := ht.par e
    have hmem : ((3, l, s.length, f, [], at') : Nd) ∈ nd := by
      obtain ⟨a, e2⟩ := sPar_suf (s.length + 1) nd
      rw [e2, e]
      simp
    have hlen := sPar_len (s.length + 1) nd
    rw [e] at hlen
    have hlen : q.length + 1 ≤ nd.length := hlen
    have e3 : ixN nd ((l, f) :: s) = q.length :: ixN nd s := by
      show ((sPar (s.length + 1) nd).length - 1) :: ixN nd s = _
      rw [e]
      rfl
    have hlow : (sPar s.length nd).length ≤ q.length := by
      rw [sPar_mono (show s.length ≤ s.length + 1 by omega), e, sPar, if_neg (show ¬ s.length < s.length by omega)]
      exact sPar_len _ _
    rw [e3]
    refine ⟨⟨?_, by omega, hy.1.2.1, (hw _ hmem).2.1, hy.1.2.2.2.2, fun j hj => ?_, ih.1⟩, fun j hj => ?_⟩
    · rw [h1]
      unfold sPv
      rw [e]
    · have := ih.2 j hj
      omega
    · show j < (sPar (s.length + 1) nd).length
      rw [e]
      show j < q.length + 1
      rcases List.mem_cons.mp hj with rfl | g
      · omega
      · have := ih.2 j g
        omega
theorem topRx {op : Nat → Int32} {B : Nat} {nd : List Nd} {st : Stk} (h : RSx op B nd st) (h8 : st.length ≤ 8) : f_X10_top (nI st.length) op = some (sPv B st.length nd) := by
  cases st with
  | nil =>
    unfold sPv
    show _ = some (match sPar 0 nd with
      | [] => -1
      | _ :: q => nI (B + q.length))
    rw [sPar_0]
    rfl
  | cons x s =>
    have hs : s.length < 8 := h8
    unfold f_X10_top
    show (if nI (s.length + 1) = 0 then _ else ms_gi (nI (s.length + 1) - 1) 8 (some (op (nI (s.length + 1) - 1).toNatClampNeg))) = _
    rw [if_neg (show ¬ nI (s.length + 1) = 0 from nI_ne0 (by omega) (by omega)), nI_pred, pu_gi hs (by decide), nI_clamp (by omega), h.1]
    rfl
theorem RSx.suf {op : Nat → Int32} {B : Nat} {nd : List Nd} : ∀ (a : Stk) {s : Stk}, RSx op B nd (a ++ s) → RSx op B nd s
  | [], _, h => h
  | _ :: a, _, h => RSx.suf a h.2
theorem RSx.skip {op : Nat → Int32} {B : Nat} {x : Nd} {nd : List Nd} : ∀ {st : Stk}, st.length ≤ x.2.2.1 → RSx op B nd st → RSx op B (x :: nd) st
  | [], _, _ => trivial
  | _ :: s, h, hr => by
    have hl : s.length + 1 ≤ x.2.2.1 := h
    refine ⟨?_, RSx.skip (by omega) hr.2⟩
    rw [hr.1]
    unfold sPv
    rw [show sPar (s.length + 1) (x :: nd) = sPar (s.length + 1) nd by rw [sPar, if_neg (by omega)]]
theorem RSx.unskip {op : Nat → Int32} {B : Nat} {x : Nd} {nd : List Nd} : ∀ {st : Stk}, st.length ≤ x.2.2.1 → RSx op B (x :: nd) st → RSx op B nd st
  | [], _, _ => trivial
  | _ :: s, h, hr => by
    have hl : s.length + 1 ≤ x.2.2.1 := h
    refine ⟨?_, RSx.unskip (by omega) hr.2⟩
    rw [hr.1]
    unfold sPv
    rw [show sPar (s.length + 1) (x :: nd) = sPar (s.length + 1) nd by rw [sPar, if_neg (by omega)]]
/-! one character is kept; a node is added -/
theorem p256 (w : Nat) : (256 : Int32) * nI w = nI (256 * w) := pk_mul 256 w
theorem p128 (w : Nat) : (128 : Int32) * nI w = nI (128 * w) := pk_mul 128 w
theorem keepR {w s : Nat} {sd so : Nat → Int32} (hw : w < 2) (hs : sd w = nI s) (h : s < 256) (c : Int32) : f_X10_keep (nI w) sd so c = some (upd sd w (nI (s + 1)), upd so (256 * w + s) c) := by
  unfold f_X10_keep
  rw [pu_gi hw (by decide), nI_clamp (by omega), hs, p256, nI_add, pu_gi (show 256 * w + s < 512 by omega) (by decide), pu_gi hw (by decide), pu_gi hw (by decide), nI_clamp (by omega), nI_1]
theorem addR {w N s k l : Nat} {op ct sd : Nat → Int32} {nd : List Nd} {st : Stk} {ix : List Nat} {le fo : Nat → Int32} (hw : w < 2) (hc : ct w = nI N) (hs : sd w = nI s) (hN : N < 256) (hx : RSx op (256 * w) nd st) (h8 : st.length ≤ 8) (hr : RS op le fo (256 * w) st ix) (hix : ∀ j ∈ ix, j < N) (hk : k < 4) (hl : l ≤ 26) (kd pr dp fr to : Nat → Int32) : f_X10_add (nI w) (nI st.length) ct kd le pr dp fo fr to sd op (nI k) (nI l) = some (upd ct w (nI (N + 1)), upd kd (256 * w + N) (nI k), upd le (256 * w + N) (nI l), upd pr (256 * w + N) (sPv (256 * w) st.length nd), upd dp (256 * w + N) (nI st.length), upd fo (256 * w + N) (b2 (decide (k = 3) && sFor l st)), upd fr (256 * w + N) (nI s), upd to (256 * w + N) (nI s), nI (256 * w + N)) := by
  have hr2 : RS op (upd le (256 * w + N) (nI l)) fo (256 * w) st ix := by
    have : ∀ (s : Stk) (is : List Nat), (∀ j ∈ is, j < N) → RS op le fo (256 * w) s is → RS op (upd le (256 * w + N) (nI l)) fo (256 * w) s is := by
      intro s
      induction s with
      | nil =>
        intro is hi h
        cases is with
        | nil => trivial
        | cons i is => exact h
      | cons x s ih =>
        intro is hi h
        obtain ⟨i, is', rfl, g1, g2, g3, g4, g5, g6, g7⟩ := h.cons
        have := hi i List.mem_cons_self
        exact ⟨g1, g2, by rw [pk_un (by omega)]; exact g3, g4, g5, g6, ih is' (fun j hj => hi j (List.mem_cons_of_mem _ hj)) g7⟩
    exact this st ix hix hr
  have hA := alienR hr2 h8 (by omega)
  unfold f_X10_add
  rw [nI_clamp (show w < 2 ^ 31 by omega), hc, p256, nI_add, pu_gi hw (by decide), pu_gi (show 256 * w + N < 512 by omega) (by decide), pu_gi (show 256 * w + N < 512 by omega) (by decide), topRx hx h8, Option.bind_some, pu_gi (show 256 * w + N < 512 by omega) (by decide), pu_gi (show 256 * w + N < 512 by omega) (by decide), nI_clamp (show 256 * w + N < 2 ^ 31 by omega), hA, Option.bind_some]
  have h81 : ∀ b : Bool, f_X10_add_L81 (nI w) (nI st.length) sd op (nI k) (nI l) ct (upd kd (256 * w + N) (nI k)) (upd le (256 * w + N) (nI l)) (upd pr (256 * w + N) (sPv (256 * w) st.length nd)) (upd dp (256 * w + N) (nI st.length)) fo fr to (nI (256 * w + N)) (nI (256 * w + N)) (b2 b) = some (upd ct w (nI (N + 1)), upd kd (256 * w + N) (nI k), upd le (256 * w + N) (nI l), upd pr (256 * w + N) (sPv (256 * w) st.length nd), upd dp (256 * w + N) (nI st.length), upd fo (256 * w + N) (b2 b), upd fr (256 * w + N) (nI s), upd to (256 * w + N) (nI s), nI (256 * w + N)) := by
    intro b
    unfold f_X10_add_L81
    rw [pu_gi (show 256 * w + N < 512 by omega) (by decide), pu_gi hw (by decide), pu_gi (show 256 * w + N < 512 by omega) (by decide), pu_gi hw (by decide), pu_gi (show 256 * w + N < 512 by omega) (by decide), pu_gi hw (by decide), pu_gi hw (by decide), nI_clamp (show w < 2 ^ 31 by omega), nI_clamp (show 256 * w + N < 2 ^ 31 by omega), hs, hc, nI_1, pu_narb (by cases b <;> simp [b2])]
  unfold f_X10_add_L76 f_X10_add_L80
  have h1 : (1 : Int32) = b2 true := rfl
  have h0 : (0 : Int32) = b2 false := rfl
  rw [show (3 : Int32) = nI 3 from rfl, show (21 : Int32) = nI 21 from rfl]
  simp (disch := omega) only [pu_e, b2_0]
  rw [h1, h0, h81, h81]
  unfold sFor
  by_cases e3 : k = 3
  · by_cases e21 : l = 21
    · simp [e3, e21]
    · have e : (l == 21) = false := by simpa using e21
      cases sAlien st <;> simp [e3, e21, e]
  · simp [e3]
theorem RT.wf_le {n : Nat} {S : PS} (h : PI n S) (hn : n ≤ 200) : S.2.2.2.length ≤ 200 ∧ stoM S.2.2.2 ≤ 200 ∧ acM S.2.2.2 ≤ 100 := by
  have h1 : S.1 ≤ n := h.bd.1
  have h2 : S.2.2.2.length ≤ S.1 := h.bd.2.1
  have h3 : stoM S.2.2.2 ≤ S.1 := h.bd.2.2.1
  have h4 : 2 * acM S.2.2.2 ≤ S.1 := h.bd.2.2.2
  omega
/-- a node that isn't an element is added to the rows -/
theorem RT.push {B A k d s0 : Nat} {kd le pr dp fo fr to so ow an vf vt so' : Nat → Int32} {nd : List Nd} {cs : List Int32} (h : RT B A kd le pr dp fo fr to so ow an vf vt nd) (hs : ∀ i, B ≤ i → i < B + stoM nd → so' i = so i) (hc : seg so' (B + stoM nd) cs) (e0 : s0 = stoM nd + cs.length) : RT B A (upd kd (B + nd.length) (nI k)) (upd le (B + nd.length) (nI 0)) (upd pr (B + nd.length) (sPv B d nd)) (upd dp (B + nd.length) (nI d)) (upd fo (B + nd.length) (b2 false)) (upd fr (B + nd.length) (nI (stoM nd))) (upd to (B + nd.length) (nI s0)) so' ow an vf vt (((k, 0, d, false, cs, []) : Nd) :: nd) := by
  refine ⟨⟨pk_us, pk_us, pk_us, pk_us, pk_us⟩, fun _ => ⟨pk_us, ?_, hc⟩, trivial, RT.congr h (fun i a b => ⟨pk_un (by omega), pk_un (by omega), pk_un (by omega), pk_un (by omega), pk_un (by omega), pk_un (by omega), pk_un (by omega)⟩) hs (fun i a b => ⟨rfl, rfl, rfl, rfl⟩)⟩
  rw [pk_us, e0]
  rfl
theorem sPv_suf {B : Nat} {x : Nd} {r : List Nd} {st : Stk} (hd : st.length ≤ x.2.2.1) (hts : x.2.2.1 = 0 ∨ ∃ y q, sPar x.2.2.1 r = y :: q ∧ y.1 = 3 ∧ y.2.2.1 + 1 = x.2.2.1 ∧ sHasEnd y.2.1 y.2.2.2.1) (hl : B + r.length < 2 ^ 30) : (sPv B x.2.2.1 r = sPv B st.length (x :: r)) = (x.2.2.1 = st.length) := by
  have e1 : sPar st.length (x :: r) = sPar st.length r := by rw [sPar, if_neg (by omega)]
  by_cases c : x.2.2.1 = st.length
  · have : sPv B x.2.2.1 r = sPv B st.length (x :: r) := by
      unfold sPv
      rw [e1, c]
    rw [this]
    simp [c]
  · have hne : ¬ sPv B x.2.2.1 r = sPv B st.length (x :: r) := by
      rcases hts with q0 | ⟨y, q, g1, g2, g3, g4⟩
      · omega
      · have h2 : sPar st.length (x :: r) = sPar st.length q := by
          rw [e1, sPar_mono (show st.length ≤ x.2.2.1 by omega), g1, sPar, if_neg (by omega)]
        have h3 := sPar_len st.length q
        have h4 := sPar_len x.2.2.1 r
        rw [g1] at h4
        have h4 : q.length + 1 ≤ r.length := h4
        unfold sPv
        rw [h2, g1]
        cases hq : sPar st.length q with
        | nil => exact nI_ne (by omega)
        | cons z q' =>
          rw [hq] at h3
          have h3 : q'.length + 1 ≤ q.length := h3
          show ¬ nI (B + q.length) = nI (B + q'.length)
          rw [pu_e (by omega) (by omega)]
          omega
    simp [hne, c]
/-- one letter of a text -/
theorem lotR {n w : Nat} {p : Nat} {raw : Bool} {kd le pr dp fo fr to so ow an vf vt op ct sd : Nat → Int32} {nd : List Nd} {st : Stk} (hw : w < 2) (hS : PI n (p, raw, st, nd)) (hst : stoM nd < 200) (hln : nd.length < 200) (h : RT (256 * w) (128 * w) kd le pr dp fo fr to so ow an vf vt nd) (hx : RSx op (256 * w) nd st) (hc : ct w = nI nd.length) (hs : sd w = nI (stoM nd)) (c : Int32) : ∃ ct' kd' le' pr' dp' fo' fr' to' sd' so' : Nat → Int32, f_X10_letterOfText (nI w) (nI st.length) ct kd le pr dp fo fr to sd so op c = some (ct', kd', le', pr', dp', fo', fr', to', sd', so') ∧ RT (256 * w) (128 * w) kd' le' pr' dp' fo' fr' to' so' ow an vf vt (sAdd [c] st nd) ∧ RSx op (256 * w) (sAdd [c] st nd) st ∧ ct' w = nI (sAdd [c] st nd).length ∧ sd' w = nI (stoM (sAdd [c] st nd)) ∧ (∀ i, i < w → ct' i = ct i ∧ sd' i = sd i) ∧ (∀ i, i < 256 * w → kd' i = kd i ∧ le' i = le i ∧ pr' i = pr i ∧ dp' i = dp i ∧ fo' i = fo i ∧ fr' i = fr i ∧ to' i = to i ∧ so' i = so i) := by
  have h8 : st.length ≤ 8 := hS.le
  have hrs := RS_of (op := op) h (by omega) hS.wf hx hS.ix
  have hj : ∀ j ∈ ixN nd st, j < nd.length := fun j q => Nat.lt_of_lt_of_le (hrs.2 j q) (sPar_len _ _)
  have hadd := addR (k := 1) (l := 0) hw hc hs (by omega) hx h8 hrs.1 hj (by decide) (by decide) kd pr dp fr to
  have hkeep := keepR (so := so) hw hs (by omega) c
  have hnew : ∃ ct' kd' le' pr' dp' fo' fr' to' sd' so' : Nat → Int32, f_X10_letterOfText_L60 (nI w) (nI st.length) op c ct kd le pr dp fo fr to sd so (nI (256 * w) + nI nd.length - 1) = some (ct', kd', le', pr', dp', fo', fr', to', sd', so') ∧ RT (256 * w) (128 * w) kd' le' pr' dp' fo' fr' to' so' ow an vf vt (((1, 0, st.length, false, [c], []) : Nd) :: nd) ∧ RSx op (256 * w) (((1, 0, st.length, false, [c], []) : Nd) :: nd) st ∧ ct' w = nI (nd.length + 1) ∧ sd' w = nI (stoM nd + 1) ∧ (∀ i, i < w → ct' i = ct i ∧ sd' i = sd i) ∧ (∀ i, i < 256 * w → kd' i = kd i ∧ le' i = le i ∧ pr' i = pr i ∧ dp' i = dp i ∧ fo' i = fo i ∧ fr' i = fr i ∧ to' i = to i ∧ so' i = so i) := by
    unfold f_X10_letterOfText_L60 f_X10_letterOfText_L61
    rw [if_pos rfl, show (1 : Int32) = nI 1 from rfl, show (0 : Int32) = nI 0 from rfl, hadd, Option.bind_some]
    unfold f_X10_letterOfText_L76
    rw [hkeep, Option.bind_some]
    dsimp only
    rw [pu_gi hw (by decide), pu_gi (show 256 * w + nd.length < 512 by omega) (by decide), nI_clamp (by omega), nI_clamp (by omega), pk_us]
    have hP := RT.push (k := 1) (d := st.length) (s0 := stoM nd + 1) (so' := upd so (256 * w + stoM nd) c) (cs := [c]) h (fun i a b => pk_un (by omega)) (fun i hi => by
      have : i = 0 := by simpa using hi
      subst this
      exact pk_us) rfl
    refine ⟨_, _, _, _, _, _, _, _, _, _, rfl, RT.congr hP (fun i a b => ⟨rfl, rfl, rfl, rfl, rfl, rfl, ?_⟩) (fun i a b => rfl) (fun i a b => ⟨rfl, rfl, rfl, rfl⟩), RSx.skip (Nat.le_refl _) hx, pk_us, pk_us, fun i hi => ⟨pk_un (by omega), pk_un (by omega)⟩, fun i hi => ?_⟩
    · by_cases e : i = 256 * w + nd.length
      · subst e; rw [pk_us, pk_us]
      · rw [pk_un e, pk_un e, pk_un e]
    · refine ⟨pk_un (by omega), pk_un (by omega), pk_un (by omega), pk_un (by omega), pk_un (by omega), pk_un (by omega), ?_, pk_un (by omega)⟩
      rw [pk_un (by omega), pk_un (by omega)]
  unfold f_X10_letterOfText
  rw [nI_clamp (show w < 2 ^ 31 by omega), hc, p256, pu_gi hw (by decide), pu_gi hw (by decide)]
  cases nd with
  | nil =>
    rw [if_pos (show nI ([] : List Nd).length ≤ 0 from nI_le (a := 0) (b := 0) (Nat.le_refl _) (by decide))]
    exact hnew
  | cons x r =>
    have hlc : (x :: r).length = r.length + 1 := rfl
    rw [if_neg (show ¬ nI (x :: r).length ≤ 0 from nI_nle (by simp) (by omega))]
    have e1 : nI (256 * w) + nI (x :: r).length - 1 = nI (256 * w + r.length) := by
      rw [nI_add, hlc, ← Nat.add_assoc]
      exact nI_pred _
    have hwx := hS.wf x List.mem_cons_self
    have hwx := hwx.1
    have hkd : kd (256 * w + r.length) = nI x.1 := h.1.1
    have hpr : pr (256 * w + r.length) = sPv (256 * w) x.2.2.1 r := h.1.2.2.1
    rw [e1] at hnew ⊢
    rw [pu_gi (show 256 * w + r.length < 512 by omega) (by decide), pu_gi (show 256 * w + r.length < 512 by omega) (by decide), nI_clamp (by omega), hkd, hpr, topRx hx h8, Option.bind_some, show (1 : Int32) = nI 1 from rfl]
    have ek : (nI x.1 = nI 1) = (x.1 = 1) := pu_e (by omega) (by decide)
    simp only [ek]
    by_cases c1 : x.1 = 1
    · have hHD : st.length ≤ x.2.2.1 := hS.hd.2 (by omega)
      have epv := sPv_suf (B := 256 * w) hHD hS.ts.1 (by omega)
      simp only [c1, if_true, epv]
      by_cases c2 : x.2.2.1 = st.length
      · rw [if_pos c2]
        have es : sAdd [c] st (x :: r) = (1, x.2.1, st.length, x.2.2.2.1, x.2.2.2.2.1 ++ [c], x.2.2.2.2.2) :: r := by simp [sAdd, c1, c2]
        rw [es]
        have hx0 := (hS.wf x List.mem_cons_self).2.2.2.1 (by omega)
        unfold f_X10_letterOfText_L61 f_X10_letterOfText_L76
        rw [if_neg (show ¬ nI 1 = 0 by decide), hkeep, Option.bind_some]
        dsimp only
        rw [pu_gi hw (by decide), pu_gi (show 256 * w + r.length < 512 by omega) (by decide), nI_clamp (by omega), nI_clamp (by omega), pk_us]
        obtain ⟨⟨q1, q2, q3, q4, q5⟩, q6, q7, q8⟩ := h
        obtain ⟨k1, k2, k3⟩ := q6 (by omega)
        have hst' : stoM (x :: r) = stoM r + x.2.2.2.2.1.length + vLen x.2.2.2.2.2 := rfl
        have hv0 : vLen x.2.2.2.2.2 = 0 := by rw [hx0.2.2]; rfl
        have hst2 : stoM (((1, x.2.1, st.length, x.2.2.2.1, x.2.2.2.2.1 ++ [c], x.2.2.2.2.2) : Nd) :: r) = stoM (x :: r) + 1 := by
          show stoM r + (x.2.2.2.2.1 ++ [c]).length + vLen x.2.2.2.2.2 = _
          rw [List.length_append, hst']
          simp
          omega
        refine ⟨_, _, _, _, _, _, _, _, _, _, rfl, ⟨⟨?_, q2, ?_, ?_, q5⟩, fun _ => ⟨k1, ?_, ?_⟩, ?_, ?_⟩, RSx.skip (Nat.le_refl _) (RSx.unskip hHD hx), hc, ?_, fun i hi => ⟨rfl, pk_un (by omega)⟩, fun i hi => ?_⟩
        · rw [q1, c1]
        · rw [q3, c2]
        · rw [q4, c2]
        · rw [pk_us, hst2]
        · refine seg_app (seg_eq k3 (fun j hj => pk_un ?_)) ?_
          · omega
          · intro i hi
            have : i = 0 := by simpa using hi
            subst this
            have : 256 * w + stoM r + x.2.2.2.2.1.length + 0 = 256 * w + stoM (x :: r) := by omega
            rw [this, pk_us]
            rfl
        · rw [hx0.2.2]; trivial
        · exact RT.congr q8 (fun i a b => ⟨rfl, rfl, rfl, rfl, rfl, rfl, pk_un (by omega)⟩) (fun i a b => pk_un (by omega)) (fun i a b => ⟨rfl, rfl, rfl, rfl⟩)
        · rw [pk_us, hst2]
        · exact ⟨rfl, rfl, rfl, rfl, rfl, rfl, pk_un (by omega), pk_un (by omega)⟩
      · have es : sAdd [c] st (x :: r) = (1, 0, st.length, false, [c], []) :: x :: r := by simp [sAdd, c2]
        rw [if_neg c2, es]
        exact hnew
    · have es : sAdd [c] st (x :: r) = (1, 0, st.length, false, [c], []) :: x :: r := by simp [sAdd, c1]
      simp only [c1, if_false]
      rw [es]
      exact hnew
/-! the rows of the reference in one -/
abbrev RW : Type := RowF × RowF × RowF × RowF × RowF × RowF × RowF × RowF × RowF × RowF × RowF × RowF × RowF × RowF × RowF × RowF
abbrev RW.ct (R : RW) : RowF := R.1
abbrev RW.kd (R : RW) : RowF := R.2.1
abbrev RW.le (R : RW) : RowF := R.2.2.1
abbrev RW.pr (R : RW) : RowF := R.2.2.2.1
abbrev RW.dp (R : RW) : RowF := R.2.2.2.2.1
abbrev RW.fo (R : RW) : RowF := R.2.2.2.2.2.1
abbrev RW.fr (R : RW) : RowF := R.2.2.2.2.2.2.1
abbrev RW.to (R : RW) : RowF := R.2.2.2.2.2.2.2.1
abbrev RW.ac (R : RW) : RowF := R.2.2.2.2.2.2.2.2.1
abbrev RW.ow (R : RW) : RowF := R.2.2.2.2.2.2.2.2.2.1
abbrev RW.an (R : RW) : RowF := R.2.2.2.2.2.2.2.2.2.2.1
abbrev RW.vf (R : RW) : RowF := R.2.2.2.2.2.2.2.2.2.2.2.1
abbrev RW.vt (R : RW) : RowF := R.2.2.2.2.2.2.2.2.2.2.2.2.1
abbrev RW.sd (R : RW) : RowF := R.2.2.2.2.2.2.2.2.2.2.2.2.2.1
abbrev RW.so (R : RW) : RowF := R.2.2.2.2.2.2.2.2.2.2.2.2.2.2.1
abbrev RW.op (R : RW) : RowF := R.2.2.2.2.2.2.2.2.2.2.2.2.2.2.2
def RI (w : Nat) (nd : List Nd) (st : Stk) (R : RW) : Prop := RT (256 * w) (128 * w) R.kd R.le R.pr R.dp R.fo R.fr R.to R.so R.ow R.an R.vf R.vt nd ∧ RSx R.op (256 * w) nd st ∧ R.ct w = nI nd.length ∧ R.sd w = nI (stoM nd) ∧ R.ac w = nI (acM nd)
theorem RI.rt {w : Nat} {nd : List Nd} {st : Stk} {R : RW} (h : RI w nd st R) : RT (256 * w) (128 * w) R.kd R.le R.pr R.dp R.fo R.fr R.to R.so R.ow R.an R.vf R.vt nd := h.1
theorem RI.rs {w : Nat} {nd : List Nd} {st : Stk} {R : RW} (h : RI w nd st R) : RSx R.op (256 * w) nd st := h.2.1
theorem RI.ct {w : Nat} {nd : List Nd} {st : Stk} {R : RW} (h : RI w nd st R) : R.ct w = nI nd.length := h.2.2.1
theorem RI.sd {w : Nat} {nd : List Nd} {st : Stk} {R : RW} (h : RI w nd st R) : R.sd w = nI (stoM nd) := h.2.2.2.1
theorem RI.ac {w : Nat} {nd : List Nd} {st : Stk} {R : RW} (h : RI w nd st R) : R.ac w = nI (acM nd) := h.2.2.2.2
def FM (w : Nat) (R R' : RW) : Prop := (∀ i, i < w → R'.ct i = R.ct i ∧ R'.sd i = R.sd i ∧ R'.ac i = R.ac i) ∧ (∀ i, i < 256 * w → R'.kd i = R.kd i ∧ R'.le i = R.le i ∧ R'.pr i = R.pr i ∧ R'.dp i = R.dp i ∧ R'.fo i = R.fo i ∧ R'.fr i = R.fr i ∧ R'.to i = R.to i ∧ R'.so i = R.so i) ∧ (∀ i, i < 128 * w → R'.ow i = R.ow i ∧ R'.an i = R.an i ∧ R'.vf i = R.vf i ∧ R'.vt i = R.vt i)
theorem FM.f1 {w : Nat} {R R' : RW} (h : FM w R R') : ∀ i, i < w → R'.ct i = R.ct i ∧ R'.sd i = R.sd i ∧ R'.ac i = R.ac i := h.1
theorem FM.f2 {w : Nat} {R R' : RW} (h : FM w R R') : ∀ i, i < 256 * w → R'.kd i = R.kd i ∧ R'.le i = R.le i ∧ R'.pr i = R.pr i ∧ R'.dp i = R.dp i ∧ R'.fo i = R.fo i ∧ R'.fr i = R.fr i ∧ R'.to i = R.to i ∧ R'.so i = R.so i := h.2.1
theorem FM.f3 {w : Nat} {R R' : RW} (h : FM w R R') : ∀ i, i < 128 * w → R'.ow i = R.ow i ∧ R'.an i = R.an i ∧ R'.vf i = R.vf i ∧ R'.vt i = R.vt i := h.2.2
theorem FM.refl (w : Nat) (R : RW) : FM w R R := ⟨fun _ _ => ⟨rfl, rfl, rfl⟩, fun _ _ => ⟨rfl, rfl, rfl, rfl, rfl, rfl, rfl, rfl⟩, fun _ _ => ⟨rfl, rfl, rfl, rfl⟩⟩
theorem FM.trans {w : Nat} {R R' R2 : RW} (h : FM w R R') (g : FM w R' R2) : FM w R R2 := by
  refine ⟨fun i hi => ?_, fun i hi => ?_, fun i hi => ?_⟩
  · have a := h.f1 i hi
    have b := g.f1 i hi
    exact ⟨b.1.trans a.1, b.2.1.trans a.2.1, b.2.2.trans a.2.2⟩
  · obtain ⟨a1, a2, a3, a4, a5, a6, a7, a8⟩ := h.f2 i hi
    obtain ⟨b1, b2, b3, b4, b5, b6, b7, b8⟩ := g.f2 i hi
    exact ⟨b1.trans a1, b2.trans a2, b3.trans a3, b4.trans a4, b5.trans a5, b6.trans a6, b7.trans a7, b8.trans a8⟩
  · obtain ⟨a1, a2, a3, a4⟩ := h.f3 i hi
    obtain ⟨b1, b2, b3, b4⟩ := g.f3 i hi
    exact ⟨b1.trans a1, b2.trans a2, b3.trans a3, b4.trans a4⟩
theorem letR {n w p : Nat} {raw : Bool} {nd : List Nd} {st : Stk} {R : RW} (hw : w < 2) (hS : PI n (p, raw, st, nd)) (hst : stoM nd < 200) (hln : nd.length < 200) (h : RI w nd st R) (c : Int32) : ∃ R' : RW, f_X10_letterOfText (nI w) (nI st.length) R.ct R.kd R.le R.pr R.dp R.fo R.fr R.to R.sd R.so R.op c = some (R'.ct, R'.kd, R'.le, R'.pr, R'.dp, R'.fo, R'.fr, R'.to, R'.sd, R'.so) ∧ R'.ac = R.ac ∧ R'.ow = R.ow ∧ R'.an = R.an ∧ R'.vf = R.vf ∧ R'.vt = R.vt ∧ R'.op = R.op ∧ RI w (sAdd [c] st nd) st R' ∧ FM w R R' := by
  obtain ⟨ct', kd', le', pr', dp', fo', fr', to', sd', so', g1, g2, g3, g4, g5, g6, g7⟩ := lotR hw hS hst hln h.rt h.rs h.ct h.sd c
  refine ⟨⟨ct', kd', le', pr', dp', fo', fr', to', R.ac, R.ow, R.an, R.vf, R.vt, sd', so', R.op⟩, g1, rfl, rfl, rfl, rfl, rfl, rfl, ⟨g2, g3, g4, g5, ?_⟩, ⟨fun i hi => ⟨(g6 i hi).1, (g6 i hi).2, rfl⟩, g7, fun i hi => ⟨rfl, rfl, rfl, rfl⟩⟩⟩
  show R.ac w = _
  rw [h.ac, (sAdd_bd [c] st nd).2.2]
