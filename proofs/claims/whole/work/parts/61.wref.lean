/-! the reference writes -/
theorem lrW2 {q : Int32 × RowF} {o : List Int32} (h : LR q o) (hb : o.length < 2 ^ 20) (c : Int32) : ∃ q' : Int32 × RowF, f_X10_write q.1 q.2 c = some q' ∧ LR q' (o ++ [c]) := lrAdd h hb c
theorem lrL : ∀ (xs : List Int32) (q : Int32 × RowF) (o : List Int32), LR q o → o.length + xs.length < 2 ^ 20 → ∃ q' : Int32 × RowF, xs.foldlM (fun (a : Int32 × RowF) c => f_X10_write a.1 a.2 c) q = some q' ∧ LR q' (o ++ xs)
  | [], q, o, h, _ => ⟨q, rfl, by rw [List.append_nil]; exact h⟩
  | c :: cs, q, o, h, hb => by
    rw [List.length_cons] at hb
    obtain ⟨q1, k1, h1⟩ := lrAdd h (by omega) c
    obtain ⟨q2, k2, h2⟩ := lrL cs q1 _ h1 (by simp; omega)
    refine ⟨q2, ?_, by rw [List.append_assoc] at h2; exact h2⟩
    rw [List.foldlM_cons, k1]
    exact k2
theorem escT {q : Int32 × RowF} {o : List Int32} (h : LR q o) (hb : o.length + 6 < 2 ^ 20) (c : Int32) : ∃ q' : Int32 × RowF, f_X10_escaped q.1 q.2 c 0 = some q' ∧ LR q' (o ++ eT c) := by
  unfold f_X10_escaped f_X10_escaped_L88 f_X10_escaped_L104 f_X10_escaped_L124 f_X10_escaped_L142 eT
  by_cases c1 : c = 38
  · simp only [if_pos c1]
    obtain ⟨q1, k1, h1⟩ := lrL [38, 97, 109, 112, 59] q o h (by simp; omega)
    exact ⟨q1, k1, h1⟩
  · simp only [if_neg c1, if_true]
    by_cases c2 : c = 60
    · simp only [if_pos c2]
      obtain ⟨q1, k1, h1⟩ := lrL [38, 108, 116, 59] q o h (by simp; omega)
      exact ⟨q1, k1, h1⟩
    · simp only [if_neg c2]
      by_cases c3 : c = 62
      · simp only [if_pos c3]
        obtain ⟨q1, k1, h1⟩ := lrL [38, 103, 116, 59] q o h (by simp; omega)
        exact ⟨q1, k1, h1⟩
      · simp only [if_neg c3]
        obtain ⟨q1, k1, h1⟩ := lrL [c] q o h (by simp; omega)
        exact ⟨q1, k1, h1⟩
theorem escV {q : Int32 × RowF} {o : List Int32} (h : LR q o) (hb : o.length + 6 < 2 ^ 20) (c : Int32) : ∃ q' : Int32 × RowF, f_X10_escaped q.1 q.2 c 1 = some q' ∧ LR q' (o ++ eV c) := by
  unfold f_X10_escaped f_X10_escaped_L88 f_X10_escaped_L142 eV
  by_cases c1 : c = 38
  · simp only [if_pos c1]
    obtain ⟨q1, k1, h1⟩ := lrL [38, 97, 109, 112, 59] q o h (by simp; omega)
    exact ⟨q1, k1, h1⟩
  · simp only [if_neg c1, show ¬ (1 : Int32) = 0 by decide, if_false]
    by_cases c2 : c = 34
    · simp only [if_pos c2]
      obtain ⟨q1, k1, h1⟩ := lrL [38, 113, 117, 111, 116, 59] q o h (by simp; omega)
      exact ⟨q1, k1, h1⟩
    · simp only [if_neg c2]
      obtain ⟨q1, k1, h1⟩ := lrL [c] q o h (by simp; omega)
      exact ⟨q1, k1, h1⟩
/-! the table of all attributes -/
abbrev Row3 : Type := Nat × Nat × At
def tbx (i : Nat) : Nat → List At → List Row3
  | _, [] => []
  | s, q :: r => (i, s, q) :: tbx i (s + q.2.length) r
def tb : List Nd → List Row3
  | [] => []
  | x :: r => tb r ++ tbx r.length (stoM r) x.2.2.2.2.2
theorem tbx_len (i : Nat) : ∀ (xs : List At) (s : Nat), (tbx i s xs).length = xs.length
  | [], _ => rfl
  | q :: r, s => by
    show (tbx i (s + q.2.length) r).length + 1 = r.length + 1
    rw [tbx_len i r]
theorem tb_len : ∀ nd, (tb nd).length = acM nd
  | [] => rfl
  | x :: r => by
    show (tb r ++ tbx r.length (stoM r) x.2.2.2.2.2).length = acM r + x.2.2.2.2.2.length
    rw [List.length_append, tb_len r, tbx_len]
def RB (B A : Nat) (ow an vf vt so : RowF) : List Row3 → Nat → Prop
  | [], _ => True
  | z :: r, k => ow (A + k) = nI (B + z.1) ∧ an (A + k) = nI z.2.2.1 ∧ vf (A + k) = nI z.2.1 ∧ vt (A + k) = nI (z.2.1 + z.2.2.2.length) ∧ seg so (B + z.2.1) z.2.2.2 ∧ RB B A ow an vf vt so r (k + 1)
theorem RB_app {B A : Nat} {ow an vf vt so : RowF} : ∀ {xs ys : List Row3} {k : Nat}, RB B A ow an vf vt so xs k → RB B A ow an vf vt so ys (k + xs.length) → RB B A ow an vf vt so (xs ++ ys) k
  | [], ys, k, _, h => h
  | z :: r, ys, k, h, h2 => by
    obtain ⟨g1, g2, g3, g4, g5, g6⟩ := h
    refine ⟨g1, g2, g3, g4, g5, RB_app g6 ?_⟩
    rw [List.length_cons] at h2
    rw [show k + 1 + r.length = k + (r.length + 1) by omega]
    exact h2
theorem RB_x {B A i : Nat} {ow an vf vt so : RowF} : ∀ {xs : List At} {a s : Nat}, RA B A ow an vf vt so (nI (B + i)) xs a s → RB B A ow an vf vt so (tbx i s xs) a
  | [], _, _, _ => trivial
  | q :: r, a, s, h => by
    obtain ⟨g1, g2, g3, g4, g5, g6⟩ := h
    exact ⟨g1, g2, g3, g4, g5, RB_x g6⟩
theorem RB_of {B A : Nat} {kd le pr dp fo fr to so ow an vf vt : RowF} : ∀ {nd : List Nd}, RT B A kd le pr dp fo fr to so ow an vf vt nd → RB B A ow an vf vt so (tb nd) 0
  | [], _ => trivial
  | x :: r, h => by
    obtain ⟨-, -, g7, g8⟩ := h
    have := RB_of g8
    refine RB_app this ?_
    rw [tb_len, Nat.zero_add]
    exact RB_x g7
/-- what is written for an element and a letter -/
def scn (ok : At → Bool) (i a : Nat) : List Row3 → List Int32
  | [] => []
  | z :: r => (if z.1 = i ∧ z.2.2.1 = a ∧ ok z.2.2 = true then wA z.2.2 else []) ++ scn ok i a r
theorem scn_app (ok : At → Bool) (i a : Nat) : ∀ (xs ys : List Row3), scn ok i a (xs ++ ys) = scn ok i a xs ++ scn ok i a ys
  | [], ys => rfl
  | z :: r, ys => by
    show (if z.1 = i ∧ z.2.2.1 = a ∧ ok z.2.2 = true then wA z.2.2 else []) ++ scn ok i a (r ++ ys) = _
    rw [scn_app ok i a r ys, ← List.append_assoc]
    rfl
theorem scn_no {ok : At → Bool} {i a : Nat} : ∀ {xs : List Row3}, (∀ z ∈ xs, ¬ z.1 = i) → scn ok i a xs = []
  | [], _ => rfl
  | z :: r, h => by
    show (if z.1 = i ∧ z.2.2.1 = a ∧ ok z.2.2 = true then wA z.2.2 else []) ++ scn ok i a r = []
    rw [if_neg (fun q => h z List.mem_cons_self q.1), scn_no (fun y hy => h y (List.mem_cons_of_mem _ hy))]
    rfl
theorem tbx_mem {i : Nat} : ∀ {xs : List At} {s : Nat} {z : Row3}, z ∈ tbx i s xs → z.1 = i
  | [], _, z, h => by simp [tbx] at h
  | q :: r, s, z, h => by
    rcases List.mem_cons.mp h with g | g
    · rw [g]
    · exact tbx_mem g
theorem tb_mem : ∀ {nd : List Nd} {z : Row3}, z ∈ tb nd → z.1 < nd.length
  | [], z, h => by simp [tb] at h
  | x :: r, z, h => by
    rw [List.length_cons]
    rcases List.mem_append.mp (show z ∈ tb r ++ tbx r.length (stoM r) x.2.2.2.2.2 from h) with g | g
    · have := tb_mem g
      omega
    · rw [tbx_mem g]
      omega
theorem scn_x {ok : At → Bool} {i a : Nat} : ∀ {xs : List At} {s : Nat}, xs.Pairwise (fun p q => ¬ p.1 = q.1) → scn ok i a (tbx i s xs) = match xs.find? (fun q => q.1 == a) with
    | none => []
    | some q => if ok q = true then wA q else []
  | [], _, _ => rfl
  | q :: r, s, h => by
    rw [List.pairwise_cons] at h
    rw [show scn ok i a (tbx i s (q :: r)) = (if i = i ∧ q.1 = a ∧ ok q = true then wA q else []) ++ scn ok i a (tbx i (s + q.2.length) r) from rfl, scn_x h.2, List.find?_cons]
    by_cases c : q.1 = a
    · have hn : r.find? (fun q => q.1 == a) = none := by
        rw [List.find?_eq_none]
        intro x hx
        have := h.1 x hx
        simp
        intro q'
        exact this (by rw [c, q'])
      rw [hn]
      simp [c]
    · have c' : (q.1 == a) = false := by simpa using c
      rw [c', if_neg (fun z => c z.2.1), List.nil_append]
theorem scn_tb {ok : At → Bool} {a : Nat} {x : Nd} {r : List Nd} (hx : x.2.2.2.2.2.Pairwise (fun p q => ¬ p.1 = q.1)) : ∀ (p : List Nd), scn ok r.length a (tb (p ++ x :: r)) = match x.2.2.2.2.2.find? (fun q => q.1 == a) with
    | none => []
    | some q => if ok q = true then wA q else []
  | [] => by
    rw [List.nil_append, show tb (x :: r) = tb r ++ tbx r.length (stoM r) x.2.2.2.2.2 from rfl, scn_app, scn_no (fun z hz => by have := tb_mem hz; omega), List.nil_append]
    exact scn_x hx
  | y :: p => by
    rw [List.cons_append, show tb (y :: (p ++ x :: r)) = tb (p ++ x :: r) ++ tbx (p ++ x :: r).length (stoM (p ++ x :: r)) y.2.2.2.2.2 from rfl, scn_app, scn_tb hx p, scn_no (xs := tbx _ _ _) (fun z hz => by rw [tbx_mem hz, List.length_append, List.length_cons]; omega), List.append_nil]
def scA (ok : At → Bool) (i : Nat) (T : List Row3) : Nat → Nat → List Int32
  | _, 0 => []
  | a, j + 1 => scn ok i a T ++ scA ok i T (a + 1) j
theorem scA_sort {ok : At → Bool} {x : Nd} {p r : List Nd} (hx : x.2.2.2.2.2.Pairwise (fun p q => ¬ p.1 = q.1)) : ∀ (j a : Nat), scA ok r.length (tb (p ++ x :: r)) a j = wAs ok (sSortF x.2.2.2.2.2 a j)
  | 0, _ => rfl
  | j + 1, a => by
    rw [show scA ok r.length (tb (p ++ x :: r)) a (j + 1) = scn ok r.length a (tb (p ++ x :: r)) ++ scA ok r.length (tb (p ++ x :: r)) (a + 1) j from rfl, scn_tb hx, scA_sort hx j (a + 1)]
    rw [show sSortF x.2.2.2.2.2 a (j + 1) = match x.2.2.2.2.2.find? (fun q => q.1 == a) with
      | none => sSortF x.2.2.2.2.2 (a + 1) j
      | some q => q :: sSortF x.2.2.2.2.2 (a + 1) j from rfl]
    cases x.2.2.2.2.2.find? (fun q => q.1 == a) with
    | none => rfl
    | some q => rfl
theorem valL185 {so vf vt mt le ac ow an : RowF} {sch : Nat → Int64} {ns w : Nat} (v1 : Int32) {k e : Nat} (hk : k < 256) (he : vt k = nI e) (v2 : Int32) : ∀ (xs : List Int32) (s f : Nat) (q : Int32 × RowF) (o : List Int32), s + xs.length = e → 256 * w + e ≤ 512 → xs.length < f → seg so (256 * w + s) xs → LR q o → o.length + 6 * xs.length + 6 < 2 ^ 20 → ∃ q' : Int32 × RowF, f_X10_beginOf_L185 (nI ns) (nI w) mt sch le ac ow an vf vt so v1 f q.1 q.2 v2 (nI k) (nI (256 * w + s)) = some (q'.1, q'.2, v2, nI k) ∧ LR q' (o ++ fl eV xs) := by
  intro xs
  induction xs with
  | nil =>
    intro s f q o hs h5 hf hseg h hb
    obtain ⟨f, rfl⟩ : ∃ g, f = g + 1 := ⟨f - 1, by simp at hf; omega⟩
    have hs : s = e := hs
    refine ⟨q, ?_, by rw [fl, List.append_nil]; exact h⟩
    rw [f_X10_beginOf_L185, pu_gi hk (by decide), nI_clamp (show k < 2 ^ 31 by omega), he, p256, nI_add, if_pos (nI_le (by omega) (by omega))]
  | cons c cs ih =>
    intro s f q o hs h5 hf hseg h hb
    rw [List.length_cons] at hs hf hb
    obtain ⟨f, rfl⟩ : ∃ g, f = g + 1 := ⟨f - 1, by omega⟩
    obtain ⟨hr, hseg'⟩ := seg_cons hseg
    obtain ⟨q1, k1, h1⟩ := escV h (by omega) c
    have hl := eV_len c
    obtain ⟨q2, k2, h2⟩ := ih (s + 1) f q1 _ (by omega) h5 (by omega) hseg' h1 (by rw [List.length_append]; omega)
    refine ⟨q2, ?_, by rw [List.append_assoc] at h2; exact h2⟩
    rw [f_X10_beginOf_L185, pu_gi hk (by decide), nI_clamp (show k < 2 ^ 31 by omega), he, p256, nI_add, if_neg (nI_ge (by omega) (by omega)), pu_gi (show 256 * w + s < 512 by omega) (by decide), nI_clamp (show 256 * w + s < 2 ^ 31 by omega), hr, k1, Option.bind_some, nI_1]
    exact k2
set_option maxRecDepth 8000 in
theorem atL36 {so vf vt mt le ac ow an xt : RowF} {sch : Nat → Int64} {ns w K l i a : Nat} (hw : w < 2) (hns : ns ≤ 4) (hat : pu_at xt mt) (hac : ac w = nI K) (hK : K ≤ 100) (hl : l < 26) (hle : le (256 * w + i) = nI l) (hi : i < 256) (ha : a < 26) : ∀ (T : List Row3) (k f : Nat) (q : Int32 × RowF) (o : List Int32), RB (256 * w) (128 * w) ow an vf vt so T k → k + T.length = K → T.length < f → (∀ z ∈ T, z.1 < 256 ∧ z.2.2.1 < 26 ∧ z.2.1 + z.2.2.2.length ≤ 256 ∧ z.2.2.2.length ≤ 200) → LR q o → o.length + 1300 * T.length + 60 < 2 ^ 20 → ∃ q' : Int32 × RowF, f_X10_beginOf_L36 (nI ns) (nI w) mt sch le ac ow an vf vt so (nI (256 * w + i)) f q.1 q.2 (nI a) (nI (128 * w + k)) = some (q'.1, q'.2, nI a) ∧ LR q' (o ++ scn (okC xt sch ns l) i a T) := by
  intro T
  induction T with
  | nil =>
    intro k f q o hR hk hf hz h hb
    obtain ⟨f, rfl⟩ : ∃ g, f = g + 1 := ⟨f - 1, by simp at hf; omega⟩
    have hk : k = K := hk
    refine ⟨q, ?_, by rw [scn, List.append_nil]; exact h⟩
    rw [f_X10_beginOf_L36, pu_gi hw (by decide), nI_clamp (show w < 2 ^ 31 by omega), hac, p128, nI_add, if_pos (nI_le (by omega) (by omega))]
  | cons z T ih =>
    intro k f q o hR hk hf hz h hb
    rw [List.length_cons] at hk hf hb
    obtain ⟨f, rfl⟩ : ∃ g, f = g + 1 := ⟨f - 1, by omega⟩
    obtain ⟨g1, g2, g3, g4, g5, g6⟩ := hR
    obtain ⟨z1, z2, z3, z4⟩ := hz z List.mem_cons_self
    have hgo := fun q0 o0 h0 hb0 => ih (k + 1) f q0 o0 g6 (by omega) (by omega) (fun y hy => hz y (List.mem_cons_of_mem _ hy)) h0 hb0
    have h229 : ∀ (q0 : Int32 × RowF), f_X10_beginOf_L229 (nI ns) (nI w) mt sch le ac ow an vf vt so (nI (256 * w + i)) (f_X10_beginOf_L36 (nI ns) (nI w) mt sch le ac ow an vf vt so (nI (256 * w + i)) f) q0.1 q0.2 (nI a) (nI (128 * w + k)) = f_X10_beginOf_L36 (nI ns) (nI w) mt sch le ac ow an vf vt so (nI (256 * w + i)) f q0.1 q0.2 (nI a) (nI (128 * w + (k + 1))) := by
      intro q0
      unfold f_X10_beginOf_L229
      rw [nI_1, Nat.add_assoc]
    -- the attribute is written
    have h142 : z.2.2.1 = a → ∃ q' : Int32 × RowF, f_X10_beginOf_L142 (nI ns) (nI w) mt sch le ac ow an vf vt so (nI (256 * w + i)) (f_X10_beginOf_L36 (nI ns) (nI w) mt sch le ac ow an vf vt so (nI (256 * w + i)) f) q.1 q.2 (nI a) (nI (128 * w + k)) = some (q'.1, q'.2, nI a) ∧ LR q' (o ++ (wA z.2.2 ++ scn (okC xt sch ns l) i a T)) := by
      intro hza
      obtain ⟨q1, k1, h1⟩ := lrAdd h (by omega) 32
      obtain ⟨q2, k2, h2⟩ := lrAdd h1 (by simp; omega) (nI (97 + a))
      obtain ⟨q3, k3, h3⟩ := lrAdd h2 (by simp; omega) 61
      obtain ⟨q4, k4, h4⟩ := lrAdd h3 (by simp; omega) 34
      obtain ⟨q5, k5, h5⟩ := valL185 (so := so) (vf := vf) (vt := vt) (mt := mt) (le := le) (ac := ac) (ow := ow) (an := an) (sch := sch) (ns := ns) (w := w) (nI (256 * w + i)) (k := 128 * w + k) (show 128 * w + k < 256 by omega) g4 (nI a) z.2.2.2 z.2.1 1000 q4 _ rfl (by omega) (by omega) g5 h4 (by simp; omega)
      have hfl := fl_len eV_len z.2.2.2
      obtain ⟨q6, k6, h6⟩ := lrAdd h5 (by simp; omega) 34
      have ew : o ++ [32] ++ [nI (97 + a)] ++ [61] ++ [34] ++ fl eV z.2.2.2 ++ [34] = o ++ wA z.2.2 := by
        unfold wA
        rw [hza]
        simp
      rw [ew] at h6
      have hwl := wA_len z.2.2
      obtain ⟨q7, k7, h7⟩ := hgo q6 _ h6 (by rw [List.length_append]; omega)
      refine ⟨q7, ?_, by rw [List.append_assoc] at h7; exact h7⟩
      unfold f_X10_beginOf_L142
      rw [k1, Option.bind_some, show (97 : Int32) + nI a = nI (97 + a) from nI_add 97 a, k2, Option.bind_some, k3, Option.bind_some, k4, Option.bind_some, pu_gi (show 128 * w + k < 256 by omega) (by decide), nI_clamp (show 128 * w + k < 2 ^ 31 by omega), g3, p256, nI_add, k5, Option.bind_some]
      dsimp only
      rw [k6, Option.bind_some, h229]
      exact k7
    have hskip : ∃ q' : Int32 × RowF, f_X10_beginOf_L36 (nI ns) (nI w) mt sch le ac ow an vf vt so (nI (256 * w + i)) f q.1 q.2 (nI a) (nI (128 * w + (k + 1))) = some (q'.1, q'.2, nI a) ∧ LR q' (o ++ scn (okC xt sch ns l) i a T) := hgo q o h (by omega)
    -- may: not, or what the address says
    have h115 : z.2.2.1 = a → ∃ q' : Int32 × RowF, f_X10_beginOf_L115 (nI ns) (nI w) mt sch le ac ow an vf vt so (nI (256 * w + i)) (f_X10_beginOf_L36 (nI ns) (nI w) mt sch le ac ow an vf vt so (nI (256 * w + i)) f) q.1 q.2 (nI a) (nI (128 * w + k)) 1 = some (q'.1, q'.2, nI a) ∧ LR q' (o ++ ((if (!(decide (a = 7) || decide (a = 17)) || sSafe sch ns z.2.2.2) = true then wA z.2.2 else []) ++ scn (okC xt sch ns l) i a T)) := by
      intro hza
      have hs := safeR (so := so) (vf := vf) (vt := vt) (n := ns) (w := w) (a := 128 * w + k) (k := z.2.1) (sch := sch) (v := z.2.2.2) hns (by omega) g3 g4 (by omega) z4 g5
      unfold f_X10_beginOf_L115 f_X10_beginOf_L134
      rw [if_neg (show ¬ (1 : Int32) = 0 by decide), hs, Option.bind_some]
      have e7 : (nI a = 7) = (a = 7) := pu_e (b := 7) (by omega) (by decide)
      have e17 : (nI a = 17) = (a = 17) := pu_e (b := 17) (by omega) (by decide)
      simp only [e7, e17, b2_0]
      have both : (a = 7 ∨ a = 17) → ∃ q' : Int32 × RowF, (if sSafe sch ns z.2.2.2 = false then f_X10_beginOf_L229 (nI ns) (nI w) mt sch le ac ow an vf vt so (nI (256 * w + i)) (f_X10_beginOf_L36 (nI ns) (nI w) mt sch le ac ow an vf vt so (nI (256 * w + i)) f) q.1 q.2 (nI a) (nI (128 * w + k)) else f_X10_beginOf_L142 (nI ns) (nI w) mt sch le ac ow an vf vt so (nI (256 * w + i)) (f_X10_beginOf_L36 (nI ns) (nI w) mt sch le ac ow an vf vt so (nI (256 * w + i)) f) q.1 q.2 (nI a) (nI (128 * w + k))) = some (q'.1, q'.2, nI a) ∧ LR q' (o ++ ((if (!(decide (a = 7) || decide (a = 17)) || sSafe sch ns z.2.2.2) = true then wA z.2.2 else []) ++ scn (okC xt sch ns l) i a T)) := by
        intro h717
        have hb : (decide (a = 7) || decide (a = 17)) = true := by simpa using h717
        rw [hb, Bool.not_true, Bool.false_or]
        cases sSafe sch ns z.2.2.2 with
        | false =>
          rw [if_pos rfl, if_neg (by decide), List.nil_append, h229]
          exact hskip
        | true =>
          rw [if_neg (by decide), if_pos rfl]
          exact h142 hza
      by_cases c7 : a = 7
      · rw [if_pos c7]
        exact both (Or.inl c7)
      · rw [if_neg c7]
        by_cases c17 : a = 17
        · rw [if_pos c17]
          exact both (Or.inr c17)
        · rw [if_neg c17]
          have hb : (!(decide (a = 7) || decide (a = 17)) || sSafe sch ns z.2.2.2) = true := by simp [c7, c17]
          rw [if_pos hb]
          exact h142 hza
    rw [f_X10_beginOf_L36, pu_gi hw (by decide), nI_clamp (show w < 2 ^ 31 by omega), hac, p128, nI_add, if_neg (nI_ge (by omega) (by omega)), pu_gi (show 128 * w + k < 256 by omega) (by decide), pu_gi (show 128 * w + k < 256 by omega) (by decide), nI_clamp (show 128 * w + k < 2 ^ 31 by omega), g1, g2, pu_gi (show 256 * w + i < 512 by omega) (by decide), nI_clamp (show 256 * w + i < 2 ^ 31 by omega), hle, show (26 : Int32) * nI l = nI (26 * l) from pk_mul 26 l, nI_add, show (676 : Int32) + nI a = nI (676 + a) from nI_add 676 a, pu_gi (show 26 * l + a < 702 by omega) (by omega), pu_gi (show 676 + a < 702 by omega) (by omega), nI_clamp (show 26 * l + a < 2 ^ 31 by omega), nI_clamp (show 676 + a < 2 ^ 31 by omega)]
    have em1 : (mt (26 * l + a) = 0) = (bt (xt l) a = false) := by
      rw [hat l (by omega) a ha]
      cases bt (xt l) a <;> simp
    have em2 : (mt (676 + a) = 0) = (bt (xt 26) a = false) := by
      rw [show 676 + a = 26 * 26 + a by omega, hat 26 (by omega) a ha]
      cases bt (xt 26) a <;> simp
    have eo : (nI (256 * w + z.1) = nI (256 * w + i)) = (z.1 = i) := by
      rw [pu_e (by omega) (by omega)]
      apply propext
      omega
    have ea : (nI z.2.2.1 = nI a) = (z.2.2.1 = a) := pu_e (by omega) (by omega)
    simp only [em1, em2, eo, ea]
    unfold f_X10_beginOf_L114 f_X10_beginOf_L110
    have h0 : f_X10_beginOf_L115 (nI ns) (nI w) mt sch le ac ow an vf vt so (nI (256 * w + i)) (f_X10_beginOf_L36 (nI ns) (nI w) mt sch le ac ow an vf vt so (nI (256 * w + i)) f) q.1 q.2 (nI a) (nI (128 * w + k)) 0 = f_X10_beginOf_L36 (nI ns) (nI w) mt sch le ac ow an vf vt so (nI (256 * w + i)) f q.1 q.2 (nI a) (nI (128 * w + (k + 1))) := by
      unfold f_X10_beginOf_L115
      rw [if_pos rfl, h229]
    rw [h0]
    show ∃ q' : Int32 × RowF, _ = some (q'.1, q'.2, nI a) ∧ LR q' (o ++ ((if z.1 = i ∧ z.2.2.1 = a ∧ okC xt sch ns l z.2.2 = true then wA z.2.2 else []) ++ scn (okC xt sch ns l) i a T))
    by_cases co : z.1 = i
    · by_cases ca : z.2.2.1 = a
      · have hok : okC xt sch ns l z.2.2 = ((bt (xt l) a || bt (xt 26) a) && (!(decide (a = 7) || decide (a = 17)) || sSafe sch ns z.2.2.2)) := by
          unfold okC
          rw [ca]
        rw [if_pos co, if_pos ca]
        have h115' := h115 ca
        cases hb1 : bt (xt l) a with
        | true =>
          rw [if_neg (by decide)]
          have : (if z.1 = i ∧ z.2.2.1 = a ∧ okC xt sch ns l z.2.2 = true then wA z.2.2 else []) = (if (!(decide (a = 7) || decide (a = 17)) || sSafe sch ns z.2.2.2) = true then wA z.2.2 else []) := by
            rw [hok, hb1, Bool.true_or, Bool.true_and]
            simp only [co, ca, true_and]
          rw [this]
          exact h115'
        | false =>
          rw [if_pos rfl]
          cases hb2 : bt (xt 26) a with
          | true =>
            rw [if_neg (by decide)]
            have : (if z.1 = i ∧ z.2.2.1 = a ∧ okC xt sch ns l z.2.2 = true then wA z.2.2 else []) = (if (!(decide (a = 7) || decide (a = 17)) || sSafe sch ns z.2.2.2) = true then wA z.2.2 else []) := by
              rw [hok, hb1, hb2, Bool.false_or, Bool.true_and]
              simp only [co, ca, true_and]
            rw [this]
            exact h115'
          | false =>
            rw [if_pos rfl]
            have : (if z.1 = i ∧ z.2.2.1 = a ∧ okC xt sch ns l z.2.2 = true then wA z.2.2 else []) = [] := by
              rw [hok, hb1, hb2]
              simp
            rw [this, List.nil_append]
            exact hskip
      · rw [if_pos co, if_neg ca, if_neg (fun q => ca q.2.1), List.nil_append]
        exact hskip
    · rw [if_neg co, if_neg (fun q => co q.1), List.nil_append]
      exact hskip
