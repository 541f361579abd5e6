/-! the reference begins and ends an element -/
theorem begL21 {so vf vt mt le ac ow an xt : RowF} {sch : Nat → Int64} {ns w K l i : Nat} {T : List Row3} (hw : w < 2) (hns : ns ≤ 4) (hat : pu_at xt mt) (hac : ac w = nI K) (hK : K ≤ 100) (hl : l < 26) (hle : le (256 * w + i) = nI l) (hi : i < 256) (hT : RB (256 * w) (128 * w) ow an vf vt so T 0) (hTK : T.length = K) (hz : ∀ z ∈ T, z.1 < 256 ∧ z.2.2.1 < 26 ∧ z.2.1 + z.2.2.2.length ≤ 256 ∧ z.2.2.2.length ≤ 200) (hwl : ∀ a, (scn (okC xt sch ns l) i a T).length ≤ 1300) : ∀ (j a f : Nat) (q : Int32 × RowF) (o : List Int32), a + j = 26 → j < f → LR q o → o.length + 1300 * j + 131000 < 2 ^ 20 → ∃ q' : Int32 × RowF, f_X10_beginOf_L21 (nI ns) (nI w) mt sch le ac ow an vf vt so (nI (256 * w + i)) f q.1 q.2 (nI a) = some q' ∧ LR q' (o ++ scA (okC xt sch ns l) i T a j) := by
  intro j
  induction j with
  | zero =>
    intro a f q o ha hf h hb
    obtain ⟨f, rfl⟩ : ∃ g, f = g + 1 := ⟨f - 1, by omega⟩
    refine ⟨q, ?_, by rw [scA, List.append_nil]; exact h⟩
    rw [f_X10_beginOf_L21, if_pos (show (26 : Int32) ≤ nI a from nI_le (a := 26) (by omega) (by omega))]
  | succ j ih =>
    intro a f q o ha hf h hb
    obtain ⟨f, rfl⟩ : ∃ g, f = g + 1 := ⟨f - 1, by omega⟩
    obtain ⟨q1, k1, h1⟩ := atL36 (sch := sch) hw hns hat hac hK hl hle hi (show a < 26 by omega) T 0 1000 q o hT (by omega) (by omega) hz h (by omega)
    have hl' := hwl a
    obtain ⟨q2, k2, h2⟩ := ih (a + 1) f q1 _ (by omega) (by omega) h1 (by rw [List.length_append]; omega)
    refine ⟨q2, ?_, by rw [List.append_assoc] at h2; exact h2⟩
    rw [Nat.add_zero] at k1
    rw [f_X10_beginOf_L21, if_neg (show ¬ (26 : Int32) ≤ nI a from nI_ge (b := 26) (by omega) (by decide)), p128, k1, Option.bind_some]
    dsimp only
    rw [nI_1]
    exact k2
theorem tb_bd {nd : List Nd} (hw : ∀ x ∈ nd, WN x) (hN : nd.length ≤ 200) (hS : stoM nd ≤ 200) : ∀ z ∈ tb nd, z.1 < 256 ∧ z.2.2.1 < 26 ∧ z.2.1 + z.2.2.2.length ≤ 256 ∧ z.2.2.2.length ≤ 200 := by
  have hx : ∀ (i : Nat) (xs : List At) (s : Nat) (z : Row3), z ∈ tbx i s xs → z.2.2 ∈ xs ∧ z.2.1 + z.2.2.2.length ≤ s + vLen xs := by
    intro i xs
    induction xs with
    | nil => intro s z h; simp [tbx] at h
    | cons q r ih =>
      intro s z h
      have hv : vLen (q :: r) = q.2.length + vLen r := rfl
      rcases List.mem_cons.mp h with g | g
      · rw [g]
        exact ⟨List.mem_cons_self, by show s + q.2.length ≤ _; omega⟩
      · have := ih _ z g
        exact ⟨List.mem_cons_of_mem _ this.1, by omega⟩
  have key : ∀ (nd : List Nd), (∀ x ∈ nd, WN x) → ∀ z ∈ tb nd, z.1 < nd.length ∧ z.2.2.1 < 26 ∧ z.2.1 + z.2.2.2.length ≤ stoM nd := by
    intro nd
    induction nd with
    | nil => intro _ z h; simp [tb] at h
    | cons x r ih =>
      intro hw z h
      have hst : stoM (x :: r) = stoM r + x.2.2.2.2.1.length + vLen x.2.2.2.2.2 := rfl
      rw [List.length_cons]
      rcases List.mem_append.mp (show z ∈ tb r ++ tbx r.length (stoM r) x.2.2.2.2.2 from h) with g | g
      · have := ih (fun y hy => hw y (List.mem_cons_of_mem _ hy)) z g
        exact ⟨by omega, this.2.1, by omega⟩
      · have h1 := tbx_mem g
        have h2 := hx _ _ _ z g
        exact ⟨by omega, ((hw x List.mem_cons_self).2.2.2.2.2.2.1 _ h2.1).1, by omega⟩
  intro z hz
  have := key nd hw z hz
  exact ⟨by omega, this.2.1, by omega, by omega⟩
theorem scn_len {ok : At → Bool} {a : Nat} {x : Nd} {p r : List Nd} (hx : WN x) (hS : stoM (p ++ x :: r) ≤ 200) : (scn ok r.length a (tb (p ++ x :: r))).length ≤ 1300 := by
  rw [scn_tb hx.2.2.2.2.2.2.2.1 p]
  cases hf : x.2.2.2.2.2.find? (fun q => q.1 == a) with
  | none => simp
  | some q =>
    have hm := List.mem_of_find?_eq_some hf
    have hv : ∀ (xs : List At), q ∈ xs → q.2.length ≤ vLen xs := by
      intro xs
      induction xs with
      | nil => intro h; simp at h
      | cons y ys ih =>
        intro h
        have : vLen (y :: ys) = y.2.length + vLen ys := rfl
        rcases List.mem_cons.mp h with g | g
        · rw [g, this]; omega
        · have := ih g; omega
    have h1 := hv _ hm
    have h2 : vLen x.2.2.2.2.2 ≤ stoM (p ++ x :: r) := by
      have : ∀ (p s : List Nd), stoM s ≤ stoM (p ++ s) := by
        intro p s
        induction p with
        | nil => exact Nat.le_refl _
        | cons z p ihp =>
          simp only [List.cons_append, stoM]
          omega
      have h3 := this p (x :: r)
      have h4 : stoM (x :: r) = stoM r + x.2.2.2.2.1.length + vLen x.2.2.2.2.2 := rfl
      omega
    have h5 := wA_len q
    dsimp only
    split
    · omega
    · simp
theorem beginR {xt mt : RowF} {sch : Nat → Int64} {ns w : Nat} {nd p r : List Nd} {x : Nd} {R : RW} {q : Int32 × RowF} {o : List Int32} (hw : w < 2) (hns : ns ≤ 4) (hat : pu_at xt mt) (hR : RT (256 * w) (128 * w) R.kd R.le R.pr R.dp R.fo R.fr R.to R.so R.ow R.an R.vf R.vt nd) (hac : R.ac w = nI (acM nd)) (hA : acM nd ≤ 100) (hS : stoM nd ≤ 200) (hN : nd.length ≤ 200) (hWN : ∀ x ∈ nd, WN x) (e : nd = p ++ x :: r) (hl : x.2.1 < 26) (h : LR q o) (hb : o.length + 200000 < 2 ^ 20) : ∃ q' : Int32 × RowF, f_X10_beginOf (nI ns) q.1 (nI w) mt sch q.2 R.le R.ac R.ow R.an R.vf R.vt R.so (nI (256 * w + r.length)) = some q' ∧ LR q' (o ++ wS (okC xt sch ns x.2.1) x) := by
  have hrl : r.length < nd.length := by rw [e, List.length_append, List.length_cons]; omega
  have hx := hWN x (by rw [e]; simp)
  have hRx : RT (256 * w) (128 * w) R.kd R.le R.pr R.dp R.fo R.fr R.to R.so R.ow R.an R.vf R.vt (x :: r) := by
    rw [e] at hR
    exact RT.drop p hR
  have hle := hRx.1.2.1
  have hscn : ∀ a, (scn (okC xt sch ns x.2.1) r.length a (tb nd)).length ≤ 1300 := fun a => by
    rw [e]
    rw [e] at hS
    exact scn_len hx hS
  obtain ⟨q1, k1, h1⟩ := lrAdd h (by omega) 60
  obtain ⟨q2, k2, h2⟩ := lrAdd h1 (by simp; omega) (nI (97 + x.2.1))
  obtain ⟨q3, k3, h3⟩ := begL21 (sch := sch) (T := tb nd) hw hns hat hac hA hl hle (by omega) (RB_of hR) (tb_len nd) (tb_bd hWN hN hS) hscn 26 0 1000 q2 _ rfl (by omega) h2 (by simp; omega)
  have hsort : scA (okC xt sch ns x.2.1) r.length (tb nd) 0 26 = wAs (okC xt sch ns x.2.1) (sSort x.2.2.2.2.2) := by
    rw [e]
    exact scA_sort hx.2.2.2.2.2.2.2.1 26 0
  rw [hsort] at h3
  have hwl := wAs_len (okC xt sch ns x.2.1) (sSort x.2.2.2.2.2)
  have hs1 := sSort_len x.2.2.2.2.2
  have hs2 := sSort_vLen x.2.2.2.2.2
  have hax : x.2.2.2.2.2.length ≤ 26 := len26 (fun q hq => (hx.2.2.2.2.2.2.1 q hq).1) hx.2.2.2.2.2.2.2.1
  have hvx : vLen x.2.2.2.2.2 ≤ 200 := by
    have : ∀ (p s : List Nd), stoM s ≤ stoM (p ++ s) := by
      intro p s
      induction p with
      | nil => exact Nat.le_refl _
      | cons z p ihp =>
        simp only [List.cons_append, stoM]
        omega
    have h3 := this p (x :: r)
    rw [← e] at h3
    have h4 : stoM (x :: r) = stoM r + x.2.2.2.2.1.length + vLen x.2.2.2.2.2 := rfl
    omega
  obtain ⟨q4, k4, h4⟩ := lrAdd h3 (by simp; omega) 62
  refine ⟨q4, ?_, ?_⟩
  · have k3' : f_X10_beginOf_L21 (nI ns) (nI w) mt sch R.le R.ac R.ow R.an R.vf R.vt R.so (nI (256 * w + r.length)) 1000 q2.1 q2.2 0 = some q3 := k3
    unfold f_X10_beginOf
    rw [k1, Option.bind_some, pu_gi (show 256 * w + r.length < 512 by omega) (by decide), nI_clamp (show 256 * w + r.length < 2 ^ 31 by omega), hle, show (97 : Int32) + nI x.2.1 = nI (97 + x.2.1) from nI_add 97 x.2.1, k2, Option.bind_some, k3', Option.bind_some, k4]
    rfl
  · have ee : o ++ [60] ++ [nI (97 + x.2.1)] ++ wAs (okC xt sch ns x.2.1) (sSort x.2.2.2.2.2) ++ [62] = o ++ wS (okC xt sch ns x.2.1) x := by
      unfold wS
      simp
    rw [ee] at h4
    exact h4
theorem keptR {xa gn : RowF} {w : Nat} {x : Nd} {r : List Nd} {R : RW} {g : Bool} (hw : w < 2) (hR : RT (256 * w) (128 * w) R.kd R.le R.pr R.dp R.fo R.fr R.to R.so R.ow R.an R.vf R.vt (x :: r)) (hi : r.length < 256) (hx : WN x) (hg : gn (256 * w + r.length) = b2 g) : f_X10_isKept xa R.kd R.le gn (nI (256 * w + r.length)) = some (b2 (decide (x.1 = 3) && !g && keepB xa x.2.1)) := by
  have h1 := hR.1.1
  have h2 := hR.1.2.1
  have hk : x.1 ≤ 3 := by have := hx.1; omega
  have hl := hx.2.1
  unfold f_X10_isKept
  rw [pu_gi (show 256 * w + r.length < 512 by omega) (by decide), pu_gi (show 256 * w + r.length < 512 by omega) (by decide), pu_gi (show 256 * w + r.length < 512 by omega) (by decide), pu_gi (show 256 * w + r.length < 512 by omega) (by decide), nI_clamp (show 256 * w + r.length < 2 ^ 31 by omega), h1, h2, hg, nI_clamp (show x.2.1 < 2 ^ 31 by omega)]
  have e3 : (nI x.1 = 3) = (x.1 = 3) := pu_e (b := 3) (by omega) (by decide)
  have e26 : ((26 : Int32) ≤ nI x.2.1) = (26 ≤ x.2.1) := pu_l (a := 26) (by decide) (by omega)
  simp only [e3, e26, b2_0]
  unfold keepB
  by_cases c3 : x.1 = 3
  · rw [if_pos c3, decide_eq_true c3, Bool.true_and]
    cases g with
    | true => rfl
    | false =>
      rw [if_pos rfl, Bool.not_false, Bool.true_and]
      by_cases cl : x.2.1 < 26
      · rw [if_neg (show ¬ 26 ≤ x.2.1 by omega), pu_gi cl (by decide), decide_eq_true cl, Bool.true_and]
        by_cases c0 : xa x.2.1 = 0
        · rw [if_pos c0, decide_eq_true c0]; rfl
        · rw [if_neg c0, decide_eq_false c0]; rfl
      · rw [if_pos (show 26 ≤ x.2.1 by omega), decide_eq_false cl]
        rfl
  · rw [if_neg c3, decide_eq_false c3]
    rfl
theorem endOfR {xa gn : RowF} {w : Nat} {nd : List Nd} {R : RW} {e : Ent} {q : Int32 × RowF} {o : List Int32} (hw : w < 2) (hR : RT (256 * w) (128 * w) R.kd R.le R.pr R.dp R.fo R.fr R.to R.so R.ow R.an R.vf R.vt nd) (hN : nd.length ≤ 200) (hWN : ∀ x ∈ nd, WN x) (hE : EE xa nd e) (hg : gn (256 * w + e.1) = b2 e.2.2.2.2) (h : LR q o) (hb : o.length + 10 < 2 ^ 20) : ∃ q' : Int32 × RowF, f_X10_endOf q.1 xa q.2 R.kd R.le R.fo gn (nI (256 * w + e.1)) = some q' ∧ LR q' (o ++ (if e.2.2.2.1 = true then wE e.2.2.1 else [])) := by
  obtain ⟨a, y, r, e1, e2, e3, e4, e5, e6⟩ := hE
  have hy := hWN y (by rw [e1]; simp)
  have hRy : RT (256 * w) (128 * w) R.kd R.le R.pr R.dp R.fo R.fr R.to R.so R.ow R.an R.vf R.vt (y :: r) := by
    rw [e1] at hR
    exact RT.drop a hR
  have hrl : r.length < nd.length := by rw [e1, List.length_append, List.length_cons]; omega
  rw [← e2] at hg ⊢
  have hk := keptR (xa := xa) hw hRy (by omega) hy hg
  have h2 := hRy.1.2.1
  have h5 := hRy.1.2.2.2.2
  have hyl := hy.2.1
  rw [e3, decide_eq_true rfl, Bool.true_and] at hk
  unfold f_X10_endOf
  rw [hk, Option.bind_some, pu_gi (show 256 * w + r.length < 512 by omega) (by decide), pu_gi (show 256 * w + r.length < 512 by omega) (by decide), nI_clamp (show 256 * w + r.length < 2 ^ 31 by omega), h2, h5, emptyR hyl, Option.bind_some]
  simp only [b2_0]
  have h29 : y.2.1 < 26 → ∃ q' : Int32 × RowF, f_X10_endOf_L29 xa R.kd R.le R.fo gn (nI (256 * w + r.length)) q.1 q.2 = some q' ∧ LR q' (o ++ wE e.2.2.1) := by
    intro hlt
    obtain ⟨q1, k1, g1⟩ := lrAdd h (by omega) 60
    obtain ⟨q2, k2, g2⟩ := lrAdd g1 (by simp; omega) 47
    obtain ⟨q3, k3, g3⟩ := lrAdd g2 (by simp; omega) (nI (97 + y.2.1))
    obtain ⟨q4, k4, g4⟩ := lrAdd g3 (by simp; omega) 62
    refine ⟨q4, ?_, ?_⟩
    · unfold f_X10_endOf_L29
      rw [k1, Option.bind_some, k2, Option.bind_some, pu_gi (show 256 * w + r.length < 512 by omega) (by decide), nI_clamp (show 256 * w + r.length < 2 ^ 31 by omega), h2, show (97 : Int32) + nI y.2.1 = nI (97 + y.2.1) from nI_add 97 y.2.1, k3, Option.bind_some, k4]
      rfl
    · have ee : o ++ [60] ++ [47] ++ [nI (97 + y.2.1)] ++ [62] = o ++ wE e.2.2.1 := by
        unfold wE
        rw [e5]
        simp
      rw [ee] at g4
      exact g4
  have hno : ∀ {b : Bool}, b = false → ∃ q' : Int32 × RowF, some (q.1, q.2) = some q' ∧ LR q' (o ++ (if b = true then wE e.2.2.1 else [])) := by
    intro b hb'
    refine ⟨q, rfl, ?_⟩
    rw [hb', if_neg (by decide), List.append_nil]
    exact h
  rw [e6]
  cases hkb : (!e.2.2.2.2 && keepB xa y.2.1) with
  | false =>
    rw [if_pos rfl]
    exact hno rfl
  | true =>
    have hlt : y.2.1 < 26 := by
      have h8 : keepB xa y.2.1 = true := by
        simp only [Bool.and_eq_true] at hkb
        exact hkb.2
      unfold keepB at h8
      simp only [Bool.and_eq_true, decide_eq_true_eq] at h8
      exact h8.1
    rw [if_neg (by decide), Bool.true_and]
    unfold hE
    cases hf : y.2.2.2.1 with
    | true =>
      rw [if_neg (by decide), Bool.true_or, if_pos rfl]
      exact h29 hlt
    | false =>
      rw [if_pos rfl, Bool.false_or]
      cases sEmpty y.2.1 with
      | false =>
        rw [if_pos rfl, Bool.not_false, if_pos rfl]
        exact h29 hlt
      | true =>
        rw [if_neg (by decide)]
        exact hno rfl
