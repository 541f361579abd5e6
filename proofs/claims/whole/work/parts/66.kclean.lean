/-! the class cleans -/
theorem sameL15 {s o : List Int32} {ro rs : RowF} (ho : TXL o) (hs : TXL s) (h1 : ∀ i, i < o.length → ro i = o.getD i 0) (h2 : ∀ i, i < s.length → rs i = s.getD i 0) (hl : o.length = s.length) : ∀ (j k f : Nat), k + j = o.length → j < f → f_X1_isSame_L15 (nI o.length) ro (nI s.length) rs f (nI k) = some (b2 (eqL o s k j)) := by
  have t1 := ho.toTX h1
  have t2 := hs.toTX h2
  have h200 := ho.1
  intro j
  induction j with
  | zero =>
    intro k f hk hf
    obtain ⟨f, rfl⟩ : ∃ g, f = g + 1 := ⟨f - 1, by omega⟩
    rw [f_X1_isSame_L15, if_pos (nI_le (by omega) (by omega))]
    rfl
  | succ j ih =>
    intro k f hk hf
    obtain ⟨f, rfl⟩ : ∃ g, f = g + 1 := ⟨f - 1, by omega⟩
    rw [f_X1_isSame_L15, if_neg (nI_ge (by omega) (by omega)), atC t1 (by omega), Option.bind_some, atC t2 (by omega), Option.bind_some, nI_1, ih (k + 1) f (by omega) (by omega)]
    rw [show eqL o s k (j + 1) = (decide (o.getD k 0 = s.getD k 0) && eqL o s (k + 1) j) from rfl]
    show (if o.getD k 0 = s.getD k 0 then _ else _) = _
    by_cases c : o.getD k 0 = s.getD k 0
    · rw [if_pos c, decide_eq_true c, Bool.true_and]
    · rw [if_neg c, decide_eq_false c]
      rfl
theorem sameC {s o : List Int32} {ro rs : RowF} (ho : TXL o) (hs : TXL s) (h1 : ∀ i, i < o.length → ro i = o.getD i 0) (h2 : ∀ i, i < s.length → rs i = s.getD i 0) : f_X1_isSame (nI o.length) ro (nI s.length) rs = some (b2 (decide (o = s))) := by
  have a1 := ho.1
  have a2 := hs.1
  unfold f_X1_isSame
  have el : (nI o.length = nI s.length) = (o.length = s.length) := pu_e (by omega) (by omega)
  simp only [el]
  by_cases c : o.length = s.length
  · have := sameL15 ho hs h1 h2 c o.length 0 1000 (by omega) (by omega)
    rw [if_pos c, show (0 : Int32) = nI 0 from rfl, this, c, eqL_eq c]
  · rw [if_neg c, decide_eq_false (fun q => c (by rw [q]))]
    rfl
theorem LC_take {q : Ln} {o : List Int32} (h : LC q o) (ho : ∀ c ∈ o, pu_ch c) : TXL (o.take 200) ∧ q.1 = nI (o.take 200).length ∧ ∀ i, i < (o.take 200).length → q.2.2 i = (o.take 200).getD i 0 := by
  have hl : (o.take 200).length = min o.length 200 := by rw [List.length_take, Nat.min_comm]
  refine ⟨⟨by omega, fun c hc => ho c (List.mem_of_mem_take hc)⟩, by rw [hl]; exact h.1, fun i hi => ?_⟩
  rw [hl] at hi
  rw [h.2.2 i (by omega) (by omega), List.getD_eq_getElem?_getD, List.getD_eq_getElem?_getD, List.getElem?_take, if_pos (by omega)]
theorem cpC {q : Ln} {o : List Int32} (h : LC q o) (ho : ∀ c ∈ o, pu_ch c) (ss so : Int32) (sr : RowF) : ∃ sr' : RowF, f_X1_copy ss so sr q.1 q.2.2 = some (nI (o.take 200).length, 0, sr') ∧ ∀ i, i < (o.take 200).length → sr' i = (o.take 200).getD i 0 := by
  obtain ⟨h1, h2, h3⟩ := LC_take h ho
  have ht := h1.toTX h3
  refine ⟨_, by rw [h2]; exact copyC ht ss so sr, fun i hi => ?_⟩
  have hk := TX.copy ht sr
  rw [← hk.lt hi]
  rfl
theorem claL53 {xa xt inp : RowF} {sch : Nat → Int64} {inN ns : Nat} (hns : ns ≤ 4) (ft1 ft2 ft6 ft7 ft12 ft13 : Int32) (ft3 ft4 ft5 ft8 ft9 ft10 ft11 ft14 : RowF) (fr1 fr2 fr3 fr6 fr7 fr8 : Int32) (fr4 fr5 fr9 fr10 : RowF) : ∀ (j m : Nat) (s : List Int32) (f : Nat) (so : Int32) (sr : RowF) (q : Ln) (l1 l2 l3 l4 l8 l9 l14 l15 l17 l20 l21 l22 : Int32) (l5 l6 l7 l10 l11 l12 l13 l16 l18 l19 l23 l24 : RowF) (u : Int32) (un : RowF), m + 1 + j = 6 → j < f → TXL s → (∀ i, i < s.length → sr i = s.getD i 0) → LC q ((sF xa (okC xt sch ns)) s) → ∃ (ss' so' : Int32) (sr' : RowF) (q' : Ln) (l1' l2' l3' l4' l8' l9' l14' l15' l17' l20' l21' l22' : Int32) (l5' l6' l7' l10' l11' l12' l13' l16' l18' l19' l23' l24' : RowF) (u' : Int32) (un' : RowF), f_X9_clean_L53 (nI inN) inp (nI ns) xa xt sch f (nI m) (nI s.length) so sr q.1 q.2.1 q.2.2 ft1 ft2 ft3 ft4 ft5 ft6 ft7 ft8 ft9 ft10 ft11 ft12 ft13 ft14 fr1 fr2 fr3 fr4 fr5 fr6 fr7 fr8 fr9 fr10 l1 l2 l3 l4 l5 l6 l7 l8 l9 l10 l11 l12 l13 l14 l15 l16 l17 l18 l19 l20 l21 l22 l23 l24 u un (b2 (decide (((sF xa (okC xt sch ns)) s).length ≤ 200))) = some (nI (m + (sCl (sF xa (okC xt sch ns)) (j + 1) s).1), ss', so', sr', q'.1, q'.2.1, q'.2.2, ft1, ft2, ft3, ft4, ft5, ft6, ft7, ft8, ft9, ft10, ft11, ft12, ft13, ft14, fr1, fr2, fr3, fr4, fr5, fr6, fr7, fr8, fr9, fr10, l1', l2', l3', l4', l5', l6', l7', l8', l9', l10', l11', l12', l13', l14', l15', l16', l17', l18', l19', l20', l21', l22', l23', l24', u', un', b2 (sCl (sF xa (okC xt sch ns)) (j + 1) s).2.isSome) ∧ (∀ o, (sCl (sF xa (okC xt sch ns)) (j + 1) s).2 = some o → LC q' o) := by
  intro j
  induction j with
  | zero =>
    intro m s f so sr q l1 l2 l3 l4 l8 l9 l14 l15 l17 l20 l21 l22 l5 l6 l7 l10 l11 l12 l13 l16 l18 l19 l23 l24 u un hm hf hs hsr hq
    obtain ⟨f, rfl⟩ : ∃ g, f = g + 1 := ⟨f - 1, by omega⟩
    have h200 := hs.1
    obtain ⟨b1, b2'⟩ := sF_all (xa := xa) (ok := okC xt sch ns) hs
    obtain ⟨sr1, c1, c2⟩ := cpC hq b1 (nI s.length) so sr
    have h77 : ∀ (v1 : Int32) (z : Bool), f_X9_clean_L77 (nI inN) inp (nI ns) xa xt sch (f_X9_clean_L53 (nI inN) inp (nI ns) xa xt sch f) (nI m) (nI s.length) so sr q.1 q.2.1 q.2.2 ft1 ft2 ft3 ft4 ft5 ft6 ft7 ft8 ft9 ft10 ft11 ft12 ft13 ft14 fr1 fr2 fr3 fr4 fr5 fr6 fr7 fr8 fr9 fr10 l1 l2 l3 l4 l5 l6 l7 l8 l9 l10 l11 l12 l13 l14 l15 l16 l17 l18 l19 l20 l21 l22 l23 l24 u un v1 (b2 z) = some (nI (m + 1), nI (((sF xa (okC xt sch ns)) s).take 200).length, 0, sr1, q.1, q.2.1, q.2.2, ft1, ft2, ft3, ft4, ft5, ft6, ft7, ft8, ft9, ft10, ft11, ft12, ft13, ft14, fr1, fr2, fr3, fr4, fr5, fr6, fr7, fr8, fr9, fr10, l1, l2, l3, l4, l5, l6, l7, l8, l9, l10, l11, l12, l13, l14, l15, l16, l17, l18, l19, l20, l21, l22, l23, l24, u, un, b2 z) := by
      intro v1 z
      unfold f_X9_clean_L77
      rw [c1, Option.bind_some, nI_1, if_pos (show (6 : Int32) ≤ nI (m + 1) from nI_le (a := 6) (by omega) (by omega))]
    have e0 : (sCl (sF xa (okC xt sch ns)) (0 + 1) s) = if (sF xa (okC xt sch ns)) s = s then (1, some s) else (1, none) := by
      rw [show sCl (sF xa (okC xt sch ns)) (0 + 1) s = if (sF xa (okC xt sch ns)) s = s then (1, some s) else if 200 < ((sF xa (okC xt sch ns)) s).length ∨ 0 = 0 then (1, none) else ((sCl (sF xa (okC xt sch ns)) 0 ((sF xa (okC xt sch ns)) s)).1 + 1, (sCl (sF xa (okC xt sch ns)) 0 ((sF xa (okC xt sch ns)) s)).2) from rfl, if_pos (Or.inr rfl)]
    rw [f_X9_clean_L53, e0]
    unfold f_X9_clean_L76
    simp only [b2_0]
    by_cases cf : ((sF xa (okC xt sch ns)) s).length ≤ 200
    · obtain ⟨d1, d2, d3⟩ := LC_take hq b1
      rw [List.take_of_length_le cf] at d1 d2 d3
      have hsame := sameC d1 hs d3 hsr
      rw [← d2] at hsame
      rw [decide_eq_true cf, if_neg (show ¬ true = false by decide), hsame, Option.bind_some]
      simp only [b2_0]
      by_cases c : (sF xa (okC xt sch ns)) s = s
      · rw [decide_eq_true c, if_neg (show ¬ true = false by decide), if_pos c]
        have := h77 (b2 true) true
        refine ⟨_, _, sr1, q, _, _, _, _, _, _, _, _, _, _, _, _, _, _, _, _, _, _, _, _, _, _, _, _, u, un, this, fun o ho => ?_⟩
        cases ho
        rw [c] at hq
        exact hq
      · rw [decide_eq_false c, if_pos rfl, if_neg c]
        exact ⟨_, _, sr1, q, _, _, _, _, _, _, _, _, _, _, _, _, _, _, _, _, _, _, _, _, _, _, _, _, u, un, h77 (b2 true) false, fun o ho => by cases ho⟩
    · rw [decide_eq_false cf, if_pos rfl]
      have c : ¬ (sF xa (okC xt sch ns)) s = s := fun z => cf (by rw [z]; exact h200)
      rw [if_neg c]
      exact ⟨_, _, sr1, q, _, _, _, _, _, _, _, _, _, _, _, _, _, _, _, _, _, _, _, _, _, _, _, _, u, un, h77 (b2 false) false, fun o ho => by cases ho⟩
  | succ j ih =>
    intro m s f so sr q l1 l2 l3 l4 l8 l9 l14 l15 l17 l20 l21 l22 l5 l6 l7 l10 l11 l12 l13 l16 l18 l19 l23 l24 u un hm hf hs hsr hq
    obtain ⟨f, rfl⟩ : ∃ g, f = g + 1 := ⟨f - 1, by omega⟩
    have h200 := hs.1
    obtain ⟨b1, b2'⟩ := sF_all (xa := xa) (ok := okC xt sch ns) hs
    obtain ⟨sr1, c1, c2⟩ := cpC hq b1 (nI s.length) so sr
    have e0 : sCl (sF xa (okC xt sch ns)) (j + 1 + 1) s = if (sF xa (okC xt sch ns)) s = s then (1, some s) else if 200 < ((sF xa (okC xt sch ns)) s).length ∨ j + 1 = 0 then (1, none) else ((sCl (sF xa (okC xt sch ns)) (j + 1) ((sF xa (okC xt sch ns)) s)).1 + 1, (sCl (sF xa (okC xt sch ns)) (j + 1) ((sF xa (okC xt sch ns)) s)).2) := rfl
    have h77 : ∀ (v1 : Int32) (z : Bool), (v1 = 0 ∨ z = true) → f_X9_clean_L77 (nI inN) inp (nI ns) xa xt sch (f_X9_clean_L53 (nI inN) inp (nI ns) xa xt sch f) (nI m) (nI s.length) so sr q.1 q.2.1 q.2.2 ft1 ft2 ft3 ft4 ft5 ft6 ft7 ft8 ft9 ft10 ft11 ft12 ft13 ft14 fr1 fr2 fr3 fr4 fr5 fr6 fr7 fr8 fr9 fr10 l1 l2 l3 l4 l5 l6 l7 l8 l9 l10 l11 l12 l13 l14 l15 l16 l17 l18 l19 l20 l21 l22 l23 l24 u un v1 (b2 z) = some (nI (m + 1), nI (((sF xa (okC xt sch ns)) s).take 200).length, 0, sr1, q.1, q.2.1, q.2.2, ft1, ft2, ft3, ft4, ft5, ft6, ft7, ft8, ft9, ft10, ft11, ft12, ft13, ft14, fr1, fr2, fr3, fr4, fr5, fr6, fr7, fr8, fr9, fr10, l1, l2, l3, l4, l5, l6, l7, l8, l9, l10, l11, l12, l13, l14, l15, l16, l17, l18, l19, l20, l21, l22, l23, l24, u, un, b2 z) := by
      intro v1 z hz
      unfold f_X9_clean_L77
      rw [c1, Option.bind_some, nI_1, if_neg (show ¬ (6 : Int32) ≤ nI (m + 1) from nI_ge (b := 6) (by omega) (by decide))]
      rcases hz with hz | hz
      · rw [if_pos hz]
      · subst hz
        rw [if_neg (show ¬ b2 true = 0 by decide)]
        split <;> rfl
    rw [f_X9_clean_L53, e0]
    unfold f_X9_clean_L76
    simp only [b2_0]
    by_cases cf : ((sF xa (okC xt sch ns)) s).length ≤ 200
    · obtain ⟨d1, d2, d3⟩ := LC_take hq b1
      rw [List.take_of_length_le cf] at d1 d2 d3 c1 c2
      have hsame := sameC d1 hs d3 hsr
      rw [← d2] at hsame
      rw [decide_eq_true cf, if_neg (show ¬ true = false by decide), hsame, Option.bind_some]
      simp only [b2_0]
      by_cases c : (sF xa (okC xt sch ns)) s = s
      · rw [decide_eq_true c, if_neg (show ¬ true = false by decide), if_pos c]
        refine ⟨_, _, sr1, q, _, _, _, _, _, _, _, _, _, _, _, _, _, _, _, _, _, _, _, _, _, _, _, _, u, un, h77 (b2 true) true (Or.inr rfl), fun o ho => ?_⟩
        cases ho
        rw [c] at hq
        exact hq
      · rw [decide_eq_false c, if_pos rfl, if_neg c, if_neg (show ¬ (200 < ((sF xa (okC xt sch ns)) s).length ∨ j + 1 = 0) by omega)]
        unfold f_X9_clean_L77
        rw [c1, Option.bind_some]
        dsimp only
        rw [nI_1, if_neg (show ¬ (6 : Int32) ≤ nI (m + 1) from nI_ge (b := 6) (by omega) (by decide)), if_neg (show ¬ b2 true = 0 by decide), if_pos rfl]
        have ht := d1.toTX c2
        obtain ⟨k, o, k1, k2, k3⟩ := readAllC ht l1 l2 l3 l4 l8 l9 l14 l15 l17 l20 l21 l22 l5 l6 l7 l10 l11 l12 l13 l16 l18 l19 l23 l24
        rw [nds_same d1 k2] at k3
        obtain ⟨v1, v2, v3, v4, v5, v6, v7⟩ := k3
        obtain ⟨a1, a2, a3, a4, a5⟩ := nds_all d1
        have n1 := acN_le (nds ((sF xa (okC xt sch ns)) s))
        have n2 := cvN_le (nds ((sF xa (okC xt sch ns)) s))
        obtain ⟨q2, un2, w1, w2⟩ := writeAllC (xa := xa) (xt := xt) (sch := sch) hns v7 a1 a3 (by omega) (by omega) (by omega) (by omega) u q.1 q.2.1 q.2.2 un
        rw [k1, Option.bind_some, v1, v2, v3, v5, w1, Option.bind_some]
        dsimp only
        have w2' : LC q2 ((sF xa (okC xt sch ns)) ((sF xa (okC xt sch ns)) s)) := w2
        obtain ⟨ss2, so2, sr2, q3, l1z, l2z, l3z, l4z, l8z, l9z, l14z, l15z, l17z, l20z, l21z, l22z, l5z, l6z, l7z, l10z, l11z, l12z, l13z, l16z, l18z, l19z, l23z, l24z, u2, un3, x1, x2⟩ := ih (m + 1) ((sF xa (okC xt sch ns)) s) f 0 sr1 q2 (o.1) (o.2.1) (nI (nds ((sF xa (okC xt sch ns)) s)).length) (nI (acN (nds ((sF xa (okC xt sch ns)) s)))) (nI (chN (nds ((sF xa (okC xt sch ns)) s)))) (o.2.2.2.2.2.2.2.2.1) (nI (vsN (nds ((sF xa (okC xt sch ns)) s)))) (o.2.2.2.2.2.2.2.2.2.2.2.2.2.2.1) (o.2.2.2.2.2.2.2.2.2.2.2.2.2.2.2.2.1) (o.2.2.2.2.2.2.2.2.2.2.2.2.2.2.2.2.2.2.2.1) (o.2.2.2.2.2.2.2.2.2.2.2.2.2.2.2.2.2.2.2.2.1) (o.2.2.2.2.2.2.2.2.2.2.2.2.2.2.2.2.2.2.2.2.2.1) (o.2.2.2.2.1) (o.2.2.2.2.2.1) (o.2.2.2.2.2.2.1) (o.2.2.2.2.2.2.2.2.2.1) (o.2.2.2.2.2.2.2.2.2.2.1) (o.2.2.2.2.2.2.2.2.2.2.2.1) (o.2.2.2.2.2.2.2.2.2.2.2.2.1) (o.2.2.2.2.2.2.2.2.2.2.2.2.2.2.2.1) (o.2.2.2.2.2.2.2.2.2.2.2.2.2.2.2.2.2.1) (o.2.2.2.2.2.2.2.2.2.2.2.2.2.2.2.2.2.2.1) (o.2.2.2.2.2.2.2.2.2.2.2.2.2.2.2.2.2.2.2.2.2.2.1) (o.2.2.2.2.2.2.2.2.2.2.2.2.2.2.2.2.2.2.2.2.2.2.2) 0 un2 (by omega) (by omega) d1 c2 w2'
        refine ⟨ss2, so2, sr2, q3, l1z, l2z, l3z, l4z, l8z, l9z, l14z, l15z, l17z, l20z, l21z, l22z, l5z, l6z, l7z, l10z, l11z, l12z, l13z, l16z, l18z, l19z, l23z, l24z, u2, un3, ?_, x2⟩
        rw [show m + ((sCl (sF xa (okC xt sch ns)) (j + 1) ((sF xa (okC xt sch ns)) s)).1 + 1) = m + 1 + (sCl (sF xa (okC xt sch ns)) (j + 1) ((sF xa (okC xt sch ns)) s)).1 by omega]
        exact x1
    · rw [decide_eq_false cf, if_pos rfl]
      have c : ¬ (sF xa (okC xt sch ns)) s = s := fun z => cf (by rw [z]; exact h200)
      rw [if_neg c, if_pos (show 200 < ((sF xa (okC xt sch ns)) s).length ∨ j + 1 = 0 by omega)]
      exact ⟨_, _, sr1, q, _, _, _, _, _, _, _, _, _, _, _, _, _, _, _, _, _, _, _, _, _, _, _, _, u, un, h77 (b2 false) false (Or.inl rfl), fun o ho => by cases ho⟩
def T0 (nd : List Nd) (ft1 ft2 ft6 ft7 ft12 ft13 : Int32) (ft3 ft4 ft5 ft8 ft9 ft10 ft11 ft14 : RowF) : Prop := ft1 = nI nd.length ∧ ft2 = nI (acN nd) ∧ ft6 = nI (chN nd) ∧ ft12 = nI (vsN nd) ∧ KT ft3 ft4 ft5 ft8 ft9 ft10 ft11 ft14 nd
theorem cleanC {xa xt inp : RowF} {sch : Nat → Int64} {ns : Nat} {s : List Int32} (hns : ns ≤ 4) (hs : TXL s) (hin : ∀ i, i < s.length → inp i = s.getD i 0) (r0 ss so ws wo : Int32) (sr wr : RowF) (ft1 ft2 ft6 ft7 ft12 ft13 : Int32) (ft3 ft4 ft5 ft8 ft9 ft10 ft11 ft14 : RowF) (fr1 fr2 fr3 fr6 fr7 fr8 : Int32) (fr4 fr5 fr9 fr10 : RowF) (l1 l2 l3 l4 l8 l9 l14 l15 l17 l20 l21 l22 : Int32) (l5 l6 l7 l10 l11 l12 l13 l16 l18 l19 l23 l24 : RowF) (u : Int32) (un : RowF) : ∃ (ss' so' : Int32) (sr' : RowF) (ws' wo' : Int32) (wr' : RowF) (ft1' ft2' ft6' ft7' ft12' ft13' : Int32) (ft3' ft4' ft5' ft8' ft9' ft10' ft11' ft14' : RowF) (fr1' fr2' fr3' fr6' fr7' fr8' : Int32) (fr4' fr5' fr9' fr10' : RowF) (l1' l2' l3' l4' l8' l9' l14' l15' l17' l20' l21' l22' : Int32) (l5' l6' l7' l10' l11' l12' l13' l16' l18' l19' l23' l24' : RowF) (u' : Int32) (un' : RowF) (ans : Int32), f_X9_clean r0 (nI s.length) inp ss so sr ws wo wr (nI ns) xa xt sch ft1 ft2 ft3 ft4 ft5 ft6 ft7 ft8 ft9 ft10 ft11 ft12 ft13 ft14 fr1 fr2 fr3 fr4 fr5 fr6 fr7 fr8 fr9 fr10 l1 l2 l3 l4 l5 l6 l7 l8 l9 l10 l11 l12 l13 l14 l15 l16 l17 l18 l19 l20 l21 l22 l23 l24 u un = some (nI (sCl (sF xa (okC xt sch ns)) 6 s).1, ss', so', sr', ws', wo', wr', ft1', ft2', ft3', ft4', ft5', ft6', ft7', ft8', ft9', ft10', ft11', ft12', ft13', ft14', fr1', fr2', fr3', fr4', fr5', fr6', fr7', fr8', fr9', fr10', l1', l2', l3', l4', l5', l6', l7', l8', l9', l10', l11', l12', l13', l14', l15', l16', l17', l18', l19', l20', l21', l22', l23', l24', u', un', ans) ∧ T0 (nds s) ft1' ft2' ft6' ft7' ft12' ft13' ft3' ft4' ft5' ft8' ft9' ft10' ft11' ft14' ∧ (match (sCl (sF xa (okC xt sch ns)) 6 s).2 with
    | none => ans = -1 ∧ ws' = 0
    | some o => ans = nI o.length ∧ ws' = nI o.length ∧ ∀ i, i < o.length → wr' i = o.getD i 0) := by
  have h200 := hs.1
  have ht0 := hs.toTX hin
  obtain ⟨sr1, c1, c2⟩ : ∃ sr1 : RowF, f_X1_copy ss so sr (nI s.length) inp = some (nI s.length, 0, sr1) ∧ ∀ i, i < s.length → sr1 i = s.getD i 0 := by
    refine ⟨_, copyC ht0 ss so sr, fun i hi => ?_⟩
    have hk := TX.copy ht0 sr
    rw [← hk.lt hi]
    rfl
  have ht := hs.toTX c2
  obtain ⟨k, o, k1, k2, k3⟩ := readAllC ht fr1 fr2 ft1 ft2 ft6 ft7 ft12 ft13 fr3 fr6 fr7 fr8 ft3 ft4 ft5 ft8 ft9 ft10 ft11 ft14 fr4 fr5 fr9 fr10
  rw [nds_same hs k2] at k3
  obtain ⟨v1, v2, v3, v4, v5, v6, v7⟩ := k3
  obtain ⟨a1, a2, a3, a4, a5⟩ := nds_all hs
  have n1 := acN_le (nds s)
  have n2 := cvN_le (nds s)
  obtain ⟨q2, un2, w1, w2⟩ := writeAllC (xa := xa) (xt := xt) (sch := sch) hns v7 a1 a3 (by omega) (by omega) (by omega) (by omega) u ws wo wr un
  have w2' : LC q2 ((sF xa (okC xt sch ns)) s) := w2
  obtain ⟨ss2, so2, sr2, q3, l1z, l2z, l3z, l4z, l8z, l9z, l14z, l15z, l17z, l20z, l21z, l22z, l5z, l6z, l7z, l10z, l11z, l12z, l13z, l16z, l18z, l19z, l23z, l24z, u2, un3, x1, x2⟩ := claL53 (inp := inp) (inN := s.length) hns (nI (nds s).length) (nI (acN (nds s))) (nI (chN (nds s))) (o.2.2.2.2.2.2.2.2.1) (nI (vsN (nds s))) (o.2.2.2.2.2.2.2.2.2.2.2.2.2.2.1) (o.2.2.2.2.1) (o.2.2.2.2.2.1) (o.2.2.2.2.2.2.1) (o.2.2.2.2.2.2.2.2.2.1) (o.2.2.2.2.2.2.2.2.2.2.1) (o.2.2.2.2.2.2.2.2.2.2.2.1) (o.2.2.2.2.2.2.2.2.2.2.2.2.1) (o.2.2.2.2.2.2.2.2.2.2.2.2.2.2.2.1) (o.1) (o.2.1) (o.2.2.2.2.2.2.2.2.2.2.2.2.2.2.2.2.1) (o.2.2.2.2.2.2.2.2.2.2.2.2.2.2.2.2.2.2.2.1) (o.2.2.2.2.2.2.2.2.2.2.2.2.2.2.2.2.2.2.2.2.1) (o.2.2.2.2.2.2.2.2.2.2.2.2.2.2.2.2.2.2.2.2.2.1) (o.2.2.2.2.2.2.2.2.2.2.2.2.2.2.2.2.2.1) (o.2.2.2.2.2.2.2.2.2.2.2.2.2.2.2.2.2.2.1) (o.2.2.2.2.2.2.2.2.2.2.2.2.2.2.2.2.2.2.2.2.2.2.1) (o.2.2.2.2.2.2.2.2.2.2.2.2.2.2.2.2.2.2.2.2.2.2.2) 5 0 s 1000 0 sr1 q2 l1 l2 l3 l4 l8 l9 l14 l15 l17 l20 l21 l22 l5 l6 l7 l10 l11 l12 l13 l16 l18 l19 l23 l24 0 un2 (by omega) (by omega) hs c2 w2'
  have x1' : f_X9_clean_L53 (nI s.length) inp (nI ns) xa xt sch 1000 0 (nI s.length) 0 sr1 q2.1 q2.2.1 q2.2.2 (nI (nds s).length) (nI (acN (nds s))) (o.2.2.2.2.1) (o.2.2.2.2.2.1) (o.2.2.2.2.2.2.1) (nI (chN (nds s))) (o.2.2.2.2.2.2.2.2.1) (o.2.2.2.2.2.2.2.2.2.1) (o.2.2.2.2.2.2.2.2.2.2.1) (o.2.2.2.2.2.2.2.2.2.2.2.1) (o.2.2.2.2.2.2.2.2.2.2.2.2.1) (nI (vsN (nds s))) (o.2.2.2.2.2.2.2.2.2.2.2.2.2.2.1) (o.2.2.2.2.2.2.2.2.2.2.2.2.2.2.2.1) (o.1) (o.2.1) (o.2.2.2.2.2.2.2.2.2.2.2.2.2.2.2.2.1) (o.2.2.2.2.2.2.2.2.2.2.2.2.2.2.2.2.2.1) (o.2.2.2.2.2.2.2.2.2.2.2.2.2.2.2.2.2.2.1) (o.2.2.2.2.2.2.2.2.2.2.2.2.2.2.2.2.2.2.2.1) (o.2.2.2.2.2.2.2.2.2.2.2.2.2.2.2.2.2.2.2.2.1) (o.2.2.2.2.2.2.2.2.2.2.2.2.2.2.2.2.2.2.2.2.2.1) (o.2.2.2.2.2.2.2.2.2.2.2.2.2.2.2.2.2.2.2.2.2.2.1) (o.2.2.2.2.2.2.2.2.2.2.2.2.2.2.2.2.2.2.2.2.2.2.2) l1 l2 l3 l4 l5 l6 l7 l8 l9 l10 l11 l12 l13 l14 l15 l16 l17 l18 l19 l20 l21 l22 l23 l24 0 un2 (b2 (decide (((sF xa (okC xt sch ns)) s).length ≤ 200))) = _ := x1
  rw [show (5 + 1 : Nat) = 6 from rfl] at x1' x2
  unfold f_X9_clean
  rw [c1, Option.bind_some]
  dsimp only
  rw [if_neg (show ¬ (6 : Int32) ≤ 0 by decide), if_neg (show ¬ (1 : Int32) = 0 by decide), if_pos (show (0 : Int32) = 0 from rfl), k1, Option.bind_some, v1, v2, v3, v5, w1, Option.bind_some]
  dsimp only
  rw [show sOut xa (okC xt sch ns) (nds s) = (sF xa (okC xt sch ns)) s from rfl, x1', Option.bind_some]
  dsimp only
  rw [Nat.zero_add]
  unfold f_X9_clean_L107
  simp only [b2_0]
  cases hc : (sCl (sF xa (okC xt sch ns)) 6 s).2 with
  | none =>
    rw [show (none : Option (List Int32)).isSome = false from rfl, if_pos rfl]
    unfold f_X1_empty
    rw [Option.bind_some]
    refine ⟨_, _, _, _, _, _, _, _, _, _, _, _, _, _, _, _, _, _, _, _, _, _, _, _, _, _, _, _, _, _, _, _, _, _, _, _, _, _, _, _, _, _, _, _, _, _, _, _, _, _, _, _, _, _, _, _, _, rfl, ⟨rfl, rfl, rfl, rfl, v7⟩, rfl, rfl⟩
  | some o2 =>
    have hL := x2 o2 hc
    have hTXL := (sCl_TXL (F := (sF xa (okC xt sch ns))) (fun z hz => (sF_all hz).1) 6 s hs).2 o2 hc
    have h2 := hTXL.1
    have hsz : q3.1 = nI o2.length := by
      rw [hL.1, show min o2.length 200 = o2.length by omega]
    rw [show (some o2).isSome = true from rfl, if_neg (show ¬ true = false by decide)]
    unfold f_X1_size
    rw [Option.bind_some]
    refine ⟨_, _, _, _, _, _, _, _, _, _, _, _, _, _, _, _, _, _, _, _, _, _, _, _, _, _, _, _, _, _, _, _, _, _, _, _, _, _, _, _, _, _, _, _, _, _, _, _, _, _, _, _, _, _, _, _, _, rfl, ⟨rfl, rfl, rfl, rfl, v7⟩, hsz, hsz, fun i hi => hL.2.2 i hi (by omega)⟩
