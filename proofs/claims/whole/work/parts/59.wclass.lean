/-! the class writes -/
def okC (xt : RowF) (sch : Nat → Int64) (ns : Nat) (l : Nat) (q : At) : Bool := (bt (xt l) q.1 || bt (xt 26) q.1) && (!(decide (q.1 = 7) || decide (q.1 = 17)) || sSafe sch ns q.2)
theorem hasAC {a AC : Nat} (h : a < AC) (hA : AC ≤ 100) : f_X7_hasAttribute (nI AC) (nI a) = some 1 := by
  unfold f_X7_hasAttribute
  rw [if_neg (nI_pos (by omega)), if_neg (nI_ge h (by omega))]
theorem letOfC {a AC : Nat} (h : a < AC) (hA : AC ≤ 100) (al : RowF) : f_X7_letterOf (nI AC) al (nI a) = some (al a) := by
  unfold f_X7_letterOf
  rw [hasAC h hA, Option.bind_some, if_neg (by decide), pu_gi (by omega) (by decide), nI_clamp (by omega)]
theorem vbOfC {a AC : Nat} (h : a < AC) (hA : AC ≤ 100) (vb : RowF) : f_X7_valueBeginOf (nI AC) vb (nI a) = some (vb a) := by
  unfold f_X7_valueBeginOf
  rw [hasAC h hA, Option.bind_some, if_neg (by decide), pu_gi (by omega) (by decide), nI_clamp (by omega)]
theorem veOfC {a AC : Nat} (h : a < AC) (hA : AC ≤ 100) (ve : RowF) : f_X7_valueEndOf (nI AC) ve (nI a) = some (ve a) := by
  unfold f_X7_valueEndOf
  rw [hasAC h hA, Option.bind_some, if_neg (by decide), pu_gi (by omega) (by decide), nI_clamp (by omega)]
theorem alwC {l a : Nat} (hl : l < 26) (ha : a < 26) (xt : RowF) : f_X3_allowsAttribute xt (nI l) (nI a) = some (b2 (bt (xt l) a || bt (xt 26) a)) := by
  unfold f_X3_allowsAttribute f_X3_allowsAttribute_L13
  rw [isLetNumC hl, Option.bind_some, if_neg (by decide), pu_gi (by omega) (by decide), show (26 : Int32) = nI 26 from rfl, pu_gi (by decide) (by decide), nI_clamp (by omega), nI_clamp (by decide)]
  simp only [shr1_0 (show a < 32 by omega), b_or]
  cases (bt (xt l) a || bt (xt 26) a) <;> rfl
theorem allowsC {xt al vb ve vr : RowF} {sch : Nat → Int64} {ns AC VS l a s : Nat} {q : At} (hns : ns ≤ 4) (ha : a < AC) (hA : AC ≤ 100) (hV : VS ≤ 200) (hs : s + q.2.length ≤ VS) (hl : l < 26) (hq : q.1 < 26) (g1 : al a = nI q.1) (g2 : vb a = nI s) (g3 : ve a = nI (s + q.2.length)) (g4 : seg vr s q.2) (hc : ∀ c ∈ q.2, pu_ch c) : f_X8_allows (nI ns) xt sch (nI AC) al vb ve (nI VS) vr (nI l) (nI a) = some (b2 (okC xt sch ns l q)) := by
  have h36 : f_X8_allows_L36 (nI ns) xt sch (nI AC) al vb ve (nI VS) vr (nI l) (nI a) = some (b2 (sSafe sch ns q.2)) := by
    unfold f_X8_allows_L36 f_X7_valueLine
    rw [Option.bind_some, vbOfC ha hA, Option.bind_some, veOfC ha hA, Option.bind_some, g2, g3, safeC hV hns hs g4 hc, Option.bind_some]
    simp only [b2_0]
    cases sSafe sch ns q.2 <;> rfl
  unfold f_X8_allows okC
  rw [letOfC ha hA, Option.bind_some, g1, alwC hl hq, Option.bind_some, h36]
  have e7 : (nI q.1 = 7) = (q.1 = 7) := pu_e (b := 7) (by omega) (by decide)
  have e17 : (nI q.1 = 17) = (q.1 = 17) := pu_e (b := 17) (by omega) (by decide)
  simp only [b2_0, e7, e17]
  cases (bt (xt l) q.1 || bt (xt 26) q.1) with
  | false => rfl
  | true =>
    rw [if_neg (by decide), Bool.true_and]
    by_cases c7 : q.1 = 7
    · rw [if_pos c7]; simp [c7]
    · rw [if_neg c7]
      by_cases c17 : q.1 = 17
      · rw [if_pos c17]; simp [c17]
      · rw [if_neg c17]; simp [c7, c17, b2]
theorem writeAtC {al vb ve vr : RowF} {AC VS a s : Nat} {q : At} {t : Ln} {o : List Int32} (ha : a < AC) (hA : AC ≤ 100) (hV : VS ≤ 200) (hs : s + q.2.length ≤ VS) (hq : q.1 < 26) (g1 : al a = nI q.1) (g2 : vb a = nI s) (g3 : ve a = nI (s + q.2.length)) (g4 : seg vr s q.2) (hc : ∀ c ∈ q.2, pu_ch c) (h : LC t o) (hb : o.length + 6 * q.2.length + 40 < 2 ^ 20) : ∃ t' : Ln, f_X8_writeAttribute t.1 t.2.1 t.2.2 (nI AC) al vb ve (nI VS) vr (nI a) = some t' ∧ LC t' (o ++ wA q) := by
  obtain ⟨t1, k1, h1⟩ := lcWord (w := 11) (by decide) h (by omega)
  rw [show ms_byt.getD 11 [] = [32] from rfl] at h1
  obtain ⟨t2, k2, h2⟩ := lcLet hq h1 (by simp; omega)
  obtain ⟨t3, k3, h3⟩ := lcWord (w := 12) (by decide) h2 (by simp; omega)
  rw [show ms_byt.getD 12 [] = [61, 34] from rfl] at h3
  obtain ⟨t4, k4, h4⟩ := lcVal hV hs g4 hc h3 (by simp; omega)
  have hfl := fl_len eV_len q.2
  obtain ⟨t5, k5, h5⟩ := lcWord (w := 13) (by decide) h4 (by simp; omega)
  rw [show ms_byt.getD 13 [] = [34] from rfl] at h5
  refine ⟨t5, ?_, ?_⟩
  · unfold f_X8_writeAttribute f_X7_valueLine
    rw [k1, Option.bind_some, letOfC ha hA, Option.bind_some, g1, k2, Option.bind_some, k3, Option.bind_some, Option.bind_some, vbOfC ha hA, Option.bind_some, veOfC ha hA, Option.bind_some, g2, g3, k4, Option.bind_some, k5]
    rfl
  · have e : o ++ [32] ++ [nI (97 + q.1)] ++ [61, 34] ++ fl eV q.2 ++ [34] = o ++ wA q := by
      unfold wA
      simp
    rw [e] at h5
    exact h5
theorem startL27 {xt cd bg en al vb ve vr un : RowF} {sch : Nat → Int64} {ns N AC VS l i e : Nat} (hns : ns ≤ 4) (hi : i < N) (hN : N ≤ 200) (he : en i = nI e) (hA : AC ≤ 100) (hV : VS ≤ 200) (hl : l < 26) (heA : e ≤ AC) (uc : Int32) : ∀ (xs : List At) (a s f : Nat) (t : Ln) (o : List Int32), KA al vb ve vr xs a s → a + xs.length = e → s + vLen xs ≤ VS → xs.length < f → (∀ q ∈ xs, q.1 < 26 ∧ ∀ c ∈ q.2, pu_ch c) → LC t o → o.length + 5 * xs.length + 6 * vLen xs + 40 < 2 ^ 20 → ∃ t' : Ln, f_X8_writeStart_L27 (nI ns) xt sch (nI N) (nI AC) cd bg en al vb ve (nI VS) vr (nI i) f uc t.1 t.2.1 t.2.2 un (nI l) (nI a) = some (uc, t'.1, t'.2.1, t'.2.2, un, nI l) ∧ LC t' (o ++ wAs (okC xt sch ns l) xs) := by
  have hEnd : f_X7_endOf (nI N) en (nI i) = some (nI e) := by
    unfold f_X7_endOf
    rw [hasNodeC hi hN, Option.bind_some, if_neg (by decide), pu_gi (by omega) (by decide), nI_clamp (by omega), he]
  intro xs
  induction xs with
  | nil =>
    intro a s f t o hk ha hs hf hq h hb
    obtain ⟨f, rfl⟩ : ∃ g, f = g + 1 := ⟨f - 1, by simp at hf; omega⟩
    have ha : a = e := ha
    rw [f_X8_writeStart_L27, hEnd, Option.bind_some, if_pos (nI_le (by omega) (by omega))]
    exact ⟨t, rfl, by rw [wAs, List.append_nil]; exact h⟩
  | cons q r ih =>
    intro a s f t o hk ha hs hf hq h hb
    rw [List.length_cons] at ha hf hb
    have hv : vLen (q :: r) = q.2.length + vLen r := rfl
    rw [hv] at hs hb
    obtain ⟨f, rfl⟩ : ∃ g, f = g + 1 := ⟨f - 1, by omega⟩
    obtain ⟨g1, g2, g3, g4, g5⟩ := hk
    have hqq := hq q List.mem_cons_self
    rw [f_X8_writeStart_L27, hEnd, Option.bind_some, if_neg (nI_ge (by omega) (by omega)), allowsC hns (show a < AC by omega) hA hV (by omega) hl hqq.1 g1 g2 g3 g4 hqq.2, Option.bind_some]
    simp only [b2_0, f_X8_writeStart_L55]
    rw [nI_1]
    unfold wAs
    have hq' : ∀ x ∈ r, x.1 < 26 ∧ ∀ c ∈ x.2, pu_ch c := fun x hx => hq x (List.mem_cons_of_mem _ hx)
    cases hok : okC xt sch ns l q with
    | false =>
      rw [if_pos rfl, if_neg (by decide), List.nil_append]
      exact ih (a + 1) _ f t o g5 (by omega) (by omega) (by omega) hq' h (by omega)
    | true =>
      rw [if_neg (by decide), if_pos rfl]
      obtain ⟨t1, k1, h1⟩ := writeAtC (show a < AC by omega) hA hV (by omega) hqq.1 g1 g2 g3 g4 hqq.2 h (by omega)
      have hw := wA_len q
      rw [k1, Option.bind_some]
      obtain ⟨t2, k2, h2⟩ := ih (a + 1) _ f t1 _ g5 (by omega) (by omega) (by omega) hq' h1 (by rw [List.length_append]; omega)
      refine ⟨t2, k2, ?_⟩
      rw [List.append_assoc] at h2
      exact h2
/-! the elements whose ends aren't written yet -/
def cnt : List Ent → Nat
  | [] => 0
  | e :: r => cnt r + (if e.2.2.2.1 = true then 1 else 0)
def UN (un : RowF) : List Ent → Prop
  | [] => True
  | e :: r => (e.2.2.2.1 = true → un (cnt r) = nI e.1) ∧ UN un r
theorem cnt_len : ∀ b, cnt b ≤ b.length
  | [] => Nat.le_refl _
  | e :: r => by
    have := cnt_len r
    unfold cnt
    rw [List.length_cons]
    split <;> omega
theorem UN_top {un : RowF} : ∀ {b : List Ent}, UN un b → 0 < cnt b → ∃ e ∈ b, e.2.2.2.1 = true ∧ un (cnt b - 1) = nI e.1
  | [], _, h => by simp [cnt] at h
  | e :: r, h, hc => by
    unfold cnt at hc ⊢
    by_cases c : e.2.2.2.1 = true
    · rw [if_pos c]
      exact ⟨e, List.mem_cons_self, c, h.1 c⟩
    · rw [if_neg c] at hc ⊢
      obtain ⟨x, hx, h1, h2⟩ := UN_top h.2 hc
      exact ⟨x, List.mem_cons_of_mem _ hx, h1, h2⟩
theorem UN_drop {un : RowF} {d : Nat} : ∀ {b : List Ent}, UN un b → UN un (pDrop d b)
  | [], h => h
  | e :: r, h => by
    unfold pDrop
    split
    · exact UN_drop h.2
    · exact h
theorem KT_at {cd bg en ch al vb ve vr : RowF} {a r : List Nd} {x : Nd} (h : KT cd bg en ch al vb ve vr (a ++ x :: r)) : KT cd bg en ch al vb ve vr (x :: r) ∧ r.length < (a ++ x :: r).length := ⟨KT.drop a h, by rw [List.length_append, List.length_cons]; omega⟩
theorem endsL0 {cd bg en ch al vb ve vr un xa : RowF} {nd : List Nd} {d : Nat} (hT : KT cd bg en ch al vb ve vr nd) (hN : nd.length ≤ 200) (hd : d ≤ 8) : ∀ (b : List Ent) (f : Nat) (t : Ln) (o : List Int32), (∀ e ∈ b, EE xa nd e ∧ e.2.1 ≤ 8) → b.Pairwise (fun e e' => e'.2.1 < e.2.1) → UN un b → cnt b ≤ 8 → cnt b < f → LC t o → o.length + 4 * b.length + 20 < 2 ^ 20 → ∃ t' : Ln, f_X8_writeEnds_L0 un (nI nd.length) cd (nI d) f (nI (cnt b)) t.1 t.2.1 t.2.2 = some (nI (cnt (pDrop d b)), t'.1, t'.2.1, t'.2.2) ∧ LC t' (o ++ pEnds d b) := by
  intro b
  induction b with
  | nil =>
    intro f t o hE hP hU h8 hf h hb
    obtain ⟨f, rfl⟩ : ∃ g, f = g + 1 := ⟨f - 1, by omega⟩
    refine ⟨t, ?_, by rw [pEnds, List.append_nil]; exact h⟩
    rw [f_X8_writeEnds_L0, if_pos (show nI (cnt []) ≤ 0 from Int32.le_refl 0)]
    rfl
  | cons e r ih =>
    intro f t o hE hP hU h8 hf h hb
    rw [List.length_cons] at hb
    have hP' := List.pairwise_cons.mp hP
    have hE' : ∀ x ∈ r, EE xa nd x ∧ x.2.1 ≤ 8 := fun x hx => hE x (List.mem_cons_of_mem _ hx)
    -- what the top is
    have top : ∀ x ∈ e :: r, ∃ a y q, nd = a ++ y :: q ∧ q.length = x.1 ∧ y.2.2.1 = x.2.1 ∧ y.2.1 = x.2.2.1 := by
      intro x hx
      obtain ⟨a, y, q, h1, h2, h3, h4, h5, h6⟩ := (hE x hx).1
      exact ⟨a, y, q, h1, h2, h4, h5⟩
    by_cases c : d ≤ e.2.1
    · rw [show pEnds d (e :: r) = (if e.2.2.2.1 = true then wE e.2.2.1 else []) ++ pEnds d r by rw [pEnds, if_pos c], show pDrop d (e :: r) = pDrop d r by rw [pDrop, if_pos c]]
      by_cases ce : e.2.2.2.1 = true
      · have hcnt : cnt (e :: r) = cnt r + 1 := by rw [cnt, if_pos ce]
        rw [hcnt] at h8 hf ⊢
        obtain ⟨f, rfl⟩ : ∃ g, f = g + 1 := ⟨f - 1, by omega⟩
        obtain ⟨a, y, q, h1, h2, h3, h4⟩ := top e List.mem_cons_self
        have hKT := KT_at (by rw [← h1]; exact hT)
        rw [← h1] at hKT
        have hlet := EE_let (hE e List.mem_cons_self).1 ce
        have hun := hU.1 ce
        have hdep := depthC hKT.1 hKT.2 hN
        have hnam := nameC hKT.1 hKT.2 hN
        rw [h2] at hdep hnam
        rw [h3] at hdep
        rw [h4] at hnam
        have he8 := (hE e List.mem_cons_self).2
        obtain ⟨t1, k1, g1⟩ := lcWord (w := 9) (by decide) h (by omega)
        rw [show ms_byt.getD 9 [] = [60, 47] from rfl] at g1
        obtain ⟨t2, k2, g2⟩ := lcLet hlet g1 (by simp; omega)
        obtain ⟨t3, k3, g3⟩ := lcWord (w := 8) (by decide) g2 (by simp; omega)
        rw [show ms_byt.getD 8 [] = [62] from rfl] at g3
        have e1 : o ++ [60, 47] ++ [nI (97 + e.2.2.1)] ++ [62] = o ++ wE e.2.2.1 := by unfold wE; simp
        rw [e1] at g3
        obtain ⟨t4, k4, g4⟩ := ih f t3 _ hE' hP'.2 hU.2 (by omega) (by omega) g3 (by rw [List.length_append, wE_len]; omega)
        refine ⟨t4, ?_, ?_⟩
        · rw [f_X8_writeEnds_L0, if_neg (show ¬ nI (cnt r + 1) ≤ 0 from nI_nle (by omega) (by omega)), nI_pred, pu_gi (by omega) (by decide), nI_clamp (by omega), hun, hdep, Option.bind_some, if_neg (show ¬ nI e.2.1 < nI d from nI_nlt c (by omega)), k1, Option.bind_some, pu_gi (by omega) (by decide), hnam, Option.bind_some, k2, Option.bind_some, k3, Option.bind_some]
          exact k4
        · rw [if_pos ce]
          rw [List.append_assoc] at g4
          exact g4
      · have hcnt : cnt (e :: r) = cnt r := by rw [cnt, if_neg ce, Nat.add_zero]
        rw [hcnt] at h8 hf ⊢
        rw [if_neg ce, List.nil_append]
        exact ih f t o hE' hP'.2 hU.2 h8 hf h (by omega)
    · rw [show pEnds d (e :: r) = [] by rw [pEnds, if_neg c], show pDrop d (e :: r) = e :: r by rw [pDrop, if_neg c], List.append_nil]
      obtain ⟨f, rfl⟩ : ∃ g, f = g + 1 := ⟨f - 1, by omega⟩
      refine ⟨t, ?_, h⟩
      rw [f_X8_writeEnds_L0]
      by_cases c0 : cnt (e :: r) = 0
      · rw [c0, if_pos (show nI 0 ≤ 0 from Int32.le_refl 0)]
      · obtain ⟨x, hx, hx1, hx2⟩ := UN_top hU (by omega)
        obtain ⟨a, y, q, h1, h2, h3, h4⟩ := top x hx
        have hKT := KT_at (by rw [← h1]; exact hT)
        rw [← h1] at hKT
        have hdep := depthC hKT.1 hKT.2 hN
        rw [h2, h3] at hdep
        have hxd : x.2.1 < d := by
          rcases List.mem_cons.mp hx with g | g
          · rw [g]; omega
          · have := hP'.1 x g; omega
        have epred : nI (cnt (e :: r)) - 1 = nI (cnt (e :: r) - 1) := by
          obtain ⟨m, hm⟩ : ∃ m, cnt (e :: r) = m + 1 := ⟨cnt (e :: r) - 1, by omega⟩
          rw [hm, nI_pred]
          rfl
        rw [if_neg (show ¬ nI (cnt (e :: r)) ≤ 0 from nI_nle (by omega) (by omega)), epred, pu_gi (by omega) (by decide), nI_clamp (by omega), hx2, hdep, Option.bind_some, if_pos (show nI x.2.1 < nI d from nI_lt hxd (by omega))]
theorem endsC {cd bg en ch al vb ve vr un xa : RowF} {nd : List Nd} {d : Nat} {b : List Ent} {t : Ln} {o : List Int32} (hT : KT cd bg en ch al vb ve vr nd) (hN : nd.length ≤ 200) (hd : d ≤ 8) (hE : ∀ e ∈ b, EE xa nd e ∧ e.2.1 ≤ 8) (hP : b.Pairwise (fun e e' => e'.2.1 < e.2.1)) (hU : UN un b) (h8 : cnt b ≤ 8) (h : LC t o) (hb : o.length + 4 * b.length + 20 < 2 ^ 20) : ∃ t' : Ln, f_X8_writeEnds (nI (cnt b)) t.1 t.2.1 t.2.2 un (nI nd.length) cd (nI d) = some (nI (cnt (pDrop d b)), t'.1, t'.2.1, t'.2.2) ∧ LC t' (o ++ pEnds d b) := by
  obtain ⟨t', k1, k2⟩ := endsL0 hT hN hd b 1000 t o hE hP hU h8 (by omega) h hb
  refine ⟨t', ?_, k2⟩
  unfold f_X8_writeEnds
  rw [k1]
  rfl
