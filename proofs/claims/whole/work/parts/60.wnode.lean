/-! the class writes a node, all nodes -/
theorem actC {l : Nat} (hl : l ≤ 26) (xa : RowF) : f_X3_actionOf xa (nI l) = some (if l < 26 then xa l else 1) := by
  unfold f_X3_actionOf
  by_cases c : l < 26
  · rw [isLetNumC c, Option.bind_some, if_neg (by decide), pu_gi c (by decide), nI_clamp (by omega), if_pos c]
  · have : l = 26 := by omega
    subst this
    rfl
theorem startWC {xt cd bg en ch al vb ve vr un : RowF} {sch : Nat → Int64} {ns N AC VS : Nat} {x : Nd} {r : List Nd} {t : Ln} {o : List Int32} {uc : Nat} (hns : ns ≤ 4) (hT : KT cd bg en ch al vb ve vr (x :: r)) (hi : r.length < N) (hN : N ≤ 200) (hx : WN x) (h3 : x.1 = 3) (hl : x.2.1 < 26) (hAC : acN (x :: r) ≤ AC) (hA : AC ≤ 100) (hVS : vsN (x :: r) ≤ VS) (hV : VS ≤ 200) (huc : hE x.2.1 x.2.2.2.1 = true → uc < 8) (huc8 : uc ≤ 8) (h : LC t o) (hb : o.length + 5 * x.2.2.2.2.2.length + 6 * vLen x.2.2.2.2.2 + 60 < 2 ^ 20) : ∃ t' : Ln, f_X8_writeStart (nI uc) (nI ns) xt sch t.1 t.2.1 t.2.2 un (nI N) (nI AC) cd bg en al vb ve (nI VS) vr (nI r.length) = some (if hE x.2.1 x.2.2.2.1 = true then (nI (uc + 1), t'.1, t'.2.1, t'.2.2, upd un uc (nI r.length)) else (nI uc, t'.1, t'.2.1, t'.2.2, un)) ∧ LC t' (o ++ wS (okC xt sch ns x.2.1) x) := by
  have hs1 := sSort_len x.2.2.2.2.2
  have hs2 := sSort_vLen x.2.2.2.2.2
  have hac : acN (x :: r) = acN r + (sSort x.2.2.2.2.2).length := rfl
  have hvs : vsN (x :: r) = vsN r + vLen (sSort x.2.2.2.2.2) := rfl
  have hT2 := hT.2.1
  rw [if_pos h3] at hT2
  obtain ⟨b1, b2', b3⟩ := hT2
  have hBeg : f_X7_beginOf (nI N) bg (nI r.length) = some (nI (acN r)) := by
    unfold f_X7_beginOf
    rw [hasNodeC hi hN, Option.bind_some, if_neg (by decide), pu_gi (by omega) (by decide), nI_clamp (by omega), b1]
  obtain ⟨t1, k1, g1⟩ := lcWord (w := 10) (by decide) h (by omega)
  rw [show ms_byt.getD 10 [] = [60] from rfl] at g1
  obtain ⟨t2, k2, g2⟩ := lcLet hl g1 (by simp; omega)
  obtain ⟨t3, k3, g3⟩ := startL27 (xt := xt) (cd := cd) (bg := bg) (en := en) (un := un) (sch := sch) hns hi hN b2' hA hV hl (by omega) (nI uc) (sSort x.2.2.2.2.2) (acN r) (vsN r) 1000 t2 _ b3 rfl (by omega) (by omega) (fun q hq => hx.2.2.2.2.2.2.1 q (sSort_mem hq)) g2 (by simp; omega)
  have hwl := wAs_len (okC xt sch ns x.2.1) (sSort x.2.2.2.2.2)
  obtain ⟨t4, k4, g4⟩ := lcWord (w := 8) (by decide) g3 (by simp; omega)
  rw [show ms_byt.getD 8 [] = [62] from rfl] at g4
  refine ⟨t4, ?_, ?_⟩
  · have h90 : ∀ z : Bool, z = hE x.2.1 x.2.2.2.1 → f_X8_writeStart_L90 (nI ns) xt sch (nI N) (nI AC) cd bg en al vb ve (nI VS) vr (nI r.length) (nI uc) t4.1 t4.2.1 t4.2.2 un (b2 z) = some (if hE x.2.1 x.2.2.2.1 = true then (nI (uc + 1), t4.1, t4.2.1, t4.2.2, upd un uc (nI r.length)) else (nI uc, t4.1, t4.2.1, t4.2.2, un)) := by
      intro z hz
      unfold f_X8_writeStart_L90
      simp only [b2_0]
      rw [← hz]
      cases z with
      | false => rfl
      | true =>
        have := huc hz.symm
        rw [if_neg (by decide), if_neg (show ¬ (8 : Int32) ≤ nI uc from nI_ge (b := 8) this (by decide)), pu_gi this (by decide), nI_clamp (by omega), nI_1, if_pos rfl]
    unfold f_X8_writeStart f_X8_writeStart_L85
    rw [nameC hT hi hN, Option.bind_some, k1, Option.bind_some, k2, Option.bind_some, hBeg, Option.bind_some, k3, Option.bind_some]
    dsimp only
    rw [k4, Option.bind_some, isForTC hT hi hN, Option.bind_some, emptyC (by omega), Option.bind_some]
    simp only [b2_0]
    cases hf : x.2.2.2.1 with
    | true =>
      rw [if_neg (by decide)]
      rw [hf] at h90
      exact h90 true (by rfl)
    | false =>
      rw [if_pos rfl]
      rw [hf] at h90
      cases he : sEmpty x.2.1 with
      | false =>
        rw [if_pos rfl]
        exact h90 true (by unfold hE; rw [he]; rfl)
      | true =>
        rw [if_neg (by decide)]
        exact h90 false (by unfold hE; rw [he]; rfl)
  · have e : o ++ [60] ++ [nI (97 + x.2.1)] ++ wAs (okC xt sch ns x.2.1) (sSort x.2.2.2.2.2) ++ [62] = o ++ wS (okC xt sch ns x.2.1) x := by
      unfold wS
      simp
    rw [e] at g4
    exact g4
/-- a node that isn't inside of a dropped one -/
theorem nodeWC {xa xt cd bg en ch al vb ve vr un : RowF} {sch : Nat → Int64} {ns N CS AC VS : Nat} {x : Nd} {r : List Nd} {t : Ln} {o : List Int32} {uc : Nat} (hns : ns ≤ 4) (hT : KT cd bg en ch al vb ve vr (x :: r)) (hi : r.length < N) (hN : N ≤ 200) (hx : WN x) (hCS : chN (x :: r) ≤ CS) (hC : CS ≤ 200) (hAC : acN (x :: r) ≤ AC) (hA : AC ≤ 100) (hVS : vsN (x :: r) ≤ VS) (hV : VS ≤ 200) (huc : hE x.2.1 x.2.2.2.1 = true → x.1 = 3 → uc < 8) (huc8 : uc ≤ 8) (h : LC t o) (hb : o.length + 6 * x.2.2.2.2.1.length + 5 * x.2.2.2.2.2.length + 6 * vLen x.2.2.2.2.2 + 60 < 2 ^ 20) : ∃ (t' : Ln) (un' : RowF), f_X8_writeNode (nI uc) (nI ns) xa xt sch t.1 t.2.1 t.2.2 un (nI N) (nI AC) cd bg en (nI CS) ch al vb ve (nI VS) vr (nI r.length) = some (nI (uc + (if (decide (x.1 = 3) && keepB xa x.2.1 && hE x.2.1 x.2.2.2.1) = true then 1 else 0)), t'.1, t'.2.1, t'.2.2, un', b2 (!isDr xa x)) ∧ un' = (if (decide (x.1 = 3) && keepB xa x.2.1 && hE x.2.1 x.2.2.2.1) = true then upd un uc (nI r.length) else un) ∧ LC t' (o ++ (if x.1 = 1 then fl eT x.2.2.2.2.1 else []) ++ (if (decide (x.1 = 3) && keepB xa x.2.1) = true then wS (okC xt sch ns x.2.1) x else [])) := by
  have hch : chN (x :: r) = chN r + x.2.2.2.2.1.length := rfl
  have hk4 := hT.1.2.1
  have e1 : (nI x.1 = 1) = (x.1 = 1) := pu_e (b := 1) (by omega) (by decide)
  have e3 : (nI x.1 = 3) = (x.1 = 3) := pu_e (b := 3) (by omega) (by decide)
  have h27 : ∀ (t0 : Ln) (o0 : List Int32), LC t0 o0 → o0.length + 5 * x.2.2.2.2.2.length + 6 * vLen x.2.2.2.2.2 + 60 < 2 ^ 20 → ∃ (t' : Ln) (un' : RowF), f_X8_writeNode_L27 (nI ns) xa xt sch (nI N) (nI AC) cd bg en (nI CS) ch al vb ve (nI VS) vr (nI r.length) (nI uc) t0.1 t0.2.1 t0.2.2 un = some (nI (uc + (if (decide (x.1 = 3) && keepB xa x.2.1 && hE x.2.1 x.2.2.2.1) = true then 1 else 0)), t'.1, t'.2.1, t'.2.2, un', b2 (!isDr xa x)) ∧ un' = (if (decide (x.1 = 3) && keepB xa x.2.1 && hE x.2.1 x.2.2.2.1) = true then upd un uc (nI r.length) else un) ∧ LC t' (o0 ++ (if (decide (x.1 = 3) && keepB xa x.2.1) = true then wS (okC xt sch ns x.2.1) x else [])) := by
    intro t0 o0 h0 hb0
    unfold f_X8_writeNode_L27
    rw [kindC hT hi hN, Option.bind_some, nameC hT hi hN, Option.bind_some, actC hx.2.1, Option.bind_some]
    simp only [e3]
    unfold isDr
    by_cases c3 : x.1 = 3
    · rw [if_pos c3, decide_eq_true c3]
      simp only [Bool.true_and]
      by_cases cl : x.2.1 < 26
      · rw [if_pos cl]
        unfold keepB
        rw [decide_eq_true cl]
        simp only [Bool.true_and]
        by_cases c0 : xa x.2.1 = 0
        · obtain ⟨t1, k1, g1⟩ := startWC (xt := xt) (un := un) (sch := sch) hns hT hi hN hx c3 cl hAC hA hVS hV (fun q => huc q c3) huc8 h0 (by omega)
          rw [if_pos c0, k1, Option.bind_some]
          unfold f_X8_writeNode_L61
          have c2 : ¬ xa x.2.1 = 2 := by rw [c0]; decide
          rw [if_neg c2, decide_eq_true c0, decide_eq_false c2]
          simp only [Bool.true_and, if_true]
          cases hE x.2.1 x.2.2.2.1 with
          | true => exact ⟨t1, _, rfl, rfl, g1⟩
          | false => exact ⟨t1, _, rfl, rfl, g1⟩
        · rw [if_neg c0, decide_eq_false c0]
          unfold f_X8_writeNode_L61
          simp only [Bool.false_and, Bool.false_eq_true, if_false, List.append_nil]
          refine ⟨t0, un, ?_, rfl, h0⟩
          by_cases c2 : xa x.2.1 = 2
          · rw [if_pos c2, decide_eq_true c2]; rfl
          · rw [if_neg c2, decide_eq_false c2]; rfl
      · rw [if_neg cl]
        unfold keepB f_X8_writeNode_L61
        rw [decide_eq_false cl]
        simp only [Bool.false_and, Bool.false_eq_true, if_false, List.append_nil]
        exact ⟨t0, un, rfl, rfl, h0⟩
    · rw [if_neg c3, decide_eq_false c3]
      simp only [Bool.false_and, Bool.false_eq_true, if_false, List.append_nil]
      exact ⟨t0, un, rfl, rfl, h0⟩
  unfold f_X8_writeNode
  rw [kindC hT hi hN, Option.bind_some]
  simp only [e1]
  by_cases c1 : x.1 = 1
  · have hT2 := hT.2.1
    rw [if_neg (by omega)] at hT2
    obtain ⟨b1, b2', b3⟩ := hT2
    have hBeg : f_X7_beginOf (nI N) bg (nI r.length) = some (nI (chN r)) := by
      unfold f_X7_beginOf
      rw [hasNodeC hi hN, Option.bind_some, if_neg (by decide), pu_gi (by omega) (by decide), nI_clamp (by omega), b1]
    have hEnd : f_X7_endOf (nI N) en (nI r.length) = some (nI (chN r + x.2.2.2.2.1.length)) := by
      unfold f_X7_endOf
      rw [hasNodeC hi hN, Option.bind_some, if_neg (by decide), pu_gi (by omega) (by decide), nI_clamp (by omega), b2']
      rfl
    obtain ⟨t1, k1, g1⟩ := lcText hC (by omega) b3 hx.2.2.2.2.2.1 h (by omega)
    have hfl := fl_len eT_len x.2.2.2.2.1
    rw [if_pos c1, hBeg, hEnd]
    unfold f_X7_textLine
    rw [Option.bind_some, Option.bind_some, Option.bind_some, k1, Option.bind_some, if_pos c1]
    exact h27 t1 _ g1 (by rw [List.length_append]; omega)
  · rw [if_neg c1, if_neg c1, List.append_nil]
    exact h27 t o h (by omega)
theorem cnt_lt : ∀ (b : List Ent) (m : Nat), b.Pairwise (fun e e' => e'.2.1 < e.2.1) → (∀ e ∈ b, e.2.2.2.1 = true → e.2.1 < m) → cnt b ≤ m
  | [], _, _, _ => Nat.zero_le _
  | x :: r, m, h, hm => by
    rw [List.pairwise_cons] at h
    unfold cnt
    by_cases c : x.2.2.2.1 = true
    · have hx := hm x List.mem_cons_self c
      have := cnt_lt r (m - 1) h.2 (fun e he _ => by have := h.1 e he; omega)
      rw [if_pos c]
      omega
    · have := cnt_lt r m h.2 (fun e he => hm e (List.mem_cons_of_mem _ he))
      rw [if_neg c]
      omega
theorem UN.upd {un : RowF} {k : Nat} {v : Int32} : ∀ {b : List Ent}, cnt b ≤ k → UN un b → UN (upd un k v) b
  | [], _, _ => trivial
  | e :: r, hk, h => by
    have hc : cnt r ≤ cnt (e :: r) := by
      rw [show cnt (e :: r) = cnt r + (if e.2.2.2.1 = true then 1 else 0) from rfl]
      omega
    refine ⟨fun q => ?_, UN.upd (by omega) h.2⟩
    have : cnt (e :: r) = cnt r + 1 := by rw [cnt, if_pos q]
    rw [pk_un (by omega)]
    exact h.1 q
theorem EE_ends {xa : RowF} {nd : List Nd} {e : Ent} (hw : ∀ x ∈ nd, WN x) (h : EE xa nd e) : e.2.1 ≤ 8 ∧ (e.2.2.2.1 = true → e.2.1 < 8) := by
  obtain ⟨a, y, q, h1, h2, h3, h4, h5, h6⟩ := h
  have hy := hw y (by rw [h1]; simp)
  refine ⟨by rw [← h4]; exact hy.2.2.1, fun he => ?_⟩
  rw [he] at h6
  have h7 := h6.symm
  simp only [Bool.and_eq_true] at h7
  have h8 := h7.2
  rw [← h4]
  refine hy.2.2.2.2.2.2.2.2 h3 ?_
  unfold hE at h8
  unfold sHasEnd
  cases hf : y.2.2.2.1 with
  | true => exact Or.inl rfl
  | false =>
    rw [hf, Bool.false_or] at h8
    right
    simpa using h8
theorem allL17 {xa xt cd bg en ch al vb ve vr : RowF} {sch : Nat → Int64} {ns : Nat} {nd : List Nd} (hns : ns ≤ 4) (hT : KT cd bg en ch al vb ve vr nd) (hw : ∀ x ∈ nd, WN x) (hN : nd.length ≤ 200) (hC : chN nd ≤ 200) (hA : acN nd ≤ 100) (hV : vsN nd ≤ 200) (hM : 6 * stoM nd + 5 * acM nd + 8 * nd.length ≤ 100000) : ∀ (j : Nat) (a r : List Nd) (f : Nat) (t : Ln) (un : RowF) (D : Nat), nd = a ++ r → a.length = j → j < f → LC t (sSf xa (okC xt sch ns) r).1 → UN un (sSf xa (okC xt sch ns) r).2 → D ≤ 9 → (∀ e ∈ (sSf xa (okC xt sch ns) r).2, e.2.2.2.2 = decide (D ≤ e.2.1)) → (D = 9 ∨ ∃ e ∈ (sSf xa (okC xt sch ns) r).2, e.2.1 = D) → ∃ (t' : Ln) (un' : RowF), f_X8_writeAll_L17 (nI ns) xa xt sch (nI nd.length) (nI (acN nd)) cd bg en (nI (chN nd)) ch al vb ve (nI (vsN nd)) vr f (nI (cnt (sSf xa (okC xt sch ns) r).2)) t.1 t.2.1 t.2.2 un (nI D) (nI r.length) = some (nI (cnt (sSf xa (okC xt sch ns) nd).2), t'.1, t'.2.1, t'.2.2, un') ∧ LC t' (sSf xa (okC xt sch ns) nd).1 ∧ UN un' (sSf xa (okC xt sch ns) nd).2 := by
  intro j
  induction j with
  | zero =>
    intro a r f t un D e ha hf h hU hD9 hD1 hD2
    obtain ⟨f, rfl⟩ : ∃ g, f = g + 1 := ⟨f - 1, by omega⟩
    have : a = [] := List.length_eq_zero_iff.mp ha
    subst this
    rw [List.nil_append] at e
    subst e
    rw [f_X8_writeAll_L17]
    simp only [f_X7_size, Option.bind_some]
    rw [if_pos (nI_le (Nat.le_refl _) (by omega))]
    exact ⟨t, un, rfl, h, hU⟩
  | succ j ih =>
    intro a r f t un D e ha hf h hU hD9 hD1 hD2
    obtain ⟨f, rfl⟩ : ∃ g, f = g + 1 := ⟨f - 1, by omega⟩
    obtain ⟨a', x, rfl⟩ : ∃ a' x, a = a' ++ [x] := ⟨a.dropLast, a.getLast (by intro q; rw [q] at ha; simp at ha), (List.dropLast_concat_getLast _).symm⟩
    have e' : nd = a' ++ x :: r := by rw [e, List.append_assoc]; rfl
    have hKT := KT_at (by rw [← e']; exact hT)
    rw [← e'] at hKT
    have hx := hw x (by rw [e']; simp)
    have ha' : a'.length = j := by simp at ha; omega
    have hEE := sSf_EE (xa := xa) (ok := okC xt sch ns) r
    have hEn : ∀ e0 ∈ (sSf xa (okC xt sch ns) r).2, EE xa nd e0 := fun e0 he0 => by rw [e]; exact (hEE.1 e0 he0).app
    have hlen := sSf_len (xa := xa) (ok := okC xt sch ns) r
    -- sizes
    have hmono : ∀ (p s : List Nd), stoM s ≤ stoM (p ++ s) ∧ acM s ≤ acM (p ++ s) ∧ chN s ≤ chN (p ++ s) ∧ acN s ≤ acN (p ++ s) ∧ vsN s ≤ vsN (p ++ s) := by
      intro p s
      induction p with
      | nil => exact ⟨Nat.le_refl _, Nat.le_refl _, Nat.le_refl _, Nat.le_refl _, Nat.le_refl _⟩
      | cons z p ihp =>
        simp only [List.cons_append, stoM, acM, chN, acN, vsN]
        omega
    have hm1 := hmono a' (x :: r)
    rw [← e'] at hm1
    have hst : stoM (x :: r) = stoM r + x.2.2.2.2.1.length + vLen x.2.2.2.2.2 := rfl
    have hacm : acM (x :: r) = acM r + x.2.2.2.2.2.length := rfl
    have hlr : (x :: r).length ≤ nd.length := by rw [e']; simp
    rw [List.length_cons] at hlr
    have hd8 : x.2.2.1 ≤ 8 := hx.2.2.1
    have hstep : sSf xa (okC xt sch ns) (x :: r) = sStp xa (okC xt sch ns) x r.length (sSf xa (okC xt sch ns) r) := rfl
    rw [f_X8_writeAll_L17]
    simp only [f_X7_size, Option.bind_some]
    rw [if_neg (nI_ge hKT.2 (by omega)), depthC hKT.1 hKT.2 hN, Option.bind_some]
    have eD : (nI D < nI x.2.2.1) = (D < x.2.2.1) := pu_m (by omega) (by omega)
    simp only [eD]
    generalize hob : sSf xa (okC xt sch ns) r = ob at *
    by_cases c : D < x.2.2.1
    · -- inside of a dropped one
      rw [if_pos c]
      unfold f_X8_writeAll_L62
      rw [nI_1]
      obtain ⟨e0, he0, hde⟩ : ∃ e ∈ ob.2, e.2.1 = D := by
        rcases hD2 with q | q
        · omega
        · exact q
      have hb1 : e0 ∈ pDrop x.2.2.1 ob.2 := pDrop_keep he0 (by omega)
      have hpg : pGone (pDrop x.2.2.1 ob.2) = true := by
        have hmem := pDrop_mem x.2.2.1 ob.2
        have hpw := pDrop_pw (d := x.2.2.1) hEE.2
        revert hb1 hmem hpw
        cases pDrop x.2.2.1 ob.2 with
        | nil => intro hb1; simp at hb1
        | cons y ys =>
          intro hb1 hmem hpw
          show y.2.2.2.2 = true
          rw [hD1 y (hmem y List.mem_cons_self)]
          rw [List.pairwise_cons] at hpw
          simp only [decide_eq_true_eq]
          rcases List.mem_cons.mp hb1 with g | g
          · rw [← g]; omega
          · have := hpw.1 e0 g; omega
      have hgn : gnB xa x ob.2 = true := by unfold gnB; rw [hpg, Bool.or_true]
      have hkt : ktB xa x ob.2 = false := by unfold ktB; rw [hgn]; simp
      -- nothing is written
      have hnoend : ∀ (b : List Ent), (∀ e ∈ b, EE xa nd e ∧ (x.2.2.1 ≤ e.2.1 → e.2.2.2.2 = true)) → pEnds x.2.2.1 b = [] ∧ cnt (pDrop x.2.2.1 b) = cnt b := by
        intro b
        induction b with
        | nil => intro _; exact ⟨rfl, rfl⟩
        | cons y ys ihy =>
          intro hy
          have hy1 := hy y List.mem_cons_self
          have ih2 := ihy (fun z hz => hy z (List.mem_cons_of_mem _ hz))
          unfold pEnds pDrop
          by_cases cy : x.2.2.1 ≤ y.2.1
          · have hg := hy1.2 cy
            obtain ⟨-, y', -, -, -, -, -, -, h6⟩ := hy1.1
            rw [hg] at h6
            have h6 : y.2.2.2.1 = false := by rw [h6]; rfl
            rw [if_pos cy, if_pos cy, if_neg (by rw [h6]; decide), List.nil_append]
            refine ⟨ih2.1, ?_⟩
            rw [ih2.2, show cnt (y :: ys) = cnt ys + (if y.2.2.2.1 = true then 1 else 0) from rfl, if_neg (by rw [h6]; decide)]
            rfl
          · rw [if_neg cy, if_neg cy]
            exact ⟨rfl, rfl⟩
      have hne := hnoend ob.2 (fun e1 he1 => ⟨hEn e1 he1, fun q => by rw [hD1 e1 he1]; simp; omega⟩)
      have e1 : (sSf xa (okC xt sch ns) (x :: r)).1 = ob.1 := by
        rw [hstep]
        unfold sStp
        dsimp only
        rw [hne.1, hgn, hkt]
        simp
      have e2 : cnt (sSf xa (okC xt sch ns) (x :: r)).2 = cnt ob.2 := by
        rw [hstep]
        unfold sStp
        dsimp only
        split
        · rw [show cnt (sEnt xa x r.length ob.2 :: pDrop x.2.2.1 ob.2) = cnt (pDrop x.2.2.1 ob.2) + (if (ktB xa x ob.2 && hE x.2.1 x.2.2.2.1) = true then 1 else 0) from rfl, hkt, hne.2]
          simp
        · exact hne.2
      have hU2 : UN un (sSf xa (okC xt sch ns) (x :: r)).2 := by
        rw [hstep]
        unfold sStp
        dsimp only
        split
        · refine ⟨fun q => ?_, UN_drop hU⟩
          have q : (ktB xa x ob.2 && hE x.2.1 x.2.2.2.1) = true := q
          rw [hkt] at q
          simp at q
        · exact UN_drop hU
      have hD1' : ∀ e ∈ (sSf xa (okC xt sch ns) (x :: r)).2, e.2.2.2.2 = decide (D ≤ e.2.1) := by
        rw [hstep]
        unfold sStp
        dsimp only
        intro e1 he1
        split at he1
        · rcases List.mem_cons.mp he1 with g | g
          · rw [g]
            show gnB xa x ob.2 = decide (D ≤ x.2.2.1)
            rw [hgn, decide_eq_true (by omega)]
          · exact hD1 e1 (pDrop_mem _ _ _ g)
        · exact hD1 e1 (pDrop_mem _ _ _ he1)
      have hD2' : D = 9 ∨ ∃ e ∈ (sSf xa (okC xt sch ns) (x :: r)).2, e.2.1 = D := by
        right
        rw [hstep]
        unfold sStp
        dsimp only
        split
        · exact ⟨e0, List.mem_cons_of_mem _ hb1, hde⟩
        · exact ⟨e0, hb1, hde⟩
      have := ih a' (x :: r) f t un D e' ha' (by omega) (by rw [e1]; exact h) hU2 hD9 hD1' hD2'
      rw [e2] at this
      exact this
    · -- it is written
      rw [if_neg c]
      have hpg : pGone (pDrop x.2.2.1 ob.2) = false := by
        have hmem := pDrop_mem x.2.2.1 ob.2
        have hlt := pDrop_lt (d := x.2.2.1) hEE.2
        revert hmem hlt
        cases pDrop x.2.2.1 ob.2 with
        | nil => intro _ _; rfl
        | cons y ys =>
          intro hmem hlt
          show y.2.2.2.2 = false
          have := hlt y List.mem_cons_self
          rw [hD1 y (hmem y List.mem_cons_self), decide_eq_false (by omega)]
      have hgn : gnB xa x ob.2 = isDr xa x := by unfold gnB; rw [hpg, Bool.or_false]
      have hkt : ktB xa x ob.2 = (decide (x.1 = 3) && keepB xa x.2.1) := by
        unfold ktB
        rw [hgn]
        unfold isDr keepB
        by_cases h0 : xa x.2.1 = 0
        · have h2 : ¬ xa x.2.1 = 2 := by rw [h0]; decide
          simp [h0]
        · simp [h0]
      have hcnt8 : cnt ob.2 ≤ 8 := cnt_lt ob.2 8 hEE.2 (fun e1 he1 q => (EE_ends hw (hEn e1 he1)).2 q)
      have hblen : ob.2.length ≤ 9 := pw_len ob.2 9 hEE.2 (fun e1 he1 => by have := (EE_ends hw (hEn e1 he1)).1; omega)
      obtain ⟨t1, k1, g1⟩ := endsC (d := x.2.2.1) (b := ob.2) hT hN hd8 (fun e1 he1 => ⟨hEn e1 he1, (EE_ends hw (hEn e1 he1)).1⟩) hEE.2 hU hcnt8 h (by omega)
      rw [k1, Option.bind_some]
      dsimp only
      have hpe := pEnds_len x.2.2.1 ob.2
      have hcd : cnt (pDrop x.2.2.1 ob.2) ≤ x.2.2.1 := cnt_lt _ _ (pDrop_pw hEE.2) (fun e1 he1 _ => pDrop_lt hEE.2 e1 he1)
      obtain ⟨t2, un2, k2, hun2, g2⟩ := nodeWC (xa := xa) (xt := xt) (un := un) (sch := sch) (uc := cnt (pDrop x.2.2.1 ob.2)) hns hKT.1 hKT.2 hN hx hm1.2.2.1 hC hm1.2.2.2.1 hA hm1.2.2.2.2 hV (fun hh h3 => by
        have : x.2.2.1 < 8 := hx.2.2.2.2.2.2.2.2 h3 (by
          unfold hE at hh
          unfold sHasEnd
          cases hf : x.2.2.2.1 with
          | true => exact Or.inl rfl
          | false => rw [hf, Bool.false_or] at hh; right; simpa using hh)
        omega) (by omega) g1 (by rw [List.length_append]; omega)
      rw [k2, Option.bind_some]
      dsimp only
      have hnew1 : (sSf xa (okC xt sch ns) (x :: r)).1 = ob.1 ++ pEnds x.2.2.1 ob.2 ++ (if x.1 = 1 then fl eT x.2.2.2.2.1 else []) ++ (if (decide (x.1 = 3) && keepB xa x.2.1) = true then wS (okC xt sch ns x.2.1) x else []) := by
        rw [hstep]
        unfold sStp
        dsimp only
        rw [hkt, hgn]
        congr 2
        by_cases c1 : x.1 = 1
        · have : isDr xa x = false := by unfold isDr; simp [c1]
          simp [c1, this]
        · simp [c1]
      have hnew2 : cnt (sSf xa (okC xt sch ns) (x :: r)).2 = cnt (pDrop x.2.2.1 ob.2) + (if (decide (x.1 = 3) && keepB xa x.2.1 && hE x.2.1 x.2.2.2.1) = true then 1 else 0) := by
        rw [hstep]
        unfold sStp
        dsimp only
        split
        · rw [show cnt (sEnt xa x r.length ob.2 :: pDrop x.2.2.1 ob.2) = cnt (pDrop x.2.2.1 ob.2) + (if (ktB xa x ob.2 && hE x.2.1 x.2.2.2.1) = true then 1 else 0) from rfl, hkt]
        · rename_i c3
          rw [decide_eq_false c3]
          simp
      have hUN2 : UN un2 (sSf xa (okC xt sch ns) (x :: r)).2 := by
        rw [hstep]
        unfold sStp
        dsimp only
        split
        · refine ⟨fun q => ?_, ?_⟩
          · have q : (ktB xa x ob.2 && hE x.2.1 x.2.2.2.1) = true := q
            rw [hkt] at q
            rw [hun2, if_pos q, pk_us]
            rfl
          · rw [hun2]
            split
            · exact UN.upd (Nat.le_refl _) (UN_drop hU)
            · exact UN_drop hU
        · rename_i c3
          rw [hun2, decide_eq_false c3]
          simp only [Bool.false_and, Bool.false_eq_true, if_false]
          exact UN_drop hU
      rw [← hnew1] at g2
      have hD1' : ∀ D' : Nat, (D' = if isDr xa x = true then x.2.2.1 else 9) → (∀ e ∈ (sSf xa (okC xt sch ns) (x :: r)).2, e.2.2.2.2 = decide (D' ≤ e.2.1)) ∧ (D' = 9 ∨ ∃ e ∈ (sSf xa (okC xt sch ns) (x :: r)).2, e.2.1 = D') := by
        intro D' hD'
        have hrest : ∀ e1 ∈ pDrop x.2.2.1 ob.2, e1.2.2.2.2 = decide (D' ≤ e1.2.1) := by
          intro e1 he1
          have := pDrop_lt hEE.2 e1 he1
          rw [hD1 e1 (pDrop_mem _ _ _ he1), decide_eq_false (by omega), decide_eq_false]
          rw [hD']
          split <;> omega
        rw [hstep]
        unfold sStp
        dsimp only
        by_cases c3 : x.1 = 3
        · rw [if_pos c3]
          refine ⟨fun e1 he1 => ?_, ?_⟩
          · rcases List.mem_cons.mp he1 with g | g
            · rw [g]
              show gnB xa x ob.2 = decide (D' ≤ x.2.2.1)
              rw [hgn, hD']
              cases isDr xa x with
              | true => simp
              | false => simp; omega
            · exact hrest e1 g
          · rw [hD']
            cases isDr xa x with
            | true => exact Or.inr ⟨_, List.mem_cons_self, rfl⟩
            | false => exact Or.inl rfl
        · rw [if_neg c3]
          refine ⟨hrest, ?_⟩
          have : isDr xa x = false := by unfold isDr; simp [c3]
          rw [hD', this]
          exact Or.inl rfl
      have hfin := fun D' h1 h2 => ih a' (x :: r) f t2 un2 D' e' ha' (by omega) g2 hUN2 h2 (hD1' D' h1).1 (hD1' D' h1).2
      rw [hnew2] at hfin
      simp only [b2_0]
      unfold f_X8_writeAll_L61 f_X8_writeAll_L62
      rw [nI_1]
      cases hdr : isDr xa x with
      | true =>
        rw [if_pos (by decide)]
        exact hfin x.2.2.1 (by rw [hdr]; rfl) (by omega)
      | false =>
        rw [if_neg (by decide)]
        exact hfin 9 (by rw [hdr]; rfl) (by omega)
theorem writeAllC {xa xt cd bg en ch al vb ve vr : RowF} {sch : Nat → Int64} {ns : Nat} {nd : List Nd} (hns : ns ≤ 4) (hT : KT cd bg en ch al vb ve vr nd) (hw : ∀ x ∈ nd, WN x) (hN : nd.length ≤ 200) (hC : chN nd ≤ 200) (hA : acN nd ≤ 100) (hV : vsN nd ≤ 200) (hM : 6 * stoM nd + 5 * acM nd + 8 * nd.length ≤ 100000) (u0 s0 o0 : Int32) (row un : RowF) : ∃ (t' : Ln) (un' : RowF), f_X8_writeAll u0 (nI ns) xa xt sch s0 o0 row un (nI nd.length) (nI (acN nd)) cd bg en (nI (chN nd)) ch al vb ve (nI (vsN nd)) vr = some (0, t'.1, t'.2.1, t'.2.2, un', b2 (decide ((sOut xa (okC xt sch ns) nd).length ≤ 200))) ∧ LC t' (sOut xa (okC xt sch ns) nd) := by
  obtain ⟨t1, un1, k1, g1, g2⟩ := allL17 (xa := xa) (xt := xt) (sch := sch) hns hT hw hN hC hA hV hM nd.length nd [] 1000 (0, 0, row) un 9 (by simp) rfl (by omega) ⟨rfl, rfl, fun i hi => by simp [sSf] at hi⟩ trivial (Nat.le_refl _) (fun e he => by simp [sSf] at he) (Or.inl rfl)
  have hEE := sSf_EE (xa := xa) (ok := okC xt sch ns) nd
  have hlen := sSf_len (xa := xa) (ok := okC xt sch ns) nd
  have hcnt8 : cnt (sSf xa (okC xt sch ns) nd).2 ≤ 8 := cnt_lt _ 8 hEE.2 (fun e1 he1 q => (EE_ends hw (hEE.1 e1 he1)).2 q)
  obtain ⟨t2, k2, h2⟩ := endsC (d := 0) (un := un1) hT hN (by decide) (fun e1 he1 => ⟨hEE.1 e1 he1, (EE_ends hw (hEE.1 e1 he1)).1⟩) hEE.2 g2 hcnt8 g1 (by omega)
  refine ⟨t2, un1, ?_, h2⟩
  have k1' : f_X8_writeAll_L17 (nI ns) xa xt sch (nI nd.length) (nI (acN nd)) cd bg en (nI (chN nd)) ch al vb ve (nI (vsN nd)) vr 1000 0 0 0 row un 9 0 = some (nI (cnt (sSf xa (okC xt sch ns) nd).2), t1.1, t1.2.1, t1.2.2, un1) := k1
  unfold f_X8_writeAll f_X1_empty
  rw [Option.bind_some, k1', Option.bind_some]
  dsimp only
  rw [show (0 : Int32) = nI 0 from rfl, k2, Option.bind_some, pDrop_0]
  dsimp only
  unfold f_X1_isOverflowed
  have ho : t2.2.1 = b2 (decide (200 < (sOut xa (okC xt sch ns) nd).length)) := h2.2.1
  rw [ho, pu_gz (by cases decide (200 < (sOut xa (okC xt sch ns) nd).length) <;> simp [b2]), Option.bind_some]
  by_cases c : 200 < (sOut xa (okC xt sch ns) nd).length
  · rw [decide_eq_true c, decide_eq_false (by omega)]
    rfl
  · rw [decide_eq_false c, decide_eq_true (by omega)]
    rfl
