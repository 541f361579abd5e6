/-! the class reads a text, a raw text, a comment -/
theorem markC {t row : Nat → Int32} {n p : Nat} (h : TX t n row) (hp : p < 2 ^ 29) : f_X4_isMarkup (nI n) row (nI p) = some (b2 (sMark t p)) := by
  unfold f_X4_isMarkup sMark
  rw [nI_1, atC h (by omega), Option.bind_some, atC h (by omega), Option.bind_some, sLetC, Option.bind_some]
  by_cases c0 : t p = 60
  · by_cases c1 : t (p + 1) = 33
    · simp [c0, c1, b2]
    · by_cases c2 : t (p + 1) = 63
      · simp [c0, c2, b2]
      · by_cases c3 : t (p + 1) = 47
        · simp [c0, c3, b2]
        · cases hl : sLet (t (p + 1)) <;> simp [c0, c1, c2, c3, b2]
  · simp [c0, b2]
theorem isTagC {t row : Nat → Int32} {n p : Nat} (h : TX t n row) (hp : p < 2 ^ 29) : f_X4_isTag (nI n) row (nI p) = some (b2 (sIsTag t p)) := by
  unfold f_X4_isTag sIsTag
  rw [nI_1, show nI p + 2 = nI (p + 2) from nI_add p 2, atC h (by omega), Option.bind_some, sLetC, Option.bind_some, atC h (by omega), Option.bind_some, sLetC, Option.bind_some]
  cases hl : sLet (t (p + 1)) with
  | true => simp [b2]
  | false =>
    by_cases c3 : t (p + 1) = 47
    · cases hl2 : sLet (t (p + 2)) <;> simp [c3, b2]
    · simp [c3, b2]
theorem rawEndC {t row : Nat → Int32} {n p : Nat} (h : TX t n row) (hp : p < 2 ^ 28) : f_X4_isRawEnd (nI n) row (nI p) = some (b2 (sRawEnd t p)) := by
  have h0 := hasC (p := p) (i := 0) h (by omega) (by decide)
  have h1 := hasC (p := p) (i := 1) h (by omega) (by decide)
  rw [show ms_byt.getD 0 [] = [60, 47, 115] from rfl] at h0
  rw [show ms_byt.getD 1 [] = [60, 47, 83] from rfl] at h1
  unfold f_X4_isRawEnd f_X4_isRawEnd_L28 sRawEnd
  rw [h0, h1, show nI p + 3 = nI (p + 3) from nI_add p 3, atC h (by omega)]
  simp only [Option.bind_some, sHas, Bool.and_true, Nat.add_assoc]
  by_cases c0 : t p = 60
  · by_cases c1 : t (p + 1) = 47
    · by_cases c2 : t (p + 2) = 115
      · by_cases d1 : t (p + 3) = 32
        · simp [c0, c1, c2, d1, b2]
        · by_cases d2 : t (p + 3) = 47
          · simp [c0, c1, c2, d2, b2]
          · by_cases d3 : t (p + 3) = 62
            · simp [c0, c1, c2, d3, b2]
            · by_cases d4 : t (p + 3) = 0
              · simp [c0, c1, c2, d4, b2]
              · simp [c0, c1, c2, d1, d2, d3, d4, b2]
      · by_cases c3 : t (p + 2) = 83
        · by_cases d1 : t (p + 3) = 32
          · simp [c0, c1, c3, d1, b2]
          · by_cases d2 : t (p + 3) = 47
            · simp [c0, c1, c3, d2, b2]
            · by_cases d3 : t (p + 3) = 62
              · simp [c0, c1, c3, d3, b2]
              · by_cases d4 : t (p + 3) = 0
                · simp [c0, c1, c3, d4, b2]
                · simp [c0, c1, c3, d1, d2, d3, d4, b2]
        · simp [c0, c1, c2, c3, b2]
    · simp [c0, c1, b2]
  · simp [c0, b2]
theorem rawL5 {t row : Nat → Int32} {n : Nat} (h : TX t n row) (oc rd tc s0 o0 v : Int32) (cd bg en ch : Nat → Int32) : ∀ (j p f : Nat), n - p = j → p ≤ 400 → j < f → f_X4_readRaw_L5 (nI n) row oc f (nI p) rd tc cd bg en s0 o0 ch v = some (nI (sFind (sRawEnd t) j p), rd, tc, cd, bg, en, s0, o0, ch, v) := by
  have hn := h.1
  intro j
  induction j with
  | zero =>
    intro p f hp hp4 hf
    obtain ⟨f, rfl⟩ : ∃ g, f = g + 1 := ⟨f - 1, by omega⟩
    rw [f_X4_readRaw_L5]
    simp only [f_X1_size, Option.bind_some]
    rw [if_pos (nI_le (by omega) (by omega))]
    rfl
  | succ j ih =>
    intro p f hp hp4 hf
    obtain ⟨f, rfl⟩ : ∃ g, f = g + 1 := ⟨f - 1, by omega⟩
    rw [f_X4_readRaw_L5]
    simp only [f_X1_size, Option.bind_some]
    rw [if_neg (nI_ge (by omega) (by omega)), rawEndC h (by omega), Option.bind_some]
    simp only [b2_0]
    unfold sFind
    cases hl : sRawEnd t p with
    | false => rw [if_pos rfl, nI_1, ih (p + 1) f (by omega) (by omega) (by omega), if_neg (by decide)]
    | true => rw [if_neg (by decide), if_pos rfl]
theorem textL15 {t row : Nat → Int32} {n : Nat} (h : TX t n row) (oc tc s0 o0 v : Int32) (cd bg en ch : Nat → Int32) : ∀ (j p f : Nat), n - p = j → p ≤ 400 → j < f → f_X4_readText_L15 (nI n) row oc f (nI p) tc cd bg en s0 o0 ch v = some (nI (sFind (sMark t) j p), tc, cd, bg, en, s0, o0, ch, v) := by
  have hn := h.1
  intro j
  induction j with
  | zero =>
    intro p f hp hp4 hf
    obtain ⟨f, rfl⟩ : ∃ g, f = g + 1 := ⟨f - 1, by omega⟩
    rw [f_X4_readText_L15]
    simp only [f_X1_size, Option.bind_some]
    rw [if_pos (nI_le (by omega) (by omega))]
    rfl
  | succ j ih =>
    intro p f hp hp4 hf
    obtain ⟨f, rfl⟩ : ∃ g, f = g + 1 := ⟨f - 1, by omega⟩
    rw [f_X4_readText_L15]
    simp only [f_X1_size, Option.bind_some]
    rw [if_neg (nI_ge (by omega) (by omega)), markC h (by omega), Option.bind_some]
    simp only [b2_0]
    unfold sFind
    cases hl : sMark t p with
    | false => rw [if_pos rfl, nI_1, ih (p + 1) f (by omega) (by omega) (by omega), if_neg (by decide)]
    | true => rw [if_neg (by decide), if_pos rfl]
theorem comL48 {t row : Nat → Int32} {n w : Nat} (h : TX t n row) (hw : w < 14) (oc tc s0 o0 at0 v : Int32) (cd bg en ch : Nat → Int32) : ∀ (j p f : Nat), n - p = j → p ≤ 400 → j < f → f_X4_readComment_L48 (nI n) row oc f at0 tc cd bg en s0 o0 ch w v (nI p) = some (at0, tc, cd, bg, en, s0, o0, ch, w, v, nI (sFind (fun i => sHas t i (ms_byt.getD w [])) j p)) := by
  have hn := h.1
  intro j
  induction j with
  | zero =>
    intro p f hp hp4 hf
    obtain ⟨f, rfl⟩ : ∃ g, f = g + 1 := ⟨f - 1, by omega⟩
    rw [f_X4_readComment_L48]
    simp only [f_X1_size, Option.bind_some]
    rw [if_pos (nI_le (by omega) (by omega))]
    rfl
  | succ j ih =>
    intro p f hp hp4 hf
    obtain ⟨f, rfl⟩ : ∃ g, f = g + 1 := ⟨f - 1, by omega⟩
    rw [f_X4_readComment_L48]
    simp only [f_X1_size, Option.bind_some]
    rw [if_neg (nI_ge (by omega) (by omega)), hasC h (by omega) hw, Option.bind_some]
    unfold ms_gs
    rw [if_pos hw]
    unfold sFind
    cases hl : sHas t p (ms_byt.getD w []) with
    | false => rw [if_pos (by rfl), nI_1, ih (p + 1) f (by omega) (by omega) (by omega), if_neg (by decide)]
    | true => rw [if_neg (by decide), if_pos rfl]
theorem readRawC {t row : Nat → Int32} {n p : Nat} {cd bg en ch al vb ve vr : Nat → Int32} {nd : List Nd} {st : Stk} (ht : TX t n row) (h : KT cd bg en ch al vb ve vr nd) (hp : p < n) (h1 : nd.length ≤ p) (h8 : st.length ≤ 8) (hk : chN nd ≤ p) (rd : Int32) : ∃ cd' bg' en' ch' : Nat → Int32, f_X4_readRaw (nI p) rd (nI n) row (nI nd.length) cd bg en (nI (chN nd)) 0 ch (nI st.length) = some (nI (sTok t n (p, true, st, nd)).1, 0, nI (sTok t n (p, true, st, nd)).2.2.2.length, cd', bg', en', nI (chN (sTok t n (p, true, st, nd)).2.2.2), 0, ch') ∧ acN (sTok t n (p, true, st, nd)).2.2.2 = acN nd ∧ vsN (sTok t n (p, true, st, nd)).2.2.2 = vsN nd ∧ KT cd' bg' en' ch' al vb ve vr (sTok t n (p, true, st, nd)).2.2.2 := by
  have hn := ht.1
  have hf := sFind_le (sRawEnd t) (n - p) p
  rw [sTok_raw hp]
  unfold f_X4_readRaw
  rw [rawL5 ht _ _ _ _ _ _ _ _ _ _ (n - p) p 1000 rfl (by omega) (by omega), Option.bind_some]
  revert hf
  generalize sFind (sRawEnd t) (n - p) p = e
  intro hf
  dsimp only
  by_cases c : p < e
  · obtain ⟨cd', bg', en', ch', g1, g2, g3, g4⟩ := addRawC (p := p) (e := e) ht h (by omega) h8 (by omega) (by omega) (by omega)
    rw [if_neg (nI_ge c (by omega)), if_pos c]
    simp only [f_X0_depth, f_X2_size, Option.bind_some]
    rw [g1]
    exact ⟨cd', bg', en', ch', rfl, g2, g3, g4⟩
  · rw [if_pos (nI_le (by omega) (by omega)), if_neg c]
    exact ⟨cd, bg, en, ch, rfl, rfl, rfl, h⟩
theorem readTextC {t row : Nat → Int32} {n p : Nat} {cd bg en ch al vb ve vr : Nat → Int32} {nd : List Nd} {st : Stk} (ht : TX t n row) (h : KT cd bg en ch al vb ve vr nd) (hp : p < n) (hm : sMark t p = false) (h1 : nd.length ≤ p) (h8 : st.length ≤ 8) (hk : chN nd ≤ p) : ∃ (k e : Nat) (cd' bg' en' ch' : Nat → Int32) (nd' : List Nd), sIter t n k (p, false, st, nd) = (e, false, st, nd') ∧ p < e ∧ f_X4_readText (nI p) (nI n) row (nI nd.length) cd bg en (nI (chN nd)) 0 ch (nI st.length) = some (nI e, nI nd'.length, cd', bg', en', nI (chN nd'), 0, ch') ∧ acN nd' = acN nd ∧ vsN nd' = vsN nd ∧ KT cd' bg' en' ch' al vb ve vr nd' := by
  have hn := ht.1
  have hf := sFind_le (sMark t) (n - (p + 1)) (p + 1)
  have hE : sFind (sMark t) (n - (p + 1)) (p + 1) = n ∨ sMark t (sFind (sMark t) (n - (p + 1)) (p + 1)) = true := by
    by_cases c : sFind (sMark t) (n - (p + 1)) (p + 1) = n
    · exact Or.inl c
    · exact Or.inr (sFind_at (sMark t) (n - (p + 1)) (p + 1) (by omega))
  have hno : ∀ i, p ≤ i → i < sFind (sMark t) (n - (p + 1)) (p + 1) → sMark t i = false := by
    intro i a b
    by_cases e : i = p
    · subst e; exact hm
    · exact sFind_no (sMark t) (n - (p + 1)) (p + 1) i (by omega) b
  unfold f_X4_readText
  rw [nI_1, textL15 ht _ _ _ _ _ _ _ _ _ (n - (p + 1)) (p + 1) 1000 rfl (by omega) (by omega), Option.bind_some]
  revert hf hE hno
  generalize sFind (sMark t) (n - (p + 1)) (p + 1) = e
  intro hf hE hno
  obtain ⟨k, hrun⟩ := sRun (st := st) ht (show e ≤ n by omega) hE (e - p) p nd (Nat.le_refl _) (by omega) hno
  obtain ⟨cd', bg', en', ch', g1, g2, g3, g4⟩ := addTextC (p := p) (e := e) ht h (by omega) h8 (by omega) (by omega) (by omega)
  refine ⟨k, e, cd', bg', en', ch', sAdd (sVal t p e) st nd, hrun, by omega, ?_, g2, g3, g4⟩
  simp only [f_X0_depth, f_X2_size, Option.bind_some]
  rw [g1]
  rfl
theorem readComC {t row : Nat → Int32} {n p : Nat} {cd bg en ch al vb ve vr : Nat → Int32} {nd : List Nd} {st : Stk} (ht : TX t n row) (h : KT cd bg en ch al vb ve vr nd) (hp : p < n) (hm : sMark t p = true) (hg : sIsTag t p = false) (h1 : nd.length ≤ p) (h8 : st.length ≤ 8) (hk : chN nd ≤ p) : ∃ (pc : Nat) (cd' bg' en' ch' : Nat → Int32), f_X4_readComment (nI p) (nI n) row (nI nd.length) cd bg en (nI (chN nd)) 0 ch (nI st.length) = some (nI pc, nI (sTok t n (p, false, st, nd)).2.2.2.length, cd', bg', en', nI (chN (sTok t n (p, false, st, nd)).2.2.2), 0, ch') ∧ (pc = (sTok t n (p, false, st, nd)).1 ∨ (n ≤ (sTok t n (p, false, st, nd)).1 ∧ n ≤ pc)) ∧ pc ≤ 400 ∧ acN (sTok t n (p, false, st, nd)).2.2.2 = acN nd ∧ vsN (sTok t n (p, false, st, nd)).2.2.2 = vsN nd ∧ KT cd' bg' en' ch' al vb ve vr (sTok t n (p, false, st, nd)).2.2.2 := by
  have hn := ht.1
  have hm2 := sMark_lt ht hm
  have h60 := sMark_60 hm
  have h6 := hasC (p := p) (i := 6) ht (by omega) (by decide)
  rw [show ms_byt.getD 6 [] = [60, 33, 45, 45] from rfl] at h6
  have e6 : sHas t p [60, 33, 45, 45] = sLong t p := by
    simp only [sHas, sLong, h60, decide_true, Bool.true_and, Bool.and_true, Nat.add_assoc, Bool.and_assoc]
  rw [e6] at h6
  rw [sTok_com hp hm hg]
  unfold f_X4_readComment f_X4_readComment_L25 f_X4_readComment_L43
  rw [h6, Option.bind_some]
  have key : ∀ (b w e : Nat) (z : Int32), w < 14 → nI p + z = nI b → sFind (fun i => sHas t i (ms_byt.getD w [])) (n - b) b = e → b ≤ e → e ≤ n → p ≤ b → ∃ cd' bg' en' ch' : Nat → Int32, ((f_X4_readComment_L48 (nI n) row (nI st.length) 1000 (nI p) (nI nd.length) cd bg en (nI (chN nd)) 0 ch w (nI p + z) (nI p + z)).bind (fun w48 => (f_X0_depth (nI st.length)).bind (fun q87 => (f_X7_addComment w48.2.1 w48.2.2.1 w48.2.2.2.1 w48.2.2.2.2.1 w48.2.2.2.2.2.1 w48.2.2.2.2.2.2.1 w48.2.2.2.2.2.2.2.1 (nI n) row q87 w48.2.2.2.2.2.2.2.2.2.1 w48.2.2.2.2.2.2.2.2.2.2).bind (fun q97 => ms_gs w48.2.2.2.2.2.2.2.2.1 ((f_J0_length_8abf5 w48.2.2.2.2.2.2.2.2.1).bind (fun q104 => some (w48.2.2.2.2.2.2.2.2.2.2 + q104, q97.1, q97.2.1, q97.2.2.1, q97.2.2.2.1, q97.2.2.2.2.1, q97.2.2.2.2.2.1, q97.2.2.2.2.2.2))))))) = some (nI (e + ms_len.getD w 0), nI (nd.length + 1), cd', bg', en', nI (chN nd + (e - b)), 0, ch') ∧ KT cd' bg' en' ch' al vb ve vr (sCom (sSeg t b e) st nd) := by
    intro b w e z hw hz he hbe hen hpb
    obtain ⟨cd', bg', en', ch', g1, g2⟩ := addComC (p := b) (e := e) ht h (by omega) h8 hbe hen (by omega)
    refine ⟨cd', bg', en', ch', ?_, g2⟩
    rw [hz, comL48 ht hw _ _ _ _ _ _ _ _ _ _ (n - b) b 1000 rfl (by omega) (by omega), Option.bind_some, he]
    simp only [f_X0_depth, f_X2_size, Option.bind_some]
    rw [g1]
    simp only [Option.bind_some, f_J0_length_8abf5]
    unfold ms_gs
    rw [if_pos hw, nI_add]
  by_cases hl : sLong t p = true
  · rw [if_pos hl, if_pos hl]
    have hc := sCe1_le ht hl
    have hw7 : (fun i => sHas t i (ms_byt.getD 7 [])) = (fun i => decide (t i = 45) && decide (t (i + 1) = 45) && decide (t (i + 2) = 62)) := by
      funext i
      rw [show ms_byt.getD 7 [] = [45, 45, 62] from rfl]
      simp only [sHas, Bool.and_true, Nat.add_assoc, Bool.and_assoc]
    obtain ⟨cd', bg', en', ch', g1, g2⟩ := key (p + 4) 7 (sCe1 t n p) (nI 4) (by decide) (nI_add p 4) (by rw [hw7]; rfl) hc.1 hc.2.1 (by omega)
    refine ⟨sCe1 t n p + 3, cd', bg', en', ch', ?_, ?_, by omega, by simp [sCom, acN, sSort_nil], by simp [sCom, vsN, sSort_nil, vLen], g2⟩
    · rw [if_neg (by decide), if_neg (by decide)]
      simp only [sCom, chN, List.length_cons, sSeg_len]
      exact g1
    · by_cases q : sCe1 t n p < n
      · exact Or.inl (by simp only [q, if_true])
      · exact Or.inr ⟨by simp only [q, if_false]; exact Nat.le_refl _, by omega⟩
  · rw [if_neg hl, if_neg hl]
    have hc := sCe2_le (t := t) hm2
    have hw8 : (fun i => sHas t i (ms_byt.getD 8 [])) = (fun i => decide (t i = 62)) := by
      funext i
      rw [show ms_byt.getD 8 [] = [62] from rfl]
      simp only [sHas, Bool.and_true]
    obtain ⟨cd', bg', en', ch', g1, g2⟩ := key (p + 2) 8 (sCe2 t n p) 2 (by decide) (nI_add p 2) (by rw [hw8]; rfl) hc.1 hc.2 (by omega)
    refine ⟨sCe2 t n p + 1, cd', bg', en', ch', ?_, ?_, by omega, by simp [sCom, acN, sSort_nil], by simp [sCom, vsN, sSort_nil, vLen], g2⟩
    · rw [if_pos rfl, if_pos rfl]
      simp only [sCom, chN, List.length_cons, sSeg_len]
      exact g1
    · by_cases q : sCe2 t n p < n
      · exact Or.inl (by simp only [q, if_true])
      · exact Or.inr ⟨by simp only [q, if_false]; exact Nat.le_refl _, by omega⟩
