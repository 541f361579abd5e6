/-! the reference takes an attribute -/
theorem takeL4 {t row : Nat → Int32} {n w : Nat} (h : TX t n row) (v1 v2 wh code : Int32) (ac ow an vf vt sd so : Nat → Int32) : ∀ (j p f : Nat), n - p = j → p ≤ n → j < f → f_X10_takeAttribute_L4 (nI n) (nI w) row v1 v2 f wh code ac ow an vf vt sd so (nI p) = some (wh, code, ac, ow, an, vf, vt, sd, so, nI (sFind (fun i => decide (t i = 32) || decide (t i = 47) || decide (t i = 62) || decide (t i = 61)) j p)) := by
  have hn := h.1
  intro j
  induction j with
  | zero =>
    intro p f hp hp4 hf
    obtain ⟨f, rfl⟩ : ∃ g, f = g + 1 := ⟨f - 1, by omega⟩
    rw [f_X10_takeAttribute_L4, if_pos (nI_le (by omega) (by omega))]
    rfl
  | succ j ih =>
    intro p f hp hp4 hf
    obtain ⟨f, rfl⟩ : ∃ g, f = g + 1 := ⟨f - 1, by omega⟩
    rw [f_X10_takeAttribute_L4, if_neg (nI_ge (by omega) (by omega)), nI_clamp (by omega), ← h.lt (show p < n by omega), nI_1, ih (p + 1) f (by omega) (by omega) (by omega)]
    rw [show sFind (fun i => decide (t i = 32) || decide (t i = 47) || decide (t i = 62) || decide (t i = 61)) (j + 1) p = if (decide (t p = 32) || decide (t p = 47) || decide (t p = 62) || decide (t p = 61)) = true then p else sFind (fun i => decide (t i = 32) || decide (t i = 47) || decide (t i = 62) || decide (t i = 61)) j (p + 1) from rfl]
    generalize sFind (fun i => decide (t i = 32) || decide (t i = 47) || decide (t i = 62) || decide (t i = 61)) j (p + 1) = z
    rw [pu_gi (by omega) (by decide), pu_gi (by omega) (by decide), pu_gi (by omega) (by decide), pu_gi (by omega) (by decide)]
    by_cases c1 : t p = 32
    · simp [c1]
    · by_cases c2 : t p = 47
      · simp [c2]
      · by_cases c3 : t p = 62
        · simp [c3]
        · by_cases c4 : t p = 61 <;> simp [c1, c2, c3, c4]
theorem sBl_step {t row : Nat → Int32} {n p : Nat} (h : TX t n row) : sBl t n p = if t p = 32 then sBl t n (p + 1) else p := by
  unfold sBl
  by_cases hp : p < n
  · rw [show n - p = (n - (p + 1)) + 1 by omega]
    rw [show sFind (fun i => !decide (t i = 32)) (n - (p + 1) + 1) p = if (!decide (t p = 32)) = true then p else sFind (fun i => !decide (t i = 32)) (n - (p + 1)) (p + 1) from rfl]
    by_cases c : t p = 32 <;> simp [c]
  · rw [if_neg (by rw [h.ge (by omega)]; decide), show n - p = 0 by omega]
    rfl
theorem takeL102 {t row : Nat → Int32} {n w : Nat} (h : TX t n row) (v1 v2 wh code v3 v4 : Int32) (ac ow an vf vt sd so : Nat → Int32) : ∀ (j p f : Nat), n - p = j → p ≤ n → j < f → f_X10_takeAttribute_L102 (nI n) (nI w) row v1 v2 f wh code ac ow an vf vt sd so v3 v4 (nI p) = some (wh, code, ac, ow, an, vf, vt, sd, so, v3, v4, nI (sBl t n p)) := by
  have hn := h.1
  intro j
  induction j with
  | zero =>
    intro p f hp hp4 hf
    obtain ⟨f, rfl⟩ : ∃ g, f = g + 1 := ⟨f - 1, by omega⟩
    rw [f_X10_takeAttribute_L102, atR h (by omega), Option.bind_some, sBl_step h, if_neg (by rw [h.ge (by omega)]; decide), if_neg (by rw [h.ge (by omega)]; decide)]
  | succ j ih =>
    intro p f hp hp4 hf
    obtain ⟨f, rfl⟩ : ∃ g, f = g + 1 := ⟨f - 1, by omega⟩
    rw [f_X10_takeAttribute_L102, atR h (by omega), Option.bind_some, nI_1, ih (p + 1) f (by omega) (by omega) (by omega), sBl_step (p := p) h]
    split <;> rfl
theorem takeL139 {t row : Nat → Int32} {n w : Nat} (h : TX t n row) (v1 v2 wh code v4 : Int32) (ac ow an vf vt sd so : Nat → Int32) : ∀ (j p f : Nat), n - p = j → p ≤ n → j < f → f_X10_takeAttribute_L139 (nI n) (nI w) row v1 v2 f wh code ac ow an vf vt sd so v4 (nI p) = some (wh, code, ac, ow, an, vf, vt, sd, so, v4, nI (sBl t n p)) := by
  have hn := h.1
  intro j
  induction j with
  | zero =>
    intro p f hp hp4 hf
    obtain ⟨f, rfl⟩ : ∃ g, f = g + 1 := ⟨f - 1, by omega⟩
    rw [f_X10_takeAttribute_L139, atR h (by omega), Option.bind_some, sBl_step h, if_neg (by rw [h.ge (by omega)]; decide), if_neg (by rw [h.ge (by omega)]; decide)]
  | succ j ih =>
    intro p f hp hp4 hf
    obtain ⟨f, rfl⟩ : ∃ g, f = g + 1 := ⟨f - 1, by omega⟩
    rw [f_X10_takeAttribute_L139, atR h (by omega), Option.bind_some, nI_1, ih (p + 1) f (by omega) (by omega) (by omega), sBl_step (p := p) h]
    split <;> rfl
theorem takeL205 {t row : Nat → Int32} {n w : Nat} (h : TX t n row) (v1 v2 wh code v4 v6 q : Int32) (b : Bool) (ac ow an vf vt sd so : Nat → Int32) : ∀ (j p f : Nat), n - p = j → p ≤ n → j < f → f_X10_takeAttribute_L205 (nI n) (nI w) row v1 v2 f wh code ac ow an vf vt sd so v4 v6 (nI p) q (b2 b) = some (wh, code, ac, ow, an, vf, vt, sd, so, v4, v6, nI (sFind (fun i => if b = true then decide (t i = q) else decide (t i = 32) || decide (t i = 62)) j p), b2 b) := by
  have hn := h.1
  intro j
  induction j with
  | zero =>
    intro p f hp hp4 hf
    obtain ⟨f, rfl⟩ : ∃ g, f = g + 1 := ⟨f - 1, by omega⟩
    rw [f_X10_takeAttribute_L205, if_pos (nI_le (by omega) (by omega))]
    rfl
  | succ j ih =>
    intro p f hp hp4 hf
    obtain ⟨f, rfl⟩ : ∃ g, f = g + 1 := ⟨f - 1, by omega⟩
    rw [f_X10_takeAttribute_L205, if_neg (nI_ge (by omega) (by omega)), nI_clamp (by omega), ← h.lt (show p < n by omega)]
    unfold f_X10_takeAttribute_L258
    rw [nI_1, ih (p + 1) f (by omega) (by omega) (by omega)]
    rw [show sFind (fun i => if b = true then decide (t i = q) else decide (t i = 32) || decide (t i = 62)) (j + 1) p = if (if b = true then decide (t p = q) else decide (t p = 32) || decide (t p = 62)) = true then p else sFind (fun i => if b = true then decide (t i = q) else decide (t i = 32) || decide (t i = 62)) j (p + 1) from rfl]
    generalize sFind (fun i => if b = true then decide (t i = q) else decide (t i = 32) || decide (t i = 62)) j (p + 1) = z
    rw [pu_gi (by omega) (by decide), pu_gi (by omega) (by decide), pu_gi (by omega) (by decide)]
    simp only [b2_0]
    cases b with
    | false =>
      by_cases c1 : t p = 32
      · simp [c1]
      · by_cases c2 : t p = 62 <;> simp [c1, c2]
    | true =>
      by_cases c1 : t p = q <;> simp [c1]
/-- what takeAttribute answers -/
theorem takeR {t row : Nat → Int32} {n w p : Nat} {nd : List Nd} {st : Stk} {at' : List At} {R : RW} (ht : TX t n row) (hw : w < 2) (hp : p < n) (h : RJ w nd st at' R) (h1 : acM nd + at'.length < 128) (h2 : stoM nd + vLen at' ≤ p) (hq : ∀ q ∈ at', q.1 < 26) (code : Int32) : ∃ (code' : Int32) (R' : RW) (wh : Bool) (q : Nat), f_X10_takeAttribute (nI n) (nI w) 1 code row R.ac R.ow R.an R.vf R.vt R.sd R.so (nI p) (nI (acM nd)) = some (b2 wh, code', R'.ac, R'.ow, R'.an, R'.vf, R'.vt, R'.sd, R'.so, nI q) ∧ R'.ct = R.ct ∧ R'.kd = R.kd ∧ R'.le = R.le ∧ R'.pr = R.pr ∧ R'.dp = R.dp ∧ R'.fo = R.fo ∧ R'.fr = R.fr ∧ R'.to = R.to ∧ R'.op = R.op ∧ RJ w nd st (if wh = true then sPutV at' (sAl t n p) (sVal t (sAt t n p).1 (sAt t n p).2.1) else at') R' ∧ FM w R R' ∧ ((wh = true ∧ p < q ∧ q ≤ n + 1 ∧ q ≤ (sAt t n p).2.2 ∧ (∀ i, q ≤ i → i < (sAt t n p).2.2 → t i = 32) ∧ (sAt t n p).2.1 - (sAt t n p).1 + p ≤ q) ∨ (wh = false ∧ n ≤ (sAt t n p).2.2)) := by
  have hn := ht.1
  have k1 := sAe_le (t := t) hp
  have k2 := sBl_le (t := t) (n := n) (p := sAe t n p) k1.2
  have ha : ∀ l, sAl t n p = some l → l < 26 := fun l hl => sAl_lt ht hp hl
  have h97 : ∃ (code' : Int32) (R' : RW) (wh : Bool) (q : Nat), f_X10_takeAttribute_L97 (nI n) (nI w) row (nI p) (nI (acM nd)) 1 code R.ac R.ow R.an R.vf R.vt R.sd R.so (nI (sAe t n p)) (oA (sAl t n p)) = some (b2 wh, code', R'.ac, R'.ow, R'.an, R'.vf, R'.vt, R'.sd, R'.so, nI q) ∧ R'.ct = R.ct ∧ R'.kd = R.kd ∧ R'.le = R.le ∧ R'.pr = R.pr ∧ R'.dp = R.dp ∧ R'.fo = R.fo ∧ R'.fr = R.fr ∧ R'.to = R.to ∧ R'.op = R.op ∧ RJ w nd st (if wh = true then sPutV at' (sAl t n p) (sVal t (sAt t n p).1 (sAt t n p).2.1) else at') R' ∧ FM w R R' ∧ ((wh = true ∧ p < q ∧ q ≤ n + 1 ∧ q ≤ (sAt t n p).2.2 ∧ (∀ i, q ≤ i → i < (sAt t n p).2.2 → t i = 32) ∧ (sAt t n p).2.1 - (sAt t n p).1 + p ≤ q) ∨ (wh = false ∧ n ≤ (sAt t n p).2.2)) := by
    unfold f_X10_takeAttribute_L97
    rw [takeL102 ht _ _ _ _ _ _ _ _ _ _ _ _ _ (n - sAe t n p) (sAe t n p) 1000 rfl k1.2 (by omega), Option.bind_some]
    dsimp only
    rw [atR ht (by omega), Option.bind_some]
    unfold sAt
    dsimp only
    by_cases c : t (sBl t n (sAe t n p)) = 61
    · have hr := t_lt ht c (by decide)
      simp only [if_pos c]
      generalize sBl t n (sAe t n p) = r at *
      have k3 := sBl_le (t := t) (n := n) (p := r + 1) (by omega)
      have k4 := sVb_le ht hr
      have k5 := sVe_le ht hr
      rw [nI_1, takeL139 ht _ _ _ _ _ _ _ _ _ _ _ _ (n - (r + 1)) (r + 1) 1000 rfl (by omega) (by omega), Option.bind_some]
      dsimp only
      rw [atR ht (by omega), Option.bind_some]
      obtain ⟨code', R', g1, g2⟩ := L297R (a := sAl t n p) (b := sVb t n r) (e := sVe t n r) ht hw k5.1 k5.2 h h1 (by omega) ha hq (decide (sVe t n r < n)) code (nI p) (nI (sVn t n r))
      have h199 : ∀ z : Int32, z = nI (sVb t n r) → f_X10_takeAttribute_L199 (nI n) (nI w) row (nI p) (nI (acM nd)) 1 code R.ac R.ow R.an R.vf R.vt R.sd R.so (oA (sAl t n p)) (t (sBl t n (r + 1))) (b2 (sQ (t (sBl t n (r + 1))))) z = some (b2 (decide (sVe t n r < n)), code', R'.ac, R'.ow, R'.an, R'.vf, R'.vt, R'.sd, R'.so, nI (sVn t n r)) := by
        intro z hz
        subst hz
        unfold f_X10_takeAttribute_L199
        rw [takeL205 ht _ _ _ _ _ _ _ _ _ _ _ _ _ _ _ (n - sVb t n r) (sVb t n r) 1000 rfl k4.2 (by omega), Option.bind_some]
        dsimp only
        rw [show sFind (fun i => if sQ (t (sBl t n (r + 1))) = true then decide (t i = t (sBl t n (r + 1))) else decide (t i = 32) || decide (t i = 62)) (n - sVb t n r) (sVb t n r) = sVe t n r from rfl, nI_1]
        have h278 : f_X10_takeAttribute_L278 (nI n) (nI w) row (nI p) (nI (acM nd)) 1 code R.ac R.ow R.an R.vf R.vt R.sd R.so (oA (sAl t n p)) (nI (sVb t n r)) (nI (sVe t n r)) (nI (sVn t n r)) = some (b2 (decide (sVe t n r < n)), code', R'.ac, R'.ow, R'.an, R'.vf, R'.vt, R'.sd, R'.so, nI (sVn t n r)) := by
          unfold f_X10_takeAttribute_L278 f_X10_takeAttribute_L294
          rw [pu_gz0, pu_gz1]
          by_cases cn : sVe t n r < n
          · rw [if_neg (nI_ge cn (by omega))]
            have : b2 (decide (sVe t n r < n)) = 1 := by simp [cn, b2]
            rw [this] at g1 ⊢
            exact g1
          · rw [if_pos (nI_le (by omega) (by omega))]
            have : b2 (decide (sVe t n r < n)) = 0 := by simp [cn, b2]
            rw [this] at g1 ⊢
            exact g1
        simp only [b2_0]
        have hvn : nI (sVn t n r) = if sQ (t (sBl t n (r + 1))) = true then nI (sVe t n r + 1) else nI (sVe t n r) := by unfold sVn; split <;> rfl
        cases hs : sQ (t (sBl t n (r + 1))) with
        | false =>
          rw [if_pos rfl]
          rw [hs, if_neg (by decide)] at hvn
          rw [hvn] at h278 ⊢
          exact h278
        | true =>
          rw [if_neg (by decide)]
          rw [hs, if_pos rfl] at hvn
          rw [hvn] at h278 ⊢
          exact h278
      refine ⟨code', R', decide (sVe t n r < n), sVn t n r, ?_, ?_⟩
      · unfold f_X10_takeAttribute_L178 f_X10_takeAttribute_L183
        by_cases q1 : t (sBl t n (r + 1)) = 34
        · have hs : sQ (t (sBl t n (r + 1))) = true := by unfold sQ; simp [q1]
          have hb : sVb t n r = sBl t n (r + 1) + 1 := by unfold sVb; rw [if_pos hs]
          rw [if_pos q1, if_neg (by decide), nI_1, ← hb]
          rw [hs] at h199
          exact h199 _ rfl
        · rw [if_neg q1]
          by_cases q2 : t (sBl t n (r + 1)) = 39
          · have hs : sQ (t (sBl t n (r + 1))) = true := by unfold sQ; simp [q2]
            have hb : sVb t n r = sBl t n (r + 1) + 1 := by unfold sVb; rw [if_pos hs]
            rw [if_pos q2, if_neg (by decide), nI_1, ← hb]
            rw [hs] at h199
            exact h199 _ rfl
          · have hs : sQ (t (sBl t n (r + 1))) = false := by unfold sQ; simp [q1, q2]
            have hb : sVb t n r = sBl t n (r + 1) := by unfold sVb; rw [if_neg (by rw [hs]; decide)]
            rw [if_neg q2, if_pos rfl]
            rw [hs] at h199
            exact h199 _ (by rw [hb])
      · have hvn : sVe t n r ≤ sVn t n r ∧ sVn t n r ≤ sVe t n r + 1 := by unfold sVn; split <;> omega
        refine ⟨g2.1, g2.2.1, g2.2.2.1, g2.2.2.2.1, g2.2.2.2.2.1, g2.2.2.2.2.2.1, g2.2.2.2.2.2.2.1, g2.2.2.2.2.2.2.2.1, g2.2.2.2.2.2.2.2.2.1, g2.2.2.2.2.2.2.2.2.2.1, g2.2.2.2.2.2.2.2.2.2.2, ?_⟩
        by_cases cn : sVe t n r < n
        · refine Or.inl ⟨by simp [cn], by omega, by omega, Nat.le_refl _, fun i a b => by omega, by omega⟩
        · refine Or.inr ⟨by simp [cn], by omega⟩
    · simp only [if_neg c]
      obtain ⟨code', R', g1, g2⟩ := L297R (a := sAl t n p) (b := 0) (e := 0) ht hw (Nat.le_refl _) (Nat.zero_le _) h h1 (by omega) ha hq true code (nI p) (nI (sAe t n p))
      refine ⟨code', R', true, sAe t n p, g1, g2.1, g2.2.1, g2.2.2.1, g2.2.2.2.1, g2.2.2.2.2.1, g2.2.2.2.2.2.1, g2.2.2.2.2.2.2.1, g2.2.2.2.2.2.2.2.1, g2.2.2.2.2.2.2.2.2.1, g2.2.2.2.2.2.2.2.2.2.1, g2.2.2.2.2.2.2.2.2.2.2, Or.inl ⟨rfl, by omega, by omega, k2.1, fun i a b => ?_, by show 0 - 0 + p ≤ sAe t n p; omega⟩⟩
      have := sFind_no (fun i => !decide (t i = 32)) (n - sAe t n p) (sAe t n p) i a b
      simpa using this
  obtain ⟨code', R', wh, q, g1, g2⟩ := h97
  refine ⟨code', R', wh, q, ?_, g2⟩
  unfold f_X10_takeAttribute
  rw [nI_1, takeL4 ht _ _ _ _ _ _ _ _ _ _ _ (n - (p + 1)) (p + 1) 1000 rfl (by omega) (by omega), Option.bind_some]
  dsimp only
  rw [show sFind (fun i => decide (t i = 32) || decide (t i = 47) || decide (t i = 62) || decide (t i = 61)) (n - (p + 1)) (p + 1) = sAe t n p from rfl, pk_sub (by omega), show (1 : Int32) = nI 1 from rfl, nI_clamp (show p < 2 ^ 31 by omega), ← ht.lt hp, sLetR, Option.bind_some, pu_gi (show p < 200 by omega) (by decide), pu_gi (show p < 200 by omega) (by decide)]
  have ee : (nI (sAe t n p - p) = nI 1) = (sAe t n p = p + 1) := by
    rw [pu_e (by omega) (by decide)]
    apply propext
    omega
  simp only [ee]
  unfold f_X10_takeAttribute_L96
  unfold sAl at g1
  by_cases e : sAe t n p = p + 1
  · rw [if_pos e]
    by_cases hl : sLet (t p) = true
    · rw [if_pos ⟨e, hl⟩] at g1
      rw [if_pos hl, if_neg (by decide)]
      obtain ⟨k, h3, h4, hk⟩ := ht.ch hp
      have hs : ∀ k, k < 127 → sLet (nI k) = true → (f_X10_small (nI k)).bind (fun q => some (q - 97)) = some (nI (sLn (nI k))) := by decide +kernel
      have hs2 := hs k (by omega) (by rw [← hk]; exact hl)
      rw [← hk] at hs2
      cases hsm : f_X10_small (t p) with
      | none => rw [hsm] at hs2; cases hs2
      | some q87 =>
        rw [hsm, Option.bind_some] at hs2
        rw [Option.bind_some, Option.some.inj hs2]
        exact g1
    · rw [if_neg (fun q => hl q.2)] at g1
      rw [if_neg hl, if_pos rfl]
      exact g1
  · rw [if_neg (fun q => e q.1)] at g1
    rw [if_neg e]
    exact g1
