/-! the class reads a tag -/
theorem letNumC {c : Int32} (h : pu_ch c) : f_X9_letterNumber c = some (if sLet c = true then nI (sLn c) else -1) := by
  obtain ⟨k, h1, h2, rfl⟩ := h
  have : ∀ k, k < 127 → f_X9_letterNumber (nI k) = some (if sLet (nI k) = true then nI (sLn (nI k)) else -1) := by decide +kernel
  exact this k (by omega)
theorem nameL5 {t row : Nat → Int32} {n : Nat} (h : TX t n row) (v : Int32) : ∀ (j p f : Nat), n - p = j → p ≤ 400 → j < f → f_X4_readName_L5 (nI n) row f (nI p) v = some (nI (sFind (fun i => !sLet (t i)) j p), v) := by
  have hn := h.1
  intro j
  induction j with
  | zero =>
    intro p f hp hp4 hf
    obtain ⟨f, rfl⟩ : ∃ g, f = g + 1 := ⟨f - 1, by omega⟩
    rw [f_X4_readName_L5]
    simp only [f_X1_size, Option.bind_some]
    rw [if_pos (nI_le (by omega) (by omega))]
    rfl
  | succ j ih =>
    intro p f hp hp4 hf
    obtain ⟨f, rfl⟩ : ∃ g, f = g + 1 := ⟨f - 1, by omega⟩
    rw [f_X4_readName_L5]
    simp only [f_X1_size, Option.bind_some]
    rw [if_neg (nI_ge (by omega) (by omega)), atC h (by omega), Option.bind_some, sLetC, Option.bind_some]
    unfold sFind
    cases hl : sLet (t p) with
    | false => rfl
    | true =>
      rw [if_neg (show ¬ (if true = true then (1 : Int32) else 0) = 0 by decide), nI_1, ih (p + 1) f (by omega) (by omega) (by omega)]
      rfl
theorem nameEnd_le {t : Nat → Int32} {n p : Nat} (hp : p ≤ n) : p ≤ sNameEnd t n p ∧ sNameEnd t n p ≤ n := by
  have := sFind_le (fun i => !sLet (t i)) (n - p) p
  unfold sNameEnd
  omega
theorem readNameC {t row : Nat → Int32} {n p : Nat} (h : TX t n row) (hp : p < n) (hl : sLet (t p) = true) : f_X4_readName (nI p) (nI n) row = some (nI (sNameEnd t n p), nI (sName t n p)) := by
  have hn := h.1
  have hb := nameEnd_le (t := t) (show p ≤ n by omega)
  unfold f_X4_readName
  rw [nameL5 h (nI p) (n - p) p 1000 rfl (by omega) (by omega), Option.bind_some]
  show (if nI (sNameEnd t n p) - nI p = 1 then _ else _) = _
  rw [pk_sub hb.1, show (1 : Int32) = nI 1 from rfl, atC h (by omega), Option.bind_some, letNumC (h.ch hp), Option.bind_some, if_pos hl]
  simp (disch := omega) only [pu_e]
  unfold sName
  by_cases e : sNameEnd t n p = p + 1
  · rw [if_pos (by omega), if_pos e]; rfl
  · rw [if_neg (by omega), if_neg e]; rfl
theorem blL0 {t row : Nat → Int32} {n : Nat} (h : TX t n row) : ∀ (j p f : Nat), n - p = j → p ≤ 400 → j < f → f_X4_passBlanks_L0 (nI n) row f (nI p) = some (nI (sFind (fun i => !decide (t i = 32)) j p)) := by
  have hn := h.1
  intro j
  induction j with
  | zero =>
    intro p f hp hp4 hf
    obtain ⟨f, rfl⟩ : ∃ g, f = g + 1 := ⟨f - 1, by omega⟩
    rw [f_X4_passBlanks_L0]
    simp only [f_X1_size, Option.bind_some]
    rw [if_pos (nI_le (by omega) (by omega))]
    rfl
  | succ j ih =>
    intro p f hp hp4 hf
    obtain ⟨f, rfl⟩ : ∃ g, f = g + 1 := ⟨f - 1, by omega⟩
    rw [f_X4_passBlanks_L0]
    simp only [f_X1_size, Option.bind_some]
    rw [if_neg (nI_ge (by omega) (by omega)), atC h (by omega), Option.bind_some]
    unfold sFind
    by_cases hl : t p = 32
    · rw [if_pos hl, nI_1, ih (p + 1) f (by omega) (by omega) (by omega), if_neg (by simp [hl])]
    · rw [if_neg hl, if_pos (by simp [hl])]
theorem passC {t row : Nat → Int32} {n p : Nat} (h : TX t n row) (hp : p ≤ 400) : f_X4_passBlanks (nI p) (nI n) row = some (nI (sBl t n p)) := by
  have hn := h.1
  unfold f_X4_passBlanks
  rw [blL0 h (n - p) p 1000 rfl hp (by omega)]
  rfl
theorem aeC (c : Int32) : f_X4_isAttributeNameEnd c = some (b2 (decide (c = 32) || decide (c = 47) || decide (c = 62) || decide (c = 61))) := by
  unfold f_X4_isAttributeNameEnd
  by_cases h1 : c = 32
  · simp [h1, b2]
  · by_cases h2 : c = 47
    · simp [h2, b2]
    · by_cases h3 : c = 62
      · simp [h3, b2]
      · by_cases h4 : c = 61
        · simp [h4, b2]
        · simp [h1, h2, h3, h4, b2]
theorem atL15 {t row : Nat → Int32} {n : Nat} (h : TX t n row) (en had v : Int32) (bT eT : Nat → Int32) : ∀ (j p f : Nat), n - p = j → p ≤ 400 → j < f → f_X4_readAttribute_L15 (nI n) row en f (nI p) had bT eT v = some (nI (sFind (fun i => decide (t i = 32) || decide (t i = 47) || decide (t i = 62) || decide (t i = 61)) j p), had, bT, eT, v) := by
  have hn := h.1
  intro j
  induction j with
  | zero =>
    intro p f hp hp4 hf
    obtain ⟨f, rfl⟩ : ∃ g, f = g + 1 := ⟨f - 1, by omega⟩
    rw [f_X4_readAttribute_L15]
    simp only [f_X1_size, Option.bind_some]
    rw [if_pos (nI_le (by omega) (by omega))]
    rfl
  | succ j ih =>
    intro p f hp hp4 hf
    obtain ⟨f, rfl⟩ : ∃ g, f = g + 1 := ⟨f - 1, by omega⟩
    rw [f_X4_readAttribute_L15]
    simp only [f_X1_size, Option.bind_some]
    rw [if_neg (nI_ge (by omega) (by omega)), atC h (by omega), Option.bind_some, aeC, Option.bind_some]
    simp only [b2_0]
    unfold sFind
    cases hl : (decide (t p = 32) || decide (t p = 47) || decide (t p = 62) || decide (t p = 61)) with
    | false => rw [if_pos rfl, nI_1, ih (p + 1) f (by omega) (by omega) (by omega), if_neg (by decide)]
    | true => rw [if_neg (by decide), if_pos rfl]
theorem veC (c q : Int32) (b : Bool) : f_X4_isValueEnd c (b2 b) q = some (b2 (if b = true then decide (c = q) else decide (c = 32) || decide (c = 62))) := by
  unfold f_X4_isValueEnd
  cases b with
  | false =>
    rw [if_pos (show b2 false = 0 from rfl)]
    by_cases h1 : c = 32
    · simp [h1, b2]
    · by_cases h2 : c = 62
      · simp [h2, b2]
      · simp [h1, h2, b2]
  | true =>
    rw [if_neg (show ¬ b2 true = 0 by decide)]
    by_cases h1 : c = q
    · simp [h1, b2]
    · simp [h1, b2]
theorem vaL54 {t row : Nat → Int32} {n : Nat} (h : TX t n row) (en l had v q : Int32) (bT eT : Nat → Int32) (b : Bool) : ∀ (j p f : Nat), n - p = j → p ≤ 400 → j < f → f_X4_readValue_L54 (nI n) row en l f (nI p) had bT eT q (b2 b) v = some (nI (sFind (fun i => if b = true then decide (t i = q) else decide (t i = 32) || decide (t i = 62)) j p), had, bT, eT, b2 b, v) := by
  have hn := h.1
  intro j
  induction j with
  | zero =>
    intro p f hp hp4 hf
    obtain ⟨f, rfl⟩ : ∃ g, f = g + 1 := ⟨f - 1, by omega⟩
    rw [f_X4_readValue_L54]
    simp only [f_X1_size, Option.bind_some]
    rw [if_pos (nI_le (by omega) (by omega))]
    rfl
  | succ j ih =>
    intro p f hp hp4 hf
    obtain ⟨f, rfl⟩ : ∃ g, f = g + 1 := ⟨f - 1, by omega⟩
    rw [f_X4_readValue_L54]
    simp only [f_X1_size, Option.bind_some]
    rw [if_neg (nI_ge (by omega) (by omega)), atC h (by omega), Option.bind_some, veC, Option.bind_some]
    simp only [b2_0]
    unfold sFind
    cases hl : (if b = true then decide (t p = q) else decide (t p = 32) || decide (t p = 62)) with
    | false => rw [if_pos rfl, nI_1, ih (p + 1) f (by omega) (by omega) (by omega), if_neg (by decide)]
    | true => rw [if_neg (by decide), if_pos rfl]
/-! what a tag keeps -/
def sPutV (at' : List At) (a : Option Nat) (v : List Int32) : List At := match a with
  | none => at'
  | some l => if at'.any (fun q => q.1 == l) = true then at' else at' ++ [(l, v)]
theorem sVals_any (t : Nat → Int32) (acc : List (Nat × Nat × Nat)) (l : Nat) : (sVals t acc).any (fun q => q.1 == l) = acc.any (fun q => q.1 == l) := by
  unfold sVals
  rw [List.any_map]
  rfl
theorem sVals_put (t : Nat → Int32) (acc : List (Nat × Nat × Nat)) (a : Option Nat) (b e : Nat) : sVals t (sPutA acc a b e) = sPutV (sVals t acc) a (sVal t b e) := by
  unfold sPutA sPutV
  cases a with
  | none => rfl
  | some l =>
    simp only [sVals_any]
    split
    · rfl
    · simp [sVals]
def oA : Option Nat → Int32
  | none => -1
  | some l => nI l
theorem find_any {xs : List At} {l : Nat} : xs.any (fun q => q.1 == l) = (xs.find? (fun q => q.1 == l)).isSome := by
  rw [Bool.eq_iff_iff, List.find?_isSome, List.any_eq_true]
theorem bt_set {a i : Nat} (ha : a < 32) (hi : i < 32) (x : Int32) : bt (x ||| ((1 : Int32) <<< (nI a &&& 31))) i = (bt x i || decide (i = a)) := by
  rw [b_or, b_shl a ha _ hi]
  congr 1
  by_cases e : i = a
  · subst e
    rw [Nat.sub_self, b_one 0 (by decide)]
    simp
  · by_cases g : a ≤ i
    · rw [b_one (i - a) (by omega)]
      have : ¬ i - a = 0 := by omega
      simp [e, g]
      omega
    · simp [e, g]
theorem addAC {t : Nat → Int32} {n b e : Nat} {had : Int32} {bT eT : Nat → Int32} {at' : List At} {a : Option Nat} {v : List Int32} (hg : KG had bT eT t n at') (ha : ∀ l, a = some l → l < 26) (hbe : b ≤ e) (hen : e ≤ n) (hv : sVal t b e = v) : ∃ (had' : Int32) (bT' eT' : Nat → Int32), f_X6_addAttribute had 0 bT eT (oA a) (nI b) (nI e) = some (had', bT', eT') ∧ KG had' bT' eT' t n (sPutV at' a v) := by
  unfold f_X6_addAttribute
  rw [if_pos rfl]
  cases a with
  | none =>
    refine ⟨had, bT, eT, ?_, hg⟩
    rfl
  | some l =>
    have hl := ha l rfl
    show ∃ had' bT' eT', (f_X9_isLetterNumber (nI l)).bind _ = _ ∧ _
    rw [isLetNumC hl, Option.bind_some, if_neg (show ¬ (1 : Int32) = 0 by decide)]
    show ∃ had' bT' eT', (f_X6_hasAttribute had (nI l)).bind _ = _ ∧ _
    rw [tagHasC hl, Option.bind_some]
    simp only [b2_0]
    have hgl := hg l hl
    unfold sPutV
    simp only [find_any]
    cases hf : at'.find? (fun q => q.1 == l) with
    | some q =>
      rw [hf] at hgl
      have hb : bt had l = true := hgl.1
      rw [if_neg (by rw [hb]; decide)]
      exact ⟨had, bT, eT, rfl, hg⟩
    | none =>
      rw [hf] at hgl
      have hb : bt had l = false := hgl
      rw [if_pos hb]
      refine ⟨_, _, _, by show ms_gi (nI l) 26 (ms_gi (nI l) 26 _) = _; rw [pu_gi hl (by decide), pu_gi hl (by decide)], ?_⟩
      rw [if_neg (by simp)]
      intro i hi
      have hgi := hg i hi
      rw [List.find?_append]
      show match (at'.find? fun q => q.1 == i).or ([(l, v)].find? fun q => q.1 == i) with
        | none => bt (had ||| ((1 : Int32) <<< (nI l &&& 31))) i = false
        | some q => bt (had ||| ((1 : Int32) <<< (nI l &&& 31))) i = true ∧ ∃ b_1 e_1, upd bT (nI l).toNatClampNeg (nI b) i = nI b_1 ∧ upd eT (nI l).toNatClampNeg (nI e) i = nI e_1 ∧ b_1 ≤ e_1 ∧ e_1 ≤ n ∧ sVal t b_1 e_1 = q.2
      rw [bt_set (show l < 32 by omega) (show i < 32 by omega), nI_clamp (by omega)]
      by_cases e1 : i = l
      · subst e1
        rw [hf]
        simp only [Option.none_or, List.find?_cons, beq_self_eq_true, decide_true, Bool.or_true]
        exact ⟨trivial, b, e, pk_us, pk_us, hbe, hen, hv⟩
      · rw [pk_un e1, pk_un e1]
        have e2 : (l == i) = false := by simp; omega
        simp only [List.find?_cons, List.find?_nil, e2, Option.or_none, e1, decide_false, Bool.or_false]
        exact hgi
theorem addAE {b e : Int32} {had : Int32} {bT eT : Nat → Int32} {a : Int32} : f_X6_addAttribute had 1 bT eT a b e = some (had, bT, eT) := by
  unfold f_X6_addAttribute
  rw [if_neg (by decide)]
/-! places -/
theorem sAe_le {t : Nat → Int32} {n p : Nat} (hp : p < n) : p + 1 ≤ sAe t n p ∧ sAe t n p ≤ n := by
  have := sFind_le (fun i => decide (t i = 32) || decide (t i = 47) || decide (t i = 62) || decide (t i = 61)) (n - (p + 1)) (p + 1)
  unfold sAe
  omega
theorem sBl_le {t : Nat → Int32} {n p : Nat} (hp : p ≤ n) : p ≤ sBl t n p ∧ sBl t n p ≤ n := by
  have := sFind_le (fun i => !decide (t i = 32)) (n - p) p
  unfold sBl
  omega
theorem sQ_lt {t row : Nat → Int32} {n p : Nat} (h : TX t n row) (hq : sQ (t p) = true) : p < n := by
  by_cases c : p < n
  · exact c
  · rw [h.ge (by omega)] at hq
    exact absurd hq (by decide)
theorem sVb_le {t row : Nat → Int32} {n r : Nat} (h : TX t n row) (hr : r < n) : r + 1 ≤ sVb t n r ∧ sVb t n r ≤ n := by
  have h1 := sBl_le (t := t) (n := n) (p := r + 1) (by omega)
  unfold sVb
  split
  · rename_i hq
    have := sQ_lt h hq
    omega
  · omega
theorem sVe_le {t row : Nat → Int32} {n r : Nat} (h : TX t n row) (hr : r < n) : sVb t n r ≤ sVe t n r ∧ sVe t n r ≤ n := by
  have h1 := sVb_le h hr
  have := sFind_le (fun i => if sQ (t (sBl t n (r + 1))) = true then decide (t i = t (sBl t n (r + 1))) else decide (t i = 32) || decide (t i = 62)) (n - sVb t n r) (sVb t n r)
  unfold sVe
  omega
theorem t_lt {t row : Nat → Int32} {n p : Nat} {c : Int32} (h : TX t n row) (hc : t p = c) (h0 : ¬ c = 0) : p < n := by
  by_cases g : p < n
  · exact g
  · rw [h.ge (by omega)] at hc
    exact absurd hc.symm h0
theorem sAl_lt {t row : Nat → Int32} {n p l : Nat} (h : TX t n row) (hp : p < n) (ha : sAl t n p = some l) : l < 26 := by
  unfold sAl at ha
  split at ha
  · rename_i hc
    cases ha
    exact sLn_lt (h.ch hp) hc.2
  · cases ha
theorem sAt_le {t row : Nat → Int32} {n p : Nat} (h : TX t n row) (hp : p < n) : p + 1 ≤ (sAt t n p).2.2 ∧ (sAt t n p).2.2 ≤ n + 1 := by
  have h1 := sAe_le (t := t) hp
  have h2 := sBl_le (t := t) (n := n) (p := sAe t n p) h1.2
  unfold sAt
  dsimp only
  split
  · rename_i hc
    have hr := t_lt h hc (by decide)
    have h3 := sVb_le h hr
    have h4 := sVe_le h hr
    show _ ≤ sVn t n _ ∧ sVn t n _ ≤ _
    unfold sVn
    split <;> omega
  · show _ ≤ sBl t n _ ∧ sBl t n _ ≤ _
    omega
theorem addBoth {t : Nat → Int32} {n b e : Nat} {had : Int32} {bT eT : Nat → Int32} (at' : List At) (en : Bool) {a : Option Nat} {v : List Int32} (ha : ∀ l, a = some l → l < 26) (hbe : b ≤ e) (hen : e ≤ n) (hv : sVal t b e = v) (hg : en = false → KG had bT eT t n at') : ∃ (had' : Int32) (bT' eT' : Nat → Int32), f_X6_addAttribute had (b2 en) bT eT (oA a) (nI b) (nI e) = some (had', bT', eT') ∧ (en = false → KG had' bT' eT' t n (sPutV at' a v)) := by
  cases en with
  | true => exact ⟨had, bT, eT, addAE, fun q => absurd q (by decide)⟩
  | false =>
    obtain ⟨had', bT', eT', h1, h2⟩ := addAC (hg rfl) ha hbe hen hv
    exact ⟨had', bT', eT', h1, fun _ => h2⟩
theorem readValC {t row : Nat → Int32} {n r : Nat} {had : Int32} {bT eT : Nat → Int32} {at' : List At} {en : Bool} {a : Option Nat} (h : TX t n row) (hr : r < n) (ha : ∀ l, a = some l → l < 26) (hg : en = false → KG had bT eT t n at') : ∃ (had' : Int32) (bT' eT' : Nat → Int32), f_X4_readValue (nI (sBl t n (r + 1))) (nI n) row had (b2 en) bT eT (oA a) = some (nI (sVn t n r), had', bT', eT') ∧ (en = false → KG had' bT' eT' t n (sPutV at' a (sVal t (sVb t n r) (sVe t n r)))) := by
  have hn := h.1
  have h1 := sBl_le (t := t) (n := n) (p := r + 1) (by omega)
  have h2 := sVb_le h hr
  have h3 := sVe_le h hr
  obtain ⟨had', bT', eT', g1, g2⟩ := addBoth (had := had) (bT := bT) (eT := eT) at' en (a := a) ha h3.1 h3.2 rfl hg
  refine ⟨had', bT', eT', ?_, g2⟩
  have h29 : f_X4_readValue_L29 (nI n) row (b2 en) (oA a) (nI (sBl t n (r + 1))) had bT eT (t (sBl t n (r + 1))) (b2 (sQ (t (sBl t n (r + 1))))) = some (nI (sVn t n r), had', bT', eT') := by
    have h44 : ∀ z : Int32, nI (sBl t n (r + 1)) + z = nI (sVb t n r) → f_X4_readValue_L44 (nI n) row (b2 en) (oA a) (nI (sBl t n (r + 1))) had bT eT (t (sBl t n (r + 1))) (b2 (sQ (t (sBl t n (r + 1))))) (nI (sBl t n (r + 1))) z = some (nI (sVn t n r), had', bT', eT') := by
      intro z hz
      unfold f_X4_readValue_L44
      rw [hz, vaL54 h (b2 en) (oA a) had (nI (sVb t n r)) (t (sBl t n (r + 1))) bT eT (sQ (t (sBl t n (r + 1)))) (n - sVb t n r) (sVb t n r) 1000 rfl (by omega) (by omega), Option.bind_some]
      show (f_X6_addAttribute had (b2 en) bT eT (oA a) (nI (sVb t n r)) (nI (sVe t n r))).bind _ = _
      rw [g1, Option.bind_some]
      show (if b2 (sQ (t (sBl t n (r + 1)))) = 0 then some (nI (sVe t n r) + 0, had', bT', eT') else some (nI (sVe t n r) + 1, had', bT', eT')) = _
      simp only [b2_0]
      unfold sVn
      cases sQ (t (sBl t n (r + 1))) with
      | false => rw [if_pos rfl, if_neg (by decide), show nI (sVe t n r) + 0 = nI (sVe t n r) from Int32.add_zero _]
      | true => rw [if_neg (by decide), if_pos rfl, nI_1]
    unfold f_X4_readValue_L29
    simp only [b2_0]
    cases hq : sQ (t (sBl t n (r + 1))) with
    | false =>
      rw [if_pos rfl, ← hq]
      exact h44 0 (by unfold sVb; rw [if_neg (by rw [hq]; decide)]; exact Int32.add_zero _)
    | true =>
      rw [if_neg (by decide), ← hq]
      exact h44 1 (by unfold sVb; rw [if_pos hq, nI_1])
  unfold f_X4_readValue f_X4_readValue_L24
  rw [atC h (by omega), Option.bind_some]
  by_cases q1 : t (sBl t n (r + 1)) = 34
  · rw [if_pos q1]
    have : sQ (t (sBl t n (r + 1))) = true := by unfold sQ; simp [q1]
    rw [this] at h29
    exact h29
  · rw [if_neg q1]
    by_cases q2 : t (sBl t n (r + 1)) = 39
    · rw [if_pos q2]
      have : sQ (t (sBl t n (r + 1))) = true := by unfold sQ; simp [q2]
      rw [this] at h29
      exact h29
    · rw [if_neg q2]
      have : sQ (t (sBl t n (r + 1))) = false := by unfold sQ; simp [q1, q2]
      rw [this] at h29
      exact h29
theorem readAttC {t row : Nat → Int32} {n p : Nat} {had : Int32} {bT eT : Nat → Int32} {at' : List At} {en : Bool} (h : TX t n row) (hp : p < n) (hg : en = false → KG had bT eT t n at') : ∃ (had' : Int32) (bT' eT' : Nat → Int32), f_X4_readAttribute (nI p) (nI n) row had (b2 en) bT eT = some (nI (sAt t n p).2.2, had', bT', eT') ∧ (en = false → KG had' bT' eT' t n (sPutV at' (sAl t n p) (sVal t (sAt t n p).1 (sAt t n p).2.1))) := by
  have hn := h.1
  have h1 := sAe_le (t := t) hp
  have h2 := sBl_le (t := t) (n := n) (p := sAe t n p) h1.2
  have ha : ∀ l, sAl t n p = some l → l < 26 := fun l hl => sAl_lt h hp hl
  have h84 : ∃ (had' : Int32) (bT' eT' : Nat → Int32), f_X4_readAttribute_L84 (nI n) row (b2 en) (nI (sAe t n p)) had bT eT (oA (sAl t n p)) = some (nI (sAt t n p).2.2, had', bT', eT') ∧ (en = false → KG had' bT' eT' t n (sPutV at' (sAl t n p) (sVal t (sAt t n p).1 (sAt t n p).2.1))) := by
    unfold f_X4_readAttribute_L84
    rw [passC h (by omega), Option.bind_some, atC h (by omega), Option.bind_some]
    unfold sAt
    dsimp only
    by_cases c : t (sBl t n (sAe t n p)) = 61
    · have hr := t_lt h c (by decide)
      simp only [if_pos c]
      rw [nI_1, passC h (by omega), Option.bind_some]
      obtain ⟨had', bT', eT', g1, g2⟩ := readValC (a := sAl t n p) h hr ha hg
      rw [g1]
      exact ⟨had', bT', eT', rfl, g2⟩
    · simp only [if_neg c]
      obtain ⟨had', bT', eT', g1, g2⟩ := addBoth (had := had) (bT := bT) (eT := eT) at' en (a := sAl t n p) (t := t) (n := n) (v := sVal t 0 0) ha (Nat.le_refl (sBl t n (sAe t n p))) h2.2 (by unfold sVal; rw [Nat.sub_self]; rfl) hg
      rw [g1]
      exact ⟨had', bT', eT', rfl, g2⟩
  obtain ⟨had', bT', eT', g1, g2⟩ := h84
  refine ⟨had', bT', eT', ?_, g2⟩
  unfold f_X4_readAttribute
  rw [nI_1, atL15 h (b2 en) had (nI p) bT eT (n - (p + 1)) (p + 1) 1000 rfl (by omega) (by omega), Option.bind_some]
  show (if nI (sAe t n p) - nI p = 1 then _ else _) = _
  rw [pk_sub (by omega), show (1 : Int32) = nI 1 from rfl, atC h (by omega), Option.bind_some, letNumC (h.ch hp), Option.bind_some]
  simp (disch := omega) only [pu_e]
  unfold sAl at g1
  by_cases e : sAe t n p = p + 1
  · rw [if_pos (by omega)]
    by_cases hl : sLet (t p) = true
    · rw [if_pos ⟨e, hl⟩] at g1
      rw [if_pos hl]
      exact g1
    · rw [if_neg (fun q => hl q.2)] at g1
      rw [if_neg hl]
      exact g1
  · rw [if_neg (by omega)]
    rw [if_neg (fun q => e q.1)] at g1
    exact g1
