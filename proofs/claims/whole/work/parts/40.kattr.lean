/-! a tag's attributes are added by the class -/
theorem b_one : ∀ i, i < 32 → bt 1 i = decide (i = 0) := by decide +kernel
theorem and1_0 (y : Int32) : (y &&& (1 : Int32) = 0) = (bt y 0 = false) := by
  apply propext
  constructor
  · intro h
    have := congrArg (fun z => bt z 0) h
    simp only [b_and, b_0, b_one 0 (by decide)] at this
    simpa using this
  · intro h
    apply b_ext
    intro i hi
    rw [b_and, b_0, b_one i hi]
    by_cases e : i = 0
    · subst e; rw [h]; rfl
    · simp [e]
theorem shr1_0 {a : Nat} (ha : a < 32) (x : Int32) : (((x >>> (nI a &&& 31)) &&& (1 : Int32)) = 0) = (bt x a = false) := by
  rw [and1_0, b_sshr a ha x (by decide), if_pos (by omega), Nat.add_zero]
theorem isLetNumC {a : Nat} (ha : a < 26) : f_X9_isLetterNumber (nI a) = some 1 := by
  unfold f_X9_isLetterNumber
  rw [if_neg (nI_pos (by omega)), if_neg (show ¬ (26 : Int32) ≤ nI a from nI_ge (b := 26) ha (by decide))]
theorem tagHasC {a : Nat} (ha : a < 26) (had : Int32) : f_X6_hasAttribute had (nI a) = some (b2 (bt had a)) := by
  unfold f_X6_hasAttribute
  rw [isLetNumC ha, Option.bind_some, if_neg (show ¬ (1 : Int32) = 0 by decide)]
  simp only [shr1_0 (show a < 32 by omega)]
  cases bt had a <;> rfl
def KG (had : Int32) (bT eT t : Nat → Int32) (n : Nat) (at' : List At) : Prop := ∀ a, a < 26 → match at'.find? (fun q => q.1 == a) with
  | none => bt had a = false
  | some q => bt had a = true ∧ ∃ b e, bT a = nI b ∧ eT a = nI e ∧ b ≤ e ∧ e ≤ n ∧ sVal t b e = q.2
theorem attrC {t row : Nat → Int32} {n : Nat} {had : Int32} {bT eT en : Nat → Int32} {at' : List At} {N : Int32} (ht : TX t n row) (hg : KG had bT eT t n at') : ∀ (j a f ac vs : Nat) (al vb ve vr : Nat → Int32), a + j = 26 → j < f → ac + (sSortF at' a j).length ≤ 100 → vs + vLen (sSortF at' a j) ≤ 200 → ∃ al' vb' ve' vr' : Nat → Int32, f_X7_addAttributes_L2 N had bT eT (nI n) row f (nI ac) en al vb ve (nI vs) 0 vr (nI a) = some (nI (ac + (sSortF at' a j).length), en, al', vb', ve', nI (vs + vLen (sSortF at' a j)), 0, vr') ∧ KA al' vb' ve' vr' (sSortF at' a j) ac vs ∧ (∀ i, i < ac → al' i = al i ∧ vb' i = vb i ∧ ve' i = ve i) ∧ (∀ i, i < vs → vr' i = vr i) := by
  have hn := ht.1
  intro j
  induction j with
  | zero =>
    intro a f ac vs al vb ve vr ha hf h1 h2
    obtain ⟨f, rfl⟩ : ∃ g, f = g + 1 := ⟨f - 1, by omega⟩
    refine ⟨al, vb, ve, vr, ?_, trivial, fun i hi => ⟨rfl, rfl, rfl⟩, fun i hi => rfl⟩
    rw [f_X7_addAttributes_L2, if_pos (show (26 : Int32) ≤ nI a from nI_le (a := 26) (by omega) (by omega))]
    rfl
  | succ j ih =>
    intro a f ac vs al vb ve vr ha hf h1 h2
    obtain ⟨f, rfl⟩ : ∃ g, f = g + 1 := ⟨f - 1, by omega⟩
    have hga := hg a (by omega)
    have hB : f_X6_beginOf had bT (nI a) = if bt had a = false then some 0 else some (bT a) := by
      unfold f_X6_beginOf
      rw [tagHasC (by omega), Option.bind_some]
      simp only [b2_0]
      rw [pu_gi (by omega) (by decide), nI_clamp (by omega)]
    have hE : f_X6_endOf had eT (nI a) = if bt had a = false then some 0 else some (eT a) := by
      unfold f_X6_endOf
      rw [tagHasC (by omega), Option.bind_some]
      simp only [b2_0]
      rw [pu_gi (by omega) (by decide), nI_clamp (by omega)]
    rw [f_X7_addAttributes_L2, if_neg (show ¬ (26 : Int32) ≤ nI a from nI_ge (b := 26) (by omega) (by decide)), tagHasC (by omega), Option.bind_some]
    simp only [b2_0]
    unfold sSortF at h1 h2 ⊢
    cases hq : at'.find? (fun q => q.1 == a) with
    | none =>
      rw [hq] at hga h1 h2
      have hga : bt had a = false := hga
      rw [if_pos hga]
      simp only [f_X7_addAttributes_L95]
      rw [nI_1]
      exact ih (a + 1) f ac vs al vb ve vr (by omega) (by omega) h1 h2
    | some q =>
      rw [hq] at hga h1 h2
      obtain ⟨hb, b, e, e1, e2, hbe, hen, hv⟩ := hga
      have hqa : q.1 = a := by
        have := List.find?_some hq
        simpa using this
      have h1 : ac + ((sSortF at' (a + 1) j).length + 1) ≤ 100 := h1
      have h2 : vs + (q.2.length + vLen (sSortF at' (a + 1) j)) ≤ 200 := h2
      have hR : f_X1_addResolved (nI vs) 0 vr (nI n) row (nI b) (nI e) = some (nI (vs + q.2.length), 0, ap vr vs q.2) := by
        rw [← hv]
        exact addResC ht hbe hen (by rw [hv]; omega) 0 vr
      rw [if_neg (by rw [hb]; decide), if_neg (show ¬ (100 : Int32) ≤ nI ac from nI_ge (b := 100) (by omega) (by decide)), hB, hE, if_neg (by rw [hb]; decide), if_neg (by rw [hb]; decide)]
      simp only [f_X1_size, Option.bind_some, e1, e2]
      rw [hR]
      simp only [Option.bind_some, f_X7_addAttributes_L95]
      rw [pu_gi (show ac < 100 by omega) (by decide), pu_gi (show ac < 100 by omega) (by decide), pu_gi (show ac < 100 by omega) (by decide), nI_clamp (by omega), nI_1, nI_1]
      obtain ⟨al', vb', ve', vr', g1, g2, g3, g4⟩ := ih (a + 1) f (ac + 1) (vs + q.2.length) (upd al ac (nI a)) (upd vb ac (nI vs)) (upd ve ac (nI (vs + q.2.length))) (ap vr vs q.2) (by omega) (by omega) (by omega) (by omega)
      refine ⟨al', vb', ve', vr', ?_, ⟨?_, ?_, ?_, ?_, g2⟩, fun i hi => ?_, fun i hi => ?_⟩
      · rw [g1]
        have x1 : ac + 1 + (sSortF at' (a + 1) j).length = ac + (q :: sSortF at' (a + 1) j).length := by simp; omega
        have x2 : vs + q.2.length + vLen (sSortF at' (a + 1) j) = vs + vLen (q :: sSortF at' (a + 1) j) := by simp [vLen]; omega
        rw [x1, x2]
      · rw [(g3 ac (by omega)).1, pk_us, hqa]
      · rw [(g3 ac (by omega)).2.1, pk_us]
      · rw [(g3 ac (by omega)).2.2, pk_us]
      · exact seg_eq (seg_ap vr vs q.2) (fun k hk => g4 k hk)
      · have := g3 i (by omega)
        rw [this.1, this.2.1, this.2.2, pk_un (by omega), pk_un (by omega), pk_un (by omega)]
        exact ⟨rfl, rfl, rfl⟩
      · rw [g4 i (by omega), ap_lt _ _ _ _ hi]
theorem addAttrsC {t row : Nat → Int32} {n N ac vs : Nat} {had : Int32} {bT eT en : Nat → Int32} {at' : List At} (ht : TX t n row) (hg : KG had bT eT t n at') (hN : N < 200) (h1 : ac + (sSort at').length ≤ 100) (h2 : vs + vLen (sSort at') ≤ 200) (al vb ve vr : Nat → Int32) : ∃ al' vb' ve' vr' : Nat → Int32, f_X7_addAttributes (nI (N + 1)) (nI ac) en al vb ve (nI vs) 0 vr had bT eT (nI n) row = some (nI (ac + (sSort at').length), upd en N (nI (ac + (sSort at').length)), al', vb', ve', nI (vs + vLen (sSort at')), 0, vr') ∧ KA al' vb' ve' vr' (sSort at') ac vs ∧ (∀ i, i < ac → al' i = al i ∧ vb' i = vb i ∧ ve' i = ve i) ∧ (∀ i, i < vs → vr' i = vr i) := by
  obtain ⟨al', vb', ve', vr', g1, g2, g3, g4⟩ := attrC (N := nI (N + 1)) (en := en) ht hg 26 0 1000 ac vs al vb ve vr (by omega) (by omega) h1 h2
  refine ⟨al', vb', ve', vr', ?_, g2, g3, g4⟩
  unfold f_X7_addAttributes
  rw [show (0 : Int32) = nI 0 from rfl] at g1 ⊢
  rw [g1, Option.bind_some, nI_pred, hasNodeC (show N < N + 1 by omega) (by omega), Option.bind_some, if_neg (show ¬ (1 : Int32) = nI 0 by decide), pu_gi hN (by decide), nI_clamp (by omega)]
  rfl
theorem b_4096 : ∀ i, i < 32 → bt 4096 i = decide (i = 12) := by decide +kernel
theorem and4096_0 (y : Int32) : (y &&& (4096 : Int32) = 0) = (bt y 12 = false) := by
  apply propext
  constructor
  · intro h
    have := congrArg (fun z => bt z 12) h
    simp only [b_and, b_0, b_4096 12 (by decide)] at this
    simpa using this
  · intro h
    apply b_ext
    intro i hi
    rw [b_and, b_0, b_4096 i hi]
    by_cases e : i = 12
    · subst e; rw [h]; rfl
    · simp [e]
theorem bt_nI (m : Nat) {i : Nat} (hi : i < 32) : bt (nI m) i = m.testBit i := by
  show (BitVec.ofNat 32 m).getLsbD i = _
  rw [BitVec.getLsbD_ofNat]
  simp [hi]
theorem forCd {x : Nd} (h1 : x.1 < 4) (h2 : x.2.1 ≤ 26) (h3 : x.2.2.1 ≤ 8) : (nI (cdN x) &&& (4096 : Int32) = 0) = (x.2.2.2.1 = false) := by
  rw [and4096_0, bt_nI _ (by decide)]
  have hm : x.1 + 4 * x.2.1 + 128 * x.2.2.1 < 4096 := by omega
  unfold cdN
  revert hm
  generalize x.1 + 4 * x.2.1 + 128 * x.2.2.1 = m
  intro hm
  cases x.2.2.2.1 with
  | false =>
    simp only [Bool.false_eq_true, if_false, Nat.add_zero]
    rw [Nat.testBit_lt_two_pow (show m < 2 ^ 12 by omega)]
    simp
  | true =>
    simp only [if_true]
    rw [show m + 4096 = 2 ^ 12 + m by omega, Nat.testBit_two_pow_add_eq, Nat.testBit_lt_two_pow (show m < 2 ^ 12 by omega)]
    simp
theorem isForTC {cd bg en ch al vb ve vr : Nat → Int32} {x : Nd} {r : List Nd} {N : Nat} (h : KT cd bg en ch al vb ve vr (x :: r)) (h1 : r.length < N) (hN : N ≤ 200) : f_X7_isForeign (nI N) cd (nI r.length) = some (b2 x.2.2.2.1) := by
  unfold f_X7_isForeign
  rw [hasNodeC h1 hN, Option.bind_some, if_neg (show ¬ (1 : Int32) = 0 by decide), pu_gi (by omega) (by decide), nI_clamp (by omega), h.1.1]
  simp only [forCd h.1.2.1 h.1.2.2.1 h.1.2.2.2]
  cases x.2.2.2.1 <;> rfl
/-- an element is put: the tree's rows -/
theorem KT.put {cd bg en ch al vb ve vr al' vb' ve' vr' : Nat → Int32} {nd : List Nd} {l : Nat} {s : Stk} {at' : List At} (h : KT cd bg en ch al vb ve vr nd) (hl : l ≤ 26) (h8 : s.length ≤ 8) (ha : KA al' vb' ve' vr' (sSort at') (acN nd) (vsN nd)) (g3 : ∀ i, i < acN nd → al' i = al i ∧ vb' i = vb i ∧ ve' i = ve i) (g4 : ∀ i, i < vsN nd → vr' i = vr i) (e0 : Int32) : KT (upd cd nd.length (nI (cdN (sNode l s [])))) (upd bg nd.length (nI (acN nd))) (upd (upd en nd.length e0) nd.length (nI (acN nd + (sSort at').length))) ch al' vb' ve' vr' (sNode l s at' :: nd) := by
  refine ⟨⟨pk_us, show (3 : Nat) < 4 by decide, hl, h8⟩, ?_, KT.congr h (fun i hi => ⟨pk_un (by omega), pk_un (by omega), by rw [pk_un (by omega), pk_un (by omega)]⟩) (fun i hi => rfl) g3 g4⟩
  rw [if_pos (show (sNode l s at').1 = 3 from rfl)]
  exact ⟨pk_us, pk_us, ha⟩
theorem nI_ne {k : Nat} (h : k < 2 ^ 31) : ¬ nI k = -1 := fun q => nI_m1' (k := k) h (by rw [q]; decide)
theorem startC {t row : Nat → Int32} {n l : Nat} {had : Int32} {bT eT cd bg en ch al vb ve vr nm fr : Nat → Int32} {at' : List At} {nd : List Nd} {st : Stk} (ht : TX t n row) (hg : KG had bT eT t n at') (h : KT cd bg en ch al vb ve vr nd) (hk : KS nm fr st) (hi : SI st) (h8 : st.length ≤ 8) (hN : nd.length < 200) (hl : l ≤ 26) (h1 : acN nd + (sSort at').length ≤ 100) (h2 : vsN nd + vLen (sSort at') ≤ 200) : ∃ cd' bg' en' al' vb' ve' vr' nm' fr' : Nat → Int32, f_X0_start (nI n) row (nI nd.length) (nI (acN nd)) cd bg en al vb ve (nI (vsN nd)) 0 vr (nI st.length) nm fr had (nI l) bT eT = some (nI (sStart l at' st nd).2.2.length, nI (acN (sStart l at' st nd).2.2), cd', bg', en', al', vb', ve', nI (vsN (sStart l at' st nd).2.2), 0, vr', nI (sStart l at' st nd).2.1.length, nm', fr', b2 ((sStart l at' st nd).1 && sRawAt l st)) ∧ KT cd' bg' en' ch al' vb' ve' vr' (sStart l at' st nd).2.2 ∧ KS nm' fr' (sStart l at' st nd).2.1 ∧ SI (sStart l at' st nd).2.1 ∧ (sStart l at' st nd).2.1.length ≤ 8 := by
  have hp := putC (a := acN nd) (N := nd.length) hN hl hi cd bg en nm fr hk h8
  have hq := sPrep_all (l := l) hi
  unfold f_X0_start
  simp only [f_X6_name, Option.bind_some]
  rw [hp.1, Option.bind_some]
  unfold oPut
  cases hf : sFull l (sPrep l st) with
  | true =>
    rw [sStart_full hf]
    simp only [if_true]
    exact ⟨cd, bg, en, al, vb, ve, vr, nm, fr, rfl, h, hp.2, hq.1, by omega⟩
  | false =>
    rw [sStart_put hf]
    simp only [Bool.false_eq_true, if_false]
    rw [if_neg (nI_ne (by omega))]
    obtain ⟨al', vb', ve', vr', g1, g2, g3, g4⟩ := addAttrsC (en := upd en nd.length (nI (acN nd))) ht hg hN h1 h2 al vb ve vr
    rw [g1, Option.bind_some]
    have hT := KT.put (al' := al') (vb' := vb') (ve' := ve') (vr' := vr') (s := sPrep l st) (at' := at') h hl (by omega) g2 g3 g4 (nI (acN nd))
    refine ⟨_, _, _, al', vb', ve', vr', _, _, ?_, hT, hp.2.put hl, hq.1.put, len_put (by omega) hf⟩
    rw [show (18 : Int32) = nI 18 from rfl, isForTC hT (by omega) (by omega), Option.bind_some, len_put2]
    simp only [b2_0, show (nI l = nI 18) = (l = 18) from pu_e (by omega) (by decide)]
    unfold sRawAt
    by_cases e18 : l = 18
    · subst e18
      have hx : (sNode 18 (sPrep 18 st) at').2.2.2.1 = sAlien (sPrep 18 st) := by simp [sNode, sFor]
      rw [if_pos rfl, hx]
      cases sAlien (sPrep 18 st) <;> rfl
    · rw [if_neg e18]
      have hx : (l == 18) = false := by simpa using e18
      rw [hx]
      rfl
theorem endTagC {l : Nat} {cd bg en ch al vb ve vr nm fr : Nat → Int32} {nd : List Nd} {st : Stk} (h : KT cd bg en ch al vb ve vr nd) (hk : KS nm fr st) (hi : SI st) (h8 : st.length ≤ 8) (hN : nd.length < 200) (hl : l ≤ 26) : ∃ cd' bg' en' nm' fr' : Nat → Int32, f_X0_end (nI nd.length) (nI (acN nd)) cd bg en (nI st.length) nm fr (nI l) = some (nI (sEnd l st nd).2.length, cd', bg', en', nI (sEnd l st nd).1.length, nm', fr') ∧ KT cd' bg' en' ch al vb ve vr (sEnd l st nd).2 ∧ KS nm' fr' (sEnd l st nd).1 ∧ SI (sEnd l st nd).1 ∧ (sEnd l st nd).1.length ≤ 8 ∧ acN (sEnd l st nd).2 = acN nd ∧ vsN (sEnd l st nd).2 = vsN nd ∧ chN (sEnd l st nd).2 = chN nd := by
  unfold f_X0_end sEnd
  rw [tailC hk h8 hl, Option.bind_some]
  cases ht : sTail (sTop st) l st with
  | some r =>
    have hr := hk.tail ht
    have hr2 := hi.tail ht
    show ∃ cd' bg' en' nm' fr' : Nat → Int32, (if nI r.length = -1 then _ else _) = _ ∧ _
    rw [if_neg (nI_ne (by omega)), closeC hr.2 h8]
    exact ⟨cd, bg, en, nm, fr, rfl, h, hr.1, hr2, show r.length ≤ 8 by omega, rfl, rfl, rfl⟩
  | none =>
    show ∃ cd' bg' en' nm' fr' : Nat → Int32, (if (-1 : Int32) = -1 then _ else _) = _ ∧ _
    rw [if_pos rfl, show (15 : Int32) = nI 15 from rfl, alienC hk h8, Option.bind_some]
    simp only [b2_0, show (nI l = nI 15) = (l = 15) from pu_e (by omega) (by decide)]
    by_cases c : l = 15 ∧ sAlien st = false
    · rw [if_pos c.1, if_pos c.2]
      simp only [if_pos c]
      have hp := putC (a := acN nd) (N := nd.length) (l := 15) hN (by decide) hi cd bg en nm fr hk h8
      have hq := sPrep_all (l := 15) hi
      rw [hp.1, Option.bind_some]
      unfold oPut
      cases hf : sFull 15 (sPrep 15 st) with
      | true =>
        rw [sStart_full hf]
        simp only [if_true]
        exact ⟨cd, bg, en, nm, fr, rfl, h, hp.2, hq.1, by omega, by trivial, by trivial, by trivial⟩
      | false =>
        have hS : sStays 15 (sPrep 15 st) = true := by unfold sStays; simp [sEmpty]
        have hlt : (sPrep 15 st).length < 8 := by
          have := len_put (l := 15) (s := sPrep 15 st) (by omega) hf
          rw [if_pos hS] at this
          exact this
        rw [sStart_put hf]
        simp only [Bool.false_eq_true, if_false, hS, if_true, f_X2_size, Option.bind_some]
        rw [if_neg (nI_ne (by omega)), nI_pred, closeC (by omega) (by omega)]
        have hT := KT.put (l := 15) (al' := al) (vb' := vb) (ve' := ve) (vr' := vr) (s := sPrep 15 st) (at' := []) h (by decide) (by omega) (by rw [sSort_nil]; trivial) (fun i hi => ⟨rfl, rfl, rfl⟩) (fun i hi => rfl) (nI (acN nd))
        refine ⟨_, _, _, _, _, rfl, KT.congr hT (fun i hi => ⟨rfl, rfl, ?_⟩) (fun i hi => rfl) (fun i hi => ⟨rfl, rfl, rfl⟩) (fun i hi => rfl), hp.2.congr (fun i hi => ⟨pk_un (by omega), pk_un (by omega)⟩), hq.1, by simp; omega, by simp [acN, sNode, sSort_nil], by simp [vsN, sNode, sSort_nil, vLen], by simp [chN, sNode]⟩
        rw [sSort_nil, List.length_nil, Nat.add_zero]
        by_cases e : i = nd.length
        · subst e; rw [pk_us, pk_us]
        · rw [pk_un e, pk_un e, pk_un e]
    · simp only [if_neg c]
      refine ⟨cd, bg, en, nm, fr, ?_, h, hk, hi, h8, by trivial, by trivial, by trivial⟩
      by_cases c1 : l = 15
      · rw [if_pos c1, if_neg (fun q => c ⟨c1, q⟩)]
      · rw [if_neg c1]
