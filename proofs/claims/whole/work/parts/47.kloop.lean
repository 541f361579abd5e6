/-! the class reads a whole text -/
abbrev RowF : Type := Nat → Int32
def rB (b : Bool) : Nat := if b = true then 1 else 0
/-- what is left of a reading -/
def oAll (nd : List Nd) (o : Int32 × Int32 × Int32 × Int32 × RowF × RowF × RowF × Int32 × Int32 × RowF × RowF × RowF × RowF × Int32 × Int32 × RowF × Int32 × RowF × RowF × Int32 × Int32 × Int32 × RowF × RowF) : Prop :=
  o.2.2.1 = nI nd.length ∧ o.2.2.2.1 = nI (acN nd) ∧ o.2.2.2.2.2.2.2.1 = nI (chN nd) ∧ o.2.2.2.2.2.2.2.2.1 = 0 ∧ o.2.2.2.2.2.2.2.2.2.2.2.2.2.1 = nI (vsN nd) ∧ o.2.2.2.2.2.2.2.2.2.2.2.2.2.2.1 = 0 ∧ KT o.2.2.2.2.1 o.2.2.2.2.2.1 o.2.2.2.2.2.2.1 o.2.2.2.2.2.2.2.2.2.1 o.2.2.2.2.2.2.2.2.2.2.1 o.2.2.2.2.2.2.2.2.2.2.2.1 o.2.2.2.2.2.2.2.2.2.2.2.2.1 o.2.2.2.2.2.2.2.2.2.2.2.2.2.2.2.1 nd
theorem allC {t row : Nat → Int32} {n : Nat} (h : TX t n row) : ∀ (m f v : Nat) (S : PS) (pc : Nat) (cd bg en ch al vb ve vr nm fr bT eT : Nat → Int32) (had tn te : Int32), 2 * (n - S.1) + rB S.2.1 ≤ m → m < f → PI n S → KT cd bg en ch al vb ve vr S.2.2.2 → KS nm fr S.2.2.1 → (pc = S.1 ∨ (n ≤ S.1 ∧ n ≤ pc)) → pc ≤ 400 → v + rB S.2.1 ≤ S.1 → ∃ k o, f_X4_readAll_L19 (nI n) row f (nI pc) (b2 S.2.1) (nI S.2.2.2.length) (nI (acN S.2.2.2)) cd bg en (nI (chN S.2.2.2)) 0 ch al vb ve (nI (vsN S.2.2.2)) 0 vr (nI S.2.2.1.length) nm fr had tn te bT eT (nI v) = some o ∧ n ≤ (sIter t n k S).1 ∧ oAll (sIter t n k S).2.2.2 o := by
  have hn := h.1
  intro m
  induction m using Nat.strongRecOn with
  | ind m ih =>
    intro f v S pc cd bg en ch al vb ve vr nm fr bT eT had tn te hm hf hS hT hK hpc hpc4 hv
    obtain ⟨f, rfl⟩ : ∃ g, f = g + 1 := ⟨f - 1, by omega⟩
    rw [f_X4_readAll_L19]
    simp only [f_X1_size, Option.bind_some]
    by_cases hend : n ≤ pc
    · refine ⟨0, (nI pc, b2 S.2.1, nI S.2.2.2.length, nI (acN S.2.2.2), cd, bg, en, nI (chN S.2.2.2), 0, ch, al, vb, ve, nI (vsN S.2.2.2), 0, vr, nI S.2.2.1.length, nm, fr, had, tn, te, bT, eT), ?_, ?_, ⟨rfl, rfl, rfl, rfl, rfl, rfl, hT⟩⟩
      · rw [if_pos (show nI n ≤ nI pc from nI_le hend (by omega))]
        split <;> rfl
      · show n ≤ S.1
        omega
    · have e : pc = S.1 := by omega
      subst e
      have hpn : S.1 < n := by omega
      have hv200 : v < 200 := by omega
      rw [if_neg (show ¬ (200 : Int32) ≤ nI v from nI_ge (b := 200) hv200 (by decide)), if_neg (show ¬ nI n ≤ nI S.1 from nI_ge hpn (by omega))]
      have hb := hS.bd
      have hac := acN_le S.2.2.2
      have hcv := cvN_le S.2.2.2
      have hb2 : S.2.2.2.length ≤ S.1 := hb.2.1
      have hb3 : stoM S.2.2.2 ≤ S.1 := hb.2.2.1
      have hb4 : 2 * acM S.2.2.2 ≤ S.1 := hb.2.2.2
      have h8 := hS.le
      have hstep := sTok_PI h hS hpn
      -- what a step that was done leaves to be done
      have go : ∀ (k1 : Nat) (S2 : PS) (pc2 : Nat) (cd bg en ch al vb ve vr nm fr bT eT : Nat → Int32) (had tn te : Int32), sIter t n k1 S = S2 → 2 * (n - S2.1) + rB S2.2.1 < 2 * (n - S.1) + rB S.2.1 → PI n S2 → KT cd bg en ch al vb ve vr S2.2.2.2 → KS nm fr S2.2.2.1 → (pc2 = S2.1 ∨ (n ≤ S2.1 ∧ n ≤ pc2)) → pc2 ≤ 400 → v + 1 + rB S2.2.1 ≤ S2.1 → ∃ k o, f_X4_readAll_L139 (nI n) row (f_X4_readAll_L19 (nI n) row f) (nI pc2) (b2 S2.2.1) (nI S2.2.2.2.length) (nI (acN S2.2.2.2)) cd bg en (nI (chN S2.2.2.2)) 0 ch al vb ve (nI (vsN S2.2.2.2)) 0 vr (nI S2.2.2.1.length) nm fr had tn te bT eT (nI v) = some o ∧ n ≤ (sIter t n k S).1 ∧ oAll (sIter t n k S).2.2.2 o := by
        intro k1 S2 pc2 cd bg en ch al vb ve vr nm fr bT eT had tn te hk hlt g1 g2 g3 g4 g5 g6
        obtain ⟨k, o, r1, r2, r3⟩ := ih (2 * (n - S2.1) + rB S2.2.1) (by omega) f (v + 1) S2 pc2 cd bg en ch al vb ve vr nm fr bT eT had tn te (Nat.le_refl _) (by omega) g1 g2 g3 g4 g5 g6
        refine ⟨k1 + k, o, ?_, ?_, ?_⟩
        · unfold f_X4_readAll_L139
          rw [nI_1]
          exact r1
        · rw [sIter_add, hk]
          exact r2
        · rw [sIter_add, hk]
          exact r3
      have one : sIter t n 1 S = sTok t n S := rfl
      have r0 : rB false = 0 := rfl
      have r1 : rB true = 1 := rfl
      have rle : ∀ b, rB b ≤ 1 := fun b => by cases b <;> decide
      obtain ⟨p, raw, st, nd⟩ := S
      replace hpn : p < n := hpn
      replace hv : v + rB raw ≤ p := hv
      cases raw with
      | true =>
        rw [r1] at hv
        have hs1 : p ≤ (sTok t n (p, true, st, nd)).1 := hstep.2.1
        have hs2 : (sTok t n (p, true, st, nd)).2.1 = false := hstep.2.2.1 rfl
        obtain ⟨cd', bg', en', ch', g1, g2, g3, g4⟩ := readRawC h hT hpn hb2 h8 (by dsimp only at hcv hb3 ⊢; omega) (b2 true)
        have hg := go 1 _ (sTok t n (p, true, st, nd)).1 cd' bg' en' ch' al vb ve vr nm fr bT eT had tn te one (by rw [hs2, r0]; show _ < 2 * (n - p) + 1; omega) hstep.1 g4 (by rw [sTok_raw hpn]; exact hK) (Or.inl rfl) (by have : (sTok t n (p, true, st, nd)).1 ≤ n := hstep.1.bd.1; omega) (by rw [hs2, r0]; omega)
        show ∃ k o, (if b2 true = 0 then _ else _) = some o ∧ _
        rw [if_neg (show ¬ b2 true = 0 by decide)]
        dsimp only
        rw [g1, Option.bind_some]
        rw [hs2, g2, g3] at hg
        rw [show (sTok t n (p, true, st, nd)).2.2.1 = st by rw [sTok_raw hpn]] at hg
        exact hg
      | false =>
        rw [r0] at hv
        show ∃ k o, (if b2 false = 0 then _ else _) = some o ∧ _
        rw [if_pos (show b2 false = 0 from rfl)]
        dsimp only
        rw [markC h (by omega), Option.bind_some]
        simp only [b2_0]
        cases hmk : sMark t p with
        | false =>
          rw [if_pos rfl]
          obtain ⟨k1, e, cd', bg', en', ch', nd', i1, i2, g1, g2, g3, g4⟩ := readTextC h hT hpn hmk hb2 h8 (by dsimp only at hcv hb3 ⊢; omega)
          rw [g1, Option.bind_some]
          have hPI : PI n (sIter t n k1 (p, false, st, nd)) := by
            have : ∀ k S, PI n S → PI n (sIter t n k S) := by
              intro k
              induction k with
              | zero => exact fun S q => q
              | succ k ihk =>
                intro S q
                rw [sIter]
                by_cases hq : S.1 < n
                · exact ihk _ (sTok_PI h q hq).1
                · rw [sTok_stop (by omega)]; exact ihk _ q
            exact this k1 _ hS
          rw [i1] at hPI
          have hen : e ≤ n := hPI.bd.1
          have hg := go k1 (e, false, st, nd') e cd' bg' en' ch' al vb ve vr nm fr bT eT had tn te i1 (by rw [r0]; show 2 * (n - e) + 0 < 2 * (n - p) + 0; omega) hPI g4 hK (Or.inl rfl) (by omega) (by show v + 1 + 0 ≤ e; omega)
          rw [← g2, ← g3]
          exact hg
        | true =>
          rw [if_neg (by decide), isTagC h (by omega), Option.bind_some]
          simp only [b2_0]
          have hs1 : p + 1 ≤ (sTok t n (p, false, st, nd)).1 := hstep.2.2.2.1 rfl
          have hs3 : (sTok t n (p, false, st, nd)).2.1 = true → p + 3 ≤ (sTok t n (p, false, st, nd)).1 := hstep.2.2.2.2
          have hs4 : (sTok t n (p, false, st, nd)).1 ≤ n := hstep.1.bd.1
          have hdec : 2 * (n - (sTok t n (p, false, st, nd)).1) + rB (sTok t n (p, false, st, nd)).2.1 < 2 * (n - p) + rB false := by
            rw [r0]
            have := rle (sTok t n (p, false, st, nd)).2.1
            omega
          have hturn : v + 1 + rB (sTok t n (p, false, st, nd)).2.1 ≤ (sTok t n (p, false, st, nd)).1 := by
            cases hq : (sTok t n (p, false, st, nd)).2.1 with
            | false => rw [r0]; omega
            | true => rw [r1]; have := hs3 hq; omega
          cases htg : sIsTag t p with
          | false =>
            rw [if_pos rfl]
            obtain ⟨pc2, cd', bg', en', ch', g1, g2, g2b, g3, g4, g5⟩ := readComC h hT hpn hmk htg hb2 h8 (by dsimp only at hcv hb3 ⊢; omega)
            rw [g1, Option.bind_some]
            have e1 : (sTok t n (p, false, st, nd)).2.1 = false ∧ (sTok t n (p, false, st, nd)).2.2.1 = st := by
              rw [sTok_com hpn hmk htg]
              split <;> exact ⟨rfl, rfl⟩
            have hg := go 1 _ pc2 cd' bg' en' ch' al vb ve vr nm fr bT eT had tn te one hdec hstep.1 g5 (by rw [e1.2]; exact hK) g2 g2b hturn
            rw [e1.1, e1.2, g3, g4] at hg
            exact hg
          | true =>
            rw [if_neg (by decide)]
            obtain ⟨pc2, had', bT', eT', g1, g2⟩ := readTagC h htg had tn te bT eT
            have hl := sTq_let h htg
            have hname := sName_le h hl.2 hl.1
            rw [g1, Option.bind_some]
            dsimp only
            have hT2 := sTok_tag (st := st) (nd := nd) hpn hmk htg
            cases hs : sTagL t n (n + 1) (sNameEnd t n (sTq t p)) [] with
            | none =>
              rw [hs] at g2 hT2
              have g2 : n ≤ pc2 ∧ pc2 ≤ n + 1 := g2
              show ∃ k o, (if b2 false = 0 then _ else _) = some o ∧ _
              rw [if_pos (show b2 false = 0 from rfl)]
              rw [hT2] at hdec hturn hstep
              have hg := go 1 (n, false, st, nd) pc2 cd bg en ch al vb ve vr nm fr bT' eT' had' (nI (sName t n (sTq t p))) (b2 (decide (t (p + 1) = 47))) (by rw [one, hT2]) hdec hstep.1 hT hK (Or.inr ⟨Nat.le_refl _, g2.1⟩) (by omega) hturn
              exact hg
            | some q =>
              obtain ⟨r, acc⟩ := q
              rw [hs] at g2 hT2
              have g2 : pc2 = r ∧ p + 3 ≤ r ∧ r ≤ n ∧ (decide (t (p + 1) = 47) = false → KG had' bT' eT' t n (sVals t acc)) := g2
              have hu := sTagL_up h htg hs
              show ∃ k o, (if b2 true = 0 then _ else _) = some o ∧ _
              rw [if_neg (show ¬ b2 true = 0 by decide)]
              unfold f_X6_isEnding
              rw [pu_gz (by cases decide (t (p + 1) = 47) <;> simp [b2]), Option.bind_some]
              simp only [b2_0]
              rw [hT2] at hdec hturn hstep
              cases hen : decide (t (p + 1) = 47) with
              | false =>
                rw [hen] at g2 hdec hturn hstep
                rw [if_pos rfl]
                simp only [Bool.false_eq_true, if_false] at hdec hturn hstep
                have hv1 := sVals_vLen t acc
                have hv2 := sVals_len t acc
                have hq1 := sSort_len (sVals t acc)
                have hq2 := sSort_vLen (sVals t acc)
                obtain ⟨cd', bg', en', al', vb', ve', vr', nm', fr', k1, k2, k3, k4, k5⟩ := startC (l := sName t n (sTq t p)) h (g2.2.2.2 rfl) hT hK hS.si h8 (by dsimp only at hb2 ⊢; omega) hname (by dsimp only at hac hb4 ⊢; omega) (by dsimp only at hcv hb3 ⊢; omega)
                rw [k1, Option.bind_some]
                dsimp only
                rw [pu_gz (by cases ((sStart (sName t n (sTq t p)) (sVals t acc) st nd).1 && sRawAt (sName t n (sTq t p)) st) <;> simp [b2])]
                have hch : chN (sStart (sName t n (sTq t p)) (sVals t acc) st nd).2.2 = chN nd := by
                  unfold sStart
                  dsimp only
                  split
                  · rfl
                  · simp [chN, sNode]
                have hg := go 1 (r, (sStart (sName t n (sTq t p)) (sVals t acc) st nd).1 && sRawAt (sName t n (sTq t p)) st, (sStart (sName t n (sTq t p)) (sVals t acc) st nd).2.1, (sStart (sName t n (sTq t p)) (sVals t acc) st nd).2.2) pc2 cd' bg' en' ch al' vb' ve' vr' nm' fr' bT' eT' had' (nI (sName t n (sTq t p))) (b2 false) (by rw [one, hT2]; simp only [hen, Bool.false_eq_true, if_false]) hdec hstep.1 k2 k3 (Or.inl g2.1) (by omega) hturn
                dsimp only at hg
                rw [hch] at hg
                exact hg
              | true =>
                rw [hen] at g2 hdec hturn hstep
                rw [if_neg (by decide)]
                simp only [if_true] at hdec hturn hstep
                unfold f_X6_name
                rw [Option.bind_some]
                obtain ⟨cd', bg', en', nm', fr', k1, k2, k3, k4, k5, k6, k7, k8⟩ := endTagC (l := sName t n (sTq t p)) hT hK hS.si h8 (by dsimp only at hb2 ⊢; omega) hname
                rw [k1, Option.bind_some]
                have hg := go 1 (r, false, (sEnd (sName t n (sTq t p)) st nd).1, (sEnd (sName t n (sTq t p)) st nd).2) pc2 cd' bg' en' ch al vb ve vr nm' fr' bT' eT' had' (nI (sName t n (sTq t p))) (b2 true) (by rw [one, hT2]; simp only [hen, if_true]) hdec hstep.1 k2 k3 (Or.inl g2.1) (by omega) hturn
                dsimp only at hg
                rw [k6, k7, k8] at hg
                exact hg
theorem sIter_PI {t row : Nat → Int32} {n : Nat} (h : TX t n row) : ∀ (k : Nat) (S : PS), PI n S → PI n (sIter t n k S)
  | 0, _, q => q
  | k + 1, S, q => by
    rw [sIter]
    by_cases hq : S.1 < n
    · exact sIter_PI h k _ (sTok_PI h q hq).1
    · rw [sTok_stop (by omega)]; exact sIter_PI h k _ q
theorem readAllC {t row : Nat → Int32} {n : Nat} (h : TX t n row) (a1 a2 c1 c2 s1 o1 s2 o2 oc had tn te : Int32) (cd bg en ch al vb ve vr nm fr bT eT : Nat → Int32) : ∃ k o, f_X4_readAll a1 a2 (nI n) row c1 c2 cd bg en s1 o1 ch al vb ve s2 o2 vr oc nm fr had tn te bT eT = some o ∧ n ≤ (sIter t n k (0, false, [], [])).1 ∧ oAll (sIter t n k (0, false, [], [])).2.2.2 o := by
  have hn := h.1
  obtain ⟨k, o, r1, r2, r3⟩ := allC h (2 * n) 1000 0 (0, false, [], []) 0 cd bg en ch al vb ve vr nm fr bT eT had tn te (by show 2 * (n - 0) + 0 ≤ 2 * n; omega) (by omega) (PI0 n) trivial trivial (Or.inl rfl) (by omega) (Nat.le_refl _)
  refine ⟨k, o, ?_, r2, r3⟩
  have e : f_X4_readAll_L19 (nI n) row 1000 0 0 0 0 cd bg en 0 0 ch al vb ve 0 0 vr 0 nm fr had tn te bT eT 0 = some o := r1
  unfold f_X4_readAll f_X0_begin f_X7_empty f_X1_empty f_X2_empty
  simp only [Option.bind_some]
  rw [e]
  rfl
