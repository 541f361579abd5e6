/-! an attribute is found by both -/
theorem clsF {cd bg en al vb ve vr : RowF} {N i e AC VS : Nat} {v1 v2 : Int32} (hv : v1 = nI i) (hi : i < N) (hN : N ≤ 200) (he : en i = nI e) (hA : AC ≤ 100) (heA : e ≤ AC) : ∀ (xs : List At) (a s f : Nat), KA al vb ve vr xs a s → a + xs.length = e → s + vLen xs ≤ VS → xs.length < f → (f_X7_findAttribute_L17 (nI N) (nI AC) cd bg en al v1 v2 f (nI a) = some (-1) ∧ ∀ q ∈ xs, ¬ nI q.1 = v2) ∨ ∃ q pl s', q ∈ xs ∧ nI q.1 = v2 ∧ f_X7_findAttribute_L17 (nI N) (nI AC) cd bg en al v1 v2 f (nI a) = some (nI pl) ∧ pl < AC ∧ vb pl = nI s' ∧ ve pl = nI (s' + q.2.length) ∧ seg vr s' q.2 ∧ s' + q.2.length ≤ VS := by
  have hEnd : f_X7_endOf (nI N) en v1 = some (nI e) := by
    rw [hv]
    unfold f_X7_endOf
    rw [hasNodeC hi hN, Option.bind_some, if_neg (by decide), pu_gi (by omega) (by decide), nI_clamp (by omega), he]
  intro xs
  induction xs with
  | nil =>
    intro a s f hk ha hs hf
    obtain ⟨f, rfl⟩ : ∃ g, f = g + 1 := ⟨f - 1, by simp at hf; omega⟩
    have ha : a = e := ha
    left
    refine ⟨?_, fun q hq => by simp at hq⟩
    rw [f_X7_findAttribute_L17, hEnd, Option.bind_some, if_pos (nI_le (by omega) (by omega))]
  | cons q r ih =>
    intro a s f hk ha hs hf
    rw [List.length_cons] at ha hf
    have hvl : vLen (q :: r) = q.2.length + vLen r := rfl
    obtain ⟨f, rfl⟩ : ∃ g, f = g + 1 := ⟨f - 1, by omega⟩
    obtain ⟨g1, g2, g3, g4, g5⟩ := hk
    rw [f_X7_findAttribute_L17, hEnd, Option.bind_some, if_neg (nI_ge (by omega) (by omega)), hasAC (show a < AC by omega) hA, Option.bind_some, if_neg (by decide), pu_gi (by omega) (by decide), nI_clamp (by omega), g1]
    by_cases c : nI q.1 = v2
    · right
      rw [if_pos c]
      exact ⟨q, a, s, List.mem_cons_self, c, rfl, by omega, g2, g3, g4, by omega⟩
    · rw [if_neg c]
      unfold f_X7_findAttribute_L46
      rw [nI_1]
      rcases ih (a + 1) (s + q.2.length) f g5 (by omega) (by omega) (by omega) with ⟨k1, k2⟩ | ⟨q', pl, s', k1, k2, k3, k4⟩
      · left
        refine ⟨k1, fun x hx => ?_⟩
        rcases List.mem_cons.mp hx with g | g
        · rw [g]; exact c
        · exact k2 x g
      · right
        exact ⟨q', pl, s', List.mem_cons_of_mem _ k1, k2, k3, k4⟩
theorem refF {R : RW} {N i K : Nat} {v1 v2 : Int32} (hv : v1 = nI i) (hi : i < N) (hN : N ≤ 200) (hc : R.ct 0 = nI N) (hac : R.ac 0 = nI K) (hK : K ≤ 100) : ∀ (T : List Row3) (k f : Nat), RB 0 0 R.ow R.an R.vf R.vt R.so T k → k + T.length = K → T.length < f → (∀ z ∈ T, z.1 < 256) → (f_X10_find_L2 R.ct R.ac R.ow R.an v1 v2 f (nI k) = some (-1) ∧ ∀ z ∈ T, ¬ (z.1 = i ∧ nI z.2.2.1 = v2)) ∨ ∃ z pl, z ∈ T ∧ z.1 = i ∧ nI z.2.2.1 = v2 ∧ f_X10_find_L2 R.ct R.ac R.ow R.an v1 v2 f (nI k) = some (nI pl) ∧ pl < K ∧ R.vf pl = nI z.2.1 ∧ R.vt pl = nI (z.2.1 + z.2.2.2.length) ∧ seg R.so z.2.1 z.2.2.2 := by
  intro T
  induction T with
  | nil =>
    intro k f hR hk hf hz
    obtain ⟨f, rfl⟩ : ∃ g, f = g + 1 := ⟨f - 1, by simp at hf; omega⟩
    have hk : k = K := hk
    left
    refine ⟨?_, fun q hq => by simp at hq⟩
    rw [f_X10_find_L2, show (0 : Int32) = nI 0 from rfl, pu_gi (by decide) (by decide), nI_clamp (by decide), hac, if_pos (nI_le (by omega) (by omega))]
  | cons z T ih =>
    intro k f hR hk hf hz
    rw [List.length_cons] at hk hf
    obtain ⟨f, rfl⟩ : ∃ g, f = g + 1 := ⟨f - 1, by omega⟩
    obtain ⟨g1, g2, g3, g4, g5, g6⟩ := hR
    rw [Nat.zero_add] at g1 g2 g3 g4
    have g1 : R.ow k = nI (0 + z.1) := g1
    rw [Nat.zero_add] at g1
    have g5 : seg R.so (0 + z.2.1) z.2.2.2 := g5
    rw [Nat.zero_add] at g5
    have hz1 := hz z List.mem_cons_self
    have hgo := ih (k + 1) f g6 (by omega) (by omega) (fun y hy => hz y (List.mem_cons_of_mem _ hy))
    have eo : (nI z.1 = v1) = (z.1 = i) := by rw [hv]; exact pu_e (by omega) (by omega)
    rw [f_X10_find_L2, show (0 : Int32) = nI 0 from rfl, pu_gi (by decide) (by decide), nI_clamp (by decide), hac, if_neg (nI_ge (by omega) (by omega)), show f_X10_isNode R.ct v1 = some 1 by rw [hv]; exact isN1 hc hi hN, Option.bind_some, if_neg (show ¬ (1 : Int32) = nI 0 by decide), pu_gi (by omega) (by decide), pu_gi (by omega) (by decide), nI_clamp (by omega), g1, g2]
    unfold f_X10_find_L42
    rw [nI_1]
    simp only [eo]
    have hskip : ¬ (z.1 = i ∧ nI z.2.2.1 = v2) → (f_X10_find_L2 R.ct R.ac R.ow R.an v1 v2 f (nI (k + 1)) = some (-1) ∧ ∀ y ∈ z :: T, ¬ (y.1 = i ∧ nI y.2.2.1 = v2)) ∨ ∃ y pl, y ∈ z :: T ∧ y.1 = i ∧ nI y.2.2.1 = v2 ∧ f_X10_find_L2 R.ct R.ac R.ow R.an v1 v2 f (nI (k + 1)) = some (nI pl) ∧ pl < K ∧ R.vf pl = nI y.2.1 ∧ R.vt pl = nI (y.2.1 + y.2.2.2.length) ∧ seg R.so y.2.1 y.2.2.2 := by
      intro hn
      rcases hgo with ⟨k1, k2⟩ | ⟨y, pl, k1, k2⟩
      · left
        refine ⟨k1, fun x hx => ?_⟩
        rcases List.mem_cons.mp hx with g | g
        · rw [g]; exact hn
        · exact k2 x g
      · right
        exact ⟨y, pl, List.mem_cons_of_mem _ k1, k2⟩
    by_cases c1 : z.1 = i
    · rw [if_pos c1]
      by_cases c2 : nI z.2.2.1 = v2
      · right
        rw [if_pos c2]
        exact ⟨z, k, List.mem_cons_self, c1, c2, rfl, by omega, g3, g4, g5⟩
      · rw [if_neg c2]
        exact hskip (fun q => c2 q.2)
    · rw [if_neg c1]
      exact hskip (fun q => c1 q.1)
theorem tbx_of {i : Nat} : ∀ {xs : List At} {s : Nat} {q : At}, q ∈ xs → ∃ z ∈ tbx i s xs, z.1 = i ∧ z.2.2 = q
  | [], _, q, h => by simp at h
  | y :: r, s, q, h => by
    rcases List.mem_cons.mp h with g | g
    · exact ⟨(i, s, y), List.mem_cons_self, rfl, g.symm⟩
    · obtain ⟨z, h1, h2⟩ := tbx_of (i := i) (s := s + y.2.length) g
      exact ⟨z, List.mem_cons_of_mem _ h1, h2⟩
theorem tbx_to {i : Nat} : ∀ {xs : List At} {s : Nat} {z : Row3}, z ∈ tbx i s xs → z.2.2 ∈ xs
  | [], _, z, h => by simp [tbx] at h
  | y :: r, s, z, h => by
    rcases List.mem_cons.mp h with g | g
    · rw [g]; exact List.mem_cons_self
    · exact List.mem_cons_of_mem _ (tbx_to g)
theorem tb_at {x : Nd} {r : List Nd} : ∀ (p : List Nd) (z : Row3), z.1 = r.length → (z ∈ tb (p ++ x :: r) ↔ z ∈ tbx r.length (stoM r) x.2.2.2.2.2)
  | [], z, hz => by
    rw [List.nil_append, show tb (x :: r) = tb r ++ tbx r.length (stoM r) x.2.2.2.2.2 from rfl, List.mem_append]
    constructor
    · rintro (g | g)
      · have := tb_mem g
        omega
      · exact g
    · exact Or.inr
  | y :: p, z, hz => by
    rw [List.cons_append, show tb (y :: (p ++ x :: r)) = tb (p ++ x :: r) ++ tbx (p ++ x :: r).length (stoM (p ++ x :: r)) y.2.2.2.2.2 from rfl, List.mem_append, tb_at p z hz]
    constructor
    · rintro (g | g)
      · exact g
      · have := tbx_mem g
        rw [List.length_append, List.length_cons] at this
        omega
    · exact Or.inl
theorem sSort_of {at' : List At} {q : At} (h : q ∈ at') (hl : q.1 < 26) (hp : at'.Pairwise (fun a b => ¬ a.1 = b.1)) : q ∈ sSort at' := by
  have hf : at'.find? (fun y => y.1 == q.1) = some q := by
    have : ∀ (xs : List At), q ∈ xs → xs.Pairwise (fun a b => ¬ a.1 = b.1) → xs.find? (fun y => y.1 == q.1) = some q := by
      intro xs
      induction xs with
      | nil => intro h _; simp at h
      | cons y ys ih =>
        intro h hp
        rw [List.pairwise_cons] at hp
        rw [List.find?_cons]
        rcases List.mem_cons.mp h with g | g
        · rw [← g]; simp
        · have := hp.1 q g
          have e : (y.1 == q.1) = false := by simpa using this
          rw [e]
          exact ih g hp.2
    exact this at' h hp
  have : ∀ (j a : Nat), a ≤ q.1 → q.1 < a + j → q ∈ sSortF at' a j := by
    intro j
    induction j with
    | zero => intro a h1 h2; omega
    | succ j ih =>
      intro a h1 h2
      rw [show sSortF at' a (j + 1) = match at'.find? (fun q => q.1 == a) with
        | none => sSortF at' (a + 1) j
        | some q => q :: sSortF at' (a + 1) j from rfl]
      by_cases c : a = q.1
      · rw [c, hf]
        exact List.mem_cons_self
      · have := ih (a + 1) (by omega) (by omega)
        split
        · exact this
        · exact List.mem_cons_of_mem _ this
  exact this 26 0 (Nat.zero_le _) (by omega)
theorem pw_same {xs : List At} (hp : xs.Pairwise (fun a b => ¬ a.1 = b.1)) {q z : At} (h1 : q ∈ xs) (h2 : z ∈ xs) (he : q.1 = z.1) : q = z := by
  induction xs with
  | nil => simp at h1
  | cons y ys ih =>
    rw [List.pairwise_cons] at hp
    rcases List.mem_cons.mp h1 with g1 | g1
    · rcases List.mem_cons.mp h2 with g2 | g2
      · rw [g1, g2]
      · have := hp.1 z g2
        rw [← g1] at this
        exact absurd he this
    · rcases List.mem_cons.mp h2 with g2 | g2
      · have := hp.1 q g1
        rw [← g2] at this
        exact absurd he.symm this
      · exact ih hp.2 g1 g2
/-- both find it or not -/
theorem findBoth {cd bg en ch al vb ve vr : RowF} {R : RW} {nd : List Nd} (hT : KT cd bg en ch al vb ve vr nd) (hR : R0 nd R) (hw : ∀ x ∈ nd, WN x) (hN : nd.length ≤ 200) (hA : acM nd ≤ 100) (hS : stoM nd ≤ 200) (v1 v2 : Int32) : (f_X7_findAttribute (nI nd.length) (nI (acN nd)) cd bg en al v1 v2 = some (-1) ∧ f_X10_find R.ct R.ac R.ow R.an v1 v2 = some (-1)) ∨ ∃ (pl pl' s s' : Nat) (v : List Int32), f_X7_findAttribute (nI nd.length) (nI (acN nd)) cd bg en al v1 v2 = some (nI pl) ∧ f_X10_find R.ct R.ac R.ow R.an v1 v2 = some (nI pl') ∧ pl < acN nd ∧ pl' < acM nd ∧ vb pl = nI s ∧ ve pl = nI (s + v.length) ∧ seg vr s v ∧ s + v.length ≤ vsN nd ∧ R.vf pl' = nI s' ∧ R.vt pl' = nI (s' + v.length) ∧ seg R.so s' v ∧ s' + v.length ≤ stoM nd := by
  have hacn := acN_le nd
  have hcv := cvN_le nd
  have hkr : ∀ (hv : v1 < 0 ∨ (nI nd.length ≤ v1 ∧ ¬ v1 < 0)), f_X7_findAttribute (nI nd.length) (nI (acN nd)) cd bg en al v1 v2 = some (-1) ∧ f_X10_find R.ct R.ac R.ow R.an v1 v2 = some (-1) := by
    intro hv
    constructor
    · unfold f_X7_findAttribute f_X7_kindOf
      rw [hasN0 hv]
      rfl
    · unfold f_X10_find
      rw [f_X10_find_L2, show (0 : Int32) = nI 0 from rfl, pu_gi (by decide) (by decide), isN0 hR.2.1 hv]
      split <;> rfl
  rcases pu_cases v1 nd.length (by omega) with h | h | ⟨i, hi, hvi⟩
  · exact Or.inl (hkr (Or.inl h))
  · exact Or.inl (hkr (Or.inr h))
  · obtain ⟨p, x, r, e, hr⟩ := nodeAt hi
    have hx := hw x (by rw [e]; simp)
    have hK : KT cd bg en ch al vb ve vr (x :: r) := by rw [e] at hT; exact KT.drop p hT
    have hkind := kindC hK (N := nd.length) (by omega) hN
    rw [hr] at hkind
    have hk3 : x.1 ≤ 3 := by have := hx.1; omega
    have e3 : (nI x.1 = 3) = (x.1 = 3) := pu_e (b := 3) (by omega) (by decide)
    have hRB := RB_of hR.1
    have hmono : ∀ (p s : List Nd), acN s ≤ acN (p ++ s) ∧ vsN s ≤ vsN (p ++ s) := by
      intro p s
      induction p with
      | nil => exact ⟨Nat.le_refl _, Nat.le_refl _⟩
      | cons z p ihp =>
        simp only [List.cons_append, acN, vsN]
        omega
    have hm := hmono p (x :: r)
    rw [← e] at hm
    have hac1 : acN (x :: r) = acN r + (sSort x.2.2.2.2.2).length := rfl
    have hvs1 : vsN (x :: r) = vsN r + vLen (sSort x.2.2.2.2.2) := rfl
    have hbd := tb_bd hw hN hS
    have htb : ∀ z ∈ tb nd, z.2.1 + z.2.2.2.length ≤ stoM nd := by
      have hx : ∀ (i : Nat) (xs : List At) (s : Nat) (z : Row3), z ∈ tbx i s xs → z.2.1 + z.2.2.2.length ≤ s + vLen xs := by
        intro i xs
        induction xs with
        | nil => intro s z h; simp [tbx] at h
        | cons q r ih =>
          intro s z h
          have hv : vLen (q :: r) = q.2.length + vLen r := rfl
          rcases List.mem_cons.mp h with g | g
          · rw [g]
            show s + q.2.length ≤ _
            omega
          · have := ih _ z g
            omega
      have key : ∀ (nd : List Nd), ∀ z ∈ tb nd, z.2.1 + z.2.2.2.length ≤ stoM nd := by
        intro nd
        induction nd with
        | nil => intro z h; simp [tb] at h
        | cons x r ih =>
          intro z h
          have hst : stoM (x :: r) = stoM r + x.2.2.2.2.1.length + vLen x.2.2.2.2.2 := rfl
          rcases List.mem_append.mp (show z ∈ tb r ++ tbx r.length (stoM r) x.2.2.2.2.2 from h) with g | g
          · have := ih z g
            omega
          · have h2 := hx _ _ _ z g
            omega
      exact key nd
    have hRef := refF (R := R) (v2 := v2) hvi hi hN hR.2.1 hR.2.2 hA (tb nd) 0 1000 hRB (by rw [tb_len, Nat.zero_add]) (by rw [tb_len]; omega) (fun z hz => (hbd z hz).1)
    have hRef' : (f_X10_find R.ct R.ac R.ow R.an v1 v2 = some (-1) ∧ ∀ z ∈ tb nd, ¬ (z.1 = i ∧ nI z.2.2.1 = v2)) ∨ ∃ z pl, z ∈ tb nd ∧ z.1 = i ∧ nI z.2.2.1 = v2 ∧ f_X10_find R.ct R.ac R.ow R.an v1 v2 = some (nI pl) ∧ pl < acM nd ∧ R.vf pl = nI z.2.1 ∧ R.vt pl = nI (z.2.1 + z.2.2.2.length) ∧ seg R.so z.2.1 z.2.2.2 := hRef
    have hmem : ∀ z ∈ tb nd, z.1 = i → z.2.2 ∈ x.2.2.2.2.2 := by
      intro z hz hzi
      rw [e] at hz
      exact tbx_to ((tb_at p z (by omega)).mp hz)
    by_cases c3 : x.1 = 3
    · have hK2 := hK.2.1
      rw [if_pos c3] at hK2
      obtain ⟨k1, k2, k3⟩ := hK2
      rw [hr] at k1 k2
      have hBeg : f_X7_beginOf (nI nd.length) bg v1 = some (nI (acN r)) := by
        rw [hvi]
        unfold f_X7_beginOf
        rw [hasNodeC hi hN, Option.bind_some, if_neg (by decide), pu_gi (by omega) (by decide), nI_clamp (by omega), k1]
      have hCls := clsF (cd := cd) (bg := bg) (VS := vsN nd) (v2 := v2) hvi hi hN k2 (show acN nd ≤ 100 by omega) (by omega) (sSort x.2.2.2.2.2) (acN r) (vsN r) 1000 k3 rfl (by omega) (by have := sSort_len x.2.2.2.2.2; have := len26 (fun q hq => (hx.2.2.2.2.2.2.1 q hq).1) hx.2.2.2.2.2.2.2.1; omega)
      have hfa : f_X7_findAttribute (nI nd.length) (nI (acN nd)) cd bg en al v1 v2 = f_X7_findAttribute_L17 (nI nd.length) (nI (acN nd)) cd bg en al v1 v2 1000 (nI (acN r)) := by
        unfold f_X7_findAttribute
        rw [show f_X7_kindOf (nI nd.length) cd v1 = some (nI x.1) by rw [hvi]; exact hkind, Option.bind_some]
        simp only [e3]
        rw [if_pos c3, hBeg, Option.bind_some]
      rw [hfa]
      rcases hCls with ⟨q1, q2⟩ | ⟨q, pl, s, q1, q2, q3, q4, q5, q6, q7, q8⟩
      · rcases hRef' with ⟨z1, z2⟩ | ⟨z, pl', z1, z2, z3, z4⟩
        · exact Or.inl ⟨q1, z1⟩
        · have hz := hmem z z1 z2
          exact absurd z3 (q2 z.2.2 (sSort_of hz (hx.2.2.2.2.2.2.1 _ hz).1 hx.2.2.2.2.2.2.2.1))
      · have hq := sSort_mem q1
        rcases hRef' with ⟨z1, z2⟩ | ⟨z, pl', z1, z2, z3, z4, z5, z6, z7, z8⟩
        · obtain ⟨z, y1, y2, y3⟩ := tbx_of (i := r.length) (s := stoM r) hq
          have : z ∈ tb nd := by rw [e]; exact (tb_at p z y2).mpr y1
          exact absurd ⟨by omega, by rw [y3]; exact q2⟩ (z2 z this)
        · have hz := hmem z z1 z2
          have hl1 := (hx.2.2.2.2.2.2.1 _ hz).1
          have hl2 := (hx.2.2.2.2.2.2.1 _ hq).1
          have hel : q.1 = z.2.2.1 := by
            have : nI q.1 = nI z.2.2.1 := by rw [q2, z3]
            rw [pu_e (by omega) (by omega)] at this
            exact this
          have heq := pw_same hx.2.2.2.2.2.2.2.1 hq hz hel
          right
          refine ⟨pl, pl', s, z.2.1, q.2, q3, z4, q4, z5, q5, q6, q7, ?_, z6, ?_, ?_, ?_⟩
          · omega
          · rw [heq]; exact z7
          · rw [heq]; exact z8
          · rw [heq]; exact htb z z1
    · left
      have h0 : x.2.2.2.2.2 = [] := (hx.2.2.2.1 c3).2.2
      refine ⟨?_, ?_⟩
      · unfold f_X7_findAttribute
        rw [show f_X7_kindOf (nI nd.length) cd v1 = some (nI x.1) by rw [hvi]; exact hkind, Option.bind_some]
        simp only [e3]
        rw [if_neg c3]
      · rcases hRef' with ⟨z1, z2⟩ | ⟨z, pl', z1, z2, z3, z4⟩
        · exact z1
        · have hz := hmem z z1 z2
          rw [h0] at hz
          simp at hz
theorem sub_nI {a b : Nat} (h : b ≤ a) : nI a - nI b = nI (a - b) := pk_sub h
theorem lenBoth {cd bg en ch al vb ve vr : RowF} {R : RW} {nd : List Nd} (hT : KT cd bg en ch al vb ve vr nd) (hR : R0 nd R) (hw : ∀ x ∈ nd, WN x) (hN : nd.length ≤ 200) (hA : acM nd ≤ 100) (hS : stoM nd ≤ 200) (v1 v2 : Int32) : ∃ r, f_X9_length (nI nd.length) (nI (acN nd)) cd bg en al vb ve v1 v2 = some r ∧ f_X10_length R.ct R.ac R.ow R.an R.vf R.vt v1 v2 = some r := by
  have hacn := acN_le nd
  unfold f_X9_length f_X10_length
  rcases findBoth hT hR hw hN hA hS v1 v2 with ⟨h1, h2⟩ | ⟨pl, pl', s, s', v, h1, h2, h3, h4, h5, h6, h7, h8, h9, h10, h11, h12⟩
  · rw [h1, h2]
    exact ⟨-1, rfl, rfl⟩
  · rw [h1, h2, Option.bind_some, Option.bind_some, if_neg (nI_ne (by omega)), pu_gi (show pl' < 256 by omega) (by decide), pu_gi (show pl' < 256 by omega) (by decide), nI_clamp (show pl' < 2 ^ 31 by omega), h9, h10]
    unfold f_X7_sizeOfValue
    rw [hasAC h3 (by omega), Option.bind_some, if_neg (by decide), pu_gi (show pl < 100 by omega) (by decide), pu_gi (show pl < 100 by omega) (by decide), nI_clamp (show pl < 2 ^ 31 by omega), h5, h6, sub_nI (by omega), sub_nI (by omega)]
    refine ⟨nI v.length, ?_, ?_⟩
    · rw [show s + v.length - s = v.length by omega]
      rfl
    · rw [show s' + v.length - s' = v.length by omega]
theorem valBoth {cd bg en ch al vb ve vr : RowF} {R : RW} {nd : List Nd} (hT : KT cd bg en ch al vb ve vr nd) (hR : R0 nd R) (hw : ∀ x ∈ nd, WN x) (hN : nd.length ≤ 200) (hA : acM nd ≤ 100) (hS : stoM nd ≤ 200) (v1 v2 key : Int32) : ∃ r, f_X9_value (nI nd.length) (nI (acN nd)) cd bg en al vb ve (nI (vsN nd)) vr v1 v2 key = some r ∧ f_X10_value R.ct R.ac R.ow R.an R.vf R.vt R.so v1 v2 key = some r := by
  have hacn := acN_le nd
  have hcv := cvN_le nd
  unfold f_X9_value f_X10_value
  rcases findBoth hT hR hw hN hA hS v1 v2 with ⟨h1, h2⟩ | ⟨pl, pl', s, s', v, h1, h2, h3, h4, h5, h6, h7, h8, h9, h10, h11, h12⟩
  · rw [h1, h2, Option.bind_some, Option.bind_some, if_pos rfl]
    refine ⟨0, ?_, rfl⟩
    have e1 : f_X7_valueBeginOf (nI (acN nd)) vb (-1) = some 0 := rfl
    have e2 : f_X7_valueEndOf (nI (acN nd)) ve (-1) = some 0 := rfl
    unfold f_X7_eightOfValue
    rw [e1, e2, Option.bind_some, Option.bind_some, eight0 (by omega)]
    rfl
  · rw [h1, h2, Option.bind_some, Option.bind_some, if_neg (nI_ne (by omega)), pu_gi (show pl' < 256 by omega) (by decide), pu_gi (show pl' < 256 by omega) (by decide), nI_clamp (show pl' < 2 ^ 31 by omega), h9, h10]
    unfold f_X7_eightOfValue
    rw [vbOfC h3 (by omega), veOfC h3 (by omega), Option.bind_some, Option.bind_some, h5, h6]
    obtain ⟨res, r1, r2⟩ := eightBoth (size := vsN nd) (b := s) (b' := s') (v := v) (by omega) h8 (by omega) (fun i hi => (KT_ch hT hw).2 i (by omega)) (fun i hi => by have := RT_ch hR.1 hw i (by omega); rw [Nat.zero_add] at this; exact this) h7 h11 key
    rw [r1, r2]
    exact ⟨res, rfl, rfl⟩
