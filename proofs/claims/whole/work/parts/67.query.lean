/-! what is asked about the first tree -/
theorem pk_congr {c c' : Nat → Nat} : ∀ j, (∀ i, i < j → c i = c' i) → pu_pk c j = pu_pk c' j
  | 0, _ => rfl
  | j + 1, h => by
    show pu_pk c j + c j * 2 ^ (8 * j) = pu_pk c' j + c' j * 2 ^ (8 * j)
    rw [pk_congr j (fun i hi => h i (by omega)), h j (by omega)]
def chF (row : RowF) : Nat → Nat := fun i => (row i).toNatClampNeg
theorem chF_ok {row : RowF} {i : Nat} (h : pu_ch (row i)) : row i = nI (chF row i) ∧ chF row i < 256 := by
  obtain ⟨k, h1, h2, e⟩ := h
  have : chF row i = k := by
    show (row i).toNatClampNeg = k
    rw [e, nI_clamp (by omega)]
  rw [this]
  exact ⟨e, by omega⟩
theorem eightBoth {row so : RowF} {size b b' : Nat} {v : List Int32} (hs : size ≤ 200) (he : b + v.length ≤ size) (he' : b' + v.length ≤ 512) (h1 : ∀ i, i < b + v.length → pu_ch (row i)) (h2 : ∀ i, i < b' + v.length → pu_ch (so i)) (g1 : seg row b v) (g2 : seg so b' v) (key : Int32) : ∃ r, f_X1_eight (nI size) row (nI b) (nI (b + v.length)) key = some r ∧ f_X10_stretch so (nI b') (nI (b' + v.length)) key = some r := by
  rcases pu_eight (row := row) (b := b) (ch := chF row) hs he (by omega) (fun i hi => chF_ok (h1 i hi)) key with ⟨k, hk, rfl, h⟩ | ⟨hk, h⟩
  · refine ⟨_, h, ?_⟩
    rw [pu_stretch (ch := chF so) he' (by omega) (fun i hi => chF_ok (h2 i hi)) hk]
    congr 2
    apply pk_congr
    intro i _
    unfold pu_cs
    by_cases c : 8 * k + i < v.length
    · rw [if_pos (by omega), if_pos (by omega)]
      show (so (b' + 8 * k + i)).toNatClampNeg = (row (b + 8 * k + i)).toNatClampNeg
      rw [Nat.add_assoc, Nat.add_assoc, g1 _ c, g2 _ c]
    · rw [if_neg (by omega), if_neg (by omega)]
  · exact ⟨0, h, pu_stretch0 _ _ _ _ hk⟩
theorem outBoth {row outp : RowF} {n : Nat} (hn : n ≤ 200) (h1 : ∀ i, i < n → pu_ch (row i)) (h2 : ∀ i, i < n → outp i = row i) (key : Int32) : ∃ r, f_X9_output (nI n) row key = some r ∧ f_X10_output (nI n) outp key = some r := by
  have hc := fun i (hi : i < n) => chF_ok (h1 i hi)
  have hc2 : ∀ i, i < n → outp i = nI (chF row i) ∧ chF row i < 256 := fun i hi => by rw [h2 i hi]; exact hc i hi
  unfold f_X9_output f_X1_size
  rw [Option.bind_some, show (0 : Int32) = nI 0 from rfl]
  rcases pu_eight (size := n) (b := 0) (e := n) (ch := chF row) hn (Nat.le_refl _) (by omega) hc key with ⟨k, hk, rfl, h⟩ | ⟨hk, h⟩
  · rw [h]
    exact ⟨_, rfl, pu_outR hn hc2 hk⟩
  · rw [h]
    exact ⟨0, rfl, pu_outR0 _ _ _ hk⟩
theorem eight0 {row : RowF} {size : Nat} (hs : size ≤ 200) (key : Int32) : f_X1_eight (nI size) row 0 0 key = some 0 := by
  rcases pu_eight (size := size) (row := row) (b := 0) (e := 0) (ch := fun _ => 0) hs (Nat.zero_le _) (by omega) (fun i hi => by omega) key with ⟨k, hk, rfl, h⟩ | ⟨hk, h⟩
  · have h' : f_X1_eight (nI size) row 0 0 (nI k) = _ := h
    rw [h', pu_pk0 (fun i _ => by unfold pu_cs; split <;> rfl) 8 (Nat.le_refl _)]
    rfl
  · exact h
/-! all characters that are kept are plain -/
theorem KT_ch {cd bg en ch al vb ve vr : RowF} : ∀ {nd : List Nd}, KT cd bg en ch al vb ve vr nd → (∀ x ∈ nd, WN x) → (∀ i, i < chN nd → pu_ch (ch i)) ∧ (∀ i, i < vsN nd → pu_ch (vr i))
  | [], _, _ => ⟨fun i hi => by simp [chN] at hi, fun i hi => by simp [vsN] at hi⟩
  | x :: r, h, hw => by
    obtain ⟨h1, h2, h3⟩ := h
    have ih := KT_ch h3 (fun y hy => hw y (List.mem_cons_of_mem _ hy))
    have hx := hw x List.mem_cons_self
    have hc : chN (x :: r) = chN r + x.2.2.2.2.1.length := rfl
    have hv : vsN (x :: r) = vsN r + vLen (sSort x.2.2.2.2.2) := rfl
    have hKA : ∀ (xs : List At) (a s : Nat), KA al vb ve vr xs a s → (∀ q ∈ xs, ∀ c ∈ q.2, pu_ch c) → ∀ i, s ≤ i → i < s + vLen xs → pu_ch (vr i) := by
      intro xs
      induction xs with
      | nil => intro a s _ _ i h1 h2; simp [vLen] at h2; omega
      | cons q xs ihx =>
        intro a s hk hq i h1 h2
        obtain ⟨g1, g2, g3, g4, g5⟩ := hk
        have hvl : vLen (q :: xs) = q.2.length + vLen xs := rfl
        by_cases c : i < s + q.2.length
        · have := g4 (i - s) (by omega)
          rw [show s + (i - s) = i by omega] at this
          rw [this]
          exact hq q List.mem_cons_self _ (getD_mem (by omega))
        · exact ihx (a + 1) _ g5 (fun y hy => hq y (List.mem_cons_of_mem _ hy)) i (by omega) (by omega)
    by_cases c3 : x.1 = 3
    · rw [if_pos c3] at h2
      refine ⟨fun i hi => ?_, fun i hi => ?_⟩
      · rw [hc, hx.2.2.2.2.1 c3, List.length_nil, Nat.add_zero] at hi
        exact ih.1 i hi
      · by_cases c : i < vsN r
        · exact ih.2 i c
        · exact hKA _ _ _ h2.2.2 (fun q hq => (hx.2.2.2.2.2.2.1 q (sSort_mem hq)).2) i (by omega) (by omega)
    · rw [if_neg c3] at h2
      refine ⟨fun i hi => ?_, fun i hi => ?_⟩
      · by_cases c : i < chN r
        · exact ih.1 i c
        · have := h2.2.2 (i - chN r) (by omega)
          rw [show chN r + (i - chN r) = i by omega] at this
          rw [this]
          exact hx.2.2.2.2.2.1 _ (getD_mem (by omega))
      · rw [hv, (hx.2.2.2.1 c3).2.2, sSort_nil] at hi
        exact ih.2 i hi
theorem RT_ch {B A : Nat} {kd le pr dp fo fr to so ow an vf vt : RowF} : ∀ {nd : List Nd}, RT B A kd le pr dp fo fr to so ow an vf vt nd → (∀ x ∈ nd, WN x) → ∀ i, i < stoM nd → pu_ch (so (B + i))
  | [], _, _, i, hi => by simp [stoM] at hi
  | x :: r, h, hw, i, hi => by
    obtain ⟨h1, h2, h3, h4⟩ := h
    have ih := RT_ch h4 (fun y hy => hw y (List.mem_cons_of_mem _ hy))
    have hx := hw x List.mem_cons_self
    have hst : stoM (x :: r) = stoM r + x.2.2.2.2.1.length + vLen x.2.2.2.2.2 := rfl
    have hRA : ∀ (o : Int32) (xs : List At) (a s : Nat), RA B A ow an vf vt so o xs a s → (∀ q ∈ xs, ∀ c ∈ q.2, pu_ch c) → ∀ i, s ≤ i → i < s + vLen xs → pu_ch (so (B + i)) := by
      intro o xs
      induction xs with
      | nil => intro a s _ _ i h1 h2; simp [vLen] at h2; omega
      | cons q xs ihx =>
        intro a s hk hq i h1 h2
        obtain ⟨g1, g2, g3, g4, g5, g6⟩ := hk
        have hvl : vLen (q :: xs) = q.2.length + vLen xs := rfl
        by_cases c : i < s + q.2.length
        · have := g5 (i - s) (by omega)
          rw [show B + s + (i - s) = B + i by omega] at this
          rw [this]
          exact hq q List.mem_cons_self _ (getD_mem (by omega))
        · exact ihx (a + 1) _ g6 (fun y hy => hq y (List.mem_cons_of_mem _ hy)) i (by omega) (by omega)
    by_cases c : i < stoM r
    · exact ih i c
    · by_cases c3 : x.1 = 3
      · have h0 : x.2.2.2.2.1.length = 0 := by rw [hx.2.2.2.2.1 c3]; rfl
        exact hRA _ _ _ _ h3 (fun q hq => (hx.2.2.2.2.2.2.1 q hq).2) i (by omega) (by omega)
      · have h0 : vLen x.2.2.2.2.2 = 0 := by rw [(hx.2.2.2.1 c3).2.2]; rfl
        have := (h2 c3).2.2 (i - stoM r) (by omega)
        rw [show B + stoM r + (i - stoM r) = B + i by omega] at this
        rw [this]
        exact hx.2.2.2.2.2.1 _ (getD_mem (by omega))
/-! a number of a node -/
theorem nodeAt {nd : List Nd} {i : Nat} (h : i < nd.length) : ∃ p x r, nd = p ++ x :: r ∧ r.length = i := by
  have hl : (nd.drop (nd.length - i)).length = i := by rw [List.length_drop]; omega
  have hk : nd.length - i - 1 < nd.length := by omega
  refine ⟨nd.take (nd.length - i - 1), nd[nd.length - i - 1], nd.drop (nd.length - i), ?_, hl⟩
  have h1 := (List.take_append_drop (nd.length - i - 1) nd).symm
  rw [List.drop_eq_getElem_cons hk] at h1
  rw [show nd.length - i - 1 + 1 = nd.length - i by omega] at h1
  exact h1
theorem hasN0 {N : Nat} {v : Int32} (h : v < 0 ∨ (nI N ≤ v ∧ ¬ v < 0)) : f_X7_hasNode (nI N) v = some 0 := by
  unfold f_X7_hasNode
  rcases h with h | h
  · rw [if_pos h]
  · rw [if_neg h.2, if_pos h.1]
theorem isN0 {N : Nat} {ct : RowF} (hc : ct 0 = nI N) {v : Int32} (h : v < 0 ∨ (nI N ≤ v ∧ ¬ v < 0)) : f_X10_isNode ct v = some 0 := by
  unfold f_X10_isNode
  rcases h with h | h
  · rw [if_pos h]
  · rw [if_neg h.2, show (0 : Int32) = nI 0 from rfl, pu_gi (by decide) (by decide), nI_clamp (by decide), hc, if_pos h.1]
theorem isN1 {N i : Nat} {ct : RowF} (hc : ct 0 = nI N) (hi : i < N) (hN : N ≤ 200) : f_X10_isNode ct (nI i) = some 1 := by
  unfold f_X10_isNode
  rw [if_neg (nI_pos (by omega)), show (0 : Int32) = nI 0 from rfl, pu_gi (by decide) (by decide), nI_clamp (by decide), hc, if_neg (nI_ge hi (by omega))]
theorem nodeBoth {cd bg en ch al vb ve vr : RowF} {R : RW} {nd : List Nd} (hT : KT cd bg en ch al vb ve vr nd) (hR : R0 nd R) (hw : ∀ x ∈ nd, WN x) (hN : nd.length ≤ 200) (v : Int32) : ∃ r, f_X9_node (nI nd.length) cd v = some r ∧ f_X10_node R.ct R.kd R.le R.dp R.fo v = some r := by
  unfold f_X9_node f_X7_codeOf f_X10_node
  rcases pu_cases v nd.length (by omega) with h | h | ⟨i, hi, rfl⟩
  · rw [hasN0 (Or.inl h), isN0 hR.2.1 (Or.inl h)]
    exact ⟨-1, rfl, rfl⟩
  · rw [hasN0 (Or.inr h), isN0 hR.2.1 (Or.inr h)]
    exact ⟨-1, rfl, rfl⟩
  · obtain ⟨p, x, r, e, hr⟩ := nodeAt hi
    have hx := hw x (by rw [e]; simp)
    have hK : KT cd bg en ch al vb ve vr (x :: r) := by rw [e] at hT; exact KT.drop p hT
    have hRx := hR.1
    rw [e] at hRx
    have hRx := RT.drop p hRx
    obtain ⟨⟨g1, g2, g3, g4, g5⟩, -⟩ := hRx
    rw [Nat.zero_add, hr] at g1 g2 g4 g5
    have hc := hK.1.1
    rw [hr] at hc
    rw [hasNodeC hi hN, isN1 hR.2.1 hi hN, Option.bind_some, Option.bind_some, if_neg (by decide), if_neg (by decide), pu_gi (by omega) (by decide), pu_gi (by omega) (by decide), pu_gi (by omega) (by decide), pu_gi (by omega) (by decide), pu_gi (by omega) (by decide), nI_clamp (by omega), hc, g1, g2, g4, g5]
    refine ⟨_, rfl, ?_⟩
    simp only [b2_0]
    unfold cdN
    rw [show (4 : Int32) * nI x.2.1 = nI (4 * x.2.1) from pk_mul 4 _, show (128 : Int32) * nI x.2.2.1 = nI (128 * x.2.2.1) from pk_mul 128 _, nI_add, nI_add]
    cases x.2.2.2.1 with
    | false =>
      rw [if_pos rfl]
      show some (nI _ + nI 0) = _
      rw [nI_add]
      rfl
    | true =>
      rw [if_neg (by decide)]
      show some (nI _ + nI 4096) = _
      rw [nI_add]
      rfl
theorem textBoth {cd bg en ch al vb ve vr : RowF} {R : RW} {nd : List Nd} (hT : KT cd bg en ch al vb ve vr nd) (hR : R0 nd R) (hw : ∀ x ∈ nd, WN x) (hN : nd.length ≤ 200) (hS : stoM nd ≤ 200) (v key : Int32) : ∃ r, f_X9_text (nI nd.length) cd bg en (nI (chN nd)) ch v key = some r ∧ f_X10_text R.ct R.kd R.fr R.to R.so v key = some r := by
  unfold f_X9_text f_X7_eightOfText f_X10_text
  rcases pu_cases v nd.length (by omega) with h | h | ⟨i, hi, rfl⟩
  · rw [hasN0 (Or.inl h), isN0 hR.2.1 (Or.inl h)]
    exact ⟨0, rfl, rfl⟩
  · rw [hasN0 (Or.inr h), isN0 hR.2.1 (Or.inr h)]
    exact ⟨0, rfl, rfl⟩
  · obtain ⟨p, x, r, e, hr⟩ := nodeAt hi
    have hx := hw x (by rw [e]; simp)
    have hK : KT cd bg en ch al vb ve vr (x :: r) := by rw [e] at hT; exact KT.drop p hT
    have hRx := hR.1
    rw [e] at hRx
    have hRx := RT.drop p hRx
    obtain ⟨⟨g1, -⟩, gt, -⟩ := hRx
    have hkind := kindC hK (N := nd.length) (by omega) hN
    rw [Nat.zero_add, hr] at g1
    rw [hr] at hkind
    have hk3 : x.1 ≤ 3 := by have := hx.1; omega
    have e3 : (nI x.1 = 3) = (x.1 = 3) := pu_e (b := 3) (by omega) (by decide)
    rw [hasNodeC hi hN, isN1 hR.2.1 hi hN, Option.bind_some, Option.bind_some, if_neg (by decide), if_neg (by decide), hkind, Option.bind_some, pu_gi (show i < 200 by omega) (by decide), pu_gi (show i < 200 by omega) (by decide), pu_gi (show i < 512 by omega) (by decide), pu_gi (show i < 512 by omega) (by decide), pu_gi (show i < 512 by omega) (by decide), nI_clamp (by omega), g1]
    simp only [e3]
    by_cases c3 : x.1 = 3
    · rw [if_pos c3, if_pos c3]
      exact ⟨0, rfl, rfl⟩
    · rw [if_neg c3, if_neg c3]
      have hK2 := hK.2.1
      rw [if_neg c3] at hK2
      obtain ⟨k1, k2, k3⟩ := hK2
      obtain ⟨t1, t2, t3⟩ := gt c3
      rw [Nat.zero_add, hr] at t1 t2
      rw [hr] at k1 k2
      have hv0 : vLen x.2.2.2.2.2 = 0 := by rw [(hx.2.2.2.1 c3).2.2]; rfl
      have hmono : ∀ (p s : List Nd), stoM s ≤ stoM (p ++ s) ∧ chN s ≤ chN (p ++ s) := by
        intro p s
        induction p with
        | nil => exact ⟨Nat.le_refl _, Nat.le_refl _⟩
        | cons z p ihp =>
          simp only [List.cons_append, stoM, chN]
          omega
      have hm := hmono p (x :: r)
      rw [← e] at hm
      have hs1 : stoM (x :: r) = stoM r + x.2.2.2.2.1.length + vLen x.2.2.2.2.2 := rfl
      have hc1 : chN (x :: r) = chN r + x.2.2.2.2.1.length := rfl
      have hcv := cvN_le nd
      rw [k1, k2, t1, t2, hc1, hs1, hv0, Nat.add_zero]
      have t3' : seg R.so (stoM r) x.2.2.2.2.1 := by
        rw [Nat.zero_add] at t3
        exact t3
      obtain ⟨res, r1, r2⟩ := eightBoth (size := chN nd) (b := chN r) (b' := stoM r) (v := x.2.2.2.2.1) (by omega) (by omega) (by omega) (fun i hi => (KT_ch hT hw).1 i (by omega)) (fun i hi => by have := RT_ch hR.1 hw i (by omega); rw [Nat.zero_add] at this; exact this) k3 t3' key
      rw [r1, r2]
      exact ⟨res, rfl, rfl⟩
