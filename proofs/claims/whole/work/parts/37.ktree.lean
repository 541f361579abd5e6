/-! the class's tree: rows against nodes -/
def seg (row : Nat → Int32) (k : Nat) (xs : List Int32) : Prop := ∀ i, i < xs.length → row (k + i) = xs.getD i 0
theorem seg_ap (row : Nat → Int32) (k : Nat) (xs : List Int32) : seg (ap row k xs) k xs := fun i hi => ap_at xs row k i hi
theorem seg_eq {row row' : Nat → Int32} {k : Nat} {xs : List Int32} (h : seg row k xs) (he : ∀ j, j < k + xs.length → row' j = row j) : seg row' k xs := fun i hi => by rw [he _ (by omega)]; exact h i hi
theorem seg_app {row : Nat → Int32} {k : Nat} {xs ys : List Int32} (h1 : seg row k xs) (h2 : seg row (k + xs.length) ys) : seg row k (xs ++ ys) := by
  intro i hi
  rw [List.length_append] at hi
  rw [List.getD_eq_getElem?_getD, List.getElem?_append]
  by_cases h : i < xs.length
  · rw [if_pos h, ← List.getD_eq_getElem?_getD]
    exact h1 i h
  · rw [if_neg h, ← List.getD_eq_getElem?_getD, ← h2 (i - xs.length) (by omega)]
    congr 1
    omega
abbrev At : Type := Nat × List Int32
/-- the attributes in the order of their letters, from a on -/
def sSortF (at' : List At) : Nat → Nat → List At
  | _, 0 => []
  | a, j + 1 => match at'.find? (fun q => q.1 == a) with
    | none => sSortF at' (a + 1) j
    | some q => q :: sSortF at' (a + 1) j
def sSort (at' : List At) : List At := sSortF at' 0 26
def vLen : List At → Nat
  | [] => 0
  | q :: r => q.2.length + vLen r
def chN : List Nd → Nat
  | [] => 0
  | x :: r => chN r + x.2.2.2.2.1.length
def acN : List Nd → Nat
  | [] => 0
  | x :: r => acN r + (sSort x.2.2.2.2.2).length
def vsN : List Nd → Nat
  | [] => 0
  | x :: r => vsN r + vLen (sSort x.2.2.2.2.2)
theorem sSortF_nil : ∀ j a, sSortF [] a j = []
  | 0, _ => rfl
  | j + 1, a => sSortF_nil j (a + 1)
theorem sSort_nil : sSort [] = [] := sSortF_nil 26 0
/-- sums of weights -/
def sumP (w : At → Nat) (P : At → Bool) : List At → Nat
  | [] => 0
  | q :: r => (if P q = true then w q else 0) + sumP w P r
theorem sumP_split (w : At → Nat) {P A B : At → Bool} (h : ∀ q, P q = (A q || B q)) (hd : ∀ q, ¬ (A q = true ∧ B q = true)) : ∀ xs, sumP w P xs = sumP w A xs + sumP w B xs
  | [] => rfl
  | q :: r => by
    unfold sumP
    rw [sumP_split w h hd r, h q]
    have := hd q
    cases ha : A q <;> cases hb : B q <;> simp_all <;> omega
theorem sumP_find (w : At → Nat) {A : At → Bool} {q : At} : ∀ {xs : List At}, xs.find? A = some q → w q ≤ sumP w A xs
  | [], h => by cases h
  | x :: r, h => by
    unfold sumP
    rw [List.find?_cons] at h
    cases ha : A x with
    | true =>
      rw [ha] at h
      cases h
      simp
    | false =>
      rw [ha] at h
      have := sumP_find w (xs := r) h
      simp only [Bool.false_eq_true, if_false]
      omega
theorem sumP_le (w : At → Nat) (P : At → Bool) : ∀ xs, sumP w P xs ≤ sumP w (fun _ => true) xs
  | [] => Nat.le_refl _
  | q :: r => by
    unfold sumP
    have := sumP_le w P r
    cases P q <;> simp <;> omega
theorem sSortF_sum (w : At → Nat) (at' : List At) : ∀ j a, sumP w (fun _ => true) (sSortF at' a j) ≤ sumP w (fun q => decide (a ≤ q.1 ∧ q.1 < a + j)) at'
  | 0, a => by unfold sSortF; exact Nat.zero_le _
  | j + 1, a => by
    have ih := sSortF_sum w at' j (a + 1)
    have hs := sumP_split w (P := fun q => decide (a ≤ q.1 ∧ q.1 < a + (j + 1))) (A := fun q => q.1 == a) (B := fun q => decide (a + 1 ≤ q.1 ∧ q.1 < a + 1 + j)) (fun q => by
      rw [Bool.eq_iff_iff]
      simp
      omega) (fun q => by simp; omega) at'
    rw [hs]
    unfold sSortF
    split
    · omega
    · rename_i q hq
      have := sumP_find w hq
      have e : sumP w (fun _ => true) (q :: sSortF at' (a + 1) j) = w q + sumP w (fun _ => true) (sSortF at' (a + 1) j) := by rw [sumP, if_pos rfl]
      omega
theorem sumP_len : ∀ xs : List At, sumP (fun _ => 1) (fun _ => true) xs = xs.length
  | [] => rfl
  | q :: r => by
    unfold sumP
    rw [sumP_len r, if_pos rfl, List.length_cons]
    omega
theorem sumP_vLen : ∀ xs : List At, sumP (fun q => q.2.length) (fun _ => true) xs = vLen xs
  | [] => rfl
  | q :: r => by
    unfold sumP vLen
    rw [sumP_vLen r, if_pos rfl]
theorem sSort_len (at' : List At) : (sSort at').length ≤ at'.length := by
  have h1 := sSortF_sum (fun _ => 1) at' 26 0
  have h2 := sumP_le (fun _ => 1) (fun q => decide (0 ≤ q.1 ∧ q.1 < 0 + 26)) at'
  rw [sumP_len] at h1 h2
  exact Nat.le_trans h1 h2
theorem sSort_vLen (at' : List At) : vLen (sSort at') ≤ vLen at' := by
  have h1 := sSortF_sum (fun q => q.2.length) at' 26 0
  have h2 := sumP_le (fun q => q.2.length) (fun q => decide (0 ≤ q.1 ∧ q.1 < 0 + 26)) at'
  rw [sumP_vLen] at h1 h2
  exact Nat.le_trans h1 h2
def KA (al vb ve vr : Nat → Int32) : List At → Nat → Nat → Prop
  | [], _, _ => True
  | q :: r, a, s => al a = nI q.1 ∧ vb a = nI s ∧ ve a = nI (s + q.2.length) ∧ seg vr s q.2 ∧ KA al vb ve vr r (a + 1) (s + q.2.length)
theorem KA.congr {al vb ve vr al' vb' ve' vr' : Nat → Int32} : ∀ {xs : List At} {a s : Nat}, KA al vb ve vr xs a s → (∀ i, i < a + xs.length → al' i = al i ∧ vb' i = vb i ∧ ve' i = ve i) → (∀ i, i < s + vLen xs → vr' i = vr i) → KA al' vb' ve' vr' xs a s
  | [], _, _, _, _, _ => trivial
  | q :: r, a, s, h, h1, h2 => by
    obtain ⟨g1, g2, g3, g4, g5⟩ := h
    have e := h1 a (by simp)
    have hv : vLen (q :: r) = q.2.length + vLen r := rfl
    refine ⟨by rw [e.1, g1], by rw [e.2.1, g2], by rw [e.2.2, g3], seg_eq g4 (fun j hj => h2 j (by omega)), KA.congr g5 (fun i hi => h1 i (by simp; omega)) (fun i hi => h2 i (by omega))⟩
def KT (cd bg en ch al vb ve vr : Nat → Int32) : List Nd → Prop
  | [] => True
  | x :: r => (cd r.length = nI (cdN x) ∧ x.1 < 4 ∧ x.2.1 ≤ 26 ∧ x.2.2.1 ≤ 8) ∧ (if x.1 = 3 then bg r.length = nI (acN r) ∧ en r.length = nI (acN (x :: r)) ∧ KA al vb ve vr (sSort x.2.2.2.2.2) (acN r) (vsN r)
      else bg r.length = nI (chN r) ∧ en r.length = nI (chN (x :: r)) ∧ seg ch (chN r) x.2.2.2.2.1) ∧ KT cd bg en ch al vb ve vr r
theorem KT.congr {cd bg en ch al vb ve vr cd' bg' en' ch' al' vb' ve' vr' : Nat → Int32} : ∀ {nd : List Nd}, KT cd bg en ch al vb ve vr nd → (∀ i, i < nd.length → cd' i = cd i ∧ bg' i = bg i ∧ en' i = en i) → (∀ i, i < chN nd → ch' i = ch i) → (∀ i, i < acN nd → al' i = al i ∧ vb' i = vb i ∧ ve' i = ve i) → (∀ i, i < vsN nd → vr' i = vr i) → KT cd' bg' en' ch' al' vb' ve' vr' nd
  | [], _, _, _, _, _ => trivial
  | x :: r, h, h1, h2, h3, h4 => by
    obtain ⟨⟨g1, g2, g3, g4⟩, g5, g6⟩ := h
    have e := h1 r.length (by simp)
    have hc : chN (x :: r) = chN r + x.2.2.2.2.1.length := rfl
    have ha : acN (x :: r) = acN r + (sSort x.2.2.2.2.2).length := rfl
    have hv : vsN (x :: r) = vsN r + vLen (sSort x.2.2.2.2.2) := rfl
    refine ⟨⟨by rw [e.1, g1], g2, g3, g4⟩, ?_, KT.congr g6 (fun i hi => h1 i (by simp; omega)) (fun i hi => h2 i (by omega)) (fun i hi => h3 i (by omega)) (fun i hi => h4 i (by omega))⟩
    by_cases h3' : x.1 = 3
    · rw [if_pos h3'] at g5 ⊢
      exact ⟨by rw [e.2.1, g5.1], by rw [e.2.2, g5.2.1], KA.congr g5.2.2 (fun i hi => h3 i (by omega)) (fun i hi => h4 i (by omega))⟩
    · rw [if_neg h3'] at g5 ⊢
      exact ⟨by rw [e.2.1, g5.1], by rw [e.2.2, g5.2.1], seg_eq g5.2.2 (fun i hi => h2 i (by omega))⟩
theorem KT.drop {cd bg en ch al vb ve vr : Nat → Int32} : ∀ (a : List Nd) {b : List Nd}, KT cd bg en ch al vb ve vr (a ++ b) → KT cd bg en ch al vb ve vr b
  | [], _, h => h
  | _ :: a, _, h => KT.drop a h.2.2
/-! new nodes -/
theorem addNodeC {N : Nat} (hN : N < 200) (cd bg en : Nat → Int32) (c b : Int32) : f_X7_addNode (nI N) cd bg en c b = some (nI (N + 1), upd cd N c, upd bg N b, upd en N b, nI N) := by
  unfold f_X7_addNode
  rw [if_pos (show nI N < 200 from nI_lt hN (by decide)), pu_gi hN (by decide), pu_gi hN (by decide), pu_gi hN (by decide), nI_clamp (by omega), nI_1, nI_pred]
theorem hasNodeC {N i : Nat} (hi : i < N) (hN : N ≤ 200) : f_X7_hasNode (nI N) (nI i) = some 1 := by
  unfold f_X7_hasNode
  rw [if_neg (nI_pos (by omega)), if_neg (nI_ge hi (by omega))]
theorem kindC {cd bg en ch al vb ve vr : Nat → Int32} {x : Nd} {r : List Nd} {N : Nat} (h : KT cd bg en ch al vb ve vr (x :: r)) (h1 : r.length < N) (hN : N ≤ 200) : f_X7_kindOf (nI N) cd (nI r.length) = some (nI x.1) := by
  unfold f_X7_kindOf
  rw [hasNodeC h1 hN, Option.bind_some, if_neg (show ¬ (1 : Int32) = 0 by decide), pu_gi (by omega) (by decide), nI_clamp (by omega), h.1.1, kindCd h.1.2.1 h.1.2.2.1 h.1.2.2.2]
theorem depthC {cd bg en ch al vb ve vr : Nat → Int32} {x : Nd} {r : List Nd} {N : Nat} (h : KT cd bg en ch al vb ve vr (x :: r)) (h1 : r.length < N) (hN : N ≤ 200) : f_X7_depthOf (nI N) cd (nI r.length) = some (nI x.2.2.1) := by
  unfold f_X7_depthOf
  rw [hasNodeC h1 hN, Option.bind_some, if_neg (show ¬ (1 : Int32) = 0 by decide), pu_gi (by omega) (by decide), nI_clamp (by omega), h.1.1, depthCd h.1.2.1 h.1.2.2.1 h.1.2.2.2]
theorem nameC {cd bg en ch al vb ve vr : Nat → Int32} {x : Nd} {r : List Nd} {N : Nat} (h : KT cd bg en ch al vb ve vr (x :: r)) (h1 : r.length < N) (hN : N ≤ 200) : f_X7_nameOf (nI N) cd (nI r.length) = some (nI x.2.1) := by
  unfold f_X7_nameOf
  rw [hasNodeC h1 hN, Option.bind_some, if_neg (show ¬ (1 : Int32) = 0 by decide), pu_gi (by omega) (by decide), nI_clamp (by omega), h.1.1, nameCd h.1.2.1 h.1.2.2.1 h.1.2.2.2]
theorem openC {cd bg en ch al vb ve vr : Nat → Int32} {nd : List Nd} {st : Stk} (h : KT cd bg en ch al vb ve vr nd) (h1 : nd.length < 200) (h8 : st.length ≤ 8) : ∀ xs : List Int32, ∃ cd' bg' en' : Nat → Int32, ∃ i : Nat, f_X7_openText (nI nd.length) cd bg en (nI (chN nd)) (nI st.length) = some (nI (sAdd xs st nd).length, cd', bg', en', nI i) ∧ i < (sAdd xs st nd).length ∧ chN (sAdd xs st nd) = chN nd + xs.length ∧ acN (sAdd xs st nd) = acN nd ∧ vsN (sAdd xs st nd) = vsN nd ∧ KT cd' bg' (upd en' i (nI (chN nd + xs.length))) (ap ch (chN nd) xs) al vb ve vr (sAdd xs st nd) := by
  intro xs
  have hnew : ∀ (hb : KT cd bg en ch al vb ve vr nd), KT (upd cd nd.length (nI (1 + 128 * st.length))) (upd bg nd.length (nI (chN nd))) (upd (upd en nd.length (nI (chN nd))) nd.length (nI (chN nd + xs.length))) (ap ch (chN nd) xs) al vb ve vr (((1, 0, st.length, false, xs, []) : Nd) :: nd) := by
    intro hb
    refine ⟨⟨?_, show (1 : Nat) < 4 by decide, Nat.zero_le _, h8⟩, ?_, KT.congr hb (fun i hi => ⟨pk_un (by omega), pk_un (by omega), ?_⟩) (fun i hi => ap_lt _ _ _ _ hi) (fun i hi => ⟨rfl, rfl, rfl⟩) (fun i hi => rfl)⟩
    · rw [pk_us]; unfold cdN; rfl
    · rw [if_neg (show ¬ (1 : Nat) = 3 by decide)]
      exact ⟨pk_us, pk_us, seg_ap _ _ _⟩
    · rw [pk_un (by omega), pk_un (by omega)]
  have hN : f_X7_openText_L29 (nI (chN nd)) (nI st.length) (nI nd.length) cd bg en (nI nd.length - 1) = some (nI (nd.length + 1), upd cd nd.length (nI (1 + 128 * st.length)), upd bg nd.length (nI (chN nd)), upd en nd.length (nI (chN nd)), nI nd.length) := by
    unfold f_X7_openText_L29 f_X7_openText_L30
    rw [if_pos rfl]
    simp only [f_X1_size, Option.bind_some]
    rw [show ((1 : Int32) ||| (nI st.length <<< ((7 : Int32) &&& 31))) = nI (1 + 128 * st.length) from code1 h8 1 (by decide), addNodeC h1]
    rfl
  unfold f_X7_openText
  rw [hN]
  cases nd with
  | nil =>
    have h0 : f_X7_kindOf (nI ([] : List Nd).length) cd (nI ([] : List Nd).length - 1) = some 0 := rfl
    rw [h0, Option.bind_some, if_neg (show ¬ (0 : Int32) = 1 by decide)]
    exact ⟨_, _, _, 0, rfl, by simp [sAdd], by simp [sAdd, chN], by simp [sAdd, acN, sSort_nil], by simp [sAdd, vsN, sSort_nil, vLen], hnew h⟩
  | cons x r =>
    have hl : (x :: r).length = r.length + 1 := rfl
    have e1 : nI (x :: r).length - 1 = nI r.length := nI_pred r.length
    rw [e1, kindC h (by omega) (by omega), depthC h (by omega) (by omega)]
    simp only [Option.bind_some]
    have hk := h.1.2.1
    have hd := h.1.2.2.2
    rw [show (1 : Int32) = nI 1 from rfl]
    simp (disch := omega) only [pu_e]
    by_cases c : x.1 = 1 ∧ x.2.2.1 = st.length
    · rw [if_pos c.1, if_pos c.2]
      have es : sAdd xs st (x :: r) = (1, x.2.1, st.length, x.2.2.2.1, x.2.2.2.2.1 ++ xs, x.2.2.2.2.2) :: r := by simp [sAdd, c]
      rw [es]
      refine ⟨cd, bg, en, r.length, by unfold f_X7_openText_L30; rw [if_neg (show ¬ nI 1 = 0 by decide)]; rfl, by simp, by simp [chN]; omega, by simp [acN], by simp [vsN], ?_⟩
      obtain ⟨⟨g1, g2, g3, g4⟩, g5, g6⟩ := h
      rw [if_neg (by omega)] at g5
      refine ⟨⟨?_, show (1 : Nat) < 4 by decide, g3, h8⟩, ?_, KT.congr g6 (fun i hi => ⟨rfl, rfl, pk_un (by omega)⟩) (fun i hi => ap_lt _ _ _ _ (by simp only [chN]; omega)) (fun i hi => ⟨rfl, rfl, rfl⟩) (fun i hi => rfl)⟩
      · rw [g1]
        unfold cdN
        simp only [c.1, c.2]
      · rw [if_neg (show ¬ (1 : Nat) = 3 by decide)]
        refine ⟨g5.1, ?_, ?_⟩
        · rw [pk_us]
          simp only [chN, List.length_append]
          congr 1
          omega
        · exact seg_app (seg_eq g5.2.2 (fun j hj => ap_lt _ _ _ _ hj)) (seg_ap _ _ _)
    · have es : sAdd xs st (x :: r) = (1, 0, st.length, false, xs, []) :: x :: r := by
        unfold sAdd
        simp only [c, if_false]
      rw [es]
      have e2 : (if x.1 = 1 then (if x.2.2.1 = st.length then f_X7_openText_L30 (nI (chN (x :: r))) (nI st.length) (nI (x :: r).length) cd bg en (nI r.length) (nI 1) else some (nI ((x :: r).length + 1), upd cd (x :: r).length (nI (1 + 128 * st.length)), upd bg (x :: r).length (nI (chN (x :: r))), upd en (x :: r).length (nI (chN (x :: r))), nI (x :: r).length)) else some (nI ((x :: r).length + 1), upd cd (x :: r).length (nI (1 + 128 * st.length)), upd bg (x :: r).length (nI (chN (x :: r))), upd en (x :: r).length (nI (chN (x :: r))), nI (x :: r).length)) = some (nI ((x :: r).length + 1), upd cd (x :: r).length (nI (1 + 128 * st.length)), upd bg (x :: r).length (nI (chN (x :: r))), upd en (x :: r).length (nI (chN (x :: r))), nI (x :: r).length) := by
        by_cases c1 : x.1 = 1
        · rw [if_pos c1, if_neg (fun q => c ⟨c1, q⟩)]
        · rw [if_neg c1]
      refine ⟨_, _, _, (x :: r).length, e2, by simp, by simp [chN], by simp [acN, sSort_nil], by simp [vsN, sSort_nil, vLen], hnew h⟩
theorem endC {N i k : Nat} (hi : i < N) (hN : N ≤ 200) (en : Nat → Int32) : f_X7_endCharacters (nI N) en (nI k) (nI i) = some (upd en i (nI k)) := by
  unfold f_X7_endCharacters
  rw [hasNodeC hi hN, Option.bind_some, if_neg (show ¬ (1 : Int32) = 0 by decide)]
  simp only [f_X1_size, Option.bind_some]
  rw [pu_gi (by omega) (by decide), nI_clamp (by omega)]
theorem sAdd_len (xs : List Int32) (st : Stk) (nd : List Nd) : (sAdd xs st nd).length ≤ nd.length + 1 := by
  unfold sAdd
  split
  · simp
  · split <;> simp
theorem addRawC {t row : Nat → Int32} {n p e : Nat} {cd bg en ch al vb ve vr : Nat → Int32} {nd : List Nd} {st : Stk} (ht : TX t n row) (h : KT cd bg en ch al vb ve vr nd) (h1 : nd.length < 200) (h8 : st.length ≤ 8) (hp : p ≤ e) (he : e ≤ n) (hk : chN nd + (e - p) ≤ 200) : ∃ cd' bg' en' ch' : Nat → Int32, f_X7_addRaw (nI nd.length) cd bg en (nI (chN nd)) 0 ch (nI n) row (nI st.length) (nI p) (nI e) = some (nI (sAdd (sSeg t p e) st nd).length, cd', bg', en', nI (chN (sAdd (sSeg t p e) st nd)), 0, ch') ∧ acN (sAdd (sSeg t p e) st nd) = acN nd ∧ vsN (sAdd (sSeg t p e) st nd) = vsN nd ∧ KT cd' bg' en' ch' al vb ve vr (sAdd (sSeg t p e) st nd) := by
  obtain ⟨cd', bg', en', i, g1, g2, g3, g4, g5, g6⟩ := openC h h1 h8 (sSeg t p e)
  have hl := sAdd_len (sSeg t p e) st nd
  rw [sSeg_len] at g3 g6
  refine ⟨cd', bg', _, _, ?_, g4, g5, g6⟩
  unfold f_X7_addRaw
  rw [g1, Option.bind_some, addPieceC ht hp he hk, Option.bind_some]
  show (f_X7_endCharacters _ _ _ _).bind _ = _
  rw [endC g2 (by omega), Option.bind_some, g3]
theorem resC2 {t row : Nat → Int32} {n : Nat} (h : TX t n row) (v2 ov : Int32) : ∀ (j p e k f : Nat) (r : Nat → Int32), e - p ≤ j → p ≤ 400 → e ≤ n → k + (sRes t e j p).length ≤ 200 → j < f → f_X1_addResolved_L3 (nI n) row v2 (nI e) f (nI k) ov r (nI p) = some (nI (k + (sRes t e j p).length), ov, ap r k (sRes t e j p)) := by
  have hn := h.1
  intro j
  induction j with
  | zero =>
    intro p e k f r hp hp4 he hk hf
    obtain ⟨f, rfl⟩ : ∃ g, f = g + 1 := ⟨f - 1, by omega⟩
    rw [L3_end (by omega) hp4, sRes_ge (by omega), List.length_nil, Nat.add_zero, ap]
  | succ j ih =>
    intro p e k f r hp hp4 he hk hf
    obtain ⟨f, rfl⟩ : ∃ g, f = g + 1 := ⟨f - 1, by omega⟩
    by_cases hpe : p < e
    · cases hr : sRef t p with
      | none =>
        rw [sRes_one hpe hr, List.length_cons] at hk
        rw [L3_plain h hpe he (by omega) (Or.inl hr), ih (p + 1) e (k + 1) f _ (by omega) (by omega) he (by omega) (by omega), sRes_one hpe hr, List.length_cons, Nat.add_assoc, Nat.add_comm 1, ap]
      | some q =>
        obtain ⟨c, s⟩ := q
        have hs := sRef_in hr
        by_cases hfit : p + s ≤ e
        · rw [sRes_fit hpe hr hfit, List.length_cons] at hk
          rw [L3_fit h hpe he (by omega) hr hfit, ih (p + s) e (k + 1) f _ (by omega) (by omega) he (by omega) (by omega), sRes_fit hpe hr hfit, List.length_cons, Nat.add_assoc, Nat.add_comm 1, ap]
        · rw [sRes_not hpe hr hfit, List.length_cons] at hk
          rw [L3_plain h hpe he (by omega) (Or.inr ⟨c, s, hr, hfit⟩), ih (p + 1) e (k + 1) f _ (by omega) (by omega) he (by omega) (by omega), sRes_not hpe hr hfit, List.length_cons, Nat.add_assoc, Nat.add_comm 1, ap]
    · rw [L3_end (by omega) hp4, sRes_ge hpe, List.length_nil, Nat.add_zero, ap]
theorem addResC {t row : Nat → Int32} {n p e k : Nat} (h : TX t n row) (hp : p ≤ e) (he : e ≤ n) (hk : k + (sVal t p e).length ≤ 200) (ov : Int32) (r : Nat → Int32) : f_X1_addResolved (nI k) ov r (nI n) row (nI p) (nI e) = some (nI (k + (sVal t p e).length), ov, ap r k (sVal t p e)) := by
  have hn := h.1
  unfold f_X1_addResolved
  rw [resC2 h (nI p) ov (e - p) p e k 1000 r (by omega) (by omega) he hk (by omega)]
  rfl
theorem sVal_len (t : Nat → Int32) (p e : Nat) : (sVal t p e).length ≤ e - p := sRes_len t e (e - p) p
theorem addTextC {t row : Nat → Int32} {n p e : Nat} {cd bg en ch al vb ve vr : Nat → Int32} {nd : List Nd} {st : Stk} (ht : TX t n row) (h : KT cd bg en ch al vb ve vr nd) (h1 : nd.length < 200) (h8 : st.length ≤ 8) (hp : p ≤ e) (he : e ≤ n) (hk : chN nd + (e - p) ≤ 200) : ∃ cd' bg' en' ch' : Nat → Int32, f_X7_addText (nI nd.length) cd bg en (nI (chN nd)) 0 ch (nI n) row (nI st.length) (nI p) (nI e) = some (nI (sAdd (sVal t p e) st nd).length, cd', bg', en', nI (chN (sAdd (sVal t p e) st nd)), 0, ch') ∧ acN (sAdd (sVal t p e) st nd) = acN nd ∧ vsN (sAdd (sVal t p e) st nd) = vsN nd ∧ KT cd' bg' en' ch' al vb ve vr (sAdd (sVal t p e) st nd) := by
  obtain ⟨cd', bg', en', i, g1, g2, g3, g4, g5, g6⟩ := openC h h1 h8 (sVal t p e)
  have hl := sAdd_len (sVal t p e) st nd
  have hv := sVal_len t p e
  refine ⟨cd', bg', _, _, ?_, g4, g5, g6⟩
  unfold f_X7_addText
  rw [g1, Option.bind_some, addResC ht hp he (by omega), Option.bind_some]
  show (f_X7_endCharacters _ _ _ _).bind _ = _
  rw [endC g2 (by omega), Option.bind_some, g3]
theorem addComC {t row : Nat → Int32} {n p e : Nat} {cd bg en ch al vb ve vr : Nat → Int32} {nd : List Nd} {st : Stk} (ht : TX t n row) (h : KT cd bg en ch al vb ve vr nd) (h1 : nd.length < 200) (h8 : st.length ≤ 8) (hp : p ≤ e) (he : e ≤ n) (hk : chN nd + (e - p) ≤ 200) : ∃ cd' bg' en' ch' : Nat → Int32, f_X7_addComment (nI nd.length) cd bg en (nI (chN nd)) 0 ch (nI n) row (nI st.length) (nI p) (nI e) = some (nI (nd.length + 1), cd', bg', en', nI (chN nd + (e - p)), 0, ch') ∧ KT cd' bg' en' ch' al vb ve vr (sCom (sSeg t p e) st nd) := by
  refine ⟨upd cd nd.length (nI (2 + 128 * st.length)), upd bg nd.length (nI (chN nd)), upd (upd en nd.length (nI (chN nd))) nd.length (nI (chN nd + (e - p))), ap ch (chN nd) (sSeg t p e), ?_, ?_⟩
  · unfold f_X7_addComment
    simp only [f_X1_size, Option.bind_some]
    rw [show ((2 : Int32) ||| (nI st.length <<< ((7 : Int32) &&& 31))) = nI (2 + 128 * st.length) from code1 h8 2 (by decide), addNodeC h1, Option.bind_some, addPieceC ht hp he hk, Option.bind_some]
    show (f_X7_endCharacters _ _ _ _).bind _ = _
    rw [endC (show nd.length < nd.length + 1 by omega) (by omega), Option.bind_some]
  · refine ⟨⟨?_, show (2 : Nat) < 4 by decide, Nat.zero_le _, h8⟩, ?_, KT.congr h (fun i hi => ⟨pk_un (by omega), pk_un (by omega), by rw [pk_un (by omega), pk_un (by omega)]⟩) (fun i hi => ap_lt _ _ _ _ hi) (fun i hi => ⟨rfl, rfl, rfl⟩) (fun i hi => rfl)⟩
    · rw [pk_us]; unfold cdN; rfl
    · rw [if_neg (show ¬ (2 : Nat) = 3 by decide)]
      refine ⟨pk_us, ?_, seg_ap _ _ _⟩
      rw [pk_us]
      simp only [chN, sSeg_len]
