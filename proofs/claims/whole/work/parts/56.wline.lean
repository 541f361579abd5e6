/-! what is written: a line of the class, the row of the reference -/
abbrev Ln : Type := Int32 × Int32 × RowF
def LC (q : Ln) (o : List Int32) : Prop := q.1 = nI (min o.length 200) ∧ q.2.1 = b2 (decide (200 < o.length)) ∧ ∀ i, i < o.length → i < 200 → q.2.2 i = o.getD i 0
def LR (q : Int32 × RowF) (o : List Int32) : Prop := q.1 = nI o.length ∧ ∀ i, i < o.length → i < 200 → q.2 i = o.getD i 0
def cOk (c : Int32) : Prop := ∃ k, k < 128 ∧ c = nI k
theorem cOk_ch {c : Int32} (h : pu_ch c) : cOk c := by
  obtain ⟨k, h1, h2, e⟩ := h
  exact ⟨k, by omega, e⟩
theorem getD_app1 {o : List Int32} {c : Int32} {i : Nat} (h : i < o.length) : (o ++ [c]).getD i 0 = o.getD i 0 := by
  rw [List.getD_eq_getElem?_getD, List.getElem?_append, if_pos h, ← List.getD_eq_getElem?_getD]
theorem getD_app2 {o : List Int32} {c : Int32} : (o ++ [c]).getD o.length 0 = c := by
  rw [List.getD_eq_getElem?_getD, List.getElem?_append, if_neg (by omega), Nat.sub_self]
  rfl
theorem lcAdd {q : Ln} {o : List Int32} {c : Int32} (h : LC q o) (hb : o.length < 2 ^ 20) (hc : cOk c) : ∃ q' : Ln, f_X1_add q.1 q.2.1 q.2.2 c = some q' ∧ LC q' (o ++ [c]) := by
  obtain ⟨k, hk, rfl⟩ := hc
  obtain ⟨h1, h2, h3⟩ := h
  have hl : (o ++ [nI k]).length = o.length + 1 := by simp
  unfold f_X1_add
  rw [h1]
  by_cases c : o.length < 200
  · rw [show min o.length 200 = o.length by omega, if_pos (show nI o.length < 200 from nI_lt c (by decide)), pu_gi c (by decide), nI_clamp (by omega), pu_vch (by omega), nI_1]
    refine ⟨_, rfl, ?_, ?_, fun i hi h200 => ?_⟩
    · rw [hl, show min (o.length + 1) 200 = o.length + 1 by omega]
    · show q.2.1 = _
      rw [h2, hl, decide_eq_false (by omega), decide_eq_false (by omega)]
    · by_cases e : i = o.length
      · subst e
        show upd q.2.2 o.length (nI k) o.length = _
        rw [pk_us, getD_app2]
      · rw [hl] at hi
        show upd q.2.2 o.length (nI k) i = _
        rw [pk_un e, getD_app1 (by omega)]
        exact h3 i (by omega) h200
  · rw [show min o.length 200 = 200 by omega, if_neg (show ¬ nI 200 < 200 by decide)]
    refine ⟨_, rfl, ?_, ?_, fun i hi h200 => ?_⟩
    · rw [hl, show min (o.length + 1) 200 = 200 by omega]
    · rw [hl]
      have : 200 < o.length + 1 := by omega
      simp [this, b2]
    · rw [getD_app1 (by omega)]
      exact h3 i (by omega) h200
theorem lrAdd {q : Int32 × RowF} {o : List Int32} (h : LR q o) (hb : o.length < 2 ^ 20) (c : Int32) : ∃ q' : Int32 × RowF, f_X10_write q.1 q.2 c = some q' ∧ LR q' (o ++ [c]) := by
  obtain ⟨h1, h3⟩ := h
  have hl : (o ++ [c]).length = o.length + 1 := by simp
  unfold f_X10_write f_X10_write_L20
  rw [h1]
  by_cases g : o.length < 200
  · rw [if_neg (show ¬ (200 : Int32) ≤ nI o.length from nI_ge (b := 200) g (by decide)), pu_gi g (by decide), nI_clamp (by omega), nI_1]
    refine ⟨_, rfl, by rw [hl], fun i hi h200 => ?_⟩
    by_cases e : i = o.length
    · subst e
      show upd q.2 o.length c o.length = _
      rw [pk_us, getD_app2]
    · rw [hl] at hi
      show upd q.2 o.length c i = _
      rw [pk_un e, getD_app1 (by omega)]
      exact h3 i (by omega) h200
  · rw [if_pos (show (200 : Int32) ≤ nI o.length from nI_le (a := 200) (by omega) (by omega)), nI_1]
    refine ⟨_, rfl, by rw [hl], fun i hi h200 => ?_⟩
    rw [getD_app1 (by omega)]
    exact h3 i (by omega) h200
/-! words -/
theorem msOk : ∀ w, w < 14 → ∀ c ∈ ms_byt.getD w [], c.toNatClampNeg < 128 ∧ c = nI c.toNatClampNeg := by decide +kernel
theorem lcWordL {w : Nat} (hw : w < 14) : ∀ (j k f : Nat) (q : Ln) (o : List Int32), k + j = ms_len.getD w 0 → j < f → LC q o → o.length + j < 2 ^ 20 → ∃ q' : Ln, f_X1_addWord_L2 w f q.1 q.2.1 q.2.2 (nI k) = some q' ∧ LC q' (o ++ (ms_byt.getD w []).drop k) := by
  have h6 := ms_lens w hw
  have hlb := ms_lb w hw
  intro j
  induction j with
  | zero =>
    intro k f q o hk hf h hb
    obtain ⟨f, rfl⟩ : ∃ g, f = g + 1 := ⟨f - 1, by omega⟩
    rw [f_X1_addWord_L2]
    simp only [f_J0_length_8abf5, Option.bind_some]
    rw [if_pos (nI_le (by omega) (by omega)), List.drop_eq_nil_of_le (by omega), List.append_nil]
    exact ⟨_, rfl, h⟩
  | succ j ih =>
    intro k f q o hk hf h hb
    obtain ⟨f, rfl⟩ : ∃ g, f = g + 1 := ⟨f - 1, by omega⟩
    have hkl : k < (ms_byt.getD w []).length := by omega
    rw [f_X1_addWord_L2]
    simp only [f_J0_length_8abf5, Option.bind_some, f_J0_charAt_5068e]
    rw [if_neg (nI_ge (by omega) (by omega)), pu_gi (by omega) (by omega), nI_clamp (by omega), Option.bind_some]
    have e : (ms_byt.getD w []).getD k 0 = (ms_byt.getD w [])[k] := by
      rw [List.getD_eq_getElem?_getD, List.getElem?_eq_getElem hkl]
      rfl
    rw [e]
    have hm := msOk w hw _ (List.getElem_mem hkl)
    obtain ⟨q1, g1, g2⟩ := lcAdd (c := (ms_byt.getD w [])[k]) h (by omega) ⟨_, hm.1, hm.2⟩
    rw [g1, Option.bind_some, nI_1]
    obtain ⟨q2, k1, k2⟩ := ih (k + 1) f q1 _ (by omega) (by omega) g2 (by simp; omega)
    refine ⟨q2, k1, ?_⟩
    rw [List.drop_eq_getElem_cons hkl]
    rw [List.append_assoc] at k2
    exact k2
theorem lcWord {w : Nat} {q : Ln} {o : List Int32} (hw : w < 14) (h : LC q o) (hb : o.length + 6 < 2 ^ 20) : ∃ q' : Ln, f_X1_addWord q.1 q.2.1 q.2.2 w = some q' ∧ LC q' (o ++ ms_byt.getD w []) := by
  have h6 := ms_lens w hw
  obtain ⟨q', g1, g2⟩ := lcWordL hw (ms_len.getD w 0) 0 1000 q o (by omega) (by omega) h (by omega)
  refine ⟨q', ?_, g2⟩
  unfold f_X1_addWord
  rw [show (0 : Int32) = nI 0 from rfl, g1]
  rfl
/-! characters that are written as something else -/
def eT (c : Int32) : List Int32 := if c = 38 then [38, 97, 109, 112, 59] else if c = 60 then [38, 108, 116, 59] else if c = 62 then [38, 103, 116, 59] else [c]
def eV (c : Int32) : List Int32 := if c = 38 then [38, 97, 109, 112, 59] else if c = 34 then [38, 113, 117, 111, 116, 59] else [c]
theorem eT_len (c : Int32) : (eT c).length ≤ 6 := by
  unfold eT
  repeat' split
  all_goals simp
theorem eV_len (c : Int32) : (eV c).length ≤ 6 := by
  unfold eV
  repeat' split
  all_goals simp
def fl (e : Int32 → List Int32) : List Int32 → List Int32
  | [] => []
  | c :: cs => e c ++ fl e cs
theorem fl_len {e : Int32 → List Int32} (he : ∀ c, (e c).length ≤ 6) : ∀ xs, (fl e xs).length ≤ 6 * xs.length
  | [] => Nat.le_refl _
  | c :: cs => by
    have := fl_len he cs
    have := he c
    simp only [fl, List.length_append, List.length_cons]
    omega
theorem atS {row : RowF} {k s : Nat} {c : Int32} (hc : pu_ch c) (hr : row k = c) (hk : k < s) (hs : s ≤ 200) : f_X1_at (nI s) row (nI k) = some c := by
  obtain ⟨m, h1, h2, e⟩ := hc
  unfold f_X1_at
  rw [if_neg (nI_pos (by omega)), if_neg (nI_ge hk (by omega)), pu_gi (by omega) (by decide), nI_clamp (by omega), hr, e, pu_gc (by omega)]
theorem seg_cons {row : RowF} {k : Nat} {c : Int32} {cs : List Int32} (h : seg row k (c :: cs)) : row k = c ∧ seg row (k + 1) cs := by
  refine ⟨h 0 (by simp), fun i hi => ?_⟩
  have := h (i + 1) (by simp; omega)
  rw [show k + 1 + i = k + (i + 1) by omega, this]
  rfl
theorem lcTextL {row : RowF} {s : Nat} (hs : s ≤ 200) (v2 : Int32) : ∀ (xs : List Int32) (k e f : Nat) (q : Ln) (o : List Int32), k + xs.length = e → e ≤ s → xs.length < f → seg row k xs → (∀ c ∈ xs, pu_ch c) → LC q o → o.length + 6 * xs.length + 6 < 2 ^ 20 → ∃ q' : Ln, f_X8_writeText_L3 (nI s) row v2 (nI e) f q.1 q.2.1 q.2.2 (nI k) = some q' ∧ LC q' (o ++ fl eT xs) := by
  intro xs
  induction xs with
  | nil =>
    intro k e f q o hk he hf hseg hc h hb
    obtain ⟨f, rfl⟩ : ∃ g, f = g + 1 := ⟨f - 1, by simp at hf; omega⟩
    have hk : k = e := hk
    rw [f_X8_writeText_L3, if_pos (nI_le (by omega) (by omega))]
    exact ⟨_, rfl, by rw [fl, List.append_nil]; exact h⟩
  | cons c cs ih =>
    intro k e f q o hk he hf hseg hc h hb
    rw [List.length_cons] at hk hf hb
    obtain ⟨f, rfl⟩ : ∃ g, f = g + 1 := ⟨f - 1, by omega⟩
    obtain ⟨hr, hseg'⟩ := seg_cons hseg
    have hcc := hc c List.mem_cons_self
    rw [f_X8_writeText_L3, if_neg (nI_ge (by omega) (by omega)), atS hcc hr (show k < s by omega) hs, Option.bind_some]
    simp only [f_X8_writeText_L83]
    rw [nI_1]
    have step : ∀ (q1 : Ln), LC q1 (o ++ eT c) → ∃ q' : Ln, f_X8_writeText_L3 (nI s) row v2 (nI e) f q1.1 q1.2.1 q1.2.2 (nI (k + 1)) = some q' ∧ LC q' (o ++ fl eT (c :: cs)) := by
      intro q1 h1
      have hl := eT_len c
      obtain ⟨q2, k1, k2⟩ := ih (k + 1) e f q1 _ (by omega) he (by omega) hseg' (fun d hd => hc d (List.mem_cons_of_mem _ hd)) h1 (by rw [List.length_append]; omega)
      refine ⟨q2, k1, ?_⟩
      rw [List.append_assoc] at k2
      exact k2
    unfold eT at step
    by_cases c1 : c = 38
    · rw [if_pos c1]
      rw [if_pos c1] at step
      obtain ⟨q1, k1, k2⟩ := lcWord (w := 4) (by decide) h (by omega)
      rw [k1, Option.bind_some]
      exact step q1 k2
    · rw [if_neg c1]
      rw [if_neg c1] at step
      by_cases c2 : c = 60
      · rw [if_pos c2]
        rw [if_pos c2] at step
        obtain ⟨q1, k1, k2⟩ := lcWord (w := 2) (by decide) h (by omega)
        rw [k1, Option.bind_some]
        exact step q1 k2
      · rw [if_neg c2]
        rw [if_neg c2] at step
        by_cases c3 : c = 62
        · rw [if_pos c3]
          rw [if_pos c3] at step
          obtain ⟨q1, k1, k2⟩ := lcWord (w := 3) (by decide) h (by omega)
          rw [k1, Option.bind_some]
          exact step q1 k2
        · rw [if_neg c3]
          rw [if_neg c3] at step
          obtain ⟨q1, k1, k2⟩ := lcAdd h (by omega) (cOk_ch hcc)
          rw [k1, Option.bind_some]
          exact step q1 k2
theorem lcText {row : RowF} {s k : Nat} {xs : List Int32} {q : Ln} {o : List Int32} (hs : s ≤ 200) (hk : k + xs.length ≤ s) (hseg : seg row k xs) (hc : ∀ c ∈ xs, pu_ch c) (h : LC q o) (hb : o.length + 6 * xs.length + 6 < 2 ^ 20) : ∃ q' : Ln, f_X8_writeText q.1 q.2.1 q.2.2 (nI s) row (nI k) (nI (k + xs.length)) = some q' ∧ LC q' (o ++ fl eT xs) := by
  obtain ⟨q', k1, k2⟩ := lcTextL hs (nI k) xs k _ 1000 q o rfl hk (by omega) hseg hc h hb
  refine ⟨q', ?_, k2⟩
  unfold f_X8_writeText
  rw [k1]
  rfl
theorem lcValL {row : RowF} {s : Nat} (hs : s ≤ 200) (v2 : Int32) : ∀ (xs : List Int32) (k e f : Nat) (q : Ln) (o : List Int32), k + xs.length = e → e ≤ s → xs.length < f → seg row k xs → (∀ c ∈ xs, pu_ch c) → LC q o → o.length + 6 * xs.length + 6 < 2 ^ 20 → ∃ q' : Ln, f_X8_writeValue_L3 (nI s) row v2 (nI e) f q.1 q.2.1 q.2.2 (nI k) = some q' ∧ LC q' (o ++ fl eV xs) := by
  intro xs
  induction xs with
  | nil =>
    intro k e f q o hk he hf hseg hc h hb
    obtain ⟨f, rfl⟩ : ∃ g, f = g + 1 := ⟨f - 1, by simp at hf; omega⟩
    have hk : k = e := hk
    rw [f_X8_writeValue_L3, if_pos (nI_le (by omega) (by omega))]
    exact ⟨_, rfl, by rw [fl, List.append_nil]; exact h⟩
  | cons c cs ih =>
    intro k e f q o hk he hf hseg hc h hb
    rw [List.length_cons] at hk hf hb
    obtain ⟨f, rfl⟩ : ∃ g, f = g + 1 := ⟨f - 1, by omega⟩
    obtain ⟨hr, hseg'⟩ := seg_cons hseg
    have hcc := hc c List.mem_cons_self
    rw [f_X8_writeValue_L3, if_neg (nI_ge (by omega) (by omega)), atS hcc hr (show k < s by omega) hs, Option.bind_some]
    simp only [f_X8_writeValue_L64]
    rw [nI_1]
    have step : ∀ (q1 : Ln), LC q1 (o ++ eV c) → ∃ q' : Ln, f_X8_writeValue_L3 (nI s) row v2 (nI e) f q1.1 q1.2.1 q1.2.2 (nI (k + 1)) = some q' ∧ LC q' (o ++ fl eV (c :: cs)) := by
      intro q1 h1
      have hl := eV_len c
      obtain ⟨q2, k1, k2⟩ := ih (k + 1) e f q1 _ (by omega) he (by omega) hseg' (fun d hd => hc d (List.mem_cons_of_mem _ hd)) h1 (by rw [List.length_append]; omega)
      refine ⟨q2, k1, ?_⟩
      rw [List.append_assoc] at k2
      exact k2
    unfold eV at step
    by_cases c1 : c = 38
    · rw [if_pos c1]
      rw [if_pos c1] at step
      obtain ⟨q1, k1, k2⟩ := lcWord (w := 4) (by decide) h (by omega)
      rw [k1, Option.bind_some]
      exact step q1 k2
    · rw [if_neg c1]
      rw [if_neg c1] at step
      by_cases c2 : c = 34
      · rw [if_pos c2]
        rw [if_pos c2] at step
        obtain ⟨q1, k1, k2⟩ := lcWord (w := 5) (by decide) h (by omega)
        rw [k1, Option.bind_some]
        exact step q1 k2
      · rw [if_neg c2]
        rw [if_neg c2] at step
        obtain ⟨q1, k1, k2⟩ := lcAdd h (by omega) (cOk_ch hcc)
        rw [k1, Option.bind_some]
        exact step q1 k2
theorem lcVal {row : RowF} {s k : Nat} {xs : List Int32} {q : Ln} {o : List Int32} (hs : s ≤ 200) (hk : k + xs.length ≤ s) (hseg : seg row k xs) (hc : ∀ c ∈ xs, pu_ch c) (h : LC q o) (hb : o.length + 6 * xs.length + 6 < 2 ^ 20) : ∃ q' : Ln, f_X8_writeValue q.1 q.2.1 q.2.2 (nI s) row (nI k) (nI (k + xs.length)) = some q' ∧ LC q' (o ++ fl eV xs) := by
  obtain ⟨q', k1, k2⟩ := lcValL hs (nI k) xs k _ 1000 q o rfl hk (by omega) hseg hc h hb
  refine ⟨q', ?_, k2⟩
  unfold f_X8_writeValue
  rw [k1]
  rfl
theorem lcLet {l : Nat} {q : Ln} {o : List Int32} (hl : l < 26) (h : LC q o) (hb : o.length < 2 ^ 20) : ∃ q' : Ln, f_X8_writeLetter q.1 q.2.1 q.2.2 (nI l) = some q' ∧ LC q' (o ++ [nI (97 + l)]) := by
  obtain ⟨q', k1, k2⟩ := lcAdd (c := nI (97 + l)) h hb ⟨97 + l, by omega, rfl⟩
  refine ⟨q', ?_, k2⟩
  unfold f_X8_writeLetter
  have e : ((97 + nI l).toUInt32 % 65536).toInt32 = nI (97 + l) := by
    have : ∀ l, l < 26 → ((97 + nI l).toUInt32 % 65536).toInt32 = nI (97 + l) := by decide +kernel
    exact this l hl
  rw [e, k1]
  rfl
