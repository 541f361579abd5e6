/-! a text: its characters before n, 0 from n on -/
def tx (row : Nat → Int32) (n i : Nat) : Int32 := if i < n then row i else 0
def TX (t : Nat → Int32) (n : Nat) (row : Nat → Int32) : Prop := n ≤ 200 ∧ (∀ i, t i = tx row n i) ∧ ∀ i, i < n → pu_ch (row i)
theorem TX.lt {t row : Nat → Int32} {n i : Nat} (h : TX t n row) (hi : i < n) : t i = row i := by rw [h.2.1, tx, if_pos hi]
theorem TX.ge {t row : Nat → Int32} {n i : Nat} (h : TX t n row) (hi : n ≤ i) : t i = 0 := by rw [h.2.1, tx, if_neg (by omega)]
theorem TX.ch {t row : Nat → Int32} {n i : Nat} (h : TX t n row) (hi : i < n) : pu_ch (t i) := by rw [h.lt hi]; exact h.2.2 i hi
theorem pu_ch_ne {c : Int32} (h : pu_ch c) : c ≠ 0 := by
  obtain ⟨k, h1, h2, rfl⟩ := h
  exact nI_ne0 (by omega) (by omega)
theorem TX.end {t row : Nat → Int32} {n i : Nat} (h : TX t n row) : (t i = 0) = (n ≤ i) := by
  by_cases hi : n ≤ i
  · simp [h.ge hi, hi]
  · have := pu_ch_ne (h.ch (show i < n by omega))
    simp [this, hi]
theorem atC {t row : Nat → Int32} {n p : Nat} (h : TX t n row) (hp : p < 2 ^ 30) : f_X1_at (nI n) row (nI p) = some (t p) := by
  have hn := h.1
  by_cases hi : p < n
  · obtain ⟨k, h1, h2, h3⟩ := h.2.2 p hi
    rw [h.lt hi]
    exact pu_att (ch := fun _ => k) hi h.1 h3 (by omega)
  · unfold f_X1_at
    rw [if_neg (nI_pos (by omega)), if_pos (nI_le (by omega) (by omega)), h.ge (by omega)]
theorem atR {t row : Nat → Int32} {n p : Nat} (h : TX t n row) (hp : p < 2 ^ 30) : f_X10_at (nI n) row (nI p) = some (t p) := by
  have hn := h.1
  unfold f_X10_at
  by_cases hi : p < n
  · rw [if_neg (nI_ge hi (by omega)), pu_gi (by omega) (by decide), nI_clamp (by omega), h.lt hi]
  · rw [if_pos (nI_le (by omega) (by omega)), h.ge (by omega)]
/-! letters and digits -/
def sLet (c : Int32) : Bool := f_X10_isLetter c == some 1
def sDig (c : Int32) : Bool := f_X10_isDigit c == some 1
theorem sLetR (c : Int32) : f_X10_isLetter c = some (if sLet c = true then 1 else 0) := by
  unfold sLet f_X10_isLetter f_X10_isLetter_L12
  repeat' split
  all_goals simp_all
theorem sLetC (c : Int32) : f_X9_isLetter c = some (if sLet c = true then 1 else 0) := sLetR c
theorem sDigR (c : Int32) : f_X10_isDigit c = some (if sDig c = true then 1 else 0) := by
  unfold sDig f_X10_isDigit
  repeat' split
  all_goals simp_all
theorem sDigC (c : Int32) : f_X9_isDigit c = some (if sDig c = true then 1 else 0) := sDigR c
theorem sLet_nI {k : Nat} (h : k < 2 ^ 31) : sLet (nI k) = (decide (97 ≤ k ∧ k ≤ 122) || decide (65 ≤ k ∧ k ≤ 90)) := by
  unfold sLet f_X10_isLetter f_X10_isLetter_L12
  rw [show (97 : Int32) = nI 97 from rfl, show (122 : Int32) = nI 122 from rfl, show (65 : Int32) = nI 65 from rfl, show (90 : Int32) = nI 90 from rfl]
  simp (disch := omega) only [pu_m, pu_l]
  by_cases h1 : k < 65
  · have : ¬ (97 ≤ k) := by omega
    have : ¬ (65 ≤ k) := by omega
    simp_all
    omega
  · by_cases h2 : k ≤ 90
    · have a1 : k < 97 := by omega
      have a2 : ¬ (90 < k) := by omega
      have a3 : 65 ≤ k := by omega
      simp [a1, h1, a2, a3, h2]
    · by_cases h3 : k < 97
      · have a2 : 90 < k := by omega
        simp [h3, h1, a2]
        omega
      · by_cases h4 : k ≤ 122
        · have a3 : 97 ≤ k := by omega
          simp [h3, h4, a3]
        · have a2 : 90 < k := by omega
          simp [h3, h4, h1, a2]
theorem sDig_nI {k : Nat} (h : k < 2 ^ 31) : sDig (nI k) = decide (48 ≤ k ∧ k ≤ 57) := by
  unfold sDig f_X10_isDigit
  rw [show (48 : Int32) = nI 48 from rfl, show (57 : Int32) = nI 57 from rfl]
  simp (disch := omega) only [pu_m]
  by_cases h1 : k < 48
  · have : ¬ (48 ≤ k) := by omega
    simp [h1, this]
  · by_cases h2 : 57 < k
    · have : ¬ (k ≤ 57) := by omega
      simp [h1, h2, this]
    · have a1 : 48 ≤ k := by omega
      have a2 : k ≤ 57 := by omega
      simp [h1, h2, a1, a2]
/-! words -/
def sHas (t : Nat → Int32) : Nat → List Int32 → Bool
  | _, [] => true
  | p, c :: cs => decide (t p = c) && sHas t (p + 1) cs
theorem ms_lb : ∀ i, i < 14 → ms_len.getD i 0 = (ms_byt.getD i []).length := by decide +kernel
theorem hasC1 {t row : Nat → Int32} {n p i : Nat} (h : TX t n row) (hp : p < 2 ^ 29) (hi : i < 14) : ∀ (j k f : Nat), k + j = ms_len.getD i 0 → j < f → f_X1_has_L2 (nI n) row (nI p) i f (nI k) = some (if sHas t (p + k) ((ms_byt.getD i []).drop k) = true then 1 else 0) := by
  have h6 := ms_lens i hi
  have hlb := ms_lb i hi
  intro j
  induction j with
  | zero =>
    intro k f hk hf
    obtain ⟨f, rfl⟩ : ∃ g, f = g + 1 := ⟨f - 1, by omega⟩
    rw [f_X1_has_L2]
    simp only [f_J0_length_8abf5, Option.bind_some]
    rw [if_pos (nI_le (by omega) (by omega)), List.drop_eq_nil_of_le (by omega)]
    rfl
  | succ j ih =>
    intro k f hk hf
    obtain ⟨f, rfl⟩ : ∃ g, f = g + 1 := ⟨f - 1, by omega⟩
    have hkl : k < (ms_byt.getD i []).length := by omega
    rw [f_X1_has_L2]
    simp only [f_J0_length_8abf5, Option.bind_some, nI_add, f_J0_charAt_5068e]
    rw [if_neg (nI_ge (by omega) (by omega)), atC h (by omega), pu_gi (by omega) (by omega), nI_clamp (by omega)]
    simp only [Option.bind_some]
    rw [List.drop_eq_getElem_cons hkl]
    have e : (ms_byt.getD i []).getD k 0 = (ms_byt.getD i [])[k] := by
      rw [List.getD_eq_getElem?_getD, List.getElem?_eq_getElem hkl]
      rfl
    rw [e]
    simp only [sHas]
    by_cases hc : t (p + k) = (ms_byt.getD i [])[k]
    · rw [if_pos hc]
      simp only [hc, decide_true, Bool.true_and]
      have := ih (k + 1) f (by omega) (by omega)
      rw [nI_1]
      exact this
    · rw [if_neg hc]
      simp only [hc, decide_false, Bool.false_and, Bool.false_eq_true, if_false]
theorem hasC {t row : Nat → Int32} {n p i : Nat} (h : TX t n row) (hp : p < 2 ^ 29) (hi : i < 14) : f_X1_has (nI n) row (nI p) i = some (if sHas t p (ms_byt.getD i []) = true then 1 else 0) := by
  have h6 := ms_lens i hi
  have := hasC1 h hp hi (ms_len.getD i 0) 0 1000 (by omega) (by omega)
  exact this
