/-! rows of characters that grow -/
def ap (row : Nat → Int32) (k : Nat) : List Int32 → (Nat → Int32)
  | [] => row
  | c :: cs => ap (upd row k c) (k + 1) cs
theorem ap_lt : ∀ (xs : List Int32) (row : Nat → Int32) (k j : Nat), j < k → ap row k xs j = row j
  | [], _, _, _, _ => rfl
  | c :: cs, row, k, j, h => by
    unfold ap
    rw [ap_lt cs _ (k + 1) j (by omega)]
    exact pk_un (by omega)
theorem ap_at : ∀ (xs : List Int32) (row : Nat → Int32) (k i : Nat), i < xs.length → ap row k xs (k + i) = xs.getD i 0
  | [], _, _, i, h => by simp at h
  | c :: cs, row, k, 0, _ => by
    unfold ap
    rw [ap_lt cs _ (k + 1) (k + 0) (by omega)]
    exact pk_us
  | c :: cs, row, k, i + 1, h => by
    unfold ap
    rw [show k + (i + 1) = k + 1 + i by omega, ap_at cs _ (k + 1) i (by simpa using h)]
    rfl
theorem ap_app : ∀ (xs ys : List Int32) (row : Nat → Int32) (k : Nat), ap row k (xs ++ ys) = ap (ap row k xs) (k + xs.length) ys
  | [], ys, row, k => rfl
  | c :: cs, ys, row, k => by
    show ap (upd row k c) (k + 1) (cs ++ ys) = _
    rw [ap_app cs ys, List.length_cons, show k + 1 + cs.length = k + (cs.length + 1) by omega]
    rfl
theorem sSeg_nil {t : Nat → Int32} {b e : Nat} (h : e ≤ b) : sSeg t b e = [] := by unfold sSeg; rw [show e - b = 0 by omega]; rfl
theorem sSeg_cons {t : Nat → Int32} {b e : Nat} (h : b < e) : sSeg t b e = t b :: sSeg t (b + 1) e := by
  unfold sSeg
  rw [show e - b = (e - (b + 1)) + 1 by omega, List.range_succ_eq_map]
  simp only [List.map_cons, List.map_map, Nat.add_zero]
  congr 1
  apply List.map_congr_left
  intro i _
  simp only [Function.comp]
  congr 1
  omega
theorem sSeg_len (t : Nat → Int32) (b e : Nat) : (sSeg t b e).length = e - b := by simp [sSeg]
theorem TX.nar {t row : Nat → Int32} {n i : Nat} (h : TX t n row) (hi : i < n) : vp_nar .char (t i) = t i := by
  obtain ⟨k, h1, h2, h3⟩ := h.ch hi
  rw [h3]
  exact pu_vch (by omega)
/-- a piece of a text is added to a line -/
theorem pieceC {t row : Nat → Int32} {n : Nat} (h : TX t n row) (v2 ov : Int32) : ∀ (j p e k f : Nat) (r : Nat → Int32), p + j = e → e ≤ n → k + j ≤ 200 → j < f → f_X1_addPiece_L3 (nI n) row v2 (nI e) f (nI k) ov r (nI p) = some (nI (k + j), ov, ap r k (sSeg t p e)) := by
  have hn := h.1
  intro j
  induction j with
  | zero =>
    intro p e k f r hp he hk hf
    obtain ⟨f, rfl⟩ : ∃ g, f = g + 1 := ⟨f - 1, by omega⟩
    rw [f_X1_addPiece_L3, if_pos (nI_le (by omega) (by omega)), sSeg_nil (by omega)]
    rfl
  | succ j ih =>
    intro p e k f r hp he hk hf
    obtain ⟨f, rfl⟩ : ∃ g, f = g + 1 := ⟨f - 1, by omega⟩
    rw [f_X1_addPiece_L3, if_neg (nI_ge (by omega) (by omega)), atC h (by omega)]
    simp only [Option.bind_some]
    rw [pu_add (by omega), h.nar (by omega)]
    simp only [Option.bind_some]
    rw [nI_1, ih (p + 1) e (k + 1) f _ (by omega) he (by omega) (by omega), sSeg_cons (t := t) (b := p) (e := e) (by omega), show k + 1 + j = k + (j + 1) by omega]
    rfl
theorem addPieceC {t row : Nat → Int32} {n p e k : Nat} (h : TX t n row) (hp : p ≤ e) (he : e ≤ n) (hk : k + (e - p) ≤ 200) (ov : Int32) (r : Nat → Int32) : f_X1_addPiece (nI k) ov r (nI n) row (nI p) (nI e) = some (nI (k + (e - p)), ov, ap r k (sSeg t p e)) := by
  have hn := h.1
  unfold f_X1_addPiece
  rw [pieceC h (nI p) ov (e - p) p e k 1000 r (by omega) he hk (by omega)]
  rfl
theorem copyC {t row : Nat → Int32} {n : Nat} (h : TX t n row) (s0 ov : Int32) (r : Nat → Int32) : f_X1_copy s0 ov r (nI n) row = some (nI n, 0, ap r 0 (sSeg t 0 n)) := by
  have hn := h.1
  unfold f_X1_copy f_X1_empty
  simp only [Option.bind_some]
  rw [show f_X1_addPiece 0 0 r (nI n) row 0 (nI n) = f_X1_addPiece (nI 0) 0 r (nI n) row (nI 0) (nI n) from rfl, addPieceC h (by omega) (by omega) (by omega), Nat.sub_zero, Nat.zero_add]
  rfl
/-- the line behind a copy is the same text -/
theorem TX.copy {t row : Nat → Int32} {n : Nat} (h : TX t n row) (r : Nat → Int32) : TX t n (ap r 0 (sSeg t 0 n)) := by
  have key : ∀ i, i < n → ap r 0 (sSeg t 0 n) i = t i := by
    intro i hi
    have := ap_at (sSeg t 0 n) r 0 i (by rw [sSeg_len]; omega)
    rw [Nat.zero_add] at this
    rw [this]
    unfold sSeg
    rw [List.getD_eq_getElem?_getD, List.getElem?_map, List.getElem?_range (by omega)]
    simp
  refine ⟨h.1, fun i => ?_, fun i hi => ?_⟩
  · unfold tx
    by_cases hi : i < n
    · rw [if_pos hi, key i hi]
    · rw [if_neg hi, h.ge (by omega)]
  · rw [key i hi]
    exact h.ch hi
/-- one character, not a reference, is added -/
theorem res42 {t row : Nat → Int32} {n : Nat} (h : TX t n row) (v2 v3 ov v5 v6 : Int32) {p k : Nat} (hp : p < n) (hk : k < 200) (r : Nat → Int32) (kk : Int32 → Int32 → (Nat → Int32) → Int32 → Option (Int32 × Int32 × (Nat → Int32))) : f_X1_addResolved_L42 (nI n) row v2 v3 kk (nI k) ov r (nI p) v5 v6 = kk (nI (k + 1)) ov (upd r k (t p)) (nI (p + 1)) := by
  have hn := h.1
  unfold f_X1_addResolved_L42 f_X1_addResolved_L43
  rw [if_pos rfl, atC h (by omega)]
  simp only [Option.bind_some, f_X1_addResolved_L65, f_X1_addResolved_L81]
  rw [pu_add hk, h.nar hp]
  simp only [Option.bind_some, if_true]
  rw [nI_1]
