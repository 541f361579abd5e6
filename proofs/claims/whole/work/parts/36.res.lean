/-! a stretch with its references resolved is added to a line -/
theorem sz0 {t : Nat → Int32} {p : Nat} (hr : sRef t p = none) : f_X5_sizeOf (sPack (sRef t p)) = some 0 := by rw [hr]; rfl
theorem sz1 {t : Nat → Int32} {p c s : Nat} (hr : sRef t p = some (c, s)) : f_X5_sizeOf (sPack (sRef t p)) = some (nI s) := by
  have := sRef_in hr
  rw [hr]
  show some (nI (s * 256 + c) >>> ((8 : Int32) &&& 31)) = some (nI s)
  rw [pk_shrN (by omega) ((8 : Int32) &&& 31) 8 (by decide), show (s * 256 + c) / 2 ^ 8 = s by omega]
theorem sRes_ge {t : Nat → Int32} {e j p : Nat} (h : ¬ p < e) : sRes t e j p = [] := by
  cases j with
  | zero => rfl
  | succ j => rw [sRes, if_neg h]
theorem sRes_one {t : Nat → Int32} {e j p : Nat} (h : p < e) (hr : sRef t p = none) : sRes t e (j + 1) p = t p :: sRes t e j (p + 1) := by rw [sRes, if_pos h, hr]
theorem sRes_fit {t : Nat → Int32} {e j p c s : Nat} (h : p < e) (hr : sRef t p = some (c, s)) (hf : p + s ≤ e) : sRes t e (j + 1) p = nI c :: sRes t e j (p + s) := by rw [sRes, if_pos h, hr]; exact if_pos hf
theorem sRes_not {t : Nat → Int32} {e j p c s : Nat} (h : p < e) (hr : sRef t p = some (c, s)) (hf : ¬ p + s ≤ e) : sRes t e (j + 1) p = t p :: sRes t e j (p + 1) := by rw [sRes, if_pos h, hr]; exact if_neg hf
theorem L3_end {n e p f : Nat} {row r : Nat → Int32} {v2 ov v : Int32} (h : e ≤ p) (hp : p ≤ 400) : f_X1_addResolved_L3 (nI n) row v2 (nI e) (f + 1) v ov r (nI p) = some (v, ov, r) := by
  rw [f_X1_addResolved_L3, if_pos (nI_le h (by omega))]
theorem L3_plain {t row : Nat → Int32} {n e p k f : Nat} {r : Nat → Int32} {v2 ov : Int32} (h : TX t n row) (hp : p < e) (he : e ≤ n) (hk : k < 200) (hr : sRef t p = none ∨ ∃ c s, sRef t p = some (c, s) ∧ ¬ p + s ≤ e) : f_X1_addResolved_L3 (nI n) row v2 (nI e) (f + 1) (nI k) ov r (nI p) = f_X1_addResolved_L3 (nI n) row v2 (nI e) f (nI (k + 1)) ov (upd r k (t p)) (nI (p + 1)) := by
  have hn := h.1
  have hF : f_X5_find (nI n) row (nI p) = some (sPack (sRef t p)) := findC h (Nat.lt_of_le_of_lt (show p ≤ 200 by omega) (by decide))
  have hG : ¬ nI e ≤ nI p := nI_ge hp (Nat.lt_of_le_of_lt (show e ≤ 200 by omega) (by decide))
  rw [f_X1_addResolved_L3, if_neg hG, hF, Option.bind_some]
  rcases hr with hr | ⟨c, s, hr, hf⟩
  · rw [sz0 hr]
    simp only [Option.bind_some]
    rw [if_pos (show (0 : Int32) ≤ 0 from Int32.le_refl 0), res42 h _ _ _ _ _ (by omega) hk]
  · have hs := sRef_in hr
    rw [sz1 hr]
    simp only [Option.bind_some]
    rw [if_neg (show ¬ nI s ≤ 0 from nI_nle (by omega) (by omega)), nI_add, if_pos (show nI e < nI (p + s) from nI_lt (by omega) (by omega)), res42 h _ _ _ _ _ (by omega) hk]
theorem L3_fit {t row : Nat → Int32} {n e p k f c s : Nat} {r : Nat → Int32} {v2 ov : Int32} (h : TX t n row) (hp : p < e) (he : e ≤ n) (hk : k < 200) (hr : sRef t p = some (c, s)) (hf : p + s ≤ e) : f_X1_addResolved_L3 (nI n) row v2 (nI e) (f + 1) (nI k) ov r (nI p) = f_X1_addResolved_L3 (nI n) row v2 (nI e) f (nI (k + 1)) ov (upd r k (nI c)) (nI (p + s)) := by
  have hn := h.1
  have hs := sRef_in hr
  have hF : f_X5_find (nI n) row (nI p) = some (sPack (sRef t p)) := findC h (Nat.lt_of_le_of_lt (show p ≤ 200 by omega) (by decide))
  have hG : ¬ nI e ≤ nI p := nI_ge hp (Nat.lt_of_le_of_lt (show e ≤ 200 by omega) (by decide))
  rw [f_X1_addResolved_L3, if_neg hG, hF, Option.bind_some]
  rw [sz1 hr]
  simp only [Option.bind_some]
  rw [if_neg (show ¬ nI s ≤ 0 from nI_nle (by omega) (by omega)), nI_add, if_neg (show ¬ nI e < nI (p + s) from nI_nlt hf (by omega))]
  unfold f_X1_addResolved_L43
  rw [if_neg (show ¬ (1 : Int32) = 0 by decide), chC hr]
  simp only [Option.bind_some, f_X1_addResolved_L65, f_X1_addResolved_L81]
  rw [pu_add hk, pu_vch (by omega)]
  simp only [Option.bind_some]
  rw [if_neg (show ¬ (1 : Int32) = 0 by decide), nI_add]
theorem resC {t row : Nat → Int32} {n : Nat} (h : TX t n row) (v2 ov : Int32) : ∀ (j p e k f : Nat) (r : Nat → Int32), e - p ≤ j → p ≤ 400 → e ≤ n → k + (e - p) ≤ 200 → j < f → f_X1_addResolved_L3 (nI n) row v2 (nI e) f (nI k) ov r (nI p) = some (nI (k + (sRes t e j p).length), ov, ap r k (sRes t e j p)) := by
  have hn := h.1
  intro j
  induction j with
  | zero =>
    intro p e k f r hp hp4 he hk hf
    obtain ⟨f, rfl⟩ : ∃ g, f = g + 1 := ⟨f - 1, by omega⟩
    rw [L3_end (by omega) hp4, sRes_ge (by omega), List.length_nil, Nat.add_zero, ap]
  | succ j ih =>
    intro p e k f r hp hp4 he hk hf
    obtain ⟨f, rfl⟩ : ∃ g, f = g + 1 := ⟨f - 1, by omega⟩
    by_cases hpe : p < e
    · cases hr : sRef t p with
      | none =>
        rw [L3_plain h hpe he (by omega) (Or.inl hr), ih (p + 1) e (k + 1) f _ (by omega) (by omega) he (by omega) (by omega), sRes_one hpe hr, List.length_cons, Nat.add_assoc, Nat.add_comm 1, ap]
      | some q =>
        obtain ⟨c, s⟩ := q
        have hs := sRef_in hr
        by_cases hfit : p + s ≤ e
        · rw [L3_fit h hpe he (by omega) hr hfit, ih (p + s) e (k + 1) f _ (by omega) (by omega) he (by omega) (by omega), sRes_fit hpe hr hfit, List.length_cons, Nat.add_assoc, Nat.add_comm 1, ap]
        · rw [L3_plain h hpe he (by omega) (Or.inr ⟨c, s, hr, hfit⟩), ih (p + 1) e (k + 1) f _ (by omega) (by omega) he (by omega) (by omega), sRes_not hpe hr hfit, List.length_cons, Nat.add_assoc, Nat.add_comm 1, ap]
    · rw [L3_end (by omega) hp4, sRes_ge hpe, List.length_nil, Nat.add_zero, ap]
theorem addResolvedC {t row : Nat → Int32} {n p e k : Nat} (h : TX t n row) (hp : p ≤ e) (he : e ≤ n) (hk : k + (e - p) ≤ 200) (ov : Int32) (r : Nat → Int32) : f_X1_addResolved (nI k) ov r (nI n) row (nI p) (nI e) = some (nI (k + (sVal t p e).length), ov, ap r k (sVal t p e)) := by
  have hn := h.1
  unfold f_X1_addResolved
  rw [resC h (nI p) ov (e - p) p e k 1000 r (by omega) (by omega) he hk (by omega)]
  rfl
