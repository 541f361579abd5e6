/-! references -/
theorem pl3 : (3 : Int32) = nI 3 := rfl
theorem pl48 : (48 : Int32) = nI 48 := rfl
/-- up to j digits from p + k on: how many, their number -/
def sD (t : Nat → Int32) (p : Nat) : Nat → Nat → Nat → Nat × Nat
  | 0, k, v => (k, v)
  | j + 1, k, v => if sDig (t (p + k)) = true then sD t p j (k + 1) (10 * v + ((t (p + k)).toNatClampNeg - 48)) else (k, v)
theorem sDig_ch {t row : Nat → Int32} {n i : Nat} (h : TX t n row) (hd : sDig (t i) = true) : ∃ c, 48 ≤ c ∧ c ≤ 57 ∧ t i = nI c ∧ i < n := by
  by_cases hi : i < n
  · obtain ⟨k, h1, h2, h3⟩ := h.ch hi
    rw [h3, sDig_nI (by omega)] at hd
    simp only [decide_eq_true_eq] at hd
    exact ⟨k, hd.1, hd.2, h3, hi⟩
  · rw [h.ge (by omega)] at hd
    exact absurd hd (by decide)
theorem sD_le (t : Nat → Int32) (p : Nat) : ∀ (j k v : Nat), k ≤ (sD t p j k v).1 ∧ (sD t p j k v).1 ≤ k + j
  | 0, k, v => by simp [sD]
  | j + 1, k, v => by
    unfold sD
    split
    · have := sD_le t p j (k + 1) (10 * v + ((t (p + k)).toNatClampNeg - 48))
      omega
    · simp
theorem sD_v {t row : Nat → Int32} {n : Nat} (h : TX t n row) (p : Nat) : ∀ (j k v : Nat), (sD t p j k v).2 ≤ v * 10 ^ j + (10 ^ j - 1)
  | 0, k, v => by simp [sD]
  | j + 1, k, v => by
    unfold sD
    have hp : 0 < 10 ^ j := Nat.pow_pos (by decide)
    split
    · rename_i hd
      obtain ⟨c, h1, h2, h3, -⟩ := sDig_ch h hd
      have := sD_v h p j (k + 1) (10 * v + ((t (p + k)).toNatClampNeg - 48))
      rw [h3, nI_clamp (by omega)] at this ⊢
      have e : (10 * v + (c - 48)) * 10 ^ j ≤ (10 * v + 9) * 10 ^ j := Nat.mul_le_mul_right _ (by omega)
      have e2 : (10 * v + 9) * 10 ^ j = v * 10 ^ (j + 1) + 9 * 10 ^ j := by rw [Nat.add_mul, Nat.pow_succ, Nat.mul_comm 10 v, Nat.mul_assoc, Nat.mul_comm 10 (10 ^ j)]
      have e3 : 10 ^ (j + 1) = 10 * 10 ^ j := by rw [Nat.pow_succ, Nat.mul_comm]
      omega
    · have e3 : 10 ^ (j + 1) = 10 * 10 ^ j := by rw [Nat.pow_succ, Nat.mul_comm]
      have : v * 1 ≤ v * 10 ^ (j + 1) := Nat.mul_le_mul_left _ (by omega)
      show v ≤ _
      omega
theorem numC1 {t row : Nat → Int32} {n p : Nat} (h : TX t n row) (hp : p < 2 ^ 28) : ∀ (j k v f : Nat), k + j = 3 → j < f → f_X5_findNumber_L4 (nI n) row (nI p) f (nI v) (nI k) = some (nI (sD t (p + 2) j k v).2, nI (sD t (p + 2) j k v).1) := by
  intro j
  induction j with
  | zero =>
    intro k v f hk hf
    obtain ⟨f, rfl⟩ : ∃ g, f = g + 1 := ⟨f - 1, by omega⟩
    rw [f_X5_findNumber_L4, if_pos (show (3 : Int32) ≤ nI k from nI_le (a := 3) (by omega) (by omega))]
    rfl
  | succ j ih =>
    intro k v f hk hf
    obtain ⟨f, rfl⟩ : ∃ g, f = g + 1 := ⟨f - 1, by omega⟩
    rw [f_X5_findNumber_L4, if_neg (show ¬ (3 : Int32) ≤ nI k from nI_ge (b := 3) (by omega) (by decide)), show nI p + 2 = nI (p + 2) from nI_add p 2, nI_add, atC h (by omega)]
    simp only [Option.bind_some, sDigC, sD]
    by_cases hd : sDig (t (p + 2 + k)) = true
    · obtain ⟨c, h1, h2, h3, -⟩ := sDig_ch h hd
      simp only [hd, if_true]
      rw [if_neg (by decide), h3, nI_clamp (by omega), show (10 : Int32) * nI v = nI (10 * v) from pk_mul 10 v, nI_add, pl48, pk_sub (by omega), nI_1]
      have := ih (k + 1) (10 * v + (c - 48)) f (by omega) (by omega)
      rw [show 10 * v + c - 48 = 10 * v + (c - 48) by omega]
      exact this
    · simp only [hd, if_false, Bool.false_eq_true, if_true]
theorem numR1 {t row : Nat → Int32} {n p : Nat} (h : TX t n row) (hp : p < 2 ^ 28 + 8) (code : Int32) : ∀ (j k v f : Nat), k + j = 3 → j < f → f_X10_number_L4 (nI n) row (nI p) f code (nI (p + k)) (nI v) = some (code, nI (p + (sD t p j k v).1), nI (sD t p j k v).2) := by
  intro j
  induction j with
  | zero =>
    intro k v f hk hf
    obtain ⟨f, rfl⟩ : ∃ g, f = g + 1 := ⟨f - 1, by omega⟩
    rw [f_X10_number_L4, show nI p + 3 = nI (p + 3) from nI_add p 3, if_pos (nI_le (by omega) (by omega))]
    rfl
  | succ j ih =>
    intro k v f hk hf
    obtain ⟨f, rfl⟩ : ∃ g, f = g + 1 := ⟨f - 1, by omega⟩
    rw [f_X10_number_L4, show nI p + 3 = nI (p + 3) from nI_add p 3, if_neg (nI_ge (by omega) (by omega)), atR h (by omega)]
    simp only [Option.bind_some, sDigR, sD]
    by_cases hd : sDig (t (p + k)) = true
    · obtain ⟨c, h1, h2, h3, -⟩ := sDig_ch h hd
      simp only [hd, if_true]
      rw [if_neg (by decide), h3, nI_clamp (by omega), show (10 : Int32) * nI v = nI (10 * v) from pk_mul 10 v, nI_add, pl48, pk_sub (by omega), nI_1]
      have := ih (k + 1) (10 * v + (c - 48)) f (by omega) (by omega)
      rw [show 10 * v + c - 48 = 10 * v + (c - 48) by omega]
      exact this
    · simp only [hd, if_false, Bool.false_eq_true, if_true]
/-- "&#", digits, ";": the code and the size -/
def sNum (t : Nat → Int32) (p : Nat) : Option (Nat × Nat) :=
  if 0 < (sD t (p + 2) 3 0 0).1 ∧ t (p + 2 + (sD t (p + 2) 3 0 0).1) = 59 ∧ 32 ≤ (sD t (p + 2) 3 0 0).2 ∧ (sD t (p + 2) 3 0 0).2 ≤ 126 then some ((sD t (p + 2) 3 0 0).2, (sD t (p + 2) 3 0 0).1 + 3) else none
def sRef (t : Nat → Int32) (p : Nat) : Option (Nat × Nat) :=
  if t p = 38 then
    if t (p + 1) = 35 then sNum t p
    else if t (p + 1) = 108 ∧ t (p + 2) = 116 ∧ t (p + 3) = 59 then some (60, 4)
    else if t (p + 1) = 103 ∧ t (p + 2) = 116 ∧ t (p + 3) = 59 then some (62, 4)
    else if t (p + 1) = 97 ∧ t (p + 2) = 109 ∧ t (p + 3) = 112 ∧ t (p + 4) = 59 then some (38, 5)
    else if t (p + 1) = 113 ∧ t (p + 2) = 117 ∧ t (p + 3) = 111 ∧ t (p + 4) = 116 ∧ t (p + 5) = 59 then some (34, 6)
    else none
  else none
theorem sNum_in {t : Nat → Int32} {p c s : Nat} (h : sNum t p = some (c, s)) : 32 ≤ c ∧ c ≤ 126 ∧ 4 ≤ s ∧ s ≤ 6 := by
  have h1 := sD_le t (p + 2) 3 0 0
  unfold sNum at h
  by_cases hc : 0 < (sD t (p + 2) 3 0 0).1 ∧ t (p + 2 + (sD t (p + 2) 3 0 0).1) = 59 ∧ 32 ≤ (sD t (p + 2) 3 0 0).2 ∧ (sD t (p + 2) 3 0 0).2 ≤ 126
  · rw [if_pos hc] at h
    simp only [Option.some.injEq, Prod.mk.injEq] at h
    omega
  · rw [if_neg hc] at h
    cases h
theorem sRef_in {t : Nat → Int32} {p c s : Nat} (h : sRef t p = some (c, s)) : 32 ≤ c ∧ c ≤ 126 ∧ 4 ≤ s ∧ s ≤ 6 := by
  unfold sRef at h
  split at h
  · split at h
    · exact sNum_in h
    · split at h
      · cases h; decide
      · split at h
        · cases h; decide
        · split at h
          · cases h; decide
          · split at h
            · cases h; decide
            · cases h
  · cases h
def sPack : Option (Nat × Nat) → Int32
  | none => 0
  | some (c, s) => nI (s * 256 + c)
theorem nx_or (a b : Nat) : nI a ||| nI b = nI (a ||| b) := by
  apply Int32.toBitVec_inj.1
  show BitVec.ofNat 32 a ||| BitVec.ofNat 32 b = BitVec.ofNat 32 (a ||| b)
  apply BitVec.eq_of_getLsbD_eq
  intro i hi
  simp [hi]
theorem pu_join (s : Nat) (hs : s < 8) (c : Nat) (hc : c < 128) : (nI s <<< ((8 : Int32) &&& 31)) ||| nI c = nI (s * 256 + c) := by
  rw [pk_shlN (n := s) ((8 : Int32) &&& 31) 8 (by decide) (by omega), nx_or, show s * 2 ^ 8 = s <<< 8 by rw [Nat.shiftLeft_eq], ← Nat.shiftLeft_add_eq_or_of_lt (show c < 2 ^ 8 by omega), Nat.shiftLeft_eq]
theorem plainN {v : Nat} (hv : v ≤ 999) : f_X9_isPlain (nI v) = some (if 32 ≤ v ∧ v ≤ 126 then 1 else 0) := by
  unfold f_X9_isPlain
  simp (disch := omega) only [pl32, pl126, pu_m]
  by_cases h1 : v < 32
  · rw [if_pos h1, if_neg (show ¬ (32 ≤ v ∧ v ≤ 126) by omega)]
  · by_cases h2 : 126 < v
    · rw [if_neg h1, if_pos h2, if_neg (show ¬ (32 ≤ v ∧ v ≤ 126) by omega)]
    · rw [if_neg h1, if_neg h2, if_pos (show 32 ≤ v ∧ v ≤ 126 by omega)]
theorem numC {t row : Nat → Int32} {n p : Nat} (h : TX t n row) (hp : p < 2 ^ 28) : f_X5_findNumber (nI n) row (nI p) = some (sPack (sNum t p)) := by
  have h1 := numC1 h hp 3 0 0 1000 rfl (by decide)
  have hle := sD_le t (p + 2) 3 0 0
  have hv := sD_v h (p + 2) 3 0 0
  unfold f_X5_findNumber sNum
  rw [show f_X5_findNumber_L4 (nI n) row (nI p) 1000 0 0 = _ from h1]
  generalize (sD t (p + 2) 3 0 0).1 = k at hle ⊢
  generalize (sD t (p + 2) 3 0 0).2 = v at hv ⊢
  have hv2 : v ≤ 999 := by simpa using hv
  have e0 : (nI k ≤ 0) = (k ≤ 0) := by rw [show (0 : Int32) = nI 0 from rfl, pu_l (by omega) (by decide)]
  have z1 : ∀ x : Option Int32, (if (0 : Int32) = 0 then some 0 else x) = some 0 := fun x => if_pos rfl
  have z2 : ∀ x y : Option Int32, (if (1 : Int32) = 0 then x else y) = y := fun x y => if_neg (by decide)
  simp only [Option.bind_some, f_X5_findNumber_L70, f_X5_findNumber_L71, e0, z1, z2]
  rw [show nI p + 2 = nI (p + 2) from nI_add p 2, nI_add, atC h (by omega), plainN hv2]
  simp only [Option.bind_some]
  by_cases hC : 0 < k ∧ t (p + 2 + k) = 59 ∧ 32 ≤ v ∧ v ≤ 126
  · rw [if_pos hC, if_neg (show ¬ k ≤ 0 by omega), if_pos hC.2.1, if_pos hC.2.2, z2]
    simp only [f_X5_join, Option.bind_some, sPack]
    rw [show nI k + 3 = nI (k + 3) from nI_add k 3, pu_join _ (by omega) _ (by omega)]
  · rw [if_neg hC]
    by_cases hk : k ≤ 0
    · rw [if_pos hk]; rfl
    · rw [if_neg hk]
      by_cases hc : t (p + 2 + k) = 59
      · rw [if_pos hc, if_neg (show ¬ (32 ≤ v ∧ v ≤ 126) from fun q => hC ⟨by omega, hc, q.1, q.2⟩), z1]; rfl
      · rw [if_neg hc]; rfl
theorem numR {t row : Nat → Int32} {n p : Nat} (h : TX t n row) (hp : p < 2 ^ 28) (code : Int32) : f_X10_number (nI n) code row (nI (p + 2)) = match sNum t p with
    | none => some (code, 0)
    | some (c, s) => some (nI c, nI s) := by
  have h1 := numR1 (p := p + 2) h (by omega) code 3 0 0 1000 rfl (by decide)
  have hle := sD_le t (p + 2) 3 0 0
  have hv := sD_v h (p + 2) 3 0 0
  unfold f_X10_number sNum
  rw [show f_X10_number_L4 (nI n) row (nI (p + 2)) 1000 code (nI (p + 2)) 0 = _ from h1]
  generalize (sD t (p + 2) 3 0 0).1 = k at hle ⊢
  generalize (sD t (p + 2) 3 0 0).2 = v at hv ⊢
  have hv2 : v ≤ 999 := by simpa using hv
  simp only [Option.bind_some]
  rw [atR h (by omega)]
  simp (disch := omega) only [pu_e, Option.bind_some, pl32, pl126, pu_m, pu_l]
  by_cases hC : 0 < k ∧ t (p + 2 + k) = 59 ∧ 32 ≤ v ∧ v ≤ 126
  · rw [if_pos hC, if_neg (show ¬ p + 2 + k = p + 2 by omega), if_pos hC.2.1, if_neg (show ¬ v < 32 by omega), if_pos hC.2.2.2, nI_1, pk_sub (by omega), show nI (p + 2 + k + 1 - (p + 2)) + 2 = nI (p + 2 + k + 1 - (p + 2) + 2) from nI_add _ 2, show p + 2 + k + 1 - (p + 2) + 2 = k + 3 by omega]
  · rw [if_neg hC]
    by_cases hk : k = 0
    · rw [if_pos (show p + 2 + k = p + 2 by omega)]
    · rw [if_neg (show ¬ p + 2 + k = p + 2 by omega)]
      by_cases hc : t (p + 2 + k) = 59
      · rw [if_pos hc]
        by_cases h3 : v < 32
        · rw [if_pos h3]
        · rw [if_neg h3, if_neg (show ¬ v ≤ 126 from fun q => hC ⟨by omega, hc, by omega, q⟩)]
      · rw [if_neg hc]
