/-! eight characters from 8 * k on -/
theorem pl7 : (7 : Int32) = nI 7 := rfl
theorem pu_hn_lt (c : Nat → Nat) (hc : ∀ i, c i < 256) : ∀ j, pu_hn c j < 2 ^ (8 * j)
  | 0 => by unfold pu_hn; decide
  | j + 1 => by
    have h1 := pu_hn_lt c hc j
    have h2 := hc (7 - j)
    have h4 : 2 ^ (8 * (j + 1)) = 2 ^ (8 * j) * 256 := by rw [show 8 * (j + 1) = 8 * j + 8 by omega, Nat.pow_add]
    unfold pu_hn
    omega
theorem pu_p64 {j : Nat} (h : j ≤ 8) : 2 ^ (8 * j) ≤ 2 ^ 64 := Nat.pow_le_pow_right (by decide) (by omega)
/-- the characters that are packed: from place b + 8 * k on, those before e -/
def pu_cs (ch : Nat → Nat) (b e k : Nat) : Nat → Nat := fun i => if b + 8 * k + i < e then ch (b + 8 * k + i) else 0
theorem pu_cs_lt {ch : Nat → Nat} {b e k : Nat} (h : ∀ i, i < e → ch i < 256) : ∀ i, pu_cs ch b e k i < 256 := by
  intro i
  unfold pu_cs
  split
  · exact h _ ‹_›
  · decide
theorem pu_pk0 {c : Nat → Nat} (h : ∀ i, i < 8 → c i = 0) : ∀ j, j ≤ 8 → pu_pk c j = 0
  | 0, _ => rfl
  | j + 1, hj => by
    unfold pu_pk
    rw [pu_pk0 h j (by omega), h j (by omega)]
    simp
theorem pu_att {size : Nat} {row : Nat → Int32} {ch : Nat → Nat} {p : Nat} (hp : p < size) (hs : size ≤ 200) (hc : row p = nI (ch p)) (h2 : ch p < 65536) : f_X1_at (nI size) row (nI p) = some (row p) := by
  unfold f_X1_at
  have a1 : ¬ (size ≤ p) := by omega
  rw [if_neg (nI_pos (by omega))]
  simp (disch := omega) only [pu_l, a1, if_false, pu_gi, nI_clamp]
  rw [hc, pu_gc h2]
theorem pu_eight1 {size : Nat} {row : Nat → Int32} {ch : Nat → Nat} {b e k : Nat} (hs : size ≤ 200) (he : e ≤ size) (hk : k ≤ 25) (hb : b ≤ 200) (hc : ∀ i, i < e → row i = nI (ch i) ∧ ch i < 256) : ∀ (j : Nat), j ≤ 8 → ∀ f, j < f → f_X1_eight_L18 (nI size) row (nI b) (nI e) (nI k) f (lN (pu_pk (pu_cs ch b e k) (8 - j))) (nI (8 - j)) = some (lN (pu_pk (pu_cs ch b e k) 8)) := by
  have hcs := pu_cs_lt (b := b) (k := k) (fun i hi => (hc i hi).2)
  intro j
  induction j with
  | zero =>
    intro _ f hf
    obtain ⟨f, rfl⟩ : ∃ g, f = g + 1 := ⟨f - 1, by omega⟩
    rw [f_X1_eight_L18, if_pos (show (8 : Int32) ≤ nI (8 - 0) by decide)]
  | succ j ih =>
    intro hj f hf
    obtain ⟨f, rfl⟩ : ∃ g, f = g + 1 := ⟨f - 1, by omega⟩
    have e1 : 8 - (j + 1) = 7 - j := by omega
    have e2 : 7 - j + 1 = 8 - j := by omega
    have a0 : ¬ (8 ≤ 7 - j) := by omega
    have ih := ih (by omega) f (by omega)
    have hlt := pu_pk_lt _ hcs (7 - j)
    have hlt2 := pu_pk_lt _ hcs (8 - j)
    have h64 := pu_p64 (show 8 - j ≤ 8 by omega)
    rw [f_X1_eight_L18, e1]
    simp (disch := omega) only [pl8, pl1, pu_l, a0, if_false, pk_mul, nI_add, f_X1_eight_L60, e2]
    by_cases h : e ≤ b + 8 * k + (7 - j)
    · rw [if_pos h]
      have hz : pu_cs ch b e k (7 - j) = 0 := by unfold pu_cs; rw [if_neg (by omega)]
      have : pu_pk (pu_cs ch b e k) (8 - j) = pu_pk (pu_cs ch b e k) (7 - j) := by
        rw [← e2]; simp only [pu_pk, hz, Nat.zero_mul, Nat.add_zero]
      rw [this] at ih
      exact ih
    · have hp : b + 8 * k + (7 - j) < e := by omega
      obtain ⟨q1, q2⟩ := hc _ hp
      rw [if_neg h, pu_att (by omega) hs q1 (by omega)]
      simp only [Option.bind_some]
      have hz : pu_cs ch b e k (7 - j) = ch (b + 8 * k + (7 - j)) := by unfold pu_cs; rw [if_pos hp]
      have hpk : pu_pk (pu_cs ch b e k) (8 - j) = pu_pk (pu_cs ch b e k) (7 - j) + ch (b + 8 * k + (7 - j)) * 2 ^ (8 * (7 - j)) := by
        rw [← e2]; simp only [pu_pk, hz]
      rw [q1, nI_l (by omega), wb_shl _ (by omega), g_or' (k := 8 * (7 - j)) rfl hlt (by omega), ← hpk]
      exact ih
theorem pu_eight {size : Nat} {row : Nat → Int32} {ch : Nat → Nat} {b e : Nat} (hs : size ≤ 200) (he : e ≤ size) (hb : b ≤ 200) (hc : ∀ i, i < e → row i = nI (ch i) ∧ ch i < 256) (v : Int32) : (∃ k, k < 25 ∧ v = nI k ∧ f_X1_eight (nI size) row (nI b) (nI e) v = some (lN (pu_pk (pu_cs ch b e k) 8))) ∨ ((v < 0 ∨ 25 ≤ v ∧ ¬ v < 0) ∧ f_X1_eight (nI size) row (nI b) (nI e) v = some 0) := by
  rcases pu_cases v 26 (by decide) with h | ⟨h, h0⟩ | ⟨k, hk, rfl⟩
  · right
    refine ⟨Or.inl h, ?_⟩
    unfold f_X1_eight
    rw [if_pos h]
  · right
    have h25 := pu_gt25 h
    refine ⟨Or.inr ⟨Int32.le_of_lt h25, h0⟩, ?_⟩
    unfold f_X1_eight
    rw [if_neg h0, if_neg (Int32.not_le.mpr h25)]
  · have h1 := pu_eight1 (k := k) hs he (by omega) hb hc 8 (Nat.le_refl _) 1000 (by decide)
    have hv : f_X1_eight (nI size) row (nI b) (nI e) (nI k) = some (lN (pu_pk (pu_cs ch b e k) 8)) := by
      unfold f_X1_eight
      rw [if_neg (nI_pos (by omega)), if_pos (show nI k ≤ (25 : Int32) from nI_le (a := k) (b := 25) (by omega) (by decide))]
      rw [show f_X1_eight_L18 (nI size) row (nI b) (nI e) (nI k) 1000 0 0 = _ from h1]
      rfl
    by_cases h25 : k < 25
    · exact Or.inl ⟨k, h25, rfl, hv⟩
    · right
      have hk25 : k = 25 := by omega
      subst hk25
      refine ⟨Or.inr ⟨by decide, by decide⟩, ?_⟩
      rw [hv, pu_pk0 (fun i hi => ?_) 8 (Nat.le_refl _)]
      · rfl
      · unfold pu_cs; rw [if_neg (by omega)]
/-- one step of the reference's packing -/
theorem pu_sh {h c : Nat} (hc : c < 256) (hh : h * 256 + c < 2 ^ 64) : (lN h <<< ((8 : Int32).toInt64 &&& 63)) ||| (nI c).toInt64 = lN (h * 256 + c) := by
  rw [show (8 : Int32) = nI 8 from rfl, wb_shl h (show 8 < 64 by decide), nI_l (by omega)]
  exact g_or (k := 8) (p := 2 ^ 8) rfl (by omega) (by omega)
theorem pu_str1 {store : Nat → Int32} {ch : Nat → Nat} {b e k : Nat} (he : e ≤ 512) (hk : k < 25) (hb : b ≤ 512) (hc : ∀ i, i < e → store i = nI (ch i) ∧ ch i < 256) : ∀ (m : Nat), m ≤ 7 → ∀ f, m + 1 < f → f_X10_stretch_L7 store (nI b) (nI e) (nI k) f (lN (pu_hn (pu_cs ch b e k) (7 - m))) (nI m) = some (lN (pu_hn (pu_cs ch b e k) 8)) := by
  have hcs := pu_cs_lt (b := b) (k := k) (fun i hi => (hc i hi).2)
  -- one turn
  have turn : ∀ m, m ≤ 7 → ∀ f, f_X10_stretch_L7 store (nI b) (nI e) (nI k) (f + 1) (lN (pu_hn (pu_cs ch b e k) (7 - m))) (nI m) = f_X10_stretch_L7 store (nI b) (nI e) (nI k) f (lN (pu_hn (pu_cs ch b e k) (8 - m))) (nI m + (-1)) := by
    intro m hm f
    have hlt := pu_hn_lt _ hcs (8 - m)
    have h64 := pu_p64 (show 8 - m ≤ 8 by omega)
    have hh : pu_hn (pu_cs ch b e k) (8 - m) = pu_hn (pu_cs ch b e k) (7 - m) * 256 + pu_cs ch b e k m := by
      rw [show 8 - m = 7 - m + 1 by omega]
      simp only [pu_hn]
      rw [show 7 - (7 - m) = m by omega]
    have a1 : ¬ (25 ≤ k) := by omega
    rw [f_X10_stretch_L7, if_neg (nI_pos (by omega)), if_neg (nI_pos (by omega))]
    simp (disch := omega) only [pl25, pu_l, a1, if_false, f_X10_stretch_L55]
    rw [show ((8 : Int32) * nI k) = nI (8 * k) from pu_8 k]
    simp (disch := omega) only [nI_add, pu_l]
    by_cases h : e ≤ b + 8 * k + m
    · have hz : pu_cs ch b e k m = 0 := by unfold pu_cs; rw [if_neg (by omega)]
      rw [if_pos h, show (0 : Int32) = nI 0 from rfl, pu_sh (by decide) (by rw [hz] at hh; omega), hh, hz]
    · have hp : b + 8 * k + m < e := by omega
      obtain ⟨q1, q2⟩ := hc _ hp
      have hz : pu_cs ch b e k m = ch (b + 8 * k + m) := by unfold pu_cs; rw [if_pos hp]
      rw [if_neg h, pu_gi (by omega) (by decide), nI_clamp (by omega), q1, pu_sh q2 (by rw [hz] at hh; omega), hh, hz]
  intro m
  induction m with
  | zero =>
    intro _ f hf
    obtain ⟨f, rfl⟩ : ∃ g, f = g + 2 := ⟨f - 2, by omega⟩
    rw [turn 0 (by omega), show nI 0 + (-1) = (-1 : Int32) by decide, f_X10_stretch_L7, if_pos (by decide)]
  | succ m ih =>
    intro hm f hf
    obtain ⟨f, rfl⟩ : ∃ g, f = g + 1 := ⟨f - 1, by omega⟩
    rw [turn (m + 1) hm, pk_m1, show 8 - (m + 1) = 7 - m by omega]
    exact ih (by omega) f (by omega)
theorem pu_stretch {store : Nat → Int32} {ch : Nat → Nat} {b e : Nat} (he : e ≤ 512) (hb : b ≤ 512) (hc : ∀ i, i < e → store i = nI (ch i) ∧ ch i < 256) {k : Nat} (hk : k < 25) : f_X10_stretch store (nI b) (nI e) (nI k) = some (lN (pu_pk (pu_cs ch b e k) 8)) := by
  have h1 := pu_str1 he hk hb hc 7 (Nat.le_refl _) 1000 (by decide)
  have h2 := pu_hn_pk (pu_cs ch b e k) 8 (Nat.le_refl _)
  unfold f_X10_stretch
  rw [show f_X10_stretch_L7 store (nI b) (nI e) (nI k) 1000 0 7 = _ from h1, ← h2]
  simp [pu_pk]
theorem pu_stretch0 (store : Nat → Int32) (b e v : Int32) (h : v < 0 ∨ 25 ≤ v ∧ ¬ v < 0) : f_X10_stretch store b e v = some 0 := by
  unfold f_X10_stretch
  rw [show (1000 : Nat) = 999 + 1 from rfl, f_X10_stretch_L7, if_neg (by decide)]
  rcases h with h | ⟨h, h0⟩
  · rw [if_pos h]; rfl
  · rw [if_neg h0, if_pos h]; rfl
theorem pu_out1 {store : Nat → Int32} {ch : Nat → Nat} {e k : Nat} (he : e ≤ 200) (hk : k < 25) (hc : ∀ i, i < e → store i = nI (ch i) ∧ ch i < 256) : ∀ (m : Nat), m ≤ 7 → ∀ f, m + 1 < f → f_X10_output_L6 (nI e) store (nI k) f (lN (pu_hn (pu_cs ch 0 e k) (7 - m))) (nI m) = some (lN (pu_hn (pu_cs ch 0 e k) 8)) := by
  have hcs := pu_cs_lt (b := 0) (k := k) (fun i hi => (hc i hi).2)
  have turn : ∀ m, m ≤ 7 → ∀ f, f_X10_output_L6 (nI e) store (nI k) (f + 1) (lN (pu_hn (pu_cs ch 0 e k) (7 - m))) (nI m) = f_X10_output_L6 (nI e) store (nI k) f (lN (pu_hn (pu_cs ch 0 e k) (8 - m))) (nI m + (-1)) := by
    intro m hm f
    have hlt := pu_hn_lt _ hcs (8 - m)
    have h64 := pu_p64 (show 8 - m ≤ 8 by omega)
    have hh : pu_hn (pu_cs ch 0 e k) (8 - m) = pu_hn (pu_cs ch 0 e k) (7 - m) * 256 + pu_cs ch 0 e k m := by
      rw [show 8 - m = 7 - m + 1 by omega]
      simp only [pu_hn]
      rw [show 7 - (7 - m) = m by omega]
    have a1 : ¬ (25 ≤ k) := by omega
    rw [f_X10_output_L6, if_neg (nI_pos (by omega)), if_neg (nI_pos (by omega))]
    simp (disch := omega) only [pl25, pu_l, a1, if_false, f_X10_output_L55]
    rw [show ((8 : Int32) * nI k) = nI (8 * k) from pu_8 k]
    simp (disch := omega) only [nI_add, pu_l]
    by_cases h : e ≤ 8 * k + m
    · have hz : pu_cs ch 0 e k m = 0 := by unfold pu_cs; rw [if_neg (by omega)]
      rw [if_pos h, show (0 : Int32) = nI 0 from rfl, pu_sh (by decide) (by rw [hz] at hh; omega), hh, hz]
    · have hp : 8 * k + m < e := by omega
      obtain ⟨q1, q2⟩ := hc _ hp
      have hz : pu_cs ch 0 e k m = ch (8 * k + m) := by unfold pu_cs; rw [if_pos (by omega), Nat.zero_add]
      rw [if_neg h, pu_gi (by omega) (by decide), nI_clamp (by omega), q1, pu_sh q2 (by rw [hz] at hh; omega), hh, hz]
  intro m
  induction m with
  | zero =>
    intro _ f hf
    obtain ⟨f, rfl⟩ : ∃ g, f = g + 2 := ⟨f - 2, by omega⟩
    rw [turn 0 (by omega), show nI 0 + (-1) = (-1 : Int32) by decide, f_X10_output_L6, if_pos (by decide)]
  | succ m ih =>
    intro hm f hf
    obtain ⟨f, rfl⟩ : ∃ g, f = g + 1 := ⟨f - 1, by omega⟩
    rw [turn (m + 1) hm, pk_m1, show 8 - (m + 1) = 7 - m by omega]
    exact ih (by omega) f (by omega)
theorem pu_outR {store : Nat → Int32} {ch : Nat → Nat} {e : Nat} (he : e ≤ 200) (hc : ∀ i, i < e → store i = nI (ch i) ∧ ch i < 256) {k : Nat} (hk : k < 25) : f_X10_output (nI e) store (nI k) = some (lN (pu_pk (pu_cs ch 0 e k) 8)) := by
  have h1 := pu_out1 he hk hc 7 (Nat.le_refl _) 1000 (by decide)
  have h2 := pu_hn_pk (pu_cs ch 0 e k) 8 (Nat.le_refl _)
  unfold f_X10_output
  rw [show f_X10_output_L6 (nI e) store (nI k) 1000 0 7 = _ from h1, ← h2]
  simp [pu_pk]
theorem pu_outR0 (e : Int32) (store : Nat → Int32) (v : Int32) (h : v < 0 ∨ 25 ≤ v ∧ ¬ v < 0) : f_X10_output e store v = some 0 := by
  unfold f_X10_output
  rw [show (1000 : Nat) = 999 + 1 from rfl, f_X10_output_L6, if_neg (by decide)]
  rcases h with h | ⟨h, h0⟩
  · rw [if_pos h]; rfl
  · rw [if_neg h0, if_pos h]; rfl
