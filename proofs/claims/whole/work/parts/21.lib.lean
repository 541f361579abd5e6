/-! small rows for the pure part -/
theorem pu_gi {α : Type} {k n : Nat} {x : Option α} (h : k < n) (hn : n < 2 ^ 31) : ms_gi (nI k) n x = x := by
  unfold ms_gi
  rw [if_neg]
  rintro (q | q)
  · exact nI_pos (by omega) q
  · rw [nI_clamp (by omega)] at q; omega
theorem pu_gz0 {α : Type} {x : Option α} : ms_gz 0 x = x := rfl
theorem pu_gz1 {α : Type} {x : Option α} : ms_gz 1 x = x := rfl
theorem pu_gz {α : Type} {v : Int32} {x : Option α} (h : v = 0 ∨ v = 1) : ms_gz v x = x := by unfold ms_gz; rw [if_pos h]
theorem pu_gc {α : Type} {k : Nat} {x : Option α} (h : k < 65536) : ms_gc (nI k) x = x := by
  unfold ms_gc
  rw [if_neg]
  rintro (q | q)
  · exact nI_pos (by omega) q
  · exact nI_nlt (a := 65535) (b := k) (by omega) (by decide) q
theorem pu_8 (k : Nat) : (8 : Int32) * nI k = nI (8 * k) := pk_mul 8 k
theorem pu_m {a b : Nat} (ha : a < 2 ^ 31) (hb : b < 2 ^ 31) : (nI a < nI b) = (a < b) := propext (nI_ltI ha hb)
theorem pu_l {a b : Nat} (ha : a < 2 ^ 31) (hb : b < 2 ^ 31) : (nI a ≤ nI b) = (a ≤ b) := propext (nI_leI ha hb)
theorem pu_e {a b : Nat} (ha : a < 2 ^ 31) (hb : b < 2 ^ 31) : (nI a = nI b) = (a = b) := propext (nI_eq ha hb)
/-- a number of Java's is a small one or not -/
theorem pu_cases (x : Int32) (n : Nat) (hn : n < 2 ^ 31) : (x < 0) ∨ (nI n ≤ x ∧ ¬ x < 0) ∨ ∃ j, j < n ∧ x = nI j := by
  rcases pk_ix x hn with h | h | h
  · exact Or.inl h
  · by_cases h0 : x < 0
    · exact Or.inl h0
    · exact Or.inr (Or.inl ⟨h, h0⟩)
  · exact Or.inr (Or.inr h)
/-- the byte k of a long -/
def pu_b (v : Int64) (k : Nat) : Nat := v.toBitVec.toNat / 2 ^ (8 * k) % 256
theorem pu_b_lt (v : Int64) (k : Nat) : pu_b v k < 256 := Nat.mod_lt _ (by decide)
theorem pu_cls {v : Int64} {k : Nat} (hk : k < 8) : f_X9_byteAt v (nI k) = some (nI (pu_b v k)) := by
  obtain ⟨n, hn, rfl⟩ := wb_of v
  unfold f_X9_byteAt
  rw [pu_8, wb_shr hn (by omega), lN_i, pk_and _ 8 (by decide)]
  unfold pu_b
  rw [wb_tn hn]
  have h : (nI (n / 2 ^ (8 * k))).toBitVec.toNat = n / 2 ^ (8 * k) % 2 ^ 32 := by
    show (BitVec.ofNat 32 _).toNat = _
    rw [BitVec.toNat_ofNat]
  rw [h]
  congr 2
  omega
theorem pu_ref {v : Int64} {k : Nat} (hk : k < 8) : f_X10_byteOf v (nI k) = some (nI (pu_b v k)) := by
  unfold f_X10_byteOf
  have h : (v >>> ((8 * nI k).toInt64 &&& 63)) &&& (255 : Int64) = lN (pu_b v k) := by
    rw [pu_8, wb_c _ (by omega)]
    apply wb_inj
    have hs : ((lN (8 * k)).toBitVec.smod 64).toNat = 8 * k := by
      rw [wb_tb, wb_sm _ (by omega), BitVec.toNat_ofNat]
      omega
    have e0 : (v >>> lN (8 * k)).toBitVec = v.toBitVec.sshiftRight ((lN (8 * k)).toBitVec.smod 64).toNat := rfl
    have e1 : (v >>> lN (8 * k)).toBitVec = v.toBitVec.sshiftRight (8 * k) := by rw [e0, hs]
    rw [Int64.toBitVec_and, e1, wb_tb]
    apply BitVec.eq_of_getLsbD_eq
    intro i hi
    have e2 : (255 : Int64).toBitVec = BitVec.ofNat 64 (2 ^ 8 - 1) := by decide
    rw [BitVec.getLsbD_and, BitVec.getLsbD_sshiftRight, e2, BitVec.getLsbD_ofNat, BitVec.getLsbD_ofNat, Nat.testBit_two_pow_sub_one]
    unfold pu_b
    rw [show (256 : Nat) = 2 ^ 8 by decide, Nat.testBit_mod_two_pow, Nat.testBit_div_two_pow]
    by_cases h8 : i < 8
    · have h9 : 8 * k + i < 64 := by omega
      simp only [h8, hi, h9, decide_true, Bool.and_true, Bool.true_and, if_true]
      rw [show decide (64 ≤ i) = false by simp; omega]
      simp only [Bool.not_false, Bool.true_and]
      rw [BitVec.getLsbD, Nat.add_comm]
    · simp [h8]
  rw [h, lN_i]
