/-! the class's tree: a node's code -/
def cdN (x : Nd) : Nat := x.1 + 4 * x.2.1 + 128 * x.2.2.1 + (if x.2.2.2.1 = true then 4096 else 0)
theorem or_sh {a b i : Nat} (h : b < 2 ^ i) : b ||| a * 2 ^ i = b + a * 2 ^ i := by
  rw [Nat.or_comm, ← Nat.shiftLeft_eq, ← Nat.shiftLeft_add_eq_or_of_lt h, Nat.add_comm]
theorem code1 {d : Nat} (hd : d ≤ 8) (k : Nat) (hk : k < 4) : nI k ||| (nI d <<< ((7 : Int32) &&& 31)) = nI (k + 128 * d) := by
  rw [pk_shlN (n := d) ((7 : Int32) &&& 31) 7 (by decide) (by omega), nx_or, or_sh (by omega)]
  congr 1
  omega
theorem code3 {l d : Nat} (hl : l ≤ 26) (hd : d ≤ 8) : ((3 : Int32) ||| (nI l <<< ((2 : Int32) &&& 31))) ||| (nI d <<< ((7 : Int32) &&& 31)) = nI (3 + 4 * l + 128 * d) := by
  rw [pk_shlN (n := d) ((7 : Int32) &&& 31) 7 (by decide) (by omega), pk_shlN (n := l) ((2 : Int32) &&& 31) 2 (by decide) (by omega), show (3 : Int32) = nI 3 from rfl, nx_or, or_sh (by omega), nx_or, or_sh (by omega)]
  congr 1
  omega
theorem code4 {m : Nat} (hm : m < 4096) (f : Bool) : nI m ||| (if f = true then (4096 : Int32) else 0) = nI (m + (if f = true then 4096 else 0)) := by
  cases f with
  | false =>
    show nI m ||| nI 0 = nI (m + 0)
    rw [nx_or, Nat.or_zero, Nat.add_zero]
  | true =>
    show nI m ||| nI 4096 = nI (m + 4096)
    rw [nx_or, show (4096 : Nat) = 1 * 2 ^ 12 by decide, or_sh (by omega)]
/-- what can be read off a code -/
theorem kindCd {x : Nd} (h1 : x.1 < 4) (h2 : x.2.1 ≤ 26) (h3 : x.2.2.1 ≤ 8) : nI (cdN x) &&& (3 : Int32) = nI x.1 := by
  have : cdN x < 8192 := by unfold cdN; split <;> omega
  rw [pk_andN (by omega) 2 (by decide)]
  congr 1
  unfold cdN
  split <;> omega
theorem nameCd {x : Nd} (h1 : x.1 < 4) (h2 : x.2.1 ≤ 26) (h3 : x.2.2.1 ≤ 8) : (nI (cdN x) >>> ((2 : Int32) &&& 31)) &&& (31 : Int32) = nI x.2.1 := by
  have : cdN x < 8192 := by unfold cdN; split <;> omega
  rw [pk_shrN (by omega) ((2 : Int32) &&& 31) 2 (by decide), pk_andN (by omega) 5 (by decide)]
  congr 1
  unfold cdN
  split <;> omega
theorem depthCd {x : Nd} (h1 : x.1 < 4) (h2 : x.2.1 ≤ 26) (h3 : x.2.2.1 ≤ 8) : (nI (cdN x) >>> ((7 : Int32) &&& 31)) &&& (31 : Int32) = nI x.2.2.1 := by
  have : cdN x < 8192 := by unfold cdN; split <;> omega
  rw [pk_shrN (by omega) ((7 : Int32) &&& 31) 7 (by decide), pk_andN (by omega) 5 (by decide)]
  congr 1
  unfold cdN
  split <;> omega
