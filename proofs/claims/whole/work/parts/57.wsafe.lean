/-! addresses -/
def vSk : List Int32 → List Int32
  | [] => []
  | c :: cs => if c = 32 then vSk cs else c :: cs
def sSch (c : Int32) : Bool := sLet c || (sDig c || decide (c = 43) || decide (c = 45) || decide (c = 46))
def vTk : List Int32 → List Int32
  | [] => []
  | c :: cs => if sSch c = true then c :: vTk cs else []
def vRs : List Int32 → List Int32
  | [] => []
  | c :: cs => if sSch c = true then vRs cs else c :: cs
def sm (c : Int32) : Int32 := match f_X10_small c with
  | some x => x
  | none => 0
def vAc (acc : Int64) (z : Nat) : List Int32 → Int64
  | [] => acc
  | c :: cs => vAc (if z < 8 then acc ||| ((sm c).toInt64 <<< (((8 : Int32) * nI z).toInt64 &&& 63)) else acc) (z + 1) cs
def vFl (b : Bool) (z : Nat) : List Int32 → Bool
  | [] => b
  | c :: cs => vFl (b && sLet c && decide (z < 8)) (z + 1) cs
def sSafe (s : Nat → Int64) (n : Nat) (v : List Int32) : Bool := match vSk v with
  | [] => true
  | c :: cs => if sLet c = true then (match vRs (c :: cs) with
      | [] => true
      | d :: _ => if d = 58 then vFl true 0 (vTk (c :: cs)) && pu_hs s (vAc 0 0 (vTk (c :: cs))) n 0 else true) else true
theorem vSk_len : ∀ xs, (vSk xs).length ≤ xs.length
  | [] => Nat.le_refl _
  | c :: cs => by
    have := vSk_len cs
    unfold vSk
    split
    · simp; omega
    · simp
theorem vTR : ∀ xs, (vTk xs).length + (vRs xs).length = xs.length
  | [] => rfl
  | c :: cs => by
    have := vTR cs
    unfold vTk vRs
    split
    · simp; omega
    · simp
theorem vSk_seg {row : RowF} : ∀ (xs : List Int32) (k : Nat), seg row k xs → seg row (k + (xs.length - (vSk xs).length)) (vSk xs)
  | [], k, h => h
  | c :: cs, k, h => by
    have hl := vSk_len cs
    unfold vSk
    split
    · have := vSk_seg cs (k + 1) (seg_cons h).2
      rw [show k + ((c :: cs).length - (vSk cs).length) = k + 1 + (cs.length - (vSk cs).length) by simp; omega]
      exact this
    · rw [Nat.sub_self]
      exact h
theorem vRs_seg {row : RowF} : ∀ (xs : List Int32) (k : Nat), seg row k xs → seg row (k + (vTk xs).length) (vRs xs)
  | [], k, h => h
  | c :: cs, k, h => by
    unfold vTk vRs
    split
    · have := vRs_seg cs (k + 1) (seg_cons h).2
      rw [show k + (c :: vTk cs).length = k + 1 + (vTk cs).length by simp; omega]
      exact this
    · exact h
theorem vTk_seg {row : RowF} : ∀ (xs : List Int32) (k : Nat), seg row k xs → seg row k (vTk xs)
  | [], k, h => h
  | c :: cs, k, h => by
    unfold vTk
    split
    · have ih := vTk_seg cs (k + 1) (seg_cons h).2
      intro i hi
      cases i with
      | zero => exact (seg_cons h).1
      | succ i =>
        have := ih i (by simp at hi; omega)
        rw [show k + (i + 1) = k + 1 + i by omega, this]
        rfl
    · intro i hi
      simp at hi
theorem vSk_mem : ∀ (xs : List Int32) (c : Int32), c ∈ vSk xs → c ∈ xs
  | [], c, h => h
  | d :: cs, c, h => by
    unfold vSk at h
    split at h
    · exact List.mem_cons_of_mem _ (vSk_mem cs c h)
    · exact h
theorem vTk_mem : ∀ (xs : List Int32) (c : Int32), c ∈ vTk xs → c ∈ xs
  | [], c, h => h
  | d :: cs, c, h => by
    unfold vTk at h
    split at h
    · rcases List.mem_cons.mp h with q | q
      · rw [q]; exact List.mem_cons_self
      · exact List.mem_cons_of_mem _ (vTk_mem cs c q)
    · simp at h
theorem vRs_mem : ∀ (xs : List Int32) (c : Int32), c ∈ vRs xs → c ∈ xs
  | [], c, h => h
  | d :: cs, c, h => by
    unfold vRs at h
    split at h
    · exact List.mem_cons_of_mem _ (vRs_mem cs c h)
    · exact h
theorem vFl_false : ∀ (z : Nat) (xs : List Int32), vFl false z xs = false
  | _, [] => rfl
  | z, c :: cs => by
    unfold vFl
    exact vFl_false (z + 1) cs
theorem sm_let {c : Int32} (h : pu_ch c) (hl : sLet c = true) : 97 + nI (sLn c) = sm c := by
  obtain ⟨k, h1, h2, rfl⟩ := h
  have : ∀ k, k < 127 → sLet (nI k) = true → 97 + nI (sLn (nI k)) = sm (nI k) := by decide +kernel
  exact this k (by omega) hl
theorem sm_eq (c : Int32) : f_X10_small c = some (sm c) := by
  unfold sm f_X10_small
  split
  · rfl
  · split <;> rfl
/-! the class -/
theorem schC (c : Int32) (b : Bool) : f_X3_isSchemeCharacter c (b2 b) = some (b2 (sLet c || (!b && (sDig c || decide (c = 43) || decide (c = 45) || decide (c = 46))))) := by
  unfold f_X3_isSchemeCharacter
  rw [sLetC, Option.bind_some]
  cases hl : sLet c with
  | true => rfl
  | false =>
    rw [if_pos (by decide), sDigC, Option.bind_some]
    simp only [b2_0]
    cases b with
    | true => rfl
    | false =>
      rw [if_pos rfl]
      cases hd : sDig c with
      | true => simp [b2]
      | false =>
        by_cases c1 : c = 43
        · simp [c1, b2]
        · by_cases c2 : c = 45
          · simp [c2, b2]
          · by_cases c3 : c = 46 <;> simp [c1, c2, c3, b2]
theorem adL3 {row : RowF} {s n : Nat} {sch : Nat → Int64} (hs : s ≤ 200) (v2 : Int32) : ∀ (xs : List Int32) (k e f : Nat), k + xs.length = e → e ≤ s → xs.length < f → seg row k xs → (∀ c ∈ xs, pu_ch c) → f_X3_allowsAddress_L3 (nI n) sch (nI s) row v2 (nI e) f (nI k) = some (nI (k + (xs.length - (vSk xs).length))) := by
  intro xs
  induction xs with
  | nil =>
    intro k e f hk he hf hseg hc
    obtain ⟨f, rfl⟩ : ∃ g, f = g + 1 := ⟨f - 1, by simp at hf; omega⟩
    have hk : k = e := hk
    rw [f_X3_allowsAddress_L3, if_pos (nI_le (by omega) (by omega))]
    rfl
  | cons c cs ih =>
    intro k e f hk he hf hseg hc
    rw [List.length_cons] at hk hf
    obtain ⟨f, rfl⟩ : ∃ g, f = g + 1 := ⟨f - 1, by omega⟩
    obtain ⟨hr, hseg'⟩ := seg_cons hseg
    have hl := vSk_len cs
    rw [f_X3_allowsAddress_L3, if_neg (nI_ge (by omega) (by omega)), atS (hc c List.mem_cons_self) hr (show k < s by omega) hs, Option.bind_some]
    unfold vSk
    by_cases c1 : c = 32
    · rw [if_pos c1, if_pos c1, nI_1, ih (k + 1) e f (by omega) he (by omega) hseg' (fun d hd => hc d (List.mem_cons_of_mem _ hd))]
      congr 2
      simp
      omega
    · rw [if_neg c1, if_neg c1, Nat.sub_self, Nat.add_zero]
theorem adL30 {row : RowF} {s n b : Nat} {sch : Nat → Int64} (hs : s ≤ 200) (v2 : Int32) : ∀ (xs : List Int32) (k e f : Nat), b < k → k + xs.length = e → e ≤ s → xs.length < f → seg row k xs → (∀ c ∈ xs, pu_ch c) → f_X3_allowsAddress_L30 (nI n) sch (nI s) row v2 (nI e) f (nI b) (nI k) = some (nI b, nI (k + (vTk xs).length)) := by
  intro xs
  induction xs with
  | nil =>
    intro k e f hb hk he hf hseg hc
    obtain ⟨f, rfl⟩ : ∃ g, f = g + 1 := ⟨f - 1, by simp at hf; omega⟩
    have hk : k = e := hk
    rw [f_X3_allowsAddress_L30, if_pos (nI_le (by omega) (by omega))]
    rfl
  | cons c cs ih =>
    intro k e f hb hk he hf hseg hc
    rw [List.length_cons] at hk hf
    obtain ⟨f, rfl⟩ : ∃ g, f = g + 1 := ⟨f - 1, by omega⟩
    obtain ⟨hr, hseg'⟩ := seg_cons hseg
    have he2 : ¬ nI k = nI b := by rw [pu_e (by omega) (by omega)]; omega
    rw [f_X3_allowsAddress_L30, if_neg (nI_ge (by omega) (by omega)), atS (hc c List.mem_cons_self) hr (show k < s by omega) hs, Option.bind_some, if_neg he2]
    unfold f_X3_allowsAddress_L54
    rw [show (0 : Int32) = b2 false from rfl, schC, Option.bind_some, nI_1, ih (k + 1) e f (by omega) (by omega) he (by omega) hseg' (fun d hd => hc d (List.mem_cons_of_mem _ hd))]
    have e1 : (sLet c || (!false && (sDig c || decide (c = 43) || decide (c = 45) || decide (c = 46)))) = sSch c := by
      rw [Bool.not_false, Bool.true_and]
      rfl
    rw [e1, show b2 false = 0 from rfl]
    simp only [b2_0]
    rw [show vTk (c :: cs) = if sSch c = true then c :: vTk cs else [] from rfl]
    cases sSch c with
    | false => rfl
    | true =>
      simp only [Bool.true_eq_false, if_false, if_true, List.length_cons]
      rw [show k + 1 + (vTk cs).length = k + ((vTk cs).length + 1) by omega]
theorem adL16 {row : RowF} {s n b : Nat} {sch : Nat → Int64} (hs : s ≤ 200) (hn : n ≤ 4) : ∀ (xs : List Int32) (z e f : Nat) (acc : Int64), b + z + xs.length = e → e ≤ s → z + xs.length ≤ 8 → xs.length < f → seg row (b + z) xs → (∀ c ∈ xs, pu_ch c) → f_X3_allowsScheme_L16 (nI n) sch (nI s) row (nI b) (nI e) f acc (nI (b + z)) = some (b2 (vFl true z xs && pu_hs sch (vAc acc z xs) n 0)) := by
  intro xs
  induction xs with
  | nil =>
    intro z e f acc hk he h8 hf hseg hc
    obtain ⟨f, rfl⟩ : ∃ g, f = g + 1 := ⟨f - 1, by simp at hf; omega⟩
    have hk : b + z = e := hk
    rw [f_X3_allowsScheme_L16, if_pos (nI_le (by omega) (by omega)), pu_hasS sch acc hn, Option.bind_some, pu_gz (by split <;> simp)]
    simp only [vFl, vAc, Bool.true_and]
    rfl
  | cons c cs ih =>
    intro z e f acc hk he h8 hf hseg hc
    rw [List.length_cons] at hk hf h8
    obtain ⟨f, rfl⟩ : ∃ g, f = g + 1 := ⟨f - 1, by omega⟩
    obtain ⟨hr, hseg'⟩ := seg_cons hseg
    have hcc := hc c List.mem_cons_self
    rw [f_X3_allowsScheme_L16, if_neg (nI_ge (by omega) (by omega)), atS hcc hr (show b + z < s by omega) hs, Option.bind_some, letNumC hcc, Option.bind_some]
    have e1 : vFl true z (c :: cs) = vFl (sLet c) (z + 1) cs := by
      show vFl (true && sLet c && decide (z < 8)) (z + 1) cs = _
      rw [Bool.true_and, decide_eq_true (show z < 8 by omega), Bool.and_true]
    rw [e1]
    cases hl : sLet c with
    | false =>
      rw [if_neg (show ¬ false = true by decide), if_pos rfl, vFl_false]
      rfl
    | true =>
      have hlt := sLn_lt hcc hl
      rw [if_pos rfl, if_neg (nI_ne (by omega)), sm_let hcc hl, nI_1, pk_sub (by omega), show b + z - b = z by omega]
      have := ih (z + 1) e f (acc ||| ((sm c).toInt64 <<< (((8 : Int32) * nI z).toInt64 &&& 63))) (by omega) he (by omega) (by omega) (by rw [← Nat.add_assoc]; exact hseg') (fun d hd => hc d (List.mem_cons_of_mem _ hd))
      rw [← Nat.add_assoc] at this
      rw [this]
      have e2 : vAc acc z (c :: cs) = vAc (acc ||| ((sm c).toInt64 <<< (((8 : Int32) * nI z).toInt64 &&& 63))) (z + 1) cs := by
        show vAc (if z < 8 then _ else _) (z + 1) cs = _
        rw [if_pos (by omega)]
      rw [e2]
theorem vFl_long : ∀ (xs : List Int32) (z : Nat) (b : Bool), 8 < z + xs.length → 0 < xs.length → vFl b z xs = false
  | [], z, b, _, h => by simp at h
  | c :: cs, z, b, h, _ => by
    unfold vFl
    cases cs with
    | nil =>
      have : ¬ z < 8 := by simp at h; omega
      simp [vFl, this]
    | cons d ds => exact vFl_long (d :: ds) (z + 1) _ (by simp at h ⊢; omega) (by simp)
theorem safeC {row : RowF} {s n k : Nat} {sch : Nat → Int64} {v : List Int32} (hs : s ≤ 200) (hn : n ≤ 4) (hk : k + v.length ≤ s) (hseg : seg row k v) (hc : ∀ c ∈ v, pu_ch c) : f_X3_allowsAddress (nI n) sch (nI s) row (nI k) (nI (k + v.length)) = some (b2 (sSafe sch n v)) := by
  have hl := vSk_len v
  unfold f_X3_allowsAddress
  rw [adL3 hs (nI k) v k _ 1000 rfl hk (by omega) hseg hc, Option.bind_some]
  have hseg1 := vSk_seg v k hseg
  have hc1 : ∀ c ∈ vSk v, pu_ch c := fun c h => hc c (vSk_mem v c h)
  unfold sSafe
  revert hl hseg1 hc1
  cases vSk v with
  | nil =>
    intro hl hseg1 hc1
    dsimp only [List.length_nil]
    rw [show k + (v.length - 0) = k + v.length by omega, f_X3_allowsAddress_L30, if_pos (nI_le (Nat.le_refl _) (by omega)), Option.bind_some]
    dsimp only
    rw [if_pos (nI_le (Nat.le_refl _) (by omega))]
    rfl
  | cons c cs =>
    intro hl hseg1 hc1
    rw [List.length_cons] at hl hseg1 ⊢
    obtain ⟨b, hb⟩ : ∃ b, b = k + (v.length - (cs.length + 1)) := ⟨_, rfl⟩
    rw [← hb] at hseg1 ⊢
    have hbe : b + (cs.length + 1) = k + v.length := by omega
    obtain ⟨hr, hseg2⟩ := seg_cons hseg1
    have hcc := hc1 c List.mem_cons_self
    rw [f_X3_allowsAddress_L30, if_neg (nI_ge (by omega) (by omega)), atS hcc hr (show b < s by omega) hs, Option.bind_some, if_pos rfl]
    unfold f_X3_allowsAddress_L54
    rw [show (1 : Int32) = b2 true from rfl, schC, Option.bind_some, Bool.not_true, Bool.false_and, Bool.or_false]
    simp only [b2_0]
    cases hlc : sLet c with
    | false =>
      rw [if_pos rfl, Option.bind_some]
      dsimp only
      rw [if_pos (nI_le (Nat.le_refl _) (by omega))]
      rfl
    | true =>
      have hsc : sSch c = true := by unfold sSch; rw [hlc]; rfl
      have hlt := vTR (c :: cs)
      have ht : vTk (c :: cs) = c :: vTk cs := by rw [vTk, if_pos hsc]
      have hrs : vRs (c :: cs) = vRs cs := by rw [vRs, if_pos hsc]
      have hseg3 := vRs_seg (c :: cs) b hseg1
      have hseg4 := vTk_seg (c :: cs) b hseg1
      rw [if_neg (by decide), show nI b + b2 true = nI (b + 1) from nI_1 b, adL30 hs (nI k) cs (b + 1) _ 999 (by omega) (by omega) hk (by omega) hseg2 (fun d hd => hc1 d (List.mem_cons_of_mem _ hd)), Option.bind_some]
      dsimp only
      rw [ht, hrs, List.length_cons, List.length_cons] at hlt
      rw [ht, hrs, List.length_cons] at hseg3
      rw [if_neg (nI_ge (by omega) (by omega)), if_pos rfl]
      have hE : b + 1 + (vTk cs).length = b + ((vTk cs).length + 1) := by omega
      rw [hE]
      have hmr : ∀ d ∈ vRs cs, pu_ch d := fun d hd => hc1 d (List.mem_cons_of_mem _ (vRs_mem cs d hd))
      rw [hrs]
      revert hlt hseg3 hmr
      cases vRs cs with
      | nil =>
        intro hlt hseg3 hmr
        rw [List.length_nil] at hlt
        rw [if_pos (nI_le (by omega) (by omega))]
        rfl
      | cons d ds =>
        intro hlt hseg3 hmr
        rw [List.length_cons] at hlt
        obtain ⟨hrd, -⟩ := seg_cons hseg3
        rw [if_neg (nI_ge (by omega) (by omega)), atS (hmr d List.mem_cons_self) hrd (by omega) hs, Option.bind_some]
        dsimp only
        by_cases c58 : d = 58
        · rw [if_pos c58, if_pos c58, ht]
          unfold f_X3_allowsAddress_L95 f_X3_allowsScheme
          rw [if_neg (show ¬ (b2 true : Int32) = 0 by decide), pk_sub (by omega), show b + ((vTk cs).length + 1) - b = (vTk cs).length + 1 by omega]
          have e8 : (nI ((vTk cs).length + 1) ≤ 8) = ((vTk cs).length + 1 ≤ 8) := pu_l (b := 8) (by omega) (by decide)
          simp only [e8]
          by_cases h8 : (vTk cs).length + 1 ≤ 8
          · rw [if_pos h8]
            have := adL16 (row := row) (s := s) (n := n) (b := b) (sch := sch) hs hn (c :: vTk cs) 0 (b + ((vTk cs).length + 1)) 1000 0 rfl (by omega) (by simpa using h8) (by simp; omega) (by rw [ht] at hseg4; exact hseg4) (fun x hx => by rw [← ht] at hx; exact hc1 x (vTk_mem _ x hx))
            rw [show b + 0 = b from rfl] at this
            rw [this, Option.bind_some]
            simp only [b2_0]
            cases (vFl true 0 (c :: vTk cs) && pu_hs sch (vAc 0 0 (c :: vTk cs)) n 0) <;> rfl
          · rw [if_neg h8, vFl_long (c :: vTk cs) 0 true (by simp; omega) (by simp)]
            rfl
        · rw [if_neg c58, if_neg c58]
          rfl
/-! the reference -/
theorem schR (c : Int32) : f_X10_isSchemeLetter c = some (b2 (sSch c)) := by
  unfold f_X10_isSchemeLetter sSch
  rw [sLetR, Option.bind_some]
  cases hl : sLet c with
  | true => rfl
  | false =>
    rw [if_pos (by decide), sDigR, Option.bind_some]
    cases hd : sDig c with
    | true => rfl
    | false =>
      rw [if_pos (by decide)]
      by_cases c1 : c = 43
      · simp [c1, b2]
      · by_cases c2 : c = 45
        · simp [c2, b2]
        · by_cases c3 : c = 46 <;> simp [c1, c2, c3, b2]
theorem saL32 {so vf vt : RowF} {n w : Nat} {sch : Nat → Int64} (v1 : Int32) : ∀ (xs : List Int32) (k e f : Nat), k + xs.length = e → e ≤ 512 → xs.length < f → seg so k xs → f_X10_isSafe_L32 (nI n) (nI w) sch vf vt so v1 f (nI k) (nI e) = some (nI (k + (xs.length - (vSk xs).length)), nI e) := by
  intro xs
  induction xs with
  | nil =>
    intro k e f hk he hf hseg
    obtain ⟨f, rfl⟩ : ∃ g, f = g + 1 := ⟨f - 1, by simp at hf; omega⟩
    have hk : k = e := hk
    rw [f_X10_isSafe_L32, if_pos (nI_le (by omega) (by omega))]
    rfl
  | cons c cs ih =>
    intro k e f hk he hf hseg
    rw [List.length_cons] at hk hf
    obtain ⟨f, rfl⟩ : ∃ g, f = g + 1 := ⟨f - 1, by omega⟩
    obtain ⟨hr, hseg'⟩ := seg_cons hseg
    have hl := vSk_len cs
    rw [f_X10_isSafe_L32, if_neg (nI_ge (by omega) (by omega)), pu_gi (by omega) (by decide), nI_clamp (by omega), hr]
    unfold vSk
    by_cases c1 : c = 32
    · rw [if_pos c1, if_pos c1, nI_1, ih (k + 1) e f (by omega) he (by omega) hseg']
      congr 3
      simp
      omega
    · rw [if_neg c1, if_neg c1, Nat.sub_self, Nat.add_zero]
theorem saL82 {so vf vt : RowF} {n w : Nat} {sch : Nat → Int64} (v1 : Int32) : ∀ (xs : List Int32) (k e f z : Nat) (acc : Int64) (b : Bool), k + xs.length = e → e ≤ 512 → xs.length < f → z + xs.length ≤ 1000 → seg so k xs → f_X10_isSafe_L82 (nI n) (nI w) sch vf vt so v1 f (nI k) (nI e) acc (nI z) (b2 b) = some (nI (k + (vTk xs).length), nI e, vAc acc z (vTk xs), b2 (vFl b z (vTk xs))) := by
  intro xs
  induction xs with
  | nil =>
    intro k e f z acc b hk he hf hz hseg
    obtain ⟨f, rfl⟩ : ∃ g, f = g + 1 := ⟨f - 1, by simp at hf; omega⟩
    have hk : k = e := hk
    rw [f_X10_isSafe_L82, if_pos (nI_le (by omega) (by omega))]
    rfl
  | cons c cs ih =>
    intro k e f z acc b hk he hf hz hseg
    rw [List.length_cons] at hk hf hz
    obtain ⟨f, rfl⟩ : ∃ g, f = g + 1 := ⟨f - 1, by omega⟩
    obtain ⟨hr, hseg'⟩ := seg_cons hseg
    have ih' := fun acc b => ih (k + 1) e f (z + 1) acc b (by omega) he (by omega) (by omega) hseg'
    have h128 : ∀ b' : Bool, f_X10_isSafe_L128 (nI n) (nI w) sch vf vt so v1 (f_X10_isSafe_L82 (nI n) (nI w) sch vf vt so v1 f) (nI k) (nI e) acc (nI z) (b2 b') = some (nI (k + 1 + (vTk cs).length), nI e, vAc (if z < 8 then acc ||| ((sm c).toInt64 <<< (((8 : Int32) * nI z).toInt64 &&& 63)) else acc) (z + 1) (vTk cs), b2 (vFl b' (z + 1) (vTk cs))) := by
      intro b'
      unfold f_X10_isSafe_L128 f_X10_isSafe_L161
      rw [pu_gi (by omega) (by decide), nI_clamp (by omega), hr, sm_eq, Option.bind_some, nI_1, nI_1]
      have e8 : ((8 : Int32) ≤ nI z) = (8 ≤ z) := pu_l (a := 8) (by decide) (by omega)
      simp only [e8]
      by_cases c8 : 8 ≤ z
      · rw [if_pos c8, if_neg (show ¬ z < 8 by omega), ih']
      · rw [if_neg c8, if_pos (show z < 8 by omega), ih']
    rw [f_X10_isSafe_L82, if_neg (nI_ge (by omega) (by omega)), pu_gi (by omega) (by decide), pu_gi (by omega) (by decide), nI_clamp (by omega), hr, schR, Option.bind_some, sLetR, Option.bind_some]
    simp only [b2_0]
    rw [show vTk (c :: cs) = if sSch c = true then c :: vTk cs else [] from rfl]
    cases hsc : sSch c with
    | false => rfl
    | true =>
      simp only [Bool.true_eq_false, if_false, if_true, List.length_cons]
      rw [show k + ((vTk cs).length + 1) = k + 1 + (vTk cs).length by omega]
      unfold f_X10_isSafe_L127
      have h0 := h128 false
      have h1 := h128 true
      have e8 : ((8 : Int32) ≤ nI z) = (8 ≤ z) := pu_l (a := 8) (by decide) (by omega)
      simp only [e8]
      show _ = some (_, _, vAc (if z < 8 then _ else _) (z + 1) (vTk cs), b2 (vFl (b && sLet c && decide (z < 8)) (z + 1) (vTk cs)))
      cases b with
      | false =>
        rw [if_pos rfl]
        exact h0
      | true =>
        rw [if_neg (by decide), Bool.true_and]
        cases hl : sLet c with
        | false =>
          rw [if_pos (by decide), Bool.false_and]
          exact h0
        | true =>
          rw [if_neg (by decide), Bool.true_and]
          by_cases c8 : 8 ≤ z
          · rw [if_pos c8, decide_eq_false (show ¬ z < 8 by omega)]
            exact h0
          · rw [if_neg c8, decide_eq_true (show z < 8 by omega)]
            exact h1
theorem safeR {so vf vt : RowF} {n w a k : Nat} {sch : Nat → Int64} {v : List Int32} (hn : n ≤ 4) (ha : a < 256) (hvf : vf a = nI k) (hvt : vt a = nI (k + v.length)) (hk : 256 * w + k + v.length ≤ 512) (hv : v.length ≤ 200) (hseg : seg so (256 * w + k) v) : f_X10_isSafe (nI n) (nI w) sch vf vt so (nI a) = some (b2 (sSafe sch n v)) := by
  have hl := vSk_len v
  unfold f_X10_isSafe
  rw [pu_gi ha (by decide), pu_gi ha (by decide), nI_clamp (show a < 2 ^ 31 by omega), hvf, hvt, p256, nI_add, nI_add, saL32 (nI a) v (256 * w + k) _ 1000 (by omega) (by omega) (by omega) hseg, Option.bind_some]
  dsimp only
  have hseg1 := vSk_seg v _ hseg
  unfold sSafe
  revert hl hseg1
  cases vSk v with
  | nil =>
    intro hl hseg1
    dsimp only [List.length_nil]
    rw [if_pos (by congr 1; omega)]
    rfl
  | cons c cs =>
    intro hl hseg1
    rw [List.length_cons] at hl hseg1 ⊢
    obtain ⟨b, hb⟩ : ∃ b, b = 256 * w + k + (v.length - (cs.length + 1)) := ⟨_, rfl⟩
    rw [← hb] at hseg1 ⊢
    have hbe : b + (cs.length + 1) = 256 * w + (k + v.length) := by omega
    obtain ⟨hr, hseg2⟩ := seg_cons hseg1
    have hne : ¬ nI b = nI (256 * w + (k + v.length)) := by rw [pu_e (by omega) (by omega)]; omega
    rw [if_neg hne, pu_gi (by omega) (by decide), nI_clamp (by omega), hr, sLetR, Option.bind_some]
    dsimp only
    cases hlc : sLet c with
    | false => rfl
    | true =>
      rw [if_neg (by decide), if_pos rfl]
      have h82 := saL82 (so := so) (vf := vf) (vt := vt) (n := n) (w := w) (sch := sch) (nI a) (c :: cs) b _ 1000 0 0 true rfl (by simp; omega) (by simp; omega) (by simp; omega) hseg1
      rw [List.length_cons, hbe] at h82
      have h82' : f_X10_isSafe_L82 (nI n) (nI w) sch vf vt so (nI a) 1000 (nI b) (nI (256 * w + (k + v.length))) 0 0 1 = some (nI (b + (vTk (c :: cs)).length), nI (256 * w + (k + v.length)), vAc 0 0 (vTk (c :: cs)), b2 (vFl true 0 (vTk (c :: cs)))) := h82
      rw [h82', Option.bind_some]
      dsimp only
      have hlt := vTR (c :: cs)
      rw [List.length_cons] at hlt
      have hseg3 := vRs_seg (c :: cs) b hseg1
      revert hlt hseg3
      cases vRs (c :: cs) with
      | nil =>
        intro hlt hseg3
        rw [List.length_nil] at hlt
        rw [if_pos (by congr 1; omega)]
        rfl
      | cons d ds =>
        intro hlt hseg3
        rw [List.length_cons] at hlt
        obtain ⟨hrd, -⟩ := seg_cons hseg3
        have hne2 : ¬ nI (b + (vTk (c :: cs)).length) = nI (256 * w + (k + v.length)) := by rw [pu_e (by omega) (by omega)]; omega
        rw [if_neg hne2, pu_gi (by omega) (by decide), nI_clamp (by omega), hrd]
        dsimp only
        by_cases c58 : d = 58
        · rw [if_pos c58, if_pos c58]
          simp only [b2_0]
          cases hf : vFl true 0 (vTk (c :: cs)) with
          | false => rfl
          | true =>
            rw [if_neg (by decide), pu_isA sch _ hn, Option.bind_some, Bool.true_and]
            cases pu_hs sch (vAc 0 0 (vTk (c :: cs))) n 0 <;> rfl
        · rw [if_neg c58, if_neg c58]
          rfl
