/-! the reference reads a tag -/
theorem sTagL_fuel {t row : Nat → Int32} {n : Nat} (h : TX t n row) : ∀ (j p : Nat) (acc : List (Nat × Nat × Nat)), n < p + j → sTagL t n j p acc = sTagL t n (j + 1) p acc
  | 0, p, acc, hp => by
    unfold sTagL
    rw [if_pos (by omega)]
  | j + 1, p, acc, hp => by
    unfold sTagL
    split
    · rfl
    · split
      · rfl
      · split
        · exact sTagL_fuel h j (p + 1) acc (by omega)
        · have := sAt_le h (show p < n by omega)
          exact sTagL_fuel h j _ _ (by omega)
theorem sTagL_skip {t row : Nat → Int32} {n : Nat} (h : TX t n row) : ∀ (d j q : Nat) (acc : List (Nat × Nat × Nat)), n < q + j → (∀ i, q ≤ i → i < q + d → t i = 32) → sTagL t n j q acc = sTagL t n j (q + d) acc
  | 0, j, q, acc, _, _ => rfl
  | d + 1, j, q, acc, hq, ht => by
    have h32 := ht q (Nat.le_refl _) (by omega)
    have hqn := t_lt h h32 (by decide)
    obtain ⟨j, rfl⟩ : ∃ g, j = g + 1 := ⟨j - 1, by omega⟩
    have e1 : sTagL t n (j + 1) q acc = sTagL t n j (q + 1) acc := by
      rw [sTagL, if_neg (by omega), if_neg (by rw [h32]; decide), if_pos (Or.inl h32)]
    rw [e1, sTagL_skip h d j (q + 1) acc (by omega) (fun i a b => ht i (by omega) (by omega)), show q + 1 + d = q + (d + 1) by omega]
    exact sTagL_fuel h j _ acc (by omega)
theorem sTagL_end {t : Nat → Int32} {n j p : Nat} {acc : List (Nat × Nat × Nat)} (hp : n ≤ p) : sTagL t n j p acc = none := by
  cases j with
  | zero => rfl
  | succ j => rw [sTagL, if_pos hp]
theorem nmL56 {t row : Nat → Int32} {n w : Nat} (h : TX t n row) (v1 pos raw oc wh code v2 v3 : Int32) (R : RW) : ∀ (j p f : Nat) (nm : Int32), n - p = j → p ≤ n → j < f → f_X10_tag_L56 (nI n) (nI w) row v1 f pos raw oc wh nm code R.ct R.kd R.le R.pr R.dp R.fo R.fr R.to R.ac R.ow R.an R.vf R.vt R.sd R.so R.op v2 v3 (nI p) = some (pos, raw, oc, wh, if sFind (fun i => !sLet (t i)) j p = p then nm else 26, code, R.ct, R.kd, R.le, R.pr, R.dp, R.fo, R.fr, R.to, R.ac, R.ow, R.an, R.vf, R.vt, R.sd, R.so, R.op, v2, v3, nI (sFind (fun i => !sLet (t i)) j p)) := by
  have hn := h.1
  intro j
  induction j with
  | zero =>
    intro p f nm hp hp4 hf
    obtain ⟨f, rfl⟩ : ∃ g, f = g + 1 := ⟨f - 1, by omega⟩
    rw [f_X10_tag_L56, atR h (by omega), Option.bind_some, sLetR, Option.bind_some, h.ge (by omega), show sLet 0 = false by decide, if_pos (by decide)]
    simp [sFind]
  | succ j ih =>
    intro p f nm hp hp4 hf
    obtain ⟨f, rfl⟩ : ∃ g, f = g + 1 := ⟨f - 1, by omega⟩
    rw [f_X10_tag_L56, atR h (by omega), Option.bind_some, sLetR, Option.bind_some, nI_1, ih (p + 1) f 26 (by omega) (by omega) (by omega)]
    rw [show sFind (fun i => !sLet (t i)) (j + 1) p = if (!sLet (t p)) = true then p else sFind (fun i => !sLet (t i)) j (p + 1) from rfl]
    have hle := (sFind_le (fun i => !sLet (t i)) j (p + 1)).1
    revert hle
    generalize sFind (fun i => !sLet (t i)) j (p + 1) = z
    intro hle
    cases hl : sLet (t p) with
    | false => simp
    | true =>
      simp only [if_true, Bool.not_true, Bool.false_eq_true, if_false, ite_self]
      rw [if_neg (show ¬ z = p by omega), if_neg (by decide)]
theorem cntOne (a : Nat) : ∀ xs : List At, xs.Pairwise (fun a b => ¬ a.1 = b.1) → sumP (fun _ => 1) (fun q => q.1 == a) xs ≤ 1
  | [], _ => Nat.zero_le _
  | q :: r, h => by
    rw [List.pairwise_cons] at h
    have ih := cntOne a r h.2
    unfold sumP
    by_cases c : q.1 = a
    · have h0 : sumP (fun _ => 1) (fun q => q.1 == a) r = 0 := by
        have : ∀ ys : List At, (∀ y ∈ ys, ¬ y.1 = a) → sumP (fun _ => 1) (fun q => q.1 == a) ys = 0 := by
          intro ys
          induction ys with
          | nil => intro _; rfl
          | cons y ys ihy =>
            intro hy
            unfold sumP
            rw [ihy (fun z hz => hy z (List.mem_cons_of_mem _ hz)), if_neg (by simpa using hy y List.mem_cons_self)]
        exact this r (fun y hy e => h.1 y hy (by rw [c, e]))
      rw [h0]
      split <;> omega
    · rw [if_neg (by simpa using c)]
      omega
theorem cntLt : ∀ (k : Nat) (xs : List At), xs.Pairwise (fun a b => ¬ a.1 = b.1) → sumP (fun _ => 1) (fun q => decide (q.1 < k)) xs ≤ k
  | 0, xs, _ => by
    have : ∀ ys : List At, sumP (fun _ => 1) (fun q => decide (q.1 < 0)) ys = 0 := by
      intro ys
      induction ys with
      | nil => rfl
      | cons y ys ihy =>
        unfold sumP
        rw [ihy]
        simp
    rw [this]
    exact Nat.le_refl _
  | k + 1, xs, h => by
    have h1 := cntLt k xs h
    have h2 := cntOne k xs h
    rw [sumP_split (fun _ => 1) (P := fun q => decide (q.1 < k + 1)) (A := fun q => decide (q.1 < k)) (B := fun q => q.1 == k) (fun q => by rw [Bool.eq_iff_iff]; simp; omega) (fun q => by simp; omega)]
    omega
theorem len26 {xs : List At} (h1 : ∀ q ∈ xs, q.1 < 26) (h2 : xs.Pairwise (fun a b => ¬ a.1 = b.1)) : xs.length ≤ 26 := by
  have h := cntLt 26 xs h2
  have : ∀ ys : List At, (∀ y ∈ ys, y.1 < 26) → sumP (fun _ => 1) (fun q => decide (q.1 < 26)) ys = ys.length := by
    intro ys
    induction ys with
    | nil => intro _; rfl
    | cons y ys ihy =>
      intro hy
      unfold sumP
      rw [ihy (fun z hz => hy z (List.mem_cons_of_mem _ hz)), if_pos (by simpa using hy y List.mem_cons_self), List.length_cons]
      omega
  rw [this xs h1] at h
  exact h
theorem tagL85 {t row : Nat → Int32} {n w p0 : Nat} {nd : List Nd} {st : Stk} (ht : TX t n row) (hw : w < 2) (hb : stoM nd ≤ p0) (hac : acM nd ≤ 100) (v1 pos raw oc nm v2 : Int32) : ∀ (j p f : Nat) (acc : List (Nat × Nat × Nat)) (R : RW) (code : Int32), n < p + j → p ≤ n + 1 → j + 2 < f → GA n acc → rl acc + p0 ≤ p → RJ w nd st (sVals t acc) R → ∃ (R' : RW) (code' : Int32) (p' : Nat), f_X10_tag_L85 (nI n) (nI w) row v1 f pos raw oc 1 nm code R.ct R.kd R.le R.pr R.dp R.fo R.fr R.to R.ac R.ow R.an R.vf R.vt R.sd R.so R.op v2 (nI (acM nd)) (nI p) = some (pos, raw, oc, b2 (sTagL t n j p acc).isSome, nm, code', R'.ct, R'.kd, R'.le, R'.pr, R'.dp, R'.fo, R'.fr, R'.to, R'.ac, R'.ow, R'.an, R'.vf, R'.vt, R'.sd, R'.so, R'.op, v2, nI (acM nd), nI p') ∧ FM w R R' ∧ (match sTagL t n j p acc with
    | none => ∃ at2, RJ w nd st at2 R'
    | some (r, acc') => p' + 1 = r ∧ RJ w nd st (sVals t acc') R') := by
  have hn := ht.1
  intro j
  induction j with
  | zero =>
    intro p f acc R code hp hp1 hf hg hrl h
    obtain ⟨f, rfl⟩ : ∃ g, f = g + 2 := ⟨f - 2, by omega⟩
    refine ⟨R, code, p, ?_, FM.refl w R, ⟨_, h⟩⟩
    rw [f_X10_tag_L85, if_neg (show ¬ (1 : Int32) = 0 by decide), atR ht (by omega), Option.bind_some, ht.ge (by omega), if_neg (show ¬ (0 : Int32) = 62 by decide), if_pos (nI_le (by omega) (by omega))]
    unfold f_X10_tag_L118
    rw [pu_gz0, if_pos rfl, f_X10_tag_L85, if_pos rfl]
    rfl
  | succ j ih =>
    intro p f acc R code hp hp1 hf hg hrl h
    obtain ⟨f, rfl⟩ : ∃ g, f = g + 2 := ⟨f - 2, by omega⟩
    rw [f_X10_tag_L85, if_neg (show ¬ (1 : Int32) = 0 by decide), atR ht (by omega), Option.bind_some]
    unfold sTagL
    by_cases hnp : n ≤ p
    · simp only [if_pos hnp]
      refine ⟨R, code, p, ?_, FM.refl w R, ⟨_, h⟩⟩
      rw [ht.ge hnp, if_neg (show ¬ (0 : Int32) = 62 by decide), if_pos (nI_le (by omega) (by omega))]
      unfold f_X10_tag_L118
      rw [pu_gz0, if_pos rfl, f_X10_tag_L85, if_pos rfl]
      rfl
    · simp only [if_neg hnp]
      by_cases c62 : t p = 62
      · simp only [if_pos c62]
        exact ⟨R, code, p, rfl, FM.refl w R, rfl, h⟩
      · simp only [if_neg c62]
        rw [if_neg (nI_ge (show p < n by omega) (by omega))]
        unfold f_X10_tag_L118
        rw [pu_gz1, if_neg (show ¬ (1 : Int32) = 0 by decide), atR ht (by omega), Option.bind_some, Option.bind_some]
        unfold f_X10_tag_L150 f_X10_tag_L164
        rw [nI_1]
        by_cases c3 : t p = 32 ∨ t p = 47
        · have e : (if t p = 32 then f_X10_tag_L85 (nI n) (nI w) row v1 (f + 1) pos raw oc 1 nm code R.ct R.kd R.le R.pr R.dp R.fo R.fr R.to R.ac R.ow R.an R.vf R.vt R.sd R.so R.op v2 (nI (acM nd)) (nI (p + 1)) else if t p = 47 then f_X10_tag_L85 (nI n) (nI w) row v1 (f + 1) pos raw oc 1 nm code R.ct R.kd R.le R.pr R.dp R.fo R.fr R.to R.ac R.ow R.an R.vf R.vt R.sd R.so R.op v2 (nI (acM nd)) (nI (p + 1)) else (f_X10_takeAttribute (nI n) (nI w) 1 code row R.ac R.ow R.an R.vf R.vt R.sd R.so (nI p) (nI (acM nd))).bind (fun q161 => f_X10_tag_L85 (nI n) (nI w) row v1 (f + 1) pos raw oc q161.1 nm q161.2.1 R.ct R.kd R.le R.pr R.dp R.fo R.fr R.to q161.2.2.1 q161.2.2.2.1 q161.2.2.2.2.1 q161.2.2.2.2.2.1 q161.2.2.2.2.2.2.1 q161.2.2.2.2.2.2.2.1 q161.2.2.2.2.2.2.2.2.1 R.op v2 (nI (acM nd)) q161.2.2.2.2.2.2.2.2.2)) = f_X10_tag_L85 (nI n) (nI w) row v1 (f + 1) pos raw oc 1 nm code R.ct R.kd R.le R.pr R.dp R.fo R.fr R.to R.ac R.ow R.an R.vf R.vt R.sd R.so R.op v2 (nI (acM nd)) (nI (p + 1)) := by
            rcases c3 with c | c
            · rw [if_pos c]
            · by_cases c' : t p = 32
              · rw [if_pos c']
              · rw [if_neg c', if_pos c]
          rw [e]
          simp only [if_pos c3]
          exact ih (p + 1) (f + 1) acc R code (by omega) (by omega) (by omega) hg (by omega) h
        · have c32 : ¬ t p = 32 := fun q => c3 (Or.inl q)
          have c47 : ¬ t p = 47 := fun q => c3 (Or.inr q)
          simp only [if_neg c32, if_neg c47, if_neg c3]
          have hv := sVals_vLen t acc
          have hGV := GA_vals ht hg
          have h26 := len26 (fun q hq => (hGV.1 q hq).1) hGV.2
          have hpn : p < n := by omega
          have hle := sAt_le ht hpn
          have hGA2 : GA n (sPutA acc (sAl t n p) (sAt t n p).1 (sAt t n p).2.1) := by
            refine GA_put hg (fun l hl => sAl_lt ht hpn hl) ?_
            unfold sAt
            dsimp only
            split
            · rename_i hc
              exact (sVe_le ht (t_lt ht hc (by decide))).2
            · exact Nat.zero_le _
          have hlen128 : acM nd + (sVals t acc).length < 128 := by omega
          obtain ⟨code', R1, wh, q, g1, e1, e2, e3, e4, e5, e6, e7, e8, e9, g2, g3, g4⟩ := takeR ht hw hpn h hlen128 (by omega) (fun q hq => (hGV.1 q hq).1) code
          rw [g1, Option.bind_some]
          dsimp only
          rw [← e1, ← e2, ← e3, ← e4, ← e5, ← e6, ← e7, ← e8, ← e9]
          rcases g4 with ⟨k1, k2, k3, k4, k5, k6⟩ | ⟨k1, k2⟩
          · subst k1
            rw [if_pos rfl, ← sVals_put] at g2
            have hb2 := (sPutA_bd acc (sAl t n p) (sAt t n p).1 (sAt t n p).2.1).2
            obtain ⟨R2, code2, p2, m1, m2, m3⟩ := ih q (f + 1) _ R1 code' (by omega) k3 (by omega) hGA2 (by omega) g2
            have hsk := sTagL_skip ht ((sAt t n p).2.2 - q) j q (sPutA acc (sAl t n p) (sAt t n p).1 (sAt t n p).2.1) (by omega) (fun i a b => k5 i a (by omega))
            rw [show q + ((sAt t n p).2.2 - q) = (sAt t n p).2.2 by omega] at hsk
            rw [hsk] at m1 m3
            exact ⟨R2, code2, p2, m1, g3.trans m2, m3⟩
          · subst k1
            rw [if_neg (by decide)] at g2
            rw [sTagL_end k2]
            refine ⟨R1, code', q, ?_, g3, ⟨_, g2⟩⟩
            rw [f_X10_tag_L85, if_pos (show b2 false = 0 from rfl)]
            rfl
