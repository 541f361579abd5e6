/-! both, call by call -/
def SameR (a : Int32) (r : RowF) (b : Int32) (s : RowF) : Prop := ∃ n, n ≤ 200 ∧ a = nI n ∧ b = nI n ∧ ∀ i, i < n → r i = s i ∧ pu_ch (r i)
def SameP (sc : Int32) (xa xt : RowF) (sch : Nat → Int64) (msc : Int32) (ma mt : RowF) (msch : Nat → Int64) : Prop := (∃ ns, ns ≤ 4 ∧ sc = nI ns ∧ msc = nI ns ∧ ∀ i, i < ns → sch i = msch i) ∧ (∀ l, l < 26 → xa l = ma l) ∧ pu_at xt mt
def SameT (ft1 ft2 ft6 ft7 ft12 ft13 : Int32) (ft3 ft4 ft5 ft8 ft9 ft10 ft11 ft14 : RowF) (R : RW) : Prop := ∃ nd, T0 nd ft1 ft2 ft6 ft7 ft12 ft13 ft3 ft4 ft5 ft8 ft9 ft10 ft11 ft14 ∧ R0 nd R ∧ (∀ x ∈ nd, WN x) ∧ nd.length ≤ 200 ∧ stoM nd ≤ 200 ∧ acM nd ≤ 100
theorem putBoth {a b : Int32} {r s : RowF} (h : SameR a r b s) (ov : Int32) (v : Int64) : ∃ (a' b' z : Int32) (r' s' : RowF), f_X9_put a ov r v = some (a', ov, r', z) ∧ f_X10_put b s v = some (b', s', z) ∧ SameR a' r' b' s' := by
  obtain ⟨n, hn, rfl, rfl, h⟩ := h
  rw [pu_putC v hn ov r, pu_putR v hn s]
  by_cases c : pu_ok v 8 = true ∧ n + pu_cnt v 8 ≤ 200
  · rw [if_pos c, if_pos c]
    obtain ⟨h1, h2, h3⟩ := pu_appR v 8 n r s c.1 h
    exact ⟨_, _, _, _, _, rfl, rfl, n + pu_cnt v 8, c.2, by rw [h1], by rw [h2], h3⟩
  · rw [if_neg c, if_neg c]
    exact ⟨_, _, _, _, _, rfl, rfl, n, hn, rfl, rfl, h⟩
theorem outB {a b : Int32} {r s : RowF} (h : SameR a r b s) (key : Int32) : ∃ z, f_X9_output a r key = some z ∧ f_X10_output b s key = some z := by
  obtain ⟨n, hn, rfl, rfl, h⟩ := h
  exact outBoth hn (fun i hi => (h i hi).2) (fun i hi => (h i hi).1.symm) key
theorem rowList {n : Nat} {r : RowF} (hn : n ≤ 200) (h : ∀ i, i < n → pu_ch (r i)) : ∃ s : List Int32, TXL s ∧ s.length = n ∧ ∀ i, i < n → r i = s.getD i 0 := by
  refine ⟨(List.range n).map r, ⟨by simpa using hn, fun c hc => ?_⟩, by simp, fun i hi => ?_⟩
  · obtain ⟨i, hi, rfl⟩ := List.mem_map.mp hc
    exact h i (List.mem_range.mp hi)
  · rw [List.getD_eq_getElem?_getD, List.getElem?_map, List.getElem?_range hi]
    rfl
theorem cleanBoth (c1 c2 c3 c5 c6 c8 c9 c11 ft1 ft2 ft6 ft7 ft12 ft13 fr1 fr2 fr3 fr6 fr7 fr8 l1 l2 l3 l4 l8 l9 l14 l15 l17 l20 l21 l22 u : Int32) (c4 c7 c10 c12 c13 ft3 ft4 ft5 ft8 ft9 ft10 ft11 ft14 fr4 fr5 fr9 fr10 l5 l6 l7 l10 l11 l12 l13 l16 l18 l19 l23 l24 un : RowF) (c14 : Nat → Int64) (m1 m2 m3 m4 m5 m6 m7 m8 m9 m10 m11 m12 m13 : Int32) (m14 m15 m16 m17 m19 m20 m29 m38 : RowF) (m18 : Nat → Int64) (R : RW) (hI : SameR c2 c4 m1 m14) (hP : SameP c11 c12 c13 c14 m4 m16 m17 m18) : ∃ (d1 ss' so' : Int32) (sr' : RowF) (ws' wo' : Int32) (wr' : RowF) (ft1' ft2' ft6' ft7' ft12' ft13' : Int32) (ft3' ft4' ft5' ft8' ft9' ft10' ft11' ft14' : RowF) (fr1' fr2' fr3' fr6' fr7' fr8' : Int32) (fr4' fr5' fr9' fr10' : RowF) (l1' l2' l3' l4' l8' l9' l14' l15' l17' l20' l21' l22' : Int32) (l5' l6' l7' l10' l11' l12' l13' l16' l18' l19' l23' l24' : RowF) (u' : Int32) (un' : RowF) (ans : Int32) (osz n' wr2 tr' pos' raw' oc' wh' nm' cd' : Int32) (outp' src' out' gn' bn' : RowF) (R' : RW), f_X9_clean c1 c2 c4 c5 c6 c7 c8 c9 c10 c11 c12 c13 c14 ft1 ft2 ft3 ft4 ft5 ft6 ft7 ft8 ft9 ft10 ft11 ft12 ft13 ft14 fr1 fr2 fr3 fr4 fr5 fr6 fr7 fr8 fr9 fr10 l1 l2 l3 l4 l5 l6 l7 l8 l9 l10 l11 l12 l13 l14 l15 l16 l17 l18 l19 l20 l21 l22 l23 l24 u un = some (d1, ss', so', sr', ws', wo', wr', ft1', ft2', ft3', ft4', ft5', ft6', ft7', ft8', ft9', ft10', ft11', ft12', ft13', ft14', fr1', fr2', fr3', fr4', fr5', fr6', fr7', fr8', fr9', fr10', l1', l2', l3', l4', l5', l6', l7', l8', l9', l10', l11', l12', l13', l14', l15', l16', l17', l18', l19', l20', l21', l22', l23', l24', u', un', ans) ∧ f_X10_clean m1 m2 m3 m4 m5 m6 m7 m8 m9 m10 m11 m12 m13 m14 m15 m16 m17 m18 m19 m20 R.ct R.kd R.le R.pr R.dp R.fo R.fr R.to m29 R.ac R.ow R.an R.vf R.vt R.sd R.so R.op m38 = some (osz, d1, n', wr2, tr', pos', raw', oc', wh', nm', cd', outp', src', out', R'.ct, R'.kd, R'.le, R'.pr, R'.dp, R'.fo, R'.fr, R'.to, gn', R'.ac, R'.ow, R'.an, R'.vf, R'.vt, R'.sd, R'.so, R'.op, bn', ans) ∧ SameR ws' wr' osz outp' ∧ SameT ft1' ft2' ft6' ft7' ft12' ft13' ft3' ft4' ft5' ft8' ft9' ft10' ft11' ft14' R' := by
  obtain ⟨n, hn, rfl, rfl, h⟩ := hI
  obtain ⟨⟨ns, hns, rfl, rfl, hsch⟩, hxa, hat⟩ := hP
  obtain ⟨s, hs, rfl, hrow⟩ := rowList hn (fun i hi => (h i hi).2)
  have hrow2 : ∀ i, i < s.length → m14 i = s.getD i 0 := fun i hi => by rw [← (h i hi).1]; exact hrow i hi
  obtain ⟨ss', so', sr', ws', wo', wr', ft1', ft2', ft6', ft7', ft12', ft13', ft3', ft4', ft5', ft8', ft9', ft10', ft11', ft14', fr1', fr2', fr3', fr6', fr7', fr8', fr4', fr5', fr9', fr10', l1', l2', l3', l4', l8', l9', l14', l15', l17', l20', l21', l22', l5', l6', l7', l10', l11', l12', l13', l16', l18', l19', l23', l24', u', un', ans, k1, k2, k3⟩ := cleanC (xa := c12) (xt := c13) (inp := c4) (sch := c14) hns hs hrow c1 c5 c6 c8 c9 c7 c10 ft1 ft2 ft6 ft7 ft12 ft13 ft3 ft4 ft5 ft8 ft9 ft10 ft11 ft14 fr1 fr2 fr3 fr6 fr7 fr8 fr4 fr5 fr9 fr10 l1 l2 l3 l4 l8 l9 l14 l15 l17 l20 l21 l22 l5 l6 l7 l10 l11 l12 l13 l16 l18 l19 l23 l24 u un
  obtain ⟨osz, n', wr2, tr', pos', raw', oc', wh', nm', cd', ans2, outp', src', out', gn', bn', R', g1, g2, g3⟩ := cleanR (xa := m16) (xt := c13) (mt := m17) (inp := m14) (sch := m18) hns hat hs hrow2 m15 m19 m20 m29 m38 R m2 m3 m5 m6 m7 m8 m9 m10 m11 m12 m13
  have hF : sF m16 (okC c13 m18 ns) = sF c12 (okC c13 c14 ns) := by
    rw [sF_xa (xa := c12) (ya := m16) hxa, okC_eq hsch]
  rw [hF] at g1 g3
  obtain ⟨a1, a2, a3, a4, a5⟩ := nds_all hs
  have hT : SameT ft1' ft2' ft6' ft7' ft12' ft13' ft3' ft4' ft5' ft8' ft9' ft10' ft11' ft14' R' := ⟨nds s, k2, g2, a1, a3, a4, a5⟩
  have hLS := (sCl_TXL (F := sF c12 (okC c13 c14 ns)) (fun z hz => (sF_all hz).1) 6 s hs).2
  have hcase : ans = ans2 ∧ SameR ws' wr' osz outp' := by
    revert k3 g3 hLS
    cases (sCl (sF c12 (okC c13 c14 ns)) 6 s).2 with
    | none =>
      intro k3 g3 _
      exact ⟨by rw [k3.1, g3.1], 0, Nat.zero_le _, k3.2, g3.2, fun i hi => by omega⟩
    | some o =>
      intro k3 g3 hLS
      have ho := hLS o rfl
      refine ⟨by rw [k3.1, g3.1], o.length, ho.1, k3.2.1, g3.2.1, fun i hi => ?_⟩
      rw [k3.2.2 i hi, g3.2.2 i hi]
      exact ⟨rfl, ho.2 _ (getD_mem hi)⟩
  obtain ⟨rfl, hO⟩ := hcase
  exact ⟨_, ss', so', sr', ws', wo', wr', ft1', ft2', ft6', ft7', ft12', ft13', ft3', ft4', ft5', ft8', ft9', ft10', ft11', ft14', fr1', fr2', fr3', fr6', fr7', fr8', fr4', fr5', fr9', fr10', l1', l2', l3', l4', l8', l9', l14', l15', l17', l20', l21', l22', l5', l6', l7', l10', l11', l12', l13', l16', l18', l19', l23', l24', u', un', ans, osz, n', wr2, tr', pos', raw', oc', wh', nm', cd', outp', src', out', gn', bn', R', k1, g1, hO, hT⟩
theorem and15 (x : Int32) : ∃ m, m < 16 ∧ x &&& (15 : Int32) = nI m := ⟨x.toBitVec.toNat % 2 ^ 4, Nat.mod_lt _ (by decide), pk_and x 4 (by decide)⟩
set_option maxHeartbeats 8000000 in
theorem lawLoop {L : Nat} (xs : Nat → Int32) (hL : L ≤ 2048) : ∀ (j v f : Nat) (c1 c2 c3 c5 c6 c8 c9 c11 ft1 ft2 ft6 ft7 ft12 ft13 fr1 fr2 fr3 fr6 fr7 fr8 l1 l2 l3 l4 l8 l9 l14 l15 l17 l20 l21 l22 u : Int32) (c4 c7 c10 c12 c13 ft3 ft4 ft5 ft8 ft9 ft10 ft11 ft14 fr4 fr5 fr9 fr10 l5 l6 l7 l10 l11 l12 l13 l16 l18 l19 l23 l24 un : RowF) (c14 : Nat → Int64) (m1 m2 m3 m4 m5 m6 m7 m8 m9 m10 m11 m12 m13 : Int32) (m14 m15 m16 m17 m19 m20 m21 m22 m23 m24 m25 m26 m27 m28 m29 m30 m31 m32 m33 m34 m35 m36 m37 m38 : RowF) (m18 : Nat → Int64), L ≤ v + 4 * j → v ≤ 4096 → j < f → c1 = m3 → SameR c2 c4 m1 m14 → SameR c8 c10 m2 m15 → SameP c11 c12 c13 c14 m4 m16 m17 m18 → SameT ft1 ft2 ft6 ft7 ft12 ft13 ft3 ft4 ft5 ft8 ft9 ft10 ft11 ft14 (m21, m22, m23, m24, m25, m26, m27, m28, m30, m31, m32, m33, m34, m35, m36, m37) → f_L_law_L18 L xs f c1 c2 c3 c4 c5 c6 c7 c8 c9 c10 c11 c12 c13 c14 ft1 ft2 ft3 ft4 ft5 ft6 ft7 ft8 ft9 ft10 ft11 ft12 ft13 ft14 fr1 fr2 fr3 fr4 fr5 fr6 fr7 fr8 fr9 fr10 l1 l2 l3 l4 l5 l6 l7 l8 l9 l10 l11 l12 l13 l14 l15 l16 l17 l18 l19 l20 l21 l22 l23 l24 u un m1 m2 m3 m4 m5 m6 m7 m8 m9 m10 m11 m12 m13 m14 m15 m16 m17 m18 m19 m20 m21 m22 m23 m24 m25 m26 m27 m28 m29 m30 m31 m32 m33 m34 m35 m36 m37 m38 (nI v) = some 1 := by
  have hend : ∀ v : Nat, v ≤ 4096 → ((Int32.ofNat L - 4 < nI v) = (L < v + 4)) := by
    intro v hv
    apply propext
    show nI L - 4 < nI v ↔ _
    have e1 : (nI L - 4).toInt = (L : Int) - 4 := by
      rw [Int32.toInt_sub, nI_toInt (by omega), show (4 : Int32).toInt = 4 by decide]
      apply Int.bmod_eq_of_le
      · omega
      · omega
    rw [Int32.lt_iff_toInt_lt, e1, nI_toInt (by omega)]
    omega
  intro j
  induction j with
  | zero =>
    intro v f c1 c2 c3 c5 c6 c8 c9 c11 ft1 ft2 ft6 ft7 ft12 ft13 fr1 fr2 fr3 fr6 fr7 fr8 l1 l2 l3 l4 l8 l9 l14 l15 l17 l20 l21 l22 u c4 c7 c10 c12 c13 ft3 ft4 ft5 ft8 ft9 ft10 ft11 ft14 fr4 fr5 fr9 fr10 l5 l6 l7 l10 l11 l12 l13 l16 l18 l19 l23 l24 un c14 m1 m2 m3 m4 m5 m6 m7 m8 m9 m10 m11 m12 m13 m14 m15 m16 m17 m19 m20 m21 m22 m23 m24 m25 m26 m27 m28 m29 m30 m31 m32 m33 m34 m35 m36 m37 m38 m18 hv hv4 hf h1 h2 h3 h4 h5
    obtain ⟨f, rfl⟩ : ∃ g, f = g + 1 := ⟨f - 1, by omega⟩
    rw [f_L_law_L18, if_pos (by rw [hend v hv4]; omega)]
  | succ j ih =>
    intro v f c1 c2 c3 c5 c6 c8 c9 c11 ft1 ft2 ft6 ft7 ft12 ft13 fr1 fr2 fr3 fr6 fr7 fr8 l1 l2 l3 l4 l8 l9 l14 l15 l17 l20 l21 l22 u c4 c7 c10 c12 c13 ft3 ft4 ft5 ft8 ft9 ft10 ft11 ft14 fr4 fr5 fr9 fr10 l5 l6 l7 l10 l11 l12 l13 l16 l18 l19 l23 l24 un c14 m1 m2 m3 m4 m5 m6 m7 m8 m9 m10 m11 m12 m13 m14 m15 m16 m17 m19 m20 m21 m22 m23 m24 m25 m26 m27 m28 m29 m30 m31 m32 m33 m34 m35 m36 m37 m38 m18 hv hv4 hf h1 h2 h3 h4 h5
    obtain ⟨f, rfl⟩ : ∃ g, f = g + 1 := ⟨f - 1, by omega⟩
    rw [f_L_law_L18]
    by_cases hlast : L < v + 4
    · rw [if_pos (by rw [hend v hv4]; exact hlast)]
    · rw [if_neg (by rw [hend v hv4]; exact hlast)]
      have go : ∀ (c1 c2 c3 c5 c6 c8 c9 c11 ft1 ft2 ft6 ft7 ft12 ft13 fr1 fr2 fr3 fr6 fr7 fr8 l1 l2 l3 l4 l8 l9 l14 l15 l17 l20 l21 l22 u : Int32) (c4 c7 c10 c12 c13 ft3 ft4 ft5 ft8 ft9 ft10 ft11 ft14 fr4 fr5 fr9 fr10 l5 l6 l7 l10 l11 l12 l13 l16 l18 l19 l23 l24 un : RowF) (c14 : Nat → Int64) (m1 m2 m3 m4 m5 m6 m7 m8 m9 m10 m11 m12 m13 : Int32) (m14 m15 m16 m17 m19 m20 m21 m22 m23 m24 m25 m26 m27 m28 m29 m30 m31 m32 m33 m34 m35 m36 m37 m38 : RowF) (m18 : Nat → Int64), c1 = m3 → SameR c2 c4 m1 m14 → SameR c8 c10 m2 m15 → SameP c11 c12 c13 c14 m4 m16 m17 m18 → SameT ft1 ft2 ft6 ft7 ft12 ft13 ft3 ft4 ft5 ft8 ft9 ft10 ft11 ft14 (m21, m22, m23, m24, m25, m26, m27, m28, m30, m31, m32, m33, m34, m35, m36, m37) → f_L_law_L521 L xs (f_L_law_L18 L xs f) c1 c2 c3 c4 c5 c6 c7 c8 c9 c10 c11 c12 c13 c14 ft1 ft2 ft3 ft4 ft5 ft6 ft7 ft8 ft9 ft10 ft11 ft12 ft13 ft14 fr1 fr2 fr3 fr4 fr5 fr6 fr7 fr8 fr9 fr10 l1 l2 l3 l4 l5 l6 l7 l8 l9 l10 l11 l12 l13 l14 l15 l16 l17 l18 l19 l20 l21 l22 l23 l24 u un m1 m2 m3 m4 m5 m6 m7 m8 m9 m10 m11 m12 m13 m14 m15 m16 m17 m18 m19 m20 m21 m22 m23 m24 m25 m26 m27 m28 m29 m30 m31 m32 m33 m34 m35 m36 m37 m38 (nI v) = some 1 := by
        intro c1 c2 c3 c5 c6 c8 c9 c11 ft1 ft2 ft6 ft7 ft12 ft13 fr1 fr2 fr3 fr6 fr7 fr8 l1 l2 l3 l4 l8 l9 l14 l15 l17 l20 l21 l22 u c4 c7 c10 c12 c13 ft3 ft4 ft5 ft8 ft9 ft10 ft11 ft14 fr4 fr5 fr9 fr10 l5 l6 l7 l10 l11 l12 l13 l16 l18 l19 l23 l24 un c14 m1 m2 m3 m4 m5 m6 m7 m8 m9 m10 m11 m12 m13 m14 m15 m16 m17 m19 m20 m21 m22 m23 m24 m25 m26 m27 m28 m29 m30 m31 m32 m33 m34 m35 m36 m37 m38 m18 h1 h2 h3 h4 h5
        unfold f_L_law_L521
        rw [show nI v + 4 = nI (v + 4) from nI_add v 4]
        exact ih (v + 4) f c1 c2 c3 c5 c6 c8 c9 c11 ft1 ft2 ft6 ft7 ft12 ft13 fr1 fr2 fr3 fr6 fr7 fr8 l1 l2 l3 l4 l8 l9 l14 l15 l17 l20 l21 l22 u c4 c7 c10 c12 c13 ft3 ft4 ft5 ft8 ft9 ft10 ft11 ft14 fr4 fr5 fr9 fr10 l5 l6 l7 l10 l11 l12 l13 l16 l18 l19 l23 l24 un c14 m1 m2 m3 m4 m5 m6 m7 m8 m9 m10 m11 m12 m13 m14 m15 m16 m17 m19 m20 m21 m22 m23 m24 m25 m26 m27 m28 m29 m30 m31 m32 m33 m34 m35 m36 m37 m38 m18 (by omega) (by omega) (by omega) h1 h2 h3 h4 h5
      have i0 : (nI v).toNatClampNeg = v := nI_clamp (by omega)
      have i1 : (nI v + 1).toNatClampNeg = v + 1 := by rw [nI_1, nI_clamp (by omega)]
      have i2 : (nI v + 2).toNatClampNeg = v + 2 := by rw [show nI v + 2 = nI (v + 2) from nI_add v 2, nI_clamp (by omega)]
      have i3 : (nI v + 3).toNatClampNeg = v + 3 := by rw [show nI v + 3 = nI (v + 3) from nI_add v 3, nI_clamp (by omega)]
      have b0 : ∀ {x : Option Int32}, ms_gi (nI v) L x = x := pu_gi (by omega) (by omega)
      have b1 : ∀ {x : Option Int32}, ms_gi (nI v + 1) L x = x := by intro x; rw [nI_1]; exact pu_gi (by omega) (by omega)
      have b2' : ∀ {x : Option Int32}, ms_gi (nI v + 2) L x = x := by intro x; rw [show nI v + 2 = nI (v + 2) from nI_add v 2]; exact pu_gi (by omega) (by omega)
      have b3 : ∀ {x : Option Int32}, ms_gi (nI v + 3) L x = x := by intro x; rw [show nI v + 3 = nI (v + 3) from nI_add v 3]; exact pu_gi (by omega) (by omega)
      rw [b0, i0]
      obtain ⟨m, hm, hw⟩ := and15 (xs v)
      rw [hw]
      have same := go c1 c2 c3 c5 c6 c8 c9 c11 ft1 ft2 ft6 ft7 ft12 ft13 fr1 fr2 fr3 fr6 fr7 fr8 l1 l2 l3 l4 l8 l9 l14 l15 l17 l20 l21 l22 u c4 c7 c10 c12 c13 ft3 ft4 ft5 ft8 ft9 ft10 ft11 ft14 fr4 fr5 fr9 fr10 l5 l6 l7 l10 l11 l12 l13 l16 l18 l19 l23 l24 un c14 m1 m2 m3 m4 m5 m6 m7 m8 m9 m10 m11 m12 m13 m14 m15 m16 m17 m19 m20 m21 m22 m23 m24 m25 m26 m27 m28 m29 m30 m31 m32 m33 m34 m35 m36 m37 m38 m18 h1 h2 h3 h4 h5
      have hm16 : m = 0 ∨ m = 1 ∨ m = 2 ∨ m = 3 ∨ m = 4 ∨ m = 5 ∨ m = 6 ∨ m = 7 ∨ m = 8 ∨ m = 9 ∨ m = 10 ∨ m = 11 ∨ m = 12 ∨ m = 13 ∨ m = 14 ∨ m = 15 := by omega
      obtain ⟨nd, t0, r0, hwn, n1, n2, n3⟩ := h5
      have h5 : SameT ft1 ft2 ft6 ft7 ft12 ft13 ft3 ft4 ft5 ft8 ft9 ft10 ft11 ft14 (m21, m22, m23, m24, m25, m26, m27, m28, m30, m31, m32, m33, m34, m35, m36, m37) := ⟨nd, t0, r0, hwn, n1, n2, n3⟩
      obtain ⟨u1, u2, u3, u4, u5⟩ := t0
      rcases hm16 with rfl | rfl | rfl | rfl | rfl | rfl | rfl | rfl | rfl | rfl | rfl | rfl | rfl | rfl | rfl | rfl
      · rw [if_pos (show nI 0 = 0 from rfl)]
        obtain ⟨a', b', z, r', s', k1, k2, k3⟩ := putBoth h2 c3 (((xs (v + 1)).toInt64 <<< ((32 : Int32).toInt64 &&& 63)) ||| ((xs (v + 2)).toInt64 &&& (4294967295 : Int64)))
        rw [b1, b2', i1, i2, k1, Option.bind_some, b1, b2', k2, Option.bind_some]
        dsimp only
        rw [if_pos rfl]
        exact go c1 a' c3 c5 c6 c8 c9 c11 ft1 ft2 ft6 ft7 ft12 ft13 fr1 fr2 fr3 fr6 fr7 fr8 l1 l2 l3 l4 l8 l9 l14 l15 l17 l20 l21 l22 u r' c7 c10 c12 c13 ft3 ft4 ft5 ft8 ft9 ft10 ft11 ft14 fr4 fr5 fr9 fr10 l5 l6 l7 l10 l11 l12 l13 l16 l18 l19 l23 l24 un c14 b' m2 m3 m4 m5 m6 m7 m8 m9 m10 m11 m12 m13 s' m15 m16 m17 m19 m20 m21 m22 m23 m24 m25 m26 m27 m28 m29 m30 m31 m32 m33 m34 m35 m36 m37 m38 m18 h1 k3 h3 h4 h5
      · rw [if_neg (show ¬ nI 1 = 0 by decide), if_pos (show nI 1 = 1 from rfl)]
        unfold f_X9_wipe f_X1_empty f_X10_wipe
        rw [Option.bind_some, Option.bind_some, Option.bind_some]
        exact go c1 0 0 c5 c6 c8 c9 c11 ft1 ft2 ft6 ft7 ft12 ft13 fr1 fr2 fr3 fr6 fr7 fr8 l1 l2 l3 l4 l8 l9 l14 l15 l17 l20 l21 l22 u c4 c7 c10 c12 c13 ft3 ft4 ft5 ft8 ft9 ft10 ft11 ft14 fr4 fr5 fr9 fr10 l5 l6 l7 l10 l11 l12 l13 l16 l18 l19 l23 l24 un c14 0 m2 m3 m4 m5 m6 m7 m8 m9 m10 m11 m12 m13 m14 m15 m16 m17 m19 m20 m21 m22 m23 m24 m25 m26 m27 m28 m29 m30 m31 m32 m33 m34 m35 m36 m37 m38 m18 h1 ⟨0, Nat.zero_le _, rfl, rfl, fun i hi => by omega⟩ h3 h4 h5
      · rw [if_neg (show ¬ nI 2 = 0 by decide), if_neg (show ¬ nI 2 = 1 by decide), if_pos (show nI 2 = 2 from rfl)]
        rw [b1, b2', i1, i2]
        rcases pu_action c12 m16 (xs (v + 1)) (xs (v + 2)) with ⟨k1, k2⟩ | ⟨l, a, hl, ha, k1, k2⟩
        · rw [k1, Option.bind_some, b1, b2', k2, Option.bind_some]
          dsimp only
          rw [if_pos rfl]
          exact same
        · rw [k1, Option.bind_some, b1, b2', k2, Option.bind_some]
          dsimp only
          rw [if_pos rfl]
          refine go c1 c2 c3 c5 c6 c8 c9 c11 ft1 ft2 ft6 ft7 ft12 ft13 fr1 fr2 fr3 fr6 fr7 fr8 l1 l2 l3 l4 l8 l9 l14 l15 l17 l20 l21 l22 u c4 c7 c10 (upd c12 l (nI a)) c13 ft3 ft4 ft5 ft8 ft9 ft10 ft11 ft14 fr4 fr5 fr9 fr10 l5 l6 l7 l10 l11 l12 l13 l16 l18 l19 l23 l24 un c14 m1 m2 m3 m4 m5 m6 m7 m8 m9 m10 m11 m12 m13 m14 m15 (upd m16 l (nI a)) m17 m19 m20 m21 m22 m23 m24 m25 m26 m27 m28 m29 m30 m31 m32 m33 m34 m35 m36 m37 m38 m18 h1 h2 h3 ⟨h4.1, fun x hx => ?_, h4.2.2⟩ h5
          by_cases c : x = l
          · rw [c, pk_us, pk_us]
          · rw [pk_un c, pk_un c]
            exact h4.2.1 x hx
      · rw [if_neg (show ¬ nI 3 = 0 by decide), if_neg (show ¬ nI 3 = 1 by decide), if_neg (show ¬ nI 3 = 2 by decide), if_pos (show nI 3 = 3 from rfl)]
        rw [b1, b2', b3, i1, i2, i3]
        by_cases c0 : xs (v + 3) = 0
        · rw [if_pos c0]
          obtain ⟨xt', mt', z, k1, k2, k3⟩ := pu_attribute h4.2.2 (xs (v + 1)) (xs (v + 2)) 0 (by simp)
          unfold f_L_law_L225 f_L_law_L252
          rw [k1, Option.bind_some, b1, b2', b3, i1, i2, i3, if_pos c0, k2, Option.bind_some]
          dsimp only
          rw [if_pos rfl]
          exact go c1 c2 c3 c5 c6 c8 c9 c11 ft1 ft2 ft6 ft7 ft12 ft13 fr1 fr2 fr3 fr6 fr7 fr8 l1 l2 l3 l4 l8 l9 l14 l15 l17 l20 l21 l22 u c4 c7 c10 c12 xt' ft3 ft4 ft5 ft8 ft9 ft10 ft11 ft14 fr4 fr5 fr9 fr10 l5 l6 l7 l10 l11 l12 l13 l16 l18 l19 l23 l24 un c14 m1 m2 m3 m4 m5 m6 m7 m8 m9 m10 m11 m12 m13 m14 m15 m16 mt' m19 m20 m21 m22 m23 m24 m25 m26 m27 m28 m29 m30 m31 m32 m33 m34 m35 m36 m37 m38 m18 h1 h2 h3 ⟨h4.1, h4.2.1, k3⟩ h5
        · rw [if_neg c0]
          obtain ⟨xt', mt', z, k1, k2, k3⟩ := pu_attribute h4.2.2 (xs (v + 1)) (xs (v + 2)) 1 (by simp)
          unfold f_L_law_L225 f_L_law_L252
          rw [k1, Option.bind_some, b1, b2', b3, i1, i2, i3, if_neg c0, k2, Option.bind_some]
          dsimp only
          rw [if_pos rfl]
          exact go c1 c2 c3 c5 c6 c8 c9 c11 ft1 ft2 ft6 ft7 ft12 ft13 fr1 fr2 fr3 fr6 fr7 fr8 l1 l2 l3 l4 l8 l9 l14 l15 l17 l20 l21 l22 u c4 c7 c10 c12 xt' ft3 ft4 ft5 ft8 ft9 ft10 ft11 ft14 fr4 fr5 fr9 fr10 l5 l6 l7 l10 l11 l12 l13 l16 l18 l19 l23 l24 un c14 m1 m2 m3 m4 m5 m6 m7 m8 m9 m10 m11 m12 m13 m14 m15 m16 mt' m19 m20 m21 m22 m23 m24 m25 m26 m27 m28 m29 m30 m31 m32 m33 m34 m35 m36 m37 m38 m18 h1 h2 h3 ⟨h4.1, h4.2.1, k3⟩ h5
      · rw [if_neg (show ¬ nI 4 = 0 by decide), if_neg (show ¬ nI 4 = 1 by decide), if_neg (show ¬ nI 4 = 2 by decide), if_neg (show ¬ nI 4 = 3 by decide), if_pos (show nI 4 = 4 from rfl)]
        obtain ⟨⟨ns, hns, q1, q2, hsch⟩, hxa, hat⟩ := h4
        subst q1 q2
        obtain ⟨ns', t1, t2, z, k0, k1, k2, k3⟩ := pu_scheme (((xs (v + 1)).toInt64 <<< ((32 : Int32).toInt64 &&& 63)) ||| ((xs (v + 2)).toInt64 &&& (4294967295 : Int64))) hns c14 m18 hsch
        rw [b1, b2', i1, i2, k1, Option.bind_some, b1, b2', k2, Option.bind_some]
        dsimp only
        rw [if_pos rfl]
        exact go c1 c2 c3 c5 c6 c8 c9 (nI ns') ft1 ft2 ft6 ft7 ft12 ft13 fr1 fr2 fr3 fr6 fr7 fr8 l1 l2 l3 l4 l8 l9 l14 l15 l17 l20 l21 l22 u c4 c7 c10 c12 c13 ft3 ft4 ft5 ft8 ft9 ft10 ft11 ft14 fr4 fr5 fr9 fr10 l5 l6 l7 l10 l11 l12 l13 l16 l18 l19 l23 l24 un t1 m1 m2 m3 (nI ns') m5 m6 m7 m8 m9 m10 m11 m12 m13 m14 m15 m16 m17 m19 m20 m21 m22 m23 m24 m25 m26 m27 m28 m29 m30 m31 m32 m33 m34 m35 m36 m37 m38 t2 h1 h2 h3 ⟨⟨ns', k0, rfl, rfl, k3⟩, hxa, hat⟩ h5
      · rw [if_neg (show ¬ nI 5 = 0 by decide), if_neg (show ¬ nI 5 = 1 by decide), if_neg (show ¬ nI 5 = 2 by decide), if_neg (show ¬ nI 5 = 3 by decide), if_neg (show ¬ nI 5 = 4 by decide), if_pos (show nI 5 = 5 from rfl)]
        obtain ⟨A', T', k1, k2, k3⟩ := pu_restore c11 c12 c13
        obtain ⟨A2, T2, g1, g2, g3⟩ := pu_reset m4 m16 m17
        unfold f_X9_reset
        rw [k1, Option.bind_some, Option.bind_some, g1, Option.bind_some]
        exact go c1 c2 c3 c5 c6 c8 c9 0 ft1 ft2 ft6 ft7 ft12 ft13 fr1 fr2 fr3 fr6 fr7 fr8 l1 l2 l3 l4 l8 l9 l14 l15 l17 l20 l21 l22 u c4 c7 c10 A' T' ft3 ft4 ft5 ft8 ft9 ft10 ft11 ft14 fr4 fr5 fr9 fr10 l5 l6 l7 l10 l11 l12 l13 l16 l18 l19 l23 l24 un c14 m1 m2 m3 0 m5 m6 m7 m8 m9 m10 m11 m12 m13 m14 m15 A2 T2 m19 m20 m21 m22 m23 m24 m25 m26 m27 m28 m29 m30 m31 m32 m33 m34 m35 m36 m37 m38 m18 h1 h2 h3 ⟨⟨0, by omega, rfl, rfl, fun i hi => by omega⟩, fun l hl => by rw [k2 l hl, g2 l hl], pu_at0 k3 g3⟩ h5
      · rw [if_neg (show ¬ nI 6 = 0 by decide), if_neg (show ¬ nI 6 = 1 by decide), if_neg (show ¬ nI 6 = 2 by decide), if_neg (show ¬ nI 6 = 3 by decide), if_neg (show ¬ nI 6 = 4 by decide), if_neg (show ¬ nI 6 = 5 by decide), if_pos (show nI 6 = 6 from rfl)]
        obtain ⟨d1, ss', so', sr', ws', wo', wr', ft1', ft2', ft6', ft7', ft12', ft13', ft3', ft4', ft5', ft8', ft9', ft10', ft11', ft14', fr1', fr2', fr3', fr6', fr7', fr8', fr4', fr5', fr9', fr10', l1', l2', l3', l4', l8', l9', l14', l15', l17', l20', l21', l22', l5', l6', l7', l10', l11', l12', l13', l16', l18', l19', l23', l24', u', un', ans, osz, n', wr2, tr', pos', raw', oc', wh', nm', cd', outp', src', out', gn', bn', R', k1, k2, k3, k4⟩ := cleanBoth c1 c2 c3 c5 c6 c8 c9 c11 ft1 ft2 ft6 ft7 ft12 ft13 fr1 fr2 fr3 fr6 fr7 fr8 l1 l2 l3 l4 l8 l9 l14 l15 l17 l20 l21 l22 u c4 c7 c10 c12 c13 ft3 ft4 ft5 ft8 ft9 ft10 ft11 ft14 fr4 fr5 fr9 fr10 l5 l6 l7 l10 l11 l12 l13 l16 l18 l19 l23 l24 un c14 m1 m2 m3 m4 m5 m6 m7 m8 m9 m10 m11 m12 m13 m14 m15 m16 m17 m19 m20 m29 m38 m18 (m21, m22, m23, m24, m25, m26, m27, m28, m30, m31, m32, m33, m34, m35, m36, m37) h2 h4
        have k2' : f_X10_clean m1 m2 m3 m4 m5 m6 m7 m8 m9 m10 m11 m12 m13 m14 m15 m16 m17 m18 m19 m20 m21 m22 m23 m24 m25 m26 m27 m28 m29 m30 m31 m32 m33 m34 m35 m36 m37 m38 = _ := k2
        rw [k1, Option.bind_some, k2', Option.bind_some]
        dsimp only
        rw [if_pos rfl]
        exact go d1 c2 c3 ss' so' ws' wo' c11 ft1' ft2' ft6' ft7' ft12' ft13' fr1' fr2' fr3' fr6' fr7' fr8' l1' l2' l3' l4' l8' l9' l14' l15' l17' l20' l21' l22' u' c4 sr' wr' c12 c13 ft3' ft4' ft5' ft8' ft9' ft10' ft11' ft14' fr4' fr5' fr9' fr10' l5' l6' l7' l10' l11' l12' l13' l16' l18' l19' l23' l24' un' c14 m1 osz d1 m4 n' wr2 tr' pos' raw' oc' wh' nm' cd' m14 outp' m16 m17 src' out' R'.ct R'.kd R'.le R'.pr R'.dp R'.fo R'.fr R'.to gn' R'.ac R'.ow R'.an R'.vf R'.vt R'.sd R'.so R'.op bn' m18 rfl h2 k3 h4 k4
      · rw [if_neg (show ¬ nI 7 = 0 by decide), if_neg (show ¬ nI 7 = 1 by decide), if_neg (show ¬ nI 7 = 2 by decide), if_neg (show ¬ nI 7 = 3 by decide), if_neg (show ¬ nI 7 = 4 by decide), if_neg (show ¬ nI 7 = 5 by decide), if_neg (show ¬ nI 7 = 6 by decide), if_pos (show nI 7 = 7 from rfl)]
        obtain ⟨z, k1, k2⟩ := outB h3 (xs (v + 1))
        rw [b1, i1, k1, Option.bind_some, b1, k2, Option.bind_some, if_pos (by rw [pu_cmp])]
        exact same
      · rw [if_neg (show ¬ nI 8 = 0 by decide), if_neg (show ¬ nI 8 = 1 by decide), if_neg (show ¬ nI 8 = 2 by decide), if_neg (show ¬ nI 8 = 3 by decide), if_neg (show ¬ nI 8 = 4 by decide), if_neg (show ¬ nI 8 = 5 by decide), if_neg (show ¬ nI 8 = 6 by decide), if_neg (show ¬ nI 8 = 7 by decide), if_pos (show nI 8 = 8 from rfl)]
        unfold f_X9_rounds f_X10_rounds
        rw [Option.bind_some, Option.bind_some, if_pos h1]
        exact same
      · rw [if_neg (show ¬ nI 9 = 0 by decide), if_neg (show ¬ nI 9 = 1 by decide), if_neg (show ¬ nI 9 = 2 by decide), if_neg (show ¬ nI 9 = 3 by decide), if_neg (show ¬ nI 9 = 4 by decide), if_neg (show ¬ nI 9 = 5 by decide), if_neg (show ¬ nI 9 = 6 by decide), if_neg (show ¬ nI 9 = 7 by decide), if_neg (show ¬ nI 9 = 8 by decide), if_pos (show nI 9 = 9 from rfl)]
        unfold f_X9_nodes f_X7_size f_X10_nodes
        have hct : m21 0 = nI nd.length := r0.2.1
        rw [Option.bind_some, Option.bind_some, show (0 : Int32) = nI 0 from rfl, pu_gi (by decide) (by decide), nI_clamp (by decide), Option.bind_some, hct, if_pos u1]
        exact same
      · rw [if_neg (show ¬ nI 10 = 0 by decide), if_neg (show ¬ nI 10 = 1 by decide), if_neg (show ¬ nI 10 = 2 by decide), if_neg (show ¬ nI 10 = 3 by decide), if_neg (show ¬ nI 10 = 4 by decide), if_neg (show ¬ nI 10 = 5 by decide), if_neg (show ¬ nI 10 = 6 by decide), if_neg (show ¬ nI 10 = 7 by decide), if_neg (show ¬ nI 10 = 8 by decide), if_neg (show ¬ nI 10 = 9 by decide), if_pos (show nI 10 = 10 from rfl)]
        obtain ⟨z, k1, k2⟩ := nodeBoth u5 r0 hwn n1 (xs (v + 1))
        have k2' : f_X10_node m21 m22 m23 m25 m26 (xs (v + 1)) = some z := k2
        rw [← u1] at k1
        rw [b1, i1, k1, Option.bind_some, b1, k2', Option.bind_some, if_pos rfl]
        exact same
      · rw [if_neg (show ¬ nI 11 = 0 by decide), if_neg (show ¬ nI 11 = 1 by decide), if_neg (show ¬ nI 11 = 2 by decide), if_neg (show ¬ nI 11 = 3 by decide), if_neg (show ¬ nI 11 = 4 by decide), if_neg (show ¬ nI 11 = 5 by decide), if_neg (show ¬ nI 11 = 6 by decide), if_neg (show ¬ nI 11 = 7 by decide), if_neg (show ¬ nI 11 = 8 by decide), if_neg (show ¬ nI 11 = 9 by decide), if_neg (show ¬ nI 11 = 10 by decide), if_pos (show nI 11 = 11 from rfl)]
        obtain ⟨z, k1, k2⟩ := textBoth u5 r0 hwn n1 n2 (xs (v + 1)) (xs (v + 2))
        have k2' : f_X10_text m21 m22 m27 m28 m36 (xs (v + 1)) (xs (v + 2)) = some z := k2
        rw [← u1, ← u3] at k1
        rw [b1, b2', i1, i2, k1, Option.bind_some, b1, b2', k2', Option.bind_some, if_pos (by rw [pu_cmp])]
        exact same
      · rw [if_neg (show ¬ nI 12 = 0 by decide), if_neg (show ¬ nI 12 = 1 by decide), if_neg (show ¬ nI 12 = 2 by decide), if_neg (show ¬ nI 12 = 3 by decide), if_neg (show ¬ nI 12 = 4 by decide), if_neg (show ¬ nI 12 = 5 by decide), if_neg (show ¬ nI 12 = 6 by decide), if_neg (show ¬ nI 12 = 7 by decide), if_neg (show ¬ nI 12 = 8 by decide), if_neg (show ¬ nI 12 = 9 by decide), if_neg (show ¬ nI 12 = 10 by decide), if_neg (show ¬ nI 12 = 11 by decide), if_pos (show nI 12 = 12 from rfl)]
        obtain ⟨z, k1, k2⟩ := lenBoth u5 r0 hwn n1 n3 n2 (xs (v + 1)) (xs (v + 2))
        have k2' : f_X10_length m21 m30 m31 m32 m33 m34 (xs (v + 1)) (xs (v + 2)) = some z := k2
        rw [← u1, ← u2] at k1
        rw [b1, b2', i1, i2, k1, Option.bind_some, b1, b2', k2', Option.bind_some, if_pos rfl]
        exact same
      · rw [if_neg (show ¬ nI 13 = 0 by decide), if_neg (show ¬ nI 13 = 1 by decide), if_neg (show ¬ nI 13 = 2 by decide), if_neg (show ¬ nI 13 = 3 by decide), if_neg (show ¬ nI 13 = 4 by decide), if_neg (show ¬ nI 13 = 5 by decide), if_neg (show ¬ nI 13 = 6 by decide), if_neg (show ¬ nI 13 = 7 by decide), if_neg (show ¬ nI 13 = 8 by decide), if_neg (show ¬ nI 13 = 9 by decide), if_neg (show ¬ nI 13 = 10 by decide), if_neg (show ¬ nI 13 = 11 by decide), if_neg (show ¬ nI 13 = 12 by decide), if_pos (show nI 13 = 13 from rfl)]
        obtain ⟨z, k1, k2⟩ := valBoth u5 r0 hwn n1 n3 n2 (xs (v + 1)) (xs (v + 2)) (xs (v + 3))
        have k2' : f_X10_value m21 m30 m31 m32 m33 m34 m36 (xs (v + 1)) (xs (v + 2)) (xs (v + 3)) = some z := k2
        rw [← u1, ← u2, ← u4] at k1
        rw [b1, b2', b3, i1, i2, i3, k1, Option.bind_some, b1, b2', b3, k2', Option.bind_some, if_pos (by rw [pu_cmp])]
        exact same
      · rw [if_neg (show ¬ nI 14 = 0 by decide), if_neg (show ¬ nI 14 = 1 by decide), if_neg (show ¬ nI 14 = 2 by decide), if_neg (show ¬ nI 14 = 3 by decide), if_neg (show ¬ nI 14 = 4 by decide), if_neg (show ¬ nI 14 = 5 by decide), if_neg (show ¬ nI 14 = 6 by decide), if_neg (show ¬ nI 14 = 7 by decide), if_neg (show ¬ nI 14 = 8 by decide), if_neg (show ¬ nI 14 = 9 by decide), if_neg (show ¬ nI 14 = 10 by decide), if_neg (show ¬ nI 14 = 11 by decide), if_neg (show ¬ nI 14 = 12 by decide), if_neg (show ¬ nI 14 = 13 by decide), if_pos (show nI 14 = 14 from rfl)]
        exact same
      · rw [if_neg (show ¬ nI 15 = 0 by decide), if_neg (show ¬ nI 15 = 1 by decide), if_neg (show ¬ nI 15 = 2 by decide), if_neg (show ¬ nI 15 = 3 by decide), if_neg (show ¬ nI 15 = 4 by decide), if_neg (show ¬ nI 15 = 5 by decide), if_neg (show ¬ nI 15 = 6 by decide), if_neg (show ¬ nI 15 = 7 by decide), if_neg (show ¬ nI 15 = 8 by decide), if_neg (show ¬ nI 15 = 9 by decide), if_neg (show ¬ nI 15 = 10 by decide), if_neg (show ¬ nI 15 = 11 by decide), if_neg (show ¬ nI 15 = 12 by decide), if_neg (show ¬ nI 15 = 13 by decide), if_neg (show ¬ nI 15 = 14 by decide), if_pos (show nI 15 = 15 from rfl)]
        exact same
