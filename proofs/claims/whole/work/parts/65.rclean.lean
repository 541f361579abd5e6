/-! the reference cleans -/
theorem cpL126 {xa mt inp : RowF} {sch : Nat → Int64} {inN ns N : Nat} (hN : N ≤ 200) (os md wr tr pos raw oc wh nm cd v1 : Int32) (outp out gn bn : RowF) (R : RW) : ∀ (j k f : Nat) (src : RowF), k + j = N → j < f → ∃ src' : RowF, f_X10_clean_L126 (nI inN) (nI ns) inp xa mt sch f os md (nI N) wr tr pos raw oc wh nm cd outp src out R.ct R.kd R.le R.pr R.dp R.fo R.fr R.to gn R.ac R.ow R.an R.vf R.vt R.sd R.so R.op bn v1 (nI k) = some (os, md, nI N, wr, tr, pos, raw, oc, wh, nm, cd, outp, src', out, R.ct, R.kd, R.le, R.pr, R.dp, R.fo, R.fr, R.to, gn, R.ac, R.ow, R.an, R.vf, R.vt, R.sd, R.so, R.op, bn, v1) ∧ (∀ i, k ≤ i → i < N → src' i = out i) ∧ (∀ i, i < k → src' i = src i) := by
  intro j
  induction j with
  | zero =>
    intro k f src hk hf
    obtain ⟨f, rfl⟩ : ∃ g, f = g + 1 := ⟨f - 1, by omega⟩
    refine ⟨src, ?_, fun i a b => by omega, fun i _ => rfl⟩
    rw [f_X10_clean_L126, if_pos (nI_le (by omega) (by omega))]
  | succ j ih =>
    intro k f src hk hf
    obtain ⟨f, rfl⟩ : ∃ g, f = g + 1 := ⟨f - 1, by omega⟩
    obtain ⟨src', g1, g2, g3⟩ := ih (k + 1) f (upd src k (out k)) (by omega) (by omega)
    refine ⟨src', ?_, fun i a b => ?_, fun i hi => by rw [g3 i (by omega), pk_un (by omega)]⟩
    · rw [f_X10_clean_L126, if_neg (nI_ge (by omega) (by omega)), pu_gi (by omega) (by decide), pu_gi (by omega) (by decide), nI_clamp (by omega), nI_1]
      exact g1
    · by_cases e : i = k
      · subst e
        rw [g3 i (by omega), pk_us]
      · exact g2 i (by omega) b
theorem cpL165 {xa mt inp : RowF} {sch : Nat → Int64} {inN ns N : Nat} (hN : N ≤ 200) (os md wr tr pos raw oc wh nm cd : Int32) (src out gn bn : RowF) (R : RW) : ∀ (j k f : Nat) (outp : RowF), k + j = N → j < f → ∃ outp' : RowF, f_X10_clean_L165 (nI inN) (nI ns) inp xa mt sch f os md (nI N) wr tr pos raw oc wh nm cd outp src out R.ct R.kd R.le R.pr R.dp R.fo R.fr R.to gn R.ac R.ow R.an R.vf R.vt R.sd R.so R.op bn (nI k) = some (os, md, nI N, wr, tr, pos, raw, oc, wh, nm, cd, outp', src, out, R.ct, R.kd, R.le, R.pr, R.dp, R.fo, R.fr, R.to, gn, R.ac, R.ow, R.an, R.vf, R.vt, R.sd, R.so, R.op, bn) ∧ (∀ i, k ≤ i → i < N → outp' i = src i) ∧ (∀ i, i < k → outp' i = outp i) := by
  intro j
  induction j with
  | zero =>
    intro k f outp hk hf
    obtain ⟨f, rfl⟩ : ∃ g, f = g + 1 := ⟨f - 1, by omega⟩
    refine ⟨outp, ?_, fun i a b => by omega, fun i _ => rfl⟩
    rw [f_X10_clean_L165, if_pos (nI_le (by omega) (by omega))]
  | succ j ih =>
    intro k f outp hk hf
    obtain ⟨f, rfl⟩ : ∃ g, f = g + 1 := ⟨f - 1, by omega⟩
    obtain ⟨outp', g1, g2, g3⟩ := ih (k + 1) f (upd outp k (src k)) (by omega) (by omega)
    refine ⟨outp', ?_, fun i a b => ?_, fun i hi => by rw [g3 i (by omega), pk_un (by omega)]⟩
    · rw [f_X10_clean_L165, if_neg (nI_ge (by omega) (by omega)), pu_gi (by omega) (by decide), pu_gi (by omega) (by decide), nI_clamp (by omega), nI_1]
      exact g1
    · by_cases e : i = k
      · subst e
        rw [g3 i (by omega), pk_us]
      · exact g2 i (by omega) b
theorem cpL10 {xa mt inp : RowF} {sch : Nat → Int64} {inN ns N : Nat} (hN : N ≤ 200) (os md wr tr pos raw oc wh nm cd : Int32) (outp out gn bn : RowF) (R : RW) : ∀ (j k f : Nat) (src : RowF), k + j = N → j < f → ∃ src' : RowF, f_X10_clean_L10 (nI inN) (nI ns) inp xa mt sch f os md (nI N) wr tr pos raw oc wh nm cd outp src out R.ct R.kd R.le R.pr R.dp R.fo R.fr R.to gn R.ac R.ow R.an R.vf R.vt R.sd R.so R.op bn (nI k) = some (os, md, nI N, wr, tr, pos, raw, oc, wh, nm, cd, outp, src', out, R.ct, R.kd, R.le, R.pr, R.dp, R.fo, R.fr, R.to, gn, R.ac, R.ow, R.an, R.vf, R.vt, R.sd, R.so, R.op, bn) ∧ (∀ i, k ≤ i → i < N → src' i = inp i) ∧ (∀ i, i < k → src' i = src i) := by
  intro j
  induction j with
  | zero =>
    intro k f src hk hf
    obtain ⟨f, rfl⟩ : ∃ g, f = g + 1 := ⟨f - 1, by omega⟩
    refine ⟨src, ?_, fun i a b => by omega, fun i _ => rfl⟩
    rw [f_X10_clean_L10, if_pos (nI_le (by omega) (by omega))]
  | succ j ih =>
    intro k f src hk hf
    obtain ⟨f, rfl⟩ : ∃ g, f = g + 1 := ⟨f - 1, by omega⟩
    obtain ⟨src', g1, g2, g3⟩ := ih (k + 1) f (upd src k (inp k)) (by omega) (by omega)
    refine ⟨src', ?_, fun i a b => ?_, fun i hi => by rw [g3 i (by omega), pk_un (by omega)]⟩
    · rw [f_X10_clean_L10, if_neg (nI_ge (by omega) (by omega)), pu_gi (by omega) (by decide), pu_gi (by omega) (by decide), nI_clamp (by omega), nI_1]
      exact g1
    · by_cases e : i = k
      · subst e
        rw [g3 i (by omega), pk_us]
      · exact g2 i (by omega) b
theorem chL19 {src out : RowF} {s o : List Int32} (w0 : Int32) (hs : TXL s) (hl : o.length = s.length) (h1 : ∀ i, i < s.length → src i = s.getD i 0) (h2 : ∀ i, i < o.length → i < 200 → out i = o.getD i 0) : ∀ (j k f : Nat), k + j = s.length → j < f → f_X10_changed_L19 (nI s.length) w0 src out f 1 (nI k) = some (b2 (eqL o s k j)) := by
  have h200 := hs.1
  intro j
  induction j with
  | zero =>
    intro k f hk hf
    obtain ⟨f, rfl⟩ : ∃ g, f = g + 1 := ⟨f - 1, by omega⟩
    rw [f_X10_changed_L19, if_pos (nI_le (by omega) (by omega))]
    rfl
  | succ j ih =>
    intro k f hk hf
    obtain ⟨f, rfl⟩ : ∃ g, f = g + 1 := ⟨f - 1, by omega⟩
    rw [f_X10_changed_L19, if_neg (nI_ge (by omega) (by omega)), if_neg (show ¬ (1 : Int32) = 0 by decide), pu_gi (by omega) (by decide), pu_gi (by omega) (by decide), nI_clamp (by omega), h1 k (by omega), h2 k (by omega) (by omega)]
    unfold f_X10_changed_L51
    rw [nI_1]
    rw [show eqL o s k (j + 1) = (decide (o.getD k 0 = s.getD k 0) && eqL o s (k + 1) j) from rfl]
    by_cases c : o.getD k 0 = s.getD k 0
    · rw [if_pos c, ih (k + 1) f (by omega) (by omega), decide_eq_true c, Bool.true_and]
    · rw [if_neg c, decide_eq_false c, Bool.false_and]
      obtain ⟨f, rfl⟩ : ∃ g, f = g + 1 := ⟨f - 1, by omega⟩
      rw [f_X10_changed_L19]
      split
      · rfl
      · rw [if_pos rfl]
        rfl
theorem changedR {src : RowF} {q : Int32 × RowF} {s o : List Int32} (hs : TXL s) (h1 : ∀ i, i < s.length → src i = s.getD i 0) (h2 : LR q o) (hb : o.length < 2 ^ 20) : f_X10_changed (nI s.length) q.1 src q.2 = some (b2 (!decide (o = s))) := by
  have h200 := hs.1
  unfold f_X10_changed f_X10_changed_L16
  rw [h2.1]
  have el : (nI o.length = nI s.length) = (o.length = s.length) := pu_e (by omega) (by omega)
  simp only [el]
  by_cases c : o.length = s.length
  · have := chL19 (src := src) (out := q.2) (nI o.length) hs c h1 h2.2 s.length 0 1000 (by omega) (by omega)
    rw [if_pos c, show (0 : Int32) = nI 0 from rfl, this, Option.bind_some]
    have ed := eqL_eq c
    rw [ed]
    cases decide (o = s) <;> rfl
  · have hne : ¬ o = s := fun q => c (by rw [q])
    rw [if_neg c, decide_eq_false hne]
    have e0 : f_X10_changed_L19 (nI s.length) (nI o.length) src q.2 1000 0 0 = some 0 := by
      rw [f_X10_changed_L19]
      split
      · rfl
      · rw [if_pos rfl]
    rw [e0]
    rfl
def R0 (nd : List Nd) (R : RW) : Prop := RT 0 0 R.kd R.le R.pr R.dp R.fo R.fr R.to R.so R.ow R.an R.vf R.vt nd ∧ R.ct 0 = nI nd.length ∧ R.ac 0 = nI (acM nd)
theorem R0_FM {nd : List Nd} {R R' : RW} (h : R0 nd R) (hf : FM 1 R R') (h1 : nd.length ≤ 256) (h2 : stoM nd ≤ 256) (h3 : acM nd ≤ 128) : R0 nd R' := by
  refine ⟨RT.congr h.1 (fun i _ b => ?_) (fun i _ b => ?_) (fun i _ b => hf.f3 i (by omega)), ?_, ?_⟩
  · obtain ⟨a1, a2, a3, a4, a5, a6, a7, a8⟩ := hf.f2 i (by omega)
    exact ⟨a1, a2, a3, a4, a5, a6, a7⟩
  · exact (hf.f2 i (by omega)).2.2.2.2.2.2.2
  · rw [(hf.f1 0 (by omega)).1]
    exact h.2.1
  · rw [(hf.f1 0 (by omega)).2.2]
    exact h.2.2
theorem refL48 {xa xt mt inp : RowF} {sch : Nat → Int64} {inN ns : Nat} {nd0 : List Nd} (hns : ns ≤ 4) (hat : pu_at xt mt) (n1 : nd0.length ≤ 200) (n2 : stoM nd0 ≤ 200) (n3 : acM nd0 ≤ 100) (outp : RowF) : ∀ (j m : Nat) (s : List Int32) (f : Nat) (R : RW) (src out gn bn : RowF) (wr tr pos raw oc wh nm cd : Int32), m + j = 6 → 0 < j → j < f → TXL s → (∀ i, i < s.length → src i = s.getD i 0) → (m = 0 → nd0 = nds s) → (¬ m = 0 → R0 nd0 R) → ∃ (osz n' wr' tr' pos' raw' oc' wh' nm' cd' ans : Int32) (outp' src' out' gn' bn' : RowF) (R' : RW), f_X10_clean_L48 (nI inN) (nI ns) inp xa mt sch f 0 (nI m) (nI s.length) wr tr pos raw oc wh nm cd outp src out R.ct R.kd R.le R.pr R.dp R.fo R.fr R.to gn R.ac R.ow R.an R.vf R.vt R.sd R.so R.op bn 1 = some (osz, nI (m + (sCl (sF xa (okC xt sch ns)) j s).1), n', wr', tr', pos', raw', oc', wh', nm', cd', outp', src', out', R'.ct, R'.kd, R'.le, R'.pr, R'.dp, R'.fo, R'.fr, R'.to, gn', R'.ac, R'.ow, R'.an, R'.vf, R'.vt, R'.sd, R'.so, R'.op, bn', ans) ∧ R0 nd0 R' ∧ (match (sCl (sF xa (okC xt sch ns)) j s).2 with
    | none => ans = -1 ∧ osz = 0
    | some o => ans = nI o.length ∧ osz = nI o.length ∧ ∀ i, i < o.length → outp' i = o.getD i 0) := by
  intro j
  induction j with
  | zero => intro m s f R src out gn bn wr tr pos raw oc wh nm cd hm hj; omega
  | succ j ih =>
    intro m s f R src out gn bn wr tr pos raw oc wh nm cd hm hj hf hs hsrc hm0 hm1
    obtain ⟨f, rfl⟩ : ∃ g, f = g + 1 := ⟨f - 1, by omega⟩
    have h200 := hs.1
    have ht := hs.toTX hsrc
    obtain ⟨a1, a2, a3, a4, a5⟩ := nds_all hs
    obtain ⟨b1, b2'⟩ := sF_all (xa := xa) (ok := okC xt sch ns) hs
    rw [f_X10_clean_L48, if_neg (show ¬ (1 : Int32) = 0 by decide)]
    have em : (nI m = 0) = (m = 0) := pu_e (b := 0) (by omega) (by decide)
    simp only [em]
    have main : ∀ w : Nat, w < 2 → (w = 0 → m = 0) → (w = 1 → ¬ m = 0) → ∃ (osz n' wr' tr' pos' raw' oc' wh' nm' cd' ans : Int32) (outp' src' out' gn' bn' : RowF) (R' : RW), f_X10_clean_L65 (nI inN) (nI ns) inp xa mt sch (f_X10_clean_L48 (nI inN) (nI ns) inp xa mt sch f) 0 (nI m) (nI s.length) wr tr pos raw oc wh nm cd outp src out R.ct R.kd R.le R.pr R.dp R.fo R.fr R.to gn R.ac R.ow R.an R.vf R.vt R.sd R.so R.op bn (nI w) = some (osz, nI (m + (sCl (sF xa (okC xt sch ns)) (j + 1) s).1), n', wr', tr', pos', raw', oc', wh', nm', cd', outp', src', out', R'.ct, R'.kd, R'.le, R'.pr, R'.dp, R'.fo, R'.fr, R'.to, gn', R'.ac, R'.ow, R'.an, R'.vf, R'.vt, R'.sd, R'.so, R'.op, bn', ans) ∧ R0 nd0 R' ∧ (match (sCl (sF xa (okC xt sch ns)) (j + 1) s).2 with
        | none => ans = -1 ∧ osz = 0
        | some o => ans = nI o.length ∧ osz = nI o.length ∧ ∀ i, i < o.length → outp' i = o.getD i 0) := by
      intro w hw hw0 hw1
      obtain ⟨k, R1, o1, o2, o3, wh1, nm1, cd1, k1, k2, k3, k4⟩ := readR ht hw R pos raw oc wh nm cd
      have k3a := k3
      rw [nds_same hs k2] at k3
      obtain ⟨q, gn1, bn1, g1, g2⟩ := siftR (xa := xa) (sch := sch) (ns := ns) hw hns hat k3 a5 a4 a3 a1 a2 wr out gn bn
      have g2' : LR q (sF xa (okC xt sch ns) s) := g2
      have hch := changedR hs hsrc g2' (by omega)
      have hR0 : R0 nd0 R1 := by
        by_cases c : m = 0
        · have hw' : w = 0 := by
            by_cases c1 : w = 0
            · exact c1
            · exact absurd c (hw1 (by omega))
          rw [hm0 c]
          subst hw'
          exact ⟨k3.rt, k3.ct, k3.ac⟩
        · have hw' : w = 1 := by
            by_cases c1 : w = 1
            · exact c1
            · exact absurd (hw0 (by omega)) c
          subst hw'
          exact R0_FM (hm1 c) k4 (by omega) (by omega) (by omega)
      unfold f_X10_clean_L65
      rw [k1, Option.bind_some]
      dsimp only
      rw [g1, Option.bind_some]
      dsimp only
      rw [hch, Option.bind_some, g2'.1]
      simp only [b2_0]
      have e200 : ((200 : Int32) < nI (sF xa (okC xt sch ns) s).length) = (200 < (sF xa (okC xt sch ns) s).length) := pu_m (a := 200) (by decide) (by omega)
      have e6 : (nI m + 1 = 6) = (m + 1 = 6) := by
        rw [nI_1]
        exact pu_e (b := 6) (by omega) (by decide)
      simp only [e200, e6]
      have em1 : nI m + 1 = nI (m + 1) := nI_1 m
      unfold sCl
      by_cases c : sF xa (okC xt sch ns) s = s
      · -- it has settled
        rw [decide_eq_true c, if_pos (show (!true) = false from rfl), if_pos c]
        unfold f_X10_clean_L116
        obtain ⟨src1, p1, p2, p3⟩ := cpL126 (xa := xa) (mt := mt) (inp := inp) (sch := sch) (inN := inN) (ns := ns) (N := s.length) h200 0 (nI (m + 1)) (nI (sF xa (okC xt sch ns) s).length) (nI w) o1 o2 o3 wh1 nm1 cd1 (b2 (!true)) outp q.2 gn1 bn1 R1 s.length 0 1000 src (by omega) (by omega)
        rw [c] at p1 ⊢
        have p1' := p1
        rw [show nI 0 = (0 : Int32) from rfl] at p1'
        rw [em1, p1', Option.bind_some]
        dsimp only
        obtain ⟨f, rfl⟩ : ∃ g, f = g + 1 := ⟨f - 1, by omega⟩
        rw [f_X10_clean_L48, if_pos (show b2 (!true) = 0 from rfl)]
        obtain ⟨outp1, u1, u2, u3⟩ := cpL165 (xa := xa) (mt := mt) (inp := inp) (sch := sch) (inN := inN) (ns := ns) (N := s.length) h200 (nI s.length) (nI (m + 1)) (nI s.length) (nI w) o1 o2 o3 wh1 nm1 cd1 src1 q.2 gn1 bn1 R1 s.length 0 1000 outp (by omega) (by omega)
        rw [show nI 0 = (0 : Int32) from rfl] at u1
        rw [u1, Option.bind_some]
        refine ⟨nI s.length, nI s.length, nI s.length, nI w, o1, o2, o3, wh1, nm1, cd1, nI s.length, outp1, src1, q.2, gn1, bn1, R1, rfl, hR0, rfl, rfl, fun i hi => ?_⟩
        rw [u2 i (Nat.zero_le _) hi, p2 i (Nat.zero_le _) hi]
        have := g2'.2 i (by rw [c]; exact hi) (by omega)
        rw [this, c]
      · rw [decide_eq_false c, if_neg (show ¬ (!false) = false by decide), if_neg c]
        by_cases c2 : 200 < (sF xa (okC xt sch ns) s).length ∨ j = 0
        · rw [if_pos c2]
          have e1 : (if 200 < (sF xa (okC xt sch ns) s).length then some ((0 : Int32), nI m + 1, nI s.length, nI (sF xa (okC xt sch ns) s).length, nI w, o1, o2, o3, wh1, nm1, cd1, outp, src, q.2, R1.ct, R1.kd, R1.le, R1.pr, R1.dp, R1.fo, R1.fr, R1.to, gn1, R1.ac, R1.ow, R1.an, R1.vf, R1.vt, R1.sd, R1.so, R1.op, bn1, (-1 : Int32)) else if m + 1 = 6 then some ((0 : Int32), nI m + 1, nI s.length, nI (sF xa (okC xt sch ns) s).length, nI w, o1, o2, o3, wh1, nm1, cd1, outp, src, q.2, R1.ct, R1.kd, R1.le, R1.pr, R1.dp, R1.fo, R1.fr, R1.to, gn1, R1.ac, R1.ow, R1.an, R1.vf, R1.vt, R1.sd, R1.so, R1.op, bn1, (-1 : Int32)) else f_X10_clean_L116 (nI inN) (nI ns) inp xa mt sch (f_X10_clean_L48 (nI inN) (nI ns) inp xa mt sch f) 0 (nI m + 1) (nI s.length) (nI (sF xa (okC xt sch ns) s).length) (nI w) o1 o2 o3 wh1 nm1 cd1 outp src q.2 R1.ct R1.kd R1.le R1.pr R1.dp R1.fo R1.fr R1.to gn1 R1.ac R1.ow R1.an R1.vf R1.vt R1.sd R1.so R1.op bn1 (b2 (!false))) = some ((0 : Int32), nI m + 1, nI s.length, nI (sF xa (okC xt sch ns) s).length, nI w, o1, o2, o3, wh1, nm1, cd1, outp, src, q.2, R1.ct, R1.kd, R1.le, R1.pr, R1.dp, R1.fo, R1.fr, R1.to, gn1, R1.ac, R1.ow, R1.an, R1.vf, R1.vt, R1.sd, R1.so, R1.op, bn1, (-1 : Int32)) := by
            by_cases c3 : 200 < (sF xa (okC xt sch ns) s).length
            · rw [if_pos c3]
            · have : j = 0 := c2.resolve_left c3
              rw [if_neg c3, if_pos (by omega)]
          rw [e1, em1]
          exact ⟨_, _, _, _, _, _, _, _, _, _, _, _, _, _, _, _, R1, rfl, hR0, rfl, rfl⟩
        · have c3 : ¬ 200 < (sF xa (okC xt sch ns) s).length := fun z => c2 (Or.inl z)
          have c4 : ¬ j = 0 := fun z => c2 (Or.inr z)
          rw [if_neg c2, if_neg c3, if_neg (show ¬ m + 1 = 6 by omega)]
          unfold f_X10_clean_L116
          obtain ⟨src1, p1, p2, p3⟩ := cpL126 (xa := xa) (mt := mt) (inp := inp) (sch := sch) (inN := inN) (ns := ns) (N := (sF xa (okC xt sch ns) s).length) (by omega) 0 (nI (m + 1)) (nI (sF xa (okC xt sch ns) s).length) (nI w) o1 o2 o3 wh1 nm1 cd1 (b2 (!false)) outp q.2 gn1 bn1 R1 (sF xa (okC xt sch ns) s).length 0 1000 src (by omega) (by omega)
          rw [show nI 0 = (0 : Int32) from rfl] at p1
          rw [em1, p1, Option.bind_some]
          dsimp only
          have := ih (m + 1) (sF xa (okC xt sch ns) s) f R1 src1 q.2 gn1 bn1 (nI (sF xa (okC xt sch ns) s).length) (nI w) o1 o2 o3 wh1 nm1 cd1 (by omega) (by omega) (by omega) ⟨by omega, b1⟩ (fun i hi => by
            rw [p2 i (Nat.zero_le _) hi]
            exact g2'.2 i hi (by omega)) (fun z => by omega) (fun _ => hR0)
          rw [show m + ((sCl (sF xa (okC xt sch ns)) j (sF xa (okC xt sch ns) s)).1 + 1) = m + 1 + (sCl (sF xa (okC xt sch ns)) j (sF xa (okC xt sch ns) s)).1 by omega]
          exact this
    by_cases c : m = 0
    · rw [if_pos c]
      exact main 0 (by decide) (fun _ => c) (fun z => by omega)
    · rw [if_neg c]
      exact main 1 (by decide) (fun z => by omega) (fun _ => c)
theorem cleanR {xa xt mt inp : RowF} {sch : Nat → Int64} {ns : Nat} {s : List Int32} (hns : ns ≤ 4) (hat : pu_at xt mt) (hs : TXL s) (hin : ∀ i, i < s.length → inp i = s.getD i 0) (outp src out gn bn : RowF) (R : RW) (os md nn wr tr pos raw oc wh nm cd : Int32) : ∃ (osz n' wr' tr' pos' raw' oc' wh' nm' cd' ans : Int32) (outp' src' out' gn' bn' : RowF) (R' : RW), f_X10_clean (nI s.length) os md (nI ns) nn wr tr pos raw oc wh nm cd inp outp xa mt sch src out R.ct R.kd R.le R.pr R.dp R.fo R.fr R.to gn R.ac R.ow R.an R.vf R.vt R.sd R.so R.op bn = some (osz, nI (sCl (sF xa (okC xt sch ns)) 6 s).1, n', wr', tr', pos', raw', oc', wh', nm', cd', outp', src', out', R'.ct, R'.kd, R'.le, R'.pr, R'.dp, R'.fo, R'.fr, R'.to, gn', R'.ac, R'.ow, R'.an, R'.vf, R'.vt, R'.sd, R'.so, R'.op, bn', ans) ∧ R0 (nds s) R' ∧ (match (sCl (sF xa (okC xt sch ns)) 6 s).2 with
    | none => ans = -1 ∧ osz = 0
    | some o => ans = nI o.length ∧ osz = nI o.length ∧ ∀ i, i < o.length → outp' i = o.getD i 0) := by
  have h200 := hs.1
  obtain ⟨a1, a2, a3, a4, a5⟩ := nds_all hs
  obtain ⟨src1, p1, p2, p3⟩ := cpL10 (xa := xa) (mt := mt) (inp := inp) (sch := sch) (inN := s.length) (ns := ns) (N := s.length) h200 os md wr tr pos raw oc wh nm cd outp out gn bn R s.length 0 1000 src (by omega) (by omega)
  rw [show nI 0 = (0 : Int32) from rfl] at p1
  unfold f_X10_clean
  rw [p1, Option.bind_some]
  dsimp only
  have := refL48 (xa := xa) (xt := xt) (mt := mt) (inp := inp) (sch := sch) (inN := s.length) (nd0 := nds s) hns hat a3 a4 a5 outp 6 0 s 1000 R src1 out gn bn wr tr pos raw oc wh nm cd rfl (by decide) (by omega) hs (fun i hi => by rw [p2 i (Nat.zero_le _) hi]; exact hin i hi) (fun _ => rfl) (fun z => absurd rfl z)
  rw [Nat.zero_add] at this
  exact this
