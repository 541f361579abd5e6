/-! the reference sifts -/
def BN (B : Nat) (bn : RowF) : List Ent → Prop
  | [] => True
  | e :: r => bn r.length = nI (B + e.1) ∧ BN B bn r
theorem BN.drop {B d : Nat} {bn : RowF} : ∀ {b : List Ent}, BN B bn b → BN B bn (pDrop d b)
  | [], h => h
  | e :: r, h => by
    unfold pDrop
    split
    · exact BN.drop h.2
    · exact h
theorem BN.upd {B k : Nat} {bn : RowF} {v : Int32} : ∀ {b : List Ent}, b.length ≤ k → BN B bn b → BN B (upd bn k v) b
  | [], _, _ => trivial
  | e :: r, hk, h => by
    rw [List.length_cons] at hk
    exact ⟨by rw [pk_un (by omega)]; exact h.1, BN.upd (by omega) h.2⟩
theorem m1add {k : Nat} : nI (k + 1) + (-1) = nI k := pk_m1 k
theorem app_same {nd a a' q q' : List Nd} {y y' : Nd} (h1 : nd = a ++ y :: q) (h2 : nd = a' ++ y' :: q') (hl : q.length = q'.length) : y = y' := by
  have h3 : a ++ y :: q = a' ++ y' :: q' := by rw [← h1, h2]
  have hlen : (y :: q).length = (y' :: q').length := by rw [List.length_cons, List.length_cons, hl]
  have := List.append_inj' h3 hlen
  exact (List.cons.inj this.2).1
theorem textL204 {xa mt : RowF} {sch : Nat → Int64} {ns w : Nat} {R : RW} {i e : Nat} (hi : 256 * w + i < 512) (he : R.to (256 * w + i) = nI e) (gn bn : RowF) (v1 v3 : Int32) : ∀ (xs : List Int32) (s f : Nat) (q : Int32 × RowF) (o : List Int32), s + xs.length = e → 256 * w + e ≤ 512 → xs.length < f → seg R.so (256 * w + s) xs → LR q o → o.length + 6 * xs.length + 6 < 2 ^ 20 → ∃ q' : Int32 × RowF, f_X10_sift_L204 (nI ns) (nI w) xa mt sch R.ct R.kd R.le R.pr R.fo R.fr R.to R.ac R.ow R.an R.vf R.vt R.so f q.1 q.2 gn bn v1 (nI (256 * w + i)) v3 (nI (256 * w + s)) = some (q'.1, q'.2, gn, bn, v1, nI (256 * w + i), v3) ∧ LR q' (o ++ fl eT xs) := by
  intro xs
  induction xs with
  | nil =>
    intro s f q o hs h5 hf hseg h hb
    obtain ⟨f, rfl⟩ : ∃ g, f = g + 1 := ⟨f - 1, by simp at hf; omega⟩
    have hs : s = e := hs
    refine ⟨q, ?_, by rw [fl, List.append_nil]; exact h⟩
    rw [f_X10_sift_L204, pu_gi hi (by decide), nI_clamp (show 256 * w + i < 2 ^ 31 by omega), he, p256, nI_add, if_pos (nI_le (by omega) (by omega))]
  | cons c cs ih =>
    intro s f q o hs h5 hf hseg h hb
    rw [List.length_cons] at hs hf hb
    obtain ⟨f, rfl⟩ : ∃ g, f = g + 1 := ⟨f - 1, by omega⟩
    obtain ⟨hr, hseg'⟩ := seg_cons hseg
    obtain ⟨q1, k1, h1⟩ := escT h (by omega) c
    have hl := eT_len c
    obtain ⟨q2, k2, h2⟩ := ih (s + 1) f q1 _ (by omega) h5 (by omega) hseg' h1 (by rw [List.length_append]; omega)
    refine ⟨q2, ?_, by rw [List.append_assoc] at h2; exact h2⟩
    rw [f_X10_sift_L204, pu_gi hi (by decide), nI_clamp (show 256 * w + i < 2 ^ 31 by omega), he, p256, nI_add, if_neg (nI_ge (by omega) (by omega)), pu_gi (show 256 * w + s < 512 by omega) (by decide), nI_clamp (show 256 * w + s < 2 ^ 31 by omega), hr, k1, Option.bind_some, nI_1]
    exact k2
/-- ends are written until the parent is met -/
theorem popL38 {xa mt : RowF} {sch : Nat → Int64} {ns w : Nat} {nd : List Nd} {R : RW} (hw : w < 2) (hR : RT (256 * w) (128 * w) R.kd R.le R.pr R.dp R.fo R.fr R.to R.so R.ow R.an R.vf R.vt nd) (hN : nd.length ≤ 200) (hWN : ∀ x ∈ nd, WN x) {i d : Nat} {pv : Int32} (hi : i < 256) (hpv : R.pr (256 * w + i) = pv) (gn bn : RowF) : ∀ (b : List Ent) (f : Nat) (q : Int32 × RowF) (o : List Int32), (∀ e ∈ b, EE xa nd e ∧ gn (256 * w + e.1) = b2 e.2.2.2.2 ∧ (d ≤ e.2.1 → ¬ nI (256 * w + e.1) = pv)) → (∀ e b', pDrop d b = e :: b' → nI (256 * w + e.1) = pv) → b.length ≤ 16 → b.length < f → BN (256 * w) bn b → LR q o → o.length + 4 * b.length + 20 < 2 ^ 20 → ∃ q' : Int32 × RowF, f_X10_sift_L38 (nI ns) (nI w) xa mt sch R.ct R.kd R.le R.pr R.fo R.fr R.to R.ac R.ow R.an R.vf R.vt R.so f q.1 q.2 gn bn (nI b.length) (nI (256 * w + i)) = some (q'.1, q'.2, gn, bn, nI (pDrop d b).length, nI (256 * w + i)) ∧ LR q' (o ++ pEnds d b) := by
  intro b
  induction b with
  | nil =>
    intro f q o hE hp h16 hf hB h hb
    obtain ⟨f, rfl⟩ : ∃ g, f = g + 1 := ⟨f - 1, by omega⟩
    refine ⟨q, ?_, by rw [pEnds, List.append_nil]; exact h⟩
    rw [f_X10_sift_L38, if_pos (show nI ([] : List Ent).length ≤ 0 from Int32.le_refl 0)]
    rfl
  | cons e r ih =>
    intro f q o hE hp h16 hf hB h hb
    rw [List.length_cons] at h16 hf hb
    obtain ⟨f, rfl⟩ : ∃ g, f = g + 1 := ⟨f - 1, by omega⟩
    have hEe := hE e List.mem_cons_self
    rw [f_X10_sift_L38, List.length_cons, if_neg (show ¬ nI (r.length + 1) ≤ 0 from nI_nle (by omega) (by omega)), nI_pred, m1add, pu_gi (show r.length < 16 by omega) (by decide), pu_gi (show 256 * w + i < 512 by omega) (by decide), pu_gi (show r.length < 16 by omega) (by decide), nI_clamp (show r.length < 2 ^ 31 by omega), nI_clamp (show 256 * w + i < 2 ^ 31 by omega), hB.1, hpv]
    by_cases c : d ≤ e.2.1
    · rw [if_neg (hEe.2.2 c)]
      obtain ⟨q1, k1, h1⟩ := endOfR hw hR hN hWN hEe.1 hEe.2.1 h (by omega)
      have hwl : (if e.2.2.2.1 = true then wE e.2.2.1 else []).length ≤ 4 := by
        split
        · exact Nat.le_of_eq (wE_len _)
        · simp
      have ed : pDrop d (e :: r) = pDrop d r := by rw [pDrop, if_pos c]
      rw [ed] at hp ⊢
      obtain ⟨q2, k2, h2⟩ := ih f q1 _ (fun x hx => hE x (List.mem_cons_of_mem _ hx)) hp (by omega) (by omega) hB.2 h1 (by rw [List.length_append]; omega)
      refine ⟨q2, ?_, ?_⟩
      · rw [k1, Option.bind_some]
        exact k2
      · rw [show pEnds d (e :: r) = (if e.2.2.2.1 = true then wE e.2.2.1 else []) ++ pEnds d r by rw [pEnds, if_pos c], ← List.append_assoc]
        exact h2
    · have ed : pDrop d (e :: r) = e :: r := by rw [pDrop, if_neg c]
      rw [ed, if_pos (hp e r ed), show pEnds d (e :: r) = [] by rw [pEnds, if_neg c], List.append_nil]
      exact ⟨q, rfl, h⟩
theorem popL275 {xa mt : RowF} {sch : Nat → Int64} {ns w : Nat} {nd : List Nd} {R : RW} (hw : w < 2) (hR : RT (256 * w) (128 * w) R.kd R.le R.pr R.dp R.fo R.fr R.to R.so R.ow R.an R.vf R.vt nd) (hN : nd.length ≤ 200) (hWN : ∀ x ∈ nd, WN x) (gn bn : RowF) : ∀ (b : List Ent) (f : Nat) (q : Int32 × RowF) (o : List Int32), (∀ e ∈ b, EE xa nd e ∧ gn (256 * w + e.1) = b2 e.2.2.2.2) → b.length ≤ 16 → b.length < f → BN (256 * w) bn b → LR q o → o.length + 4 * b.length + 20 < 2 ^ 20 → ∃ q' : Int32 × RowF, f_X10_sift_L275 (nI ns) (nI w) xa mt sch R.ct R.kd R.le R.pr R.fo R.fr R.to R.ac R.ow R.an R.vf R.vt R.so f q.1 q.2 gn bn (nI b.length) = some (q'.1, q'.2, gn, bn) ∧ LR q' (o ++ pEnds 0 b) := by
  intro b
  induction b with
  | nil =>
    intro f q o hE h16 hf hB h hb
    obtain ⟨f, rfl⟩ : ∃ g, f = g + 1 := ⟨f - 1, by omega⟩
    refine ⟨q, ?_, by rw [pEnds, List.append_nil]; exact h⟩
    rw [f_X10_sift_L275, if_pos (show nI ([] : List Ent).length ≤ 0 from Int32.le_refl 0)]
  | cons e r ih =>
    intro f q o hE h16 hf hB h hb
    rw [List.length_cons] at h16 hf hb
    obtain ⟨f, rfl⟩ : ∃ g, f = g + 1 := ⟨f - 1, by omega⟩
    have hEe := hE e List.mem_cons_self
    obtain ⟨q1, k1, h1⟩ := endOfR hw hR hN hWN hEe.1 hEe.2 h (by omega)
    have hwl : (if e.2.2.2.1 = true then wE e.2.2.1 else []).length ≤ 4 := by
      split
      · exact Nat.le_of_eq (wE_len _)
      · simp
    obtain ⟨q2, k2, h2⟩ := ih f q1 _ (fun x hx => hE x (List.mem_cons_of_mem _ hx)) (by omega) (by omega) hB.2 h1 (by rw [List.length_append]; omega)
    refine ⟨q2, ?_, ?_⟩
    · rw [f_X10_sift_L275, List.length_cons, if_neg (show ¬ nI (r.length + 1) ≤ 0 from nI_nle (by omega) (by omega)), m1add, pu_gi (show r.length < 16 by omega) (by decide), nI_clamp (show r.length < 2 ^ 31 by omega), hB.1, k1, Option.bind_some]
      exact k2
    · rw [show pEnds 0 (e :: r) = (if e.2.2.2.1 = true then wE e.2.2.1 else []) ++ pEnds 0 r by rw [pEnds, if_pos (Nat.zero_le _)], ← List.append_assoc]
      exact h2
theorem siftL16 {xa xt mt : RowF} {sch : Nat → Int64} {ns w : Nat} {nd : List Nd} {R : RW} (hw : w < 2) (hns : ns ≤ 4) (hat : pu_at xt mt) (hR : RT (256 * w) (128 * w) R.kd R.le R.pr R.dp R.fo R.fr R.to R.so R.ow R.an R.vf R.vt nd) (hct : R.ct w = nI nd.length) (hac : R.ac w = nI (acM nd)) (hA : acM nd ≤ 100) (hS : stoM nd ≤ 200) (hN : nd.length ≤ 200) (hWN : ∀ x ∈ nd, WN x) (hTS : TS nd) : ∀ (j : Nat) (a r : List Nd) (f : Nat) (q : Int32 × RowF) (gn bn : RowF), nd = a ++ r → a.length = j → j < f → LR q (sSf xa (okC xt sch ns) r).1 → (∀ e ∈ (sSf xa (okC xt sch ns) r).2, gn (256 * w + e.1) = b2 e.2.2.2.2) → BN (256 * w) bn (sSf xa (okC xt sch ns) r).2 → ∃ (q' : Int32 × RowF) (gn' bn' : RowF), f_X10_sift_L16 (nI ns) (nI w) xa mt sch R.ct R.kd R.le R.pr R.fo R.fr R.to R.ac R.ow R.an R.vf R.vt R.so f q.1 q.2 gn bn (nI (sSf xa (okC xt sch ns) r).2.length) (nI (256 * w + r.length)) = some (q'.1, q'.2, gn', bn', nI (sSf xa (okC xt sch ns) nd).2.length) ∧ LR q' (sSf xa (okC xt sch ns) nd).1 ∧ (∀ e ∈ (sSf xa (okC xt sch ns) nd).2, gn' (256 * w + e.1) = b2 e.2.2.2.2) ∧ BN (256 * w) bn' (sSf xa (okC xt sch ns) nd).2 := by
  intro j
  induction j with
  | zero =>
    intro a r f q gn bn e ha hf h hG hB
    obtain ⟨f, rfl⟩ : ∃ g, f = g + 1 := ⟨f - 1, by omega⟩
    have : a = [] := List.length_eq_zero_iff.mp ha
    subst this
    rw [List.nil_append] at e
    subst e
    rw [f_X10_sift_L16, pu_gi hw (by decide), nI_clamp (show w < 2 ^ 31 by omega), hct, p256, nI_add, if_pos (nI_le (Nat.le_refl _) (by omega))]
    exact ⟨q, gn, bn, rfl, h, hG, hB⟩
  | succ j ih =>
    intro a r f q gn bn e ha hf h hG hB
    obtain ⟨f, rfl⟩ : ∃ g, f = g + 1 := ⟨f - 1, by omega⟩
    obtain ⟨a', x, rfl⟩ : ∃ a' x, a = a' ++ [x] := ⟨a.dropLast, a.getLast (by intro q; rw [q] at ha; simp at ha), (List.dropLast_concat_getLast _).symm⟩
    have e' : nd = a' ++ x :: r := by rw [e, List.append_assoc]; rfl
    have ha' : a'.length = j := by simp at ha; omega
    have hx := hWN x (by rw [e']; simp)
    have hRx : RT (256 * w) (128 * w) R.kd R.le R.pr R.dp R.fo R.fr R.to R.so R.ow R.an R.vf R.vt (x :: r) := by
      rw [e'] at hR
      exact RT.drop a' hR
    have hrl : r.length < nd.length := by rw [e', List.length_append, List.length_cons]; omega
    have hTSx : x.2.2.1 = 0 ∨ ∃ y z, sPar x.2.2.1 r = y :: z ∧ y.1 = 3 ∧ y.2.2.1 + 1 = x.2.2.1 ∧ sHasEnd y.2.1 y.2.2.2.1 := by
      have : ∀ (p s : List Nd), TS (p ++ s) → TS s := by
        intro p s
        induction p with
        | nil => exact id
        | cons z p ihp => exact fun q => ihp q.2
      rw [e'] at hTS
      exact (this a' _ hTS).1
    have hEE := sSf_EE (xa := xa) (ok := okC xt sch ns) r
    have hEn : ∀ e0 ∈ (sSf xa (okC xt sch ns) r).2, EE xa nd e0 := fun e0 he0 => by rw [e]; exact (hEE.1 e0 he0).app
    have hlen := sSf_len (xa := xa) (ok := okC xt sch ns) r
    have hmono : ∀ (p s : List Nd), stoM s ≤ stoM (p ++ s) ∧ acM s ≤ acM (p ++ s) := by
      intro p s
      induction p with
      | nil => exact ⟨Nat.le_refl _, Nat.le_refl _⟩
      | cons z p ihp =>
        simp only [List.cons_append, stoM, acM]
        omega
    have hm1 := hmono a' (x :: r)
    rw [← e'] at hm1
    have hst : stoM (x :: r) = stoM r + x.2.2.2.2.1.length + vLen x.2.2.2.2.2 := rfl
    have hacm : acM (x :: r) = acM r + x.2.2.2.2.2.length := rfl
    have hpar := fun d y z h1 h2 => sSf_par (xa := xa) (ok := okC xt sch ns) r d y z h1 h2
    have hstep : sSf xa (okC xt sch ns) (x :: r) = sStp xa (okC xt sch ns) x r.length (sSf xa (okC xt sch ns) r) := rfl
    have hidx : ∀ e0 ∈ (sSf xa (okC xt sch ns) r).2, e0.1 < r.length := by
      intro e0 he0
      obtain ⟨p, y, z, q1, q2, -⟩ := hEE.1 e0 he0
      rw [← q2, q1, List.length_append, List.length_cons]
      omega
    rw [f_X10_sift_L16, pu_gi hw (by decide), nI_clamp (show w < 2 ^ 31 by omega), hct, p256, nI_add, if_neg (nI_ge (show 256 * w + r.length < 256 * w + nd.length by omega) (by omega))]
    generalize hob : sSf xa (okC xt sch ns) r = ob at *
    have hblen : ob.2.length ≤ 9 := pw_len ob.2 9 hEE.2 (fun e1 he1 => by have := (EE_ends hWN (hEn e1 he1)).1; omega)
    -- the parent
    have hprv : R.pr (256 * w + r.length) = sPv (256 * w) x.2.2.1 r := hRx.1.2.2.1
    have hpar1 : (pDrop x.2.2.1 ob.2 = [] ∧ sPv (256 * w) x.2.2.1 r = -1) ∨ ∃ e0 b', pDrop x.2.2.1 ob.2 = e0 :: b' ∧ sPv (256 * w) x.2.2.1 r = nI (256 * w + e0.1) := by
      rcases hTSx with h0 | ⟨y, z, h1, h2, -⟩
      · left
        rw [h0, pDrop_0]
        unfold sPv
        rw [sPar_0]
        exact ⟨rfl, rfl⟩
      · right
        obtain ⟨e0, b', h3, h4⟩ := hpar x.2.2.1 y z h1 h2
        refine ⟨e0, b', h3, ?_⟩
        unfold sPv
        rw [h1, h4]
    have hne : ∀ e1 ∈ ob.2, x.2.2.1 ≤ e1.2.1 → ¬ nI (256 * w + e1.1) = sPv (256 * w) x.2.2.1 r := by
      intro e1 he1 hd
      rcases hpar1 with ⟨-, h2⟩ | ⟨e0, b', h1, h2⟩
      · rw [h2]
        have := hidx e1 he1
        exact nI_ne (by omega)
      · rw [h2]
        have hm0 : e0 ∈ pDrop x.2.2.1 ob.2 := by rw [h1]; exact List.mem_cons_self
        have hl0 := pDrop_lt hEE.2 e0 hm0
        have hb0 := pDrop_mem _ _ _ hm0
        have i1 := hidx e1 he1
        have i0 := hidx e0 hb0
        rw [pu_e (by omega) (by omega)]
        intro hq
        obtain ⟨p1, y1, z1, u1, u2, -, u4, -⟩ := hEn e1 he1
        obtain ⟨p0, y0, z0, v1, v2, -, v4, -⟩ := hEn e0 hb0
        have := app_same u1 v1 (by omega)
        rw [this] at u4
        omega
    obtain ⟨q1, k1, h1⟩ := popL38 (xa := xa) (mt := mt) (sch := sch) (ns := ns) (d := x.2.2.1) hw hR hN hWN (show r.length < 256 by omega) hprv gn bn ob.2 1000 q _ (fun e1 he1 => ⟨hEn e1 he1, hG e1 he1, hne e1 he1⟩) (fun e0 b' hd => by
      rcases hpar1 with ⟨h2, -⟩ | ⟨e2, b2', h2, h3⟩
      · rw [h2] at hd; cases hd
      · rw [h2] at hd
        cases hd
        exact h3.symm) (by omega) (by omega) hB h (by omega)
    rw [k1, Option.bind_some]
    dsimp only
    have hkd := hRx.1.1
    have hle := hRx.1.2.1
    have hk3 : x.1 ≤ 3 := by have := hx.1; omega
    have hl26 := hx.2.1
    have hpe := pEnds_len x.2.2.1 ob.2
    have hpl := pDrop_len x.2.2.1 ob.2
    rw [pu_gi (show 256 * w + r.length < 512 by omega) (by decide), nI_clamp (show 256 * w + r.length < 2 ^ 31 by omega), hkd]
    have e3 : (nI x.1 = 3) = (x.1 = 3) := pu_e (b := 3) (by omega) (by decide)
    have e1' : (nI x.1 = 1) = (x.1 = 1) := pu_e (b := 1) (by omega) (by decide)
    simp only [e3]
    have hfin := fun q2 gn2 bn2 g1 g2 g3 => ih a' (x :: r) f q2 gn2 bn2 e' ha' (by omega) g1 g2 g3
    -- behind what is written of a node
    have h255 : ∀ (q2 : Int32 × RowF), LR q2 (sSf xa (okC xt sch ns) (x :: r)).1 → ∃ (q' : Int32 × RowF) (gn' bn' : RowF), f_X10_sift_L255 (nI ns) (nI w) xa mt sch R.ct R.kd R.le R.pr R.fo R.fr R.to R.ac R.ow R.an R.vf R.vt R.so (f_X10_sift_L16 (nI ns) (nI w) xa mt sch R.ct R.kd R.le R.pr R.fo R.fr R.to R.ac R.ow R.an R.vf R.vt R.so f) q2.1 q2.2 (upd gn (256 * w + r.length) (b2 (gnB xa x ob.2))) bn (nI (pDrop x.2.2.1 ob.2).length) (nI (256 * w + r.length)) (b2 (decide (x.1 = 3))) = some (q'.1, q'.2, gn', bn', nI (sSf xa (okC xt sch ns) nd).2.length) ∧ LR q' (sSf xa (okC xt sch ns) nd).1 ∧ (∀ e ∈ (sSf xa (okC xt sch ns) nd).2, gn' (256 * w + e.1) = b2 e.2.2.2.2) ∧ BN (256 * w) bn' (sSf xa (okC xt sch ns) nd).2 := by
      intro q2 hq2
      have hGr : ∀ e1 ∈ pDrop x.2.2.1 ob.2, upd gn (256 * w + r.length) (b2 (gnB xa x ob.2)) (256 * w + e1.1) = b2 e1.2.2.2.2 := by
        intro e1 he1
        have hm := pDrop_mem _ _ _ he1
        have := hidx e1 hm
        rw [pk_un (by omega)]
        exact hG e1 hm
      unfold f_X10_sift_L255 f_X10_sift_L269
      rw [nI_1, Nat.add_assoc]
      simp only [b2_0]
      have hs2 : (sSf xa (okC xt sch ns) (x :: r)).2 = if x.1 = 3 then sEnt xa x r.length ob.2 :: pDrop x.2.2.1 ob.2 else pDrop x.2.2.1 ob.2 := by rw [hstep]; rfl
      by_cases c3 : x.1 = 3
      · rw [if_pos c3] at hs2
        rw [decide_eq_true c3, if_neg (by decide), pu_gi (show (pDrop x.2.2.1 ob.2).length < 16 by omega) (by decide), nI_clamp (show (pDrop x.2.2.1 ob.2).length < 2 ^ 31 by omega), nI_1]
        have := hfin q2 (upd gn (256 * w + r.length) (b2 (gnB xa x ob.2))) (upd bn (pDrop x.2.2.1 ob.2).length (nI (256 * w + r.length))) hq2 (by
          rw [hs2]
          intro e1 he1
          rcases List.mem_cons.mp he1 with g | g
          · rw [g]
            show upd gn (256 * w + r.length) (b2 (gnB xa x ob.2)) (256 * w + r.length) = b2 (gnB xa x ob.2)
            rw [pk_us]
          · exact hGr e1 g) (by
          rw [hs2]
          exact ⟨pk_us, BN.upd (Nat.le_refl _) (BN.drop hB)⟩)
        rw [hs2, List.length_cons, List.length_cons] at this
        exact this
      · rw [if_neg c3] at hs2
        rw [decide_eq_false c3, if_pos rfl]
        have := hfin q2 (upd gn (256 * w + r.length) (b2 (gnB xa x ob.2))) bn hq2 (by rw [hs2]; exact hGr) (by rw [hs2]; exact BN.drop hB)
        rw [hs2, List.length_cons] at this
        exact this
    -- the element's start
    have h242 : ∀ (q2 : Int32 × RowF), LR q2 (ob.1 ++ pEnds x.2.2.1 ob.2 ++ (if x.1 = 1 ∧ gnB xa x ob.2 = false then fl eT x.2.2.2.2.1 else [])) → ∃ (q' : Int32 × RowF) (gn' bn' : RowF), f_X10_sift_L242 (nI ns) (nI w) xa mt sch R.ct R.kd R.le R.pr R.fo R.fr R.to R.ac R.ow R.an R.vf R.vt R.so (f_X10_sift_L16 (nI ns) (nI w) xa mt sch R.ct R.kd R.le R.pr R.fo R.fr R.to R.ac R.ow R.an R.vf R.vt R.so f) q2.1 q2.2 (upd gn (256 * w + r.length) (b2 (gnB xa x ob.2))) bn (nI (pDrop x.2.2.1 ob.2).length) (nI (256 * w + r.length)) (b2 (decide (x.1 = 3))) = some (q'.1, q'.2, gn', bn', nI (sSf xa (okC xt sch ns) nd).2.length) ∧ LR q' (sSf xa (okC xt sch ns) nd).1 ∧ (∀ e ∈ (sSf xa (okC xt sch ns) nd).2, gn' (256 * w + e.1) = b2 e.2.2.2.2) ∧ BN (256 * w) bn' (sSf xa (okC xt sch ns) nd).2 := by
      intro q2 hq2
      have hs1 : (sSf xa (okC xt sch ns) (x :: r)).1 = ob.1 ++ pEnds x.2.2.1 ob.2 ++ (if x.1 = 1 ∧ gnB xa x ob.2 = false then fl eT x.2.2.2.2.1 else []) ++ (if ktB xa x ob.2 = true then wS (okC xt sch ns x.2.1) x else []) := by rw [hstep]; rfl
      have hkp := keptR (xa := xa) (gn := upd gn (256 * w + r.length) (b2 (gnB xa x ob.2))) (g := gnB xa x ob.2) hw hRx (by omega) hx pk_us
      unfold f_X10_sift_L242
      rw [hkp, Option.bind_some]
      simp only [b2_0]
      rw [show (decide (x.1 = 3) && !gnB xa x ob.2 && keepB xa x.2.1) = ktB xa x ob.2 from rfl]
      cases hkt : ktB xa x ob.2 with
      | false =>
        rw [if_pos rfl]
        rw [hkt, if_neg (show ¬ false = true by decide), List.append_nil] at hs1
        exact h255 q2 (by rw [hs1]; exact hq2)
      | true =>
        rw [if_neg (by decide)]
        rw [hkt, if_pos rfl] at hs1
        have hlt : x.2.1 < 26 := by
          unfold ktB keepB at hkt
          simp only [Bool.and_eq_true, decide_eq_true_eq] at hkt
          exact hkt.2.1
        have hfl := fl_len eT_len x.2.2.2.2.1
        have htl : (if x.1 = 1 ∧ gnB xa x ob.2 = false then fl eT x.2.2.2.2.1 else []).length ≤ 6 * x.2.2.2.2.1.length := by
          split
          · exact hfl
          · simp
        obtain ⟨q3, k3, h3⟩ := beginR (sch := sch) (ns := ns) hw hns hat hR hac hA hS hN hWN e' hlt hq2 (by rw [List.length_append, List.length_append]; omega)
        rw [k3, Option.bind_some]
        exact h255 q3 (by rw [hs1]; exact h3)
    -- the text
    have h167 : ∃ (q' : Int32 × RowF) (gn' bn' : RowF), f_X10_sift_L167 (nI ns) (nI w) xa mt sch R.ct R.kd R.le R.pr R.fo R.fr R.to R.ac R.ow R.an R.vf R.vt R.so (f_X10_sift_L16 (nI ns) (nI w) xa mt sch R.ct R.kd R.le R.pr R.fo R.fr R.to R.ac R.ow R.an R.vf R.vt R.so f) q1.1 q1.2 gn bn (nI (pDrop x.2.2.1 ob.2).length) (nI (256 * w + r.length)) (b2 (decide (x.1 = 3))) (nI (256 * w + r.length)) (b2 (gnB xa x ob.2)) = some (q'.1, q'.2, gn', bn', nI (sSf xa (okC xt sch ns) nd).2.length) ∧ LR q' (sSf xa (okC xt sch ns) nd).1 ∧ (∀ e ∈ (sSf xa (okC xt sch ns) nd).2, gn' (256 * w + e.1) = b2 e.2.2.2.2) ∧ BN (256 * w) bn' (sSf xa (okC xt sch ns) nd).2 := by
      unfold f_X10_sift_L167
      rw [pu_gi (show 256 * w + r.length < 512 by omega) (by decide), pu_gi (show 256 * w + r.length < 512 by omega) (by decide), pu_gi (show 256 * w + r.length < 512 by omega) (by decide), pu_gi (show 256 * w + r.length < 512 by omega) (by decide), nI_clamp (show 256 * w + r.length < 2 ^ 31 by omega), hkd, pu_narb (by cases gnB xa x ob.2 <;> simp [b2]), pk_us]
      simp only [e1', b2_0]
      by_cases c1 : x.1 = 1
      · rw [if_pos c1]
        cases hg : gnB xa x ob.2 with
        | true =>
          rw [if_neg (by decide)]
          have := h242 q1 (by rw [hg]; simp only [Bool.true_eq_false, and_false, if_false, List.append_nil]; exact h1)
          rw [hg] at this
          exact this
        | false =>
          rw [if_pos rfl]
          obtain ⟨t1, t2, t3⟩ := hRx.2.1 (by omega)
          have t2' : R.to (256 * w + r.length) = nI (stoM r + x.2.2.2.2.1.length + vLen x.2.2.2.2.2) := t2
          have hv0 : vLen x.2.2.2.2.2 = 0 := by rw [(hx.2.2.2.1 (by omega)).2.2]; rfl
          rw [hv0, Nat.add_zero] at t2'
          obtain ⟨q2, k2, h2⟩ := textL204 (xa := xa) (mt := mt) (sch := sch) (ns := ns) (R := R) (show 256 * w + r.length < 512 by omega) t2' (upd gn (256 * w + r.length) (b2 false)) bn (nI (pDrop x.2.2.1 ob.2).length) (b2 (decide (x.1 = 3))) x.2.2.2.2.1 (stoM r) 1000 q1 _ rfl (by omega) (by omega) t3 h1 (by rw [List.length_append]; omega)
          rw [t1, p256, nI_add, k2, Option.bind_some]
          have := h242 q2 (by rw [hg, if_pos ⟨c1, rfl⟩]; exact h2)
          rw [hg] at this
          exact this
      · rw [if_neg c1]
        have := h242 q1 (by rw [if_neg (fun z => c1 z.1), List.append_nil]; exact h1)
        exact this
    -- is it gone
    have h125 : isDr xa x = false → ∃ (q' : Int32 × RowF) (gn' bn' : RowF), f_X10_sift_L125 (nI ns) (nI w) xa mt sch R.ct R.kd R.le R.pr R.fo R.fr R.to R.ac R.ow R.an R.vf R.vt R.so (f_X10_sift_L16 (nI ns) (nI w) xa mt sch R.ct R.kd R.le R.pr R.fo R.fr R.to R.ac R.ow R.an R.vf R.vt R.so f) q1.1 q1.2 gn bn (nI (pDrop x.2.2.1 ob.2).length) (nI (256 * w + r.length)) (b2 (decide (x.1 = 3))) = some (q'.1, q'.2, gn', bn', nI (sSf xa (okC xt sch ns) nd).2.length) ∧ LR q' (sSf xa (okC xt sch ns) nd).1 ∧ (∀ e ∈ (sSf xa (okC xt sch ns) nd).2, gn' (256 * w + e.1) = b2 e.2.2.2.2) ∧ BN (256 * w) bn' (sSf xa (okC xt sch ns) nd).2 := by
      intro hdr
      have hgp : gnB xa x ob.2 = pGone (pDrop x.2.2.1 ob.2) := by unfold gnB; rw [hdr, Bool.false_or]
      rw [hgp] at h167
      unfold f_X10_sift_L125 f_X10_sift_L126 f_X10_sift_L166 f_X10_sift_L162
      rw [if_pos rfl, pu_gi (show 256 * w + r.length < 512 by omega) (by decide), pu_gi (show 256 * w + r.length < 512 by omega) (by decide), nI_clamp (show 256 * w + r.length < 2 ^ 31 by omega), hprv]
      rcases hpar1 with ⟨p1, p2⟩ | ⟨e0, b', p1, p2⟩
      · rw [p2, if_pos rfl]
        rw [p1] at h167 ⊢
        exact h167
      · have hm0 : e0 ∈ pDrop x.2.2.1 ob.2 := by rw [p1]; exact List.mem_cons_self
        have hb0 := pDrop_mem _ _ _ hm0
        have i0 := hidx e0 hb0
        rw [p2, if_neg (nI_ne (by omega)), pu_gi (show 256 * w + e0.1 < 512 by omega) (by decide), nI_clamp (show 256 * w + e0.1 < 2 ^ 31 by omega), hG e0 hb0]
        simp only [b2_0]
        rw [p1] at h167 ⊢
        have h167' : ∃ (q' : Int32 × RowF) (gn' bn' : RowF), f_X10_sift_L167 (nI ns) (nI w) xa mt sch R.ct R.kd R.le R.pr R.fo R.fr R.to R.ac R.ow R.an R.vf R.vt R.so (f_X10_sift_L16 (nI ns) (nI w) xa mt sch R.ct R.kd R.le R.pr R.fo R.fr R.to R.ac R.ow R.an R.vf R.vt R.so f) q1.1 q1.2 gn bn (nI (e0 :: b').length) (nI (256 * w + r.length)) (b2 (decide (x.1 = 3))) (nI (256 * w + r.length)) (b2 e0.2.2.2.2) = some (q'.1, q'.2, gn', bn', nI (sSf xa (okC xt sch ns) nd).2.length) ∧ LR q' (sSf xa (okC xt sch ns) nd).1 ∧ (∀ e ∈ (sSf xa (okC xt sch ns) nd).2, gn' (256 * w + e.1) = b2 e.2.2.2.2) ∧ BN (256 * w) bn' (sSf xa (okC xt sch ns) nd).2 := h167
        cases hg : e0.2.2.2.2 with
        | false =>
          rw [hg] at h167'
          rw [if_pos rfl]
          exact h167'
        | true =>
          rw [hg] at h167'
          rw [if_neg (by decide)]
          exact h167'
    have h90 : ∃ (q' : Int32 × RowF) (gn' bn' : RowF), f_X10_sift_L90 (nI ns) (nI w) xa mt sch R.ct R.kd R.le R.pr R.fo R.fr R.to R.ac R.ow R.an R.vf R.vt R.so (f_X10_sift_L16 (nI ns) (nI w) xa mt sch R.ct R.kd R.le R.pr R.fo R.fr R.to R.ac R.ow R.an R.vf R.vt R.so f) q1.1 q1.2 gn bn (nI (pDrop x.2.2.1 ob.2).length) (nI (256 * w + r.length)) (b2 (decide (x.1 = 3))) = some (q'.1, q'.2, gn', bn', nI (sSf xa (okC xt sch ns) nd).2.length) ∧ LR q' (sSf xa (okC xt sch ns) nd).1 ∧ (∀ e ∈ (sSf xa (okC xt sch ns) nd).2, gn' (256 * w + e.1) = b2 e.2.2.2.2) ∧ BN (256 * w) bn' (sSf xa (okC xt sch ns) nd).2 := by
      unfold f_X10_sift_L90
      rw [pu_gi (show 256 * w + r.length < 512 by omega) (by decide), pu_gi (show 256 * w + r.length < 512 by omega) (by decide), nI_clamp (show 256 * w + r.length < 2 ^ 31 by omega), hle, nI_clamp (show x.2.1 < 2 ^ 31 by omega)]
      have e26 : ((26 : Int32) ≤ nI x.2.1) = (26 ≤ x.2.1) := pu_l (a := 26) (by decide) (by omega)
      simp only [e26, b2_0]
      by_cases c3 : x.1 = 3
      · rw [decide_eq_true c3, if_neg (by decide)]
        rw [decide_eq_true c3] at h125 h167
        by_cases cl : 26 ≤ x.2.1
        · rw [if_pos cl]
          exact h125 (by unfold isDr; rw [decide_eq_false (show ¬ x.2.1 < 26 by omega)]; simp)
        · rw [if_neg cl, pu_gi (show x.2.1 < 26 by omega) (by decide)]
          by_cases c2 : xa x.2.1 = 2
          · have hdr : isDr xa x = true := by unfold isDr; simp [c3, c2]; omega
            have hgt : gnB xa x ob.2 = true := by unfold gnB; rw [hdr, Bool.true_or]
            rw [if_pos c2]
            rw [hgt] at h167
            unfold f_X10_sift_L126 f_X10_sift_L162
            rw [if_neg (show ¬ (1 : Int32) = 0 by decide)]
            exact h167
          · rw [if_neg c2]
            exact h125 (by unfold isDr; rw [decide_eq_false c2]; simp)
      · rw [decide_eq_false c3, if_pos rfl]
        rw [decide_eq_false c3] at h125
        exact h125 (by unfold isDr; rw [decide_eq_false c3]; rfl)
    by_cases c3 : x.1 = 3
    · rw [if_pos c3]
      rw [decide_eq_true c3] at h90
      exact h90
    · rw [if_neg c3]
      rw [decide_eq_false c3] at h90
      exact h90
theorem siftR {xa xt mt : RowF} {sch : Nat → Int64} {ns w : Nat} {nd : List Nd} {R : RW} (hw : w < 2) (hns : ns ≤ 4) (hat : pu_at xt mt) {st : Stk} (hI : RI w nd st R) (hA : acM nd ≤ 100) (hS : stoM nd ≤ 200) (hN : nd.length ≤ 200) (hWN : ∀ x ∈ nd, WN x) (hTS : TS nd) (w0 : Int32) (out gn bn : RowF) : ∃ (q' : Int32 × RowF) (gn' bn' : RowF), f_X10_sift (nI ns) w0 (nI w) xa mt sch out R.ct R.kd R.le R.pr R.fo R.fr R.to gn R.ac R.ow R.an R.vf R.vt R.so bn = some (q'.1, q'.2, gn', bn') ∧ LR q' (sOut xa (okC xt sch ns) nd) := by
  obtain ⟨q1, gn1, bn1, k1, h1, h2, h3⟩ := siftL16 (xa := xa) (sch := sch) hw hns hat hI.rt hI.ct hI.ac hA hS hN hWN hTS nd.length nd [] 1000 (0, out) gn bn (by simp) rfl (by omega) ⟨rfl, fun i hi => by simp [sSf] at hi⟩ (fun e he => by simp [sSf] at he) trivial
  have hEE := sSf_EE (xa := xa) (ok := okC xt sch ns) nd
  have hlen := sSf_len (xa := xa) (ok := okC xt sch ns) nd
  have hblen : (sSf xa (okC xt sch ns) nd).2.length ≤ 9 := pw_len _ 9 hEE.2 (fun e1 he1 => by have := (EE_ends hWN (hEE.1 e1 he1)).1; omega)
  obtain ⟨q2, k2, g2⟩ := popL275 (xa := xa) (mt := mt) (sch := sch) (ns := ns) hw hI.rt hN hWN gn1 bn1 _ 1000 q1 _ (fun e1 he1 => ⟨hEE.1 e1 he1, h2 e1 he1⟩) (by omega) (by omega) h3 h1 (by omega)
  refine ⟨q2, gn1, bn1, ?_, g2⟩
  have k1' : f_X10_sift_L16 (nI ns) (nI w) xa mt sch R.ct R.kd R.le R.pr R.fo R.fr R.to R.ac R.ow R.an R.vf R.vt R.so 1000 0 out gn bn 0 (nI (256 * w)) = some (q1.1, q1.2, gn1, bn1, nI (sSf xa (okC xt sch ns) nd).2.length) := k1
  unfold f_X10_sift
  rw [p256, k1', Option.bind_some]
  dsimp only
  rw [k2]
  rfl
