/-! the reference reads a text, a raw text, a comment -/
def oT (p : Nat) (raw : Bool) (k : Nat) (wh nm cd : Int32) (R : RW) : Int32 × Int32 × Int32 × Int32 × Int32 × Int32 × RowF × RowF × RowF × RowF × RowF × RowF × RowF × RowF × RowF × RowF × RowF × RowF × RowF × RowF × RowF × RowF := (nI p, b2 raw, nI k, wh, nm, cd, R.ct, R.kd, R.le, R.pr, R.dp, R.fo, R.fr, R.to, R.ac, R.ow, R.an, R.vf, R.vt, R.sd, R.so, R.op)
theorem smallK : ∀ k, k < 127 → f_X10_small (nI k) = some (nI (if 65 ≤ k ∧ k ≤ 90 then k + 32 else k)) := by decide +kernel
theorem small115 {t row : Nat → Int32} {n p : Nat} (h : TX t n row) : ∃ c, f_X10_small (t p) = some c ∧ (c = 115) = (t p = 115 ∨ t p = 83) := by
  have key : ∀ k, k < 127 → ∃ c, f_X10_small (nI k) = some c ∧ (c = 115) = (nI k = 115 ∨ nI k = 83) := by
    intro k hk
    refine ⟨_, smallK k hk, ?_⟩
    have : ∀ k, k < 127 → ((nI (if 65 ≤ k ∧ k ≤ 90 then k + 32 else k) = 115) ↔ (nI k = 115 ∨ nI k = 83)) := by decide +kernel
    exact propext (this k hk)
  by_cases hp : p < n
  · obtain ⟨k, h1, h2, e⟩ := h.ch hp
    rw [e]
    exact key k (by omega)
  · rw [h.ge (by omega)]
    exact key 0 (by decide)
theorem rawER {t row : Nat → Int32} {n : Nat} (h : TX t n row) (v : Int32) : ∀ (j p f : Nat), n - p = j → p ≤ n → j < f → f_X10_rawEnd_L5 (nI n) v row f (nI p) = some (nI (sFind (sRawEnd t) j p)) := by
  have hn := h.1
  intro j
  induction j with
  | zero =>
    intro p f hp hp4 hf
    obtain ⟨f, rfl⟩ : ∃ g, f = g + 1 := ⟨f - 1, by omega⟩
    rw [f_X10_rawEnd_L5, if_pos (nI_le (by omega) (by omega)), show p = n by omega]
    rfl
  | succ j ih =>
    intro p f hp hp4 hf
    obtain ⟨f, rfl⟩ : ∃ g, f = g + 1 := ⟨f - 1, by omega⟩
    have hgo := ih (p + 1) f (by omega) (by omega) (by omega)
    obtain ⟨c, hc1, hc2⟩ := small115 (p := p + 2) h
    rw [f_X10_rawEnd_L5, if_neg (nI_ge (by omega) (by omega)), pu_gi (by omega) (by decide), nI_clamp (by omega), ← h.lt (show p < n by omega)]
    simp only [f_X10_rawEnd_L55, f_X10_rawEnd_L56, f_X10_rawEnd_L99]
    rw [nI_1, show nI p + 2 = nI (p + 2) from nI_add p 2, show nI p + 3 = nI (p + 3) from nI_add p 3, atR h (by omega), atR h (by omega), atR h (by omega), hgo]
    simp only [Option.bind_some, hc1, hc2]
    have e0 : (nI n ≤ nI (p + 3)) = (t (p + 3) = 0) := by rw [h.end, pu_l (by omega) (by omega)]
    simp only [e0]
    rw [show sFind (sRawEnd t) (j + 1) p = if sRawEnd t p = true then p else sFind (sRawEnd t) j (p + 1) from rfl]
    generalize sFind (sRawEnd t) j (p + 1) = z
    unfold sRawEnd
    by_cases c0 : t p = 60
    · by_cases c1 : t (p + 1) = 47
      · by_cases c2 : t (p + 2) = 115 ∨ t (p + 2) = 83
        · by_cases d4 : t (p + 3) = 0
          · rcases c2 with c2 | c2 <;> simp [c0, c1, c2, d4]
          · by_cases d1 : t (p + 3) = 32
            · rcases c2 with c2 | c2 <;> simp [c0, c1, c2, d1]
            · by_cases d2 : t (p + 3) = 47
              · rcases c2 with c2 | c2 <;> simp [c0, c1, c2, d2]
              · by_cases d3 : t (p + 3) = 62
                · rcases c2 with c2 | c2 <;> simp [c0, c1, c2, d3]
                · rcases c2 with c2 | c2 <;> simp [c0, c1, c2, d1, d2, d3, d4]
        · have c2a : ¬ t (p + 2) = 115 := fun q => c2 (Or.inl q)
          have c2b : ¬ t (p + 2) = 83 := fun q => c2 (Or.inr q)
          simp [c0, c1, c2a, c2b]
      · simp [c0, c1]
    · simp [c0]
theorem rawEndR {t row : Nat → Int32} {n p : Nat} (h : TX t n row) (hp : p ≤ n) : f_X10_rawEnd (nI n) (nI p) row = some (nI (sFind (sRawEnd t) (n - p) p)) := by
  have hn := h.1
  exact rawER h _ (n - p) p 1000 rfl hp (by omega)
theorem seekL2 {t row : Nat → Int32} {n : Nat} (h : TX t n row) (v : Int32) : ∀ (j p f : Nat), n - p = j → p ≤ n → j < f → f_X10_seek_L2 (nI n) row v 62 f (nI p) = some (nI (sFind (fun i => decide (t i = 62)) j p)) := by
  have hn := h.1
  intro j
  induction j with
  | zero =>
    intro p f hp hp4 hf
    obtain ⟨f, rfl⟩ : ∃ g, f = g + 1 := ⟨f - 1, by omega⟩
    rw [f_X10_seek_L2, if_pos (nI_le (by omega) (by omega))]
    rfl
  | succ j ih =>
    intro p f hp hp4 hf
    obtain ⟨f, rfl⟩ : ∃ g, f = g + 1 := ⟨f - 1, by omega⟩
    rw [f_X10_seek_L2, if_neg (nI_ge (by omega) (by omega)), pu_gi (by omega) (by decide), nI_clamp (by omega), ← h.lt (show p < n by omega), nI_1, ih (p + 1) f (by omega) (by omega) (by omega)]
    rw [show sFind (fun i => decide (t i = 62)) (j + 1) p = if decide (t p = 62) = true then p else sFind (fun i => decide (t i = 62)) j (p + 1) from rfl]
    by_cases c : t p = 62 <;> simp [c]
theorem seekR {t row : Nat → Int32} {n p : Nat} (h : TX t n row) (hp : p ≤ n) : f_X10_seek (nI n) row (nI p) 62 = some (nI (sFind (fun i => decide (t i = 62)) (n - p) p)) := by
  have hn := h.1
  unfold f_X10_seek
  rw [seekL2 h _ (n - p) p 1000 rfl hp (by omega)]
  rfl
theorem comL10 {t row : Nat → Int32} {n w e : Nat} (h : TX t n row) (hw : w < 2) (he : e ≤ n) (oc v1 v3 : Int32) (op ct kd le pr dp fo fr to : Nat → Int32) : ∀ (j p s f : Nat) (sd so : Nat → Int32), p + j = e → sd w = nI s → s + j ≤ 200 → j < f → ∃ sd' : Nat → Int32, f_X10_comment_L10 (nI w) oc row op v1 (nI e) f ct kd le pr dp fo fr to sd so v3 (nI p) = some (ct, kd, le, pr, dp, fo, fr, to, sd', ap so (256 * w + s) (sSeg t p e), v3) ∧ sd' w = nI (s + j) ∧ (∀ i, ¬ i = w → sd' i = sd i) := by
  have hn := h.1
  intro j
  induction j with
  | zero =>
    intro p s f sd so hp hs hsj hf
    obtain ⟨f, rfl⟩ : ∃ g, f = g + 1 := ⟨f - 1, by omega⟩
    refine ⟨sd, ?_, hs, fun i _ => rfl⟩
    rw [f_X10_comment_L10, if_pos (nI_le (by omega) (by omega)), sSeg_nil (by omega)]
    rfl
  | succ j ih =>
    intro p s f sd so hp hs hsj hf
    obtain ⟨f, rfl⟩ : ∃ g, f = g + 1 := ⟨f - 1, by omega⟩
    obtain ⟨sd', g1, g2, g3⟩ := ih (p + 1) (s + 1) f (upd sd w (nI (s + 1))) (upd so (256 * w + s) (t p)) (by omega) pk_us (by omega) (by omega)
    refine ⟨sd', ?_, by rw [g2]; congr 1; omega, fun i hi => by rw [g3 i hi, pk_un hi]⟩
    rw [f_X10_comment_L10, if_neg (nI_ge (by omega) (by omega)), pu_gi (by omega) (by decide), nI_clamp (by omega), ← h.lt (show p < n by omega), keepR hw hs (by omega), Option.bind_some, nI_1]
    dsimp only
    rw [g1, sSeg_cons (b := p) (e := e) (by omega)]
    rfl
theorem comR {t row : Nat → Int32} {n w b e p : Nat} {raw : Bool} {nd : List Nd} {st : Stk} {R : RW} (ht : TX t n row) (hw : w < 2) (hS : PI n (p, raw, st, nd)) (hbe : b ≤ e) (he : e ≤ n) (hpb : p < b) (h : RI w nd st R) : ∃ R' : RW, f_X10_comment (nI w) (nI st.length) row R.ct R.kd R.le R.pr R.dp R.fo R.fr R.to R.sd R.so R.op (nI b) (nI e) = some (R'.ct, R'.kd, R'.le, R'.pr, R'.dp, R'.fo, R'.fr, R'.to, R'.sd, R'.so) ∧ R'.ac = R.ac ∧ R'.ow = R.ow ∧ R'.an = R.an ∧ R'.vf = R.vf ∧ R'.vt = R.vt ∧ R'.op = R.op ∧ RI w (sCom (sSeg t b e) st nd) st R' ∧ FM w R R' := by
  have hn := ht.1
  have h8 : st.length ≤ 8 := hS.le
  have hb2 : nd.length ≤ p := hS.bd.2.1
  have hb3 : stoM nd ≤ p := hS.bd.2.2.1
  have hrs := RS_of h.rt (by omega) hS.wf h.rs hS.ix
  have hj : ∀ j ∈ ixN nd st, j < nd.length := fun j q => Nat.lt_of_lt_of_le (hrs.2 j q) (sPar_len _ _)
  have hadd := addR (k := 2) (l := 0) hw h.ct h.sd (by omega) h.rs h8 hrs.1 hj (by decide) (by decide) R.kd R.pr R.dp R.fr R.to
  unfold f_X10_comment
  rw [show (2 : Int32) = nI 2 from rfl, show (0 : Int32) = nI 0 from rfl, hadd, Option.bind_some]
  dsimp only
  obtain ⟨sd', g1, g2, g3⟩ := comL10 ht hw he (nI st.length) (nI b) (nI (256 * w + nd.length)) R.op (upd R.ct w (nI (nd.length + 1))) (upd R.kd (256 * w + nd.length) (nI 2)) (upd R.le (256 * w + nd.length) (nI 0)) (upd R.pr (256 * w + nd.length) (sPv (256 * w) st.length nd)) (upd R.dp (256 * w + nd.length) (nI st.length)) (upd R.fo (256 * w + nd.length) (b2 (decide (2 = 3) && sFor 0 st))) (upd R.fr (256 * w + nd.length) (nI (stoM nd))) (upd R.to (256 * w + nd.length) (nI (stoM nd))) (e - b) b (stoM nd) 1000 R.sd R.so (by omega) h.sd (by omega) (by omega)
  rw [g1, Option.bind_some]
  dsimp only
  rw [pu_gi hw (by decide), pu_gi (show 256 * w + nd.length < 512 by omega) (by decide), nI_clamp (by omega), nI_clamp (by omega), g2]
  have hP := RT.push (k := 2) (d := st.length) (s0 := stoM nd + (e - b)) (so' := ap R.so (256 * w + stoM nd) (sSeg t b e)) (cs := sSeg t b e) h.rt (fun i a b => ap_lt _ _ _ _ b) (seg_ap _ _ _) (by rw [sSeg_len])
  refine ⟨⟨upd R.ct w (nI (nd.length + 1)), upd R.kd (256 * w + nd.length) (nI 2), upd R.le (256 * w + nd.length) (nI 0), upd R.pr (256 * w + nd.length) (sPv (256 * w) st.length nd), upd R.dp (256 * w + nd.length) (nI st.length), upd R.fo (256 * w + nd.length) (b2 (decide (2 = 3) && sFor 0 st)), upd R.fr (256 * w + nd.length) (nI (stoM nd)), upd (upd R.to (256 * w + nd.length) (nI (stoM nd))) (256 * w + nd.length) (nI (stoM nd + (e - b))), R.ac, R.ow, R.an, R.vf, R.vt, sd', ap R.so (256 * w + stoM nd) (sSeg t b e), R.op⟩, rfl, rfl, rfl, rfl, rfl, rfl, rfl, ⟨RT.congr hP (fun i a b => ⟨rfl, rfl, rfl, rfl, rfl, rfl, ?_⟩) (fun i a b => rfl) (fun i a b => ⟨rfl, rfl, rfl, rfl⟩), RSx.skip (Nat.le_refl _) h.rs, pk_us, ?_, h.ac⟩, ⟨fun i hi => ⟨pk_un (by omega), g3 i (by omega), rfl⟩, fun i hi => ⟨pk_un (by omega), pk_un (by omega), pk_un (by omega), pk_un (by omega), pk_un (by omega), pk_un (by omega), ?_, ap_lt _ _ _ _ (by omega)⟩, fun i hi => ⟨rfl, rfl, rfl, rfl⟩⟩⟩
  · dsimp only [RW.to]
    by_cases e : i = 256 * w + nd.length
    · subst e; rw [pk_us, pk_us]
    · rw [pk_un e, pk_un e, pk_un e]
  · dsimp only [RW.sd]
    rw [g2]
    show nI (stoM nd + (e - b)) = nI (stoM nd + (sSeg t b e).length + 0)
    rw [sSeg_len]
    rfl
  · dsimp only [RW.to]
    rw [pk_un (by omega), pk_un (by omega)]
theorem rawL17 {t row : Nat → Int32} {n w e : Nat} (ht : TX t n row) (hw : w < 2) (he : e ≤ n) {st : Stk} (wh nm cd : Int32) : ∀ (j p f : Nat) (nd : List Nd) (R : RW), p + j = e → j < f → PI n (p, false, st, nd) → RI w nd st R → ∃ R' : RW, f_X10_token_L17 (nI n) (nI w) row f (nI p) 0 (nI st.length) wh nm cd R.ct R.kd R.le R.pr R.dp R.fo R.fr R.to R.ac R.ow R.an R.vf R.vt R.sd R.so R.op (nI e) = some (oT e false st.length wh nm cd R') ∧ RI w (if p < e then sAdd (sSeg t p e) st nd else nd) st R' ∧ FM w R R' := by
  have hn := ht.1
  intro j
  induction j with
  | zero =>
    intro p f nd R hp hf hS h
    obtain ⟨f, rfl⟩ : ∃ g, f = g + 1 := ⟨f - 1, by omega⟩
    refine ⟨R, ?_, by rw [if_neg (by omega)]; exact h, FM.refl w R⟩
    rw [f_X10_token_L17, if_pos (nI_le (by omega) (by omega)), show p = e by omega]
    rfl
  | succ j ih =>
    intro p f nd R hp hf hS h
    obtain ⟨f, rfl⟩ : ∃ g, f = g + 1 := ⟨f - 1, by omega⟩
    have hb2 : nd.length ≤ p := hS.bd.2.1
    have hb3 : stoM nd ≤ p := hS.bd.2.2.1
    obtain ⟨R1, g1, e1, e2, e3, e4, e5, e6, g2, g3⟩ := letR hw hS (by omega) (by omega) h (t p)
    have hS1 : PI n (p + 1, false, st, sAdd [t p] st nd) := hS.add (fun c hc => by rw [List.mem_singleton] at hc; subst hc; exact ht.ch (by omega)) (by omega) (by omega) (by simp)
    obtain ⟨R2, k1, k2, k3⟩ := ih (p + 1) f _ R1 (by omega) (by omega) hS1 g2
    refine ⟨R2, ?_, ?_, g3.trans k3⟩
    · rw [f_X10_token_L17, if_neg (nI_ge (by omega) (by omega)), pu_gi (by omega) (by decide), nI_clamp (by omega), ← ht.lt (show p < n by omega), g1, Option.bind_some, nI_1]
      dsimp only
      rw [← e1, ← e2, ← e3, ← e4, ← e5, ← e6]
      exact k1
    · rw [if_pos (show p < e by omega), sSeg_cons (show p < e by omega)]
      by_cases c : p + 1 < e
      · rw [if_pos c, sAdd_app] at k2
        exact k2
      · rw [if_neg c] at k2
        rw [sSeg_nil (by omega)]
        exact k2
