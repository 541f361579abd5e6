/-! the picture of sifting -/
def wA (q : At) : List Int32 := [32, nI (97 + q.1), 61, 34] ++ fl eV q.2 ++ [34]
def wAs (ok : At → Bool) : List At → List Int32
  | [] => []
  | q :: r => (if ok q = true then wA q else []) ++ wAs ok r
def wS (ok : At → Bool) (x : Nd) : List Int32 := [60, nI (97 + x.2.1)] ++ wAs ok (sSort x.2.2.2.2.2) ++ [62]
def wE (l : Nat) : List Int32 := [60, 47, nI (97 + l), 62]
/-- an element that has begun: its place, depth, letter; is its end written; is it gone -/
abbrev Ent : Type := Nat × Nat × Nat × Bool × Bool
def pEnds (d : Nat) : List Ent → List Int32
  | [] => []
  | e :: r => if d ≤ e.2.1 then (if e.2.2.2.1 = true then wE e.2.2.1 else []) ++ pEnds d r else []
def pDrop (d : Nat) : List Ent → List Ent
  | [] => []
  | e :: r => if d ≤ e.2.1 then pDrop d r else e :: r
def pGone : List Ent → Bool
  | [] => false
  | e :: _ => e.2.2.2.2
def isDr (xa : RowF) (x : Nd) : Bool := decide (x.1 = 3) && (decide (x.2.1 < 26) && decide (xa x.2.1 = 2))
def keepB (xa : RowF) (l : Nat) : Bool := decide (l < 26) && decide (xa l = 0)
def hE (l : Nat) (f : Bool) : Bool := f || !sEmpty l
def gnB (xa : RowF) (x : Nd) (b : List Ent) : Bool := isDr xa x || pGone (pDrop x.2.2.1 b)
def ktB (xa : RowF) (x : Nd) (b : List Ent) : Bool := decide (x.1 = 3) && !gnB xa x b && keepB xa x.2.1
def sEnt (xa : RowF) (x : Nd) (i : Nat) (b : List Ent) : Ent := (i, x.2.2.1, x.2.1, ktB xa x b && hE x.2.1 x.2.2.2.1, gnB xa x b)
def sStp (xa : RowF) (ok : Nat → At → Bool) (x : Nd) (i : Nat) (ob : List Int32 × List Ent) : List Int32 × List Ent :=
  (ob.1 ++ pEnds x.2.2.1 ob.2 ++ (if x.1 = 1 ∧ gnB xa x ob.2 = false then fl eT x.2.2.2.2.1 else []) ++ (if ktB xa x ob.2 = true then wS (ok x.2.1) x else []),
    if x.1 = 3 then sEnt xa x i ob.2 :: pDrop x.2.2.1 ob.2 else pDrop x.2.2.1 ob.2)
def sSf (xa : RowF) (ok : Nat → At → Bool) : List Nd → List Int32 × List Ent
  | [] => ([], [])
  | x :: r => sStp xa ok x r.length (sSf xa ok r)
def sOut (xa : RowF) (ok : Nat → At → Bool) (nd : List Nd) : List Int32 := (sSf xa ok nd).1 ++ pEnds 0 (sSf xa ok nd).2
theorem pDrop_len (d : Nat) : ∀ b, (pDrop d b).length ≤ b.length
  | [] => Nat.le_refl _
  | e :: r => by
    have := pDrop_len d r
    unfold pDrop
    split
    · simp; omega
    · simp
theorem pDrop_mono {d d' : Nat} (h : d' ≤ d) : ∀ b, pDrop d' (pDrop d b) = pDrop d' b
  | [] => rfl
  | e :: r => by
    rw [show pDrop d (e :: r) = if d ≤ e.2.1 then pDrop d r else e :: r from rfl]
    by_cases c : d ≤ e.2.1
    · rw [if_pos c, pDrop_mono h r, show pDrop d' (e :: r) = if d' ≤ e.2.1 then pDrop d' r else e :: r from rfl, if_pos (by omega)]
    · rw [if_neg c]
theorem pDrop_mem (d : Nat) : ∀ (b : List Ent) (e : Ent), e ∈ pDrop d b → e ∈ b
  | [], e, h => h
  | x :: r, e, h => by
    unfold pDrop at h
    split at h
    · exact List.mem_cons_of_mem _ (pDrop_mem d r e h)
    · exact h
theorem pDrop_pw {d : Nat} : ∀ {b : List Ent}, b.Pairwise (fun e e' => e'.2.1 < e.2.1) → (pDrop d b).Pairwise (fun e e' => e'.2.1 < e.2.1)
  | [], h => h
  | x :: r, h => by
    unfold pDrop
    split
    · exact pDrop_pw (List.pairwise_cons.mp h).2
    · exact h
theorem pDrop_lt {d : Nat} : ∀ {b : List Ent}, b.Pairwise (fun e e' => e'.2.1 < e.2.1) → ∀ e ∈ pDrop d b, e.2.1 < d
  | [], _, e, he => by simp [pDrop] at he
  | x :: r, h, e, he => by
    rw [List.pairwise_cons] at h
    unfold pDrop at he
    split at he
    · exact pDrop_lt h.2 e he
    · rename_i c
      rcases List.mem_cons.mp he with q | q
      · rw [q]; omega
      · have := h.1 e q
        omega
theorem pDrop_keep {d : Nat} : ∀ {b : List Ent} {e : Ent}, e ∈ b → e.2.1 < d → e ∈ pDrop d b
  | [], e, h, _ => by simp at h
  | x :: r, e, h, hd => by
    unfold pDrop
    split
    · rename_i c
      rcases List.mem_cons.mp h with q | q
      · rw [q] at hd; omega
      · exact pDrop_keep q hd
    · exact h
theorem pDrop_0 : ∀ b, pDrop 0 b = []
  | [] => rfl
  | e :: r => by rw [pDrop, if_pos (Nat.zero_le _), pDrop_0 r]
/-- an entry says what a node is -/
def EE (xa : RowF) (r : List Nd) (e : Ent) : Prop := ∃ a y q, r = a ++ y :: q ∧ q.length = e.1 ∧ y.1 = 3 ∧ y.2.2.1 = e.2.1 ∧ y.2.1 = e.2.2.1 ∧ e.2.2.2.1 = (!e.2.2.2.2 && keepB xa y.2.1 && hE y.2.1 y.2.2.2.1)
theorem EE.cons {xa : RowF} {x : Nd} {r : List Nd} {e : Ent} (h : EE xa r e) : EE xa (x :: r) e := by
  obtain ⟨a, y, q, h1, h2⟩ := h
  exact ⟨x :: a, y, q, by rw [h1]; rfl, h2⟩
theorem EE.app {xa : RowF} {a r : List Nd} {e : Ent} (h : EE xa r e) : EE xa (a ++ r) e := by
  obtain ⟨b, y, q, h1, h2⟩ := h
  exact ⟨a ++ b, y, q, by rw [h1, List.append_assoc], h2⟩
theorem EE.new {xa : RowF} {x : Nd} {r : List Nd} {b : List Ent} (h3 : x.1 = 3) : EE xa (x :: r) (sEnt xa x r.length b) := by
  refine ⟨[], x, r, rfl, rfl, h3, rfl, rfl, ?_⟩
  show (ktB xa x b && hE x.2.1 x.2.2.2.1) = (!gnB xa x b && keepB xa x.2.1 && hE x.2.1 x.2.2.2.1)
  unfold ktB
  rw [decide_eq_true h3, Bool.true_and]
theorem sSf_EE {xa : RowF} {ok : Nat → At → Bool} : ∀ (r : List Nd), (∀ e ∈ (sSf xa ok r).2, EE xa r e) ∧ (sSf xa ok r).2.Pairwise (fun e e' => e'.2.1 < e.2.1)
  | [] => ⟨fun e h => by simp [sSf] at h, List.Pairwise.nil⟩
  | x :: r => by
    obtain ⟨h1, h2⟩ := sSf_EE (xa := xa) (ok := ok) r
    have hb : ∀ e ∈ pDrop x.2.2.1 (sSf xa ok r).2, EE xa (x :: r) e := fun e he => (h1 e (pDrop_mem _ _ _ he)).cons
    have hp := pDrop_pw (d := x.2.2.1) h2
    have hl := pDrop_lt (d := x.2.2.1) h2
    rw [show sSf xa ok (x :: r) = sStp xa ok x r.length (sSf xa ok r) from rfl]
    unfold sStp
    dsimp only
    split
    · rename_i h3
      refine ⟨fun e he => ?_, ?_⟩
      · rcases List.mem_cons.mp he with q | q
        · rw [q]; exact EE.new h3
        · exact hb e q
      · rw [List.pairwise_cons]
        exact ⟨fun e he => hl e he, hp⟩
    · exact ⟨hb, hp⟩
theorem sSf_par {xa : RowF} {ok : Nat → At → Bool} : ∀ (r : List Nd) (d : Nat) (y : Nd) (q : List Nd), sPar d r = y :: q → y.1 = 3 → ∃ e b', pDrop d (sSf xa ok r).2 = e :: b' ∧ e.1 = q.length
  | [], d, y, q, h, _ => by cases h
  | x :: r, d, y, q, h, h3 => by
    rw [show sSf xa ok (x :: r) = sStp xa ok x r.length (sSf xa ok r) from rfl]
    unfold sStp
    dsimp only
    unfold sPar at h
    by_cases c : x.2.2.1 < d
    · rw [if_pos c] at h
      cases h
      rw [if_pos h3, pDrop, if_neg (show ¬ d ≤ (sEnt xa x r.length (sSf xa ok r).2).2.1 from show ¬ d ≤ x.2.2.1 by omega)]
      exact ⟨_, _, rfl, rfl⟩
    · rw [if_neg c] at h
      have ih := sSf_par (xa := xa) (ok := ok) r d y q h h3
      have e1 : pDrop d (if x.1 = 3 then sEnt xa x r.length (sSf xa ok r).2 :: pDrop x.2.2.1 (sSf xa ok r).2 else pDrop x.2.2.1 (sSf xa ok r).2) = pDrop d (sSf xa ok r).2 := by
        split
        · rw [pDrop, if_pos (show d ≤ (sEnt xa x r.length (sSf xa ok r).2).2.1 from show d ≤ x.2.2.1 by omega), pDrop_mono (by omega)]
        · rw [pDrop_mono (by omega)]
      rw [e1]
      exact ih
/-! how much is written -/
theorem wE_len (l : Nat) : (wE l).length = 4 := rfl
theorem pEnds_len (d : Nat) : ∀ b, (pEnds d b).length + 4 * (pDrop d b).length ≤ 4 * b.length
  | [] => Nat.le_refl _
  | e :: r => by
    have := pEnds_len d r
    unfold pEnds pDrop
    split
    · rw [List.length_append, List.length_cons]
      split
      · rw [wE_len]; omega
      · simp; omega
    · simp
theorem wA_len (q : At) : (wA q).length ≤ 5 + 6 * q.2.length := by
  have := fl_len eV_len q.2
  unfold wA
  simp
  omega
theorem wAs_len (ok : At → Bool) : ∀ xs, (wAs ok xs).length ≤ 5 * xs.length + 6 * vLen xs
  | [] => Nat.le_refl _
  | q :: r => by
    have := wAs_len ok r
    have := wA_len q
    unfold wAs vLen
    rw [List.length_append, List.length_cons]
    split
    · omega
    · simp; omega
theorem wS_len (ok : At → Bool) (x : Nd) : (wS ok x).length ≤ 3 + 5 * x.2.2.2.2.2.length + 6 * vLen x.2.2.2.2.2 := by
  have h1 := wAs_len ok (sSort x.2.2.2.2.2)
  have h2 := sSort_len x.2.2.2.2.2
  have h3 := sSort_vLen x.2.2.2.2.2
  unfold wS
  simp
  omega
theorem sSf_len {xa : RowF} {ok : Nat → At → Bool} : ∀ (r : List Nd), (sSf xa ok r).1.length + 4 * (sSf xa ok r).2.length ≤ 6 * stoM r + 5 * acM r + 8 * r.length
  | [] => Nat.le_refl _
  | x :: r => by
    have ih := sSf_len (xa := xa) (ok := ok) r
    have h1 := pEnds_len x.2.2.1 (sSf xa ok r).2
    have h2 := fl_len eT_len x.2.2.2.2.1
    have h3 := wS_len (ok x.2.1) x
    rw [show sSf xa ok (x :: r) = sStp xa ok x r.length (sSf xa ok r) from rfl]
    unfold sStp
    dsimp only
    have a1 : (if x.1 = 1 ∧ gnB xa x (sSf xa ok r).2 = false then fl eT x.2.2.2.2.1 else []).length ≤ 6 * x.2.2.2.2.1.length := by
      split
      · exact h2
      · simp
    have a2 : (if ktB xa x (sSf xa ok r).2 = true then wS (ok x.2.1) x else []).length ≤ 3 + 5 * x.2.2.2.2.2.length + 6 * vLen x.2.2.2.2.2 := by
      split
      · exact h3
      · simp
    have a3 : (if x.1 = 3 then sEnt xa x r.length (sSf xa ok r).2 :: pDrop x.2.2.1 (sSf xa ok r).2 else pDrop x.2.2.1 (sSf xa ok r).2).length ≤ (pDrop x.2.2.1 (sSf xa ok r).2).length + 1 := by
      split
      · simp
      · omega
    rw [List.length_append, List.length_append, List.length_append]
    show _ ≤ 6 * (stoM r + x.2.2.2.2.1.length + vLen x.2.2.2.2.2) + 5 * (acM r + x.2.2.2.2.2.length) + 8 * (r.length + 1)
    omega
theorem sOut_len {xa : RowF} {ok : Nat → At → Bool} (nd : List Nd) : (sOut xa ok nd).length ≤ 6 * stoM nd + 5 * acM nd + 8 * nd.length := by
  have h1 := sSf_len (xa := xa) (ok := ok) nd
  have h2 := pEnds_len 0 (sSf xa ok nd).2
  unfold sOut
  rw [List.length_append]
  omega
theorem pw_len : ∀ (b : List Ent) (m : Nat), b.Pairwise (fun e e' => e'.2.1 < e.2.1) → (∀ e ∈ b, e.2.1 < m) → b.length ≤ m
  | [], _, _, _ => Nat.zero_le _
  | x :: r, m, h, hm => by
    rw [List.pairwise_cons] at h
    have hx := hm x List.mem_cons_self
    have := pw_len r (m - 1) h.2 (fun e he => by have := h.1 e he; omega)
    simp
    omega
/-! what is written are plain characters -/
theorem eT_ok {c : Int32} (h : pu_ch c) : ∀ d ∈ eT c, pu_ch d := by
  have k : ∀ n, 32 ≤ n → n ≤ 126 → pu_ch (nI n) := fun n a b => ⟨n, a, b, rfl⟩
  unfold eT
  intro d hd
  split at hd
  · simp only [List.mem_cons, List.not_mem_nil, or_false] at hd
    rcases hd with rfl | rfl | rfl | rfl | rfl
    · exact k 38 (by decide) (by decide)
    · exact k 97 (by decide) (by decide)
    · exact k 109 (by decide) (by decide)
    · exact k 112 (by decide) (by decide)
    · exact k 59 (by decide) (by decide)
  · split at hd
    · simp only [List.mem_cons, List.not_mem_nil, or_false] at hd
      rcases hd with rfl | rfl | rfl | rfl
      · exact k 38 (by decide) (by decide)
      · exact k 108 (by decide) (by decide)
      · exact k 116 (by decide) (by decide)
      · exact k 59 (by decide) (by decide)
    · split at hd
      · simp only [List.mem_cons, List.not_mem_nil, or_false] at hd
        rcases hd with rfl | rfl | rfl | rfl
        · exact k 38 (by decide) (by decide)
        · exact k 103 (by decide) (by decide)
        · exact k 116 (by decide) (by decide)
        · exact k 59 (by decide) (by decide)
      · rw [List.mem_singleton] at hd
        rw [hd]; exact h
theorem eV_ok {c : Int32} (h : pu_ch c) : ∀ d ∈ eV c, pu_ch d := by
  have k : ∀ n, 32 ≤ n → n ≤ 126 → pu_ch (nI n) := fun n a b => ⟨n, a, b, rfl⟩
  unfold eV
  intro d hd
  split at hd
  · simp only [List.mem_cons, List.not_mem_nil, or_false] at hd
    rcases hd with rfl | rfl | rfl | rfl | rfl
    · exact k 38 (by decide) (by decide)
    · exact k 97 (by decide) (by decide)
    · exact k 109 (by decide) (by decide)
    · exact k 112 (by decide) (by decide)
    · exact k 59 (by decide) (by decide)
  · split at hd
    · simp only [List.mem_cons, List.not_mem_nil, or_false] at hd
      rcases hd with rfl | rfl | rfl | rfl | rfl | rfl
      · exact k 38 (by decide) (by decide)
      · exact k 113 (by decide) (by decide)
      · exact k 117 (by decide) (by decide)
      · exact k 111 (by decide) (by decide)
      · exact k 116 (by decide) (by decide)
      · exact k 59 (by decide) (by decide)
    · rw [List.mem_singleton] at hd
      rw [hd]; exact h
theorem fl_ok {e : Int32 → List Int32} (he : ∀ c, pu_ch c → ∀ d ∈ e c, pu_ch d) : ∀ (xs : List Int32), (∀ c ∈ xs, pu_ch c) → ∀ d ∈ fl e xs, pu_ch d
  | [], _, d, hd => by simp [fl] at hd
  | c :: cs, h, d, hd => by
    rw [fl, List.mem_append] at hd
    rcases hd with q | q
    · exact he c (h c List.mem_cons_self) d q
    · exact fl_ok he cs (fun x hx => h x (List.mem_cons_of_mem _ hx)) d q
theorem let_ok {l : Nat} (h : l < 26) : pu_ch (nI (97 + l)) := ⟨97 + l, by omega, by omega, rfl⟩
theorem wE_ok {l : Nat} (h : l < 26) : ∀ d ∈ wE l, pu_ch d := by
  intro d hd
  unfold wE at hd
  simp only [List.mem_cons, List.not_mem_nil, or_false] at hd
  rcases hd with rfl | rfl | rfl | rfl
  · exact ⟨60, by decide, by decide, rfl⟩
  · exact ⟨47, by decide, by decide, rfl⟩
  · exact let_ok h
  · exact ⟨62, by decide, by decide, rfl⟩
theorem wA_ok {q : At} (h : q.1 < 26) (hc : ∀ c ∈ q.2, pu_ch c) : ∀ d ∈ wA q, pu_ch d := by
  intro d hd
  unfold wA at hd
  simp only [List.mem_append, List.mem_cons, List.not_mem_nil, or_false] at hd
  rcases hd with ((rfl | rfl | rfl | rfl) | hd) | rfl
  · exact ⟨32, by decide, by decide, rfl⟩
  · exact let_ok h
  · exact ⟨61, by decide, by decide, rfl⟩
  · exact ⟨34, by decide, by decide, rfl⟩
  · exact fl_ok (fun c => eV_ok) q.2 hc d hd
  · exact ⟨34, by decide, by decide, rfl⟩
theorem wAs_ok {ok : At → Bool} : ∀ (xs : List At), (∀ q ∈ xs, q.1 < 26 ∧ ∀ c ∈ q.2, pu_ch c) → ∀ d ∈ wAs ok xs, pu_ch d
  | [], _, d, hd => by simp [wAs] at hd
  | q :: r, h, d, hd => by
    rw [wAs, List.mem_append] at hd
    have hq := h q List.mem_cons_self
    rcases hd with g | g
    · split at g
      · exact wA_ok hq.1 hq.2 d g
      · simp at g
    · exact wAs_ok r (fun x hx => h x (List.mem_cons_of_mem _ hx)) d g
theorem sSortF_mem {at' : List At} : ∀ (j a : Nat) (q : At), q ∈ sSortF at' a j → q ∈ at' ∧ a ≤ q.1 ∧ q.1 < a + j
  | 0, a, q, h => by simp [sSortF] at h
  | j + 1, a, q, h => by
    unfold sSortF at h
    split at h
    · have := sSortF_mem j (a + 1) q h
      exact ⟨this.1, by omega, by omega⟩
    · rename_i z hz
      rcases List.mem_cons.mp h with e | g
      · subst e
        have h1 := List.mem_of_find?_eq_some hz
        have h2 := List.find?_some hz
        simp at h2
        exact ⟨h1, by omega, by omega⟩
      · have := sSortF_mem j (a + 1) q g
        exact ⟨this.1, by omega, by omega⟩
theorem sSort_mem {at' : List At} {q : At} (h : q ∈ sSort at') : q ∈ at' := (sSortF_mem 26 0 q h).1
theorem wS_ok {ok : At → Bool} {x : Nd} (hl : x.2.1 < 26) (hx : WN x) : ∀ d ∈ wS ok x, pu_ch d := by
  intro d hd
  unfold wS at hd
  simp only [List.mem_append, List.mem_cons, List.not_mem_nil, or_false] at hd
  rcases hd with ((rfl | rfl) | hd) | rfl
  · exact ⟨60, by decide, by decide, rfl⟩
  · exact let_ok hl
  · exact wAs_ok _ (fun q hq => hx.2.2.2.2.2.2.1 q (sSort_mem hq)) d hd
  · exact ⟨62, by decide, by decide, rfl⟩
theorem EE_let {xa : RowF} {r : List Nd} {e : Ent} (h : EE xa r e) (he : e.2.2.2.1 = true) : e.2.2.1 < 26 := by
  obtain ⟨a, y, q, h1, h2, h3, h4, h5, h6⟩ := h
  rw [he] at h6
  have h7 := h6.symm
  simp only [Bool.and_eq_true] at h7
  have h8 := h7.1.2
  unfold keepB at h8
  simp only [Bool.and_eq_true, decide_eq_true_eq] at h8
  omega
theorem pEnds_ok {xa : RowF} {r : List Nd} (d : Nat) : ∀ b : List Ent, (∀ e ∈ b, EE xa r e) → ∀ c ∈ pEnds d b, pu_ch c
  | [], _, c, hc => by simp [pEnds] at hc
  | e :: b, h, c, hc => by
    unfold pEnds at hc
    split at hc
    · rw [List.mem_append] at hc
      rcases hc with g | g
      · split at g
        · rename_i he
          exact wE_ok (EE_let (h e List.mem_cons_self) he) c g
        · simp at g
      · exact pEnds_ok d b (fun x hx => h x (List.mem_cons_of_mem _ hx)) c g
    · simp at hc
theorem sSf_ok {xa : RowF} {ok : Nat → At → Bool} : ∀ (r : List Nd), (∀ x ∈ r, WN x) → ∀ c ∈ (sSf xa ok r).1, pu_ch c
  | [], _, c, hc => by simp [sSf] at hc
  | x :: r, hw, c, hc => by
    have ih := sSf_ok (xa := xa) (ok := ok) r (fun y hy => hw y (List.mem_cons_of_mem _ hy))
    have hx := hw x List.mem_cons_self
    have hE := (sSf_EE (xa := xa) (ok := ok) r).1
    rw [show sSf xa ok (x :: r) = sStp xa ok x r.length (sSf xa ok r) from rfl] at hc
    unfold sStp at hc
    dsimp only at hc
    rw [List.mem_append, List.mem_append, List.mem_append] at hc
    rcases hc with ((g | g) | g) | g
    · exact ih c g
    · exact pEnds_ok _ _ hE c g
    · split at g
      · exact fl_ok (fun c => eT_ok) _ hx.2.2.2.2.2.1 c g
      · simp at g
    · split at g
      · rename_i hk
        unfold ktB keepB at hk
        simp only [Bool.and_eq_true, decide_eq_true_eq] at hk
        exact wS_ok hk.2.1 hx c g
      · simp at g
theorem sOut_ok {xa : RowF} {ok : Nat → At → Bool} {nd : List Nd} (hw : ∀ x ∈ nd, WN x) : ∀ c ∈ sOut xa ok nd, pu_ch c := by
  intro c hc
  unfold sOut at hc
  rw [List.mem_append] at hc
  rcases hc with g | g
  · exact sSf_ok nd hw c g
  · exact pEnds_ok _ _ (sSf_EE nd).1 c g
