/-! the frame of all contracts: one list of words for every method (lw_tbl), one bundle of what a method's body may use (ms_CX), one of its world (ms_W), one form of contract (ms_Fn) -/
abbrev Gc : Type := va_G × (Nat → ClassId) × (Nat → Nat) × (Nat → Nat)
def tyG (G : Gc) : List (ClassId × FieldType) := [(G.2.1 0, .char), (G.2.1 1, .int), (G.2.1 2, .long), (G.2.1 3, .boolean)]
/-- the tables' words that a callee's start keeps -/
def ms_tbl : List Cond := lw_tbl.filter goodWord
theorem ms_in (k : Nat) {w : Cond} (h : lw_tbl[k]? = some w) (hg : goodWord w = true) : w ∈ ms_tbl := List.mem_filter.mpr ⟨List.mem_of_getElem? h, hg⟩
def wU (y : MethodName) (b : ByteArray) (n : Nat) (r : Option FieldType) : List Cond := .code y b n r :: ms_tbl
theorem wU_good {y : MethodName} {b : ByteArray} {n : Nat} {r : Option FieldType} (h : Cond.code y b n r ∈ ms_tbl) : GoodIn ms_tbl (wU y b n r) := by
  intro w hw
  have hm : w ∈ ms_tbl := by
    rcases List.mem_cons.mp hw with e | e
    · rw [e]; exact h
    · exact e
  exact ⟨hm, good_of_word (List.mem_filter.mp hm).2⟩
/-- the String constants: their bytes -/
def ms_byt : List (List Int32) := [[60, 47, 115], [60, 47, 83], [38, 108, 116, 59], [38, 103, 116, 59], [38, 97, 109, 112, 59], [38, 113, 117, 111, 116, 59], [60, 33, 45, 45], [45, 45, 62], [62], [60, 47], [60], [32], [61, 34], [34]]
def ms_len : List Nat := [3, 3, 4, 4, 5, 6, 4, 3, 1, 2, 1, 1, 2, 1]
/-- where they stand: class, entry, text, which -/
def ms_refs : List (String × Nat × String × Nat) := [("MarkupSieve$Reader", 105, "</s", 0), ("MarkupSieve$Reader", 111, "</S", 1), ("MarkupSieve$References", 19, "&lt;", 2), ("MarkupSieve$References", 29, "&gt;", 3), ("MarkupSieve$References", 31, "&amp;", 4), ("MarkupSieve$References", 33, "&quot;", 5), ("MarkupSieve$Reader", 116, "<!--", 6), ("MarkupSieve$Reader", 118, "-->", 7), ("MarkupSieve$Reader", 120, ">", 8), ("MarkupSieve$Writer", 54, "</", 9), ("MarkupSieve$Writer", 67, ">", 8), ("MarkupSieve$Writer", 143, "&amp;", 4), ("MarkupSieve$Writer", 145, "&lt;", 2), ("MarkupSieve$Writer", 147, "&gt;", 3), ("MarkupSieve$Writer", 94, "<", 10), ("MarkupSieve$Writer", 130, " ", 11), ("MarkupSieve$Writer", 132, "=\"", 12), ("MarkupSieve$Writer", 153, "&quot;", 5), ("MarkupSieve$Writer", 137, "\"", 13)]
/-- the links to private methods of the nest's host -/
def ms_nst : List (String × Nat × MethodName × String) := [("MarkupSieve$Policy", 29, ⟨"MarkupSieve", "isLetterNumber", "(I)Z"⟩, "MarkupSieve"), ("MarkupSieve$Reader", 89, ⟨"MarkupSieve", "isLetter", "(C)Z"⟩, "MarkupSieve"), ("MarkupSieve$References", 35, ⟨"MarkupSieve", "isDigit", "(C)Z"⟩, "MarkupSieve"), ("MarkupSieve$References", 41, ⟨"MarkupSieve", "isPlain", "(I)Z"⟩, "MarkupSieve"), ("MarkupSieve$Reader", 139, ⟨"MarkupSieve", "letterNumber", "(C)I"⟩, "MarkupSieve"), ("MarkupSieve$Tag", 29, ⟨"MarkupSieve", "isLetterNumber", "(I)Z"⟩, "MarkupSieve"), ("MarkupSieve$Builder", 64, ⟨"MarkupSieve", "isBlock", "(I)Z"⟩, "MarkupSieve"), ("MarkupSieve$Builder", 73, ⟨"MarkupSieve", "isEmptyName", "(I)Z"⟩, "MarkupSieve"), ("MarkupSieve$Policy", 51, ⟨"MarkupSieve", "isLetter", "(C)Z"⟩, "MarkupSieve"), ("MarkupSieve$Policy", 55, ⟨"MarkupSieve", "isDigit", "(C)Z"⟩, "MarkupSieve"), ("MarkupSieve$Policy", 58, ⟨"MarkupSieve", "letterNumber", "(C)I"⟩, "MarkupSieve"), ("MarkupSieve$Writer", 107, ⟨"MarkupSieve", "isEmptyName", "(I)Z"⟩, "MarkupSieve")]
def ms_STR (G : Gc) (A : Nat → Prop) (U : State) (H : Heap) : Prop := vk_S 14 ms_len ms_byt G.2.2.1 G.2.2.2 A U H ∧ va_Z "java/lang/String" "COMPACT_STRINGS" "Z" (.int 1) A U H ∧ (∀ q ∈ ms_refs, vk_R q.1 q.2.1 q.2.2.1 (G.2.2.1 q.2.2.2) U) ∧ (∀ q ∈ ms_nst, va_Nw (.methodLinkNest q.1 q.2.1 q.2.2.1 q.2.2.2) U) ∧ va_Zq "jdk/internal/util/Preconditions" "SIOOBE_FORMATTER" "Ljava/util/function/BiFunction;" A U H
theorem ms_STR.at {G : Gc} {A B : Nat → Prop} {s U : State} {H H1 : Heap} (h : ms_STR G A s H) (hw : s.WarmedH U.vm) (hq : ∀ a : Nat, a < H.size → ¬ A a → H1[a]? = H[a]?) (hAB : ∀ q, B q → A q) : ms_STR G B U H1 :=
  ⟨((h.1.moved hw.alike).kept hq).narrow hAB, ((h.2.1.moved hw.alike).kept hq).narrow hAB, fun q hm => (h.2.2.1 q hm).warm hw, fun q hm => (h.2.2.2.1 q hm).warmM hw, ((h.2.2.2.2.moved hw.alike).kept hq).narrow hAB⟩
theorem ms_STR.blind {G : Gc} {A : Nat → Prop} {U : State} {H : Heap} {g : JFrame} {mk : MethodId} {a : Array Value} (h : ms_STR G A U H) : ms_STR G A (U.calling g mk a) H :=
  ⟨h.1.moved (U := U.calling g mk a) (Vm.Alike.refl U.vm), h.2.1.moved (U := U.calling g mk a) (Vm.Alike.refl U.vm), fun q hm => vk_R.same (u := U) rfl (h.2.2.1 q hm), fun q hm => va_Nw.same (u := U) rfl rfl (h.2.2.2.1 q hm), h.2.2.2.2.moved (U := U.calling g mk a) (Vm.Alike.refl U.vm)⟩
/-- a method that makes nothing: with the arguments As and the world w it answers r, and the world is w' -/
def ms_Fn (l : Launch) (G : Gc) (y : MethodName) (b : ByteArray) (n : Nat) (rt : Option FieldType) (rm : Room) (As : List Value) (w w' : va_W) (r : Option Value) : Prop :=
  ∀ sz : Nat, Met l y (wU y b n rt) rm (va_Pc As (fun U => U.heap.size = sz ∧ va_P G.1 vwCl w U.heap ∧ va_K G.1 vwCl (tyG G) U ∧ va_D (fun _ => True) w ∧ ms_STR G (va_A w sz) U U.heap)) (fun _ st oc t => (oc = .returned r ∧ va_P G.1 vwCl w' t.heap) ∧ va_F (va_A w sz) st t) 0 0 (va_A w sz)
def ms_CX (p : Program) (s : State) (m : MethodId) (args : Array Value) (meth : Method) (c : Code) (cc : ByteArray) (nL : Nat) (own : String) (rt : Option FieldType) (G : Gc) (A : Nat → Prop) : Prop :=
  CallFix p m c cc nL s args ms_tbl own ∧ meth.sig.returnType = rt ∧ meth.locks = false ∧ va_K G.1 vwCl (tyG G) s ∧ (∀ q, s.heap.size ≤ q → A q) ∧ ms_STR G A s s.heap
def ms_W (G : Gc) (A : Nat → Prop) (s : State) (H : Heap) (locs : List Loc) (ws : va_W) : Prop := va_P G.1 vwCl ws H ∧ va_D A ws ∧ va_S A s.heap H locs
def ms_Q (G : Gc) (A : Nat → Prop) (below : List Frame) (args : Array Value) (s : State) (w' : va_W) (r : Option Value) : State → Prop := MQ below (fun _ st oc t => (oc = .returned r ∧ va_P G.1 vwCl w' t.heap) ∧ va_F A st t) args s 0 0 A
theorem ms_start {l : Launch} {G : Gc} {y : MethodName} {b : ByteArray} {n : Nat} {rt : Option FieldType} {rm : Room} {As : List Value} {w w' : va_W} {r : Option Value} (own : String) (hy : plainName y.cls = true) (ho : y.cls = own) (hlen : (lg_sl As).length ≤ n)
    (body : ∀ (p : Program) (e : Env) (s : State) (m : MethodId) (below : List Frame) (meth : Method) (c : Code) (A : Nat → Prop) (ls : Array Slot), ms_CX p s m As.toArray meth c b n own rt G A → ms_W G A s s.heap [] w → lv_has ls n (lv_args 0 As) → W p l e rm s m As.toArray below meth c s.heap [] 0 0 (ms_Q G A below As.toArray s w' r) (F0 m 0 ls [])) : ms_Fn l G y b n rt rm As w w' r := by
  intro sz
  refine Met.ofW (cc := b) (maxL := n) (ret := rt) hy rfl ?_
  intro p e s m args below meth c s₁ B hml hv
  obtain ⟨rfl, hsz, hP, hK, hD0, hst⟩ := hv
  subst hsz
  have hts := atoms_spec (ws := wU y b n rt) B.pre
  have hown : s.vm.findClass y.cls = some m.cls := findClass_of_methodNamed B.named
  rw [ho] at hown
  have hl := lv_entry As (n := n) hlen
  rw [lg_entry_eq]
  exact body p e s m below meth c _ _ ⟨⟨B.exec, B.bytes, hml, hown, fun w hw => hts w (List.mem_cons_of_mem _ hw)⟩, B.returns, B.notSynchronized, hK, fun q h => Or.inr h, hst⟩ ⟨hP, hD0.self, va_S.rf⟩ hl
def ms_upd : va_W → List Nat → va_W → va_W
  | ws, i :: is, x :: xs => ms_upd (ws.set i x) is xs
  | ws, _, _ => ws
theorem ms_upd_len : ∀ (ws : va_W) (is : List Nat) (xs : va_W), (ms_upd ws is xs).length = ws.length
  | ws, [], _ => by simp [ms_upd]
  | ws, _ :: _, [] => by simp [ms_upd]
  | ws, i :: is, x :: xs => by rw [ms_upd, ms_upd_len (ws.set i x) is xs, List.length_set]
theorem ms_upd_out : ∀ (ws : va_W) (is : List Nat) (xs : va_W) (k : Nat), k ∉ is → (ms_upd ws is xs)[k]? = ws[k]?
  | ws, [], _, k, _ => by simp [ms_upd]
  | ws, _ :: _, [], k, _ => by simp [ms_upd]
  | ws, i :: is, x :: xs, k, h => by
    rw [ms_upd, ms_upd_out (ws.set i x) is xs k (fun q => h (List.mem_cons_of_mem _ q)), List.getElem?_set_ne (fun e => h (by rw [e]; exact List.mem_cons_self))]
theorem ms_upd_at : ∀ (ws : va_W) (is : List Nat) (xs : va_W), va_nd is = true → ∀ (j i : Nat) (x : Nat × va_E), is[j]? = some i → xs[j]? = some x → i < ws.length → (ms_upd ws is xs)[i]? = some x
  | ws, [], _, _, j, i, x, h, _, _ => by simp at h
  | ws, _ :: _, [], _, j, i, x, _, h, _ => by simp at h
  | ws, i0 :: is, x0 :: xs, hn, j, i, x, hi, hx, hl => by
    simp only [va_nd, Bool.and_eq_true, decide_eq_true_eq] at hn
    rw [ms_upd]
    cases j with
    | zero =>
      simp only [List.getElem?_cons_zero, Option.some.injEq] at hi hx
      subst hi; subst hx
      rw [ms_upd_out _ is xs _ hn.1, List.getElem?_set_self hl]
    | succ j =>
      simp only [List.getElem?_cons_succ] at hi hx
      exact ms_upd_at (ws.set i0 x0) is xs hn.2 j i x hi hx (by rw [List.length_set]; exact hl)
theorem ms_map_at {α β : Type} {is : List Nat} {ws : List α} {w : List α} (hs : is.map (fun i => ws[i]?) = w.map some) {k : Nat} {q : α} (hq : w[k]? = some q) : ∃ i, is[k]? = some i ∧ ws[i]? = some q := by
  have h1 : (is.map (fun i => ws[i]?))[k]? = some (some q) := by rw [hs, List.getElem?_map, hq]; rfl
  rw [List.getElem?_map] at h1
  cases hi : is[k]? with
  | none => rw [hi] at h1; cases h1
  | some i => rw [hi] at h1; exact ⟨i, rfl, Option.some.inj h1⟩
theorem ms_map_at' {α : Type} {is : List Nat} {ws : List α} {w : List α} (hs : is.map (fun i => ws[i]?) = w.map some) {k i : Nat} (hi : is[k]? = some i) : ∃ q, w[k]? = some q ∧ ws[i]? = some q := by
  have h1 : (w.map some)[k]? = some (ws[i]?) := by rw [← hs, List.getElem?_map, hi]; rfl
  rw [List.getElem?_map] at h1
  cases hq : w[k]? with
  | none => rw [hq] at h1; cases h1
  | some q => rw [hq] at h1; exact ⟨q, rfl, (Option.some.inj h1).symm⟩
/-- behind a call: the callee's cells in their places, the others unchanged -/
theorem ms_join {A : Nat → Prop} {D : va_G} {cl : List vw_C} {ws w w' : va_W} {H H1 : Heap} (hP : va_P D cl ws H) (hD : va_D A ws) (is : List Nat) (h1 : is.map (fun i => ws[i]?) = w.map some) (hn : va_nd is = true) (hadr : w'.map Prod.fst = w.map Prod.fst)
    (hk : ∀ q : Nat, q < H.size → ¬ va_A w H.size q → H1[q]? = H[q]?) (hP1 : va_P D cl w' H1) : va_P D cl (ms_upd ws is w') H1 ∧ va_D A (ms_upd ws is w') := by
  have hlen : w'.length = w.length := by have := congrArg List.length hadr; simpa using this
  have key : ∀ (k : Nat) (q : Nat × va_E), (ms_upd ws is w')[k]? = some q → ((∃ j : Nat, is[j]? = some k ∧ w'[j]? = some q) ∨ (k ∉ is ∧ ws[k]? = some q)) ∧ ∃ q0, ws[k]? = some q0 ∧ q0.1 = q.1 := by
    intro k q hq
    by_cases hm : k ∈ is
    · obtain ⟨j, hj⟩ := List.getElem?_of_mem hm
      obtain ⟨q0, h2, h3⟩ := ms_map_at' h1 hj
      have hjl : j < w'.length := by rw [hlen]; exact (List.getElem?_eq_some_iff.mp h2).1
      have hx : w'[j]? = some w'[j] := List.getElem?_eq_getElem hjl
      have hkl : k < ws.length := (List.getElem?_eq_some_iff.mp h3).1
      have h4 := ms_upd_at ws is w' hn j k _ hj hx hkl
      rw [hq] at h4
      have h5 : q = w'[j] := Option.some.inj h4
      refine ⟨Or.inl ⟨j, hj, by rw [h5]; exact hx⟩, q0, h3, ?_⟩
      have h6 : (w'.map Prod.fst)[j]? = (w.map Prod.fst)[j]? := by rw [hadr]
      rw [List.getElem?_map, List.getElem?_map, hx, h2] at h6
      rw [h5]
      exact (Option.some.inj h6).symm
    · rw [ms_upd_out _ _ _ _ hm] at hq
      exact ⟨Or.inr ⟨hm, hq⟩, q, hq, rfl⟩
  refine ⟨fun k q hq => ?_, fun i j x y hx hy hxy => ?_, fun k q hq => ?_⟩
  · rcases (key k q hq).1 with ⟨j, -, h3⟩ | ⟨hm, h3⟩
    · exact hP1 j q h3
    · refine (hP k q h3).kept (hk q.1 (hP k q h3).lt (fun hA => ?_))
      rcases hA with ⟨j, e, h4⟩ | h4
      · obtain ⟨i, h5, h6⟩ := ms_map_at (β := Nat) h1 h4
        have h7 := hD.1 k i q (q.1, e) h3 h6 rfl
        subst h7
        exact hm (List.mem_of_getElem? h5)
      · exact absurd (hP k q h3).lt (by omega)
  · obtain ⟨-, x0, h3, h4⟩ := key i x hx
    obtain ⟨-, y0, h5, h6⟩ := key j y hy
    exact hD.1 i j x0 y0 h3 h5 (h4.trans (hxy.trans h6.symm))
  · obtain ⟨-, q0, h3, h4⟩ := key k q hq
    rw [← h4]
    exact hD.2 k q0 h3
