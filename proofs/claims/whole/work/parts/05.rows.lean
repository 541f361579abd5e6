section MS1
variable {p : Program} {l : Launch} {e : Env} {R : Room} {s : State} {m : MethodId} {args : Array Value} {below : List Frame} {meth : Method} {c : Code} {H : Heap} {locs : List Loc} {cells slots : Nat} {Q : State → Prop}
variable {cc : ByteArray} {nL pc : Nat} {own : String} {rt : Option FieldType} {G : Gc} {A : Nat → Prop} {ls : Array Slot} {rest : List Value} {ws : va_W} {a : Nat}
/-- a field's link: own's entry index is field k of class ci -/
def ms_wF (own : String) (index ci : Nat) (C : String) (T : u_T) (N k : Nat) : Prop := vwCl[ci]? = some (C, T, N) ∧ k < N ∧ (∀ w ∈ u_ws C T N, w ∈ ms_tbl) ∧ Cond.fieldLink own index (T k).1 (T k).2.1 (T k).2.2.1 ∈ ms_tbl
def ms_wP (T : u_T) (ty0 : Nat → FieldType) (N k : Nat) (ty : FieldType) : Prop := (∀ k, k < N → parseFieldDescriptor (T k).2.2.1 = some (ty0 k)) ∧ (∀ a, a < N → ∀ b, b < N → a ≠ b → (T a).2.1 ≠ (T b).2.1) ∧ parseFieldDescriptor (T k).2.2.1 = some ty
theorem ms_get {index ci N k : Nat} {C : String} {T : u_T} (F : ms_wF own index ci C T N k) (hX : ms_CX p s m args meth c cc nL own rt G A) (hW : ms_W G A s H locs ws) (q0 : Nat) {fs : List Value} {v : Value} (he : ws[q0]? = some (a, .inr (ci, fs))) (hv : fs[k]? = some v) (hdg : decode cc pc = .ok (.getfield index, 3))
    (kk : W p l e R s m args below meth c H locs cells slots Q (F0 m (pc + 3) ls (v :: rest))) : W p l e R s m args below meth c H locs cells slots Q (F0 m pc ls (.ref a :: rest)) :=
  va_get (D := G.1) hX.1.1 hX.1.2.1 hX.1.2.2.2.2 F.2.2.1 hX.1.2.2.2.1 hX.2.2.2.1 hW.1 q0 he F.1 k F.2.1 (hX.1.2.2.2.2 _ F.2.2.2) (fun _ h => h) hv hdg kk
theorem ms_put {index ci N k : Nat} {C : String} {T : u_T} {ty0 : Nat → FieldType} {ty : FieldType} (F : ms_wF own index ci C T N k) (P : ms_wP T ty0 N k ty) (hfin : (T k).2.2.2 = false) (hX : ms_CX p s m args meth c cc nL own rt G A) (hW : ms_W G A s H locs ws) (q0 : Nat) {fs : List Value} {v : Value} (he : ws[q0]? = some (a, .inr (ci, fs))) (hn : narrow ty v = v) (hfit : fits ty v = true) (hl : k < fs.length) (hdg : decode cc pc = .ok (.putfield index, 3))
    (kk : ∀ (H1 : Heap) (locs1 : List Loc), ms_W G A s H1 locs1 (ws.set q0 (a, .inr (ci, fs.set k v))) → W p l e R s m args below meth c H1 locs1 cells slots Q (F0 m (pc + 3) ls rest)) : W p l e R s m args below meth c H locs cells slots Q (F0 m pc ls (v :: .ref a :: rest)) :=
  va_put (D := G.1) hX.1.1 hX.1.2.1 hX.1.2.2.2.2 F.2.2.1 ty0 P.1 P.2.1 hX.1.2.2.2.1 hX.2.2.2.1 hW.1 hW.2.1 hW.2.2 q0 he F.1 k F.2.1 (hX.1.2.2.2.2 _ F.2.2.2) (fun _ h => h) hfin P.2.2 hn hfit hl hdg (fun H1 l1 h1 h2 h3 => kk H1 l1 ⟨h1, h2, h3⟩)
theorem ms_iald (hX : ms_CX p s m args meth c cc nL own rt G A) (hW : ms_W G A s H locs ws) (q0 : Nat) {n : Nat} {f : Nat → Int32} (ha : ws[q0]? = some (a, .inl (G.2.1 1, n, .inl f))) {i : Int32} (hin : vp_in i n) (hdg : decode cc pc = .ok (.iaload, 1))
    (kk : W p l e R s m args below meth c H locs cells slots Q (F0 m (pc + 1) ls (.int (f i.toNatClampNeg) :: rest))) : W p l e R s m args below meth c H locs cells slots Q (F0 m pc ls (.int i :: .ref a :: rest)) :=
  va_iald hX.1.1 hX.1.2.1 hX.2.2.2.1 hW.1 q0 1 ha rfl hin hdg kk
theorem ms_cald (hX : ms_CX p s m args meth c cc nL own rt G A) (hW : ms_W G A s H locs ws) (q0 : Nat) {n : Nat} {f : Nat → Int32} (ha : ws[q0]? = some (a, .inl (G.2.1 0, n, .inl f))) {i : Int32} (hin : vp_in i n) (hdg : decode cc pc = .ok (.caload, 1))
    (kk : W p l e R s m args below meth c H locs cells slots Q (F0 m (pc + 1) ls (.int (f i.toNatClampNeg) :: rest))) : W p l e R s m args below meth c H locs cells slots Q (F0 m pc ls (.int i :: .ref a :: rest)) :=
  va_cald hX.1.1 hX.1.2.1 hX.2.2.2.1 hW.1 q0 0 ha rfl hin hdg kk
theorem ms_zald (hX : ms_CX p s m args meth c cc nL own rt G A) (hW : ms_W G A s H locs ws) (q0 : Nat) {n : Nat} {f : Nat → Int32} (ha : ws[q0]? = some (a, .inl (G.2.1 3, n, .inl f))) {i : Int32} (hin : vp_in i n) (hdg : decode cc pc = .ok (.baload, 1))
    (kk : W p l e R s m args below meth c H locs cells slots Q (F0 m (pc + 1) ls (.int (f i.toNatClampNeg) :: rest))) : W p l e R s m args below meth c H locs cells slots Q (F0 m pc ls (.int i :: .ref a :: rest)) :=
  va_zald hX.1.1 hX.1.2.1 hX.2.2.2.1 hW.1 q0 3 ha rfl hin hdg kk
theorem ms_lald (hX : ms_CX p s m args meth c cc nL own rt G A) (hW : ms_W G A s H locs ws) (q0 : Nat) {n : Nat} {f : Nat → Int64} (ha : ws[q0]? = some (a, .inl (G.2.1 2, n, .inr (.inl f)))) {i : Int32} (hin : vp_in i n) (hdg : decode cc pc = .ok (.laload, 1))
    (kk : W p l e R s m args below meth c H locs cells slots Q (F0 m (pc + 1) ls (.long (f i.toNatClampNeg) :: rest))) : W p l e R s m args below meth c H locs cells slots Q (F0 m pc ls (.int i :: .ref a :: rest)) :=
  va_lald hX.1.1 hX.1.2.1 hX.2.2.2.1 hW.1 q0 2 ha rfl hin hdg kk
theorem ms_iast (hX : ms_CX p s m args meth c cc nL own rt G A) (hW : ms_W G A s H locs ws) (q0 : Nat) {n : Nat} {f : Nat → Int32} (ha : ws[q0]? = some (a, .inl (G.2.1 1, n, .inl f))) {i x : Int32} (hin : vp_in i n) (hdg : decode cc pc = .ok (.iastore, 1))
    (kk : ∀ (H1 : Heap) (locs1 : List Loc), ms_W G A s H1 locs1 (ws.set q0 (a, .inl (G.2.1 1, n, .inl (upd f i.toNatClampNeg x)))) → W p l e R s m args below meth c H1 locs1 cells slots Q (F0 m (pc + 1) ls rest)) : W p l e R s m args below meth c H locs cells slots Q (F0 m pc ls (.int x :: .int i :: .ref a :: rest)) :=
  va_iast hX.1.1 hX.1.2.1 hX.2.2.2.1 hW.1 hW.2.1 hW.2.2 q0 1 ha rfl hin hdg (fun H1 l1 h1 h2 h3 => kk H1 l1 ⟨h1, h2, h3⟩)
theorem ms_cast (hX : ms_CX p s m args meth c cc nL own rt G A) (hW : ms_W G A s H locs ws) (q0 : Nat) {n : Nat} {f : Nat → Int32} (ha : ws[q0]? = some (a, .inl (G.2.1 0, n, .inl f))) {i x : Int32} (hin : vp_in i n) (hdg : decode cc pc = .ok (.castore, 1))
    (kk : ∀ (H1 : Heap) (locs1 : List Loc), ms_W G A s H1 locs1 (ws.set q0 (a, .inl (G.2.1 0, n, .inl (upd f i.toNatClampNeg (vp_nar .char x))))) → W p l e R s m args below meth c H1 locs1 cells slots Q (F0 m (pc + 1) ls rest)) : W p l e R s m args below meth c H locs cells slots Q (F0 m pc ls (.int x :: .int i :: .ref a :: rest)) :=
  va_cast hX.1.1 hX.1.2.1 hX.2.2.2.1 hW.1 hW.2.1 hW.2.2 q0 0 ha rfl hin hdg (fun H1 l1 h1 h2 h3 => kk H1 l1 ⟨h1, h2, h3⟩)
theorem ms_zast (hX : ms_CX p s m args meth c cc nL own rt G A) (hW : ms_W G A s H locs ws) (q0 : Nat) {n : Nat} {f : Nat → Int32} (ha : ws[q0]? = some (a, .inl (G.2.1 3, n, .inl f))) {i x : Int32} (hin : vp_in i n) (hdg : decode cc pc = .ok (.bastore, 1))
    (kk : ∀ (H1 : Heap) (locs1 : List Loc), ms_W G A s H1 locs1 (ws.set q0 (a, .inl (G.2.1 3, n, .inl (upd f i.toNatClampNeg (vp_nar .boolean x))))) → W p l e R s m args below meth c H1 locs1 cells slots Q (F0 m (pc + 1) ls rest)) : W p l e R s m args below meth c H locs cells slots Q (F0 m pc ls (.int x :: .int i :: .ref a :: rest)) :=
  va_zast hX.1.1 hX.1.2.1 hX.2.2.2.1 hW.1 hW.2.1 hW.2.2 q0 3 ha rfl hin hdg (fun H1 l1 h1 h2 h3 => kk H1 l1 ⟨h1, h2, h3⟩)
theorem ms_last (hX : ms_CX p s m args meth c cc nL own rt G A) (hW : ms_W G A s H locs ws) (q0 : Nat) {n : Nat} {f : Nat → Int64} (ha : ws[q0]? = some (a, .inl (G.2.1 2, n, .inr (.inl f)))) {i : Int32} {x : Int64} (hin : vp_in i n) (hdg : decode cc pc = .ok (.lastore, 1))
    (kk : ∀ (H1 : Heap) (locs1 : List Loc), ms_W G A s H1 locs1 (ws.set q0 (a, .inl (G.2.1 2, n, .inr (.inl (vp_updL f i.toNatClampNeg x))))) → W p l e R s m args below meth c H1 locs1 cells slots Q (F0 m (pc + 1) ls rest)) : W p l e R s m args below meth c H locs cells slots Q (F0 m pc ls (.long x :: .int i :: .ref a :: rest)) :=
  va_last hX.1.1 hX.1.2.1 hX.2.2.2.1 hW.1 hW.2.1 hW.2.2 q0 2 ha rfl hin hdg (fun H1 l1 h1 h2 h3 => kk H1 l1 ⟨h1, h2, h3⟩)
/-- a String constant is loaded -/
theorem ms_ldcS (hX : ms_CX p s m args meth c cc nL own rt G A) {index : Nat} {tx : String} {i : Nat} (hm : (own, index, tx, i) ∈ ms_refs) (hdg : decode cc pc = .ok (.ldc index, 2))
    (kk : W p l e R s m args below meth c H locs cells slots Q (F0 m (pc + 2) ls (.ref (G.2.2.1 i) :: rest))) : W p l e R s m args below meth c H locs cells slots Q (F0 m pc ls rest) :=
  va_ldcS hX.1.1 hX.1.2.1 hX.1.2.2.2.1 (hX.2.2.2.2.2.2.2.1 _ hm) hdg kk
/-- ends -/
theorem ms_qend {w' : va_W} {r : Option Value} (hW : ms_W G A s H locs w') : ∀ t : State, t.heap = H → s.WarmedH t.vm → (fun (_ : Array Value) (st : State) (oc : Outcome) (t : State) => (oc = .returned r ∧ va_P G.1 vwCl w' t.heap) ∧ va_F A st t) args s (.returned r) t :=
  fun t ht _ => ⟨⟨rfl, by rw [ht]; exact hW.1⟩, hW.2.2.F ht⟩
theorem ms_iret (hX : ms_CX p s m args meth c cc nL own (some .int) G A) {w' : va_W} {v : Int32} (hW : ms_W G A s H locs w') (hdg : decode cc pc = .ok (.ireturn, 1)) : W p l e R s m args below meth c H locs 0 0 (ms_Q G A below args s w' (some (.int v))) (F0 m pc ls [.int v]) :=
  W.iret hX.1.1 hX.1.2.1 hX.2.1 (ms_qend (args := args) hW) hW.2.2.2.2 hdg hX.2.2.1
theorem ms_zret {ty : FieldType} (hX : ms_CX p s m args meth c cc nL own (some ty) G A) {w' : va_W} {v : Int32} (hn : narrow ty (.int v) = .int v) (hW : ms_W G A s H locs w') (hdg : decode cc pc = .ok (.ireturn, 1)) : W p l e R s m args below meth c H locs 0 0 (ms_Q G A below args s w' (some (.int v))) (F0 m pc ls [.int v]) :=
  W.zret hX.1.1 hX.1.2.1 hX.2.1 hn (ms_qend (args := args) hW) hW.2.2.2.2 hdg hX.2.2.1
theorem ms_lret (hX : ms_CX p s m args meth c cc nL own (some .long) G A) {w' : va_W} {v : Int64} (hW : ms_W G A s H locs w') (hdg : decode cc pc = .ok (.lreturn, 1)) : W p l e R s m args below meth c H locs 0 0 (ms_Q G A below args s w' (some (.long v))) (F0 m pc ls [.long v]) :=
  W.lret hX.1.1 hX.1.2.1 hX.2.1 (ms_qend (args := args) hW) hW.2.2.2.2 hdg hX.2.2.1
theorem ms_vret (hX : ms_CX p s m args meth c cc nL own none G A) {w' : va_W} (hW : ms_W G A s H locs w') (hdg : decode cc pc = .ok (.return_, 1)) : W p l e R s m args below meth c H locs 0 0 (ms_Q G A below args s w' none) (F0 m pc ls []) :=
  W.vret hX.1.1 hX.1.2.1 hX.2.1 (ms_qend (args := args) hW) hW.2.2.2.2 hdg hX.2.2.1
theorem ms_aret {C : String} (hX : ms_CX p s m args meth c cc nL own (some (.object C)) G A) {w' : va_W} {v : Nat} (hW : ms_W G A s H locs w') (hdg : decode cc pc = .ok (.areturn, 1)) : W p l e R s m args below meth c H locs 0 0 (ms_Q G A below args s w' (some (.ref v))) (F0 m pc ls [.ref v]) :=
  W.aret hX.1.1 hX.1.2.1 hX.2.1 (Or.inl ⟨_, rfl⟩) (Or.inr ⟨_, rfl⟩) (ms_qend (args := args) hW) hW.2.2.2.2 hdg hX.2.2.1
/-- the words of a call, in the tables -/
def ms_wM (y : MethodName) (bytes : ByteArray) (maxL : Nat) (r : Option FieldType) (n : Nat) : Prop := Cond.code y bytes maxL r ∈ ms_tbl ∧ Cond.initialized y.cls ∈ ms_tbl ∧ (y.cls ≠ "java/lang/invoke/MethodHandle" ∧ y.cls ≠ "java/lang/invoke/VarHandle" ∧ (parseMethodDescriptor y.desc).map (fun d => d.parameters.length) = some n)
def ms_wV (own : String) (index : Nat) (C : String) (y : MethodName) : Prop := Cond.methodLink own index y ∈ ms_tbl ∧ Cond.instanceMethod y ∈ ms_tbl ∧ Cond.selects C y y ∈ ms_tbl
def ms_wS (own : String) (index : Nat) (y : MethodName) : Prop := Cond.methodLink own index y ∈ ms_tbl ∧ Cond.static y ∈ ms_tbl
theorem ms_run {y : MethodName} {bytes : ByteArray} {maxL : Nat} {r0 : Option FieldType} {rm : Room} {As : List Value} {w w' : va_W} {r : Option Value} {st : List Value} (hX : ms_CX p s m args meth c cc nL own rt G A) (hW : ms_W G A s H locs ws) (is : List Nat) (h1 : is.map (fun i => ws[i]?) = w.map some) (hn : va_nd is = true) (hadr : w'.map Prod.fst = w.map Prod.fst)
    (hr : va_Run p l e R s m args below meth c H locs cells slots 0 0 (F0 m pc ls st) rest ((fun _ st oc t => (oc = .returned r ∧ va_P G.1 vwCl w' t.heap) ∧ va_F (va_A w H.size) st t : Array Value → State → Outcome → State → Prop) As.toArray) (va_A w H.size))
    (kk : ∀ (H1 : Heap) (locs1 : List Loc), ms_W G A s H1 locs1 (ms_upd ws is w') → W p l e R s m args below meth c H1 locs1 cells slots Q (F0 m (pc + 3) ls (r.toList ++ rest))) : W p l e R s m args below meth c H locs cells slots Q (F0 m pc ls st) := by
  intro T hT X
  obtain ⟨hP, hD, hS⟩ := hW
  have hfree := va_free hD hS hX.2.2.2.2.1 is h1
  obtain ⟨v, st₀, t, T', L, h0, X', hL, e1, e2, ⟨⟨hv, hP1⟩, hz, hk⟩, st⟩ := hr T hT X
  have hvr : v = r := by cases hv; rfl
  subst hvr
  rw [h0] at hz hk
  rw [← e1] at hz hk hP1
  obtain ⟨j1, j2⟩ := ms_join hP hD is h1 hn hadr hk hP1
  obtain ⟨t2, a1, b1⟩ := kk T'.heap (locs ++ L) ⟨j1, j2, Nat.le_trans hS.1 hz, fun q g1 g2 => by rw [hk q (Nat.lt_of_lt_of_le g1 hS.1) (fun z => g2 (hfree q z))]; exact hS.2.1 q g1 g2, fun q hq => by
      rcases List.mem_append.mp hq with h | h
      · exact hS.2.2 q h
      · exact hfree _ (hL q h)⟩ T' rfl X'
  exact ⟨t2, st t2 a1, b1⟩
theorem ms_pre {w : va_W} {As : List Value} (hX : ms_CX p s m args meth c cc nL own rt G A) (hW : ms_W G A s H locs ws) (is : List Nat) (h1 : is.map (fun i => ws[i]?) = w.map some) (hn : va_nd is = true) : PreS s H (va_Pc As (fun U => U.heap.size = H.size ∧ va_P G.1 vwCl w U.heap ∧ va_K G.1 vwCl (tyG G) U ∧ va_D (fun _ => True) w ∧ ms_STR G (va_A w H.size) U U.heap)) As := by
  refine ⟨fun a U g mk q => ?_, fun U hU hw => ⟨rfl, by rw [hU], ?_, va_K.moved hw.alike hX.2.2.2.1, ?_, ?_⟩⟩
  · obtain ⟨q0, q1, q2, q3, q4, q5⟩ := q
    exact ⟨q0, q1, q2, va_K.moved (u := U) (U := U.calling g mk a) (Vm.Alike.refl U.vm) q3, q4, q5.blind⟩
  · rw [hU]
    intro k q hq
    obtain ⟨i, -, h3⟩ := ms_map_at (β := Nat) h1 hq
    exact hW.1 i q h3
  · exact (hW.2.1.sub is hn h1).weaken (fun _ _ _ _ => trivial)
  · rw [hU]
    exact hX.2.2.2.2.2.at hw (fun a g1 g2 => hW.2.2.2.1 a g1 g2) (va_free hW.2.1 hW.2.2 hX.2.2.2.2.1 is h1)
/-- a call of a method of an object of the world; the receiver is the callee's first cell -/
theorem ms_callV {y : MethodName} {bytes : ByteArray} {maxL : Nat} {r0 : Option FieldType} {rm : Room} {As : List Value} {w w' : va_W} {r : Option Value} {st fs : List Value} {b index n ci : Nat} {C : String} {T : u_T} {N : Nat}
    (hF : ms_Fn l G y bytes maxL r0 rm (.ref b :: As) w w' r) (hw : ms_wM y bytes maxL r0 n) (hv : ms_wV own index C y) (hX : ms_CX p s m args meth c cc nL own rt G A) (hW : ms_W G A s H locs ws) (is : List Nat) (h1 : is.map (fun i => ws[i]?) = w.map some) (hn : va_nd is = true) (hadr : w'.map Prod.fst = w.map Prod.fst)
    (hrec : w[0]? = some (b, .inr (ci, fs))) (hcl : vwCl[ci]? = some (C, T, N)) (hR : rm.frames + 1 ≤ R.frames ∧ 8 + (maxL + 11) + rm.locals ≤ R.locals ∧ rm.cells = 0 ∧ rm.slots = 0 ∧ cells ≤ R.cells ∧ slots ≤ R.slots) (hlen : As.length = n) (hl : ls.size = nL) (rest : List Value) (hst : st = As.reverse ++ .ref b :: rest) (hsum : (rest.map fun v => v.category).sum ≤ 8) (hdg : decode cc pc = .ok (.invokevirtual index, 3))
    (kk : ∀ (H1 : Heap) (locs1 : List Loc), ms_W G A s H1 locs1 (ms_upd ws is w') → W p l e R s m args below meth c H1 locs1 cells slots Q (F0 m (pc + 3) ls (r.toList ++ rest))) : W p l e R s m args below meth c H locs cells slots Q (F0 m pc ls st) := by
  have hts := hX.1.2.2.2.2
  have hpre := ms_pre (As := .ref b :: As) hX hW is h1 hn
  have hPw : va_P G.1 vwCl w H := fun k q hq => by
    obtain ⟨i, -, h3⟩ := ms_map_at (β := Nat) h1 hq
    exact hW.1 i q h3
  exact ms_run (As := .ref b :: As) (r0 := r0) (rm := rm) (maxL := maxL) (bytes := bytes) (y := y) hX hW is h1 hn hadr (va_runV (As := As) (rest := rest) hX.1 (hF H.size) ⟨callB_of n hts (wU_good hw.1) rfl hR.2.2.1 hR.2.2.2.1 (hts _ hw.2.1) (hts _ hv.1) hw.2.2 ⟨hR.1, hR.2.1⟩, hts _ hv.2.1, hts _ hv.2.2⟩ ⟨hpre.1, va_recv hX.2.2.2.1 hPw hcl hrec, hpre.2⟩ rfl hlen hl hst (lv_room hsum) hdg ⟨hR.2.2.2.2.1, hR.2.2.2.2.2⟩) kk
theorem ms_callS {y : MethodName} {bytes : ByteArray} {maxL : Nat} {r0 : Option FieldType} {rm : Room} {As : List Value} {w w' : va_W} {r : Option Value} {st : List Value} {index n : Nat}
    (hF : ms_Fn l G y bytes maxL r0 rm As w w' r) (hw : ms_wM y bytes maxL r0 n) (hv : ms_wS own index y) (hX : ms_CX p s m args meth c cc nL own rt G A) (hW : ms_W G A s H locs ws) (is : List Nat) (h1 : is.map (fun i => ws[i]?) = w.map some) (hn : va_nd is = true) (hadr : w'.map Prod.fst = w.map Prod.fst)
    (hR : rm.frames + 1 ≤ R.frames ∧ 8 + (maxL + 11) + rm.locals ≤ R.locals ∧ rm.cells = 0 ∧ rm.slots = 0 ∧ cells ≤ R.cells ∧ slots ≤ R.slots) (hlen : As.length = n) (hl : ls.size = nL) (rest : List Value) (hst : st = As.reverse ++ rest) (hsum : (rest.map fun v => v.category).sum ≤ 8) (hdg : decode cc pc = .ok (.invokestatic index, 3))
    (kk : ∀ (H1 : Heap) (locs1 : List Loc), ms_W G A s H1 locs1 (ms_upd ws is w') → W p l e R s m args below meth c H1 locs1 cells slots Q (F0 m (pc + 3) ls (r.toList ++ rest))) : W p l e R s m args below meth c H locs cells slots Q (F0 m pc ls st) := by
  have hts := hX.1.2.2.2.2
  exact ms_run (As := As) (r0 := r0) (rm := rm) (maxL := maxL) (bytes := bytes) (y := y) hX hW is h1 hn hadr (va_runS (As := As) (rest := rest) hX.1 (hF H.size) ⟨callB_of n hts (wU_good hw.1) rfl hR.2.2.1 hR.2.2.2.1 (hts _ hw.2.1) (hts _ hv.1) hw.2.2 ⟨hR.1, hR.2.1⟩, hts _ hv.2⟩ (ms_pre hX hW is h1 hn) rfl hlen hl hst (lv_room hsum) hdg ⟨hR.2.2.2.2.1, hR.2.2.2.2.2⟩) kk
/-- a call of a private static method of the nest's host -/
theorem ms_callN {y : MethodName} {bytes : ByteArray} {maxL : Nat} {r0 : Option FieldType} {rm : Room} {As : List Value} {w w' : va_W} {r : Option Value} {st : List Value} {index n : Nat} {host : String}
    (hF : ms_Fn l G y bytes maxL r0 rm As w w' r) (hw : ms_wM y bytes maxL r0 n) (hm : (own, index, y, host) ∈ ms_nst) (hsc : Cond.static y ∈ ms_tbl) (hX : ms_CX p s m args meth c cc nL own rt G A) (hW : ms_W G A s H locs ws) (is : List Nat) (h1 : is.map (fun i => ws[i]?) = w.map some) (hn : va_nd is = true) (hadr : w'.map Prod.fst = w.map Prod.fst)
    (hR : rm.frames + 1 ≤ R.frames ∧ 8 + (maxL + 11) + rm.locals ≤ R.locals ∧ rm.cells = 0 ∧ rm.slots = 0 ∧ cells ≤ R.cells ∧ slots ≤ R.slots) (hlen : As.length = n) (hl : ls.size = nL) (rest : List Value) (hst : st = As.reverse ++ rest) (hsum : (rest.map fun v => v.category).sum ≤ 8) (hdg : decode cc pc = .ok (.invokestatic index, 3))
    (kk : ∀ (H1 : Heap) (locs1 : List Loc), ms_W G A s H1 locs1 (ms_upd ws is w') → W p l e R s m args below meth c H1 locs1 cells slots Q (F0 m (pc + 3) ls (r.toList ++ rest))) : W p l e R s m args below meth c H locs cells slots Q (F0 m pc ls st) := by
  have hts := hX.1.2.2.2.2
  exact ms_run (As := As) (r0 := r0) (rm := rm) (maxL := maxL) (bytes := bytes) (y := y) hX hW is h1 hn hadr (va_runSN (As := As) (rest := rest) hX.1 (hF H.size) ⟨va_cnB n hts (wU_good hw.1) rfl hR.2.2.1 hR.2.2.2.1 (hX.2.2.2.2.2.2.2.2.1 _ hm) (hts _ hw.2.1) hw.2.2 ⟨hR.1, hR.2.1⟩, hts _ hsc, trivial⟩ (ms_pre hX hW is h1 hn) rfl hlen hl hst (lv_room hsum) hdg ⟨hR.2.2.2.2.1, hR.2.2.2.2.2⟩) kk
/-- a call of a method of a String constant -/
theorem ms_callK {y : MethodName} {bytes : ByteArray} {maxL : Nat} {r0 : Option FieldType} {rm : Room} {As : List Value} {r : Option Value} {st : List Value} {i index n : Nat}
    (hF : ms_Fn l G y bytes maxL r0 rm (.ref (G.2.2.1 i) :: As) [] [] r) (hi : i < 14) (hw : ms_wM y bytes maxL r0 n) (hv : ms_wV own index "java/lang/String" y) (hX : ms_CX p s m args meth c cc nL own rt G A) (hW : ms_W G A s H locs ws)
    (hR : rm.frames + 1 ≤ R.frames ∧ 8 + (maxL + 11) + rm.locals ≤ R.locals ∧ rm.cells = 0 ∧ rm.slots = 0 ∧ cells ≤ R.cells ∧ slots ≤ R.slots) (hlen : As.length = n) (hl : ls.size = nL) (rest : List Value) (hst : st = As.reverse ++ .ref (G.2.2.1 i) :: rest) (hsum : (rest.map fun v => v.category).sum ≤ 8) (hdg : decode cc pc = .ok (.invokevirtual index, 3))
    (kk : ∀ (H1 : Heap) (locs1 : List Loc), ms_W G A s H1 locs1 ws → W p l e R s m args below meth c H1 locs1 cells slots Q (F0 m (pc + 3) ls (r.toList ++ rest))) : W p l e R s m args below meth c H locs cells slots Q (F0 m pc ls st) := by
  have hts := hX.1.2.2.2.2
  have hpre := ms_pre (As := .ref (G.2.2.1 i) :: As) (w := []) hX hW [] rfl rfl
  exact ms_run (As := .ref (G.2.2.1 i) :: As) (w := []) (w' := []) (r0 := r0) (rm := rm) (maxL := maxL) (bytes := bytes) (y := y) hX hW [] rfl rfl rfl (va_runV (As := As) (rest := rest) hX.1 (hF H.size) ⟨callB_of n hts (wU_good hw.1) rfl hR.2.2.1 hR.2.2.2.1 (hts _ hw.2.1) (hts _ hv.1) hw.2.2 ⟨hR.1, hR.2.1⟩, hts _ hv.2.1, hts _ hv.2.2⟩ ⟨hpre.1, vk_recv hX.2.2.2.2.2.1 hi hW.2.2, hpre.2⟩ rfl hlen hl hst (lv_room hsum) hdg ⟨hR.2.2.2.2.1, hR.2.2.2.2.2⟩) kk
end MS1
