/-! constructors: contracts of methods that make cells; the new addresses are u 0, u 1 .. -/
def ms_Cn (l : Launch) (G : Gc) (y : MethodName) (b : ByteArray) (n : Nat) (rm : Room) (As : List Value) (w : va_W) (mc ms : Nat) (w' : (Nat → Nat) → va_W) : Prop :=
  ∀ sz : Nat, Met l y (wU y b n none) rm (va_Pc As (fun U => U.heap.size = sz ∧ va_P G.1 vwCl w U.heap ∧ va_K G.1 vwCl (tyG G) U ∧ va_D (fun _ => True) w ∧ ms_STR G (va_A w sz) U U.heap)) (fun _ st oc t => (oc = .returned none ∧ ∃ u : Nat → Nat, va_P G.1 vwCl (w' u) t.heap ∧ va_D (va_A w sz) (w' u)) ∧ va_F (va_A w sz) st t) mc ms (va_A w sz)
def ms_QC (G : Gc) (A : Nat → Prop) (below : List Frame) (args : Array Value) (s : State) (mc ms : Nat) (w' : (Nat → Nat) → va_W) : State → Prop := MQ below (fun _ st oc t => (oc = .returned none ∧ ∃ u : Nat → Nat, va_P G.1 vwCl (w' u) t.heap ∧ va_D A (w' u)) ∧ va_F A st t) args s mc ms A
theorem ms_cstart {l : Launch} {G : Gc} {y : MethodName} {b : ByteArray} {n : Nat} {rm : Room} {As : List Value} {w : va_W} {mc ms : Nat} {w' : (Nat → Nat) → va_W} (own : String) (hy : plainName y.cls = true) (ho : y.cls = own) (hi : y.name = "<init>") (hlen : (lg_sl As).length ≤ n)
    (body : ∀ (p : Program) (e : Env) (s : State) (m : MethodId) (below : List Frame) (meth : Method) (c : Code) (A : Nat → Prop) (ls : Array Slot), meth.name = "<init>" → ms_CX p s m As.toArray meth c b n own none G A → ms_W G A s s.heap [] w → lv_has ls n (lv_args 0 As) → W p l e rm s m As.toArray below meth c s.heap [] 0 0 (ms_QC G A below As.toArray s mc ms w') (F0 m 0 ls [])) : ms_Cn l G y b n rm As w mc ms w' := by
  intro sz
  refine Met.ofW (cc := b) (maxL := n) (ret := none) hy rfl ?_
  intro p e s m args below meth c s₁ B hml hv
  obtain ⟨rfl, hsz, hP, hK, hD0, hst⟩ := hv
  subst hsz
  have hts := atoms_spec (ws := wU y b n none) B.pre
  have hown : s.vm.findClass y.cls = some m.cls := findClass_of_methodNamed B.named
  have hin : meth.name = y.name := (name_of_methodNamed B.named B.method).1
  rw [ho] at hown
  rw [hi] at hin
  have hl := lv_entry As (n := n) hlen
  rw [lg_entry_eq]
  exact body p e s m below meth c _ _ hin ⟨⟨B.exec, B.bytes, hml, hown, fun w hw => hts w (List.mem_cons_of_mem _ hw)⟩, B.returns, B.notSynchronized, hK, fun q h => Or.inr h, hst⟩ ⟨hP, hD0.self, va_S.rf⟩ hl
section MS2
variable {p : Program} {l : Launch} {e : Env} {R : Room} {s : State} {m : MethodId} {args : Array Value} {below : List Frame} {meth : Method} {c : Code} {H : Heap} {locs : List Loc} {cells slots : Nat} {Q : State → Prop}
variable {cc : ByteArray} {nL pc : Nat} {own : String} {rt : Option FieldType} {G : Gc} {A : Nat → Prop} {ls : Array Slot} {rest : List Value} {ws : va_W} {a : Nat}
theorem ms_cret (hX : ms_CX p s m args meth c cc nL own none G A) {w' : (Nat → Nat) → va_W} (u : Nat → Nat) (hW : ms_W G A s H locs (w' u)) (hdg : decode cc pc = .ok (.return_, 1)) : W p l e R s m args below meth c H locs cells slots (ms_QC G A below args s cells slots w') (F0 m pc ls []) :=
  W.vret hX.1.1 hX.1.2.1 hX.2.1 (fun t ht _ => ⟨⟨rfl, u, by rw [ht]; exact hW.1, hW.2.1⟩, hW.2.2.F ht⟩) hW.2.2.2.2 hdg hX.2.2.1
theorem ms_oinit {idx : Nat} (hX : ms_CX p s m args meth c cc nL own rt G A) (h1 : Cond.methodLink own idx Lib.objectInit ∈ ms_tbl) (h2 : Cond.instanceMethod Lib.objectInit ∈ ms_tbl) (h3 : Cond.code Lib.objectInit ⟨#[0xb1]⟩ 1 none ∈ ms_tbl) (hl : ls.size = nL) (hd : decode cc pc = .ok (.invokespecial idx, 3)) (hR : 1 ≤ R.frames ∧ 12 ≤ R.locals)
    (kk : W p l e R s m args below meth c H locs cells slots Q (F0 m (pc + 3) ls [])) : W p l e R s m args below meth c H locs cells slots Q (F0 m pc ls [.ref a]) :=
  W.objInit hX.1.1 hX.1.2.1 hX.1.2.2.2.1 (hX.1.2.2.2.2 _ h1) (hX.1.2.2.2.2 _ h2) (hX.1.2.2.2.2 _ h3) rfl (hl.trans hX.1.2.2.1.symm) rfl hd hR.1 (Nat.le_trans (Nat.le_of_ble_eq_true rfl) hR.2) kk
theorem ms_new {C : String} {T : u_T} {N ci index : Nat} {fs : List Value} {ty : Nat → FieldType} (hX : ms_CX p s m args meth c cc nL own rt G A) (hW : ms_W G A s H locs ws) (huw : ∀ w ∈ u_ws C T N, w ∈ ms_tbl) (hty : ∀ k, k < N → parseFieldDescriptor (T k).2.2.1 = some (ty k)) (h1 : Cond.classLink own index C ∈ ms_tbl) (h2 : Cond.instantiable C N ∈ ms_tbl) (h3 : Cond.initialized C ∈ ms_tbl) (hc : vwCl[ci]? = some (C, T, N)) (hfs : ∀ j, j < N → defaultValue (ty j) = vp_V fs j) {k n : Nat} (hk : cells + 1 = k) (hn : slots + N = n) (hR : k ≤ R.cells ∧ n ≤ R.slots) (hdg : decode cc pc = .ok (.new index, 3))
    (kk : ∀ (q : Nat) (H1 : Heap), ms_W G A s H1 locs (ws ++ [(q, .inr (ci, fs))]) → W p l e R s m args below meth c H1 locs k n Q (F0 m (pc + 3) ls (.ref q :: rest))) : W p l e R s m args below meth c H locs cells slots Q (F0 m pc ls rest) := by
  subst hk; subst hn
  exact va_new (D := G.1) hX.1.1 hX.1.2.1 hX.1.2.2.2.2 huw ty hty hX.1.2.2.2.1 (hX.1.2.2.2.2 _ h1) (hX.1.2.2.2.2 _ h2) (hX.1.2.2.2.2 _ h3) hX.2.2.2.1 hW.1 hW.2.1 hW.2.2 hX.2.2.2.2.1 hc hfs hR.1 hR.2 hdg (fun q H1 h1 h2 h3 => kk q H1 ⟨h1, h2, h3⟩)
theorem ms_newa {atype : ArrayType} {ty : FieldType} {te : Nat} {cE : ClassId} (hX : ms_CX p s m args meth c cc nL own rt G A) (hW : ms_W G A s H locs ws) (h1 : Cond.arrayClass (newarray.typeOf atype) ∈ ms_tbl) (hty : newarray.typeOf atype = ty) (hte : (tyG G)[te]? = some (cE, ty)) (huni : ∀ cA : ClassId, va_RA s cA ty → va_RA s cE ty → cA = cE)
    {n : Int32} {N' : Nat} {a0 : vp_A} (ha : ∀ cA : ClassId, vp_cell cA a0 = arrV cA N' (fun _ => defaultValue ty)) (hn : ¬ n < 0) (hN : n.toNatClampNeg = N') (hbytes : N' * componentBytes ty ≤ 536870912) {k k2 : Nat} (hk : cells + 1 = k) (hn2 : slots + N' = k2) (hR : k ≤ R.cells ∧ k2 ≤ R.slots) (hdg : decode cc pc = .ok (.newarray atype, 2))
    (kk : ∀ (q : Nat) (H1 : Heap), ms_W G A s H1 locs (ws ++ [(q, .inl (cE, a0))]) → W p l e R s m args below meth c H1 locs k k2 Q (F0 m (pc + 2) ls (.ref q :: rest))) : W p l e R s m args below meth c H locs cells slots Q (F0 m pc ls (.int n :: rest)) := by
  subst hk; subst hn2
  refine va_newa (D := G.1) hX.1.1 hX.1.2.1 (hX.1.2.2.2.2 _ h1) hty hX.2.2.2.1 hW.1 hW.2.1 hW.2.2 hX.2.2.2.2.1 ha hn hN hbytes hR.1 hR.2 hdg (fun q cA H1 hK1 hP1 hD1 hS1 => ?_)
  have e1 : cA = cE := huni cA (hK1.2 (tyG G).length (cA, ty) (by simp)).2 (hX.2.2.2.1.2 te _ hte).2
  subst e1
  exact kk q H1 ⟨hP1, hD1, hS1⟩
theorem ms_uniI {s : State} {c1 c2 : ClassId} (h1 : va_RA s c1 .int) (h2 : va_RA s c2 .int) : c1 = c2 := Option.some.inj (Eq.trans (Eq.symm (show s.vm.findClass _ = some c1 from h1)) h2)
theorem ms_uniC {s : State} {c1 c2 : ClassId} (h1 : va_RA s c1 .char) (h2 : va_RA s c2 .char) : c1 = c2 := Option.some.inj (Eq.trans (Eq.symm (show s.vm.findClass _ = some c1 from h1)) h2)
theorem ms_uniJ {s : State} {c1 c2 : ClassId} (h1 : va_RA s c1 .long) (h2 : va_RA s c2 .long) : c1 = c2 := Option.some.inj (Eq.trans (Eq.symm (show s.vm.findClass _ = some c1 from h1)) h2)
theorem ms_uniZ {s : State} {c1 c2 : ClassId} (h1 : va_RA s c1 .boolean) (h2 : va_RA s c2 .boolean) : c1 = c2 := Option.some.inj (Eq.trans (Eq.symm (show s.vm.findClass _ = some c1 from h1)) h2)
theorem ms_putF {index ci N k : Nat} {C : String} {T : u_T} {ty0 : Nat → FieldType} {ty : FieldType} (F : ms_wF own index ci C T N k) (P : ms_wP T ty0 N k ty) (hfin : (T k).2.2.2 = true) (hin : meth.name = "<init>") (hdecl : (T k).1 = own) (hX : ms_CX p s m args meth c cc nL own rt G A) (hW : ms_W G A s H locs ws) (q0 : Nat) {fs : List Value} {v : Value} (he : ws[q0]? = some (a, .inr (ci, fs))) (hn : narrow ty v = v) (hfit : fits ty v = true) (hl : k < fs.length) (hdg : decode cc pc = .ok (.putfield index, 3))
    (kk : ∀ (H1 : Heap) (locs1 : List Loc), ms_W G A s H1 locs1 (ws.set q0 (a, .inr (ci, fs.set k v))) → W p l e R s m args below meth c H1 locs1 cells slots Q (F0 m (pc + 3) ls rest)) : W p l e R s m args below meth c H locs cells slots Q (F0 m pc ls (v :: .ref a :: rest)) :=
  va_putF (D := G.1) hX.1.1 hX.1.2.1 hX.1.2.2.2.2 F.2.2.1 ty0 P.1 P.2.1 hX.1.2.2.2.1 hX.2.2.2.1 hW.1 hW.2.1 hW.2.2 q0 he F.1 k F.2.1 (hX.1.2.2.2.2 _ F.2.2.2) (fun _ h => h) hfin hin hdecl P.2.2 hn hfit hl hdg (fun H1 l1 h1 h2 h3 => kk H1 l1 ⟨h1, h2, h3⟩)
/-- a constructor's call: the object is the callee's one cell; what comes back stands behind the rest -/
theorem ms_callI {y : MethodName} {bytes : ByteArray} {maxL : Nat} {rm : Room} {As : List Value} {w wr : va_W} {w' : (Nat → Nat) → va_W} {st : List Value} {b index n mc ms : Nat}
    (hF : ms_Cn l G y bytes maxL rm (.ref b :: As) w mc ms w') (hw : ms_wM y bytes maxL none n) (h1l : Cond.methodLink own index y ∈ ms_tbl) (h2l : Cond.instanceMethod y ∈ ms_tbl) (hnm : y.name = "<init>") (hX : ms_CX p s m args meth c cc nL own rt G A) (hW : ms_W G A s H locs ws) (is isR : List Nat) (h1 : is.map (fun i => ws[i]?) = w.map some) (h2 : isR.map (fun i => ws[i]?) = wr.map some) (hn : va_nd is = true) (hnR : va_nd isR = true) (hdis : ∀ i ∈ isR, i ∉ is)
    {k k2 : Nat} (hk : cells + mc = k) (hk2 : slots + ms = k2) (hR : rm.frames + 1 ≤ R.frames ∧ 8 + (maxL + 11) + rm.locals ≤ R.locals ∧ rm.cells = mc ∧ rm.slots = ms ∧ k ≤ R.cells ∧ k2 ≤ R.slots) (hlen : As.length = n) (hl : ls.size = nL) (rest : List Value) (hst : st = As.reverse ++ .ref b :: rest) (hsum : (rest.map fun v => v.category).sum ≤ 8) (hdg : decode cc pc = .ok (.invokespecial index, 3))
    (kk : ∀ (u : Nat → Nat) (H1 : Heap) (locs1 : List Loc), ms_W G A s H1 locs1 (wr ++ w' u) → W p l e R s m args below meth c H1 locs1 k k2 Q (F0 m (pc + 3) ls rest)) : W p l e R s m args below meth c H locs cells slots Q (F0 m pc ls st) := by
  subst hk; subst hk2
  have hts := hX.1.2.2.2.2
  have hpre := ms_pre (As := .ref b :: As) hX hW is h1 hn
  have hr := va_runI (R := R) (e := e) (below := below) (meth := meth) (locs := locs) (cells := cells) (slots := slots) (g := F0 m pc ls st) (As := As) (rest := rest) hX.1 (hF H.size) ⟨callB_of n hts (wU_good hw.1) rfl hR.2.2.1 hR.2.2.2.1 (hts _ hw.2.1) (hts _ h1l) hw.2.2 ⟨hR.1, hR.2.1⟩, hnm, hts _ h2l⟩ hpre rfl hlen hl hst (lv_room hsum) hdg ⟨hR.2.2.2.2.1, hR.2.2.2.2.2⟩
  intro T hT X
  obtain ⟨hP, hD, hS⟩ := hW
  have hfree := va_free hD hS hX.2.2.2.2.1 is h1
  obtain ⟨v, st₀, t, T', L, h0, X', hL, e1, e2, ⟨⟨hv, u, hP1, hD1⟩, hz, hkk⟩, st⟩ := hr T hT X
  have hvr : v = none := by cases hv; rfl
  subst hvr
  rw [h0] at hz hkk
  rw [← e1] at hz hkk hP1
  obtain ⟨j1, j2⟩ := va_join hP hD is isR h1 h2 hnR hdis hkk hfree hP1 hD1
  obtain ⟨t2, a1, b1⟩ := kk u T'.heap (locs ++ L) ⟨j1, j2, Nat.le_trans hS.1 hz, fun q g1 g2 => by rw [hkk q (Nat.lt_of_lt_of_le g1 hS.1) (fun z => g2 (hfree q z))]; exact hS.2.1 q g1 g2, fun q hq => by
      rcases List.mem_append.mp hq with h | h
      · exact hS.2.2 q h
      · exact hfree _ (hL q h)⟩ T' rfl X'
  exact ⟨t2, st t2 a1, b1⟩
end MS2
