def rm_X7_kindOf : Room := { frames := 1, cells := 0, slots := 0, locals := 21 }
def f_X7_kindOf (x_count : Int32) (x_codes : Nat → Int32) (v1 : Int32) : Option (Int32) := (f_X7_hasNode x_count v1).bind (fun q2 => (if q2 = 0 then some 0 else ms_gi v1 200 (some ((x_codes v1.toNatClampNeg) &&& (3 : Int32)))))
set_option maxHeartbeats 4000000 in
set_option maxRecDepth 100000 in
theorem fn_X7_kindOf (l : Launch) (G : Gc) (a_this : Nat) (a_codes : Nat) (a_begins : Nat) (a_ends : Nat) (a_characters : Nat) (a_attributeLetters : Nat) (a_valueBegins : Nat) (a_valueEnds : Nat) (a_values : Nat) (x_count : Int32) (x_attributeCount : Int32) (x_codes : Nat → Int32) (v1 : Int32)  {o : Int32} (h : f_X7_kindOf x_count x_codes v1 = some o) : ms_Fn l G yX7_kindOf cX7_kindOf 2 (some .int) rm_X7_kindOf [.ref a_this, .int v1] [ob_X7 a_this a_codes a_begins a_ends x_count a_characters a_attributeLetters a_valueBegins a_valueEnds x_attributeCount a_values, (a_codes, .inl (G.2.1 1, 200, .inl x_codes))] [ob_X7 a_this a_codes a_begins a_ends x_count a_characters a_attributeLetters a_valueBegins a_valueEnds x_attributeCount a_values, (a_codes, .inl (G.2.1 1, 200, .inl x_codes))] (some (.int o)) := by
  refine ms_start RX7 (by decide +kernel) rfl (Nat.le_of_ble_eq_true rfl) (fun p e s m below meth c A ls hX hW hl => ?_)
  have hx := hX.1.1
  have hb := hX.1.2.1
  have hl : lv_has ls 2 [(0, .ref a_this), (1, .int v1)] := hl
  unfold f_X7_kindOf at h
  refine lv_aload_n hx hb dX7_kindOf_0 rfl (lv_at hl 0 rfl) ?_
  refine lv_iload_n hx hb dX7_kindOf_1 rfl (lv_at hl 1 rfl) ?_
  obtain ⟨q2, hq2, h⟩ := ms_bd h
  refine ms_callV (fn_X7_hasNode l G a_this a_codes a_begins a_ends a_characters a_attributeLetters a_valueBegins a_valueEnds a_values x_count x_attributeCount v1 hq2) wm_X7_hasNode wv_X7_50 hX hW [0] rfl rfl rfl rfl rfl ⟨Nat.le_of_ble_eq_true rfl, Nat.le_of_ble_eq_true rfl, rfl, rfl, Nat.zero_le _, Nat.zero_le _⟩ rfl hl.1 [] rfl (Nat.le_of_ble_eq_true rfl) dX7_kindOf_2 (fun H locs hW => ?_)
  have hW : ms_W G A s H locs [ob_X7 a_this a_codes a_begins a_ends x_count a_characters a_attributeLetters a_valueBegins a_valueEnds x_attributeCount a_values, (a_codes, .inl (G.2.1 1, 200, .inl x_codes))] := hW
  refine W.eq (g2 := F0 m 5 ls [.int q2]) rfl ?_
  refine lv_if_eq (tgt := 19) hx hb dX7_kindOf_5 (by decide) (fun k => ?_) (fun k => ?_)
  · have h := ms_ifp h k
    refine lv_iconst (v := 0) hx hb dX7_kindOf_19 (by decide) ?_
    obtain rfl := Option.some.inj h
    exact ms_iret hX hW dX7_kindOf_20
  · have h := ms_ifn h k
    refine lv_aload_n hx hb dX7_kindOf_8 rfl (lv_at hl 0 rfl) ?_
    refine ms_get ff_X7_11 hX hW 0 rfl rfl dX7_kindOf_9 ?_
    refine lv_iload_n hx hb dX7_kindOf_12 rfl (lv_at hl 1 rfl) ?_
    obtain ⟨k, h⟩ := ms_gi_some h
    refine ms_iald hX hW 1 rfl k dX7_kindOf_13 ?_
    refine lv_iconst (v := 3) hx hb dX7_kindOf_14 (by decide) ?_
    refine lv_iand hx hb dX7_kindOf_15 ?_
    refine lv_goto (tgt := 20) hx hb dX7_kindOf_16 (by decide) ?_
    obtain rfl := Option.some.inj h
    exact ms_iret hX hW dX7_kindOf_20
def rm_X7_depthOf : Room := { frames := 1, cells := 0, slots := 0, locals := 21 }
def f_X7_depthOf (x_count : Int32) (x_codes : Nat → Int32) (v1 : Int32) : Option (Int32) := (f_X7_hasNode x_count v1).bind (fun q2 => (if q2 = 0 then some 0 else ms_gi v1 200 (some (((x_codes v1.toNatClampNeg) >>> ((7 : Int32) &&& 31)) &&& (31 : Int32)))))
set_option maxHeartbeats 4000000 in
set_option maxRecDepth 100000 in
theorem fn_X7_depthOf (l : Launch) (G : Gc) (a_this : Nat) (a_codes : Nat) (a_begins : Nat) (a_ends : Nat) (a_characters : Nat) (a_attributeLetters : Nat) (a_valueBegins : Nat) (a_valueEnds : Nat) (a_values : Nat) (x_count : Int32) (x_attributeCount : Int32) (x_codes : Nat → Int32) (v1 : Int32)  {o : Int32} (h : f_X7_depthOf x_count x_codes v1 = some o) : ms_Fn l G yX7_depthOf cX7_depthOf 2 (some .int) rm_X7_depthOf [.ref a_this, .int v1] [ob_X7 a_this a_codes a_begins a_ends x_count a_characters a_attributeLetters a_valueBegins a_valueEnds x_attributeCount a_values, (a_codes, .inl (G.2.1 1, 200, .inl x_codes))] [ob_X7 a_this a_codes a_begins a_ends x_count a_characters a_attributeLetters a_valueBegins a_valueEnds x_attributeCount a_values, (a_codes, .inl (G.2.1 1, 200, .inl x_codes))] (some (.int o)) := by
  refine ms_start RX7 (by decide +kernel) rfl (Nat.le_of_ble_eq_true rfl) (fun p e s m below meth c A ls hX hW hl => ?_)
  have hx := hX.1.1
  have hb := hX.1.2.1
  have hl : lv_has ls 2 [(0, .ref a_this), (1, .int v1)] := hl
  unfold f_X7_depthOf at h
  refine lv_aload_n hx hb dX7_depthOf_0 rfl (lv_at hl 0 rfl) ?_
  refine lv_iload_n hx hb dX7_depthOf_1 rfl (lv_at hl 1 rfl) ?_
  obtain ⟨q2, hq2, h⟩ := ms_bd h
  refine ms_callV (fn_X7_hasNode l G a_this a_codes a_begins a_ends a_characters a_attributeLetters a_valueBegins a_valueEnds a_values x_count x_attributeCount v1 hq2) wm_X7_hasNode wv_X7_50 hX hW [0] rfl rfl rfl rfl rfl ⟨Nat.le_of_ble_eq_true rfl, Nat.le_of_ble_eq_true rfl, rfl, rfl, Nat.zero_le _, Nat.zero_le _⟩ rfl hl.1 [] rfl (Nat.le_of_ble_eq_true rfl) dX7_depthOf_2 (fun H locs hW => ?_)
  have hW : ms_W G A s H locs [ob_X7 a_this a_codes a_begins a_ends x_count a_characters a_attributeLetters a_valueBegins a_valueEnds x_attributeCount a_values, (a_codes, .inl (G.2.1 1, 200, .inl x_codes))] := hW
  refine W.eq (g2 := F0 m 5 ls [.int q2]) rfl ?_
  refine lv_if_eq (tgt := 23) hx hb dX7_depthOf_5 (by decide) (fun k => ?_) (fun k => ?_)
  · have h := ms_ifp h k
    refine lv_iconst (v := 0) hx hb dX7_depthOf_23 (by decide) ?_
    obtain rfl := Option.some.inj h
    exact ms_iret hX hW dX7_depthOf_24
  · have h := ms_ifn h k
    refine lv_aload_n hx hb dX7_depthOf_8 rfl (lv_at hl 0 rfl) ?_
    refine ms_get ff_X7_11 hX hW 0 rfl rfl dX7_depthOf_9 ?_
    refine lv_iload_n hx hb dX7_depthOf_12 rfl (lv_at hl 1 rfl) ?_
    obtain ⟨k, h⟩ := ms_gi_some h
    refine ms_iald hX hW 1 rfl k dX7_depthOf_13 ?_
    refine lv_bipush (v := 7) hx hb dX7_depthOf_14 (by decide) ?_
    refine lv_ishr hx hb dX7_depthOf_16 ?_
    refine lv_bipush (v := 31) hx hb dX7_depthOf_17 (by decide) ?_
    refine lv_iand hx hb dX7_depthOf_19 ?_
    refine lv_goto (tgt := 24) hx hb dX7_depthOf_20 (by decide) ?_
    obtain rfl := Option.some.inj h
    exact ms_iret hX hW dX7_depthOf_24
def rm_X7_openText : Room := { frames := 2, cells := 0, slots := 0, locals := 42 }
def f_X7_openText_L30 (x_characters_size : Int32) (v1 : Int32) (x_count : Int32) (x_codes : Nat → Int32) (x_begins : Nat → Int32) (x_ends : Nat → Int32) (v2 : Int32) (z0 : Int32) : Option (Int32 × (Nat → Int32) × (Nat → Int32) × (Nat → Int32) × Int32) := (if z0 = 0 then (f_X1_size x_characters_size).bind (fun q50 => (f_X7_addNode x_count x_codes x_begins x_ends ((1 : Int32) ||| (v1 <<< ((7 : Int32) &&& 31))) q50).bind (fun q53 => some (q53.1, q53.2.1, q53.2.2.1, q53.2.2.2.1, q53.2.2.2.2))) else some (x_count, x_codes, x_begins, x_ends, v2))
set_option maxHeartbeats 4000000 in
set_option maxRecDepth 100000 in
theorem wb_X7_openText_L30 {p : Program} {l : Launch} {e : Env} {s : State} {m : MethodId} {args : Array Value} {below : List Frame} {meth : Method} {c : Code} {G : Gc} {A : Nat → Prop} {H : Heap} {locs : List Loc} {ls : Array Slot} {a_this : Nat} {a_codes : Nat} {a_begins : Nat} {a_ends : Nat} {a_characters : Nat} {a_attributeLetters : Nat} {a_valueBegins : Nat} {a_valueEnds : Nat} {a_values : Nat} {a_characters_row : Nat} {x_attributeCount : Int32} {x_characters_size : Int32} {x_characters_overflowed : Int32} {v1 : Int32} {x_count : Int32} {x_codes : Nat → Int32} {x_begins : Nat → Int32} {x_ends : Nat → Int32} {v2 : Int32} {z0 : Int32} {o : Int32 × (Nat → Int32) × (Nat → Int32) × (Nat → Int32) × Int32} (hX : ms_CX p s m args meth c cX7_openText 4 RX7 (some .int) G A)   (h : f_X7_openText_L30 x_characters_size v1 x_count x_codes x_begins x_ends v2 z0 = some o) (hW : ms_W G A s H locs [ob_X7 a_this a_codes a_begins a_ends x_count a_characters a_attributeLetters a_valueBegins a_valueEnds x_attributeCount a_values, (a_codes, .inl (G.2.1 1, 200, .inl x_codes)), (a_begins, .inl (G.2.1 1, 200, .inl x_begins)), (a_ends, .inl (G.2.1 1, 200, .inl x_ends)), ob_X1 a_characters a_characters_row x_characters_size x_characters_overflowed]) (hl : lv_has ls 4 [(0, .ref a_this), (1, .int v1), (2, .int v2)]) : W p l e rm_X7_openText s m args below meth c H locs 0 0 (ms_Q G A below args s [ob_X7 a_this a_codes a_begins a_ends o.1 a_characters a_attributeLetters a_valueBegins a_valueEnds x_attributeCount a_values, (a_codes, .inl (G.2.1 1, 200, .inl o.2.1)), (a_begins, .inl (G.2.1 1, 200, .inl o.2.2.1)), (a_ends, .inl (G.2.1 1, 200, .inl o.2.2.2.1)), ob_X1 a_characters a_characters_row x_characters_size x_characters_overflowed] (some (.int o.2.2.2.2))) (F0 m 30 ls [.int z0]) := by
  have hx := hX.1.1
  have hb := hX.1.2.1
  unfold f_X7_openText_L30 at h
  refine lv_istore_n (lv' := [(3, .int z0), (0, .ref a_this), (1, .int v1), (2, .int v2)]) hx hb dX7_openText_30 rfl hl (by decide) rfl (fun ls hl => ?_)
  refine lv_iload_n hx hb dX7_openText_31 rfl (lv_at hl 0 rfl) ?_
  refine lv_if_eq (tgt := 39) hx hb dX7_openText_32 (by decide) (fun k => ?_) (fun k => ?_)
  · have h := ms_ifp h k
    refine lv_aload_n hx hb dX7_openText_39 rfl (lv_at hl 1 rfl) ?_
    refine lv_iconst (v := 1) hx hb dX7_openText_40 (by decide) ?_
    refine lv_iload_n hx hb dX7_openText_41 rfl (lv_at hl 2 rfl) ?_
    refine lv_bipush (v := 7) hx hb dX7_openText_42 (by decide) ?_
    refine lv_ishl hx hb dX7_openText_44 ?_
    refine lv_ior hx hb dX7_openText_45 ?_
    refine lv_aload_n hx hb dX7_openText_46 rfl (lv_at hl 1 rfl) ?_
    refine ms_get ff_X7_28 hX hW 0 rfl rfl dX7_openText_47 ?_
    obtain ⟨q50, hq50, h⟩ := ms_bd h
    refine ms_callV (fn_X1_size l G a_characters a_characters_row x_characters_size x_characters_overflowed hq50) wm_X1_size wv_X7_81 hX hW [4] rfl rfl rfl rfl rfl ⟨Nat.le_of_ble_eq_true rfl, Nat.le_of_ble_eq_true rfl, rfl, rfl, Nat.zero_le _, Nat.zero_le _⟩ rfl hl.1 [.int ((1 : Int32) ||| (v1 <<< ((7 : Int32) &&& 31))), .ref a_this] rfl (Nat.le_of_ble_eq_true rfl) dX7_openText_50 (fun H locs hW => ?_)
    have hW : ms_W G A s H locs [ob_X7 a_this a_codes a_begins a_ends x_count a_characters a_attributeLetters a_valueBegins a_valueEnds x_attributeCount a_values, (a_codes, .inl (G.2.1 1, 200, .inl x_codes)), (a_begins, .inl (G.2.1 1, 200, .inl x_begins)), (a_ends, .inl (G.2.1 1, 200, .inl x_ends)), ob_X1 a_characters a_characters_row x_characters_size x_characters_overflowed] := hW
    refine W.eq (g2 := F0 m 53 ls [.int q50, .int ((1 : Int32) ||| (v1 <<< ((7 : Int32) &&& 31))), .ref a_this]) rfl ?_
    obtain ⟨q53, hq53, h⟩ := ms_bd h
    refine ms_callV (fn_X7_addNode l G a_this a_codes a_begins a_ends a_characters a_attributeLetters a_valueBegins a_valueEnds a_values x_count x_attributeCount x_codes x_begins x_ends ((1 : Int32) ||| (v1 <<< ((7 : Int32) &&& 31))) q50 hq53) wm_X7_addNode wv_X7_77 hX hW [0, 1, 2, 3] rfl rfl rfl rfl rfl ⟨Nat.le_of_ble_eq_true rfl, Nat.le_of_ble_eq_true rfl, rfl, rfl, Nat.zero_le _, Nat.zero_le _⟩ rfl hl.1 [] rfl (Nat.le_of_ble_eq_true rfl) dX7_openText_53 (fun H locs hW => ?_)
    have hW : ms_W G A s H locs [ob_X7 a_this a_codes a_begins a_ends q53.1 a_characters a_attributeLetters a_valueBegins a_valueEnds x_attributeCount a_values, (a_codes, .inl (G.2.1 1, 200, .inl q53.2.1)), (a_begins, .inl (G.2.1 1, 200, .inl q53.2.2.1)), (a_ends, .inl (G.2.1 1, 200, .inl q53.2.2.2.1)), ob_X1 a_characters a_characters_row x_characters_size x_characters_overflowed] := hW
    refine W.eq (g2 := F0 m 56 ls [.int q53.2.2.2.2]) rfl ?_
    obtain rfl := Option.some.inj h
    exact ms_iret hX hW dX7_openText_56
  · have h := ms_ifn h k
    refine lv_iload_n hx hb dX7_openText_35 rfl (lv_at hl 3 rfl) ?_
    refine lv_goto (tgt := 56) hx hb dX7_openText_36 (by decide) ?_
    obtain rfl := Option.some.inj h
    exact ms_iret hX hW dX7_openText_56
def f_X7_openText_L29 (x_characters_size : Int32) (v1 : Int32) (x_count : Int32) (x_codes : Nat → Int32) (x_begins : Nat → Int32) (x_ends : Nat → Int32) (v2 : Int32) : Option (Int32 × (Nat → Int32) × (Nat → Int32) × (Nat → Int32) × Int32) := f_X7_openText_L30 x_characters_size v1 x_count x_codes x_begins x_ends v2 0
set_option maxHeartbeats 4000000 in
set_option maxRecDepth 100000 in
theorem wb_X7_openText_L29 {p : Program} {l : Launch} {e : Env} {s : State} {m : MethodId} {args : Array Value} {below : List Frame} {meth : Method} {c : Code} {G : Gc} {A : Nat → Prop} {H : Heap} {locs : List Loc} {ls : Array Slot} {a_this : Nat} {a_codes : Nat} {a_begins : Nat} {a_ends : Nat} {a_characters : Nat} {a_attributeLetters : Nat} {a_valueBegins : Nat} {a_valueEnds : Nat} {a_values : Nat} {a_characters_row : Nat} {x_attributeCount : Int32} {x_characters_size : Int32} {x_characters_overflowed : Int32} {v1 : Int32} {x_count : Int32} {x_codes : Nat → Int32} {x_begins : Nat → Int32} {x_ends : Nat → Int32} {v2 : Int32} {o : Int32 × (Nat → Int32) × (Nat → Int32) × (Nat → Int32) × Int32} (hX : ms_CX p s m args meth c cX7_openText 4 RX7 (some .int) G A)   (h : f_X7_openText_L29 x_characters_size v1 x_count x_codes x_begins x_ends v2 = some o) (hW : ms_W G A s H locs [ob_X7 a_this a_codes a_begins a_ends x_count a_characters a_attributeLetters a_valueBegins a_valueEnds x_attributeCount a_values, (a_codes, .inl (G.2.1 1, 200, .inl x_codes)), (a_begins, .inl (G.2.1 1, 200, .inl x_begins)), (a_ends, .inl (G.2.1 1, 200, .inl x_ends)), ob_X1 a_characters a_characters_row x_characters_size x_characters_overflowed]) (hl : lv_has ls 4 [(0, .ref a_this), (1, .int v1), (2, .int v2)]) : W p l e rm_X7_openText s m args below meth c H locs 0 0 (ms_Q G A below args s [ob_X7 a_this a_codes a_begins a_ends o.1 a_characters a_attributeLetters a_valueBegins a_valueEnds x_attributeCount a_values, (a_codes, .inl (G.2.1 1, 200, .inl o.2.1)), (a_begins, .inl (G.2.1 1, 200, .inl o.2.2.1)), (a_ends, .inl (G.2.1 1, 200, .inl o.2.2.2.1)), ob_X1 a_characters a_characters_row x_characters_size x_characters_overflowed] (some (.int o.2.2.2.2))) (F0 m 29 ls []) := by
  have hx := hX.1.1
  have hb := hX.1.2.1
  unfold f_X7_openText_L29 at h
  refine lv_iconst (v := 0) hx hb dX7_openText_29 (by decide) ?_
  exact wb_X7_openText_L30 hX h hW (lv_sub hl [0, 1, 2] rfl)
def f_X7_openText (x_count : Int32) (x_codes : Nat → Int32) (x_begins : Nat → Int32) (x_ends : Nat → Int32) (x_characters_size : Int32) (v1 : Int32) : Option (Int32 × (Nat → Int32) × (Nat → Int32) × (Nat → Int32) × Int32) := (f_X7_kindOf x_count x_codes (x_count - 1)).bind (fun q9 => (if q9 = 1 then (f_X7_depthOf x_count x_codes (x_count - 1)).bind (fun q18 => (if q18 = v1 then f_X7_openText_L30 x_characters_size v1 x_count x_codes x_begins x_ends (x_count - 1) 1 else f_X7_openText_L29 x_characters_size v1 x_count x_codes x_begins x_ends (x_count - 1))) else f_X7_openText_L29 x_characters_size v1 x_count x_codes x_begins x_ends (x_count - 1)))
set_option maxHeartbeats 4000000 in
set_option maxRecDepth 100000 in
theorem fn_X7_openText (l : Launch) (G : Gc) (a_this : Nat) (a_codes : Nat) (a_begins : Nat) (a_ends : Nat) (a_characters : Nat) (a_attributeLetters : Nat) (a_valueBegins : Nat) (a_valueEnds : Nat) (a_values : Nat) (a_characters_row : Nat) (x_count : Int32) (x_attributeCount : Int32) (x_codes : Nat → Int32) (x_begins : Nat → Int32) (x_ends : Nat → Int32) (x_characters_size : Int32) (x_characters_overflowed : Int32) (v1 : Int32)  {o : Int32 × (Nat → Int32) × (Nat → Int32) × (Nat → Int32) × Int32} (h : f_X7_openText x_count x_codes x_begins x_ends x_characters_size v1 = some o) : ms_Fn l G yX7_openText cX7_openText 4 (some .int) rm_X7_openText [.ref a_this, .int v1] [ob_X7 a_this a_codes a_begins a_ends x_count a_characters a_attributeLetters a_valueBegins a_valueEnds x_attributeCount a_values, (a_codes, .inl (G.2.1 1, 200, .inl x_codes)), (a_begins, .inl (G.2.1 1, 200, .inl x_begins)), (a_ends, .inl (G.2.1 1, 200, .inl x_ends)), ob_X1 a_characters a_characters_row x_characters_size x_characters_overflowed] [ob_X7 a_this a_codes a_begins a_ends o.1 a_characters a_attributeLetters a_valueBegins a_valueEnds x_attributeCount a_values, (a_codes, .inl (G.2.1 1, 200, .inl o.2.1)), (a_begins, .inl (G.2.1 1, 200, .inl o.2.2.1)), (a_ends, .inl (G.2.1 1, 200, .inl o.2.2.2.1)), ob_X1 a_characters a_characters_row x_characters_size x_characters_overflowed] (some (.int o.2.2.2.2)) := by
  refine ms_start RX7 (by decide +kernel) rfl (Nat.le_of_ble_eq_true rfl) (fun p e s m below meth c A ls hX hW hl => ?_)
  have hx := hX.1.1
  have hb := hX.1.2.1
  have hl : lv_has ls 4 [(0, .ref a_this), (1, .int v1)] := hl
  unfold f_X7_openText at h
  refine lv_aload_n hx hb dX7_openText_0 rfl (lv_at hl 0 rfl) ?_
  refine ms_get ff_X7_21 hX hW 0 rfl rfl dX7_openText_1 ?_
  refine lv_iconst (v := 1) hx hb dX7_openText_4 (by decide) ?_
  refine lv_isub hx hb dX7_openText_5 ?_
  refine lv_istore_n (lv' := [(2, .int (x_count - 1)), (0, .ref a_this), (1, .int v1)]) hx hb dX7_openText_6 rfl hl (by decide) rfl (fun ls hl => ?_)
  refine lv_aload_n hx hb dX7_openText_7 rfl (lv_at hl 1 rfl) ?_
  refine lv_iload_n hx hb dX7_openText_8 rfl (lv_at hl 0 rfl) ?_
  obtain ⟨q9, hq9, h⟩ := ms_bd h
  refine ms_callV (fn_X7_kindOf l G a_this a_codes a_begins a_ends a_characters a_attributeLetters a_valueBegins a_valueEnds a_values x_count x_attributeCount x_codes (x_count - 1) hq9) wm_X7_kindOf wv_X7_54 hX hW [0, 1] rfl rfl rfl rfl rfl ⟨Nat.le_of_ble_eq_true rfl, Nat.le_of_ble_eq_true rfl, rfl, rfl, Nat.zero_le _, Nat.zero_le _⟩ rfl hl.1 [] rfl (Nat.le_of_ble_eq_true rfl) dX7_openText_9 (fun H locs hW => ?_)
  have hW : ms_W G A s H locs [ob_X7 a_this a_codes a_begins a_ends x_count a_characters a_attributeLetters a_valueBegins a_valueEnds x_attributeCount a_values, (a_codes, .inl (G.2.1 1, 200, .inl x_codes)), (a_begins, .inl (G.2.1 1, 200, .inl x_begins)), (a_ends, .inl (G.2.1 1, 200, .inl x_ends)), ob_X1 a_characters a_characters_row x_characters_size x_characters_overflowed] := hW
  refine W.eq (g2 := F0 m 12 ls [.int q9]) rfl ?_
  refine lv_iconst (v := 1) hx hb dX7_openText_12 (by decide) ?_
  refine lv_icmp_ne (tgt := 29) hx hb dX7_openText_13 (by decide) (fun k => ?_) (fun k => ?_)
  · have h := ms_ifn h k
    exact wb_X7_openText_L29 hX h hW (lv_sub hl [1, 2, 0] rfl)
  · have h := ms_ifp h k
    refine lv_aload_n hx hb dX7_openText_16 rfl (lv_at hl 1 rfl) ?_
    refine lv_iload_n hx hb dX7_openText_17 rfl (lv_at hl 0 rfl) ?_
    obtain ⟨q18, hq18, h⟩ := ms_bd h
    refine ms_callV (fn_X7_depthOf l G a_this a_codes a_begins a_ends a_characters a_attributeLetters a_valueBegins a_valueEnds a_values x_count x_attributeCount x_codes (x_count - 1) hq18) wm_X7_depthOf wv_X7_99 hX hW [0, 1] rfl rfl rfl rfl rfl ⟨Nat.le_of_ble_eq_true rfl, Nat.le_of_ble_eq_true rfl, rfl, rfl, Nat.zero_le _, Nat.zero_le _⟩ rfl hl.1 [] rfl (Nat.le_of_ble_eq_true rfl) dX7_openText_18 (fun H locs hW => ?_)
    have hW : ms_W G A s H locs [ob_X7 a_this a_codes a_begins a_ends x_count a_characters a_attributeLetters a_valueBegins a_valueEnds x_attributeCount a_values, (a_codes, .inl (G.2.1 1, 200, .inl x_codes)), (a_begins, .inl (G.2.1 1, 200, .inl x_begins)), (a_ends, .inl (G.2.1 1, 200, .inl x_ends)), ob_X1 a_characters a_characters_row x_characters_size x_characters_overflowed] := hW
    refine W.eq (g2 := F0 m 21 ls [.int q18]) rfl ?_
    refine lv_iload_n hx hb dX7_openText_21 rfl (lv_at hl 2 rfl) ?_
    refine lv_icmp_ne (tgt := 29) hx hb dX7_openText_22 (by decide) (fun k => ?_) (fun k => ?_)
    · have h := ms_ifn h k
      exact wb_X7_openText_L29 hX h hW (lv_sub hl [1, 2, 0] rfl)
    · have h := ms_ifp h k
      refine lv_iconst (v := 1) hx hb dX7_openText_25 (by decide) ?_
      refine lv_goto (tgt := 30) hx hb dX7_openText_26 (by decide) ?_
      exact wb_X7_openText_L30 hX h hW (lv_sub hl [1, 2, 0] rfl)
def rm_X7_endCharacters : Room := { frames := 1, cells := 0, slots := 0, locals := 21 }
def f_X7_endCharacters (x_count : Int32) (x_ends : Nat → Int32) (x_characters_size : Int32) (v1 : Int32) : Option ((Nat → Int32)) := (f_X7_hasNode x_count v1).bind (fun q2 => (if q2 = 0 then some x_ends else (f_X1_size x_characters_size).bind (fun q17 => ms_gi v1 200 (some (upd x_ends v1.toNatClampNeg q17)))))
set_option maxHeartbeats 4000000 in
set_option maxRecDepth 100000 in
theorem fn_X7_endCharacters (l : Launch) (G : Gc) (a_this : Nat) (a_codes : Nat) (a_begins : Nat) (a_ends : Nat) (a_characters : Nat) (a_attributeLetters : Nat) (a_valueBegins : Nat) (a_valueEnds : Nat) (a_values : Nat) (a_characters_row : Nat) (x_count : Int32) (x_attributeCount : Int32) (x_ends : Nat → Int32) (x_characters_size : Int32) (x_characters_overflowed : Int32) (v1 : Int32)  {o : (Nat → Int32)} (h : f_X7_endCharacters x_count x_ends x_characters_size v1 = some o) : ms_Fn l G yX7_endCharacters cX7_endCharacters 2 none rm_X7_endCharacters [.ref a_this, .int v1] [ob_X7 a_this a_codes a_begins a_ends x_count a_characters a_attributeLetters a_valueBegins a_valueEnds x_attributeCount a_values, (a_ends, .inl (G.2.1 1, 200, .inl x_ends)), ob_X1 a_characters a_characters_row x_characters_size x_characters_overflowed] [ob_X7 a_this a_codes a_begins a_ends x_count a_characters a_attributeLetters a_valueBegins a_valueEnds x_attributeCount a_values, (a_ends, .inl (G.2.1 1, 200, .inl o)), ob_X1 a_characters a_characters_row x_characters_size x_characters_overflowed] none := by
  refine ms_start RX7 (by decide +kernel) rfl (Nat.le_of_ble_eq_true rfl) (fun p e s m below meth c A ls hX hW hl => ?_)
  have hx := hX.1.1
  have hb := hX.1.2.1
  have hl : lv_has ls 2 [(0, .ref a_this), (1, .int v1)] := hl
  unfold f_X7_endCharacters at h
  refine lv_aload_n hx hb dX7_endCharacters_0 rfl (lv_at hl 0 rfl) ?_
  refine lv_iload_n hx hb dX7_endCharacters_1 rfl (lv_at hl 1 rfl) ?_
  obtain ⟨q2, hq2, h⟩ := ms_bd h
  refine ms_callV (fn_X7_hasNode l G a_this a_codes a_begins a_ends a_characters a_attributeLetters a_valueBegins a_valueEnds a_values x_count x_attributeCount v1 hq2) wm_X7_hasNode wv_X7_50 hX hW [0] rfl rfl rfl rfl rfl ⟨Nat.le_of_ble_eq_true rfl, Nat.le_of_ble_eq_true rfl, rfl, rfl, Nat.zero_le _, Nat.zero_le _⟩ rfl hl.1 [] rfl (Nat.le_of_ble_eq_true rfl) dX7_endCharacters_2 (fun H locs hW => ?_)
  have hW : ms_W G A s H locs [ob_X7 a_this a_codes a_begins a_ends x_count a_characters a_attributeLetters a_valueBegins a_valueEnds x_attributeCount a_values, (a_ends, .inl (G.2.1 1, 200, .inl x_ends)), ob_X1 a_characters a_characters_row x_characters_size x_characters_overflowed] := hW
  refine W.eq (g2 := F0 m 5 ls [.int q2]) rfl ?_
  refine lv_if_eq (tgt := 21) hx hb dX7_endCharacters_5 (by decide) (fun k => ?_) (fun k => ?_)
  · have h := ms_ifp h k
    obtain rfl := Option.some.inj h
    exact ms_vret hX hW dX7_endCharacters_21
  · have h := ms_ifn h k
    refine lv_aload_n hx hb dX7_endCharacters_8 rfl (lv_at hl 0 rfl) ?_
    refine ms_get ff_X7_18 hX hW 0 rfl rfl dX7_endCharacters_9 ?_
    refine lv_iload_n hx hb dX7_endCharacters_12 rfl (lv_at hl 1 rfl) ?_
    refine lv_aload_n hx hb dX7_endCharacters_13 rfl (lv_at hl 0 rfl) ?_
    refine ms_get ff_X7_28 hX hW 0 rfl rfl dX7_endCharacters_14 ?_
    obtain ⟨q17, hq17, h⟩ := ms_bd h
    refine ms_callV (fn_X1_size l G a_characters a_characters_row x_characters_size x_characters_overflowed hq17) wm_X1_size wv_X7_81 hX hW [2] rfl rfl rfl rfl rfl ⟨Nat.le_of_ble_eq_true rfl, Nat.le_of_ble_eq_true rfl, rfl, rfl, Nat.zero_le _, Nat.zero_le _⟩ rfl hl.1 [.int v1, .ref a_ends] rfl (Nat.le_of_ble_eq_true rfl) dX7_endCharacters_17 (fun H locs hW => ?_)
    have hW : ms_W G A s H locs [ob_X7 a_this a_codes a_begins a_ends x_count a_characters a_attributeLetters a_valueBegins a_valueEnds x_attributeCount a_values, (a_ends, .inl (G.2.1 1, 200, .inl x_ends)), ob_X1 a_characters a_characters_row x_characters_size x_characters_overflowed] := hW
    refine W.eq (g2 := F0 m 20 ls [.int q17, .int v1, .ref a_ends]) rfl ?_
    obtain ⟨k, h⟩ := ms_gi_some h
    refine ms_iast hX hW 1 rfl k dX7_endCharacters_20 (fun H locs hW => ?_)
    have hW : ms_W G A s H locs [ob_X7 a_this a_codes a_begins a_ends x_count a_characters a_attributeLetters a_valueBegins a_valueEnds x_attributeCount a_values, (a_ends, .inl (G.2.1 1, 200, .inl (upd x_ends v1.toNatClampNeg q17))), ob_X1 a_characters a_characters_row x_characters_size x_characters_overflowed] := hW
    obtain rfl := Option.some.inj h
    exact ms_vret hX hW dX7_endCharacters_21
def rm_X7_addRaw : Room := { frames := 3, cells := 0, slots := 0, locals := 65 }
def f_X7_addRaw (x_count : Int32) (x_codes : Nat → Int32) (x_begins : Nat → Int32) (x_ends : Nat → Int32) (x_characters_size : Int32) (x_characters_overflowed : Int32) (x_characters_row : Nat → Int32) (x_a2_size : Int32) (x_a2_row : Nat → Int32) (v1 : Int32) (v3 : Int32) (v4 : Int32) : Option (Int32 × (Nat → Int32) × (Nat → Int32) × (Nat → Int32) × Int32 × Int32 × (Nat → Int32)) := (f_X7_openText x_count x_codes x_begins x_ends x_characters_size v1).bind (fun q2 => (f_X1_addPiece x_characters_size x_characters_overflowed x_characters_row x_a2_size x_a2_row v3 v4).bind (fun q15 => (f_X7_endCharacters q2.1 q2.2.2.2.1 q15.1 q2.2.2.2.2).bind (fun q21 => some (q2.1, q2.2.1, q2.2.2.1, q21, q15.1, q15.2.1, q15.2.2))))
set_option maxHeartbeats 4000000 in
set_option maxRecDepth 100000 in
theorem fn_X7_addRaw (l : Launch) (G : Gc) (a_this : Nat) (a_codes : Nat) (a_begins : Nat) (a_ends : Nat) (a_characters : Nat) (a_attributeLetters : Nat) (a_valueBegins : Nat) (a_valueEnds : Nat) (a_values : Nat) (a_characters_row : Nat) (a_a2 : Nat) (a_a2_row : Nat) (x_count : Int32) (x_attributeCount : Int32) (x_codes : Nat → Int32) (x_begins : Nat → Int32) (x_ends : Nat → Int32) (x_characters_size : Int32) (x_characters_overflowed : Int32) (x_characters_row : Nat → Int32) (x_a2_size : Int32) (x_a2_overflowed : Int32) (x_a2_row : Nat → Int32) (v1 : Int32) (v3 : Int32) (v4 : Int32)  {o : Int32 × (Nat → Int32) × (Nat → Int32) × (Nat → Int32) × Int32 × Int32 × (Nat → Int32)} (h : f_X7_addRaw x_count x_codes x_begins x_ends x_characters_size x_characters_overflowed x_characters_row x_a2_size x_a2_row v1 v3 v4 = some o) : ms_Fn l G yX7_addRaw cX7_addRaw 6 none rm_X7_addRaw [.ref a_this, .int v1, .ref a_a2, .int v3, .int v4] [ob_X7 a_this a_codes a_begins a_ends x_count a_characters a_attributeLetters a_valueBegins a_valueEnds x_attributeCount a_values, (a_codes, .inl (G.2.1 1, 200, .inl x_codes)), (a_begins, .inl (G.2.1 1, 200, .inl x_begins)), (a_ends, .inl (G.2.1 1, 200, .inl x_ends)), ob_X1 a_characters a_characters_row x_characters_size x_characters_overflowed, (a_characters_row, .inl (G.2.1 0, 200, .inl x_characters_row)), ob_X1 a_a2 a_a2_row x_a2_size x_a2_overflowed, (a_a2_row, .inl (G.2.1 0, 200, .inl x_a2_row))] [ob_X7 a_this a_codes a_begins a_ends o.1 a_characters a_attributeLetters a_valueBegins a_valueEnds x_attributeCount a_values, (a_codes, .inl (G.2.1 1, 200, .inl o.2.1)), (a_begins, .inl (G.2.1 1, 200, .inl o.2.2.1)), (a_ends, .inl (G.2.1 1, 200, .inl o.2.2.2.1)), ob_X1 a_characters a_characters_row o.2.2.2.2.1 o.2.2.2.2.2.1, (a_characters_row, .inl (G.2.1 0, 200, .inl o.2.2.2.2.2.2)), ob_X1 a_a2 a_a2_row x_a2_size x_a2_overflowed, (a_a2_row, .inl (G.2.1 0, 200, .inl x_a2_row))] none := by
  refine ms_start RX7 (by decide +kernel) rfl (Nat.le_of_ble_eq_true rfl) (fun p e s m below meth c A ls hX hW hl => ?_)
  have hx := hX.1.1
  have hb := hX.1.2.1
  have hl : lv_has ls 6 [(0, .ref a_this), (1, .int v1), (2, .ref a_a2), (3, .int v3), (4, .int v4)] := hl
  unfold f_X7_addRaw at h
  refine lv_aload_n hx hb dX7_addRaw_0 rfl (lv_at hl 0 rfl) ?_
  refine lv_iload_n hx hb dX7_addRaw_1 rfl (lv_at hl 1 rfl) ?_
  obtain ⟨q2, hq2, h⟩ := ms_bd h
  refine ms_callV (fn_X7_openText l G a_this a_codes a_begins a_ends a_characters a_attributeLetters a_valueBegins a_valueEnds a_values a_characters_row x_count x_attributeCount x_codes x_begins x_ends x_characters_size x_characters_overflowed v1 hq2) wm_X7_openText wv_X7_93 hX hW [0, 1, 2, 3, 4] rfl rfl rfl rfl rfl ⟨Nat.le_of_ble_eq_true rfl, Nat.le_of_ble_eq_true rfl, rfl, rfl, Nat.zero_le _, Nat.zero_le _⟩ rfl hl.1 [] rfl (Nat.le_of_ble_eq_true rfl) dX7_addRaw_2 (fun H locs hW => ?_)
  have hW : ms_W G A s H locs [ob_X7 a_this a_codes a_begins a_ends q2.1 a_characters a_attributeLetters a_valueBegins a_valueEnds x_attributeCount a_values, (a_codes, .inl (G.2.1 1, 200, .inl q2.2.1)), (a_begins, .inl (G.2.1 1, 200, .inl q2.2.2.1)), (a_ends, .inl (G.2.1 1, 200, .inl q2.2.2.2.1)), ob_X1 a_characters a_characters_row x_characters_size x_characters_overflowed, (a_characters_row, .inl (G.2.1 0, 200, .inl x_characters_row)), ob_X1 a_a2 a_a2_row x_a2_size x_a2_overflowed, (a_a2_row, .inl (G.2.1 0, 200, .inl x_a2_row))] := hW
  refine W.eq (g2 := F0 m 5 ls [.int q2.2.2.2.2]) rfl ?_
  refine lv_istore (lv' := [(5, .int q2.2.2.2.2), (0, .ref a_this), (1, .int v1), (2, .ref a_a2), (3, .int v3), (4, .int v4)]) hx hb dX7_addRaw_5 hl (by decide) rfl (fun ls hl => ?_)
  refine lv_aload_n hx hb dX7_addRaw_7 rfl (lv_at hl 1 rfl) ?_
  refine ms_get ff_X7_28 hX hW 0 rfl rfl dX7_addRaw_8 ?_
  refine lv_aload_n hx hb dX7_addRaw_11 rfl (lv_at hl 3 rfl) ?_
  refine lv_iload_n hx hb dX7_addRaw_12 rfl (lv_at hl 4 rfl) ?_
  refine lv_iload hx hb dX7_addRaw_13 (lv_at hl 5 rfl) ?_
  obtain ⟨q15, hq15, h⟩ := ms_bd h
  refine ms_callV (fn_X1_addPiece l G a_characters a_characters_row a_a2 a_a2_row x_characters_size x_characters_overflowed x_characters_row x_a2_size x_a2_overflowed x_a2_row v3 v4 hq15) wm_X1_addPiece wv_X7_85 hX hW [4, 5, 6, 7] rfl rfl rfl rfl rfl ⟨Nat.le_of_ble_eq_true rfl, Nat.le_of_ble_eq_true rfl, rfl, rfl, Nat.zero_le _, Nat.zero_le _⟩ rfl hl.1 [] rfl (Nat.le_of_ble_eq_true rfl) dX7_addRaw_15 (fun H locs hW => ?_)
  have hW : ms_W G A s H locs [ob_X7 a_this a_codes a_begins a_ends q2.1 a_characters a_attributeLetters a_valueBegins a_valueEnds x_attributeCount a_values, (a_codes, .inl (G.2.1 1, 200, .inl q2.2.1)), (a_begins, .inl (G.2.1 1, 200, .inl q2.2.2.1)), (a_ends, .inl (G.2.1 1, 200, .inl q2.2.2.2.1)), ob_X1 a_characters a_characters_row q15.1 q15.2.1, (a_characters_row, .inl (G.2.1 0, 200, .inl q15.2.2)), ob_X1 a_a2 a_a2_row x_a2_size x_a2_overflowed, (a_a2_row, .inl (G.2.1 0, 200, .inl x_a2_row))] := hW
  refine W.eq (g2 := F0 m 18 ls []) rfl ?_
  refine lv_aload_n hx hb dX7_addRaw_18 rfl (lv_at hl 1 rfl) ?_
  refine lv_iload hx hb dX7_addRaw_19 (lv_at hl 0 rfl) ?_
  obtain ⟨q21, hq21, h⟩ := ms_bd h
  refine ms_callV (fn_X7_endCharacters l G a_this a_codes a_begins a_ends a_characters a_attributeLetters a_valueBegins a_valueEnds a_values a_characters_row q2.1 x_attributeCount q2.2.2.2.1 q15.1 q15.2.1 q2.2.2.2.2 hq21) wm_X7_endCharacters wv_X7_89 hX hW [0, 3, 4] rfl rfl rfl rfl rfl ⟨Nat.le_of_ble_eq_true rfl, Nat.le_of_ble_eq_true rfl, rfl, rfl, Nat.zero_le _, Nat.zero_le _⟩ rfl hl.1 [] rfl (Nat.le_of_ble_eq_true rfl) dX7_addRaw_21 (fun H locs hW => ?_)
  have hW : ms_W G A s H locs [ob_X7 a_this a_codes a_begins a_ends q2.1 a_characters a_attributeLetters a_valueBegins a_valueEnds x_attributeCount a_values, (a_codes, .inl (G.2.1 1, 200, .inl q2.2.1)), (a_begins, .inl (G.2.1 1, 200, .inl q2.2.2.1)), (a_ends, .inl (G.2.1 1, 200, .inl q21)), ob_X1 a_characters a_characters_row q15.1 q15.2.1, (a_characters_row, .inl (G.2.1 0, 200, .inl q15.2.2)), ob_X1 a_a2 a_a2_row x_a2_size x_a2_overflowed, (a_a2_row, .inl (G.2.1 0, 200, .inl x_a2_row))] := hW
  refine W.eq (g2 := F0 m 24 ls []) rfl ?_
  obtain rfl := Option.some.inj h
  exact ms_vret hX hW dX7_addRaw_24
def rm_X4_readRaw : Room := { frames := 6, cells := 0, slots := 0, locals := 130 }
def f_X4_readRaw_L5 (x_source_size : Int32) (x_source_row : Nat → Int32) (x_builder_open_count : Int32) : Nat → Int32 → Int32 → Int32 → (Nat → Int32) → (Nat → Int32) → (Nat → Int32) → Int32 → Int32 → (Nat → Int32) → Int32 → Option (Int32 × Int32 × Int32 × (Nat → Int32) × (Nat → Int32) × (Nat → Int32) × Int32 × Int32 × (Nat → Int32) × Int32)
  | 0, _, _, _, _, _, _, _, _, _, _ => none
  | n + 1, x_at, x_rawDue, x_tree_count, x_tree_codes, x_tree_begins, x_tree_ends, x_tree_characters_size, x_tree_characters_overflowed, x_tree_characters_row, v1 => (f_X1_size x_source_size).bind (fun q13 => (if q13 ≤ x_at then some (x_at, x_rawDue, x_tree_count, x_tree_codes, x_tree_begins, x_tree_ends, x_tree_characters_size, x_tree_characters_overflowed, x_tree_characters_row, v1) else (f_X4_isRawEnd x_source_size x_source_row x_at).bind (fun q24 => (if q24 = 0 then f_X4_readRaw_L5 x_source_size x_source_row x_builder_open_count n (x_at + 1) x_rawDue x_tree_count x_tree_codes x_tree_begins x_tree_ends x_tree_characters_size x_tree_characters_overflowed x_tree_characters_row v1 else some (x_at, x_rawDue, x_tree_count, x_tree_codes, x_tree_begins, x_tree_ends, x_tree_characters_size, x_tree_characters_overflowed, x_tree_characters_row, v1)))))
set_option maxHeartbeats 4000000 in
set_option maxRecDepth 100000 in
theorem wb_X4_readRaw_L5 {p : Program} {l : Launch} {e : Env} {s : State} {m : MethodId} {args : Array Value} {below : List Frame} {meth : Method} {c : Code} {G : Gc} {A : Nat → Prop} {a_this : Nat} {a_source : Nat} {a_tree : Nat} {a_builder : Nat} {a_tag : Nat} {a_source_row : Nat} {a_tree_codes : Nat} {a_tree_begins : Nat} {a_tree_ends : Nat} {a_tree_characters : Nat} {a_tree_attributeLetters : Nat} {a_tree_valueBegins : Nat} {a_tree_valueEnds : Nat} {a_tree_values : Nat} {a_tree_characters_row : Nat} {a_builder_open : Nat} {a_builder_open_names : Nat} {a_builder_open_foreigns : Nat} {x_source_size : Int32} {x_source_overflowed : Int32} {x_source_row : Nat → Int32} {x_tree_attributeCount : Int32} {x_builder_open_count : Int32}  {Q : State → Prop} {o : Int32 × Int32 × Int32 × (Nat → Int32) × (Nat → Int32) × (Nat → Int32) × Int32 × Int32 × (Nat → Int32) × Int32} (hX : ms_CX p s m args meth c cX4_readRaw 2 RX4 none G A) (hq : ∀ (H : Heap) (locs : List Loc) (ls : Array Slot), ms_W G A s H locs [ob_X4 a_this a_source a_tree a_builder a_tag o.1 o.2.1, ob_X1 a_source a_source_row x_source_size x_source_overflowed, (a_source_row, .inl (G.2.1 0, 200, .inl x_source_row)), ob_X7 a_tree a_tree_codes a_tree_begins a_tree_ends o.2.2.1 a_tree_characters a_tree_attributeLetters a_tree_valueBegins a_tree_valueEnds x_tree_attributeCount a_tree_values, (a_tree_codes, .inl (G.2.1 1, 200, .inl o.2.2.2.1)), (a_tree_begins, .inl (G.2.1 1, 200, .inl o.2.2.2.2.1)), (a_tree_ends, .inl (G.2.1 1, 200, .inl o.2.2.2.2.2.1)), ob_X1 a_tree_characters a_tree_characters_row o.2.2.2.2.2.2.1 o.2.2.2.2.2.2.2.1, (a_tree_characters_row, .inl (G.2.1 0, 200, .inl o.2.2.2.2.2.2.2.2.1)), ob_X0 a_builder a_source a_tree a_builder_open, ob_X2 a_builder_open a_builder_open_names a_builder_open_foreigns x_builder_open_count] → lv_has ls 2 [(0, .ref a_this), (1, .int o.2.2.2.2.2.2.2.2.2)] → W p l e rm_X4_readRaw s m args below meth c H locs 0 0 Q (F0 m 43 ls [])) : ∀ (n : Nat) (x_at : Int32) (x_rawDue : Int32) (x_tree_count : Int32) (x_tree_codes : Nat → Int32) (x_tree_begins : Nat → Int32) (x_tree_ends : Nat → Int32) (x_tree_characters_size : Int32) (x_tree_characters_overflowed : Int32) (x_tree_characters_row : Nat → Int32) (v1 : Int32) (H : Heap) (locs : List Loc) (ls : Array Slot), f_X4_readRaw_L5 x_source_size x_source_row x_builder_open_count n x_at x_rawDue x_tree_count x_tree_codes x_tree_begins x_tree_ends x_tree_characters_size x_tree_characters_overflowed x_tree_characters_row v1 = some o → ms_W G A s H locs [ob_X4 a_this a_source a_tree a_builder a_tag x_at x_rawDue, ob_X1 a_source a_source_row x_source_size x_source_overflowed, (a_source_row, .inl (G.2.1 0, 200, .inl x_source_row)), ob_X7 a_tree a_tree_codes a_tree_begins a_tree_ends x_tree_count a_tree_characters a_tree_attributeLetters a_tree_valueBegins a_tree_valueEnds x_tree_attributeCount a_tree_values, (a_tree_codes, .inl (G.2.1 1, 200, .inl x_tree_codes)), (a_tree_begins, .inl (G.2.1 1, 200, .inl x_tree_begins)), (a_tree_ends, .inl (G.2.1 1, 200, .inl x_tree_ends)), ob_X1 a_tree_characters a_tree_characters_row x_tree_characters_size x_tree_characters_overflowed, (a_tree_characters_row, .inl (G.2.1 0, 200, .inl x_tree_characters_row)), ob_X0 a_builder a_source a_tree a_builder_open, ob_X2 a_builder_open a_builder_open_names a_builder_open_foreigns x_builder_open_count] → lv_has ls 2 [(0, .ref a_this), (1, .int v1)] → W p l e rm_X4_readRaw s m args below meth c H locs 0 0 Q (F0 m 5 ls []) := by
  have hx := hX.1.1
  have hb := hX.1.2.1
  intro n
  induction n with
  | zero => intro x_at x_rawDue x_tree_count x_tree_codes x_tree_begins x_tree_ends x_tree_characters_size x_tree_characters_overflowed x_tree_characters_row v1 H locs ls h; rw [f_X4_readRaw_L5] at h; cases h
  | succ n ih =>
    intro x_at x_rawDue x_tree_count x_tree_codes x_tree_begins x_tree_ends x_tree_characters_size x_tree_characters_overflowed x_tree_characters_row v1 H locs ls h hW hl
    rw [f_X4_readRaw_L5] at h
    refine lv_aload_n hx hb dX4_readRaw_5 rfl (lv_at hl 0 rfl) ?_
    refine ms_get ff_X4_35 hX hW 0 rfl rfl dX4_readRaw_6 ?_
    refine lv_aload_n hx hb dX4_readRaw_9 rfl (lv_at hl 0 rfl) ?_
    refine ms_get ff_X4_9 hX hW 0 rfl rfl dX4_readRaw_10 ?_
    obtain ⟨q13, hq13, h⟩ := ms_bd h
    refine ms_callV (fn_X1_size l G a_source a_source_row x_source_size x_source_overflowed hq13) wm_X1_size wv_X4_46 hX hW [1] rfl rfl rfl rfl rfl ⟨Nat.le_of_ble_eq_true rfl, Nat.le_of_ble_eq_true rfl, rfl, rfl, Nat.zero_le _, Nat.zero_le _⟩ rfl hl.1 [.int x_at] rfl (Nat.le_of_ble_eq_true rfl) dX4_readRaw_13 (fun H locs hW => ?_)
    have hW : ms_W G A s H locs [ob_X4 a_this a_source a_tree a_builder a_tag x_at x_rawDue, ob_X1 a_source a_source_row x_source_size x_source_overflowed, (a_source_row, .inl (G.2.1 0, 200, .inl x_source_row)), ob_X7 a_tree a_tree_codes a_tree_begins a_tree_ends x_tree_count a_tree_characters a_tree_attributeLetters a_tree_valueBegins a_tree_valueEnds x_tree_attributeCount a_tree_values, (a_tree_codes, .inl (G.2.1 1, 200, .inl x_tree_codes)), (a_tree_begins, .inl (G.2.1 1, 200, .inl x_tree_begins)), (a_tree_ends, .inl (G.2.1 1, 200, .inl x_tree_ends)), ob_X1 a_tree_characters a_tree_characters_row x_tree_characters_size x_tree_characters_overflowed, (a_tree_characters_row, .inl (G.2.1 0, 200, .inl x_tree_characters_row)), ob_X0 a_builder a_source a_tree a_builder_open, ob_X2 a_builder_open a_builder_open_names a_builder_open_foreigns x_builder_open_count] := hW
    refine W.eq (g2 := F0 m 16 ls [.int q13, .int x_at]) rfl ?_
    refine lv_icmp_ge (tgt := 43) hx hb dX4_readRaw_16 (by decide) (fun k => ?_) (fun k => ?_)
    · have h := ms_ifp h k
      obtain rfl := Option.some.inj h
      exact hq _ _ _ hW (lv_sub hl [0, 1] rfl)
    · have h := ms_ifn h k
      refine lv_aload_n hx hb dX4_readRaw_19 rfl (lv_at hl 0 rfl) ?_
      refine lv_aload_n hx hb dX4_readRaw_20 rfl (lv_at hl 0 rfl) ?_
      refine ms_get ff_X4_35 hX hW 0 rfl rfl dX4_readRaw_21 ?_
      obtain ⟨q24, hq24, h⟩ := ms_bd h
      refine ms_callV (fn_X4_isRawEnd l G a_this a_source a_tree a_builder a_tag a_source_row x_at x_rawDue x_source_size x_source_overflowed x_source_row x_at hq24) wm_X4_isRawEnd wv_X4_93 hX hW [0, 1, 2] rfl rfl rfl rfl rfl ⟨Nat.le_of_ble_eq_true rfl, Nat.le_of_ble_eq_true rfl, rfl, rfl, Nat.zero_le _, Nat.zero_le _⟩ rfl hl.1 [] rfl (Nat.le_of_ble_eq_true rfl) dX4_readRaw_24 (fun H locs hW => ?_)
      have hW : ms_W G A s H locs [ob_X4 a_this a_source a_tree a_builder a_tag x_at x_rawDue, ob_X1 a_source a_source_row x_source_size x_source_overflowed, (a_source_row, .inl (G.2.1 0, 200, .inl x_source_row)), ob_X7 a_tree a_tree_codes a_tree_begins a_tree_ends x_tree_count a_tree_characters a_tree_attributeLetters a_tree_valueBegins a_tree_valueEnds x_tree_attributeCount a_tree_values, (a_tree_codes, .inl (G.2.1 1, 200, .inl x_tree_codes)), (a_tree_begins, .inl (G.2.1 1, 200, .inl x_tree_begins)), (a_tree_ends, .inl (G.2.1 1, 200, .inl x_tree_ends)), ob_X1 a_tree_characters a_tree_characters_row x_tree_characters_size x_tree_characters_overflowed, (a_tree_characters_row, .inl (G.2.1 0, 200, .inl x_tree_characters_row)), ob_X0 a_builder a_source a_tree a_builder_open, ob_X2 a_builder_open a_builder_open_names a_builder_open_foreigns x_builder_open_count] := hW
      refine W.eq (g2 := F0 m 27 ls [.int q24]) rfl ?_
      refine lv_if_ne (tgt := 43) hx hb dX4_readRaw_27 (by decide) (fun k => ?_) (fun k => ?_)
      · have h := ms_ifn h k
        obtain rfl := Option.some.inj h
        exact hq _ _ _ hW (lv_sub hl [0, 1] rfl)
      · have h := ms_ifp h k
        refine lv_aload_n hx hb dX4_readRaw_30 rfl (lv_at hl 0 rfl) ?_
        refine lv_dup hx hb dX4_readRaw_31 rfl ?_
        refine ms_get ff_X4_35 hX hW 0 rfl rfl dX4_readRaw_32 ?_
        refine lv_iconst (v := 1) hx hb dX4_readRaw_35 (by decide) ?_
        refine lv_iadd hx hb dX4_readRaw_36 ?_
        refine ms_put ff_X4_35 fp_X4_4 rfl hX hW 0 rfl rfl rfl (Nat.le_of_ble_eq_true rfl) dX4_readRaw_37 (fun H locs hW => ?_)
        have hW : ms_W G A s H locs [ob_X4 a_this a_source a_tree a_builder a_tag (x_at + 1) x_rawDue, ob_X1 a_source a_source_row x_source_size x_source_overflowed, (a_source_row, .inl (G.2.1 0, 200, .inl x_source_row)), ob_X7 a_tree a_tree_codes a_tree_begins a_tree_ends x_tree_count a_tree_characters a_tree_attributeLetters a_tree_valueBegins a_tree_valueEnds x_tree_attributeCount a_tree_values, (a_tree_codes, .inl (G.2.1 1, 200, .inl x_tree_codes)), (a_tree_begins, .inl (G.2.1 1, 200, .inl x_tree_begins)), (a_tree_ends, .inl (G.2.1 1, 200, .inl x_tree_ends)), ob_X1 a_tree_characters a_tree_characters_row x_tree_characters_size x_tree_characters_overflowed, (a_tree_characters_row, .inl (G.2.1 0, 200, .inl x_tree_characters_row)), ob_X0 a_builder a_source a_tree a_builder_open, ob_X2 a_builder_open a_builder_open_names a_builder_open_foreigns x_builder_open_count] := hW
        refine lv_goto (tgt := 5) hx hb dX4_readRaw_40 (by decide) ?_
        exact ih _ _ _ _ _ _ _ _ _ _ _ _ _ h hW (lv_sub hl [0, 1] rfl)
def f_X4_readRaw (x_at : Int32) (x_rawDue : Int32) (x_source_size : Int32) (x_source_row : Nat → Int32) (x_tree_count : Int32) (x_tree_codes : Nat → Int32) (x_tree_begins : Nat → Int32) (x_tree_ends : Nat → Int32) (x_tree_characters_size : Int32) (x_tree_characters_overflowed : Int32) (x_tree_characters_row : Nat → Int32) (x_builder_open_count : Int32)  : Option (Int32 × Int32 × Int32 × (Nat → Int32) × (Nat → Int32) × (Nat → Int32) × Int32 × Int32 × (Nat → Int32)) := (f_X4_readRaw_L5 x_source_size x_source_row x_builder_open_count 1000 x_at x_rawDue x_tree_count x_tree_codes x_tree_begins x_tree_ends x_tree_characters_size x_tree_characters_overflowed x_tree_characters_row x_at).bind (fun w5 => (if w5.1 ≤ w5.2.2.2.2.2.2.2.2.2 then some (w5.1, 0, w5.2.2.1, w5.2.2.2.1, w5.2.2.2.2.1, w5.2.2.2.2.2.1, w5.2.2.2.2.2.2.1, w5.2.2.2.2.2.2.2.1, w5.2.2.2.2.2.2.2.2.1) else (f_X0_depth x_builder_open_count).bind (fun q59 => (f_X7_addRaw w5.2.2.1 w5.2.2.2.1 w5.2.2.2.2.1 w5.2.2.2.2.2.1 w5.2.2.2.2.2.2.1 w5.2.2.2.2.2.2.2.1 w5.2.2.2.2.2.2.2.2.1 x_source_size x_source_row q59 w5.2.2.2.2.2.2.2.2.2 w5.1).bind (fun q71 => some (w5.1, 0, q71.1, q71.2.1, q71.2.2.1, q71.2.2.2.1, q71.2.2.2.2.1, q71.2.2.2.2.2.1, q71.2.2.2.2.2.2)))))
set_option maxHeartbeats 4000000 in
set_option maxRecDepth 100000 in
theorem fn_X4_readRaw (l : Launch) (G : Gc) (a_this : Nat) (a_source : Nat) (a_tree : Nat) (a_builder : Nat) (a_tag : Nat) (a_source_row : Nat) (a_tree_codes : Nat) (a_tree_begins : Nat) (a_tree_ends : Nat) (a_tree_characters : Nat) (a_tree_attributeLetters : Nat) (a_tree_valueBegins : Nat) (a_tree_valueEnds : Nat) (a_tree_values : Nat) (a_tree_characters_row : Nat) (a_builder_open : Nat) (a_builder_open_names : Nat) (a_builder_open_foreigns : Nat) (x_at : Int32) (x_rawDue : Int32) (x_source_size : Int32) (x_source_overflowed : Int32) (x_source_row : Nat → Int32) (x_tree_count : Int32) (x_tree_attributeCount : Int32) (x_tree_codes : Nat → Int32) (x_tree_begins : Nat → Int32) (x_tree_ends : Nat → Int32) (x_tree_characters_size : Int32) (x_tree_characters_overflowed : Int32) (x_tree_characters_row : Nat → Int32) (x_builder_open_count : Int32)   {o : Int32 × Int32 × Int32 × (Nat → Int32) × (Nat → Int32) × (Nat → Int32) × Int32 × Int32 × (Nat → Int32)} (h : f_X4_readRaw x_at x_rawDue x_source_size x_source_row x_tree_count x_tree_codes x_tree_begins x_tree_ends x_tree_characters_size x_tree_characters_overflowed x_tree_characters_row x_builder_open_count = some o) : ms_Fn l G yX4_readRaw cX4_readRaw 2 none rm_X4_readRaw [.ref a_this] [ob_X4 a_this a_source a_tree a_builder a_tag x_at x_rawDue, ob_X1 a_source a_source_row x_source_size x_source_overflowed, (a_source_row, .inl (G.2.1 0, 200, .inl x_source_row)), ob_X7 a_tree a_tree_codes a_tree_begins a_tree_ends x_tree_count a_tree_characters a_tree_attributeLetters a_tree_valueBegins a_tree_valueEnds x_tree_attributeCount a_tree_values, (a_tree_codes, .inl (G.2.1 1, 200, .inl x_tree_codes)), (a_tree_begins, .inl (G.2.1 1, 200, .inl x_tree_begins)), (a_tree_ends, .inl (G.2.1 1, 200, .inl x_tree_ends)), ob_X1 a_tree_characters a_tree_characters_row x_tree_characters_size x_tree_characters_overflowed, (a_tree_characters_row, .inl (G.2.1 0, 200, .inl x_tree_characters_row)), ob_X0 a_builder a_source a_tree a_builder_open, ob_X2 a_builder_open a_builder_open_names a_builder_open_foreigns x_builder_open_count] [ob_X4 a_this a_source a_tree a_builder a_tag o.1 o.2.1, ob_X1 a_source a_source_row x_source_size x_source_overflowed, (a_source_row, .inl (G.2.1 0, 200, .inl x_source_row)), ob_X7 a_tree a_tree_codes a_tree_begins a_tree_ends o.2.2.1 a_tree_characters a_tree_attributeLetters a_tree_valueBegins a_tree_valueEnds x_tree_attributeCount a_tree_values, (a_tree_codes, .inl (G.2.1 1, 200, .inl o.2.2.2.1)), (a_tree_begins, .inl (G.2.1 1, 200, .inl o.2.2.2.2.1)), (a_tree_ends, .inl (G.2.1 1, 200, .inl o.2.2.2.2.2.1)), ob_X1 a_tree_characters a_tree_characters_row o.2.2.2.2.2.2.1 o.2.2.2.2.2.2.2.1, (a_tree_characters_row, .inl (G.2.1 0, 200, .inl o.2.2.2.2.2.2.2.2)), ob_X0 a_builder a_source a_tree a_builder_open, ob_X2 a_builder_open a_builder_open_names a_builder_open_foreigns x_builder_open_count] none := by
  refine ms_start RX4 (by decide +kernel) rfl (Nat.le_of_ble_eq_true rfl) (fun p e s m below meth c A ls hX hW hl => ?_)
  have hx := hX.1.1
  have hb := hX.1.2.1
  have hl : lv_has ls 2 [(0, .ref a_this)] := hl
  unfold f_X4_readRaw at h
  refine lv_aload_n hx hb dX4_readRaw_0 rfl (lv_at hl 0 rfl) ?_
  refine ms_get ff_X4_35 hX hW 0 rfl rfl dX4_readRaw_1 ?_
  refine lv_istore_n (lv' := [(1, .int x_at), (0, .ref a_this)]) hx hb dX4_readRaw_4 rfl hl (by decide) rfl (fun ls hl => ?_)
  obtain ⟨w5, hqw5, h⟩ := ms_bd h
  refine wb_X4_readRaw_L5 hX (o := w5) (fun H locs ls hW hl => ?_) _ _ _ _ _ _ _ _ _ _ _ _ _ _ hqw5 hW (lv_sub hl [1, 0] rfl)
  refine lv_aload_n hx hb dX4_readRaw_43 rfl (lv_at hl 0 rfl) ?_
  refine ms_get ff_X4_35 hX hW 0 rfl rfl dX4_readRaw_44 ?_
  refine lv_iload_n hx hb dX4_readRaw_47 rfl (lv_at hl 1 rfl) ?_
  refine lv_icmp_le (tgt := 74) hx hb dX4_readRaw_48 (by decide) (fun k => ?_) (fun k => ?_)
  · have h := ms_ifp h k
    refine lv_aload_n hx hb dX4_readRaw_74 rfl (lv_at hl 0 rfl) ?_
    refine lv_iconst (v := 0) hx hb dX4_readRaw_75 (by decide) ?_
    refine ms_put ff_X4_39 fp_X4_5 rfl hX hW 0 rfl (by decide) (by decide) (Nat.le_of_ble_eq_true rfl) dX4_readRaw_76 (fun H locs hW => ?_)
    have hW : ms_W G A s H locs [ob_X4 a_this a_source a_tree a_builder a_tag w5.1 0, ob_X1 a_source a_source_row x_source_size x_source_overflowed, (a_source_row, .inl (G.2.1 0, 200, .inl x_source_row)), ob_X7 a_tree a_tree_codes a_tree_begins a_tree_ends w5.2.2.1 a_tree_characters a_tree_attributeLetters a_tree_valueBegins a_tree_valueEnds x_tree_attributeCount a_tree_values, (a_tree_codes, .inl (G.2.1 1, 200, .inl w5.2.2.2.1)), (a_tree_begins, .inl (G.2.1 1, 200, .inl w5.2.2.2.2.1)), (a_tree_ends, .inl (G.2.1 1, 200, .inl w5.2.2.2.2.2.1)), ob_X1 a_tree_characters a_tree_characters_row w5.2.2.2.2.2.2.1 w5.2.2.2.2.2.2.2.1, (a_tree_characters_row, .inl (G.2.1 0, 200, .inl w5.2.2.2.2.2.2.2.2.1)), ob_X0 a_builder a_source a_tree a_builder_open, ob_X2 a_builder_open a_builder_open_names a_builder_open_foreigns x_builder_open_count] := hW
    obtain rfl := Option.some.inj h
    exact ms_vret hX hW dX4_readRaw_79
  · have h := ms_ifn h k
    refine lv_aload_n hx hb dX4_readRaw_51 rfl (lv_at hl 0 rfl) ?_
    refine ms_get ff_X4_15 hX hW 0 rfl rfl dX4_readRaw_52 ?_
    refine lv_aload_n hx hb dX4_readRaw_55 rfl (lv_at hl 0 rfl) ?_
    refine ms_get ff_X4_24 hX hW 0 rfl rfl dX4_readRaw_56 ?_
    obtain ⟨q59, hq59, h⟩ := ms_bd h
    refine ms_callV (fn_X0_depth l G a_builder a_source a_tree a_builder_open a_builder_open_names a_builder_open_foreigns x_builder_open_count hq59) wm_X0_depth wv_X4_96 hX hW [9, 10] rfl rfl rfl rfl rfl ⟨Nat.le_of_ble_eq_true rfl, Nat.le_of_ble_eq_true rfl, rfl, rfl, Nat.zero_le _, Nat.zero_le _⟩ rfl hl.1 [.ref a_tree] rfl (Nat.le_of_ble_eq_true rfl) dX4_readRaw_59 (fun H locs hW => ?_)
    have hW : ms_W G A s H locs [ob_X4 a_this a_source a_tree a_builder a_tag w5.1 w5.2.1, ob_X1 a_source a_source_row x_source_size x_source_overflowed, (a_source_row, .inl (G.2.1 0, 200, .inl x_source_row)), ob_X7 a_tree a_tree_codes a_tree_begins a_tree_ends w5.2.2.1 a_tree_characters a_tree_attributeLetters a_tree_valueBegins a_tree_valueEnds x_tree_attributeCount a_tree_values, (a_tree_codes, .inl (G.2.1 1, 200, .inl w5.2.2.2.1)), (a_tree_begins, .inl (G.2.1 1, 200, .inl w5.2.2.2.2.1)), (a_tree_ends, .inl (G.2.1 1, 200, .inl w5.2.2.2.2.2.1)), ob_X1 a_tree_characters a_tree_characters_row w5.2.2.2.2.2.2.1 w5.2.2.2.2.2.2.2.1, (a_tree_characters_row, .inl (G.2.1 0, 200, .inl w5.2.2.2.2.2.2.2.2.1)), ob_X0 a_builder a_source a_tree a_builder_open, ob_X2 a_builder_open a_builder_open_names a_builder_open_foreigns x_builder_open_count] := hW
    refine W.eq (g2 := F0 m 62 ls [.int q59, .ref a_tree]) rfl ?_
    refine lv_aload_n hx hb dX4_readRaw_62 rfl (lv_at hl 0 rfl) ?_
    refine ms_get ff_X4_9 hX hW 0 rfl rfl dX4_readRaw_63 ?_
    refine lv_iload_n hx hb dX4_readRaw_66 rfl (lv_at hl 1 rfl) ?_
    refine lv_aload_n hx hb dX4_readRaw_67 rfl (lv_at hl 0 rfl) ?_
    refine ms_get ff_X4_35 hX hW 0 rfl rfl dX4_readRaw_68 ?_
    obtain ⟨q71, hq71, h⟩ := ms_bd h
    refine ms_callV (fn_X7_addRaw l G a_tree a_tree_codes a_tree_begins a_tree_ends a_tree_characters a_tree_attributeLetters a_tree_valueBegins a_tree_valueEnds a_tree_values a_tree_characters_row a_source a_source_row w5.2.2.1 x_tree_attributeCount w5.2.2.2.1 w5.2.2.2.2.1 w5.2.2.2.2.2.1 w5.2.2.2.2.2.2.1 w5.2.2.2.2.2.2.2.1 w5.2.2.2.2.2.2.2.2.1 x_source_size x_source_overflowed x_source_row q59 w5.2.2.2.2.2.2.2.2.2 w5.1 hq71) wm_X7_addRaw wv_X4_99 hX hW [3, 4, 5, 6, 7, 8, 1, 2] rfl rfl rfl rfl rfl ⟨Nat.le_of_ble_eq_true rfl, Nat.le_of_ble_eq_true rfl, rfl, rfl, Nat.zero_le _, Nat.zero_le _⟩ rfl hl.1 [] rfl (Nat.le_of_ble_eq_true rfl) dX4_readRaw_71 (fun H locs hW => ?_)
    have hW : ms_W G A s H locs [ob_X4 a_this a_source a_tree a_builder a_tag w5.1 w5.2.1, ob_X1 a_source a_source_row x_source_size x_source_overflowed, (a_source_row, .inl (G.2.1 0, 200, .inl x_source_row)), ob_X7 a_tree a_tree_codes a_tree_begins a_tree_ends q71.1 a_tree_characters a_tree_attributeLetters a_tree_valueBegins a_tree_valueEnds x_tree_attributeCount a_tree_values, (a_tree_codes, .inl (G.2.1 1, 200, .inl q71.2.1)), (a_tree_begins, .inl (G.2.1 1, 200, .inl q71.2.2.1)), (a_tree_ends, .inl (G.2.1 1, 200, .inl q71.2.2.2.1)), ob_X1 a_tree_characters a_tree_characters_row q71.2.2.2.2.1 q71.2.2.2.2.2.1, (a_tree_characters_row, .inl (G.2.1 0, 200, .inl q71.2.2.2.2.2.2)), ob_X0 a_builder a_source a_tree a_builder_open, ob_X2 a_builder_open a_builder_open_names a_builder_open_foreigns x_builder_open_count] := hW
    refine W.eq (g2 := F0 m 74 ls []) rfl ?_
    refine lv_aload_n hx hb dX4_readRaw_74 rfl (lv_at hl 0 rfl) ?_
    refine lv_iconst (v := 0) hx hb dX4_readRaw_75 (by decide) ?_
    refine ms_put ff_X4_39 fp_X4_5 rfl hX hW 0 rfl (by decide) (by decide) (Nat.le_of_ble_eq_true rfl) dX4_readRaw_76 (fun H locs hW => ?_)
    have hW : ms_W G A s H locs [ob_X4 a_this a_source a_tree a_builder a_tag w5.1 0, ob_X1 a_source a_source_row x_source_size x_source_overflowed, (a_source_row, .inl (G.2.1 0, 200, .inl x_source_row)), ob_X7 a_tree a_tree_codes a_tree_begins a_tree_ends q71.1 a_tree_characters a_tree_attributeLetters a_tree_valueBegins a_tree_valueEnds x_tree_attributeCount a_tree_values, (a_tree_codes, .inl (G.2.1 1, 200, .inl q71.2.1)), (a_tree_begins, .inl (G.2.1 1, 200, .inl q71.2.2.1)), (a_tree_ends, .inl (G.2.1 1, 200, .inl q71.2.2.2.1)), ob_X1 a_tree_characters a_tree_characters_row q71.2.2.2.2.1 q71.2.2.2.2.2.1, (a_tree_characters_row, .inl (G.2.1 0, 200, .inl q71.2.2.2.2.2.2)), ob_X0 a_builder a_source a_tree a_builder_open, ob_X2 a_builder_open a_builder_open_names a_builder_open_foreigns x_builder_open_count] := hW
    obtain rfl := Option.some.inj h
    exact ms_vret hX hW dX4_readRaw_79
def rm_X4_isMarkup : Room := { frames := 1, cells := 0, slots := 0, locals := 21 }
def f_X4_isMarkup (x_source_size : Int32) (x_source_row : Nat → Int32) (v1 : Int32) : Option (Int32) := (f_X1_at x_source_size x_source_row (v1 + 1)).bind (fun q7 => (f_X1_at x_source_size x_source_row v1).bind (fun q16 => (if q16 = 60 then (if q7 = 33 then some 1 else (if q7 = 63 then some 1 else (if q7 = 47 then some 1 else (f_X9_isLetter q7).bind (fun q43 => (if q43 = 0 then some 0 else some 1))))) else some 0)))
set_option maxHeartbeats 4000000 in
set_option maxRecDepth 100000 in
theorem fn_X4_isMarkup (l : Launch) (G : Gc) (a_this : Nat) (a_source : Nat) (a_tree : Nat) (a_builder : Nat) (a_tag : Nat) (a_source_row : Nat) (x_at : Int32) (x_rawDue : Int32) (x_source_size : Int32) (x_source_overflowed : Int32) (x_source_row : Nat → Int32) (v1 : Int32)  {o : Int32} (h : f_X4_isMarkup x_source_size x_source_row v1 = some o) : ms_Fn l G yX4_isMarkup cX4_isMarkup 3 (some .boolean) rm_X4_isMarkup [.ref a_this, .int v1] [ob_X4 a_this a_source a_tree a_builder a_tag x_at x_rawDue, ob_X1 a_source a_source_row x_source_size x_source_overflowed, (a_source_row, .inl (G.2.1 0, 200, .inl x_source_row))] [ob_X4 a_this a_source a_tree a_builder a_tag x_at x_rawDue, ob_X1 a_source a_source_row x_source_size x_source_overflowed, (a_source_row, .inl (G.2.1 0, 200, .inl x_source_row))] (some (.int o)) := by
  refine ms_start RX4 (by decide +kernel) rfl (Nat.le_of_ble_eq_true rfl) (fun p e s m below meth c A ls hX hW hl => ?_)
  have hx := hX.1.1
  have hb := hX.1.2.1
  have hl : lv_has ls 3 [(0, .ref a_this), (1, .int v1)] := hl
  unfold f_X4_isMarkup at h
  refine lv_aload_n hx hb dX4_isMarkup_0 rfl (lv_at hl 0 rfl) ?_
  refine ms_get ff_X4_9 hX hW 0 rfl rfl dX4_isMarkup_1 ?_
  refine lv_iload_n hx hb dX4_isMarkup_4 rfl (lv_at hl 1 rfl) ?_
  refine lv_iconst (v := 1) hx hb dX4_isMarkup_5 (by decide) ?_
  refine lv_iadd hx hb dX4_isMarkup_6 ?_
  obtain ⟨q7, hq7, h⟩ := ms_bd h
  refine ms_callV (fn_X1_at l G a_source a_source_row x_source_size x_source_overflowed x_source_row (v1 + 1) hq7) wm_X1_at wv_X4_86 hX hW [1, 2] rfl rfl rfl rfl rfl ⟨Nat.le_of_ble_eq_true rfl, Nat.le_of_ble_eq_true rfl, rfl, rfl, Nat.zero_le _, Nat.zero_le _⟩ rfl hl.1 [] rfl (Nat.le_of_ble_eq_true rfl) dX4_isMarkup_7 (fun H locs hW => ?_)
  have hW : ms_W G A s H locs [ob_X4 a_this a_source a_tree a_builder a_tag x_at x_rawDue, ob_X1 a_source a_source_row x_source_size x_source_overflowed, (a_source_row, .inl (G.2.1 0, 200, .inl x_source_row))] := hW
  refine W.eq (g2 := F0 m 10 ls [.int q7]) rfl ?_
  refine lv_istore_n (lv' := [(2, .int q7), (0, .ref a_this), (1, .int v1)]) hx hb dX4_isMarkup_10 rfl hl (by decide) rfl (fun ls hl => ?_)
  refine lv_aload_n hx hb dX4_isMarkup_11 rfl (lv_at hl 1 rfl) ?_
  refine ms_get ff_X4_9 hX hW 0 rfl rfl dX4_isMarkup_12 ?_
  refine lv_iload_n hx hb dX4_isMarkup_15 rfl (lv_at hl 2 rfl) ?_
  obtain ⟨q16, hq16, h⟩ := ms_bd h
  refine ms_callV (fn_X1_at l G a_source a_source_row x_source_size x_source_overflowed x_source_row v1 hq16) wm_X1_at wv_X4_86 hX hW [1, 2] rfl rfl rfl rfl rfl ⟨Nat.le_of_ble_eq_true rfl, Nat.le_of_ble_eq_true rfl, rfl, rfl, Nat.zero_le _, Nat.zero_le _⟩ rfl hl.1 [] rfl (Nat.le_of_ble_eq_true rfl) dX4_isMarkup_16 (fun H locs hW => ?_)
  have hW : ms_W G A s H locs [ob_X4 a_this a_source a_tree a_builder a_tag x_at x_rawDue, ob_X1 a_source a_source_row x_source_size x_source_overflowed, (a_source_row, .inl (G.2.1 0, 200, .inl x_source_row))] := hW
  refine W.eq (g2 := F0 m 19 ls [.int q16]) rfl ?_
  refine lv_bipush (v := 60) hx hb dX4_isMarkup_19 (by decide) ?_
  refine lv_icmp_ne (tgt := 53) hx hb dX4_isMarkup_21 (by decide) (fun k => ?_) (fun k => ?_)
  · have h := ms_ifn h k
    refine lv_iconst (v := 0) hx hb dX4_isMarkup_53 (by decide) ?_
    obtain rfl := Option.some.inj h
    exact ms_zret hX (ms_nz (Or.inl rfl)) hW dX4_isMarkup_54
  · have h := ms_ifp h k
    refine lv_iload_n hx hb dX4_isMarkup_24 rfl (lv_at hl 0 rfl) ?_
    refine lv_bipush (v := 33) hx hb dX4_isMarkup_25 (by decide) ?_
    refine lv_icmp_eq (tgt := 49) hx hb dX4_isMarkup_27 (by decide) (fun k => ?_) (fun k => ?_)
    · have h := ms_ifp h k
      refine lv_iconst (v := 1) hx hb dX4_isMarkup_49 (by decide) ?_
      refine lv_goto (tgt := 54) hx hb dX4_isMarkup_50 (by decide) ?_
      obtain rfl := Option.some.inj h
      exact ms_zret hX (ms_nz (Or.inr rfl)) hW dX4_isMarkup_54
    · have h := ms_ifn h k
      refine lv_iload_n hx hb dX4_isMarkup_30 rfl (lv_at hl 0 rfl) ?_
      refine lv_bipush (v := 63) hx hb dX4_isMarkup_31 (by decide) ?_
      refine lv_icmp_eq (tgt := 49) hx hb dX4_isMarkup_33 (by decide) (fun k => ?_) (fun k => ?_)
      · have h := ms_ifp h k
        refine lv_iconst (v := 1) hx hb dX4_isMarkup_49 (by decide) ?_
        refine lv_goto (tgt := 54) hx hb dX4_isMarkup_50 (by decide) ?_
        obtain rfl := Option.some.inj h
        exact ms_zret hX (ms_nz (Or.inr rfl)) hW dX4_isMarkup_54
      · have h := ms_ifn h k
        refine lv_iload_n hx hb dX4_isMarkup_36 rfl (lv_at hl 0 rfl) ?_
        refine lv_bipush (v := 47) hx hb dX4_isMarkup_37 (by decide) ?_
        refine lv_icmp_eq (tgt := 49) hx hb dX4_isMarkup_39 (by decide) (fun k => ?_) (fun k => ?_)
        · have h := ms_ifp h k
          refine lv_iconst (v := 1) hx hb dX4_isMarkup_49 (by decide) ?_
          refine lv_goto (tgt := 54) hx hb dX4_isMarkup_50 (by decide) ?_
          obtain rfl := Option.some.inj h
          exact ms_zret hX (ms_nz (Or.inr rfl)) hW dX4_isMarkup_54
        · have h := ms_ifn h k
          refine lv_iload_n hx hb dX4_isMarkup_42 rfl (lv_at hl 0 rfl) ?_
          obtain ⟨q43, hq43, h⟩ := ms_bd h
          refine ms_callN (host := RX9) (fn_X9_isLetter l G q7 hq43) wm_X9_isLetter (List.mem_of_getElem? (i := 1) rfl) wt_X9_isLetter hX hW [] rfl rfl rfl ⟨Nat.le_of_ble_eq_true rfl, Nat.le_of_ble_eq_true rfl, rfl, rfl, Nat.zero_le _, Nat.zero_le _⟩ rfl hl.1 [] rfl (Nat.le_of_ble_eq_true rfl) dX4_isMarkup_43 (fun H locs hW => ?_)
          have hW : ms_W G A s H locs [ob_X4 a_this a_source a_tree a_builder a_tag x_at x_rawDue, ob_X1 a_source a_source_row x_source_size x_source_overflowed, (a_source_row, .inl (G.2.1 0, 200, .inl x_source_row))] := hW
          refine W.eq (g2 := F0 m 46 ls [.int q43]) rfl ?_
          refine lv_if_eq (tgt := 53) hx hb dX4_isMarkup_46 (by decide) (fun k => ?_) (fun k => ?_)
          · have h := ms_ifp h k
            refine lv_iconst (v := 0) hx hb dX4_isMarkup_53 (by decide) ?_
            obtain rfl := Option.some.inj h
            exact ms_zret hX (ms_nz (Or.inl rfl)) hW dX4_isMarkup_54
          · have h := ms_ifn h k
            refine lv_iconst (v := 1) hx hb dX4_isMarkup_49 (by decide) ?_
            refine lv_goto (tgt := 54) hx hb dX4_isMarkup_50 (by decide) ?_
            obtain rfl := Option.some.inj h
            exact ms_zret hX (ms_nz (Or.inr rfl)) hW dX4_isMarkup_54
def rm_X7_addText : Room := { frames := 7, cells := 0, slots := 0, locals := 156 }
def f_X7_addText (x_count : Int32) (x_codes : Nat → Int32) (x_begins : Nat → Int32) (x_ends : Nat → Int32) (x_characters_size : Int32) (x_characters_overflowed : Int32) (x_characters_row : Nat → Int32) (x_a2_size : Int32) (x_a2_row : Nat → Int32) (v1 : Int32) (v3 : Int32) (v4 : Int32) : Option (Int32 × (Nat → Int32) × (Nat → Int32) × (Nat → Int32) × Int32 × Int32 × (Nat → Int32)) := (f_X7_openText x_count x_codes x_begins x_ends x_characters_size v1).bind (fun q2 => (f_X1_addResolved x_characters_size x_characters_overflowed x_characters_row x_a2_size x_a2_row v3 v4).bind (fun q15 => (f_X7_endCharacters q2.1 q2.2.2.2.1 q15.1 q2.2.2.2.2).bind (fun q21 => some (q2.1, q2.2.1, q2.2.2.1, q21, q15.1, q15.2.1, q15.2.2))))
set_option maxHeartbeats 4000000 in
set_option maxRecDepth 100000 in
theorem fn_X7_addText (l : Launch) (G : Gc) (a_this : Nat) (a_codes : Nat) (a_begins : Nat) (a_ends : Nat) (a_characters : Nat) (a_attributeLetters : Nat) (a_valueBegins : Nat) (a_valueEnds : Nat) (a_values : Nat) (a_characters_row : Nat) (a_a2 : Nat) (a_a2_row : Nat) (x_count : Int32) (x_attributeCount : Int32) (x_codes : Nat → Int32) (x_begins : Nat → Int32) (x_ends : Nat → Int32) (x_characters_size : Int32) (x_characters_overflowed : Int32) (x_characters_row : Nat → Int32) (x_a2_size : Int32) (x_a2_overflowed : Int32) (x_a2_row : Nat → Int32) (v1 : Int32) (v3 : Int32) (v4 : Int32)  {o : Int32 × (Nat → Int32) × (Nat → Int32) × (Nat → Int32) × Int32 × Int32 × (Nat → Int32)} (h : f_X7_addText x_count x_codes x_begins x_ends x_characters_size x_characters_overflowed x_characters_row x_a2_size x_a2_row v1 v3 v4 = some o) : ms_Fn l G yX7_addText cX7_addText 6 none rm_X7_addText [.ref a_this, .int v1, .ref a_a2, .int v3, .int v4] [ob_X7 a_this a_codes a_begins a_ends x_count a_characters a_attributeLetters a_valueBegins a_valueEnds x_attributeCount a_values, (a_codes, .inl (G.2.1 1, 200, .inl x_codes)), (a_begins, .inl (G.2.1 1, 200, .inl x_begins)), (a_ends, .inl (G.2.1 1, 200, .inl x_ends)), ob_X1 a_characters a_characters_row x_characters_size x_characters_overflowed, (a_characters_row, .inl (G.2.1 0, 200, .inl x_characters_row)), ob_X1 a_a2 a_a2_row x_a2_size x_a2_overflowed, (a_a2_row, .inl (G.2.1 0, 200, .inl x_a2_row))] [ob_X7 a_this a_codes a_begins a_ends o.1 a_characters a_attributeLetters a_valueBegins a_valueEnds x_attributeCount a_values, (a_codes, .inl (G.2.1 1, 200, .inl o.2.1)), (a_begins, .inl (G.2.1 1, 200, .inl o.2.2.1)), (a_ends, .inl (G.2.1 1, 200, .inl o.2.2.2.1)), ob_X1 a_characters a_characters_row o.2.2.2.2.1 o.2.2.2.2.2.1, (a_characters_row, .inl (G.2.1 0, 200, .inl o.2.2.2.2.2.2)), ob_X1 a_a2 a_a2_row x_a2_size x_a2_overflowed, (a_a2_row, .inl (G.2.1 0, 200, .inl x_a2_row))] none := by
  refine ms_start RX7 (by decide +kernel) rfl (Nat.le_of_ble_eq_true rfl) (fun p e s m below meth c A ls hX hW hl => ?_)
  have hx := hX.1.1
  have hb := hX.1.2.1
  have hl : lv_has ls 6 [(0, .ref a_this), (1, .int v1), (2, .ref a_a2), (3, .int v3), (4, .int v4)] := hl
  unfold f_X7_addText at h
  refine lv_aload_n hx hb dX7_addText_0 rfl (lv_at hl 0 rfl) ?_
  refine lv_iload_n hx hb dX7_addText_1 rfl (lv_at hl 1 rfl) ?_
  obtain ⟨q2, hq2, h⟩ := ms_bd h
  refine ms_callV (fn_X7_openText l G a_this a_codes a_begins a_ends a_characters a_attributeLetters a_valueBegins a_valueEnds a_values a_characters_row x_count x_attributeCount x_codes x_begins x_ends x_characters_size x_characters_overflowed v1 hq2) wm_X7_openText wv_X7_93 hX hW [0, 1, 2, 3, 4] rfl rfl rfl rfl rfl ⟨Nat.le_of_ble_eq_true rfl, Nat.le_of_ble_eq_true rfl, rfl, rfl, Nat.zero_le _, Nat.zero_le _⟩ rfl hl.1 [] rfl (Nat.le_of_ble_eq_true rfl) dX7_addText_2 (fun H locs hW => ?_)
  have hW : ms_W G A s H locs [ob_X7 a_this a_codes a_begins a_ends q2.1 a_characters a_attributeLetters a_valueBegins a_valueEnds x_attributeCount a_values, (a_codes, .inl (G.2.1 1, 200, .inl q2.2.1)), (a_begins, .inl (G.2.1 1, 200, .inl q2.2.2.1)), (a_ends, .inl (G.2.1 1, 200, .inl q2.2.2.2.1)), ob_X1 a_characters a_characters_row x_characters_size x_characters_overflowed, (a_characters_row, .inl (G.2.1 0, 200, .inl x_characters_row)), ob_X1 a_a2 a_a2_row x_a2_size x_a2_overflowed, (a_a2_row, .inl (G.2.1 0, 200, .inl x_a2_row))] := hW
  refine W.eq (g2 := F0 m 5 ls [.int q2.2.2.2.2]) rfl ?_
  refine lv_istore (lv' := [(5, .int q2.2.2.2.2), (0, .ref a_this), (1, .int v1), (2, .ref a_a2), (3, .int v3), (4, .int v4)]) hx hb dX7_addText_5 hl (by decide) rfl (fun ls hl => ?_)
  refine lv_aload_n hx hb dX7_addText_7 rfl (lv_at hl 1 rfl) ?_
  refine ms_get ff_X7_28 hX hW 0 rfl rfl dX7_addText_8 ?_
  refine lv_aload_n hx hb dX7_addText_11 rfl (lv_at hl 3 rfl) ?_
  refine lv_iload_n hx hb dX7_addText_12 rfl (lv_at hl 4 rfl) ?_
  refine lv_iload hx hb dX7_addText_13 (lv_at hl 5 rfl) ?_
  obtain ⟨q15, hq15, h⟩ := ms_bd h
  refine ms_callV (fn_X1_addResolved l G a_characters a_characters_row a_a2 a_a2_row x_characters_size x_characters_overflowed x_characters_row x_a2_size x_a2_overflowed x_a2_row v3 v4 hq15) wm_X1_addResolved wv_X7_96 hX hW [4, 5, 6, 7] rfl rfl rfl rfl rfl ⟨Nat.le_of_ble_eq_true rfl, Nat.le_of_ble_eq_true rfl, rfl, rfl, Nat.zero_le _, Nat.zero_le _⟩ rfl hl.1 [] rfl (Nat.le_of_ble_eq_true rfl) dX7_addText_15 (fun H locs hW => ?_)
  have hW : ms_W G A s H locs [ob_X7 a_this a_codes a_begins a_ends q2.1 a_characters a_attributeLetters a_valueBegins a_valueEnds x_attributeCount a_values, (a_codes, .inl (G.2.1 1, 200, .inl q2.2.1)), (a_begins, .inl (G.2.1 1, 200, .inl q2.2.2.1)), (a_ends, .inl (G.2.1 1, 200, .inl q2.2.2.2.1)), ob_X1 a_characters a_characters_row q15.1 q15.2.1, (a_characters_row, .inl (G.2.1 0, 200, .inl q15.2.2)), ob_X1 a_a2 a_a2_row x_a2_size x_a2_overflowed, (a_a2_row, .inl (G.2.1 0, 200, .inl x_a2_row))] := hW
  refine W.eq (g2 := F0 m 18 ls []) rfl ?_
  refine lv_aload_n hx hb dX7_addText_18 rfl (lv_at hl 1 rfl) ?_
  refine lv_iload hx hb dX7_addText_19 (lv_at hl 0 rfl) ?_
  obtain ⟨q21, hq21, h⟩ := ms_bd h
  refine ms_callV (fn_X7_endCharacters l G a_this a_codes a_begins a_ends a_characters a_attributeLetters a_valueBegins a_valueEnds a_values a_characters_row q2.1 x_attributeCount q2.2.2.2.1 q15.1 q15.2.1 q2.2.2.2.2 hq21) wm_X7_endCharacters wv_X7_89 hX hW [0, 3, 4] rfl rfl rfl rfl rfl ⟨Nat.le_of_ble_eq_true rfl, Nat.le_of_ble_eq_true rfl, rfl, rfl, Nat.zero_le _, Nat.zero_le _⟩ rfl hl.1 [] rfl (Nat.le_of_ble_eq_true rfl) dX7_addText_21 (fun H locs hW => ?_)
  have hW : ms_W G A s H locs [ob_X7 a_this a_codes a_begins a_ends q2.1 a_characters a_attributeLetters a_valueBegins a_valueEnds x_attributeCount a_values, (a_codes, .inl (G.2.1 1, 200, .inl q2.2.1)), (a_begins, .inl (G.2.1 1, 200, .inl q2.2.2.1)), (a_ends, .inl (G.2.1 1, 200, .inl q21)), ob_X1 a_characters a_characters_row q15.1 q15.2.1, (a_characters_row, .inl (G.2.1 0, 200, .inl q15.2.2)), ob_X1 a_a2 a_a2_row x_a2_size x_a2_overflowed, (a_a2_row, .inl (G.2.1 0, 200, .inl x_a2_row))] := hW
  refine W.eq (g2 := F0 m 24 ls []) rfl ?_
  obtain rfl := Option.some.inj h
  exact ms_vret hX hW dX7_addText_24
def rm_X4_readText : Room := { frames := 8, cells := 0, slots := 0, locals := 181 }
def f_X4_readText_L15 (x_source_size : Int32) (x_source_row : Nat → Int32) (x_builder_open_count : Int32) : Nat → Int32 → Int32 → (Nat → Int32) → (Nat → Int32) → (Nat → Int32) → Int32 → Int32 → (Nat → Int32) → Int32 → Option (Int32 × Int32 × (Nat → Int32) × (Nat → Int32) × (Nat → Int32) × Int32 × Int32 × (Nat → Int32) × Int32)
  | 0, _, _, _, _, _, _, _, _, _ => none
  | n + 1, x_at, x_tree_count, x_tree_codes, x_tree_begins, x_tree_ends, x_tree_characters_size, x_tree_characters_overflowed, x_tree_characters_row, v1 => (f_X1_size x_source_size).bind (fun q23 => (if q23 ≤ x_at then some (x_at, x_tree_count, x_tree_codes, x_tree_begins, x_tree_ends, x_tree_characters_size, x_tree_characters_overflowed, x_tree_characters_row, v1) else (f_X4_isMarkup x_source_size x_source_row x_at).bind (fun q34 => (if q34 = 0 then f_X4_readText_L15 x_source_size x_source_row x_builder_open_count n (x_at + 1) x_tree_count x_tree_codes x_tree_begins x_tree_ends x_tree_characters_size x_tree_characters_overflowed x_tree_characters_row v1 else some (x_at, x_tree_count, x_tree_codes, x_tree_begins, x_tree_ends, x_tree_characters_size, x_tree_characters_overflowed, x_tree_characters_row, v1)))))
set_option maxHeartbeats 4000000 in
set_option maxRecDepth 100000 in
theorem wb_X4_readText_L15 {p : Program} {l : Launch} {e : Env} {s : State} {m : MethodId} {args : Array Value} {below : List Frame} {meth : Method} {c : Code} {G : Gc} {A : Nat → Prop} {a_this : Nat} {a_source : Nat} {a_tree : Nat} {a_builder : Nat} {a_tag : Nat} {a_source_row : Nat} {a_tree_codes : Nat} {a_tree_begins : Nat} {a_tree_ends : Nat} {a_tree_characters : Nat} {a_tree_attributeLetters : Nat} {a_tree_valueBegins : Nat} {a_tree_valueEnds : Nat} {a_tree_values : Nat} {a_tree_characters_row : Nat} {a_builder_open : Nat} {a_builder_open_names : Nat} {a_builder_open_foreigns : Nat} {x_rawDue : Int32} {x_source_size : Int32} {x_source_overflowed : Int32} {x_source_row : Nat → Int32} {x_tree_attributeCount : Int32} {x_builder_open_count : Int32}  {Q : State → Prop} {o : Int32 × Int32 × (Nat → Int32) × (Nat → Int32) × (Nat → Int32) × Int32 × Int32 × (Nat → Int32) × Int32} (hX : ms_CX p s m args meth c cX4_readText 2 RX4 none G A) (hq : ∀ (H : Heap) (locs : List Loc) (ls : Array Slot), ms_W G A s H locs [ob_X4 a_this a_source a_tree a_builder a_tag o.1 x_rawDue, ob_X1 a_source a_source_row x_source_size x_source_overflowed, (a_source_row, .inl (G.2.1 0, 200, .inl x_source_row)), ob_X7 a_tree a_tree_codes a_tree_begins a_tree_ends o.2.1 a_tree_characters a_tree_attributeLetters a_tree_valueBegins a_tree_valueEnds x_tree_attributeCount a_tree_values, (a_tree_codes, .inl (G.2.1 1, 200, .inl o.2.2.1)), (a_tree_begins, .inl (G.2.1 1, 200, .inl o.2.2.2.1)), (a_tree_ends, .inl (G.2.1 1, 200, .inl o.2.2.2.2.1)), ob_X1 a_tree_characters a_tree_characters_row o.2.2.2.2.2.1 o.2.2.2.2.2.2.1, (a_tree_characters_row, .inl (G.2.1 0, 200, .inl o.2.2.2.2.2.2.2.1)), ob_X0 a_builder a_source a_tree a_builder_open, ob_X2 a_builder_open a_builder_open_names a_builder_open_foreigns x_builder_open_count] → lv_has ls 2 [(0, .ref a_this), (1, .int o.2.2.2.2.2.2.2.2)] → W p l e rm_X4_readText s m args below meth c H locs 0 0 Q (F0 m 53 ls [])) : ∀ (n : Nat) (x_at : Int32) (x_tree_count : Int32) (x_tree_codes : Nat → Int32) (x_tree_begins : Nat → Int32) (x_tree_ends : Nat → Int32) (x_tree_characters_size : Int32) (x_tree_characters_overflowed : Int32) (x_tree_characters_row : Nat → Int32) (v1 : Int32) (H : Heap) (locs : List Loc) (ls : Array Slot), f_X4_readText_L15 x_source_size x_source_row x_builder_open_count n x_at x_tree_count x_tree_codes x_tree_begins x_tree_ends x_tree_characters_size x_tree_characters_overflowed x_tree_characters_row v1 = some o → ms_W G A s H locs [ob_X4 a_this a_source a_tree a_builder a_tag x_at x_rawDue, ob_X1 a_source a_source_row x_source_size x_source_overflowed, (a_source_row, .inl (G.2.1 0, 200, .inl x_source_row)), ob_X7 a_tree a_tree_codes a_tree_begins a_tree_ends x_tree_count a_tree_characters a_tree_attributeLetters a_tree_valueBegins a_tree_valueEnds x_tree_attributeCount a_tree_values, (a_tree_codes, .inl (G.2.1 1, 200, .inl x_tree_codes)), (a_tree_begins, .inl (G.2.1 1, 200, .inl x_tree_begins)), (a_tree_ends, .inl (G.2.1 1, 200, .inl x_tree_ends)), ob_X1 a_tree_characters a_tree_characters_row x_tree_characters_size x_tree_characters_overflowed, (a_tree_characters_row, .inl (G.2.1 0, 200, .inl x_tree_characters_row)), ob_X0 a_builder a_source a_tree a_builder_open, ob_X2 a_builder_open a_builder_open_names a_builder_open_foreigns x_builder_open_count] → lv_has ls 2 [(0, .ref a_this), (1, .int v1)] → W p l e rm_X4_readText s m args below meth c H locs 0 0 Q (F0 m 15 ls []) := by
  have hx := hX.1.1
  have hb := hX.1.2.1
  intro n
  induction n with
  | zero => intro x_at x_tree_count x_tree_codes x_tree_begins x_tree_ends x_tree_characters_size x_tree_characters_overflowed x_tree_characters_row v1 H locs ls h; rw [f_X4_readText_L15] at h; cases h
  | succ n ih =>
    intro x_at x_tree_count x_tree_codes x_tree_begins x_tree_ends x_tree_characters_size x_tree_characters_overflowed x_tree_characters_row v1 H locs ls h hW hl
    rw [f_X4_readText_L15] at h
    refine lv_aload_n hx hb dX4_readText_15 rfl (lv_at hl 0 rfl) ?_
    refine ms_get ff_X4_35 hX hW 0 rfl rfl dX4_readText_16 ?_
    refine lv_aload_n hx hb dX4_readText_19 rfl (lv_at hl 0 rfl) ?_
    refine ms_get ff_X4_9 hX hW 0 rfl rfl dX4_readText_20 ?_
    obtain ⟨q23, hq23, h⟩ := ms_bd h
    refine ms_callV (fn_X1_size l G a_source a_source_row x_source_size x_source_overflowed hq23) wm_X1_size wv_X4_46 hX hW [1] rfl rfl rfl rfl rfl ⟨Nat.le_of_ble_eq_true rfl, Nat.le_of_ble_eq_true rfl, rfl, rfl, Nat.zero_le _, Nat.zero_le _⟩ rfl hl.1 [.int x_at] rfl (Nat.le_of_ble_eq_true rfl) dX4_readText_23 (fun H locs hW => ?_)
    have hW : ms_W G A s H locs [ob_X4 a_this a_source a_tree a_builder a_tag x_at x_rawDue, ob_X1 a_source a_source_row x_source_size x_source_overflowed, (a_source_row, .inl (G.2.1 0, 200, .inl x_source_row)), ob_X7 a_tree a_tree_codes a_tree_begins a_tree_ends x_tree_count a_tree_characters a_tree_attributeLetters a_tree_valueBegins a_tree_valueEnds x_tree_attributeCount a_tree_values, (a_tree_codes, .inl (G.2.1 1, 200, .inl x_tree_codes)), (a_tree_begins, .inl (G.2.1 1, 200, .inl x_tree_begins)), (a_tree_ends, .inl (G.2.1 1, 200, .inl x_tree_ends)), ob_X1 a_tree_characters a_tree_characters_row x_tree_characters_size x_tree_characters_overflowed, (a_tree_characters_row, .inl (G.2.1 0, 200, .inl x_tree_characters_row)), ob_X0 a_builder a_source a_tree a_builder_open, ob_X2 a_builder_open a_builder_open_names a_builder_open_foreigns x_builder_open_count] := hW
    refine W.eq (g2 := F0 m 26 ls [.int q23, .int x_at]) rfl ?_
    refine lv_icmp_ge (tgt := 53) hx hb dX4_readText_26 (by decide) (fun k => ?_) (fun k => ?_)
    · have h := ms_ifp h k
      obtain rfl := Option.some.inj h
      exact hq _ _ _ hW (lv_sub hl [0, 1] rfl)
    · have h := ms_ifn h k
      refine lv_aload_n hx hb dX4_readText_29 rfl (lv_at hl 0 rfl) ?_
      refine lv_aload_n hx hb dX4_readText_30 rfl (lv_at hl 0 rfl) ?_
      refine ms_get ff_X4_35 hX hW 0 rfl rfl dX4_readText_31 ?_
      obtain ⟨q34, hq34, h⟩ := ms_bd h
      refine ms_callV (fn_X4_isMarkup l G a_this a_source a_tree a_builder a_tag a_source_row x_at x_rawDue x_source_size x_source_overflowed x_source_row x_at hq34) wm_X4_isMarkup wv_X4_55 hX hW [0, 1, 2] rfl rfl rfl rfl rfl ⟨Nat.le_of_ble_eq_true rfl, Nat.le_of_ble_eq_true rfl, rfl, rfl, Nat.zero_le _, Nat.zero_le _⟩ rfl hl.1 [] rfl (Nat.le_of_ble_eq_true rfl) dX4_readText_34 (fun H locs hW => ?_)
      have hW : ms_W G A s H locs [ob_X4 a_this a_source a_tree a_builder a_tag x_at x_rawDue, ob_X1 a_source a_source_row x_source_size x_source_overflowed, (a_source_row, .inl (G.2.1 0, 200, .inl x_source_row)), ob_X7 a_tree a_tree_codes a_tree_begins a_tree_ends x_tree_count a_tree_characters a_tree_attributeLetters a_tree_valueBegins a_tree_valueEnds x_tree_attributeCount a_tree_values, (a_tree_codes, .inl (G.2.1 1, 200, .inl x_tree_codes)), (a_tree_begins, .inl (G.2.1 1, 200, .inl x_tree_begins)), (a_tree_ends, .inl (G.2.1 1, 200, .inl x_tree_ends)), ob_X1 a_tree_characters a_tree_characters_row x_tree_characters_size x_tree_characters_overflowed, (a_tree_characters_row, .inl (G.2.1 0, 200, .inl x_tree_characters_row)), ob_X0 a_builder a_source a_tree a_builder_open, ob_X2 a_builder_open a_builder_open_names a_builder_open_foreigns x_builder_open_count] := hW
      refine W.eq (g2 := F0 m 37 ls [.int q34]) rfl ?_
      refine lv_if_ne (tgt := 53) hx hb dX4_readText_37 (by decide) (fun k => ?_) (fun k => ?_)
      · have h := ms_ifn h k
        obtain rfl := Option.some.inj h
        exact hq _ _ _ hW (lv_sub hl [0, 1] rfl)
      · have h := ms_ifp h k
        refine lv_aload_n hx hb dX4_readText_40 rfl (lv_at hl 0 rfl) ?_
        refine lv_dup hx hb dX4_readText_41 rfl ?_
        refine ms_get ff_X4_35 hX hW 0 rfl rfl dX4_readText_42 ?_
        refine lv_iconst (v := 1) hx hb dX4_readText_45 (by decide) ?_
        refine lv_iadd hx hb dX4_readText_46 ?_
        refine ms_put ff_X4_35 fp_X4_4 rfl hX hW 0 rfl rfl rfl (Nat.le_of_ble_eq_true rfl) dX4_readText_47 (fun H locs hW => ?_)
        have hW : ms_W G A s H locs [ob_X4 a_this a_source a_tree a_builder a_tag (x_at + 1) x_rawDue, ob_X1 a_source a_source_row x_source_size x_source_overflowed, (a_source_row, .inl (G.2.1 0, 200, .inl x_source_row)), ob_X7 a_tree a_tree_codes a_tree_begins a_tree_ends x_tree_count a_tree_characters a_tree_attributeLetters a_tree_valueBegins a_tree_valueEnds x_tree_attributeCount a_tree_values, (a_tree_codes, .inl (G.2.1 1, 200, .inl x_tree_codes)), (a_tree_begins, .inl (G.2.1 1, 200, .inl x_tree_begins)), (a_tree_ends, .inl (G.2.1 1, 200, .inl x_tree_ends)), ob_X1 a_tree_characters a_tree_characters_row x_tree_characters_size x_tree_characters_overflowed, (a_tree_characters_row, .inl (G.2.1 0, 200, .inl x_tree_characters_row)), ob_X0 a_builder a_source a_tree a_builder_open, ob_X2 a_builder_open a_builder_open_names a_builder_open_foreigns x_builder_open_count] := hW
        refine lv_goto (tgt := 15) hx hb dX4_readText_50 (by decide) ?_
        exact ih _ _ _ _ _ _ _ _ _ _ _ _ h hW (lv_sub hl [0, 1] rfl)
def f_X4_readText (x_at : Int32) (x_source_size : Int32) (x_source_row : Nat → Int32) (x_tree_count : Int32) (x_tree_codes : Nat → Int32) (x_tree_begins : Nat → Int32) (x_tree_ends : Nat → Int32) (x_tree_characters_size : Int32) (x_tree_characters_overflowed : Int32) (x_tree_characters_row : Nat → Int32) (x_builder_open_count : Int32)  : Option (Int32 × Int32 × (Nat → Int32) × (Nat → Int32) × (Nat → Int32) × Int32 × Int32 × (Nat → Int32)) := (f_X4_readText_L15 x_source_size x_source_row x_builder_open_count 1000 (x_at + 1) x_tree_count x_tree_codes x_tree_begins x_tree_ends x_tree_characters_size x_tree_characters_overflowed x_tree_characters_row x_at).bind (fun w15 => (f_X0_depth x_builder_open_count).bind (fun q61 => (f_X7_addText w15.2.1 w15.2.2.1 w15.2.2.2.1 w15.2.2.2.2.1 w15.2.2.2.2.2.1 w15.2.2.2.2.2.2.1 w15.2.2.2.2.2.2.2.1 x_source_size x_source_row q61 w15.2.2.2.2.2.2.2.2 w15.1).bind (fun q73 => some (w15.1, q73.1, q73.2.1, q73.2.2.1, q73.2.2.2.1, q73.2.2.2.2.1, q73.2.2.2.2.2.1, q73.2.2.2.2.2.2))))
set_option maxHeartbeats 4000000 in
set_option maxRecDepth 100000 in
theorem fn_X4_readText (l : Launch) (G : Gc) (a_this : Nat) (a_source : Nat) (a_tree : Nat) (a_builder : Nat) (a_tag : Nat) (a_source_row : Nat) (a_tree_codes : Nat) (a_tree_begins : Nat) (a_tree_ends : Nat) (a_tree_characters : Nat) (a_tree_attributeLetters : Nat) (a_tree_valueBegins : Nat) (a_tree_valueEnds : Nat) (a_tree_values : Nat) (a_tree_characters_row : Nat) (a_builder_open : Nat) (a_builder_open_names : Nat) (a_builder_open_foreigns : Nat) (x_at : Int32) (x_rawDue : Int32) (x_source_size : Int32) (x_source_overflowed : Int32) (x_source_row : Nat → Int32) (x_tree_count : Int32) (x_tree_attributeCount : Int32) (x_tree_codes : Nat → Int32) (x_tree_begins : Nat → Int32) (x_tree_ends : Nat → Int32) (x_tree_characters_size : Int32) (x_tree_characters_overflowed : Int32) (x_tree_characters_row : Nat → Int32) (x_builder_open_count : Int32)   {o : Int32 × Int32 × (Nat → Int32) × (Nat → Int32) × (Nat → Int32) × Int32 × Int32 × (Nat → Int32)} (h : f_X4_readText x_at x_source_size x_source_row x_tree_count x_tree_codes x_tree_begins x_tree_ends x_tree_characters_size x_tree_characters_overflowed x_tree_characters_row x_builder_open_count = some o) : ms_Fn l G yX4_readText cX4_readText 2 none rm_X4_readText [.ref a_this] [ob_X4 a_this a_source a_tree a_builder a_tag x_at x_rawDue, ob_X1 a_source a_source_row x_source_size x_source_overflowed, (a_source_row, .inl (G.2.1 0, 200, .inl x_source_row)), ob_X7 a_tree a_tree_codes a_tree_begins a_tree_ends x_tree_count a_tree_characters a_tree_attributeLetters a_tree_valueBegins a_tree_valueEnds x_tree_attributeCount a_tree_values, (a_tree_codes, .inl (G.2.1 1, 200, .inl x_tree_codes)), (a_tree_begins, .inl (G.2.1 1, 200, .inl x_tree_begins)), (a_tree_ends, .inl (G.2.1 1, 200, .inl x_tree_ends)), ob_X1 a_tree_characters a_tree_characters_row x_tree_characters_size x_tree_characters_overflowed, (a_tree_characters_row, .inl (G.2.1 0, 200, .inl x_tree_characters_row)), ob_X0 a_builder a_source a_tree a_builder_open, ob_X2 a_builder_open a_builder_open_names a_builder_open_foreigns x_builder_open_count] [ob_X4 a_this a_source a_tree a_builder a_tag o.1 x_rawDue, ob_X1 a_source a_source_row x_source_size x_source_overflowed, (a_source_row, .inl (G.2.1 0, 200, .inl x_source_row)), ob_X7 a_tree a_tree_codes a_tree_begins a_tree_ends o.2.1 a_tree_characters a_tree_attributeLetters a_tree_valueBegins a_tree_valueEnds x_tree_attributeCount a_tree_values, (a_tree_codes, .inl (G.2.1 1, 200, .inl o.2.2.1)), (a_tree_begins, .inl (G.2.1 1, 200, .inl o.2.2.2.1)), (a_tree_ends, .inl (G.2.1 1, 200, .inl o.2.2.2.2.1)), ob_X1 a_tree_characters a_tree_characters_row o.2.2.2.2.2.1 o.2.2.2.2.2.2.1, (a_tree_characters_row, .inl (G.2.1 0, 200, .inl o.2.2.2.2.2.2.2)), ob_X0 a_builder a_source a_tree a_builder_open, ob_X2 a_builder_open a_builder_open_names a_builder_open_foreigns x_builder_open_count] none := by
  refine ms_start RX4 (by decide +kernel) rfl (Nat.le_of_ble_eq_true rfl) (fun p e s m below meth c A ls hX hW hl => ?_)
  have hx := hX.1.1
  have hb := hX.1.2.1
  have hl : lv_has ls 2 [(0, .ref a_this)] := hl
  unfold f_X4_readText at h
  refine lv_aload_n hx hb dX4_readText_0 rfl (lv_at hl 0 rfl) ?_
  refine ms_get ff_X4_35 hX hW 0 rfl rfl dX4_readText_1 ?_
  refine lv_istore_n (lv' := [(1, .int x_at), (0, .ref a_this)]) hx hb dX4_readText_4 rfl hl (by decide) rfl (fun ls hl => ?_)
  refine lv_aload_n hx hb dX4_readText_5 rfl (lv_at hl 1 rfl) ?_
  refine lv_dup hx hb dX4_readText_6 rfl ?_
  refine ms_get ff_X4_35 hX hW 0 rfl rfl dX4_readText_7 ?_
  refine lv_iconst (v := 1) hx hb dX4_readText_10 (by decide) ?_
  refine lv_iadd hx hb dX4_readText_11 ?_
  refine ms_put ff_X4_35 fp_X4_4 rfl hX hW 0 rfl rfl rfl (Nat.le_of_ble_eq_true rfl) dX4_readText_12 (fun H locs hW => ?_)
  have hW : ms_W G A s H locs [ob_X4 a_this a_source a_tree a_builder a_tag (x_at + 1) x_rawDue, ob_X1 a_source a_source_row x_source_size x_source_overflowed, (a_source_row, .inl (G.2.1 0, 200, .inl x_source_row)), ob_X7 a_tree a_tree_codes a_tree_begins a_tree_ends x_tree_count a_tree_characters a_tree_attributeLetters a_tree_valueBegins a_tree_valueEnds x_tree_attributeCount a_tree_values, (a_tree_codes, .inl (G.2.1 1, 200, .inl x_tree_codes)), (a_tree_begins, .inl (G.2.1 1, 200, .inl x_tree_begins)), (a_tree_ends, .inl (G.2.1 1, 200, .inl x_tree_ends)), ob_X1 a_tree_characters a_tree_characters_row x_tree_characters_size x_tree_characters_overflowed, (a_tree_characters_row, .inl (G.2.1 0, 200, .inl x_tree_characters_row)), ob_X0 a_builder a_source a_tree a_builder_open, ob_X2 a_builder_open a_builder_open_names a_builder_open_foreigns x_builder_open_count] := hW
  obtain ⟨w15, hqw15, h⟩ := ms_bd h
  refine wb_X4_readText_L15 hX (o := w15) (fun H locs ls hW hl => ?_) _ _ _ _ _ _ _ _ _ _ _ _ _ hqw15 hW (lv_sub hl [1, 0] rfl)
  refine lv_aload_n hx hb dX4_readText_53 rfl (lv_at hl 0 rfl) ?_
  refine ms_get ff_X4_15 hX hW 0 rfl rfl dX4_readText_54 ?_
  refine lv_aload_n hx hb dX4_readText_57 rfl (lv_at hl 0 rfl) ?_
  refine ms_get ff_X4_24 hX hW 0 rfl rfl dX4_readText_58 ?_
  obtain ⟨q61, hq61, h⟩ := ms_bd h
  refine ms_callV (fn_X0_depth l G a_builder a_source a_tree a_builder_open a_builder_open_names a_builder_open_foreigns x_builder_open_count hq61) wm_X0_depth wv_X4_96 hX hW [9, 10] rfl rfl rfl rfl rfl ⟨Nat.le_of_ble_eq_true rfl, Nat.le_of_ble_eq_true rfl, rfl, rfl, Nat.zero_le _, Nat.zero_le _⟩ rfl hl.1 [.ref a_tree] rfl (Nat.le_of_ble_eq_true rfl) dX4_readText_61 (fun H locs hW => ?_)
  have hW : ms_W G A s H locs [ob_X4 a_this a_source a_tree a_builder a_tag w15.1 x_rawDue, ob_X1 a_source a_source_row x_source_size x_source_overflowed, (a_source_row, .inl (G.2.1 0, 200, .inl x_source_row)), ob_X7 a_tree a_tree_codes a_tree_begins a_tree_ends w15.2.1 a_tree_characters a_tree_attributeLetters a_tree_valueBegins a_tree_valueEnds x_tree_attributeCount a_tree_values, (a_tree_codes, .inl (G.2.1 1, 200, .inl w15.2.2.1)), (a_tree_begins, .inl (G.2.1 1, 200, .inl w15.2.2.2.1)), (a_tree_ends, .inl (G.2.1 1, 200, .inl w15.2.2.2.2.1)), ob_X1 a_tree_characters a_tree_characters_row w15.2.2.2.2.2.1 w15.2.2.2.2.2.2.1, (a_tree_characters_row, .inl (G.2.1 0, 200, .inl w15.2.2.2.2.2.2.2.1)), ob_X0 a_builder a_source a_tree a_builder_open, ob_X2 a_builder_open a_builder_open_names a_builder_open_foreigns x_builder_open_count] := hW
  refine W.eq (g2 := F0 m 64 ls [.int q61, .ref a_tree]) rfl ?_
  refine lv_aload_n hx hb dX4_readText_64 rfl (lv_at hl 0 rfl) ?_
  refine ms_get ff_X4_9 hX hW 0 rfl rfl dX4_readText_65 ?_
  refine lv_iload_n hx hb dX4_readText_68 rfl (lv_at hl 1 rfl) ?_
  refine lv_aload_n hx hb dX4_readText_69 rfl (lv_at hl 0 rfl) ?_
  refine ms_get ff_X4_35 hX hW 0 rfl rfl dX4_readText_70 ?_
  obtain ⟨q73, hq73, h⟩ := ms_bd h
  refine ms_callV (fn_X7_addText l G a_tree a_tree_codes a_tree_begins a_tree_ends a_tree_characters a_tree_attributeLetters a_tree_valueBegins a_tree_valueEnds a_tree_values a_tree_characters_row a_source a_source_row w15.2.1 x_tree_attributeCount w15.2.2.1 w15.2.2.2.1 w15.2.2.2.2.1 w15.2.2.2.2.2.1 w15.2.2.2.2.2.2.1 w15.2.2.2.2.2.2.2.1 x_source_size x_source_overflowed x_source_row q61 w15.2.2.2.2.2.2.2.2 w15.1 hq73) wm_X7_addText wv_X4_113 hX hW [3, 4, 5, 6, 7, 8, 1, 2] rfl rfl rfl rfl rfl ⟨Nat.le_of_ble_eq_true rfl, Nat.le_of_ble_eq_true rfl, rfl, rfl, Nat.zero_le _, Nat.zero_le _⟩ rfl hl.1 [] rfl (Nat.le_of_ble_eq_true rfl) dX4_readText_73 (fun H locs hW => ?_)
  have hW : ms_W G A s H locs [ob_X4 a_this a_source a_tree a_builder a_tag w15.1 x_rawDue, ob_X1 a_source a_source_row x_source_size x_source_overflowed, (a_source_row, .inl (G.2.1 0, 200, .inl x_source_row)), ob_X7 a_tree a_tree_codes a_tree_begins a_tree_ends q73.1 a_tree_characters a_tree_attributeLetters a_tree_valueBegins a_tree_valueEnds x_tree_attributeCount a_tree_values, (a_tree_codes, .inl (G.2.1 1, 200, .inl q73.2.1)), (a_tree_begins, .inl (G.2.1 1, 200, .inl q73.2.2.1)), (a_tree_ends, .inl (G.2.1 1, 200, .inl q73.2.2.2.1)), ob_X1 a_tree_characters a_tree_characters_row q73.2.2.2.2.1 q73.2.2.2.2.2.1, (a_tree_characters_row, .inl (G.2.1 0, 200, .inl q73.2.2.2.2.2.2)), ob_X0 a_builder a_source a_tree a_builder_open, ob_X2 a_builder_open a_builder_open_names a_builder_open_foreigns x_builder_open_count] := hW
  refine W.eq (g2 := F0 m 76 ls []) rfl ?_
  obtain rfl := Option.some.inj h
  exact ms_vret hX hW dX4_readText_76
def rm_X4_isTag : Room := { frames := 1, cells := 0, slots := 0, locals := 21 }
def f_X4_isTag (x_source_size : Int32) (x_source_row : Nat → Int32) (v1 : Int32) : Option (Int32) := (f_X1_at x_source_size x_source_row (v1 + 1)).bind (fun q7 => (f_X9_isLetter q7).bind (fun q12 => (if q12 = 0 then (if q7 = 47 then (f_X1_at x_source_size x_source_row (v1 + 2)).bind (fun q31 => (f_X9_isLetter q31).bind (fun q34 => (if q34 = 0 then some 0 else some 1))) else some 0) else some 1)))
set_option maxHeartbeats 4000000 in
set_option maxRecDepth 100000 in
theorem fn_X4_isTag (l : Launch) (G : Gc) (a_this : Nat) (a_source : Nat) (a_tree : Nat) (a_builder : Nat) (a_tag : Nat) (a_source_row : Nat) (x_at : Int32) (x_rawDue : Int32) (x_source_size : Int32) (x_source_overflowed : Int32) (x_source_row : Nat → Int32) (v1 : Int32)  {o : Int32} (h : f_X4_isTag x_source_size x_source_row v1 = some o) : ms_Fn l G yX4_isTag cX4_isTag 3 (some .boolean) rm_X4_isTag [.ref a_this, .int v1] [ob_X4 a_this a_source a_tree a_builder a_tag x_at x_rawDue, ob_X1 a_source a_source_row x_source_size x_source_overflowed, (a_source_row, .inl (G.2.1 0, 200, .inl x_source_row))] [ob_X4 a_this a_source a_tree a_builder a_tag x_at x_rawDue, ob_X1 a_source a_source_row x_source_size x_source_overflowed, (a_source_row, .inl (G.2.1 0, 200, .inl x_source_row))] (some (.int o)) := by
  refine ms_start RX4 (by decide +kernel) rfl (Nat.le_of_ble_eq_true rfl) (fun p e s m below meth c A ls hX hW hl => ?_)
  have hx := hX.1.1
  have hb := hX.1.2.1
  have hl : lv_has ls 3 [(0, .ref a_this), (1, .int v1)] := hl
  unfold f_X4_isTag at h
  refine lv_aload_n hx hb dX4_isTag_0 rfl (lv_at hl 0 rfl) ?_
  refine ms_get ff_X4_9 hX hW 0 rfl rfl dX4_isTag_1 ?_
  refine lv_iload_n hx hb dX4_isTag_4 rfl (lv_at hl 1 rfl) ?_
  refine lv_iconst (v := 1) hx hb dX4_isTag_5 (by decide) ?_
  refine lv_iadd hx hb dX4_isTag_6 ?_
  obtain ⟨q7, hq7, h⟩ := ms_bd h
  refine ms_callV (fn_X1_at l G a_source a_source_row x_source_size x_source_overflowed x_source_row (v1 + 1) hq7) wm_X1_at wv_X4_86 hX hW [1, 2] rfl rfl rfl rfl rfl ⟨Nat.le_of_ble_eq_true rfl, Nat.le_of_ble_eq_true rfl, rfl, rfl, Nat.zero_le _, Nat.zero_le _⟩ rfl hl.1 [] rfl (Nat.le_of_ble_eq_true rfl) dX4_isTag_7 (fun H locs hW => ?_)
  have hW : ms_W G A s H locs [ob_X4 a_this a_source a_tree a_builder a_tag x_at x_rawDue, ob_X1 a_source a_source_row x_source_size x_source_overflowed, (a_source_row, .inl (G.2.1 0, 200, .inl x_source_row))] := hW
  refine W.eq (g2 := F0 m 10 ls [.int q7]) rfl ?_
  refine lv_istore_n (lv' := [(2, .int q7), (0, .ref a_this), (1, .int v1)]) hx hb dX4_isTag_10 rfl hl (by decide) rfl (fun ls hl => ?_)
  refine lv_iload_n hx hb dX4_isTag_11 rfl (lv_at hl 0 rfl) ?_
  obtain ⟨q12, hq12, h⟩ := ms_bd h
  refine ms_callN (host := RX9) (fn_X9_isLetter l G q7 hq12) wm_X9_isLetter (List.mem_of_getElem? (i := 1) rfl) wt_X9_isLetter hX hW [] rfl rfl rfl ⟨Nat.le_of_ble_eq_true rfl, Nat.le_of_ble_eq_true rfl, rfl, rfl, Nat.zero_le _, Nat.zero_le _⟩ rfl hl.1 [] rfl (Nat.le_of_ble_eq_true rfl) dX4_isTag_12 (fun H locs hW => ?_)
  have hW : ms_W G A s H locs [ob_X4 a_this a_source a_tree a_builder a_tag x_at x_rawDue, ob_X1 a_source a_source_row x_source_size x_source_overflowed, (a_source_row, .inl (G.2.1 0, 200, .inl x_source_row))] := hW
  refine W.eq (g2 := F0 m 15 ls [.int q12]) rfl ?_
  refine lv_if_ne (tgt := 40) hx hb dX4_isTag_15 (by decide) (fun k => ?_) (fun k => ?_)
  · have h := ms_ifn h k
    refine lv_iconst (v := 1) hx hb dX4_isTag_40 (by decide) ?_
    refine lv_goto (tgt := 45) hx hb dX4_isTag_41 (by decide) ?_
    obtain rfl := Option.some.inj h
    exact ms_zret hX (ms_nz (Or.inr rfl)) hW dX4_isTag_45
  · have h := ms_ifp h k
    refine lv_iload_n hx hb dX4_isTag_18 rfl (lv_at hl 0 rfl) ?_
    refine lv_bipush (v := 47) hx hb dX4_isTag_19 (by decide) ?_
    refine lv_icmp_ne (tgt := 44) hx hb dX4_isTag_21 (by decide) (fun k => ?_) (fun k => ?_)
    · have h := ms_ifn h k
      refine lv_iconst (v := 0) hx hb dX4_isTag_44 (by decide) ?_
      obtain rfl := Option.some.inj h
      exact ms_zret hX (ms_nz (Or.inl rfl)) hW dX4_isTag_45
    · have h := ms_ifp h k
      refine lv_aload_n hx hb dX4_isTag_24 rfl (lv_at hl 1 rfl) ?_
      refine ms_get ff_X4_9 hX hW 0 rfl rfl dX4_isTag_25 ?_
      refine lv_iload_n hx hb dX4_isTag_28 rfl (lv_at hl 2 rfl) ?_
      refine lv_iconst (v := 2) hx hb dX4_isTag_29 (by decide) ?_
      refine lv_iadd hx hb dX4_isTag_30 ?_
      obtain ⟨q31, hq31, h⟩ := ms_bd h
      refine ms_callV (fn_X1_at l G a_source a_source_row x_source_size x_source_overflowed x_source_row (v1 + 2) hq31) wm_X1_at wv_X4_86 hX hW [1, 2] rfl rfl rfl rfl rfl ⟨Nat.le_of_ble_eq_true rfl, Nat.le_of_ble_eq_true rfl, rfl, rfl, Nat.zero_le _, Nat.zero_le _⟩ rfl hl.1 [] rfl (Nat.le_of_ble_eq_true rfl) dX4_isTag_31 (fun H locs hW => ?_)
      have hW : ms_W G A s H locs [ob_X4 a_this a_source a_tree a_builder a_tag x_at x_rawDue, ob_X1 a_source a_source_row x_source_size x_source_overflowed, (a_source_row, .inl (G.2.1 0, 200, .inl x_source_row))] := hW
      refine W.eq (g2 := F0 m 34 ls [.int q31]) rfl ?_
      obtain ⟨q34, hq34, h⟩ := ms_bd h
      refine ms_callN (host := RX9) (fn_X9_isLetter l G q31 hq34) wm_X9_isLetter (List.mem_of_getElem? (i := 1) rfl) wt_X9_isLetter hX hW [] rfl rfl rfl ⟨Nat.le_of_ble_eq_true rfl, Nat.le_of_ble_eq_true rfl, rfl, rfl, Nat.zero_le _, Nat.zero_le _⟩ rfl hl.1 [] rfl (Nat.le_of_ble_eq_true rfl) dX4_isTag_34 (fun H locs hW => ?_)
      have hW : ms_W G A s H locs [ob_X4 a_this a_source a_tree a_builder a_tag x_at x_rawDue, ob_X1 a_source a_source_row x_source_size x_source_overflowed, (a_source_row, .inl (G.2.1 0, 200, .inl x_source_row))] := hW
      refine W.eq (g2 := F0 m 37 ls [.int q34]) rfl ?_
      refine lv_if_eq (tgt := 44) hx hb dX4_isTag_37 (by decide) (fun k => ?_) (fun k => ?_)
      · have h := ms_ifp h k
        refine lv_iconst (v := 0) hx hb dX4_isTag_44 (by decide) ?_
        obtain rfl := Option.some.inj h
        exact ms_zret hX (ms_nz (Or.inl rfl)) hW dX4_isTag_45
      · have h := ms_ifn h k
        refine lv_iconst (v := 1) hx hb dX4_isTag_40 (by decide) ?_
        refine lv_goto (tgt := 45) hx hb dX4_isTag_41 (by decide) ?_
        obtain rfl := Option.some.inj h
        exact ms_zret hX (ms_nz (Or.inr rfl)) hW dX4_isTag_45
def rm_X7_addComment : Room := { frames := 2, cells := 0, slots := 0, locals := 45 }
def f_X7_addComment (x_count : Int32) (x_codes : Nat → Int32) (x_begins : Nat → Int32) (x_ends : Nat → Int32) (x_characters_size : Int32) (x_characters_overflowed : Int32) (x_characters_row : Nat → Int32) (x_a2_size : Int32) (x_a2_row : Nat → Int32) (v1 : Int32) (v3 : Int32) (v4 : Int32) : Option (Int32 × (Nat → Int32) × (Nat → Int32) × (Nat → Int32) × Int32 × Int32 × (Nat → Int32)) := (f_X1_size x_characters_size).bind (fun q11 => (f_X7_addNode x_count x_codes x_begins x_ends ((2 : Int32) ||| (v1 <<< ((7 : Int32) &&& 31))) q11).bind (fun q14 => (f_X1_addPiece x_characters_size x_characters_overflowed x_characters_row x_a2_size x_a2_row v3 v4).bind (fun q27 => (f_X7_endCharacters q14.1 q14.2.2.2.1 q27.1 q14.2.2.2.2).bind (fun q33 => some (q14.1, q14.2.1, q14.2.2.1, q33, q27.1, q27.2.1, q27.2.2)))))
set_option maxHeartbeats 4000000 in
set_option maxRecDepth 100000 in
theorem fn_X7_addComment (l : Launch) (G : Gc) (a_this : Nat) (a_codes : Nat) (a_begins : Nat) (a_ends : Nat) (a_characters : Nat) (a_attributeLetters : Nat) (a_valueBegins : Nat) (a_valueEnds : Nat) (a_values : Nat) (a_characters_row : Nat) (a_a2 : Nat) (a_a2_row : Nat) (x_count : Int32) (x_attributeCount : Int32) (x_codes : Nat → Int32) (x_begins : Nat → Int32) (x_ends : Nat → Int32) (x_characters_size : Int32) (x_characters_overflowed : Int32) (x_characters_row : Nat → Int32) (x_a2_size : Int32) (x_a2_overflowed : Int32) (x_a2_row : Nat → Int32) (v1 : Int32) (v3 : Int32) (v4 : Int32)  {o : Int32 × (Nat → Int32) × (Nat → Int32) × (Nat → Int32) × Int32 × Int32 × (Nat → Int32)} (h : f_X7_addComment x_count x_codes x_begins x_ends x_characters_size x_characters_overflowed x_characters_row x_a2_size x_a2_row v1 v3 v4 = some o) : ms_Fn l G yX7_addComment cX7_addComment 6 none rm_X7_addComment [.ref a_this, .int v1, .ref a_a2, .int v3, .int v4] [ob_X7 a_this a_codes a_begins a_ends x_count a_characters a_attributeLetters a_valueBegins a_valueEnds x_attributeCount a_values, (a_codes, .inl (G.2.1 1, 200, .inl x_codes)), (a_begins, .inl (G.2.1 1, 200, .inl x_begins)), (a_ends, .inl (G.2.1 1, 200, .inl x_ends)), ob_X1 a_characters a_characters_row x_characters_size x_characters_overflowed, (a_characters_row, .inl (G.2.1 0, 200, .inl x_characters_row)), ob_X1 a_a2 a_a2_row x_a2_size x_a2_overflowed, (a_a2_row, .inl (G.2.1 0, 200, .inl x_a2_row))] [ob_X7 a_this a_codes a_begins a_ends o.1 a_characters a_attributeLetters a_valueBegins a_valueEnds x_attributeCount a_values, (a_codes, .inl (G.2.1 1, 200, .inl o.2.1)), (a_begins, .inl (G.2.1 1, 200, .inl o.2.2.1)), (a_ends, .inl (G.2.1 1, 200, .inl o.2.2.2.1)), ob_X1 a_characters a_characters_row o.2.2.2.2.1 o.2.2.2.2.2.1, (a_characters_row, .inl (G.2.1 0, 200, .inl o.2.2.2.2.2.2)), ob_X1 a_a2 a_a2_row x_a2_size x_a2_overflowed, (a_a2_row, .inl (G.2.1 0, 200, .inl x_a2_row))] none := by
  refine ms_start RX7 (by decide +kernel) rfl (Nat.le_of_ble_eq_true rfl) (fun p e s m below meth c A ls hX hW hl => ?_)
  have hx := hX.1.1
  have hb := hX.1.2.1
  have hl : lv_has ls 6 [(0, .ref a_this), (1, .int v1), (2, .ref a_a2), (3, .int v3), (4, .int v4)] := hl
  unfold f_X7_addComment at h
  refine lv_aload_n hx hb dX7_addComment_0 rfl (lv_at hl 0 rfl) ?_
  refine lv_iconst (v := 2) hx hb dX7_addComment_1 (by decide) ?_
  refine lv_iload_n hx hb dX7_addComment_2 rfl (lv_at hl 1 rfl) ?_
  refine lv_bipush (v := 7) hx hb dX7_addComment_3 (by decide) ?_
  refine lv_ishl hx hb dX7_addComment_5 ?_
  refine lv_ior hx hb dX7_addComment_6 ?_
  refine lv_aload_n hx hb dX7_addComment_7 rfl (lv_at hl 0 rfl) ?_
  refine ms_get ff_X7_28 hX hW 0 rfl rfl dX7_addComment_8 ?_
  obtain ⟨q11, hq11, h⟩ := ms_bd h
  refine ms_callV (fn_X1_size l G a_characters a_characters_row x_characters_size x_characters_overflowed hq11) wm_X1_size wv_X7_81 hX hW [4] rfl rfl rfl rfl rfl ⟨Nat.le_of_ble_eq_true rfl, Nat.le_of_ble_eq_true rfl, rfl, rfl, Nat.zero_le _, Nat.zero_le _⟩ rfl hl.1 [.int ((2 : Int32) ||| (v1 <<< ((7 : Int32) &&& 31))), .ref a_this] rfl (Nat.le_of_ble_eq_true rfl) dX7_addComment_11 (fun H locs hW => ?_)
  have hW : ms_W G A s H locs [ob_X7 a_this a_codes a_begins a_ends x_count a_characters a_attributeLetters a_valueBegins a_valueEnds x_attributeCount a_values, (a_codes, .inl (G.2.1 1, 200, .inl x_codes)), (a_begins, .inl (G.2.1 1, 200, .inl x_begins)), (a_ends, .inl (G.2.1 1, 200, .inl x_ends)), ob_X1 a_characters a_characters_row x_characters_size x_characters_overflowed, (a_characters_row, .inl (G.2.1 0, 200, .inl x_characters_row)), ob_X1 a_a2 a_a2_row x_a2_size x_a2_overflowed, (a_a2_row, .inl (G.2.1 0, 200, .inl x_a2_row))] := hW
  refine W.eq (g2 := F0 m 14 ls [.int q11, .int ((2 : Int32) ||| (v1 <<< ((7 : Int32) &&& 31))), .ref a_this]) rfl ?_
  obtain ⟨q14, hq14, h⟩ := ms_bd h
  refine ms_callV (fn_X7_addNode l G a_this a_codes a_begins a_ends a_characters a_attributeLetters a_valueBegins a_valueEnds a_values x_count x_attributeCount x_codes x_begins x_ends ((2 : Int32) ||| (v1 <<< ((7 : Int32) &&& 31))) q11 hq14) wm_X7_addNode wv_X7_77 hX hW [0, 1, 2, 3] rfl rfl rfl rfl rfl ⟨Nat.le_of_ble_eq_true rfl, Nat.le_of_ble_eq_true rfl, rfl, rfl, Nat.zero_le _, Nat.zero_le _⟩ rfl hl.1 [] rfl (Nat.le_of_ble_eq_true rfl) dX7_addComment_14 (fun H locs hW => ?_)
  have hW : ms_W G A s H locs [ob_X7 a_this a_codes a_begins a_ends q14.1 a_characters a_attributeLetters a_valueBegins a_valueEnds x_attributeCount a_values, (a_codes, .inl (G.2.1 1, 200, .inl q14.2.1)), (a_begins, .inl (G.2.1 1, 200, .inl q14.2.2.1)), (a_ends, .inl (G.2.1 1, 200, .inl q14.2.2.2.1)), ob_X1 a_characters a_characters_row x_characters_size x_characters_overflowed, (a_characters_row, .inl (G.2.1 0, 200, .inl x_characters_row)), ob_X1 a_a2 a_a2_row x_a2_size x_a2_overflowed, (a_a2_row, .inl (G.2.1 0, 200, .inl x_a2_row))] := hW
  refine W.eq (g2 := F0 m 17 ls [.int q14.2.2.2.2]) rfl ?_
  refine lv_istore (lv' := [(5, .int q14.2.2.2.2), (0, .ref a_this), (1, .int v1), (2, .ref a_a2), (3, .int v3), (4, .int v4)]) hx hb dX7_addComment_17 hl (by decide) rfl (fun ls hl => ?_)
  refine lv_aload_n hx hb dX7_addComment_19 rfl (lv_at hl 1 rfl) ?_
  refine ms_get ff_X7_28 hX hW 0 rfl rfl dX7_addComment_20 ?_
  refine lv_aload_n hx hb dX7_addComment_23 rfl (lv_at hl 3 rfl) ?_
  refine lv_iload_n hx hb dX7_addComment_24 rfl (lv_at hl 4 rfl) ?_
  refine lv_iload hx hb dX7_addComment_25 (lv_at hl 5 rfl) ?_
  obtain ⟨q27, hq27, h⟩ := ms_bd h
  refine ms_callV (fn_X1_addPiece l G a_characters a_characters_row a_a2 a_a2_row x_characters_size x_characters_overflowed x_characters_row x_a2_size x_a2_overflowed x_a2_row v3 v4 hq27) wm_X1_addPiece wv_X7_85 hX hW [4, 5, 6, 7] rfl rfl rfl rfl rfl ⟨Nat.le_of_ble_eq_true rfl, Nat.le_of_ble_eq_true rfl, rfl, rfl, Nat.zero_le _, Nat.zero_le _⟩ rfl hl.1 [] rfl (Nat.le_of_ble_eq_true rfl) dX7_addComment_27 (fun H locs hW => ?_)
  have hW : ms_W G A s H locs [ob_X7 a_this a_codes a_begins a_ends q14.1 a_characters a_attributeLetters a_valueBegins a_valueEnds x_attributeCount a_values, (a_codes, .inl (G.2.1 1, 200, .inl q14.2.1)), (a_begins, .inl (G.2.1 1, 200, .inl q14.2.2.1)), (a_ends, .inl (G.2.1 1, 200, .inl q14.2.2.2.1)), ob_X1 a_characters a_characters_row q27.1 q27.2.1, (a_characters_row, .inl (G.2.1 0, 200, .inl q27.2.2)), ob_X1 a_a2 a_a2_row x_a2_size x_a2_overflowed, (a_a2_row, .inl (G.2.1 0, 200, .inl x_a2_row))] := hW
  refine W.eq (g2 := F0 m 30 ls []) rfl ?_
  refine lv_aload_n hx hb dX7_addComment_30 rfl (lv_at hl 1 rfl) ?_
  refine lv_iload hx hb dX7_addComment_31 (lv_at hl 0 rfl) ?_
  obtain ⟨q33, hq33, h⟩ := ms_bd h
  refine ms_callV (fn_X7_endCharacters l G a_this a_codes a_begins a_ends a_characters a_attributeLetters a_valueBegins a_valueEnds a_values a_characters_row q14.1 x_attributeCount q14.2.2.2.1 q27.1 q27.2.1 q14.2.2.2.2 hq33) wm_X7_endCharacters wv_X7_89 hX hW [0, 3, 4] rfl rfl rfl rfl rfl ⟨Nat.le_of_ble_eq_true rfl, Nat.le_of_ble_eq_true rfl, rfl, rfl, Nat.zero_le _, Nat.zero_le _⟩ rfl hl.1 [] rfl (Nat.le_of_ble_eq_true rfl) dX7_addComment_33 (fun H locs hW => ?_)
  have hW : ms_W G A s H locs [ob_X7 a_this a_codes a_begins a_ends q14.1 a_characters a_attributeLetters a_valueBegins a_valueEnds x_attributeCount a_values, (a_codes, .inl (G.2.1 1, 200, .inl q14.2.1)), (a_begins, .inl (G.2.1 1, 200, .inl q14.2.2.1)), (a_ends, .inl (G.2.1 1, 200, .inl q33)), ob_X1 a_characters a_characters_row q27.1 q27.2.1, (a_characters_row, .inl (G.2.1 0, 200, .inl q27.2.2)), ob_X1 a_a2 a_a2_row x_a2_size x_a2_overflowed, (a_a2_row, .inl (G.2.1 0, 200, .inl x_a2_row))] := hW
  refine W.eq (g2 := F0 m 36 ls []) rfl ?_
  obtain rfl := Option.some.inj h
  exact ms_vret hX hW dX7_addComment_36
def rm_X4_readComment : Room := { frames := 5, cells := 0, slots := 0, locals := 108 }
def f_X4_readComment_L48 (x_source_size : Int32) (x_source_row : Nat → Int32) (x_builder_open_count : Int32) : Nat → Int32 → Int32 → (Nat → Int32) → (Nat → Int32) → (Nat → Int32) → Int32 → Int32 → (Nat → Int32) → Nat → Int32 → Int32 → Option (Int32 × Int32 × (Nat → Int32) × (Nat → Int32) × (Nat → Int32) × Int32 × Int32 × (Nat → Int32) × Nat × Int32 × Int32)
  | 0, _, _, _, _, _, _, _, _, _, _, _ => none
  | n + 1, x_at, x_tree_count, x_tree_codes, x_tree_begins, x_tree_ends, x_tree_characters_size, x_tree_characters_overflowed, x_tree_characters_row, v2, v3, v4 => (f_X1_size x_source_size).bind (fun q54 => (if q54 ≤ v4 then some (x_at, x_tree_count, x_tree_codes, x_tree_begins, x_tree_ends, x_tree_characters_size, x_tree_characters_overflowed, x_tree_characters_row, v2, v3, v4) else ms_gs v2 ((f_X1_has x_source_size x_source_row v4 v2).bind (fun q67 => (if q67 = 0 then f_X4_readComment_L48 x_source_size x_source_row x_builder_open_count n x_at x_tree_count x_tree_codes x_tree_begins x_tree_ends x_tree_characters_size x_tree_characters_overflowed x_tree_characters_row v2 v3 (v4 + 1) else some (x_at, x_tree_count, x_tree_codes, x_tree_begins, x_tree_ends, x_tree_characters_size, x_tree_characters_overflowed, x_tree_characters_row, v2, v3, v4))))))
set_option maxHeartbeats 4000000 in
set_option maxRecDepth 100000 in
theorem wb_X4_readComment_L48 {p : Program} {l : Launch} {e : Env} {s : State} {m : MethodId} {args : Array Value} {below : List Frame} {meth : Method} {c : Code} {G : Gc} {A : Nat → Prop} {a_this : Nat} {a_source : Nat} {a_tree : Nat} {a_builder : Nat} {a_tag : Nat} {a_source_row : Nat} {a_tree_codes : Nat} {a_tree_begins : Nat} {a_tree_ends : Nat} {a_tree_characters : Nat} {a_tree_attributeLetters : Nat} {a_tree_valueBegins : Nat} {a_tree_valueEnds : Nat} {a_tree_values : Nat} {a_tree_characters_row : Nat} {a_builder_open : Nat} {a_builder_open_names : Nat} {a_builder_open_foreigns : Nat} {x_rawDue : Int32} {x_source_size : Int32} {x_source_overflowed : Int32} {x_source_row : Nat → Int32} {x_tree_attributeCount : Int32} {x_builder_open_count : Int32}  {Q : State → Prop} {o : Int32 × Int32 × (Nat → Int32) × (Nat → Int32) × (Nat → Int32) × Int32 × Int32 × (Nat → Int32) × Nat × Int32 × Int32} (hX : ms_CX p s m args meth c cX4_readComment 5 RX4 none G A) (hq : ∀ (H : Heap) (locs : List Loc) (ls : Array Slot), ms_W G A s H locs [ob_X4 a_this a_source a_tree a_builder a_tag o.1 x_rawDue, ob_X1 a_source a_source_row x_source_size x_source_overflowed, (a_source_row, .inl (G.2.1 0, 200, .inl x_source_row)), ob_X7 a_tree a_tree_codes a_tree_begins a_tree_ends o.2.1 a_tree_characters a_tree_attributeLetters a_tree_valueBegins a_tree_valueEnds x_tree_attributeCount a_tree_values, (a_tree_codes, .inl (G.2.1 1, 200, .inl o.2.2.1)), (a_tree_begins, .inl (G.2.1 1, 200, .inl o.2.2.2.1)), (a_tree_ends, .inl (G.2.1 1, 200, .inl o.2.2.2.2.1)), ob_X1 a_tree_characters a_tree_characters_row o.2.2.2.2.2.1 o.2.2.2.2.2.2.1, (a_tree_characters_row, .inl (G.2.1 0, 200, .inl o.2.2.2.2.2.2.2.1)), ob_X0 a_builder a_source a_tree a_builder_open, ob_X2 a_builder_open a_builder_open_names a_builder_open_foreigns x_builder_open_count] → lv_has ls 5 [(0, .ref a_this), (2, .ref (G.2.2.1 o.2.2.2.2.2.2.2.2.1)), (3, .int o.2.2.2.2.2.2.2.2.2.1), (4, .int o.2.2.2.2.2.2.2.2.2.2)] → W p l e rm_X4_readComment s m args below meth c H locs 0 0 Q (F0 m 79 ls [])) : ∀ (n : Nat) (x_at : Int32) (x_tree_count : Int32) (x_tree_codes : Nat → Int32) (x_tree_begins : Nat → Int32) (x_tree_ends : Nat → Int32) (x_tree_characters_size : Int32) (x_tree_characters_overflowed : Int32) (x_tree_characters_row : Nat → Int32) (v2 : Nat) (v3 : Int32) (v4 : Int32) (H : Heap) (locs : List Loc) (ls : Array Slot), f_X4_readComment_L48 x_source_size x_source_row x_builder_open_count n x_at x_tree_count x_tree_codes x_tree_begins x_tree_ends x_tree_characters_size x_tree_characters_overflowed x_tree_characters_row v2 v3 v4 = some o → ms_W G A s H locs [ob_X4 a_this a_source a_tree a_builder a_tag x_at x_rawDue, ob_X1 a_source a_source_row x_source_size x_source_overflowed, (a_source_row, .inl (G.2.1 0, 200, .inl x_source_row)), ob_X7 a_tree a_tree_codes a_tree_begins a_tree_ends x_tree_count a_tree_characters a_tree_attributeLetters a_tree_valueBegins a_tree_valueEnds x_tree_attributeCount a_tree_values, (a_tree_codes, .inl (G.2.1 1, 200, .inl x_tree_codes)), (a_tree_begins, .inl (G.2.1 1, 200, .inl x_tree_begins)), (a_tree_ends, .inl (G.2.1 1, 200, .inl x_tree_ends)), ob_X1 a_tree_characters a_tree_characters_row x_tree_characters_size x_tree_characters_overflowed, (a_tree_characters_row, .inl (G.2.1 0, 200, .inl x_tree_characters_row)), ob_X0 a_builder a_source a_tree a_builder_open, ob_X2 a_builder_open a_builder_open_names a_builder_open_foreigns x_builder_open_count] → lv_has ls 5 [(0, .ref a_this), (2, .ref (G.2.2.1 v2)), (3, .int v3), (4, .int v4)] → W p l e rm_X4_readComment s m args below meth c H locs 0 0 Q (F0 m 48 ls []) := by
  have hx := hX.1.1
  have hb := hX.1.2.1
  intro n
  induction n with
  | zero => intro x_at x_tree_count x_tree_codes x_tree_begins x_tree_ends x_tree_characters_size x_tree_characters_overflowed x_tree_characters_row v2 v3 v4 H locs ls h; rw [f_X4_readComment_L48] at h; cases h
  | succ n ih =>
    intro x_at x_tree_count x_tree_codes x_tree_begins x_tree_ends x_tree_characters_size x_tree_characters_overflowed x_tree_characters_row v2 v3 v4 H locs ls h hW hl
    rw [f_X4_readComment_L48] at h
    refine lv_iload hx hb dX4_readComment_48 (lv_at hl 3 rfl) ?_
    refine lv_aload_n hx hb dX4_readComment_50 rfl (lv_at hl 0 rfl) ?_
    refine ms_get ff_X4_9 hX hW 0 rfl rfl dX4_readComment_51 ?_
    obtain ⟨q54, hq54, h⟩ := ms_bd h
    refine ms_callV (fn_X1_size l G a_source a_source_row x_source_size x_source_overflowed hq54) wm_X1_size wv_X4_46 hX hW [1] rfl rfl rfl rfl rfl ⟨Nat.le_of_ble_eq_true rfl, Nat.le_of_ble_eq_true rfl, rfl, rfl, Nat.zero_le _, Nat.zero_le _⟩ rfl hl.1 [.int v4] rfl (Nat.le_of_ble_eq_true rfl) dX4_readComment_54 (fun H locs hW => ?_)
    have hW : ms_W G A s H locs [ob_X4 a_this a_source a_tree a_builder a_tag x_at x_rawDue, ob_X1 a_source a_source_row x_source_size x_source_overflowed, (a_source_row, .inl (G.2.1 0, 200, .inl x_source_row)), ob_X7 a_tree a_tree_codes a_tree_begins a_tree_ends x_tree_count a_tree_characters a_tree_attributeLetters a_tree_valueBegins a_tree_valueEnds x_tree_attributeCount a_tree_values, (a_tree_codes, .inl (G.2.1 1, 200, .inl x_tree_codes)), (a_tree_begins, .inl (G.2.1 1, 200, .inl x_tree_begins)), (a_tree_ends, .inl (G.2.1 1, 200, .inl x_tree_ends)), ob_X1 a_tree_characters a_tree_characters_row x_tree_characters_size x_tree_characters_overflowed, (a_tree_characters_row, .inl (G.2.1 0, 200, .inl x_tree_characters_row)), ob_X0 a_builder a_source a_tree a_builder_open, ob_X2 a_builder_open a_builder_open_names a_builder_open_foreigns x_builder_open_count] := hW
    refine W.eq (g2 := F0 m 57 ls [.int q54, .int v4]) rfl ?_
    refine lv_icmp_ge (tgt := 79) hx hb dX4_readComment_57 (by decide) (fun k => ?_) (fun k => ?_)
    · have h := ms_ifp h k
      obtain rfl := Option.some.inj h
      exact hq _ _ _ hW (lv_sub hl [0, 1, 2, 3] rfl)
    · have h := ms_ifn h k
      refine lv_aload_n hx hb dX4_readComment_60 rfl (lv_at hl 0 rfl) ?_
      refine ms_get ff_X4_9 hX hW 0 rfl rfl dX4_readComment_61 ?_
      refine lv_iload hx hb dX4_readComment_64 (lv_at hl 3 rfl) ?_
      refine lv_aload_n hx hb dX4_readComment_66 rfl (lv_at hl 1 rfl) ?_
      obtain ⟨ks, h⟩ := ms_gs_some h
      obtain ⟨q67, hq67, h⟩ := ms_bd h
      refine ms_callV (fn_X1_has l G a_source a_source_row x_source_size x_source_overflowed x_source_row v4 v2 ks hq67) wm_X1_has wv_X4_107 hX hW [1, 2] rfl rfl rfl rfl rfl ⟨Nat.le_of_ble_eq_true rfl, Nat.le_of_ble_eq_true rfl, rfl, rfl, Nat.zero_le _, Nat.zero_le _⟩ rfl hl.1 [] rfl (Nat.le_of_ble_eq_true rfl) dX4_readComment_67 (fun H locs hW => ?_)
      have hW : ms_W G A s H locs [ob_X4 a_this a_source a_tree a_builder a_tag x_at x_rawDue, ob_X1 a_source a_source_row x_source_size x_source_overflowed, (a_source_row, .inl (G.2.1 0, 200, .inl x_source_row)), ob_X7 a_tree a_tree_codes a_tree_begins a_tree_ends x_tree_count a_tree_characters a_tree_attributeLetters a_tree_valueBegins a_tree_valueEnds x_tree_attributeCount a_tree_values, (a_tree_codes, .inl (G.2.1 1, 200, .inl x_tree_codes)), (a_tree_begins, .inl (G.2.1 1, 200, .inl x_tree_begins)), (a_tree_ends, .inl (G.2.1 1, 200, .inl x_tree_ends)), ob_X1 a_tree_characters a_tree_characters_row x_tree_characters_size x_tree_characters_overflowed, (a_tree_characters_row, .inl (G.2.1 0, 200, .inl x_tree_characters_row)), ob_X0 a_builder a_source a_tree a_builder_open, ob_X2 a_builder_open a_builder_open_names a_builder_open_foreigns x_builder_open_count] := hW
      refine W.eq (g2 := F0 m 70 ls [.int q67]) rfl ?_
      refine lv_if_ne (tgt := 79) hx hb dX4_readComment_70 (by decide) (fun k => ?_) (fun k => ?_)
      · have h := ms_ifn h k
        obtain rfl := Option.some.inj h
        exact hq _ _ _ hW (lv_sub hl [0, 1, 2, 3] rfl)
      · have h := ms_ifp h k
        refine lv_iinc (v := v4 + 1) (lv' := [(4, .int (v4 + 1)), (0, .ref a_this), (2, .ref (G.2.2.1 v2)), (3, .int v3)]) hx hb dX4_readComment_73 hl (k := 3) rfl rfl (by decide) rfl (fun ls hl => ?_)
        refine lv_goto (tgt := 48) hx hb dX4_readComment_76 (by decide) ?_
        exact ih _ _ _ _ _ _ _ _ _ _ _ _ _ _ h hW (lv_sub hl [1, 2, 3, 0] rfl)
def f_X4_readComment_L43 (x_source_size : Int32) (x_source_row : Nat → Int32) (x_builder_open_count : Int32) (x_at : Int32) (x_tree_count : Int32) (x_tree_codes : Nat → Int32) (x_tree_begins : Nat → Int32) (x_tree_ends : Nat → Int32) (x_tree_characters_size : Int32) (x_tree_characters_overflowed : Int32) (x_tree_characters_row : Nat → Int32) (v2 : Nat) (z0 : Int32) (z1 : Int32) : Option (Int32 × Int32 × (Nat → Int32) × (Nat → Int32) × (Nat → Int32) × Int32 × Int32 × (Nat → Int32)) := (f_X4_readComment_L48 x_source_size x_source_row x_builder_open_count 1000 x_at x_tree_count x_tree_codes x_tree_begins x_tree_ends x_tree_characters_size x_tree_characters_overflowed x_tree_characters_row v2 (z0 + z1) (z0 + z1)).bind (fun w48 => (f_X0_depth x_builder_open_count).bind (fun q87 => (f_X7_addComment w48.2.1 w48.2.2.1 w48.2.2.2.1 w48.2.2.2.2.1 w48.2.2.2.2.2.1 w48.2.2.2.2.2.2.1 w48.2.2.2.2.2.2.2.1 x_source_size x_source_row q87 w48.2.2.2.2.2.2.2.2.2.1 w48.2.2.2.2.2.2.2.2.2.2).bind (fun q97 => ms_gs w48.2.2.2.2.2.2.2.2.1 ((f_J0_length_8abf5 w48.2.2.2.2.2.2.2.2.1).bind (fun q104 => some (w48.2.2.2.2.2.2.2.2.2.2 + q104, q97.1, q97.2.1, q97.2.2.1, q97.2.2.2.1, q97.2.2.2.2.1, q97.2.2.2.2.2.1, q97.2.2.2.2.2.2))))))
set_option maxHeartbeats 4000000 in
set_option maxRecDepth 100000 in
theorem wb_X4_readComment_L43 {p : Program} {l : Launch} {e : Env} {s : State} {m : MethodId} {args : Array Value} {below : List Frame} {meth : Method} {c : Code} {G : Gc} {A : Nat → Prop} {H : Heap} {locs : List Loc} {ls : Array Slot} {a_this : Nat} {a_source : Nat} {a_tree : Nat} {a_builder : Nat} {a_tag : Nat} {a_source_row : Nat} {a_tree_codes : Nat} {a_tree_begins : Nat} {a_tree_ends : Nat} {a_tree_characters : Nat} {a_tree_attributeLetters : Nat} {a_tree_valueBegins : Nat} {a_tree_valueEnds : Nat} {a_tree_values : Nat} {a_tree_characters_row : Nat} {a_builder_open : Nat} {a_builder_open_names : Nat} {a_builder_open_foreigns : Nat} {x_rawDue : Int32} {x_source_size : Int32} {x_source_overflowed : Int32} {x_source_row : Nat → Int32} {x_tree_attributeCount : Int32} {x_builder_open_count : Int32}  {x_at : Int32} {x_tree_count : Int32} {x_tree_codes : Nat → Int32} {x_tree_begins : Nat → Int32} {x_tree_ends : Nat → Int32} {x_tree_characters_size : Int32} {x_tree_characters_overflowed : Int32} {x_tree_characters_row : Nat → Int32} {v2 : Nat} {z0 : Int32} {z1 : Int32} {o : Int32 × Int32 × (Nat → Int32) × (Nat → Int32) × (Nat → Int32) × Int32 × Int32 × (Nat → Int32)} (hX : ms_CX p s m args meth c cX4_readComment 5 RX4 none G A)   (h : f_X4_readComment_L43 x_source_size x_source_row x_builder_open_count x_at x_tree_count x_tree_codes x_tree_begins x_tree_ends x_tree_characters_size x_tree_characters_overflowed x_tree_characters_row v2 z0 z1 = some o) (hW : ms_W G A s H locs [ob_X4 a_this a_source a_tree a_builder a_tag x_at x_rawDue, ob_X1 a_source a_source_row x_source_size x_source_overflowed, (a_source_row, .inl (G.2.1 0, 200, .inl x_source_row)), ob_X7 a_tree a_tree_codes a_tree_begins a_tree_ends x_tree_count a_tree_characters a_tree_attributeLetters a_tree_valueBegins a_tree_valueEnds x_tree_attributeCount a_tree_values, (a_tree_codes, .inl (G.2.1 1, 200, .inl x_tree_codes)), (a_tree_begins, .inl (G.2.1 1, 200, .inl x_tree_begins)), (a_tree_ends, .inl (G.2.1 1, 200, .inl x_tree_ends)), ob_X1 a_tree_characters a_tree_characters_row x_tree_characters_size x_tree_characters_overflowed, (a_tree_characters_row, .inl (G.2.1 0, 200, .inl x_tree_characters_row)), ob_X0 a_builder a_source a_tree a_builder_open, ob_X2 a_builder_open a_builder_open_names a_builder_open_foreigns x_builder_open_count]) (hl : lv_has ls 5 [(0, .ref a_this), (2, .ref (G.2.2.1 v2))]) : W p l e rm_X4_readComment s m args below meth c H locs 0 0 (ms_Q G A below args s [ob_X4 a_this a_source a_tree a_builder a_tag o.1 x_rawDue, ob_X1 a_source a_source_row x_source_size x_source_overflowed, (a_source_row, .inl (G.2.1 0, 200, .inl x_source_row)), ob_X7 a_tree a_tree_codes a_tree_begins a_tree_ends o.2.1 a_tree_characters a_tree_attributeLetters a_tree_valueBegins a_tree_valueEnds x_tree_attributeCount a_tree_values, (a_tree_codes, .inl (G.2.1 1, 200, .inl o.2.2.1)), (a_tree_begins, .inl (G.2.1 1, 200, .inl o.2.2.2.1)), (a_tree_ends, .inl (G.2.1 1, 200, .inl o.2.2.2.2.1)), ob_X1 a_tree_characters a_tree_characters_row o.2.2.2.2.2.1 o.2.2.2.2.2.2.1, (a_tree_characters_row, .inl (G.2.1 0, 200, .inl o.2.2.2.2.2.2.2)), ob_X0 a_builder a_source a_tree a_builder_open, ob_X2 a_builder_open a_builder_open_names a_builder_open_foreigns x_builder_open_count] none) (F0 m 43 ls [.int z1, .int z0]) := by
  have hx := hX.1.1
  have hb := hX.1.2.1
  unfold f_X4_readComment_L43 at h
  refine lv_iadd hx hb dX4_readComment_43 ?_
  refine lv_istore_n (lv' := [(3, .int (z0 + z1)), (0, .ref a_this), (2, .ref (G.2.2.1 v2))]) hx hb dX4_readComment_44 rfl hl (by decide) rfl (fun ls hl => ?_)
  refine lv_iload_n hx hb dX4_readComment_45 rfl (lv_at hl 0 rfl) ?_
  refine lv_istore (lv' := [(4, .int (z0 + z1)), (3, .int (z0 + z1)), (0, .ref a_this), (2, .ref (G.2.2.1 v2))]) hx hb dX4_readComment_46 hl (by decide) rfl (fun ls hl => ?_)
  obtain ⟨w48, hqw48, h⟩ := ms_bd h
  refine wb_X4_readComment_L48 hX (o := w48) (fun H locs ls hW hl => ?_) _ _ _ _ _ _ _ _ _ _ _ _ _ _ _ hqw48 hW (lv_sub hl [2, 3, 1, 0] rfl)
  refine lv_aload_n hx hb dX4_readComment_79 rfl (lv_at hl 0 rfl) ?_
  refine ms_get ff_X4_15 hX hW 0 rfl rfl dX4_readComment_80 ?_
  refine lv_aload_n hx hb dX4_readComment_83 rfl (lv_at hl 0 rfl) ?_
  refine ms_get ff_X4_24 hX hW 0 rfl rfl dX4_readComment_84 ?_
  obtain ⟨q87, hq87, h⟩ := ms_bd h
  refine ms_callV (fn_X0_depth l G a_builder a_source a_tree a_builder_open a_builder_open_names a_builder_open_foreigns x_builder_open_count hq87) wm_X0_depth wv_X4_96 hX hW [9, 10] rfl rfl rfl rfl rfl ⟨Nat.le_of_ble_eq_true rfl, Nat.le_of_ble_eq_true rfl, rfl, rfl, Nat.zero_le _, Nat.zero_le _⟩ rfl hl.1 [.ref a_tree] rfl (Nat.le_of_ble_eq_true rfl) dX4_readComment_87 (fun H locs hW => ?_)
  have hW : ms_W G A s H locs [ob_X4 a_this a_source a_tree a_builder a_tag w48.1 x_rawDue, ob_X1 a_source a_source_row x_source_size x_source_overflowed, (a_source_row, .inl (G.2.1 0, 200, .inl x_source_row)), ob_X7 a_tree a_tree_codes a_tree_begins a_tree_ends w48.2.1 a_tree_characters a_tree_attributeLetters a_tree_valueBegins a_tree_valueEnds x_tree_attributeCount a_tree_values, (a_tree_codes, .inl (G.2.1 1, 200, .inl w48.2.2.1)), (a_tree_begins, .inl (G.2.1 1, 200, .inl w48.2.2.2.1)), (a_tree_ends, .inl (G.2.1 1, 200, .inl w48.2.2.2.2.1)), ob_X1 a_tree_characters a_tree_characters_row w48.2.2.2.2.2.1 w48.2.2.2.2.2.2.1, (a_tree_characters_row, .inl (G.2.1 0, 200, .inl w48.2.2.2.2.2.2.2.1)), ob_X0 a_builder a_source a_tree a_builder_open, ob_X2 a_builder_open a_builder_open_names a_builder_open_foreigns x_builder_open_count] := hW
  refine W.eq (g2 := F0 m 90 ls [.int q87, .ref a_tree]) rfl ?_
  refine lv_aload_n hx hb dX4_readComment_90 rfl (lv_at hl 0 rfl) ?_
  refine ms_get ff_X4_9 hX hW 0 rfl rfl dX4_readComment_91 ?_
  refine lv_iload_n hx hb dX4_readComment_94 rfl (lv_at hl 2 rfl) ?_
  refine lv_iload hx hb dX4_readComment_95 (lv_at hl 3 rfl) ?_
  obtain ⟨q97, hq97, h⟩ := ms_bd h
  refine ms_callV (fn_X7_addComment l G a_tree a_tree_codes a_tree_begins a_tree_ends a_tree_characters a_tree_attributeLetters a_tree_valueBegins a_tree_valueEnds a_tree_values a_tree_characters_row a_source a_source_row w48.2.1 x_tree_attributeCount w48.2.2.1 w48.2.2.2.1 w48.2.2.2.2.1 w48.2.2.2.2.2.1 w48.2.2.2.2.2.2.1 w48.2.2.2.2.2.2.2.1 x_source_size x_source_overflowed x_source_row q87 w48.2.2.2.2.2.2.2.2.2.1 w48.2.2.2.2.2.2.2.2.2.2 hq97) wm_X7_addComment wv_X4_127 hX hW [3, 4, 5, 6, 7, 8, 1, 2] rfl rfl rfl rfl rfl ⟨Nat.le_of_ble_eq_true rfl, Nat.le_of_ble_eq_true rfl, rfl, rfl, Nat.zero_le _, Nat.zero_le _⟩ rfl hl.1 [] rfl (Nat.le_of_ble_eq_true rfl) dX4_readComment_97 (fun H locs hW => ?_)
  have hW : ms_W G A s H locs [ob_X4 a_this a_source a_tree a_builder a_tag w48.1 x_rawDue, ob_X1 a_source a_source_row x_source_size x_source_overflowed, (a_source_row, .inl (G.2.1 0, 200, .inl x_source_row)), ob_X7 a_tree a_tree_codes a_tree_begins a_tree_ends q97.1 a_tree_characters a_tree_attributeLetters a_tree_valueBegins a_tree_valueEnds x_tree_attributeCount a_tree_values, (a_tree_codes, .inl (G.2.1 1, 200, .inl q97.2.1)), (a_tree_begins, .inl (G.2.1 1, 200, .inl q97.2.2.1)), (a_tree_ends, .inl (G.2.1 1, 200, .inl q97.2.2.2.1)), ob_X1 a_tree_characters a_tree_characters_row q97.2.2.2.2.1 q97.2.2.2.2.2.1, (a_tree_characters_row, .inl (G.2.1 0, 200, .inl q97.2.2.2.2.2.2)), ob_X0 a_builder a_source a_tree a_builder_open, ob_X2 a_builder_open a_builder_open_names a_builder_open_foreigns x_builder_open_count] := hW
  refine W.eq (g2 := F0 m 100 ls []) rfl ?_
  refine lv_aload_n hx hb dX4_readComment_100 rfl (lv_at hl 0 rfl) ?_
  refine lv_iload hx hb dX4_readComment_101 (lv_at hl 3 rfl) ?_
  refine lv_aload_n hx hb dX4_readComment_103 rfl (lv_at hl 1 rfl) ?_
  obtain ⟨ks, h⟩ := ms_gs_some h
  obtain ⟨q104, hq104, h⟩ := ms_bd h
  refine ms_callK (fn_J0_length_8abf5 l G w48.2.2.2.2.2.2.2.2.1 ks hq104) ks wm_J0_length_8abf5 wv_X4_122 hX hW ⟨Nat.le_of_ble_eq_true rfl, Nat.le_of_ble_eq_true rfl, rfl, rfl, Nat.zero_le _, Nat.zero_le _⟩ rfl hl.1 [.int w48.2.2.2.2.2.2.2.2.2.2, .ref a_this] rfl (Nat.le_of_ble_eq_true rfl) dX4_readComment_104 (fun H locs hW => ?_)
  have hW : ms_W G A s H locs [ob_X4 a_this a_source a_tree a_builder a_tag w48.1 x_rawDue, ob_X1 a_source a_source_row x_source_size x_source_overflowed, (a_source_row, .inl (G.2.1 0, 200, .inl x_source_row)), ob_X7 a_tree a_tree_codes a_tree_begins a_tree_ends q97.1 a_tree_characters a_tree_attributeLetters a_tree_valueBegins a_tree_valueEnds x_tree_attributeCount a_tree_values, (a_tree_codes, .inl (G.2.1 1, 200, .inl q97.2.1)), (a_tree_begins, .inl (G.2.1 1, 200, .inl q97.2.2.1)), (a_tree_ends, .inl (G.2.1 1, 200, .inl q97.2.2.2.1)), ob_X1 a_tree_characters a_tree_characters_row q97.2.2.2.2.1 q97.2.2.2.2.2.1, (a_tree_characters_row, .inl (G.2.1 0, 200, .inl q97.2.2.2.2.2.2)), ob_X0 a_builder a_source a_tree a_builder_open, ob_X2 a_builder_open a_builder_open_names a_builder_open_foreigns x_builder_open_count] := hW
  refine W.eq (g2 := F0 m 107 ls [.int q104, .int w48.2.2.2.2.2.2.2.2.2.2, .ref a_this]) rfl ?_
  refine lv_iadd hx hb dX4_readComment_107 ?_
  refine ms_put ff_X4_35 fp_X4_4 rfl hX hW 0 rfl rfl rfl (Nat.le_of_ble_eq_true rfl) dX4_readComment_108 (fun H locs hW => ?_)
  have hW : ms_W G A s H locs [ob_X4 a_this a_source a_tree a_builder a_tag (w48.2.2.2.2.2.2.2.2.2.2 + q104) x_rawDue, ob_X1 a_source a_source_row x_source_size x_source_overflowed, (a_source_row, .inl (G.2.1 0, 200, .inl x_source_row)), ob_X7 a_tree a_tree_codes a_tree_begins a_tree_ends q97.1 a_tree_characters a_tree_attributeLetters a_tree_valueBegins a_tree_valueEnds x_tree_attributeCount a_tree_values, (a_tree_codes, .inl (G.2.1 1, 200, .inl q97.2.1)), (a_tree_begins, .inl (G.2.1 1, 200, .inl q97.2.2.1)), (a_tree_ends, .inl (G.2.1 1, 200, .inl q97.2.2.2.1)), ob_X1 a_tree_characters a_tree_characters_row q97.2.2.2.2.1 q97.2.2.2.2.2.1, (a_tree_characters_row, .inl (G.2.1 0, 200, .inl q97.2.2.2.2.2.2)), ob_X0 a_builder a_source a_tree a_builder_open, ob_X2 a_builder_open a_builder_open_names a_builder_open_foreigns x_builder_open_count] := hW
  obtain rfl := Option.some.inj h
  exact ms_vret hX hW dX4_readComment_111
def f_X4_readComment_L25 (x_source_size : Int32) (x_source_row : Nat → Int32) (x_builder_open_count : Int32) (x_at : Int32) (x_tree_count : Int32) (x_tree_codes : Nat → Int32) (x_tree_begins : Nat → Int32) (x_tree_ends : Nat → Int32) (x_tree_characters_size : Int32) (x_tree_characters_overflowed : Int32) (x_tree_characters_row : Nat → Int32) (v1 : Int32) (z0 : Nat) : Option (Int32 × Int32 × (Nat → Int32) × (Nat → Int32) × (Nat → Int32) × Int32 × Int32 × (Nat → Int32)) := (if v1 = 0 then f_X4_readComment_L43 x_source_size x_source_row x_builder_open_count x_at x_tree_count x_tree_codes x_tree_begins x_tree_ends x_tree_characters_size x_tree_characters_overflowed x_tree_characters_row z0 x_at 2 else (f_J0_length_8abf5 6).bind (fun q36 => f_X4_readComment_L43 x_source_size x_source_row x_builder_open_count x_at x_tree_count x_tree_codes x_tree_begins x_tree_ends x_tree_characters_size x_tree_characters_overflowed x_tree_characters_row z0 x_at q36))
set_option maxHeartbeats 4000000 in
set_option maxRecDepth 100000 in
theorem wb_X4_readComment_L25 {p : Program} {l : Launch} {e : Env} {s : State} {m : MethodId} {args : Array Value} {below : List Frame} {meth : Method} {c : Code} {G : Gc} {A : Nat → Prop} {H : Heap} {locs : List Loc} {ls : Array Slot} {a_this : Nat} {a_source : Nat} {a_tree : Nat} {a_builder : Nat} {a_tag : Nat} {a_source_row : Nat} {a_tree_codes : Nat} {a_tree_begins : Nat} {a_tree_ends : Nat} {a_tree_characters : Nat} {a_tree_attributeLetters : Nat} {a_tree_valueBegins : Nat} {a_tree_valueEnds : Nat} {a_tree_values : Nat} {a_tree_characters_row : Nat} {a_builder_open : Nat} {a_builder_open_names : Nat} {a_builder_open_foreigns : Nat} {x_rawDue : Int32} {x_source_size : Int32} {x_source_overflowed : Int32} {x_source_row : Nat → Int32} {x_tree_attributeCount : Int32} {x_builder_open_count : Int32}  {x_at : Int32} {x_tree_count : Int32} {x_tree_codes : Nat → Int32} {x_tree_begins : Nat → Int32} {x_tree_ends : Nat → Int32} {x_tree_characters_size : Int32} {x_tree_characters_overflowed : Int32} {x_tree_characters_row : Nat → Int32} {v1 : Int32} {z0 : Nat} {o : Int32 × Int32 × (Nat → Int32) × (Nat → Int32) × (Nat → Int32) × Int32 × Int32 × (Nat → Int32)} (hX : ms_CX p s m args meth c cX4_readComment 5 RX4 none G A)   (h : f_X4_readComment_L25 x_source_size x_source_row x_builder_open_count x_at x_tree_count x_tree_codes x_tree_begins x_tree_ends x_tree_characters_size x_tree_characters_overflowed x_tree_characters_row v1 z0 = some o) (hW : ms_W G A s H locs [ob_X4 a_this a_source a_tree a_builder a_tag x_at x_rawDue, ob_X1 a_source a_source_row x_source_size x_source_overflowed, (a_source_row, .inl (G.2.1 0, 200, .inl x_source_row)), ob_X7 a_tree a_tree_codes a_tree_begins a_tree_ends x_tree_count a_tree_characters a_tree_attributeLetters a_tree_valueBegins a_tree_valueEnds x_tree_attributeCount a_tree_values, (a_tree_codes, .inl (G.2.1 1, 200, .inl x_tree_codes)), (a_tree_begins, .inl (G.2.1 1, 200, .inl x_tree_begins)), (a_tree_ends, .inl (G.2.1 1, 200, .inl x_tree_ends)), ob_X1 a_tree_characters a_tree_characters_row x_tree_characters_size x_tree_characters_overflowed, (a_tree_characters_row, .inl (G.2.1 0, 200, .inl x_tree_characters_row)), ob_X0 a_builder a_source a_tree a_builder_open, ob_X2 a_builder_open a_builder_open_names a_builder_open_foreigns x_builder_open_count]) (hl : lv_has ls 5 [(0, .ref a_this), (1, .int v1)]) : W p l e rm_X4_readComment s m args below meth c H locs 0 0 (ms_Q G A below args s [ob_X4 a_this a_source a_tree a_builder a_tag o.1 x_rawDue, ob_X1 a_source a_source_row x_source_size x_source_overflowed, (a_source_row, .inl (G.2.1 0, 200, .inl x_source_row)), ob_X7 a_tree a_tree_codes a_tree_begins a_tree_ends o.2.1 a_tree_characters a_tree_attributeLetters a_tree_valueBegins a_tree_valueEnds x_tree_attributeCount a_tree_values, (a_tree_codes, .inl (G.2.1 1, 200, .inl o.2.2.1)), (a_tree_begins, .inl (G.2.1 1, 200, .inl o.2.2.2.1)), (a_tree_ends, .inl (G.2.1 1, 200, .inl o.2.2.2.2.1)), ob_X1 a_tree_characters a_tree_characters_row o.2.2.2.2.2.1 o.2.2.2.2.2.2.1, (a_tree_characters_row, .inl (G.2.1 0, 200, .inl o.2.2.2.2.2.2.2)), ob_X0 a_builder a_source a_tree a_builder_open, ob_X2 a_builder_open a_builder_open_names a_builder_open_foreigns x_builder_open_count] none) (F0 m 25 ls [.ref (G.2.2.1 z0)]) := by
  have hx := hX.1.1
  have hb := hX.1.2.1
  unfold f_X4_readComment_L25 at h
  refine lv_astore_n (lv' := [(2, .ref (G.2.2.1 z0)), (0, .ref a_this), (1, .int v1)]) hx hb dX4_readComment_25 rfl hl (by decide) rfl (fun ls hl => ?_)
  refine lv_aload_n hx hb dX4_readComment_26 rfl (lv_at hl 1 rfl) ?_
  refine ms_get ff_X4_35 hX hW 0 rfl rfl dX4_readComment_27 ?_
  refine lv_iload_n hx hb dX4_readComment_30 rfl (lv_at hl 2 rfl) ?_
  refine lv_if_eq (tgt := 42) hx hb dX4_readComment_31 (by decide) (fun k => ?_) (fun k => ?_)
  · have h := ms_ifp h k
    refine lv_iconst (v := 2) hx hb dX4_readComment_42 (by decide) ?_
    exact wb_X4_readComment_L43 hX h hW (lv_sub hl [1, 0] rfl)
  · have h := ms_ifn h k
    refine ms_ldcS hX (tx := "<!--") (i := 6) (List.mem_of_getElem? (i := 6) rfl) dX4_readComment_34 ?_
    obtain ⟨q36, hq36, h⟩ := ms_bd h
    refine ms_callK (fn_J0_length_8abf5 l G 6 (by decide) hq36) (by decide) wm_J0_length_8abf5 wv_X4_122 hX hW ⟨Nat.le_of_ble_eq_true rfl, Nat.le_of_ble_eq_true rfl, rfl, rfl, Nat.zero_le _, Nat.zero_le _⟩ rfl hl.1 [.int x_at] rfl (Nat.le_of_ble_eq_true rfl) dX4_readComment_36 (fun H locs hW => ?_)
    have hW : ms_W G A s H locs [ob_X4 a_this a_source a_tree a_builder a_tag x_at x_rawDue, ob_X1 a_source a_source_row x_source_size x_source_overflowed, (a_source_row, .inl (G.2.1 0, 200, .inl x_source_row)), ob_X7 a_tree a_tree_codes a_tree_begins a_tree_ends x_tree_count a_tree_characters a_tree_attributeLetters a_tree_valueBegins a_tree_valueEnds x_tree_attributeCount a_tree_values, (a_tree_codes, .inl (G.2.1 1, 200, .inl x_tree_codes)), (a_tree_begins, .inl (G.2.1 1, 200, .inl x_tree_begins)), (a_tree_ends, .inl (G.2.1 1, 200, .inl x_tree_ends)), ob_X1 a_tree_characters a_tree_characters_row x_tree_characters_size x_tree_characters_overflowed, (a_tree_characters_row, .inl (G.2.1 0, 200, .inl x_tree_characters_row)), ob_X0 a_builder a_source a_tree a_builder_open, ob_X2 a_builder_open a_builder_open_names a_builder_open_foreigns x_builder_open_count] := hW
    refine W.eq (g2 := F0 m 39 ls [.int q36, .int x_at]) rfl ?_
    refine lv_goto (tgt := 43) hx hb dX4_readComment_39 (by decide) ?_
    exact wb_X4_readComment_L43 hX h hW (lv_sub hl [1, 0] rfl)
def f_X4_readComment (x_at : Int32) (x_source_size : Int32) (x_source_row : Nat → Int32) (x_tree_count : Int32) (x_tree_codes : Nat → Int32) (x_tree_begins : Nat → Int32) (x_tree_ends : Nat → Int32) (x_tree_characters_size : Int32) (x_tree_characters_overflowed : Int32) (x_tree_characters_row : Nat → Int32) (x_builder_open_count : Int32)  : Option (Int32 × Int32 × (Nat → Int32) × (Nat → Int32) × (Nat → Int32) × Int32 × Int32 × (Nat → Int32)) := (f_X1_has x_source_size x_source_row x_at 6).bind (fun q10 => (if q10 = 0 then f_X4_readComment_L25 x_source_size x_source_row x_builder_open_count x_at x_tree_count x_tree_codes x_tree_begins x_tree_ends x_tree_characters_size x_tree_characters_overflowed x_tree_characters_row q10 8 else f_X4_readComment_L25 x_source_size x_source_row x_builder_open_count x_at x_tree_count x_tree_codes x_tree_begins x_tree_ends x_tree_characters_size x_tree_characters_overflowed x_tree_characters_row q10 7))
set_option maxHeartbeats 4000000 in
set_option maxRecDepth 100000 in
theorem fn_X4_readComment (l : Launch) (G : Gc) (a_this : Nat) (a_source : Nat) (a_tree : Nat) (a_builder : Nat) (a_tag : Nat) (a_source_row : Nat) (a_tree_codes : Nat) (a_tree_begins : Nat) (a_tree_ends : Nat) (a_tree_characters : Nat) (a_tree_attributeLetters : Nat) (a_tree_valueBegins : Nat) (a_tree_valueEnds : Nat) (a_tree_values : Nat) (a_tree_characters_row : Nat) (a_builder_open : Nat) (a_builder_open_names : Nat) (a_builder_open_foreigns : Nat) (x_at : Int32) (x_rawDue : Int32) (x_source_size : Int32) (x_source_overflowed : Int32) (x_source_row : Nat → Int32) (x_tree_count : Int32) (x_tree_attributeCount : Int32) (x_tree_codes : Nat → Int32) (x_tree_begins : Nat → Int32) (x_tree_ends : Nat → Int32) (x_tree_characters_size : Int32) (x_tree_characters_overflowed : Int32) (x_tree_characters_row : Nat → Int32) (x_builder_open_count : Int32)   {o : Int32 × Int32 × (Nat → Int32) × (Nat → Int32) × (Nat → Int32) × Int32 × Int32 × (Nat → Int32)} (h : f_X4_readComment x_at x_source_size x_source_row x_tree_count x_tree_codes x_tree_begins x_tree_ends x_tree_characters_size x_tree_characters_overflowed x_tree_characters_row x_builder_open_count = some o) : ms_Fn l G yX4_readComment cX4_readComment 5 none rm_X4_readComment [.ref a_this] [ob_X4 a_this a_source a_tree a_builder a_tag x_at x_rawDue, ob_X1 a_source a_source_row x_source_size x_source_overflowed, (a_source_row, .inl (G.2.1 0, 200, .inl x_source_row)), ob_X7 a_tree a_tree_codes a_tree_begins a_tree_ends x_tree_count a_tree_characters a_tree_attributeLetters a_tree_valueBegins a_tree_valueEnds x_tree_attributeCount a_tree_values, (a_tree_codes, .inl (G.2.1 1, 200, .inl x_tree_codes)), (a_tree_begins, .inl (G.2.1 1, 200, .inl x_tree_begins)), (a_tree_ends, .inl (G.2.1 1, 200, .inl x_tree_ends)), ob_X1 a_tree_characters a_tree_characters_row x_tree_characters_size x_tree_characters_overflowed, (a_tree_characters_row, .inl (G.2.1 0, 200, .inl x_tree_characters_row)), ob_X0 a_builder a_source a_tree a_builder_open, ob_X2 a_builder_open a_builder_open_names a_builder_open_foreigns x_builder_open_count] [ob_X4 a_this a_source a_tree a_builder a_tag o.1 x_rawDue, ob_X1 a_source a_source_row x_source_size x_source_overflowed, (a_source_row, .inl (G.2.1 0, 200, .inl x_source_row)), ob_X7 a_tree a_tree_codes a_tree_begins a_tree_ends o.2.1 a_tree_characters a_tree_attributeLetters a_tree_valueBegins a_tree_valueEnds x_tree_attributeCount a_tree_values, (a_tree_codes, .inl (G.2.1 1, 200, .inl o.2.2.1)), (a_tree_begins, .inl (G.2.1 1, 200, .inl o.2.2.2.1)), (a_tree_ends, .inl (G.2.1 1, 200, .inl o.2.2.2.2.1)), ob_X1 a_tree_characters a_tree_characters_row o.2.2.2.2.2.1 o.2.2.2.2.2.2.1, (a_tree_characters_row, .inl (G.2.1 0, 200, .inl o.2.2.2.2.2.2.2)), ob_X0 a_builder a_source a_tree a_builder_open, ob_X2 a_builder_open a_builder_open_names a_builder_open_foreigns x_builder_open_count] none := by
  refine ms_start RX4 (by decide +kernel) rfl (Nat.le_of_ble_eq_true rfl) (fun p e s m below meth c A ls hX hW hl => ?_)
  have hx := hX.1.1
  have hb := hX.1.2.1
  have hl : lv_has ls 5 [(0, .ref a_this)] := hl
  unfold f_X4_readComment at h
  refine lv_aload_n hx hb dX4_readComment_0 rfl (lv_at hl 0 rfl) ?_
  refine ms_get ff_X4_9 hX hW 0 rfl rfl dX4_readComment_1 ?_
  refine lv_aload_n hx hb dX4_readComment_4 rfl (lv_at hl 0 rfl) ?_
  refine ms_get ff_X4_35 hX hW 0 rfl rfl dX4_readComment_5 ?_
  refine ms_ldcS hX (tx := "<!--") (i := 6) (List.mem_of_getElem? (i := 6) rfl) dX4_readComment_8 ?_
  obtain ⟨q10, hq10, h⟩ := ms_bd h
  refine ms_callV (fn_X1_has l G a_source a_source_row x_source_size x_source_overflowed x_source_row x_at 6 (by decide) hq10) wm_X1_has wv_X4_107 hX hW [1, 2] rfl rfl rfl rfl rfl ⟨Nat.le_of_ble_eq_true rfl, Nat.le_of_ble_eq_true rfl, rfl, rfl, Nat.zero_le _, Nat.zero_le _⟩ rfl hl.1 [] rfl (Nat.le_of_ble_eq_true rfl) dX4_readComment_10 (fun H locs hW => ?_)
  have hW : ms_W G A s H locs [ob_X4 a_this a_source a_tree a_builder a_tag x_at x_rawDue, ob_X1 a_source a_source_row x_source_size x_source_overflowed, (a_source_row, .inl (G.2.1 0, 200, .inl x_source_row)), ob_X7 a_tree a_tree_codes a_tree_begins a_tree_ends x_tree_count a_tree_characters a_tree_attributeLetters a_tree_valueBegins a_tree_valueEnds x_tree_attributeCount a_tree_values, (a_tree_codes, .inl (G.2.1 1, 200, .inl x_tree_codes)), (a_tree_begins, .inl (G.2.1 1, 200, .inl x_tree_begins)), (a_tree_ends, .inl (G.2.1 1, 200, .inl x_tree_ends)), ob_X1 a_tree_characters a_tree_characters_row x_tree_characters_size x_tree_characters_overflowed, (a_tree_characters_row, .inl (G.2.1 0, 200, .inl x_tree_characters_row)), ob_X0 a_builder a_source a_tree a_builder_open, ob_X2 a_builder_open a_builder_open_names a_builder_open_foreigns x_builder_open_count] := hW
  refine W.eq (g2 := F0 m 13 ls [.int q10]) rfl ?_
  refine lv_istore_n (lv' := [(1, .int q10), (0, .ref a_this)]) hx hb dX4_readComment_13 rfl hl (by decide) rfl (fun ls hl => ?_)
  refine lv_iload_n hx hb dX4_readComment_14 rfl (lv_at hl 0 rfl) ?_
  refine lv_if_eq (tgt := 23) hx hb dX4_readComment_15 (by decide) (fun k => ?_) (fun k => ?_)
  · have h := ms_ifp h k
    refine ms_ldcS hX (tx := ">") (i := 8) (List.mem_of_getElem? (i := 8) rfl) dX4_readComment_23 ?_
    exact wb_X4_readComment_L25 hX h hW (lv_sub hl [1, 0] rfl)
  · have h := ms_ifn h k
    refine ms_ldcS hX (tx := "-->") (i := 7) (List.mem_of_getElem? (i := 7) rfl) dX4_readComment_18 ?_
    refine lv_goto (tgt := 25) hx hb dX4_readComment_20 (by decide) ?_
    exact wb_X4_readComment_L25 hX h hW (lv_sub hl [1, 0] rfl)
def rm_X4_readName : Room := { frames := 1, cells := 0, slots := 0, locals := 21 }
def f_X4_readName_L5 (x_source_size : Int32) (x_source_row : Nat → Int32) : Nat → Int32 → Int32 → Option (Int32 × Int32)
  | 0, _, _ => none
  | n + 1, x_at, v1 => (f_X1_size x_source_size).bind (fun q13 => (if q13 ≤ x_at then some (x_at, v1) else (f_X1_at x_source_size x_source_row x_at).bind (fun q27 => (f_X9_isLetter q27).bind (fun q30 => (if q30 = 0 then some (x_at, v1) else f_X4_readName_L5 x_source_size x_source_row n (x_at + 1) v1)))))
set_option maxHeartbeats 4000000 in
set_option maxRecDepth 100000 in
theorem wb_X4_readName_L5 {p : Program} {l : Launch} {e : Env} {s : State} {m : MethodId} {args : Array Value} {below : List Frame} {meth : Method} {c : Code} {G : Gc} {A : Nat → Prop} {a_this : Nat} {a_source : Nat} {a_tree : Nat} {a_builder : Nat} {a_tag : Nat} {a_source_row : Nat} {x_rawDue : Int32} {x_source_size : Int32} {x_source_overflowed : Int32} {x_source_row : Nat → Int32}  {Q : State → Prop} {o : Int32 × Int32} (hX : ms_CX p s m args meth c cX4_readName 2 RX4 (some .int) G A) (hq : ∀ (H : Heap) (locs : List Loc) (ls : Array Slot), ms_W G A s H locs [ob_X4 a_this a_source a_tree a_builder a_tag o.1 x_rawDue, ob_X1 a_source a_source_row x_source_size x_source_overflowed, (a_source_row, .inl (G.2.1 0, 200, .inl x_source_row))] → lv_has ls 2 [(0, .ref a_this), (1, .int o.2)] → W p l e rm_X4_readName s m args below meth c H locs 0 0 Q (F0 m 49 ls [])) : ∀ (n : Nat) (x_at : Int32) (v1 : Int32) (H : Heap) (locs : List Loc) (ls : Array Slot), f_X4_readName_L5 x_source_size x_source_row n x_at v1 = some o → ms_W G A s H locs [ob_X4 a_this a_source a_tree a_builder a_tag x_at x_rawDue, ob_X1 a_source a_source_row x_source_size x_source_overflowed, (a_source_row, .inl (G.2.1 0, 200, .inl x_source_row))] → lv_has ls 2 [(0, .ref a_this), (1, .int v1)] → W p l e rm_X4_readName s m args below meth c H locs 0 0 Q (F0 m 5 ls []) := by
  have hx := hX.1.1
  have hb := hX.1.2.1
  intro n
  induction n with
  | zero => intro x_at v1 H locs ls h; rw [f_X4_readName_L5] at h; cases h
  | succ n ih =>
    intro x_at v1 H locs ls h hW hl
    rw [f_X4_readName_L5] at h
    refine lv_aload_n hx hb dX4_readName_5 rfl (lv_at hl 0 rfl) ?_
    refine ms_get ff_X4_35 hX hW 0 rfl rfl dX4_readName_6 ?_
    refine lv_aload_n hx hb dX4_readName_9 rfl (lv_at hl 0 rfl) ?_
    refine ms_get ff_X4_9 hX hW 0 rfl rfl dX4_readName_10 ?_
    obtain ⟨q13, hq13, h⟩ := ms_bd h
    refine ms_callV (fn_X1_size l G a_source a_source_row x_source_size x_source_overflowed hq13) wm_X1_size wv_X4_46 hX hW [1] rfl rfl rfl rfl rfl ⟨Nat.le_of_ble_eq_true rfl, Nat.le_of_ble_eq_true rfl, rfl, rfl, Nat.zero_le _, Nat.zero_le _⟩ rfl hl.1 [.int x_at] rfl (Nat.le_of_ble_eq_true rfl) dX4_readName_13 (fun H locs hW => ?_)
    have hW : ms_W G A s H locs [ob_X4 a_this a_source a_tree a_builder a_tag x_at x_rawDue, ob_X1 a_source a_source_row x_source_size x_source_overflowed, (a_source_row, .inl (G.2.1 0, 200, .inl x_source_row))] := hW
    refine W.eq (g2 := F0 m 16 ls [.int q13, .int x_at]) rfl ?_
    refine lv_icmp_ge (tgt := 49) hx hb dX4_readName_16 (by decide) (fun k => ?_) (fun k => ?_)
    · have h := ms_ifp h k
      obtain rfl := Option.some.inj h
      exact hq _ _ _ hW (lv_sub hl [0, 1] rfl)
    · have h := ms_ifn h k
      refine lv_aload_n hx hb dX4_readName_19 rfl (lv_at hl 0 rfl) ?_
      refine ms_get ff_X4_9 hX hW 0 rfl rfl dX4_readName_20 ?_
      refine lv_aload_n hx hb dX4_readName_23 rfl (lv_at hl 0 rfl) ?_
      refine ms_get ff_X4_35 hX hW 0 rfl rfl dX4_readName_24 ?_
      obtain ⟨q27, hq27, h⟩ := ms_bd h
      refine ms_callV (fn_X1_at l G a_source a_source_row x_source_size x_source_overflowed x_source_row x_at hq27) wm_X1_at wv_X4_86 hX hW [1, 2] rfl rfl rfl rfl rfl ⟨Nat.le_of_ble_eq_true rfl, Nat.le_of_ble_eq_true rfl, rfl, rfl, Nat.zero_le _, Nat.zero_le _⟩ rfl hl.1 [] rfl (Nat.le_of_ble_eq_true rfl) dX4_readName_27 (fun H locs hW => ?_)
      have hW : ms_W G A s H locs [ob_X4 a_this a_source a_tree a_builder a_tag x_at x_rawDue, ob_X1 a_source a_source_row x_source_size x_source_overflowed, (a_source_row, .inl (G.2.1 0, 200, .inl x_source_row))] := hW
      refine W.eq (g2 := F0 m 30 ls [.int q27]) rfl ?_
      obtain ⟨q30, hq30, h⟩ := ms_bd h
      refine ms_callN (host := RX9) (fn_X9_isLetter l G q27 hq30) wm_X9_isLetter (List.mem_of_getElem? (i := 1) rfl) wt_X9_isLetter hX hW [] rfl rfl rfl ⟨Nat.le_of_ble_eq_true rfl, Nat.le_of_ble_eq_true rfl, rfl, rfl, Nat.zero_le _, Nat.zero_le _⟩ rfl hl.1 [] rfl (Nat.le_of_ble_eq_true rfl) dX4_readName_30 (fun H locs hW => ?_)
      have hW : ms_W G A s H locs [ob_X4 a_this a_source a_tree a_builder a_tag x_at x_rawDue, ob_X1 a_source a_source_row x_source_size x_source_overflowed, (a_source_row, .inl (G.2.1 0, 200, .inl x_source_row))] := hW
      refine W.eq (g2 := F0 m 33 ls [.int q30]) rfl ?_
      refine lv_if_eq (tgt := 49) hx hb dX4_readName_33 (by decide) (fun k => ?_) (fun k => ?_)
      · have h := ms_ifp h k
        obtain rfl := Option.some.inj h
        exact hq _ _ _ hW (lv_sub hl [0, 1] rfl)
      · have h := ms_ifn h k
        refine lv_aload_n hx hb dX4_readName_36 rfl (lv_at hl 0 rfl) ?_
        refine lv_dup hx hb dX4_readName_37 rfl ?_
        refine ms_get ff_X4_35 hX hW 0 rfl rfl dX4_readName_38 ?_
        refine lv_iconst (v := 1) hx hb dX4_readName_41 (by decide) ?_
        refine lv_iadd hx hb dX4_readName_42 ?_
        refine ms_put ff_X4_35 fp_X4_4 rfl hX hW 0 rfl rfl rfl (Nat.le_of_ble_eq_true rfl) dX4_readName_43 (fun H locs hW => ?_)
        have hW : ms_W G A s H locs [ob_X4 a_this a_source a_tree a_builder a_tag (x_at + 1) x_rawDue, ob_X1 a_source a_source_row x_source_size x_source_overflowed, (a_source_row, .inl (G.2.1 0, 200, .inl x_source_row))] := hW
        refine lv_goto (tgt := 5) hx hb dX4_readName_46 (by decide) ?_
        exact ih _ _ _ _ _ h hW (lv_sub hl [0, 1] rfl)
def f_X4_readName (x_at : Int32) (x_source_size : Int32) (x_source_row : Nat → Int32)  : Option (Int32 × Int32) := (f_X4_readName_L5 x_source_size x_source_row 1000 x_at x_at).bind (fun w5 => (if (w5.1 - w5.2) = 1 then (f_X1_at x_source_size x_source_row w5.2).bind (fun q64 => (f_X9_letterNumber q64).bind (fun q67 => some (w5.1, q67))) else some (w5.1, 26)))
set_option maxHeartbeats 4000000 in
set_option maxRecDepth 100000 in
theorem fn_X4_readName (l : Launch) (G : Gc) (a_this : Nat) (a_source : Nat) (a_tree : Nat) (a_builder : Nat) (a_tag : Nat) (a_source_row : Nat) (x_at : Int32) (x_rawDue : Int32) (x_source_size : Int32) (x_source_overflowed : Int32) (x_source_row : Nat → Int32)   {o : Int32 × Int32} (h : f_X4_readName x_at x_source_size x_source_row = some o) : ms_Fn l G yX4_readName cX4_readName 2 (some .int) rm_X4_readName [.ref a_this] [ob_X4 a_this a_source a_tree a_builder a_tag x_at x_rawDue, ob_X1 a_source a_source_row x_source_size x_source_overflowed, (a_source_row, .inl (G.2.1 0, 200, .inl x_source_row))] [ob_X4 a_this a_source a_tree a_builder a_tag o.1 x_rawDue, ob_X1 a_source a_source_row x_source_size x_source_overflowed, (a_source_row, .inl (G.2.1 0, 200, .inl x_source_row))] (some (.int o.2)) := by
  refine ms_start RX4 (by decide +kernel) rfl (Nat.le_of_ble_eq_true rfl) (fun p e s m below meth c A ls hX hW hl => ?_)
  have hx := hX.1.1
  have hb := hX.1.2.1
  have hl : lv_has ls 2 [(0, .ref a_this)] := hl
  unfold f_X4_readName at h
  refine lv_aload_n hx hb dX4_readName_0 rfl (lv_at hl 0 rfl) ?_
  refine ms_get ff_X4_35 hX hW 0 rfl rfl dX4_readName_1 ?_
  refine lv_istore_n (lv' := [(1, .int x_at), (0, .ref a_this)]) hx hb dX4_readName_4 rfl hl (by decide) rfl (fun ls hl => ?_)
  obtain ⟨w5, hqw5, h⟩ := ms_bd h
  refine wb_X4_readName_L5 hX (o := w5) (fun H locs ls hW hl => ?_) _ _ _ _ _ _ hqw5 hW (lv_sub hl [1, 0] rfl)
  refine lv_aload_n hx hb dX4_readName_49 rfl (lv_at hl 0 rfl) ?_
  refine ms_get ff_X4_35 hX hW 0 rfl rfl dX4_readName_50 ?_
  refine lv_iload_n hx hb dX4_readName_53 rfl (lv_at hl 1 rfl) ?_
  refine lv_isub hx hb dX4_readName_54 ?_
  refine lv_iconst (v := 1) hx hb dX4_readName_55 (by decide) ?_
  refine lv_icmp_ne (tgt := 73) hx hb dX4_readName_56 (by decide) (fun k => ?_) (fun k => ?_)
  · have h := ms_ifn h k
    refine lv_bipush (v := 26) hx hb dX4_readName_73 (by decide) ?_
    obtain rfl := Option.some.inj h
    exact ms_iret hX hW dX4_readName_75
  · have h := ms_ifp h k
    refine lv_aload_n hx hb dX4_readName_59 rfl (lv_at hl 0 rfl) ?_
    refine ms_get ff_X4_9 hX hW 0 rfl rfl dX4_readName_60 ?_
    refine lv_iload_n hx hb dX4_readName_63 rfl (lv_at hl 1 rfl) ?_
    obtain ⟨q64, hq64, h⟩ := ms_bd h
    refine ms_callV (fn_X1_at l G a_source a_source_row x_source_size x_source_overflowed x_source_row w5.2 hq64) wm_X1_at wv_X4_86 hX hW [1, 2] rfl rfl rfl rfl rfl ⟨Nat.le_of_ble_eq_true rfl, Nat.le_of_ble_eq_true rfl, rfl, rfl, Nat.zero_le _, Nat.zero_le _⟩ rfl hl.1 [] rfl (Nat.le_of_ble_eq_true rfl) dX4_readName_64 (fun H locs hW => ?_)
    have hW : ms_W G A s H locs [ob_X4 a_this a_source a_tree a_builder a_tag w5.1 x_rawDue, ob_X1 a_source a_source_row x_source_size x_source_overflowed, (a_source_row, .inl (G.2.1 0, 200, .inl x_source_row))] := hW
    refine W.eq (g2 := F0 m 67 ls [.int q64]) rfl ?_
    obtain ⟨q67, hq67, h⟩ := ms_bd h
    refine ms_callN (host := RX9) (fn_X9_letterNumber l G q64 hq67) wm_X9_letterNumber (List.mem_of_getElem? (i := 4) rfl) wt_X9_letterNumber hX hW [] rfl rfl rfl ⟨Nat.le_of_ble_eq_true rfl, Nat.le_of_ble_eq_true rfl, rfl, rfl, Nat.zero_le _, Nat.zero_le _⟩ rfl hl.1 [] rfl (Nat.le_of_ble_eq_true rfl) dX4_readName_67 (fun H locs hW => ?_)
    have hW : ms_W G A s H locs [ob_X4 a_this a_source a_tree a_builder a_tag w5.1 x_rawDue, ob_X1 a_source a_source_row x_source_size x_source_overflowed, (a_source_row, .inl (G.2.1 0, 200, .inl x_source_row))] := hW
    refine W.eq (g2 := F0 m 70 ls [.int q67]) rfl ?_
    refine lv_goto (tgt := 75) hx hb dX4_readName_70 (by decide) ?_
    obtain rfl := Option.some.inj h
    exact ms_iret hX hW dX4_readName_75
def rm_X6_begin : Room := { frames := 0, cells := 0, slots := 0, locals := 0 }
def f_X6_begin (x_had : Int32) (x_name : Int32) (x_ending : Int32) (v1 : Int32) (v2 : Int32) : Option (Int32 × Int32 × Int32) := ms_gz v2 (some (0, v1, v2))
set_option maxHeartbeats 4000000 in
set_option maxRecDepth 100000 in
theorem fn_X6_begin (l : Launch) (G : Gc) (a_this : Nat) (a_begins : Nat) (a_ends : Nat) (x_had : Int32) (x_name : Int32) (x_ending : Int32) (v1 : Int32) (v2 : Int32)  {o : Int32 × Int32 × Int32} (h : f_X6_begin x_had x_name x_ending v1 v2 = some o) : ms_Fn l G yX6_begin cX6_begin 3 none rm_X6_begin [.ref a_this, .int v1, .int v2] [ob_X6 a_this a_begins a_ends x_had x_name x_ending] [ob_X6 a_this a_begins a_ends o.1 o.2.1 o.2.2] none := by
  refine ms_start RX6 (by decide +kernel) rfl (Nat.le_of_ble_eq_true rfl) (fun p e s m below meth c A ls hX hW hl => ?_)
  have hx := hX.1.1
  have hb := hX.1.2.1
  have hl : lv_has ls 3 [(0, .ref a_this), (1, .int v1), (2, .int v2)] := hl
  unfold f_X6_begin at h
  refine lv_aload_n hx hb dX6_begin_0 rfl (lv_at hl 0 rfl) ?_
  refine lv_iload_n hx hb dX6_begin_1 rfl (lv_at hl 1 rfl) ?_
  refine ms_put ff_X6_22 fp_X6_3 rfl hX hW 0 rfl rfl rfl (Nat.le_of_ble_eq_true rfl) dX6_begin_2 (fun H locs hW => ?_)
  have hW : ms_W G A s H locs [ob_X6 a_this a_begins a_ends x_had v1 x_ending] := hW
  refine lv_aload_n hx hb dX6_begin_5 rfl (lv_at hl 0 rfl) ?_
  refine lv_iload_n hx hb dX6_begin_6 rfl (lv_at hl 2 rfl) ?_
  obtain ⟨k, h⟩ := ms_gz_some h
  refine ms_put ff_X6_25 fp_X6_4 rfl hX hW 0 rfl (ms_nz k) (ms_fz k) (Nat.le_of_ble_eq_true rfl) dX6_begin_7 (fun H locs hW => ?_)
  have hW : ms_W G A s H locs [ob_X6 a_this a_begins a_ends x_had v1 v2] := hW
  refine lv_aload_n hx hb dX6_begin_10 rfl (lv_at hl 0 rfl) ?_
  refine lv_iconst (v := 0) hx hb dX6_begin_11 (by decide) ?_
  refine ms_put ff_X6_18 fp_X6_2 rfl hX hW 0 rfl rfl rfl (Nat.le_of_ble_eq_true rfl) dX6_begin_12 (fun H locs hW => ?_)
  have hW : ms_W G A s H locs [ob_X6 a_this a_begins a_ends 0 v1 v2] := hW
  obtain rfl := Option.some.inj h
  exact ms_vret hX hW dX6_begin_15
def rm_X4_isAttributeNameEnd : Room := { frames := 0, cells := 0, slots := 0, locals := 0 }
def f_X4_isAttributeNameEnd  (v0 : Int32) : Option (Int32) := (if v0 = 32 then some 1 else (if v0 = 47 then some 1 else (if v0 = 62 then some 1 else (if v0 = 61 then some 1 else some 0))))
set_option maxHeartbeats 4000000 in
set_option maxRecDepth 100000 in
theorem fn_X4_isAttributeNameEnd (l : Launch) (G : Gc)   (v0 : Int32)  {o : Int32} (h : f_X4_isAttributeNameEnd v0 = some o) : ms_Fn l G yX4_isAttributeNameEnd cX4_isAttributeNameEnd 1 (some .boolean) rm_X4_isAttributeNameEnd [.int v0] [] [] (some (.int o)) := by
  refine ms_start RX4 (by decide +kernel) rfl (Nat.le_of_ble_eq_true rfl) (fun p e s m below meth c A ls hX hW hl => ?_)
  have hx := hX.1.1
  have hb := hX.1.2.1
  have hl : lv_has ls 1 [(0, .int v0)] := hl
  unfold f_X4_isAttributeNameEnd at h
  refine lv_iload_n hx hb dX4_isAttributeNameEnd_0 rfl (lv_at hl 0 rfl) ?_
  refine lv_bipush (v := 32) hx hb dX4_isAttributeNameEnd_1 (by decide) ?_
  refine lv_icmp_eq (tgt := 24) hx hb dX4_isAttributeNameEnd_3 (by decide) (fun k => ?_) (fun k => ?_)
  · have h := ms_ifp h k
    refine lv_iconst (v := 1) hx hb dX4_isAttributeNameEnd_24 (by decide) ?_
    refine lv_goto (tgt := 29) hx hb dX4_isAttributeNameEnd_25 (by decide) ?_
    obtain rfl := Option.some.inj h
    exact ms_zret hX (ms_nz (Or.inr rfl)) hW dX4_isAttributeNameEnd_29
  · have h := ms_ifn h k
    refine lv_iload_n hx hb dX4_isAttributeNameEnd_6 rfl (lv_at hl 0 rfl) ?_
    refine lv_bipush (v := 47) hx hb dX4_isAttributeNameEnd_7 (by decide) ?_
    refine lv_icmp_eq (tgt := 24) hx hb dX4_isAttributeNameEnd_9 (by decide) (fun k => ?_) (fun k => ?_)
    · have h := ms_ifp h k
      refine lv_iconst (v := 1) hx hb dX4_isAttributeNameEnd_24 (by decide) ?_
      refine lv_goto (tgt := 29) hx hb dX4_isAttributeNameEnd_25 (by decide) ?_
      obtain rfl := Option.some.inj h
      exact ms_zret hX (ms_nz (Or.inr rfl)) hW dX4_isAttributeNameEnd_29
    · have h := ms_ifn h k
      refine lv_iload_n hx hb dX4_isAttributeNameEnd_12 rfl (lv_at hl 0 rfl) ?_
      refine lv_bipush (v := 62) hx hb dX4_isAttributeNameEnd_13 (by decide) ?_
      refine lv_icmp_eq (tgt := 24) hx hb dX4_isAttributeNameEnd_15 (by decide) (fun k => ?_) (fun k => ?_)
      · have h := ms_ifp h k
        refine lv_iconst (v := 1) hx hb dX4_isAttributeNameEnd_24 (by decide) ?_
        refine lv_goto (tgt := 29) hx hb dX4_isAttributeNameEnd_25 (by decide) ?_
        obtain rfl := Option.some.inj h
        exact ms_zret hX (ms_nz (Or.inr rfl)) hW dX4_isAttributeNameEnd_29
      · have h := ms_ifn h k
        refine lv_iload_n hx hb dX4_isAttributeNameEnd_18 rfl (lv_at hl 0 rfl) ?_
        refine lv_bipush (v := 61) hx hb dX4_isAttributeNameEnd_19 (by decide) ?_
        refine lv_icmp_ne (tgt := 28) hx hb dX4_isAttributeNameEnd_21 (by decide) (fun k => ?_) (fun k => ?_)
        · have h := ms_ifn h k
          refine lv_iconst (v := 0) hx hb dX4_isAttributeNameEnd_28 (by decide) ?_
          obtain rfl := Option.some.inj h
          exact ms_zret hX (ms_nz (Or.inl rfl)) hW dX4_isAttributeNameEnd_29
        · have h := ms_ifp h k
          refine lv_iconst (v := 1) hx hb dX4_isAttributeNameEnd_24 (by decide) ?_
          refine lv_goto (tgt := 29) hx hb dX4_isAttributeNameEnd_25 (by decide) ?_
          obtain rfl := Option.some.inj h
          exact ms_zret hX (ms_nz (Or.inr rfl)) hW dX4_isAttributeNameEnd_29
def rm_X4_passBlanks : Room := { frames := 1, cells := 0, slots := 0, locals := 21 }
def f_X4_passBlanks_L0 (x_source_size : Int32) (x_source_row : Nat → Int32) : Nat → Int32 → Option (Int32)
  | 0, _ => none
  | n + 1, x_at => (f_X1_size x_source_size).bind (fun q8 => (if q8 ≤ x_at then some x_at else (f_X1_at x_source_size x_source_row x_at).bind (fun q22 => (if q22 = 32 then f_X4_passBlanks_L0 x_source_size x_source_row n (x_at + 1) else some x_at))))
set_option maxHeartbeats 4000000 in
set_option maxRecDepth 100000 in
theorem wb_X4_passBlanks_L0 {p : Program} {l : Launch} {e : Env} {s : State} {m : MethodId} {args : Array Value} {below : List Frame} {meth : Method} {c : Code} {G : Gc} {A : Nat → Prop} {a_this : Nat} {a_source : Nat} {a_tree : Nat} {a_builder : Nat} {a_tag : Nat} {a_source_row : Nat} {x_rawDue : Int32} {x_source_size : Int32} {x_source_overflowed : Int32} {x_source_row : Nat → Int32}  {Q : State → Prop} {o : Int32} (hX : ms_CX p s m args meth c cX4_passBlanks 1 RX4 none G A) (hq : ∀ (H : Heap) (locs : List Loc) (ls : Array Slot), ms_W G A s H locs [ob_X4 a_this a_source a_tree a_builder a_tag o x_rawDue, ob_X1 a_source a_source_row x_source_size x_source_overflowed, (a_source_row, .inl (G.2.1 0, 200, .inl x_source_row))] → lv_has ls 1 [] → W p l e rm_X4_passBlanks s m args below meth c H locs 0 0 Q (F0 m 43 ls [])) : ∀ (n : Nat) (x_at : Int32) (H : Heap) (locs : List Loc) (ls : Array Slot), f_X4_passBlanks_L0 x_source_size x_source_row n x_at = some o → ms_W G A s H locs [ob_X4 a_this a_source a_tree a_builder a_tag x_at x_rawDue, ob_X1 a_source a_source_row x_source_size x_source_overflowed, (a_source_row, .inl (G.2.1 0, 200, .inl x_source_row))] → lv_has ls 1 [(0, .ref a_this)] → W p l e rm_X4_passBlanks s m args below meth c H locs 0 0 Q (F0 m 0 ls []) := by
  have hx := hX.1.1
  have hb := hX.1.2.1
  intro n
  induction n with
  | zero => intro x_at H locs ls h; rw [f_X4_passBlanks_L0] at h; cases h
  | succ n ih =>
    intro x_at H locs ls h hW hl
    rw [f_X4_passBlanks_L0] at h
    refine lv_aload_n hx hb dX4_passBlanks_0 rfl (lv_at hl 0 rfl) ?_
    refine ms_get ff_X4_35 hX hW 0 rfl rfl dX4_passBlanks_1 ?_
    refine lv_aload_n hx hb dX4_passBlanks_4 rfl (lv_at hl 0 rfl) ?_
    refine ms_get ff_X4_9 hX hW 0 rfl rfl dX4_passBlanks_5 ?_
    obtain ⟨q8, hq8, h⟩ := ms_bd h
    refine ms_callV (fn_X1_size l G a_source a_source_row x_source_size x_source_overflowed hq8) wm_X1_size wv_X4_46 hX hW [1] rfl rfl rfl rfl rfl ⟨Nat.le_of_ble_eq_true rfl, Nat.le_of_ble_eq_true rfl, rfl, rfl, Nat.zero_le _, Nat.zero_le _⟩ rfl hl.1 [.int x_at] rfl (Nat.le_of_ble_eq_true rfl) dX4_passBlanks_8 (fun H locs hW => ?_)
    have hW : ms_W G A s H locs [ob_X4 a_this a_source a_tree a_builder a_tag x_at x_rawDue, ob_X1 a_source a_source_row x_source_size x_source_overflowed, (a_source_row, .inl (G.2.1 0, 200, .inl x_source_row))] := hW
    refine W.eq (g2 := F0 m 11 ls [.int q8, .int x_at]) rfl ?_
    refine lv_icmp_ge (tgt := 43) hx hb dX4_passBlanks_11 (by decide) (fun k => ?_) (fun k => ?_)
    · have h := ms_ifp h k
      obtain rfl := Option.some.inj h
      exact hq _ _ _ hW (lv_sub hl [] rfl)
    · have h := ms_ifn h k
      refine lv_aload_n hx hb dX4_passBlanks_14 rfl (lv_at hl 0 rfl) ?_
      refine ms_get ff_X4_9 hX hW 0 rfl rfl dX4_passBlanks_15 ?_
      refine lv_aload_n hx hb dX4_passBlanks_18 rfl (lv_at hl 0 rfl) ?_
      refine ms_get ff_X4_35 hX hW 0 rfl rfl dX4_passBlanks_19 ?_
      obtain ⟨q22, hq22, h⟩ := ms_bd h
      refine ms_callV (fn_X1_at l G a_source a_source_row x_source_size x_source_overflowed x_source_row x_at hq22) wm_X1_at wv_X4_86 hX hW [1, 2] rfl rfl rfl rfl rfl ⟨Nat.le_of_ble_eq_true rfl, Nat.le_of_ble_eq_true rfl, rfl, rfl, Nat.zero_le _, Nat.zero_le _⟩ rfl hl.1 [] rfl (Nat.le_of_ble_eq_true rfl) dX4_passBlanks_22 (fun H locs hW => ?_)
      have hW : ms_W G A s H locs [ob_X4 a_this a_source a_tree a_builder a_tag x_at x_rawDue, ob_X1 a_source a_source_row x_source_size x_source_overflowed, (a_source_row, .inl (G.2.1 0, 200, .inl x_source_row))] := hW
      refine W.eq (g2 := F0 m 25 ls [.int q22]) rfl ?_
      refine lv_bipush (v := 32) hx hb dX4_passBlanks_25 (by decide) ?_
      refine lv_icmp_ne (tgt := 43) hx hb dX4_passBlanks_27 (by decide) (fun k => ?_) (fun k => ?_)
      · have h := ms_ifn h k
        obtain rfl := Option.some.inj h
        exact hq _ _ _ hW (lv_sub hl [] rfl)
      · have h := ms_ifp h k
        refine lv_aload_n hx hb dX4_passBlanks_30 rfl (lv_at hl 0 rfl) ?_
        refine lv_dup hx hb dX4_passBlanks_31 rfl ?_
        refine ms_get ff_X4_35 hX hW 0 rfl rfl dX4_passBlanks_32 ?_
        refine lv_iconst (v := 1) hx hb dX4_passBlanks_35 (by decide) ?_
        refine lv_iadd hx hb dX4_passBlanks_36 ?_
        refine ms_put ff_X4_35 fp_X4_4 rfl hX hW 0 rfl rfl rfl (Nat.le_of_ble_eq_true rfl) dX4_passBlanks_37 (fun H locs hW => ?_)
        have hW : ms_W G A s H locs [ob_X4 a_this a_source a_tree a_builder a_tag (x_at + 1) x_rawDue, ob_X1 a_source a_source_row x_source_size x_source_overflowed, (a_source_row, .inl (G.2.1 0, 200, .inl x_source_row))] := hW
        refine lv_goto (tgt := 0) hx hb dX4_passBlanks_40 (by decide) ?_
        exact ih _ _ _ _ h hW (lv_sub hl [0] rfl)
def f_X4_passBlanks (x_at : Int32) (x_source_size : Int32) (x_source_row : Nat → Int32)  : Option (Int32) := (f_X4_passBlanks_L0 x_source_size x_source_row 1000 x_at).bind (fun w0 => some w0)
set_option maxHeartbeats 4000000 in
set_option maxRecDepth 100000 in
theorem fn_X4_passBlanks (l : Launch) (G : Gc) (a_this : Nat) (a_source : Nat) (a_tree : Nat) (a_builder : Nat) (a_tag : Nat) (a_source_row : Nat) (x_at : Int32) (x_rawDue : Int32) (x_source_size : Int32) (x_source_overflowed : Int32) (x_source_row : Nat → Int32)   {o : Int32} (h : f_X4_passBlanks x_at x_source_size x_source_row = some o) : ms_Fn l G yX4_passBlanks cX4_passBlanks 1 none rm_X4_passBlanks [.ref a_this] [ob_X4 a_this a_source a_tree a_builder a_tag x_at x_rawDue, ob_X1 a_source a_source_row x_source_size x_source_overflowed, (a_source_row, .inl (G.2.1 0, 200, .inl x_source_row))] [ob_X4 a_this a_source a_tree a_builder a_tag o x_rawDue, ob_X1 a_source a_source_row x_source_size x_source_overflowed, (a_source_row, .inl (G.2.1 0, 200, .inl x_source_row))] none := by
  refine ms_start RX4 (by decide +kernel) rfl (Nat.le_of_ble_eq_true rfl) (fun p e s m below meth c A ls hX hW hl => ?_)
  have hx := hX.1.1
  have hb := hX.1.2.1
  have hl : lv_has ls 1 [(0, .ref a_this)] := hl
  unfold f_X4_passBlanks at h
  obtain ⟨w0, hqw0, h⟩ := ms_bd h
  refine wb_X4_passBlanks_L0 hX (o := w0) (fun H locs ls hW hl => ?_) _ _ _ _ _ hqw0 hW (lv_sub hl [0] rfl)
  obtain rfl := Option.some.inj h
  exact ms_vret hX hW dX4_passBlanks_43
def rm_X4_isValueEnd : Room := { frames := 0, cells := 0, slots := 0, locals := 0 }
def f_X4_isValueEnd  (v0 : Int32) (v1 : Int32) (v2 : Int32) : Option (Int32) := (if v1 = 0 then (if v0 = 32 then some 1 else (if v0 = 62 then some 1 else some 0)) else (if v0 = v2 then some 1 else some 0))
set_option maxHeartbeats 4000000 in
set_option maxRecDepth 100000 in
theorem fn_X4_isValueEnd (l : Launch) (G : Gc)   (v0 : Int32) (v1 : Int32) (v2 : Int32)  {o : Int32} (h : f_X4_isValueEnd v0 v1 v2 = some o) : ms_Fn l G yX4_isValueEnd cX4_isValueEnd 3 (some .boolean) rm_X4_isValueEnd [.int v0, .int v1, .int v2] [] [] (some (.int o)) := by
  refine ms_start RX4 (by decide +kernel) rfl (Nat.le_of_ble_eq_true rfl) (fun p e s m below meth c A ls hX hW hl => ?_)
  have hx := hX.1.1
  have hb := hX.1.2.1
  have hl : lv_has ls 3 [(0, .int v0), (1, .int v1), (2, .int v2)] := hl
  unfold f_X4_isValueEnd at h
  refine lv_iload_n hx hb dX4_isValueEnd_0 rfl (lv_at hl 1 rfl) ?_
  refine lv_if_eq (tgt := 17) hx hb dX4_isValueEnd_1 (by decide) (fun k => ?_) (fun k => ?_)
  · have h := ms_ifp h k
    refine lv_iload_n hx hb dX4_isValueEnd_17 rfl (lv_at hl 0 rfl) ?_
    refine lv_bipush (v := 32) hx hb dX4_isValueEnd_18 (by decide) ?_
    refine lv_icmp_eq (tgt := 29) hx hb dX4_isValueEnd_20 (by decide) (fun k => ?_) (fun k => ?_)
    · have h := ms_ifp h k
      refine lv_iconst (v := 1) hx hb dX4_isValueEnd_29 (by decide) ?_
      refine lv_goto (tgt := 34) hx hb dX4_isValueEnd_30 (by decide) ?_
      obtain rfl := Option.some.inj h
      exact ms_zret hX (ms_nz (Or.inr rfl)) hW dX4_isValueEnd_34
    · have h := ms_ifn h k
      refine lv_iload_n hx hb dX4_isValueEnd_23 rfl (lv_at hl 0 rfl) ?_
      refine lv_bipush (v := 62) hx hb dX4_isValueEnd_24 (by decide) ?_
      refine lv_icmp_ne (tgt := 33) hx hb dX4_isValueEnd_26 (by decide) (fun k => ?_) (fun k => ?_)
      · have h := ms_ifn h k
        refine lv_iconst (v := 0) hx hb dX4_isValueEnd_33 (by decide) ?_
        obtain rfl := Option.some.inj h
        exact ms_zret hX (ms_nz (Or.inl rfl)) hW dX4_isValueEnd_34
      · have h := ms_ifp h k
        refine lv_iconst (v := 1) hx hb dX4_isValueEnd_29 (by decide) ?_
        refine lv_goto (tgt := 34) hx hb dX4_isValueEnd_30 (by decide) ?_
        obtain rfl := Option.some.inj h
        exact ms_zret hX (ms_nz (Or.inr rfl)) hW dX4_isValueEnd_34
  · have h := ms_ifn h k
    refine lv_iload_n hx hb dX4_isValueEnd_4 rfl (lv_at hl 0 rfl) ?_
    refine lv_iload_n hx hb dX4_isValueEnd_5 rfl (lv_at hl 2 rfl) ?_
    refine lv_icmp_ne (tgt := 13) hx hb dX4_isValueEnd_6 (by decide) (fun k => ?_) (fun k => ?_)
    · have h := ms_ifn h k
      refine lv_iconst (v := 0) hx hb dX4_isValueEnd_13 (by decide) ?_
      refine lv_goto (tgt := 34) hx hb dX4_isValueEnd_14 (by decide) ?_
      obtain rfl := Option.some.inj h
      exact ms_zret hX (ms_nz (Or.inl rfl)) hW dX4_isValueEnd_34
    · have h := ms_ifp h k
      refine lv_iconst (v := 1) hx hb dX4_isValueEnd_9 (by decide) ?_
      refine lv_goto (tgt := 34) hx hb dX4_isValueEnd_10 (by decide) ?_
      obtain rfl := Option.some.inj h
      exact ms_zret hX (ms_nz (Or.inr rfl)) hW dX4_isValueEnd_34
def rm_X6_addAttribute : Room := { frames := 2, cells := 0, slots := 0, locals := 41 }
def f_X6_addAttribute (x_had : Int32) (x_ending : Int32) (x_begins : Nat → Int32) (x_ends : Nat → Int32) (v1 : Int32) (v2 : Int32) (v3 : Int32) : Option (Int32 × (Nat → Int32) × (Nat → Int32)) := (if x_ending = 0 then (f_X9_isLetterNumber v1).bind (fun q8 => (if q8 = 0 then some (x_had, x_begins, x_ends) else (f_X6_hasAttribute x_had v1).bind (fun q16 => (if q16 = 0 then ms_gi v1 26 (ms_gi v1 26 (some (x_had ||| ((1 : Int32) <<< (v1 &&& 31)), upd x_begins v1.toNatClampNeg v2, upd x_ends v1.toNatClampNeg v3))) else some (x_had, x_begins, x_ends))))) else some (x_had, x_begins, x_ends))
set_option maxHeartbeats 4000000 in
set_option maxRecDepth 100000 in
theorem fn_X6_addAttribute (l : Launch) (G : Gc) (a_this : Nat) (a_begins : Nat) (a_ends : Nat) (x_had : Int32) (x_name : Int32) (x_ending : Int32) (x_begins : Nat → Int32) (x_ends : Nat → Int32) (v1 : Int32) (v2 : Int32) (v3 : Int32)  {o : Int32 × (Nat → Int32) × (Nat → Int32)} (h : f_X6_addAttribute x_had x_ending x_begins x_ends v1 v2 v3 = some o) : ms_Fn l G yX6_addAttribute cX6_addAttribute 4 none rm_X6_addAttribute [.ref a_this, .int v1, .int v2, .int v3] [ob_X6 a_this a_begins a_ends x_had x_name x_ending, (a_begins, .inl (G.2.1 1, 26, .inl x_begins)), (a_ends, .inl (G.2.1 1, 26, .inl x_ends))] [ob_X6 a_this a_begins a_ends o.1 x_name x_ending, (a_begins, .inl (G.2.1 1, 26, .inl o.2.1)), (a_ends, .inl (G.2.1 1, 26, .inl o.2.2))] none := by
  refine ms_start RX6 (by decide +kernel) rfl (Nat.le_of_ble_eq_true rfl) (fun p e s m below meth c A ls hX hW hl => ?_)
  have hx := hX.1.1
  have hb := hX.1.2.1
  have hl : lv_has ls 4 [(0, .ref a_this), (1, .int v1), (2, .int v2), (3, .int v3)] := hl
  unfold f_X6_addAttribute at h
  refine lv_aload_n hx hb dX6_addAttribute_0 rfl (lv_at hl 0 rfl) ?_
  refine ms_get ff_X6_25 hX hW 0 rfl rfl dX6_addAttribute_1 ?_
  refine lv_if_ne (tgt := 48) hx hb dX6_addAttribute_4 (by decide) (fun k => ?_) (fun k => ?_)
  · have h := ms_ifn h k
    obtain rfl := Option.some.inj h
    exact ms_vret hX hW dX6_addAttribute_48
  · have h := ms_ifp h k
    refine lv_iload_n hx hb dX6_addAttribute_7 rfl (lv_at hl 1 rfl) ?_
    obtain ⟨q8, hq8, h⟩ := ms_bd h
    refine ms_callN (host := RX9) (fn_X9_isLetterNumber l G v1 hq8) wm_X9_isLetterNumber (List.mem_of_getElem? (i := 5) rfl) wt_X9_isLetterNumber hX hW [] rfl rfl rfl ⟨Nat.le_of_ble_eq_true rfl, Nat.le_of_ble_eq_true rfl, rfl, rfl, Nat.zero_le _, Nat.zero_le _⟩ rfl hl.1 [] rfl (Nat.le_of_ble_eq_true rfl) dX6_addAttribute_8 (fun H locs hW => ?_)
    have hW : ms_W G A s H locs [ob_X6 a_this a_begins a_ends x_had x_name x_ending, (a_begins, .inl (G.2.1 1, 26, .inl x_begins)), (a_ends, .inl (G.2.1 1, 26, .inl x_ends))] := hW
    refine W.eq (g2 := F0 m 11 ls [.int q8]) rfl ?_
    refine lv_if_eq (tgt := 48) hx hb dX6_addAttribute_11 (by decide) (fun k => ?_) (fun k => ?_)
    · have h := ms_ifp h k
      obtain rfl := Option.some.inj h
      exact ms_vret hX hW dX6_addAttribute_48
    · have h := ms_ifn h k
      refine lv_aload_n hx hb dX6_addAttribute_14 rfl (lv_at hl 0 rfl) ?_
      refine lv_iload_n hx hb dX6_addAttribute_15 rfl (lv_at hl 1 rfl) ?_
      obtain ⟨q16, hq16, h⟩ := ms_bd h
      refine ms_callV (fn_X6_hasAttribute l G a_this a_begins a_ends x_had x_name x_ending v1 hq16) wm_X6_hasAttribute wv_X6_33 hX hW [0] rfl rfl rfl rfl rfl ⟨Nat.le_of_ble_eq_true rfl, Nat.le_of_ble_eq_true rfl, rfl, rfl, Nat.zero_le _, Nat.zero_le _⟩ rfl hl.1 [] rfl (Nat.le_of_ble_eq_true rfl) dX6_addAttribute_16 (fun H locs hW => ?_)
      have hW : ms_W G A s H locs [ob_X6 a_this a_begins a_ends x_had x_name x_ending, (a_begins, .inl (G.2.1 1, 26, .inl x_begins)), (a_ends, .inl (G.2.1 1, 26, .inl x_ends))] := hW
      refine W.eq (g2 := F0 m 19 ls [.int q16]) rfl ?_
      refine lv_if_ne (tgt := 48) hx hb dX6_addAttribute_19 (by decide) (fun k => ?_) (fun k => ?_)
      · have h := ms_ifn h k
        obtain rfl := Option.some.inj h
        exact ms_vret hX hW dX6_addAttribute_48
      · have h := ms_ifp h k
        refine lv_aload_n hx hb dX6_addAttribute_22 rfl (lv_at hl 0 rfl) ?_
        refine lv_dup hx hb dX6_addAttribute_23 rfl ?_
        refine ms_get ff_X6_18 hX hW 0 rfl rfl dX6_addAttribute_24 ?_
        refine lv_iconst (v := 1) hx hb dX6_addAttribute_27 (by decide) ?_
        refine lv_iload_n hx hb dX6_addAttribute_28 rfl (lv_at hl 1 rfl) ?_
        refine lv_ishl hx hb dX6_addAttribute_29 ?_
        refine lv_ior hx hb dX6_addAttribute_30 ?_
        refine ms_put ff_X6_18 fp_X6_2 rfl hX hW 0 rfl rfl rfl (Nat.le_of_ble_eq_true rfl) dX6_addAttribute_31 (fun H locs hW => ?_)
        have hW : ms_W G A s H locs [ob_X6 a_this a_begins a_ends (x_had ||| ((1 : Int32) <<< (v1 &&& 31))) x_name x_ending, (a_begins, .inl (G.2.1 1, 26, .inl x_begins)), (a_ends, .inl (G.2.1 1, 26, .inl x_ends))] := hW
        refine lv_aload_n hx hb dX6_addAttribute_34 rfl (lv_at hl 0 rfl) ?_
        refine ms_get ff_X6_9 hX hW 0 rfl rfl dX6_addAttribute_35 ?_
        refine lv_iload_n hx hb dX6_addAttribute_38 rfl (lv_at hl 1 rfl) ?_
        refine lv_iload_n hx hb dX6_addAttribute_39 rfl (lv_at hl 2 rfl) ?_
        obtain ⟨k, h⟩ := ms_gi_some h
        refine ms_iast hX hW 1 rfl k dX6_addAttribute_40 (fun H locs hW => ?_)
        have hW : ms_W G A s H locs [ob_X6 a_this a_begins a_ends (x_had ||| ((1 : Int32) <<< (v1 &&& 31))) x_name x_ending, (a_begins, .inl (G.2.1 1, 26, .inl (upd x_begins v1.toNatClampNeg v2))), (a_ends, .inl (G.2.1 1, 26, .inl x_ends))] := hW
        refine lv_aload_n hx hb dX6_addAttribute_41 rfl (lv_at hl 0 rfl) ?_
        refine ms_get ff_X6_15 hX hW 0 rfl rfl dX6_addAttribute_42 ?_
        refine lv_iload_n hx hb dX6_addAttribute_45 rfl (lv_at hl 1 rfl) ?_
        refine lv_iload_n hx hb dX6_addAttribute_46 rfl (lv_at hl 3 rfl) ?_
        obtain ⟨k, h⟩ := ms_gi_some h
        refine ms_iast hX hW 2 rfl k dX6_addAttribute_47 (fun H locs hW => ?_)
        have hW : ms_W G A s H locs [ob_X6 a_this a_begins a_ends (x_had ||| ((1 : Int32) <<< (v1 &&& 31))) x_name x_ending, (a_begins, .inl (G.2.1 1, 26, .inl (upd x_begins v1.toNatClampNeg v2))), (a_ends, .inl (G.2.1 1, 26, .inl (upd x_ends v1.toNatClampNeg v3)))] := hW
        obtain rfl := Option.some.inj h
        exact ms_vret hX hW dX6_addAttribute_48
def rm_X4_readValue : Room := { frames := 3, cells := 0, slots := 0, locals := 64 }
def f_X4_readValue_L54 (x_source_size : Int32) (x_source_row : Nat → Int32) (x_tag_ending : Int32) (v1 : Int32) : Nat → Int32 → Int32 → (Nat → Int32) → (Nat → Int32) → Int32 → Int32 → Int32 → Option (Int32 × Int32 × (Nat → Int32) × (Nat → Int32) × Int32 × Int32)
  | 0, _, _, _, _, _, _, _ => none
  | n + 1, x_at, x_tag_had, x_tag_begins, x_tag_ends, v2, v3, v4 => (f_X1_size x_source_size).bind (fun q62 => (if q62 ≤ x_at then some (x_at, x_tag_had, x_tag_begins, x_tag_ends, v3, v4) else (f_X1_at x_source_size x_source_row x_at).bind (fun q76 => (f_X4_isValueEnd q76 v3 v2).bind (fun q81 => (if q81 = 0 then f_X4_readValue_L54 x_source_size x_source_row x_tag_ending v1 n (x_at + 1) x_tag_had x_tag_begins x_tag_ends v2 v3 v4 else some (x_at, x_tag_had, x_tag_begins, x_tag_ends, v3, v4))))))
set_option maxHeartbeats 4000000 in
set_option maxRecDepth 100000 in
theorem wb_X4_readValue_L54 {p : Program} {l : Launch} {e : Env} {s : State} {m : MethodId} {args : Array Value} {below : List Frame} {meth : Method} {c : Code} {G : Gc} {A : Nat → Prop} {a_this : Nat} {a_source : Nat} {a_tree : Nat} {a_builder : Nat} {a_tag : Nat} {a_source_row : Nat} {a_tag_begins : Nat} {a_tag_ends : Nat} {x_rawDue : Int32} {x_source_size : Int32} {x_source_overflowed : Int32} {x_source_row : Nat → Int32} {x_tag_name : Int32} {x_tag_ending : Int32} {v1 : Int32} {Q : State → Prop} {o : Int32 × Int32 × (Nat → Int32) × (Nat → Int32) × Int32 × Int32} (hX : ms_CX p s m args meth c cX4_readValue 5 RX4 none G A) (hq : ∀ (H : Heap) (locs : List Loc) (ls : Array Slot), ms_W G A s H locs [ob_X4 a_this a_source a_tree a_builder a_tag o.1 x_rawDue, ob_X1 a_source a_source_row x_source_size x_source_overflowed, (a_source_row, .inl (G.2.1 0, 200, .inl x_source_row)), ob_X6 a_tag a_tag_begins a_tag_ends o.2.1 x_tag_name x_tag_ending, (a_tag_begins, .inl (G.2.1 1, 26, .inl o.2.2.1)), (a_tag_ends, .inl (G.2.1 1, 26, .inl o.2.2.2.1))] → lv_has ls 5 [(0, .ref a_this), (1, .int v1), (3, .int o.2.2.2.2.1), (4, .int o.2.2.2.2.2)] → W p l e rm_X4_readValue s m args below meth c H locs 0 0 Q (F0 m 100 ls [])) : ∀ (n : Nat) (x_at : Int32) (x_tag_had : Int32) (x_tag_begins : Nat → Int32) (x_tag_ends : Nat → Int32) (v2 : Int32) (v3 : Int32) (v4 : Int32) (H : Heap) (locs : List Loc) (ls : Array Slot), f_X4_readValue_L54 x_source_size x_source_row x_tag_ending v1 n x_at x_tag_had x_tag_begins x_tag_ends v2 v3 v4 = some o → ms_W G A s H locs [ob_X4 a_this a_source a_tree a_builder a_tag x_at x_rawDue, ob_X1 a_source a_source_row x_source_size x_source_overflowed, (a_source_row, .inl (G.2.1 0, 200, .inl x_source_row)), ob_X6 a_tag a_tag_begins a_tag_ends x_tag_had x_tag_name x_tag_ending, (a_tag_begins, .inl (G.2.1 1, 26, .inl x_tag_begins)), (a_tag_ends, .inl (G.2.1 1, 26, .inl x_tag_ends))] → lv_has ls 5 [(0, .ref a_this), (1, .int v1), (2, .int v2), (3, .int v3), (4, .int v4)] → W p l e rm_X4_readValue s m args below meth c H locs 0 0 Q (F0 m 54 ls []) := by
  have hx := hX.1.1
  have hb := hX.1.2.1
  intro n
  induction n with
  | zero => intro x_at x_tag_had x_tag_begins x_tag_ends v2 v3 v4 H locs ls h; rw [f_X4_readValue_L54] at h; cases h
  | succ n ih =>
    intro x_at x_tag_had x_tag_begins x_tag_ends v2 v3 v4 H locs ls h hW hl
    rw [f_X4_readValue_L54] at h
    refine lv_aload_n hx hb dX4_readValue_54 rfl (lv_at hl 0 rfl) ?_
    refine ms_get ff_X4_35 hX hW 0 rfl rfl dX4_readValue_55 ?_
    refine lv_aload_n hx hb dX4_readValue_58 rfl (lv_at hl 0 rfl) ?_
    refine ms_get ff_X4_9 hX hW 0 rfl rfl dX4_readValue_59 ?_
    obtain ⟨q62, hq62, h⟩ := ms_bd h
    refine ms_callV (fn_X1_size l G a_source a_source_row x_source_size x_source_overflowed hq62) wm_X1_size wv_X4_46 hX hW [1] rfl rfl rfl rfl rfl ⟨Nat.le_of_ble_eq_true rfl, Nat.le_of_ble_eq_true rfl, rfl, rfl, Nat.zero_le _, Nat.zero_le _⟩ rfl hl.1 [.int x_at] rfl (Nat.le_of_ble_eq_true rfl) dX4_readValue_62 (fun H locs hW => ?_)
    have hW : ms_W G A s H locs [ob_X4 a_this a_source a_tree a_builder a_tag x_at x_rawDue, ob_X1 a_source a_source_row x_source_size x_source_overflowed, (a_source_row, .inl (G.2.1 0, 200, .inl x_source_row)), ob_X6 a_tag a_tag_begins a_tag_ends x_tag_had x_tag_name x_tag_ending, (a_tag_begins, .inl (G.2.1 1, 26, .inl x_tag_begins)), (a_tag_ends, .inl (G.2.1 1, 26, .inl x_tag_ends))] := hW
    refine W.eq (g2 := F0 m 65 ls [.int q62, .int x_at]) rfl ?_
    refine lv_icmp_ge (tgt := 100) hx hb dX4_readValue_65 (by decide) (fun k => ?_) (fun k => ?_)
    · have h := ms_ifp h k
      obtain rfl := Option.some.inj h
      exact hq _ _ _ hW (lv_sub hl [0, 1, 3, 4] rfl)
    · have h := ms_ifn h k
      refine lv_aload_n hx hb dX4_readValue_68 rfl (lv_at hl 0 rfl) ?_
      refine ms_get ff_X4_9 hX hW 0 rfl rfl dX4_readValue_69 ?_
      refine lv_aload_n hx hb dX4_readValue_72 rfl (lv_at hl 0 rfl) ?_
      refine ms_get ff_X4_35 hX hW 0 rfl rfl dX4_readValue_73 ?_
      obtain ⟨q76, hq76, h⟩ := ms_bd h
      refine ms_callV (fn_X1_at l G a_source a_source_row x_source_size x_source_overflowed x_source_row x_at hq76) wm_X1_at wv_X4_86 hX hW [1, 2] rfl rfl rfl rfl rfl ⟨Nat.le_of_ble_eq_true rfl, Nat.le_of_ble_eq_true rfl, rfl, rfl, Nat.zero_le _, Nat.zero_le _⟩ rfl hl.1 [] rfl (Nat.le_of_ble_eq_true rfl) dX4_readValue_76 (fun H locs hW => ?_)
      have hW : ms_W G A s H locs [ob_X4 a_this a_source a_tree a_builder a_tag x_at x_rawDue, ob_X1 a_source a_source_row x_source_size x_source_overflowed, (a_source_row, .inl (G.2.1 0, 200, .inl x_source_row)), ob_X6 a_tag a_tag_begins a_tag_ends x_tag_had x_tag_name x_tag_ending, (a_tag_begins, .inl (G.2.1 1, 26, .inl x_tag_begins)), (a_tag_ends, .inl (G.2.1 1, 26, .inl x_tag_ends))] := hW
      refine W.eq (g2 := F0 m 79 ls [.int q76]) rfl ?_
      refine lv_iload_n hx hb dX4_readValue_79 rfl (lv_at hl 3 rfl) ?_
      refine lv_iload_n hx hb dX4_readValue_80 rfl (lv_at hl 2 rfl) ?_
      obtain ⟨q81, hq81, h⟩ := ms_bd h
      refine ms_callS (fn_X4_isValueEnd l G q76 v3 v2 hq81) wm_X4_isValueEnd wz_X4_156 hX hW [] rfl rfl rfl ⟨Nat.le_of_ble_eq_true rfl, Nat.le_of_ble_eq_true rfl, rfl, rfl, Nat.zero_le _, Nat.zero_le _⟩ rfl hl.1 [] rfl (Nat.le_of_ble_eq_true rfl) dX4_readValue_81 (fun H locs hW => ?_)
      have hW : ms_W G A s H locs [ob_X4 a_this a_source a_tree a_builder a_tag x_at x_rawDue, ob_X1 a_source a_source_row x_source_size x_source_overflowed, (a_source_row, .inl (G.2.1 0, 200, .inl x_source_row)), ob_X6 a_tag a_tag_begins a_tag_ends x_tag_had x_tag_name x_tag_ending, (a_tag_begins, .inl (G.2.1 1, 26, .inl x_tag_begins)), (a_tag_ends, .inl (G.2.1 1, 26, .inl x_tag_ends))] := hW
      refine W.eq (g2 := F0 m 84 ls [.int q81]) rfl ?_
      refine lv_if_ne (tgt := 100) hx hb dX4_readValue_84 (by decide) (fun k => ?_) (fun k => ?_)
      · have h := ms_ifn h k
        obtain rfl := Option.some.inj h
        exact hq _ _ _ hW (lv_sub hl [0, 1, 3, 4] rfl)
      · have h := ms_ifp h k
        refine lv_aload_n hx hb dX4_readValue_87 rfl (lv_at hl 0 rfl) ?_
        refine lv_dup hx hb dX4_readValue_88 rfl ?_
        refine ms_get ff_X4_35 hX hW 0 rfl rfl dX4_readValue_89 ?_
        refine lv_iconst (v := 1) hx hb dX4_readValue_92 (by decide) ?_
        refine lv_iadd hx hb dX4_readValue_93 ?_
        refine ms_put ff_X4_35 fp_X4_4 rfl hX hW 0 rfl rfl rfl (Nat.le_of_ble_eq_true rfl) dX4_readValue_94 (fun H locs hW => ?_)
        have hW : ms_W G A s H locs [ob_X4 a_this a_source a_tree a_builder a_tag (x_at + 1) x_rawDue, ob_X1 a_source a_source_row x_source_size x_source_overflowed, (a_source_row, .inl (G.2.1 0, 200, .inl x_source_row)), ob_X6 a_tag a_tag_begins a_tag_ends x_tag_had x_tag_name x_tag_ending, (a_tag_begins, .inl (G.2.1 1, 26, .inl x_tag_begins)), (a_tag_ends, .inl (G.2.1 1, 26, .inl x_tag_ends))] := hW
        refine lv_goto (tgt := 54) hx hb dX4_readValue_97 (by decide) ?_
        exact ih _ _ _ _ _ _ _ _ _ _ h hW (lv_sub hl [0, 1, 2, 3, 4] rfl)
def f_X4_readValue_L44 (x_source_size : Int32) (x_source_row : Nat → Int32) (x_tag_ending : Int32) (v1 : Int32) (x_at : Int32) (x_tag_had : Int32) (x_tag_begins : Nat → Int32) (x_tag_ends : Nat → Int32) (v2 : Int32) (v3 : Int32) (z1 : Int32) (z2 : Int32) : Option (Int32 × Int32 × (Nat → Int32) × (Nat → Int32)) := (f_X4_readValue_L54 x_source_size x_source_row x_tag_ending v1 1000 (z1 + z2) x_tag_had x_tag_begins x_tag_ends v2 v3 (z1 + z2)).bind (fun w54 => (f_X6_addAttribute w54.2.1 x_tag_ending w54.2.2.1 w54.2.2.2.1 v1 w54.2.2.2.2.2 w54.1).bind (fun q111 => (if w54.2.2.2.2.1 = 0 then some (w54.1 + 0, q111.1, q111.2.1, q111.2.2) else some (w54.1 + 1, q111.1, q111.2.1, q111.2.2))))
set_option maxHeartbeats 4000000 in
set_option maxRecDepth 100000 in
theorem wb_X4_readValue_L44 {p : Program} {l : Launch} {e : Env} {s : State} {m : MethodId} {args : Array Value} {below : List Frame} {meth : Method} {c : Code} {G : Gc} {A : Nat → Prop} {H : Heap} {locs : List Loc} {ls : Array Slot} {a_this : Nat} {a_source : Nat} {a_tree : Nat} {a_builder : Nat} {a_tag : Nat} {a_source_row : Nat} {a_tag_begins : Nat} {a_tag_ends : Nat} {x_rawDue : Int32} {x_source_size : Int32} {x_source_overflowed : Int32} {x_source_row : Nat → Int32} {x_tag_name : Int32} {x_tag_ending : Int32} {v1 : Int32} {x_at : Int32} {x_tag_had : Int32} {x_tag_begins : Nat → Int32} {x_tag_ends : Nat → Int32} {v2 : Int32} {v3 : Int32} {z1 : Int32} {z2 : Int32} {o : Int32 × Int32 × (Nat → Int32) × (Nat → Int32)} (hX : ms_CX p s m args meth c cX4_readValue 5 RX4 none G A)   (h : f_X4_readValue_L44 x_source_size x_source_row x_tag_ending v1 x_at x_tag_had x_tag_begins x_tag_ends v2 v3 z1 z2 = some o) (hW : ms_W G A s H locs [ob_X4 a_this a_source a_tree a_builder a_tag x_at x_rawDue, ob_X1 a_source a_source_row x_source_size x_source_overflowed, (a_source_row, .inl (G.2.1 0, 200, .inl x_source_row)), ob_X6 a_tag a_tag_begins a_tag_ends x_tag_had x_tag_name x_tag_ending, (a_tag_begins, .inl (G.2.1 1, 26, .inl x_tag_begins)), (a_tag_ends, .inl (G.2.1 1, 26, .inl x_tag_ends))]) (hl : lv_has ls 5 [(0, .ref a_this), (1, .int v1), (2, .int v2), (3, .int v3)]) : W p l e rm_X4_readValue s m args below meth c H locs 0 0 (ms_Q G A below args s [ob_X4 a_this a_source a_tree a_builder a_tag o.1 x_rawDue, ob_X1 a_source a_source_row x_source_size x_source_overflowed, (a_source_row, .inl (G.2.1 0, 200, .inl x_source_row)), ob_X6 a_tag a_tag_begins a_tag_ends o.2.1 x_tag_name x_tag_ending, (a_tag_begins, .inl (G.2.1 1, 26, .inl o.2.2.1)), (a_tag_ends, .inl (G.2.1 1, 26, .inl o.2.2.2))] none) (F0 m 44 ls [.int z2, .int z1, .ref a_this]) := by
  have hx := hX.1.1
  have hb := hX.1.2.1
  unfold f_X4_readValue_L44 at h
  refine lv_iadd hx hb dX4_readValue_44 ?_
  refine ms_put ff_X4_35 fp_X4_4 rfl hX hW 0 rfl rfl rfl (Nat.le_of_ble_eq_true rfl) dX4_readValue_45 (fun H locs hW => ?_)
  have hW : ms_W G A s H locs [ob_X4 a_this a_source a_tree a_builder a_tag (z1 + z2) x_rawDue, ob_X1 a_source a_source_row x_source_size x_source_overflowed, (a_source_row, .inl (G.2.1 0, 200, .inl x_source_row)), ob_X6 a_tag a_tag_begins a_tag_ends x_tag_had x_tag_name x_tag_ending, (a_tag_begins, .inl (G.2.1 1, 26, .inl x_tag_begins)), (a_tag_ends, .inl (G.2.1 1, 26, .inl x_tag_ends))] := hW
  refine lv_aload_n hx hb dX4_readValue_48 rfl (lv_at hl 0 rfl) ?_
  refine ms_get ff_X4_35 hX hW 0 rfl rfl dX4_readValue_49 ?_
  refine lv_istore (lv' := [(4, .int (z1 + z2)), (0, .ref a_this), (1, .int v1), (2, .int v2), (3, .int v3)]) hx hb dX4_readValue_52 hl (by decide) rfl (fun ls hl => ?_)
  obtain ⟨w54, hqw54, h⟩ := ms_bd h
  refine wb_X4_readValue_L54 hX (o := w54) (fun H locs ls hW hl => ?_) _ _ _ _ _ _ _ _ _ _ _ hqw54 hW (lv_sub hl [1, 2, 3, 4, 0] rfl)
  refine lv_aload_n hx hb dX4_readValue_100 rfl (lv_at hl 0 rfl) ?_
  refine ms_get ff_X4_31 hX hW 0 rfl rfl dX4_readValue_101 ?_
  refine lv_iload_n hx hb dX4_readValue_104 rfl (lv_at hl 1 rfl) ?_
  refine lv_iload hx hb dX4_readValue_105 (lv_at hl 3 rfl) ?_
  refine lv_aload_n hx hb dX4_readValue_107 rfl (lv_at hl 0 rfl) ?_
  refine ms_get ff_X4_35 hX hW 0 rfl rfl dX4_readValue_108 ?_
  obtain ⟨q111, hq111, h⟩ := ms_bd h
  refine ms_callV (fn_X6_addAttribute l G a_tag a_tag_begins a_tag_ends w54.2.1 x_tag_name x_tag_ending w54.2.2.1 w54.2.2.2.1 v1 w54.2.2.2.2.2 w54.1 hq111) wm_X6_addAttribute wv_X4_152 hX hW [3, 4, 5] rfl rfl rfl rfl rfl ⟨Nat.le_of_ble_eq_true rfl, Nat.le_of_ble_eq_true rfl, rfl, rfl, Nat.zero_le _, Nat.zero_le _⟩ rfl hl.1 [] rfl (Nat.le_of_ble_eq_true rfl) dX4_readValue_111 (fun H locs hW => ?_)
  have hW : ms_W G A s H locs [ob_X4 a_this a_source a_tree a_builder a_tag w54.1 x_rawDue, ob_X1 a_source a_source_row x_source_size x_source_overflowed, (a_source_row, .inl (G.2.1 0, 200, .inl x_source_row)), ob_X6 a_tag a_tag_begins a_tag_ends q111.1 x_tag_name x_tag_ending, (a_tag_begins, .inl (G.2.1 1, 26, .inl q111.2.1)), (a_tag_ends, .inl (G.2.1 1, 26, .inl q111.2.2))] := hW
  refine W.eq (g2 := F0 m 114 ls []) rfl ?_
  refine lv_aload_n hx hb dX4_readValue_114 rfl (lv_at hl 0 rfl) ?_
  refine lv_dup hx hb dX4_readValue_115 rfl ?_
  refine ms_get ff_X4_35 hX hW 0 rfl rfl dX4_readValue_116 ?_
  refine lv_iload_n hx hb dX4_readValue_119 rfl (lv_at hl 2 rfl) ?_
  refine lv_if_eq (tgt := 127) hx hb dX4_readValue_120 (by decide) (fun k => ?_) (fun k => ?_)
  · have h := ms_ifp h k
    refine lv_iconst (v := 0) hx hb dX4_readValue_127 (by decide) ?_
    refine lv_iadd hx hb dX4_readValue_128 ?_
    refine ms_put ff_X4_35 fp_X4_4 rfl hX hW 0 rfl rfl rfl (Nat.le_of_ble_eq_true rfl) dX4_readValue_129 (fun H locs hW => ?_)
    have hW : ms_W G A s H locs [ob_X4 a_this a_source a_tree a_builder a_tag (w54.1 + 0) x_rawDue, ob_X1 a_source a_source_row x_source_size x_source_overflowed, (a_source_row, .inl (G.2.1 0, 200, .inl x_source_row)), ob_X6 a_tag a_tag_begins a_tag_ends q111.1 x_tag_name x_tag_ending, (a_tag_begins, .inl (G.2.1 1, 26, .inl q111.2.1)), (a_tag_ends, .inl (G.2.1 1, 26, .inl q111.2.2))] := hW
    obtain rfl := Option.some.inj h
    exact ms_vret hX hW dX4_readValue_132
  · have h := ms_ifn h k
    refine lv_iconst (v := 1) hx hb dX4_readValue_123 (by decide) ?_
    refine lv_goto (tgt := 128) hx hb dX4_readValue_124 (by decide) ?_
    refine lv_iadd hx hb dX4_readValue_128 ?_
    refine ms_put ff_X4_35 fp_X4_4 rfl hX hW 0 rfl rfl rfl (Nat.le_of_ble_eq_true rfl) dX4_readValue_129 (fun H locs hW => ?_)
    have hW : ms_W G A s H locs [ob_X4 a_this a_source a_tree a_builder a_tag (w54.1 + 1) x_rawDue, ob_X1 a_source a_source_row x_source_size x_source_overflowed, (a_source_row, .inl (G.2.1 0, 200, .inl x_source_row)), ob_X6 a_tag a_tag_begins a_tag_ends q111.1 x_tag_name x_tag_ending, (a_tag_begins, .inl (G.2.1 1, 26, .inl q111.2.1)), (a_tag_ends, .inl (G.2.1 1, 26, .inl q111.2.2))] := hW
    obtain rfl := Option.some.inj h
    exact ms_vret hX hW dX4_readValue_132
def f_X4_readValue_L29 (x_source_size : Int32) (x_source_row : Nat → Int32) (x_tag_ending : Int32) (v1 : Int32) (x_at : Int32) (x_tag_had : Int32) (x_tag_begins : Nat → Int32) (x_tag_ends : Nat → Int32) (v2 : Int32) (z0 : Int32) : Option (Int32 × Int32 × (Nat → Int32) × (Nat → Int32)) := (if z0 = 0 then f_X4_readValue_L44 x_source_size x_source_row x_tag_ending v1 x_at x_tag_had x_tag_begins x_tag_ends v2 z0 x_at 0 else f_X4_readValue_L44 x_source_size x_source_row x_tag_ending v1 x_at x_tag_had x_tag_begins x_tag_ends v2 z0 x_at 1)
set_option maxHeartbeats 4000000 in
set_option maxRecDepth 100000 in
theorem wb_X4_readValue_L29 {p : Program} {l : Launch} {e : Env} {s : State} {m : MethodId} {args : Array Value} {below : List Frame} {meth : Method} {c : Code} {G : Gc} {A : Nat → Prop} {H : Heap} {locs : List Loc} {ls : Array Slot} {a_this : Nat} {a_source : Nat} {a_tree : Nat} {a_builder : Nat} {a_tag : Nat} {a_source_row : Nat} {a_tag_begins : Nat} {a_tag_ends : Nat} {x_rawDue : Int32} {x_source_size : Int32} {x_source_overflowed : Int32} {x_source_row : Nat → Int32} {x_tag_name : Int32} {x_tag_ending : Int32} {v1 : Int32} {x_at : Int32} {x_tag_had : Int32} {x_tag_begins : Nat → Int32} {x_tag_ends : Nat → Int32} {v2 : Int32} {z0 : Int32} {o : Int32 × Int32 × (Nat → Int32) × (Nat → Int32)} (hX : ms_CX p s m args meth c cX4_readValue 5 RX4 none G A)   (h : f_X4_readValue_L29 x_source_size x_source_row x_tag_ending v1 x_at x_tag_had x_tag_begins x_tag_ends v2 z0 = some o) (hW : ms_W G A s H locs [ob_X4 a_this a_source a_tree a_builder a_tag x_at x_rawDue, ob_X1 a_source a_source_row x_source_size x_source_overflowed, (a_source_row, .inl (G.2.1 0, 200, .inl x_source_row)), ob_X6 a_tag a_tag_begins a_tag_ends x_tag_had x_tag_name x_tag_ending, (a_tag_begins, .inl (G.2.1 1, 26, .inl x_tag_begins)), (a_tag_ends, .inl (G.2.1 1, 26, .inl x_tag_ends))]) (hl : lv_has ls 5 [(0, .ref a_this), (1, .int v1), (2, .int v2)]) : W p l e rm_X4_readValue s m args below meth c H locs 0 0 (ms_Q G A below args s [ob_X4 a_this a_source a_tree a_builder a_tag o.1 x_rawDue, ob_X1 a_source a_source_row x_source_size x_source_overflowed, (a_source_row, .inl (G.2.1 0, 200, .inl x_source_row)), ob_X6 a_tag a_tag_begins a_tag_ends o.2.1 x_tag_name x_tag_ending, (a_tag_begins, .inl (G.2.1 1, 26, .inl o.2.2.1)), (a_tag_ends, .inl (G.2.1 1, 26, .inl o.2.2.2))] none) (F0 m 29 ls [.int z0]) := by
  have hx := hX.1.1
  have hb := hX.1.2.1
  unfold f_X4_readValue_L29 at h
  refine lv_istore_n (lv' := [(3, .int z0), (0, .ref a_this), (1, .int v1), (2, .int v2)]) hx hb dX4_readValue_29 rfl hl (by decide) rfl (fun ls hl => ?_)
  refine lv_aload_n hx hb dX4_readValue_30 rfl (lv_at hl 1 rfl) ?_
  refine lv_dup hx hb dX4_readValue_31 rfl ?_
  refine ms_get ff_X4_35 hX hW 0 rfl rfl dX4_readValue_32 ?_
  refine lv_iload_n hx hb dX4_readValue_35 rfl (lv_at hl 0 rfl) ?_
  refine lv_if_eq (tgt := 43) hx hb dX4_readValue_36 (by decide) (fun k => ?_) (fun k => ?_)
  · have h := ms_ifp h k
    refine lv_iconst (v := 0) hx hb dX4_readValue_43 (by decide) ?_
    exact wb_X4_readValue_L44 hX h hW (lv_sub hl [1, 2, 3, 0] rfl)
  · have h := ms_ifn h k
    refine lv_iconst (v := 1) hx hb dX4_readValue_39 (by decide) ?_
    refine lv_goto (tgt := 44) hx hb dX4_readValue_40 (by decide) ?_
    exact wb_X4_readValue_L44 hX h hW (lv_sub hl [1, 2, 3, 0] rfl)
def f_X4_readValue_L24 (x_source_size : Int32) (x_source_row : Nat → Int32) (x_tag_ending : Int32) (v1 : Int32) (x_at : Int32) (x_tag_had : Int32) (x_tag_begins : Nat → Int32) (x_tag_ends : Nat → Int32) (v2 : Int32) : Option (Int32 × Int32 × (Nat → Int32) × (Nat → Int32)) := f_X4_readValue_L29 x_source_size x_source_row x_tag_ending v1 x_at x_tag_had x_tag_begins x_tag_ends v2 1
set_option maxHeartbeats 4000000 in
set_option maxRecDepth 100000 in
theorem wb_X4_readValue_L24 {p : Program} {l : Launch} {e : Env} {s : State} {m : MethodId} {args : Array Value} {below : List Frame} {meth : Method} {c : Code} {G : Gc} {A : Nat → Prop} {H : Heap} {locs : List Loc} {ls : Array Slot} {a_this : Nat} {a_source : Nat} {a_tree : Nat} {a_builder : Nat} {a_tag : Nat} {a_source_row : Nat} {a_tag_begins : Nat} {a_tag_ends : Nat} {x_rawDue : Int32} {x_source_size : Int32} {x_source_overflowed : Int32} {x_source_row : Nat → Int32} {x_tag_name : Int32} {x_tag_ending : Int32} {v1 : Int32} {x_at : Int32} {x_tag_had : Int32} {x_tag_begins : Nat → Int32} {x_tag_ends : Nat → Int32} {v2 : Int32} {o : Int32 × Int32 × (Nat → Int32) × (Nat → Int32)} (hX : ms_CX p s m args meth c cX4_readValue 5 RX4 none G A)   (h : f_X4_readValue_L24 x_source_size x_source_row x_tag_ending v1 x_at x_tag_had x_tag_begins x_tag_ends v2 = some o) (hW : ms_W G A s H locs [ob_X4 a_this a_source a_tree a_builder a_tag x_at x_rawDue, ob_X1 a_source a_source_row x_source_size x_source_overflowed, (a_source_row, .inl (G.2.1 0, 200, .inl x_source_row)), ob_X6 a_tag a_tag_begins a_tag_ends x_tag_had x_tag_name x_tag_ending, (a_tag_begins, .inl (G.2.1 1, 26, .inl x_tag_begins)), (a_tag_ends, .inl (G.2.1 1, 26, .inl x_tag_ends))]) (hl : lv_has ls 5 [(0, .ref a_this), (1, .int v1), (2, .int v2)]) : W p l e rm_X4_readValue s m args below meth c H locs 0 0 (ms_Q G A below args s [ob_X4 a_this a_source a_tree a_builder a_tag o.1 x_rawDue, ob_X1 a_source a_source_row x_source_size x_source_overflowed, (a_source_row, .inl (G.2.1 0, 200, .inl x_source_row)), ob_X6 a_tag a_tag_begins a_tag_ends o.2.1 x_tag_name x_tag_ending, (a_tag_begins, .inl (G.2.1 1, 26, .inl o.2.2.1)), (a_tag_ends, .inl (G.2.1 1, 26, .inl o.2.2.2))] none) (F0 m 24 ls []) := by
  have hx := hX.1.1
  have hb := hX.1.2.1
  unfold f_X4_readValue_L24 at h
  refine lv_iconst (v := 1) hx hb dX4_readValue_24 (by decide) ?_
  refine lv_goto (tgt := 29) hx hb dX4_readValue_25 (by decide) ?_
  exact wb_X4_readValue_L29 hX h hW (lv_sub hl [0, 1, 2] rfl)
def f_X4_readValue (x_at : Int32) (x_source_size : Int32) (x_source_row : Nat → Int32) (x_tag_had : Int32) (x_tag_ending : Int32) (x_tag_begins : Nat → Int32) (x_tag_ends : Nat → Int32) (v1 : Int32) : Option (Int32 × Int32 × (Nat → Int32) × (Nat → Int32)) := (f_X1_at x_source_size x_source_row x_at).bind (fun q8 => (if q8 = 34 then f_X4_readValue_L24 x_source_size x_source_row x_tag_ending v1 x_at x_tag_had x_tag_begins x_tag_ends q8 else (if q8 = 39 then f_X4_readValue_L24 x_source_size x_source_row x_tag_ending v1 x_at x_tag_had x_tag_begins x_tag_ends q8 else f_X4_readValue_L29 x_source_size x_source_row x_tag_ending v1 x_at x_tag_had x_tag_begins x_tag_ends q8 0)))
set_option maxHeartbeats 4000000 in
set_option maxRecDepth 100000 in
theorem fn_X4_readValue (l : Launch) (G : Gc) (a_this : Nat) (a_source : Nat) (a_tree : Nat) (a_builder : Nat) (a_tag : Nat) (a_source_row : Nat) (a_tag_begins : Nat) (a_tag_ends : Nat) (x_at : Int32) (x_rawDue : Int32) (x_source_size : Int32) (x_source_overflowed : Int32) (x_source_row : Nat → Int32) (x_tag_had : Int32) (x_tag_name : Int32) (x_tag_ending : Int32) (x_tag_begins : Nat → Int32) (x_tag_ends : Nat → Int32) (v1 : Int32)  {o : Int32 × Int32 × (Nat → Int32) × (Nat → Int32)} (h : f_X4_readValue x_at x_source_size x_source_row x_tag_had x_tag_ending x_tag_begins x_tag_ends v1 = some o) : ms_Fn l G yX4_readValue cX4_readValue 5 none rm_X4_readValue [.ref a_this, .int v1] [ob_X4 a_this a_source a_tree a_builder a_tag x_at x_rawDue, ob_X1 a_source a_source_row x_source_size x_source_overflowed, (a_source_row, .inl (G.2.1 0, 200, .inl x_source_row)), ob_X6 a_tag a_tag_begins a_tag_ends x_tag_had x_tag_name x_tag_ending, (a_tag_begins, .inl (G.2.1 1, 26, .inl x_tag_begins)), (a_tag_ends, .inl (G.2.1 1, 26, .inl x_tag_ends))] [ob_X4 a_this a_source a_tree a_builder a_tag o.1 x_rawDue, ob_X1 a_source a_source_row x_source_size x_source_overflowed, (a_source_row, .inl (G.2.1 0, 200, .inl x_source_row)), ob_X6 a_tag a_tag_begins a_tag_ends o.2.1 x_tag_name x_tag_ending, (a_tag_begins, .inl (G.2.1 1, 26, .inl o.2.2.1)), (a_tag_ends, .inl (G.2.1 1, 26, .inl o.2.2.2))] none := by
  refine ms_start RX4 (by decide +kernel) rfl (Nat.le_of_ble_eq_true rfl) (fun p e s m below meth c A ls hX hW hl => ?_)
  have hx := hX.1.1
  have hb := hX.1.2.1
  have hl : lv_has ls 5 [(0, .ref a_this), (1, .int v1)] := hl
  unfold f_X4_readValue at h
  refine lv_aload_n hx hb dX4_readValue_0 rfl (lv_at hl 0 rfl) ?_
  refine ms_get ff_X4_9 hX hW 0 rfl rfl dX4_readValue_1 ?_
  refine lv_aload_n hx hb dX4_readValue_4 rfl (lv_at hl 0 rfl) ?_
  refine ms_get ff_X4_35 hX hW 0 rfl rfl dX4_readValue_5 ?_
  obtain ⟨q8, hq8, h⟩ := ms_bd h
  refine ms_callV (fn_X1_at l G a_source a_source_row x_source_size x_source_overflowed x_source_row x_at hq8) wm_X1_at wv_X4_86 hX hW [1, 2] rfl rfl rfl rfl rfl ⟨Nat.le_of_ble_eq_true rfl, Nat.le_of_ble_eq_true rfl, rfl, rfl, Nat.zero_le _, Nat.zero_le _⟩ rfl hl.1 [] rfl (Nat.le_of_ble_eq_true rfl) dX4_readValue_8 (fun H locs hW => ?_)
  have hW : ms_W G A s H locs [ob_X4 a_this a_source a_tree a_builder a_tag x_at x_rawDue, ob_X1 a_source a_source_row x_source_size x_source_overflowed, (a_source_row, .inl (G.2.1 0, 200, .inl x_source_row)), ob_X6 a_tag a_tag_begins a_tag_ends x_tag_had x_tag_name x_tag_ending, (a_tag_begins, .inl (G.2.1 1, 26, .inl x_tag_begins)), (a_tag_ends, .inl (G.2.1 1, 26, .inl x_tag_ends))] := hW
  refine W.eq (g2 := F0 m 11 ls [.int q8]) rfl ?_
  refine lv_istore_n (lv' := [(2, .int q8), (0, .ref a_this), (1, .int v1)]) hx hb dX4_readValue_11 rfl hl (by decide) rfl (fun ls hl => ?_)
  refine lv_iload_n hx hb dX4_readValue_12 rfl (lv_at hl 0 rfl) ?_
  refine lv_bipush (v := 34) hx hb dX4_readValue_13 (by decide) ?_
  refine lv_icmp_eq (tgt := 24) hx hb dX4_readValue_15 (by decide) (fun k => ?_) (fun k => ?_)
  · have h := ms_ifp h k
    exact wb_X4_readValue_L24 hX h hW (lv_sub hl [1, 2, 0] rfl)
  · have h := ms_ifn h k
    refine lv_iload_n hx hb dX4_readValue_18 rfl (lv_at hl 0 rfl) ?_
    refine lv_bipush (v := 39) hx hb dX4_readValue_19 (by decide) ?_
    refine lv_icmp_ne (tgt := 28) hx hb dX4_readValue_21 (by decide) (fun k => ?_) (fun k => ?_)
    · have h := ms_ifn h k
      refine lv_iconst (v := 0) hx hb dX4_readValue_28 (by decide) ?_
      exact wb_X4_readValue_L29 hX h hW (lv_sub hl [1, 2, 0] rfl)
    · have h := ms_ifp h k
      exact wb_X4_readValue_L24 hX h hW (lv_sub hl [1, 2, 0] rfl)
def rm_X4_readAttribute : Room := { frames := 4, cells := 0, slots := 0, locals := 88 }
def f_X4_readAttribute_L84 (x_source_size : Int32) (x_source_row : Nat → Int32) (x_tag_ending : Int32) (x_at : Int32) (x_tag_had : Int32) (x_tag_begins : Nat → Int32) (x_tag_ends : Nat → Int32) (z0 : Int32) : Option (Int32 × Int32 × (Nat → Int32) × (Nat → Int32)) := (f_X4_passBlanks x_at x_source_size x_source_row).bind (fun q86 => (f_X1_at x_source_size x_source_row q86).bind (fun q97 => (if q97 = 61 then (f_X4_passBlanks (q86 + 1) x_source_size x_source_row).bind (fun q116 => (f_X4_readValue q116 x_source_size x_source_row x_tag_had x_tag_ending x_tag_begins x_tag_ends z0).bind (fun q121 => some (q121.1, q121.2.1, q121.2.2.1, q121.2.2.2))) else (f_X6_addAttribute x_tag_had x_tag_ending x_tag_begins x_tag_ends z0 q86 q86).bind (fun q140 => some (q86, q140.1, q140.2.1, q140.2.2)))))
set_option maxHeartbeats 4000000 in
set_option maxRecDepth 100000 in
theorem wb_X4_readAttribute_L84 {p : Program} {l : Launch} {e : Env} {s : State} {m : MethodId} {args : Array Value} {below : List Frame} {meth : Method} {c : Code} {G : Gc} {A : Nat → Prop} {H : Heap} {locs : List Loc} {ls : Array Slot} {a_this : Nat} {a_source : Nat} {a_tree : Nat} {a_builder : Nat} {a_tag : Nat} {a_source_row : Nat} {a_tag_begins : Nat} {a_tag_ends : Nat} {x_rawDue : Int32} {x_source_size : Int32} {x_source_overflowed : Int32} {x_source_row : Nat → Int32} {x_tag_name : Int32} {x_tag_ending : Int32}  {x_at : Int32} {x_tag_had : Int32} {x_tag_begins : Nat → Int32} {x_tag_ends : Nat → Int32} {z0 : Int32} {o : Int32 × Int32 × (Nat → Int32) × (Nat → Int32)} (hX : ms_CX p s m args meth c cX4_readAttribute 3 RX4 none G A)   (h : f_X4_readAttribute_L84 x_source_size x_source_row x_tag_ending x_at x_tag_had x_tag_begins x_tag_ends z0 = some o) (hW : ms_W G A s H locs [ob_X4 a_this a_source a_tree a_builder a_tag x_at x_rawDue, ob_X1 a_source a_source_row x_source_size x_source_overflowed, (a_source_row, .inl (G.2.1 0, 200, .inl x_source_row)), ob_X6 a_tag a_tag_begins a_tag_ends x_tag_had x_tag_name x_tag_ending, (a_tag_begins, .inl (G.2.1 1, 26, .inl x_tag_begins)), (a_tag_ends, .inl (G.2.1 1, 26, .inl x_tag_ends))]) (hl : lv_has ls 3 [(0, .ref a_this)]) : W p l e rm_X4_readAttribute s m args below meth c H locs 0 0 (ms_Q G A below args s [ob_X4 a_this a_source a_tree a_builder a_tag o.1 x_rawDue, ob_X1 a_source a_source_row x_source_size x_source_overflowed, (a_source_row, .inl (G.2.1 0, 200, .inl x_source_row)), ob_X6 a_tag a_tag_begins a_tag_ends o.2.1 x_tag_name x_tag_ending, (a_tag_begins, .inl (G.2.1 1, 26, .inl o.2.2.1)), (a_tag_ends, .inl (G.2.1 1, 26, .inl o.2.2.2))] none) (F0 m 84 ls [.int z0]) := by
  have hx := hX.1.1
  have hb := hX.1.2.1
  unfold f_X4_readAttribute_L84 at h
  refine lv_istore_n (lv' := [(2, .int z0), (0, .ref a_this)]) hx hb dX4_readAttribute_84 rfl hl (by decide) rfl (fun ls hl => ?_)
  refine lv_aload_n hx hb dX4_readAttribute_85 rfl (lv_at hl 1 rfl) ?_
  obtain ⟨q86, hq86, h⟩ := ms_bd h
  refine ms_callV (fn_X4_passBlanks l G a_this a_source a_tree a_builder a_tag a_source_row x_at x_rawDue x_source_size x_source_overflowed x_source_row hq86) wm_X4_passBlanks wv_X4_146 hX hW [0, 1, 2] rfl rfl rfl rfl rfl ⟨Nat.le_of_ble_eq_true rfl, Nat.le_of_ble_eq_true rfl, rfl, rfl, Nat.zero_le _, Nat.zero_le _⟩ rfl hl.1 [] rfl (Nat.le_of_ble_eq_true rfl) dX4_readAttribute_86 (fun H locs hW => ?_)
  have hW : ms_W G A s H locs [ob_X4 a_this a_source a_tree a_builder a_tag q86 x_rawDue, ob_X1 a_source a_source_row x_source_size x_source_overflowed, (a_source_row, .inl (G.2.1 0, 200, .inl x_source_row)), ob_X6 a_tag a_tag_begins a_tag_ends x_tag_had x_tag_name x_tag_ending, (a_tag_begins, .inl (G.2.1 1, 26, .inl x_tag_begins)), (a_tag_ends, .inl (G.2.1 1, 26, .inl x_tag_ends))] := hW
  refine W.eq (g2 := F0 m 89 ls []) rfl ?_
  refine lv_aload_n hx hb dX4_readAttribute_89 rfl (lv_at hl 1 rfl) ?_
  refine ms_get ff_X4_9 hX hW 0 rfl rfl dX4_readAttribute_90 ?_
  refine lv_aload_n hx hb dX4_readAttribute_93 rfl (lv_at hl 1 rfl) ?_
  refine ms_get ff_X4_35 hX hW 0 rfl rfl dX4_readAttribute_94 ?_
  obtain ⟨q97, hq97, h⟩ := ms_bd h
  refine ms_callV (fn_X1_at l G a_source a_source_row x_source_size x_source_overflowed x_source_row q86 hq97) wm_X1_at wv_X4_86 hX hW [1, 2] rfl rfl rfl rfl rfl ⟨Nat.le_of_ble_eq_true rfl, Nat.le_of_ble_eq_true rfl, rfl, rfl, Nat.zero_le _, Nat.zero_le _⟩ rfl hl.1 [] rfl (Nat.le_of_ble_eq_true rfl) dX4_readAttribute_97 (fun H locs hW => ?_)
  have hW : ms_W G A s H locs [ob_X4 a_this a_source a_tree a_builder a_tag q86 x_rawDue, ob_X1 a_source a_source_row x_source_size x_source_overflowed, (a_source_row, .inl (G.2.1 0, 200, .inl x_source_row)), ob_X6 a_tag a_tag_begins a_tag_ends x_tag_had x_tag_name x_tag_ending, (a_tag_begins, .inl (G.2.1 1, 26, .inl x_tag_begins)), (a_tag_ends, .inl (G.2.1 1, 26, .inl x_tag_ends))] := hW
  refine W.eq (g2 := F0 m 100 ls [.int q97]) rfl ?_
  refine lv_bipush (v := 61) hx hb dX4_readAttribute_100 (by decide) ?_
  refine lv_icmp_ne (tgt := 127) hx hb dX4_readAttribute_102 (by decide) (fun k => ?_) (fun k => ?_)
  · have h := ms_ifn h k
    refine lv_aload_n hx hb dX4_readAttribute_127 rfl (lv_at hl 1 rfl) ?_
    refine ms_get ff_X4_31 hX hW 0 rfl rfl dX4_readAttribute_128 ?_
    refine lv_iload_n hx hb dX4_readAttribute_131 rfl (lv_at hl 0 rfl) ?_
    refine lv_aload_n hx hb dX4_readAttribute_132 rfl (lv_at hl 1 rfl) ?_
    refine ms_get ff_X4_35 hX hW 0 rfl rfl dX4_readAttribute_133 ?_
    refine lv_aload_n hx hb dX4_readAttribute_136 rfl (lv_at hl 1 rfl) ?_
    refine ms_get ff_X4_35 hX hW 0 rfl rfl dX4_readAttribute_137 ?_
    obtain ⟨q140, hq140, h⟩ := ms_bd h
    refine ms_callV (fn_X6_addAttribute l G a_tag a_tag_begins a_tag_ends x_tag_had x_tag_name x_tag_ending x_tag_begins x_tag_ends z0 q86 q86 hq140) wm_X6_addAttribute wv_X4_152 hX hW [3, 4, 5] rfl rfl rfl rfl rfl ⟨Nat.le_of_ble_eq_true rfl, Nat.le_of_ble_eq_true rfl, rfl, rfl, Nat.zero_le _, Nat.zero_le _⟩ rfl hl.1 [] rfl (Nat.le_of_ble_eq_true rfl) dX4_readAttribute_140 (fun H locs hW => ?_)
    have hW : ms_W G A s H locs [ob_X4 a_this a_source a_tree a_builder a_tag q86 x_rawDue, ob_X1 a_source a_source_row x_source_size x_source_overflowed, (a_source_row, .inl (G.2.1 0, 200, .inl x_source_row)), ob_X6 a_tag a_tag_begins a_tag_ends q140.1 x_tag_name x_tag_ending, (a_tag_begins, .inl (G.2.1 1, 26, .inl q140.2.1)), (a_tag_ends, .inl (G.2.1 1, 26, .inl q140.2.2))] := hW
    refine W.eq (g2 := F0 m 143 ls []) rfl ?_
    obtain rfl := Option.some.inj h
    exact ms_vret hX hW dX4_readAttribute_143
  · have h := ms_ifp h k
    refine lv_aload_n hx hb dX4_readAttribute_105 rfl (lv_at hl 1 rfl) ?_
    refine lv_dup hx hb dX4_readAttribute_106 rfl ?_
    refine ms_get ff_X4_35 hX hW 0 rfl rfl dX4_readAttribute_107 ?_
    refine lv_iconst (v := 1) hx hb dX4_readAttribute_110 (by decide) ?_
    refine lv_iadd hx hb dX4_readAttribute_111 ?_
    refine ms_put ff_X4_35 fp_X4_4 rfl hX hW 0 rfl rfl rfl (Nat.le_of_ble_eq_true rfl) dX4_readAttribute_112 (fun H locs hW => ?_)
    have hW : ms_W G A s H locs [ob_X4 a_this a_source a_tree a_builder a_tag (q86 + 1) x_rawDue, ob_X1 a_source a_source_row x_source_size x_source_overflowed, (a_source_row, .inl (G.2.1 0, 200, .inl x_source_row)), ob_X6 a_tag a_tag_begins a_tag_ends x_tag_had x_tag_name x_tag_ending, (a_tag_begins, .inl (G.2.1 1, 26, .inl x_tag_begins)), (a_tag_ends, .inl (G.2.1 1, 26, .inl x_tag_ends))] := hW
    refine lv_aload_n hx hb dX4_readAttribute_115 rfl (lv_at hl 1 rfl) ?_
    obtain ⟨q116, hq116, h⟩ := ms_bd h
    refine ms_callV (fn_X4_passBlanks l G a_this a_source a_tree a_builder a_tag a_source_row (q86 + 1) x_rawDue x_source_size x_source_overflowed x_source_row hq116) wm_X4_passBlanks wv_X4_146 hX hW [0, 1, 2] rfl rfl rfl rfl rfl ⟨Nat.le_of_ble_eq_true rfl, Nat.le_of_ble_eq_true rfl, rfl, rfl, Nat.zero_le _, Nat.zero_le _⟩ rfl hl.1 [] rfl (Nat.le_of_ble_eq_true rfl) dX4_readAttribute_116 (fun H locs hW => ?_)
    have hW : ms_W G A s H locs [ob_X4 a_this a_source a_tree a_builder a_tag q116 x_rawDue, ob_X1 a_source a_source_row x_source_size x_source_overflowed, (a_source_row, .inl (G.2.1 0, 200, .inl x_source_row)), ob_X6 a_tag a_tag_begins a_tag_ends x_tag_had x_tag_name x_tag_ending, (a_tag_begins, .inl (G.2.1 1, 26, .inl x_tag_begins)), (a_tag_ends, .inl (G.2.1 1, 26, .inl x_tag_ends))] := hW
    refine W.eq (g2 := F0 m 119 ls []) rfl ?_
    refine lv_aload_n hx hb dX4_readAttribute_119 rfl (lv_at hl 1 rfl) ?_
    refine lv_iload_n hx hb dX4_readAttribute_120 rfl (lv_at hl 0 rfl) ?_
    obtain ⟨q121, hq121, h⟩ := ms_bd h
    refine ms_callV (fn_X4_readValue l G a_this a_source a_tree a_builder a_tag a_source_row a_tag_begins a_tag_ends q116 x_rawDue x_source_size x_source_overflowed x_source_row x_tag_had x_tag_name x_tag_ending x_tag_begins x_tag_ends z0 hq121) wm_X4_readValue wv_X4_149 hX hW [0, 1, 2, 3, 4, 5] rfl rfl rfl rfl rfl ⟨Nat.le_of_ble_eq_true rfl, Nat.le_of_ble_eq_true rfl, rfl, rfl, Nat.zero_le _, Nat.zero_le _⟩ rfl hl.1 [] rfl (Nat.le_of_ble_eq_true rfl) dX4_readAttribute_121 (fun H locs hW => ?_)
    have hW : ms_W G A s H locs [ob_X4 a_this a_source a_tree a_builder a_tag q121.1 x_rawDue, ob_X1 a_source a_source_row x_source_size x_source_overflowed, (a_source_row, .inl (G.2.1 0, 200, .inl x_source_row)), ob_X6 a_tag a_tag_begins a_tag_ends q121.2.1 x_tag_name x_tag_ending, (a_tag_begins, .inl (G.2.1 1, 26, .inl q121.2.2.1)), (a_tag_ends, .inl (G.2.1 1, 26, .inl q121.2.2.2))] := hW
    refine W.eq (g2 := F0 m 124 ls []) rfl ?_
    refine lv_goto (tgt := 143) hx hb dX4_readAttribute_124 (by decide) ?_
    obtain rfl := Option.some.inj h
    exact ms_vret hX hW dX4_readAttribute_143
def f_X4_readAttribute_L15 (x_source_size : Int32) (x_source_row : Nat → Int32) (x_tag_ending : Int32) : Nat → Int32 → Int32 → (Nat → Int32) → (Nat → Int32) → Int32 → Option (Int32 × Int32 × (Nat → Int32) × (Nat → Int32) × Int32)
  | 0, _, _, _, _, _ => none
  | n + 1, x_at, x_tag_had, x_tag_begins, x_tag_ends, v1 => (f_X1_size x_source_size).bind (fun q23 => (if q23 ≤ x_at then some (x_at, x_tag_had, x_tag_begins, x_tag_ends, v1) else (f_X1_at x_source_size x_source_row x_at).bind (fun q37 => (f_X4_isAttributeNameEnd q37).bind (fun q40 => (if q40 = 0 then f_X4_readAttribute_L15 x_source_size x_source_row x_tag_ending n (x_at + 1) x_tag_had x_tag_begins x_tag_ends v1 else some (x_at, x_tag_had, x_tag_begins, x_tag_ends, v1))))))
set_option maxHeartbeats 4000000 in
set_option maxRecDepth 100000 in
theorem wb_X4_readAttribute_L15 {p : Program} {l : Launch} {e : Env} {s : State} {m : MethodId} {args : Array Value} {below : List Frame} {meth : Method} {c : Code} {G : Gc} {A : Nat → Prop} {a_this : Nat} {a_source : Nat} {a_tree : Nat} {a_builder : Nat} {a_tag : Nat} {a_source_row : Nat} {a_tag_begins : Nat} {a_tag_ends : Nat} {x_rawDue : Int32} {x_source_size : Int32} {x_source_overflowed : Int32} {x_source_row : Nat → Int32} {x_tag_name : Int32} {x_tag_ending : Int32}  {Q : State → Prop} {o : Int32 × Int32 × (Nat → Int32) × (Nat → Int32) × Int32} (hX : ms_CX p s m args meth c cX4_readAttribute 3 RX4 none G A) (hq : ∀ (H : Heap) (locs : List Loc) (ls : Array Slot), ms_W G A s H locs [ob_X4 a_this a_source a_tree a_builder a_tag o.1 x_rawDue, ob_X1 a_source a_source_row x_source_size x_source_overflowed, (a_source_row, .inl (G.2.1 0, 200, .inl x_source_row)), ob_X6 a_tag a_tag_begins a_tag_ends o.2.1 x_tag_name x_tag_ending, (a_tag_begins, .inl (G.2.1 1, 26, .inl o.2.2.1)), (a_tag_ends, .inl (G.2.1 1, 26, .inl o.2.2.2.1))] → lv_has ls 3 [(0, .ref a_this), (1, .int o.2.2.2.2)] → W p l e rm_X4_readAttribute s m args below meth c H locs 0 0 Q (F0 m 59 ls [])) : ∀ (n : Nat) (x_at : Int32) (x_tag_had : Int32) (x_tag_begins : Nat → Int32) (x_tag_ends : Nat → Int32) (v1 : Int32) (H : Heap) (locs : List Loc) (ls : Array Slot), f_X4_readAttribute_L15 x_source_size x_source_row x_tag_ending n x_at x_tag_had x_tag_begins x_tag_ends v1 = some o → ms_W G A s H locs [ob_X4 a_this a_source a_tree a_builder a_tag x_at x_rawDue, ob_X1 a_source a_source_row x_source_size x_source_overflowed, (a_source_row, .inl (G.2.1 0, 200, .inl x_source_row)), ob_X6 a_tag a_tag_begins a_tag_ends x_tag_had x_tag_name x_tag_ending, (a_tag_begins, .inl (G.2.1 1, 26, .inl x_tag_begins)), (a_tag_ends, .inl (G.2.1 1, 26, .inl x_tag_ends))] → lv_has ls 3 [(0, .ref a_this), (1, .int v1)] → W p l e rm_X4_readAttribute s m args below meth c H locs 0 0 Q (F0 m 15 ls []) := by
  have hx := hX.1.1
  have hb := hX.1.2.1
  intro n
  induction n with
  | zero => intro x_at x_tag_had x_tag_begins x_tag_ends v1 H locs ls h; rw [f_X4_readAttribute_L15] at h; cases h
  | succ n ih =>
    intro x_at x_tag_had x_tag_begins x_tag_ends v1 H locs ls h hW hl
    rw [f_X4_readAttribute_L15] at h
    refine lv_aload_n hx hb dX4_readAttribute_15 rfl (lv_at hl 0 rfl) ?_
    refine ms_get ff_X4_35 hX hW 0 rfl rfl dX4_readAttribute_16 ?_
    refine lv_aload_n hx hb dX4_readAttribute_19 rfl (lv_at hl 0 rfl) ?_
    refine ms_get ff_X4_9 hX hW 0 rfl rfl dX4_readAttribute_20 ?_
    obtain ⟨q23, hq23, h⟩ := ms_bd h
    refine ms_callV (fn_X1_size l G a_source a_source_row x_source_size x_source_overflowed hq23) wm_X1_size wv_X4_46 hX hW [1] rfl rfl rfl rfl rfl ⟨Nat.le_of_ble_eq_true rfl, Nat.le_of_ble_eq_true rfl, rfl, rfl, Nat.zero_le _, Nat.zero_le _⟩ rfl hl.1 [.int x_at] rfl (Nat.le_of_ble_eq_true rfl) dX4_readAttribute_23 (fun H locs hW => ?_)
    have hW : ms_W G A s H locs [ob_X4 a_this a_source a_tree a_builder a_tag x_at x_rawDue, ob_X1 a_source a_source_row x_source_size x_source_overflowed, (a_source_row, .inl (G.2.1 0, 200, .inl x_source_row)), ob_X6 a_tag a_tag_begins a_tag_ends x_tag_had x_tag_name x_tag_ending, (a_tag_begins, .inl (G.2.1 1, 26, .inl x_tag_begins)), (a_tag_ends, .inl (G.2.1 1, 26, .inl x_tag_ends))] := hW
    refine W.eq (g2 := F0 m 26 ls [.int q23, .int x_at]) rfl ?_
    refine lv_icmp_ge (tgt := 59) hx hb dX4_readAttribute_26 (by decide) (fun k => ?_) (fun k => ?_)
    · have h := ms_ifp h k
      obtain rfl := Option.some.inj h
      exact hq _ _ _ hW (lv_sub hl [0, 1] rfl)
    · have h := ms_ifn h k
      refine lv_aload_n hx hb dX4_readAttribute_29 rfl (lv_at hl 0 rfl) ?_
      refine ms_get ff_X4_9 hX hW 0 rfl rfl dX4_readAttribute_30 ?_
      refine lv_aload_n hx hb dX4_readAttribute_33 rfl (lv_at hl 0 rfl) ?_
      refine ms_get ff_X4_35 hX hW 0 rfl rfl dX4_readAttribute_34 ?_
      obtain ⟨q37, hq37, h⟩ := ms_bd h
      refine ms_callV (fn_X1_at l G a_source a_source_row x_source_size x_source_overflowed x_source_row x_at hq37) wm_X1_at wv_X4_86 hX hW [1, 2] rfl rfl rfl rfl rfl ⟨Nat.le_of_ble_eq_true rfl, Nat.le_of_ble_eq_true rfl, rfl, rfl, Nat.zero_le _, Nat.zero_le _⟩ rfl hl.1 [] rfl (Nat.le_of_ble_eq_true rfl) dX4_readAttribute_37 (fun H locs hW => ?_)
      have hW : ms_W G A s H locs [ob_X4 a_this a_source a_tree a_builder a_tag x_at x_rawDue, ob_X1 a_source a_source_row x_source_size x_source_overflowed, (a_source_row, .inl (G.2.1 0, 200, .inl x_source_row)), ob_X6 a_tag a_tag_begins a_tag_ends x_tag_had x_tag_name x_tag_ending, (a_tag_begins, .inl (G.2.1 1, 26, .inl x_tag_begins)), (a_tag_ends, .inl (G.2.1 1, 26, .inl x_tag_ends))] := hW
      refine W.eq (g2 := F0 m 40 ls [.int q37]) rfl ?_
      obtain ⟨q40, hq40, h⟩ := ms_bd h
      refine ms_callS (fn_X4_isAttributeNameEnd l G q37 hq40) wm_X4_isAttributeNameEnd wz_X4_143 hX hW [] rfl rfl rfl ⟨Nat.le_of_ble_eq_true rfl, Nat.le_of_ble_eq_true rfl, rfl, rfl, Nat.zero_le _, Nat.zero_le _⟩ rfl hl.1 [] rfl (Nat.le_of_ble_eq_true rfl) dX4_readAttribute_40 (fun H locs hW => ?_)
      have hW : ms_W G A s H locs [ob_X4 a_this a_source a_tree a_builder a_tag x_at x_rawDue, ob_X1 a_source a_source_row x_source_size x_source_overflowed, (a_source_row, .inl (G.2.1 0, 200, .inl x_source_row)), ob_X6 a_tag a_tag_begins a_tag_ends x_tag_had x_tag_name x_tag_ending, (a_tag_begins, .inl (G.2.1 1, 26, .inl x_tag_begins)), (a_tag_ends, .inl (G.2.1 1, 26, .inl x_tag_ends))] := hW
      refine W.eq (g2 := F0 m 43 ls [.int q40]) rfl ?_
      refine lv_if_ne (tgt := 59) hx hb dX4_readAttribute_43 (by decide) (fun k => ?_) (fun k => ?_)
      · have h := ms_ifn h k
        obtain rfl := Option.some.inj h
        exact hq _ _ _ hW (lv_sub hl [0, 1] rfl)
      · have h := ms_ifp h k
        refine lv_aload_n hx hb dX4_readAttribute_46 rfl (lv_at hl 0 rfl) ?_
        refine lv_dup hx hb dX4_readAttribute_47 rfl ?_
        refine ms_get ff_X4_35 hX hW 0 rfl rfl dX4_readAttribute_48 ?_
        refine lv_iconst (v := 1) hx hb dX4_readAttribute_51 (by decide) ?_
        refine lv_iadd hx hb dX4_readAttribute_52 ?_
        refine ms_put ff_X4_35 fp_X4_4 rfl hX hW 0 rfl rfl rfl (Nat.le_of_ble_eq_true rfl) dX4_readAttribute_53 (fun H locs hW => ?_)
        have hW : ms_W G A s H locs [ob_X4 a_this a_source a_tree a_builder a_tag (x_at + 1) x_rawDue, ob_X1 a_source a_source_row x_source_size x_source_overflowed, (a_source_row, .inl (G.2.1 0, 200, .inl x_source_row)), ob_X6 a_tag a_tag_begins a_tag_ends x_tag_had x_tag_name x_tag_ending, (a_tag_begins, .inl (G.2.1 1, 26, .inl x_tag_begins)), (a_tag_ends, .inl (G.2.1 1, 26, .inl x_tag_ends))] := hW
        refine lv_goto (tgt := 15) hx hb dX4_readAttribute_56 (by decide) ?_
        exact ih _ _ _ _ _ _ _ _ h hW (lv_sub hl [0, 1] rfl)
def f_X4_readAttribute (x_at : Int32) (x_source_size : Int32) (x_source_row : Nat → Int32) (x_tag_had : Int32) (x_tag_ending : Int32) (x_tag_begins : Nat → Int32) (x_tag_ends : Nat → Int32)  : Option (Int32 × Int32 × (Nat → Int32) × (Nat → Int32)) := (f_X4_readAttribute_L15 x_source_size x_source_row x_tag_ending 1000 (x_at + 1) x_tag_had x_tag_begins x_tag_ends x_at).bind (fun w15 => (if (w15.1 - w15.2.2.2.2) = 1 then (f_X1_at x_source_size x_source_row w15.2.2.2.2).bind (fun q74 => (f_X9_letterNumber q74).bind (fun q77 => f_X4_readAttribute_L84 x_source_size x_source_row x_tag_ending w15.1 w15.2.1 w15.2.2.1 w15.2.2.2.1 q77)) else f_X4_readAttribute_L84 x_source_size x_source_row x_tag_ending w15.1 w15.2.1 w15.2.2.1 w15.2.2.2.1 (-1)))
set_option maxHeartbeats 4000000 in
set_option maxRecDepth 100000 in
theorem fn_X4_readAttribute (l : Launch) (G : Gc) (a_this : Nat) (a_source : Nat) (a_tree : Nat) (a_builder : Nat) (a_tag : Nat) (a_source_row : Nat) (a_tag_begins : Nat) (a_tag_ends : Nat) (x_at : Int32) (x_rawDue : Int32) (x_source_size : Int32) (x_source_overflowed : Int32) (x_source_row : Nat → Int32) (x_tag_had : Int32) (x_tag_name : Int32) (x_tag_ending : Int32) (x_tag_begins : Nat → Int32) (x_tag_ends : Nat → Int32)   {o : Int32 × Int32 × (Nat → Int32) × (Nat → Int32)} (h : f_X4_readAttribute x_at x_source_size x_source_row x_tag_had x_tag_ending x_tag_begins x_tag_ends = some o) : ms_Fn l G yX4_readAttribute cX4_readAttribute 3 none rm_X4_readAttribute [.ref a_this] [ob_X4 a_this a_source a_tree a_builder a_tag x_at x_rawDue, ob_X1 a_source a_source_row x_source_size x_source_overflowed, (a_source_row, .inl (G.2.1 0, 200, .inl x_source_row)), ob_X6 a_tag a_tag_begins a_tag_ends x_tag_had x_tag_name x_tag_ending, (a_tag_begins, .inl (G.2.1 1, 26, .inl x_tag_begins)), (a_tag_ends, .inl (G.2.1 1, 26, .inl x_tag_ends))] [ob_X4 a_this a_source a_tree a_builder a_tag o.1 x_rawDue, ob_X1 a_source a_source_row x_source_size x_source_overflowed, (a_source_row, .inl (G.2.1 0, 200, .inl x_source_row)), ob_X6 a_tag a_tag_begins a_tag_ends o.2.1 x_tag_name x_tag_ending, (a_tag_begins, .inl (G.2.1 1, 26, .inl o.2.2.1)), (a_tag_ends, .inl (G.2.1 1, 26, .inl o.2.2.2))] none := by
  refine ms_start RX4 (by decide +kernel) rfl (Nat.le_of_ble_eq_true rfl) (fun p e s m below meth c A ls hX hW hl => ?_)
  have hx := hX.1.1
  have hb := hX.1.2.1
  have hl : lv_has ls 3 [(0, .ref a_this)] := hl
  unfold f_X4_readAttribute at h
  refine lv_aload_n hx hb dX4_readAttribute_0 rfl (lv_at hl 0 rfl) ?_
  refine ms_get ff_X4_35 hX hW 0 rfl rfl dX4_readAttribute_1 ?_
  refine lv_istore_n (lv' := [(1, .int x_at), (0, .ref a_this)]) hx hb dX4_readAttribute_4 rfl hl (by decide) rfl (fun ls hl => ?_)
  refine lv_aload_n hx hb dX4_readAttribute_5 rfl (lv_at hl 1 rfl) ?_
  refine lv_dup hx hb dX4_readAttribute_6 rfl ?_
  refine ms_get ff_X4_35 hX hW 0 rfl rfl dX4_readAttribute_7 ?_
  refine lv_iconst (v := 1) hx hb dX4_readAttribute_10 (by decide) ?_
  refine lv_iadd hx hb dX4_readAttribute_11 ?_
  refine ms_put ff_X4_35 fp_X4_4 rfl hX hW 0 rfl rfl rfl (Nat.le_of_ble_eq_true rfl) dX4_readAttribute_12 (fun H locs hW => ?_)
  have hW : ms_W G A s H locs [ob_X4 a_this a_source a_tree a_builder a_tag (x_at + 1) x_rawDue, ob_X1 a_source a_source_row x_source_size x_source_overflowed, (a_source_row, .inl (G.2.1 0, 200, .inl x_source_row)), ob_X6 a_tag a_tag_begins a_tag_ends x_tag_had x_tag_name x_tag_ending, (a_tag_begins, .inl (G.2.1 1, 26, .inl x_tag_begins)), (a_tag_ends, .inl (G.2.1 1, 26, .inl x_tag_ends))] := hW
  obtain ⟨w15, hqw15, h⟩ := ms_bd h
  refine wb_X4_readAttribute_L15 hX (o := w15) (fun H locs ls hW hl => ?_) _ _ _ _ _ _ _ _ _ hqw15 hW (lv_sub hl [1, 0] rfl)
  refine lv_aload_n hx hb dX4_readAttribute_59 rfl (lv_at hl 0 rfl) ?_
  refine ms_get ff_X4_35 hX hW 0 rfl rfl dX4_readAttribute_60 ?_
  refine lv_iload_n hx hb dX4_readAttribute_63 rfl (lv_at hl 1 rfl) ?_
  refine lv_isub hx hb dX4_readAttribute_64 ?_
  refine lv_iconst (v := 1) hx hb dX4_readAttribute_65 (by decide) ?_
  refine lv_icmp_ne (tgt := 83) hx hb dX4_readAttribute_66 (by decide) (fun k => ?_) (fun k => ?_)
  · have h := ms_ifn h k
    refine lv_iconst (v := (-1)) hx hb dX4_readAttribute_83 (by decide) ?_
    exact wb_X4_readAttribute_L84 hX h hW (lv_sub hl [0] rfl)
  · have h := ms_ifp h k
    refine lv_aload_n hx hb dX4_readAttribute_69 rfl (lv_at hl 0 rfl) ?_
    refine ms_get ff_X4_9 hX hW 0 rfl rfl dX4_readAttribute_70 ?_
    refine lv_iload_n hx hb dX4_readAttribute_73 rfl (lv_at hl 1 rfl) ?_
    obtain ⟨q74, hq74, h⟩ := ms_bd h
    refine ms_callV (fn_X1_at l G a_source a_source_row x_source_size x_source_overflowed x_source_row w15.2.2.2.2 hq74) wm_X1_at wv_X4_86 hX hW [1, 2] rfl rfl rfl rfl rfl ⟨Nat.le_of_ble_eq_true rfl, Nat.le_of_ble_eq_true rfl, rfl, rfl, Nat.zero_le _, Nat.zero_le _⟩ rfl hl.1 [] rfl (Nat.le_of_ble_eq_true rfl) dX4_readAttribute_74 (fun H locs hW => ?_)
    have hW : ms_W G A s H locs [ob_X4 a_this a_source a_tree a_builder a_tag w15.1 x_rawDue, ob_X1 a_source a_source_row x_source_size x_source_overflowed, (a_source_row, .inl (G.2.1 0, 200, .inl x_source_row)), ob_X6 a_tag a_tag_begins a_tag_ends w15.2.1 x_tag_name x_tag_ending, (a_tag_begins, .inl (G.2.1 1, 26, .inl w15.2.2.1)), (a_tag_ends, .inl (G.2.1 1, 26, .inl w15.2.2.2.1))] := hW
    refine W.eq (g2 := F0 m 77 ls [.int q74]) rfl ?_
    obtain ⟨q77, hq77, h⟩ := ms_bd h
    refine ms_callN (host := RX9) (fn_X9_letterNumber l G q74 hq77) wm_X9_letterNumber (List.mem_of_getElem? (i := 4) rfl) wt_X9_letterNumber hX hW [] rfl rfl rfl ⟨Nat.le_of_ble_eq_true rfl, Nat.le_of_ble_eq_true rfl, rfl, rfl, Nat.zero_le _, Nat.zero_le _⟩ rfl hl.1 [] rfl (Nat.le_of_ble_eq_true rfl) dX4_readAttribute_77 (fun H locs hW => ?_)
    have hW : ms_W G A s H locs [ob_X4 a_this a_source a_tree a_builder a_tag w15.1 x_rawDue, ob_X1 a_source a_source_row x_source_size x_source_overflowed, (a_source_row, .inl (G.2.1 0, 200, .inl x_source_row)), ob_X6 a_tag a_tag_begins a_tag_ends w15.2.1 x_tag_name x_tag_ending, (a_tag_begins, .inl (G.2.1 1, 26, .inl w15.2.2.1)), (a_tag_ends, .inl (G.2.1 1, 26, .inl w15.2.2.2.1))] := hW
    refine W.eq (g2 := F0 m 80 ls [.int q77]) rfl ?_
    refine lv_goto (tgt := 84) hx hb dX4_readAttribute_80 (by decide) ?_
    exact wb_X4_readAttribute_L84 hX h hW (lv_sub hl [0] rfl)
def rm_X4_readTag : Room := { frames := 5, cells := 0, slots := 0, locals := 110 }
def f_X4_readTag_L136 (x_source_size : Int32) (x_source_row : Nat → Int32) (kk : Int32 → Int32 → Int32 → Int32 → (Nat → Int32) → (Nat → Int32) → Int32 → Option (Int32 × Int32 × Int32 × Int32 × (Nat → Int32) × (Nat → Int32) × Int32)) (x_at : Int32) (x_tag_had : Int32) (x_tag_name : Int32) (x_tag_ending : Int32) (x_tag_begins : Nat → Int32) (x_tag_ends : Nat → Int32) (v2 : Int32) : Option (Int32 × Int32 × Int32 × Int32 × (Nat → Int32) × (Nat → Int32) × Int32) := kk x_at x_tag_had x_tag_name x_tag_ending x_tag_begins x_tag_ends (v2 + 1)
set_option maxHeartbeats 4000000 in
set_option maxRecDepth 100000 in
theorem wb_X4_readTag_L136 {p : Program} {l : Launch} {e : Env} {s : State} {m : MethodId} {args : Array Value} {below : List Frame} {meth : Method} {c : Code} {G : Gc} {A : Nat → Prop} {H : Heap} {locs : List Loc} {ls : Array Slot} {a_this : Nat} {a_source : Nat} {a_tree : Nat} {a_builder : Nat} {a_tag : Nat} {a_source_row : Nat} {a_tag_begins : Nat} {a_tag_ends : Nat} {x_rawDue : Int32} {x_source_size : Int32} {x_source_overflowed : Int32} {x_source_row : Nat → Int32}  {kk : Int32 → Int32 → Int32 → Int32 → (Nat → Int32) → (Nat → Int32) → Int32 → Option (Int32 × Int32 × Int32 × Int32 × (Nat → Int32) × (Nat → Int32) × Int32)} {x_at : Int32} {x_tag_had : Int32} {x_tag_name : Int32} {x_tag_ending : Int32} {x_tag_begins : Nat → Int32} {x_tag_ends : Nat → Int32} {v2 : Int32} {o : Int32 × Int32 × Int32 × Int32 × (Nat → Int32) × (Nat → Int32) × Int32} (hX : ms_CX p s m args meth c cX4_readTag 4 RX4 (some .boolean) G A)  (ih : ∀ (x_at : Int32) (x_tag_had : Int32) (x_tag_name : Int32) (x_tag_ending : Int32) (x_tag_begins : Nat → Int32) (x_tag_ends : Nat → Int32) (v2 : Int32) (H : Heap) (locs : List Loc) (ls : Array Slot), kk x_at x_tag_had x_tag_name x_tag_ending x_tag_begins x_tag_ends v2 = some o → ms_W G A s H locs [ob_X4 a_this a_source a_tree a_builder a_tag x_at x_rawDue, ob_X1 a_source a_source_row x_source_size x_source_overflowed, (a_source_row, .inl (G.2.1 0, 200, .inl x_source_row)), ob_X6 a_tag a_tag_begins a_tag_ends x_tag_had x_tag_name x_tag_ending, (a_tag_begins, .inl (G.2.1 1, 26, .inl x_tag_begins)), (a_tag_ends, .inl (G.2.1 1, 26, .inl x_tag_ends))] → lv_has ls 4 [(0, .ref a_this), (2, .int v2)] → W p l e rm_X4_readTag s m args below meth c H locs 0 0 (ms_Q G A below args s [ob_X4 a_this a_source a_tree a_builder a_tag o.1 x_rawDue, ob_X1 a_source a_source_row x_source_size x_source_overflowed, (a_source_row, .inl (G.2.1 0, 200, .inl x_source_row)), ob_X6 a_tag a_tag_begins a_tag_ends o.2.1 o.2.2.1 o.2.2.2.1, (a_tag_begins, .inl (G.2.1 1, 26, .inl o.2.2.2.2.1)), (a_tag_ends, .inl (G.2.1 1, 26, .inl o.2.2.2.2.2.1))] (some (.int o.2.2.2.2.2.2))) (F0 m 56 ls [])) (h : f_X4_readTag_L136 x_source_size x_source_row kk x_at x_tag_had x_tag_name x_tag_ending x_tag_begins x_tag_ends v2 = some o) (hW : ms_W G A s H locs [ob_X4 a_this a_source a_tree a_builder a_tag x_at x_rawDue, ob_X1 a_source a_source_row x_source_size x_source_overflowed, (a_source_row, .inl (G.2.1 0, 200, .inl x_source_row)), ob_X6 a_tag a_tag_begins a_tag_ends x_tag_had x_tag_name x_tag_ending, (a_tag_begins, .inl (G.2.1 1, 26, .inl x_tag_begins)), (a_tag_ends, .inl (G.2.1 1, 26, .inl x_tag_ends))]) (hl : lv_has ls 4 [(0, .ref a_this), (2, .int v2)]) : W p l e rm_X4_readTag s m args below meth c H locs 0 0 (ms_Q G A below args s [ob_X4 a_this a_source a_tree a_builder a_tag o.1 x_rawDue, ob_X1 a_source a_source_row x_source_size x_source_overflowed, (a_source_row, .inl (G.2.1 0, 200, .inl x_source_row)), ob_X6 a_tag a_tag_begins a_tag_ends o.2.1 o.2.2.1 o.2.2.2.1, (a_tag_begins, .inl (G.2.1 1, 26, .inl o.2.2.2.2.1)), (a_tag_ends, .inl (G.2.1 1, 26, .inl o.2.2.2.2.2.1))] (some (.int o.2.2.2.2.2.2))) (F0 m 136 ls []) := by
  have hx := hX.1.1
  have hb := hX.1.2.1
  unfold f_X4_readTag_L136 at h
  refine lv_iinc (v := v2 + 1) (lv' := [(2, .int (v2 + 1)), (0, .ref a_this)]) hx hb dX4_readTag_136 hl (k := 1) rfl rfl (by decide) rfl (fun ls hl => ?_)
  refine lv_goto (tgt := 56) hx hb dX4_readTag_139 (by decide) ?_
  exact ih _ _ _ _ _ _ _ _ _ _ h hW (lv_sub hl [1, 0] rfl)
def f_X4_readTag_L119 (x_source_size : Int32) (x_source_row : Nat → Int32) (kk : Int32 → Int32 → Int32 → Int32 → (Nat → Int32) → (Nat → Int32) → Int32 → Option (Int32 × Int32 × Int32 × Int32 × (Nat → Int32) × (Nat → Int32) × Int32)) (x_at : Int32) (x_tag_had : Int32) (x_tag_name : Int32) (x_tag_ending : Int32) (x_tag_begins : Nat → Int32) (x_tag_ends : Nat → Int32) (v2 : Int32) : Option (Int32 × Int32 × Int32 × Int32 × (Nat → Int32) × (Nat → Int32) × Int32) := f_X4_readTag_L136 x_source_size x_source_row (kk) (x_at + 1) x_tag_had x_tag_name x_tag_ending x_tag_begins x_tag_ends v2
set_option maxHeartbeats 4000000 in
set_option maxRecDepth 100000 in
theorem wb_X4_readTag_L119 {p : Program} {l : Launch} {e : Env} {s : State} {m : MethodId} {args : Array Value} {below : List Frame} {meth : Method} {c : Code} {G : Gc} {A : Nat → Prop} {H : Heap} {locs : List Loc} {ls : Array Slot} {a_this : Nat} {a_source : Nat} {a_tree : Nat} {a_builder : Nat} {a_tag : Nat} {a_source_row : Nat} {a_tag_begins : Nat} {a_tag_ends : Nat} {x_rawDue : Int32} {x_source_size : Int32} {x_source_overflowed : Int32} {x_source_row : Nat → Int32}  {kk : Int32 → Int32 → Int32 → Int32 → (Nat → Int32) → (Nat → Int32) → Int32 → Option (Int32 × Int32 × Int32 × Int32 × (Nat → Int32) × (Nat → Int32) × Int32)} {x_at : Int32} {x_tag_had : Int32} {x_tag_name : Int32} {x_tag_ending : Int32} {x_tag_begins : Nat → Int32} {x_tag_ends : Nat → Int32} {v2 : Int32} {o : Int32 × Int32 × Int32 × Int32 × (Nat → Int32) × (Nat → Int32) × Int32} (hX : ms_CX p s m args meth c cX4_readTag 4 RX4 (some .boolean) G A)  (ih : ∀ (x_at : Int32) (x_tag_had : Int32) (x_tag_name : Int32) (x_tag_ending : Int32) (x_tag_begins : Nat → Int32) (x_tag_ends : Nat → Int32) (v2 : Int32) (H : Heap) (locs : List Loc) (ls : Array Slot), kk x_at x_tag_had x_tag_name x_tag_ending x_tag_begins x_tag_ends v2 = some o → ms_W G A s H locs [ob_X4 a_this a_source a_tree a_builder a_tag x_at x_rawDue, ob_X1 a_source a_source_row x_source_size x_source_overflowed, (a_source_row, .inl (G.2.1 0, 200, .inl x_source_row)), ob_X6 a_tag a_tag_begins a_tag_ends x_tag_had x_tag_name x_tag_ending, (a_tag_begins, .inl (G.2.1 1, 26, .inl x_tag_begins)), (a_tag_ends, .inl (G.2.1 1, 26, .inl x_tag_ends))] → lv_has ls 4 [(0, .ref a_this), (2, .int v2)] → W p l e rm_X4_readTag s m args below meth c H locs 0 0 (ms_Q G A below args s [ob_X4 a_this a_source a_tree a_builder a_tag o.1 x_rawDue, ob_X1 a_source a_source_row x_source_size x_source_overflowed, (a_source_row, .inl (G.2.1 0, 200, .inl x_source_row)), ob_X6 a_tag a_tag_begins a_tag_ends o.2.1 o.2.2.1 o.2.2.2.1, (a_tag_begins, .inl (G.2.1 1, 26, .inl o.2.2.2.2.1)), (a_tag_ends, .inl (G.2.1 1, 26, .inl o.2.2.2.2.2.1))] (some (.int o.2.2.2.2.2.2))) (F0 m 56 ls [])) (h : f_X4_readTag_L119 x_source_size x_source_row kk x_at x_tag_had x_tag_name x_tag_ending x_tag_begins x_tag_ends v2 = some o) (hW : ms_W G A s H locs [ob_X4 a_this a_source a_tree a_builder a_tag x_at x_rawDue, ob_X1 a_source a_source_row x_source_size x_source_overflowed, (a_source_row, .inl (G.2.1 0, 200, .inl x_source_row)), ob_X6 a_tag a_tag_begins a_tag_ends x_tag_had x_tag_name x_tag_ending, (a_tag_begins, .inl (G.2.1 1, 26, .inl x_tag_begins)), (a_tag_ends, .inl (G.2.1 1, 26, .inl x_tag_ends))]) (hl : lv_has ls 4 [(0, .ref a_this), (2, .int v2)]) : W p l e rm_X4_readTag s m args below meth c H locs 0 0 (ms_Q G A below args s [ob_X4 a_this a_source a_tree a_builder a_tag o.1 x_rawDue, ob_X1 a_source a_source_row x_source_size x_source_overflowed, (a_source_row, .inl (G.2.1 0, 200, .inl x_source_row)), ob_X6 a_tag a_tag_begins a_tag_ends o.2.1 o.2.2.1 o.2.2.2.1, (a_tag_begins, .inl (G.2.1 1, 26, .inl o.2.2.2.2.1)), (a_tag_ends, .inl (G.2.1 1, 26, .inl o.2.2.2.2.2.1))] (some (.int o.2.2.2.2.2.2))) (F0 m 119 ls []) := by
  have hx := hX.1.1
  have hb := hX.1.2.1
  unfold f_X4_readTag_L119 at h
  refine lv_aload_n hx hb dX4_readTag_119 rfl (lv_at hl 0 rfl) ?_
  refine lv_dup hx hb dX4_readTag_120 rfl ?_
  refine ms_get ff_X4_35 hX hW 0 rfl rfl dX4_readTag_121 ?_
  refine lv_iconst (v := 1) hx hb dX4_readTag_124 (by decide) ?_
  refine lv_iadd hx hb dX4_readTag_125 ?_
  refine ms_put ff_X4_35 fp_X4_4 rfl hX hW 0 rfl rfl rfl (Nat.le_of_ble_eq_true rfl) dX4_readTag_126 (fun H locs hW => ?_)
  have hW : ms_W G A s H locs [ob_X4 a_this a_source a_tree a_builder a_tag (x_at + 1) x_rawDue, ob_X1 a_source a_source_row x_source_size x_source_overflowed, (a_source_row, .inl (G.2.1 0, 200, .inl x_source_row)), ob_X6 a_tag a_tag_begins a_tag_ends x_tag_had x_tag_name x_tag_ending, (a_tag_begins, .inl (G.2.1 1, 26, .inl x_tag_begins)), (a_tag_ends, .inl (G.2.1 1, 26, .inl x_tag_ends))] := hW
  refine lv_goto (tgt := 136) hx hb dX4_readTag_129 (by decide) ?_
  exact wb_X4_readTag_L136 hX (ih) h hW (lv_sub hl [0, 1] rfl)
def f_X4_readTag_L56 (x_source_size : Int32) (x_source_row : Nat → Int32) : Nat → Int32 → Int32 → Int32 → Int32 → (Nat → Int32) → (Nat → Int32) → Int32 → Option (Int32 × Int32 × Int32 × Int32 × (Nat → Int32) × (Nat → Int32) × Int32)
  | 0, _, _, _, _, _, _, _ => none
  | n + 1, x_at, x_tag_had, x_tag_name, x_tag_ending, x_tag_begins, x_tag_ends, v2 => (if 200 ≤ v2 then some (x_at, x_tag_had, x_tag_name, x_tag_ending, x_tag_begins, x_tag_ends, 0) else (f_X1_size x_source_size).bind (fun q71 => (if q71 ≤ x_at then some (x_at, x_tag_had, x_tag_name, x_tag_ending, x_tag_begins, x_tag_ends, 0) else (f_X1_at x_source_size x_source_row x_at).bind (fun q85 => (if q85 = 62 then some (x_at + 1, x_tag_had, x_tag_name, x_tag_ending, x_tag_begins, x_tag_ends, 1) else (if q85 = 32 then f_X4_readTag_L119 x_source_size x_source_row (f_X4_readTag_L56 x_source_size x_source_row n) x_at x_tag_had x_tag_name x_tag_ending x_tag_begins x_tag_ends v2 else (if q85 = 47 then f_X4_readTag_L119 x_source_size x_source_row (f_X4_readTag_L56 x_source_size x_source_row n) x_at x_tag_had x_tag_name x_tag_ending x_tag_begins x_tag_ends v2 else (f_X4_readAttribute x_at x_source_size x_source_row x_tag_had x_tag_ending x_tag_begins x_tag_ends).bind (fun q133 => f_X4_readTag_L136 x_source_size x_source_row (f_X4_readTag_L56 x_source_size x_source_row n) q133.1 q133.2.1 x_tag_name x_tag_ending q133.2.2.1 q133.2.2.2 v2))))))))
set_option maxHeartbeats 4000000 in
set_option maxRecDepth 100000 in
theorem wb_X4_readTag_L56 {p : Program} {l : Launch} {e : Env} {s : State} {m : MethodId} {args : Array Value} {below : List Frame} {meth : Method} {c : Code} {G : Gc} {A : Nat → Prop} {a_this : Nat} {a_source : Nat} {a_tree : Nat} {a_builder : Nat} {a_tag : Nat} {a_source_row : Nat} {a_tag_begins : Nat} {a_tag_ends : Nat} {x_rawDue : Int32} {x_source_size : Int32} {x_source_overflowed : Int32} {x_source_row : Nat → Int32}  {o : Int32 × Int32 × Int32 × Int32 × (Nat → Int32) × (Nat → Int32) × Int32} (hX : ms_CX p s m args meth c cX4_readTag 4 RX4 (some .boolean) G A)  : ∀ (n : Nat) (x_at : Int32) (x_tag_had : Int32) (x_tag_name : Int32) (x_tag_ending : Int32) (x_tag_begins : Nat → Int32) (x_tag_ends : Nat → Int32) (v2 : Int32) (H : Heap) (locs : List Loc) (ls : Array Slot), f_X4_readTag_L56 x_source_size x_source_row n x_at x_tag_had x_tag_name x_tag_ending x_tag_begins x_tag_ends v2 = some o → ms_W G A s H locs [ob_X4 a_this a_source a_tree a_builder a_tag x_at x_rawDue, ob_X1 a_source a_source_row x_source_size x_source_overflowed, (a_source_row, .inl (G.2.1 0, 200, .inl x_source_row)), ob_X6 a_tag a_tag_begins a_tag_ends x_tag_had x_tag_name x_tag_ending, (a_tag_begins, .inl (G.2.1 1, 26, .inl x_tag_begins)), (a_tag_ends, .inl (G.2.1 1, 26, .inl x_tag_ends))] → lv_has ls 4 [(0, .ref a_this), (2, .int v2)] → W p l e rm_X4_readTag s m args below meth c H locs 0 0 (ms_Q G A below args s [ob_X4 a_this a_source a_tree a_builder a_tag o.1 x_rawDue, ob_X1 a_source a_source_row x_source_size x_source_overflowed, (a_source_row, .inl (G.2.1 0, 200, .inl x_source_row)), ob_X6 a_tag a_tag_begins a_tag_ends o.2.1 o.2.2.1 o.2.2.2.1, (a_tag_begins, .inl (G.2.1 1, 26, .inl o.2.2.2.2.1)), (a_tag_ends, .inl (G.2.1 1, 26, .inl o.2.2.2.2.2.1))] (some (.int o.2.2.2.2.2.2))) (F0 m 56 ls []) := by
  have hx := hX.1.1
  have hb := hX.1.2.1
  intro n
  induction n with
  | zero => intro x_at x_tag_had x_tag_name x_tag_ending x_tag_begins x_tag_ends v2 H locs ls h; rw [f_X4_readTag_L56] at h; cases h
  | succ n ih =>
    intro x_at x_tag_had x_tag_name x_tag_ending x_tag_begins x_tag_ends v2 H locs ls h hW hl
    rw [f_X4_readTag_L56] at h
    refine lv_iload_n hx hb dX4_readTag_56 rfl (lv_at hl 1 rfl) ?_
    refine lv_sipush (v := 200) hx hb dX4_readTag_57 (by decide) ?_
    refine lv_icmp_ge (tgt := 142) hx hb dX4_readTag_60 (by decide) (fun k => ?_) (fun k => ?_)
    · have h := ms_ifp h k
      refine lv_iconst (v := 0) hx hb dX4_readTag_142 (by decide) ?_
      obtain rfl := Option.some.inj h
      exact ms_zret hX (ms_nz (Or.inl rfl)) hW dX4_readTag_143
    · have h := ms_ifn h k
      refine lv_aload_n hx hb dX4_readTag_63 rfl (lv_at hl 0 rfl) ?_
      refine ms_get ff_X4_35 hX hW 0 rfl rfl dX4_readTag_64 ?_
      refine lv_aload_n hx hb dX4_readTag_67 rfl (lv_at hl 0 rfl) ?_
      refine ms_get ff_X4_9 hX hW 0 rfl rfl dX4_readTag_68 ?_
      obtain ⟨q71, hq71, h⟩ := ms_bd h
      refine ms_callV (fn_X1_size l G a_source a_source_row x_source_size x_source_overflowed hq71) wm_X1_size wv_X4_46 hX hW [1] rfl rfl rfl rfl rfl ⟨Nat.le_of_ble_eq_true rfl, Nat.le_of_ble_eq_true rfl, rfl, rfl, Nat.zero_le _, Nat.zero_le _⟩ rfl hl.1 [.int x_at] rfl (Nat.le_of_ble_eq_true rfl) dX4_readTag_71 (fun H locs hW => ?_)
      have hW : ms_W G A s H locs [ob_X4 a_this a_source a_tree a_builder a_tag x_at x_rawDue, ob_X1 a_source a_source_row x_source_size x_source_overflowed, (a_source_row, .inl (G.2.1 0, 200, .inl x_source_row)), ob_X6 a_tag a_tag_begins a_tag_ends x_tag_had x_tag_name x_tag_ending, (a_tag_begins, .inl (G.2.1 1, 26, .inl x_tag_begins)), (a_tag_ends, .inl (G.2.1 1, 26, .inl x_tag_ends))] := hW
      refine W.eq (g2 := F0 m 74 ls [.int q71, .int x_at]) rfl ?_
      refine lv_icmp_ge (tgt := 142) hx hb dX4_readTag_74 (by decide) (fun k => ?_) (fun k => ?_)
      · have h := ms_ifp h k
        refine lv_iconst (v := 0) hx hb dX4_readTag_142 (by decide) ?_
        obtain rfl := Option.some.inj h
        exact ms_zret hX (ms_nz (Or.inl rfl)) hW dX4_readTag_143
      · have h := ms_ifn h k
        refine lv_aload_n hx hb dX4_readTag_77 rfl (lv_at hl 0 rfl) ?_
        refine ms_get ff_X4_9 hX hW 0 rfl rfl dX4_readTag_78 ?_
        refine lv_aload_n hx hb dX4_readTag_81 rfl (lv_at hl 0 rfl) ?_
        refine ms_get ff_X4_35 hX hW 0 rfl rfl dX4_readTag_82 ?_
        obtain ⟨q85, hq85, h⟩ := ms_bd h
        refine ms_callV (fn_X1_at l G a_source a_source_row x_source_size x_source_overflowed x_source_row x_at hq85) wm_X1_at wv_X4_86 hX hW [1, 2] rfl rfl rfl rfl rfl ⟨Nat.le_of_ble_eq_true rfl, Nat.le_of_ble_eq_true rfl, rfl, rfl, Nat.zero_le _, Nat.zero_le _⟩ rfl hl.1 [] rfl (Nat.le_of_ble_eq_true rfl) dX4_readTag_85 (fun H locs hW => ?_)
        have hW : ms_W G A s H locs [ob_X4 a_this a_source a_tree a_builder a_tag x_at x_rawDue, ob_X1 a_source a_source_row x_source_size x_source_overflowed, (a_source_row, .inl (G.2.1 0, 200, .inl x_source_row)), ob_X6 a_tag a_tag_begins a_tag_ends x_tag_had x_tag_name x_tag_ending, (a_tag_begins, .inl (G.2.1 1, 26, .inl x_tag_begins)), (a_tag_ends, .inl (G.2.1 1, 26, .inl x_tag_ends))] := hW
        refine W.eq (g2 := F0 m 88 ls [.int q85]) rfl ?_
        refine lv_istore_n (lv' := [(3, .int q85), (0, .ref a_this), (2, .int v2)]) hx hb dX4_readTag_88 rfl hl (by decide) rfl (fun ls hl => ?_)
        refine lv_iload_n hx hb dX4_readTag_89 rfl (lv_at hl 0 rfl) ?_
        refine lv_bipush (v := 62) hx hb dX4_readTag_90 (by decide) ?_
        refine lv_icmp_ne (tgt := 107) hx hb dX4_readTag_92 (by decide) (fun k => ?_) (fun k => ?_)
        · have h := ms_ifn h k
          refine lv_iload_n hx hb dX4_readTag_107 rfl (lv_at hl 0 rfl) ?_
          refine lv_bipush (v := 32) hx hb dX4_readTag_108 (by decide) ?_
          refine lv_icmp_eq (tgt := 119) hx hb dX4_readTag_110 (by decide) (fun k => ?_) (fun k => ?_)
          · have h := ms_ifp h k
            exact wb_X4_readTag_L119 hX (ih) h hW (lv_sub hl [1, 2] rfl)
          · have h := ms_ifn h k
            refine lv_iload_n hx hb dX4_readTag_113 rfl (lv_at hl 0 rfl) ?_
            refine lv_bipush (v := 47) hx hb dX4_readTag_114 (by decide) ?_
            refine lv_icmp_ne (tgt := 132) hx hb dX4_readTag_116 (by decide) (fun k => ?_) (fun k => ?_)
            · have h := ms_ifn h k
              refine lv_aload_n hx hb dX4_readTag_132 rfl (lv_at hl 1 rfl) ?_
              obtain ⟨q133, hq133, h⟩ := ms_bd h
              refine ms_callV (fn_X4_readAttribute l G a_this a_source a_tree a_builder a_tag a_source_row a_tag_begins a_tag_ends x_at x_rawDue x_source_size x_source_overflowed x_source_row x_tag_had x_tag_name x_tag_ending x_tag_begins x_tag_ends hq133) wm_X4_readAttribute wv_X4_136 hX hW [0, 1, 2, 3, 4, 5] rfl rfl rfl rfl rfl ⟨Nat.le_of_ble_eq_true rfl, Nat.le_of_ble_eq_true rfl, rfl, rfl, Nat.zero_le _, Nat.zero_le _⟩ rfl hl.1 [] rfl (Nat.le_of_ble_eq_true rfl) dX4_readTag_133 (fun H locs hW => ?_)
              have hW : ms_W G A s H locs [ob_X4 a_this a_source a_tree a_builder a_tag q133.1 x_rawDue, ob_X1 a_source a_source_row x_source_size x_source_overflowed, (a_source_row, .inl (G.2.1 0, 200, .inl x_source_row)), ob_X6 a_tag a_tag_begins a_tag_ends q133.2.1 x_tag_name x_tag_ending, (a_tag_begins, .inl (G.2.1 1, 26, .inl q133.2.2.1)), (a_tag_ends, .inl (G.2.1 1, 26, .inl q133.2.2.2))] := hW
              refine W.eq (g2 := F0 m 136 ls []) rfl ?_
              exact wb_X4_readTag_L136 hX (ih) h hW (lv_sub hl [1, 2] rfl)
            · have h := ms_ifp h k
              exact wb_X4_readTag_L119 hX (ih) h hW (lv_sub hl [1, 2] rfl)
        · have h := ms_ifp h k
          refine lv_aload_n hx hb dX4_readTag_95 rfl (lv_at hl 1 rfl) ?_
          refine lv_dup hx hb dX4_readTag_96 rfl ?_
          refine ms_get ff_X4_35 hX hW 0 rfl rfl dX4_readTag_97 ?_
          refine lv_iconst (v := 1) hx hb dX4_readTag_100 (by decide) ?_
          refine lv_iadd hx hb dX4_readTag_101 ?_
          refine ms_put ff_X4_35 fp_X4_4 rfl hX hW 0 rfl rfl rfl (Nat.le_of_ble_eq_true rfl) dX4_readTag_102 (fun H locs hW => ?_)
          have hW : ms_W G A s H locs [ob_X4 a_this a_source a_tree a_builder a_tag (x_at + 1) x_rawDue, ob_X1 a_source a_source_row x_source_size x_source_overflowed, (a_source_row, .inl (G.2.1 0, 200, .inl x_source_row)), ob_X6 a_tag a_tag_begins a_tag_ends x_tag_had x_tag_name x_tag_ending, (a_tag_begins, .inl (G.2.1 1, 26, .inl x_tag_begins)), (a_tag_ends, .inl (G.2.1 1, 26, .inl x_tag_ends))] := hW
          refine lv_iconst (v := 1) hx hb dX4_readTag_105 (by decide) ?_
          obtain rfl := Option.some.inj h
          exact ms_zret hX (ms_nz (Or.inr rfl)) hW dX4_readTag_106
def f_X4_readTag_L38 (x_source_size : Int32) (x_source_row : Nat → Int32) (x_at : Int32) (x_tag_had : Int32) (x_tag_name : Int32) (x_tag_ending : Int32) (x_tag_begins : Nat → Int32) (x_tag_ends : Nat → Int32) (v1 : Int32) (z1 : Int32) (z2 : Int32) : Option (Int32 × Int32 × Int32 × Int32 × (Nat → Int32) × (Nat → Int32) × Int32) := (f_X4_readName (z1 + z2) x_source_size x_source_row).bind (fun q47 => (f_X6_begin x_tag_had x_tag_name x_tag_ending q47.2 v1).bind (fun q51 => f_X4_readTag_L56 x_source_size x_source_row 1000 q47.1 q51.1 q51.2.1 q51.2.2 x_tag_begins x_tag_ends 0))
set_option maxHeartbeats 4000000 in
set_option maxRecDepth 100000 in
theorem wb_X4_readTag_L38 {p : Program} {l : Launch} {e : Env} {s : State} {m : MethodId} {args : Array Value} {below : List Frame} {meth : Method} {c : Code} {G : Gc} {A : Nat → Prop} {H : Heap} {locs : List Loc} {ls : Array Slot} {a_this : Nat} {a_source : Nat} {a_tree : Nat} {a_builder : Nat} {a_tag : Nat} {a_source_row : Nat} {a_tag_begins : Nat} {a_tag_ends : Nat} {x_rawDue : Int32} {x_source_size : Int32} {x_source_overflowed : Int32} {x_source_row : Nat → Int32}  {x_at : Int32} {x_tag_had : Int32} {x_tag_name : Int32} {x_tag_ending : Int32} {x_tag_begins : Nat → Int32} {x_tag_ends : Nat → Int32} {v1 : Int32} {z1 : Int32} {z2 : Int32} {o : Int32 × Int32 × Int32 × Int32 × (Nat → Int32) × (Nat → Int32) × Int32} (hX : ms_CX p s m args meth c cX4_readTag 4 RX4 (some .boolean) G A)   (h : f_X4_readTag_L38 x_source_size x_source_row x_at x_tag_had x_tag_name x_tag_ending x_tag_begins x_tag_ends v1 z1 z2 = some o) (hW : ms_W G A s H locs [ob_X4 a_this a_source a_tree a_builder a_tag x_at x_rawDue, ob_X1 a_source a_source_row x_source_size x_source_overflowed, (a_source_row, .inl (G.2.1 0, 200, .inl x_source_row)), ob_X6 a_tag a_tag_begins a_tag_ends x_tag_had x_tag_name x_tag_ending, (a_tag_begins, .inl (G.2.1 1, 26, .inl x_tag_begins)), (a_tag_ends, .inl (G.2.1 1, 26, .inl x_tag_ends))]) (hl : lv_has ls 4 [(0, .ref a_this), (1, .int v1)]) : W p l e rm_X4_readTag s m args below meth c H locs 0 0 (ms_Q G A below args s [ob_X4 a_this a_source a_tree a_builder a_tag o.1 x_rawDue, ob_X1 a_source a_source_row x_source_size x_source_overflowed, (a_source_row, .inl (G.2.1 0, 200, .inl x_source_row)), ob_X6 a_tag a_tag_begins a_tag_ends o.2.1 o.2.2.1 o.2.2.2.1, (a_tag_begins, .inl (G.2.1 1, 26, .inl o.2.2.2.2.1)), (a_tag_ends, .inl (G.2.1 1, 26, .inl o.2.2.2.2.2.1))] (some (.int o.2.2.2.2.2.2))) (F0 m 38 ls [.int z2, .int z1, .ref a_this]) := by
  have hx := hX.1.1
  have hb := hX.1.2.1
  unfold f_X4_readTag_L38 at h
  refine lv_iadd hx hb dX4_readTag_38 ?_
  refine ms_put ff_X4_35 fp_X4_4 rfl hX hW 0 rfl rfl rfl (Nat.le_of_ble_eq_true rfl) dX4_readTag_39 (fun H locs hW => ?_)
  have hW : ms_W G A s H locs [ob_X4 a_this a_source a_tree a_builder a_tag (z1 + z2) x_rawDue, ob_X1 a_source a_source_row x_source_size x_source_overflowed, (a_source_row, .inl (G.2.1 0, 200, .inl x_source_row)), ob_X6 a_tag a_tag_begins a_tag_ends x_tag_had x_tag_name x_tag_ending, (a_tag_begins, .inl (G.2.1 1, 26, .inl x_tag_begins)), (a_tag_ends, .inl (G.2.1 1, 26, .inl x_tag_ends))] := hW
  refine lv_aload_n hx hb dX4_readTag_42 rfl (lv_at hl 0 rfl) ?_
  refine ms_get ff_X4_31 hX hW 0 rfl rfl dX4_readTag_43 ?_
  refine lv_aload_n hx hb dX4_readTag_46 rfl (lv_at hl 0 rfl) ?_
  obtain ⟨q47, hq47, h⟩ := ms_bd h
  refine ms_callV (fn_X4_readName l G a_this a_source a_tree a_builder a_tag a_source_row (z1 + z2) x_rawDue x_source_size x_source_overflowed x_source_row hq47) wm_X4_readName wv_X4_130 hX hW [0, 1, 2] rfl rfl rfl rfl rfl ⟨Nat.le_of_ble_eq_true rfl, Nat.le_of_ble_eq_true rfl, rfl, rfl, Nat.zero_le _, Nat.zero_le _⟩ rfl hl.1 [.ref a_tag] rfl (Nat.le_of_ble_eq_true rfl) dX4_readTag_47 (fun H locs hW => ?_)
  have hW : ms_W G A s H locs [ob_X4 a_this a_source a_tree a_builder a_tag q47.1 x_rawDue, ob_X1 a_source a_source_row x_source_size x_source_overflowed, (a_source_row, .inl (G.2.1 0, 200, .inl x_source_row)), ob_X6 a_tag a_tag_begins a_tag_ends x_tag_had x_tag_name x_tag_ending, (a_tag_begins, .inl (G.2.1 1, 26, .inl x_tag_begins)), (a_tag_ends, .inl (G.2.1 1, 26, .inl x_tag_ends))] := hW
  refine W.eq (g2 := F0 m 50 ls [.int q47.2, .ref a_tag]) rfl ?_
  refine lv_iload_n hx hb dX4_readTag_50 rfl (lv_at hl 1 rfl) ?_
  obtain ⟨q51, hq51, h⟩ := ms_bd h
  refine ms_callV (fn_X6_begin l G a_tag a_tag_begins a_tag_ends x_tag_had x_tag_name x_tag_ending q47.2 v1 hq51) wm_X6_begin wv_X4_133 hX hW [3] rfl rfl rfl rfl rfl ⟨Nat.le_of_ble_eq_true rfl, Nat.le_of_ble_eq_true rfl, rfl, rfl, Nat.zero_le _, Nat.zero_le _⟩ rfl hl.1 [] rfl (Nat.le_of_ble_eq_true rfl) dX4_readTag_51 (fun H locs hW => ?_)
  have hW : ms_W G A s H locs [ob_X4 a_this a_source a_tree a_builder a_tag q47.1 x_rawDue, ob_X1 a_source a_source_row x_source_size x_source_overflowed, (a_source_row, .inl (G.2.1 0, 200, .inl x_source_row)), ob_X6 a_tag a_tag_begins a_tag_ends q51.1 q51.2.1 q51.2.2, (a_tag_begins, .inl (G.2.1 1, 26, .inl x_tag_begins)), (a_tag_ends, .inl (G.2.1 1, 26, .inl x_tag_ends))] := hW
  refine W.eq (g2 := F0 m 54 ls []) rfl ?_
  refine lv_iconst (v := 0) hx hb dX4_readTag_54 (by decide) ?_
  refine lv_istore_n (lv' := [(2, .int 0), (0, .ref a_this), (1, .int v1)]) hx hb dX4_readTag_55 rfl hl (by decide) rfl (fun ls hl => ?_)
  exact wb_X4_readTag_L56 hX _ _ _ _ _ _ _ _ _ _ _ h hW (lv_sub hl [1, 0] rfl)
def f_X4_readTag_L23 (x_source_size : Int32) (x_source_row : Nat → Int32) (x_at : Int32) (x_tag_had : Int32) (x_tag_name : Int32) (x_tag_ending : Int32) (x_tag_begins : Nat → Int32) (x_tag_ends : Nat → Int32) (z0 : Int32) : Option (Int32 × Int32 × Int32 × Int32 × (Nat → Int32) × (Nat → Int32) × Int32) := (if z0 = 0 then f_X4_readTag_L38 x_source_size x_source_row x_at x_tag_had x_tag_name x_tag_ending x_tag_begins x_tag_ends z0 x_at 1 else f_X4_readTag_L38 x_source_size x_source_row x_at x_tag_had x_tag_name x_tag_ending x_tag_begins x_tag_ends z0 x_at 2)
set_option maxHeartbeats 4000000 in
set_option maxRecDepth 100000 in
theorem wb_X4_readTag_L23 {p : Program} {l : Launch} {e : Env} {s : State} {m : MethodId} {args : Array Value} {below : List Frame} {meth : Method} {c : Code} {G : Gc} {A : Nat → Prop} {H : Heap} {locs : List Loc} {ls : Array Slot} {a_this : Nat} {a_source : Nat} {a_tree : Nat} {a_builder : Nat} {a_tag : Nat} {a_source_row : Nat} {a_tag_begins : Nat} {a_tag_ends : Nat} {x_rawDue : Int32} {x_source_size : Int32} {x_source_overflowed : Int32} {x_source_row : Nat → Int32}  {x_at : Int32} {x_tag_had : Int32} {x_tag_name : Int32} {x_tag_ending : Int32} {x_tag_begins : Nat → Int32} {x_tag_ends : Nat → Int32} {z0 : Int32} {o : Int32 × Int32 × Int32 × Int32 × (Nat → Int32) × (Nat → Int32) × Int32} (hX : ms_CX p s m args meth c cX4_readTag 4 RX4 (some .boolean) G A)   (h : f_X4_readTag_L23 x_source_size x_source_row x_at x_tag_had x_tag_name x_tag_ending x_tag_begins x_tag_ends z0 = some o) (hW : ms_W G A s H locs [ob_X4 a_this a_source a_tree a_builder a_tag x_at x_rawDue, ob_X1 a_source a_source_row x_source_size x_source_overflowed, (a_source_row, .inl (G.2.1 0, 200, .inl x_source_row)), ob_X6 a_tag a_tag_begins a_tag_ends x_tag_had x_tag_name x_tag_ending, (a_tag_begins, .inl (G.2.1 1, 26, .inl x_tag_begins)), (a_tag_ends, .inl (G.2.1 1, 26, .inl x_tag_ends))]) (hl : lv_has ls 4 [(0, .ref a_this)]) : W p l e rm_X4_readTag s m args below meth c H locs 0 0 (ms_Q G A below args s [ob_X4 a_this a_source a_tree a_builder a_tag o.1 x_rawDue, ob_X1 a_source a_source_row x_source_size x_source_overflowed, (a_source_row, .inl (G.2.1 0, 200, .inl x_source_row)), ob_X6 a_tag a_tag_begins a_tag_ends o.2.1 o.2.2.1 o.2.2.2.1, (a_tag_begins, .inl (G.2.1 1, 26, .inl o.2.2.2.2.1)), (a_tag_ends, .inl (G.2.1 1, 26, .inl o.2.2.2.2.2.1))] (some (.int o.2.2.2.2.2.2))) (F0 m 23 ls [.int z0]) := by
  have hx := hX.1.1
  have hb := hX.1.2.1
  unfold f_X4_readTag_L23 at h
  refine lv_istore_n (lv' := [(1, .int z0), (0, .ref a_this)]) hx hb dX4_readTag_23 rfl hl (by decide) rfl (fun ls hl => ?_)
  refine lv_aload_n hx hb dX4_readTag_24 rfl (lv_at hl 1 rfl) ?_
  refine lv_dup hx hb dX4_readTag_25 rfl ?_
  refine ms_get ff_X4_35 hX hW 0 rfl rfl dX4_readTag_26 ?_
  refine lv_iload_n hx hb dX4_readTag_29 rfl (lv_at hl 0 rfl) ?_
  refine lv_if_eq (tgt := 37) hx hb dX4_readTag_30 (by decide) (fun k => ?_) (fun k => ?_)
  · have h := ms_ifp h k
    refine lv_iconst (v := 1) hx hb dX4_readTag_37 (by decide) ?_
    exact wb_X4_readTag_L38 hX h hW (lv_sub hl [1, 0] rfl)
  · have h := ms_ifn h k
    refine lv_iconst (v := 2) hx hb dX4_readTag_33 (by decide) ?_
    refine lv_goto (tgt := 38) hx hb dX4_readTag_34 (by decide) ?_
    exact wb_X4_readTag_L38 hX h hW (lv_sub hl [1, 0] rfl)
def f_X4_readTag (x_at : Int32) (x_source_size : Int32) (x_source_row : Nat → Int32) (x_tag_had : Int32) (x_tag_name : Int32) (x_tag_ending : Int32) (x_tag_begins : Nat → Int32) (x_tag_ends : Nat → Int32)  : Option (Int32 × Int32 × Int32 × Int32 × (Nat → Int32) × (Nat → Int32) × Int32) := (f_X1_at x_source_size x_source_row (x_at + 1)).bind (fun q10 => (if q10 = 47 then f_X4_readTag_L23 x_source_size x_source_row x_at x_tag_had x_tag_name x_tag_ending x_tag_begins x_tag_ends 1 else f_X4_readTag_L23 x_source_size x_source_row x_at x_tag_had x_tag_name x_tag_ending x_tag_begins x_tag_ends 0))
set_option maxHeartbeats 4000000 in
set_option maxRecDepth 100000 in
theorem fn_X4_readTag (l : Launch) (G : Gc) (a_this : Nat) (a_source : Nat) (a_tree : Nat) (a_builder : Nat) (a_tag : Nat) (a_source_row : Nat) (a_tag_begins : Nat) (a_tag_ends : Nat) (x_at : Int32) (x_rawDue : Int32) (x_source_size : Int32) (x_source_overflowed : Int32) (x_source_row : Nat → Int32) (x_tag_had : Int32) (x_tag_name : Int32) (x_tag_ending : Int32) (x_tag_begins : Nat → Int32) (x_tag_ends : Nat → Int32)   {o : Int32 × Int32 × Int32 × Int32 × (Nat → Int32) × (Nat → Int32) × Int32} (h : f_X4_readTag x_at x_source_size x_source_row x_tag_had x_tag_name x_tag_ending x_tag_begins x_tag_ends = some o) : ms_Fn l G yX4_readTag cX4_readTag 4 (some .boolean) rm_X4_readTag [.ref a_this] [ob_X4 a_this a_source a_tree a_builder a_tag x_at x_rawDue, ob_X1 a_source a_source_row x_source_size x_source_overflowed, (a_source_row, .inl (G.2.1 0, 200, .inl x_source_row)), ob_X6 a_tag a_tag_begins a_tag_ends x_tag_had x_tag_name x_tag_ending, (a_tag_begins, .inl (G.2.1 1, 26, .inl x_tag_begins)), (a_tag_ends, .inl (G.2.1 1, 26, .inl x_tag_ends))] [ob_X4 a_this a_source a_tree a_builder a_tag o.1 x_rawDue, ob_X1 a_source a_source_row x_source_size x_source_overflowed, (a_source_row, .inl (G.2.1 0, 200, .inl x_source_row)), ob_X6 a_tag a_tag_begins a_tag_ends o.2.1 o.2.2.1 o.2.2.2.1, (a_tag_begins, .inl (G.2.1 1, 26, .inl o.2.2.2.2.1)), (a_tag_ends, .inl (G.2.1 1, 26, .inl o.2.2.2.2.2.1))] (some (.int o.2.2.2.2.2.2)) := by
  refine ms_start RX4 (by decide +kernel) rfl (Nat.le_of_ble_eq_true rfl) (fun p e s m below meth c A ls hX hW hl => ?_)
  have hx := hX.1.1
  have hb := hX.1.2.1
  have hl : lv_has ls 4 [(0, .ref a_this)] := hl
  unfold f_X4_readTag at h
  refine lv_aload_n hx hb dX4_readTag_0 rfl (lv_at hl 0 rfl) ?_
  refine ms_get ff_X4_9 hX hW 0 rfl rfl dX4_readTag_1 ?_
  refine lv_aload_n hx hb dX4_readTag_4 rfl (lv_at hl 0 rfl) ?_
  refine ms_get ff_X4_35 hX hW 0 rfl rfl dX4_readTag_5 ?_
  refine lv_iconst (v := 1) hx hb dX4_readTag_8 (by decide) ?_
  refine lv_iadd hx hb dX4_readTag_9 ?_
  obtain ⟨q10, hq10, h⟩ := ms_bd h
  refine ms_callV (fn_X1_at l G a_source a_source_row x_source_size x_source_overflowed x_source_row (x_at + 1) hq10) wm_X1_at wv_X4_86 hX hW [1, 2] rfl rfl rfl rfl rfl ⟨Nat.le_of_ble_eq_true rfl, Nat.le_of_ble_eq_true rfl, rfl, rfl, Nat.zero_le _, Nat.zero_le _⟩ rfl hl.1 [] rfl (Nat.le_of_ble_eq_true rfl) dX4_readTag_10 (fun H locs hW => ?_)
  have hW : ms_W G A s H locs [ob_X4 a_this a_source a_tree a_builder a_tag x_at x_rawDue, ob_X1 a_source a_source_row x_source_size x_source_overflowed, (a_source_row, .inl (G.2.1 0, 200, .inl x_source_row)), ob_X6 a_tag a_tag_begins a_tag_ends x_tag_had x_tag_name x_tag_ending, (a_tag_begins, .inl (G.2.1 1, 26, .inl x_tag_begins)), (a_tag_ends, .inl (G.2.1 1, 26, .inl x_tag_ends))] := hW
  refine W.eq (g2 := F0 m 13 ls [.int q10]) rfl ?_
  refine lv_bipush (v := 47) hx hb dX4_readTag_13 (by decide) ?_
  refine lv_icmp_ne (tgt := 22) hx hb dX4_readTag_15 (by decide) (fun k => ?_) (fun k => ?_)
  · have h := ms_ifn h k
    refine lv_iconst (v := 0) hx hb dX4_readTag_22 (by decide) ?_
    exact wb_X4_readTag_L23 hX h hW (lv_sub hl [0] rfl)
  · have h := ms_ifp h k
    refine lv_iconst (v := 1) hx hb dX4_readTag_18 (by decide) ?_
    refine lv_goto (tgt := 23) hx hb dX4_readTag_19 (by decide) ?_
    exact wb_X4_readTag_L23 hX h hW (lv_sub hl [0] rfl)
def rm_X6_isEnding : Room := { frames := 0, cells := 0, slots := 0, locals := 0 }
def f_X6_isEnding (x_ending : Int32)  : Option (Int32) := ms_gz x_ending (some x_ending)
set_option maxHeartbeats 4000000 in
set_option maxRecDepth 100000 in
theorem fn_X6_isEnding (l : Launch) (G : Gc) (a_this : Nat) (a_begins : Nat) (a_ends : Nat) (x_had : Int32) (x_name : Int32) (x_ending : Int32)   {o : Int32} (h : f_X6_isEnding x_ending = some o) : ms_Fn l G yX6_isEnding cX6_isEnding 1 (some .boolean) rm_X6_isEnding [.ref a_this] [ob_X6 a_this a_begins a_ends x_had x_name x_ending] [ob_X6 a_this a_begins a_ends x_had x_name x_ending] (some (.int o)) := by
  refine ms_start RX6 (by decide +kernel) rfl (Nat.le_of_ble_eq_true rfl) (fun p e s m below meth c A ls hX hW hl => ?_)
  have hx := hX.1.1
  have hb := hX.1.2.1
  have hl : lv_has ls 1 [(0, .ref a_this)] := hl
  unfold f_X6_isEnding at h
  refine lv_aload_n hx hb dX6_isEnding_0 rfl (lv_at hl 0 rfl) ?_
  refine ms_get ff_X6_25 hX hW 0 rfl rfl dX6_isEnding_1 ?_
  obtain ⟨k, h⟩ := ms_gz_some h
  obtain rfl := Option.some.inj h
  exact ms_zret hX (ms_nz k) hW dX6_isEnding_4
def rm_X4_readAll : Room := { frames := 9, cells := 0, slots := 0, locals := 202 }
def f_X4_readAll_L139 (x_source_size : Int32) (x_source_row : Nat → Int32) (kk : Int32 → Int32 → Int32 → Int32 → (Nat → Int32) → (Nat → Int32) → (Nat → Int32) → Int32 → Int32 → (Nat → Int32) → (Nat → Int32) → (Nat → Int32) → (Nat → Int32) → Int32 → Int32 → (Nat → Int32) → Int32 → (Nat → Int32) → (Nat → Int32) → Int32 → Int32 → Int32 → (Nat → Int32) → (Nat → Int32) → Int32 → Option (Int32 × Int32 × Int32 × Int32 × (Nat → Int32) × (Nat → Int32) × (Nat → Int32) × Int32 × Int32 × (Nat → Int32) × (Nat → Int32) × (Nat → Int32) × (Nat → Int32) × Int32 × Int32 × (Nat → Int32) × Int32 × (Nat → Int32) × (Nat → Int32) × Int32 × Int32 × Int32 × (Nat → Int32) × (Nat → Int32))) (x_at : Int32) (x_rawDue : Int32) (x_tree_count : Int32) (x_tree_attributeCount : Int32) (x_tree_codes : Nat → Int32) (x_tree_begins : Nat → Int32) (x_tree_ends : Nat → Int32) (x_tree_characters_size : Int32) (x_tree_characters_overflowed : Int32) (x_tree_characters_row : Nat → Int32) (x_tree_attributeLetters : Nat → Int32) (x_tree_valueBegins : Nat → Int32) (x_tree_valueEnds : Nat → Int32) (x_tree_values_size : Int32) (x_tree_values_overflowed : Int32) (x_tree_values_row : Nat → Int32) (x_builder_open_count : Int32) (x_builder_open_names : Nat → Int32) (x_builder_open_foreigns : Nat → Int32) (x_tag_had : Int32) (x_tag_name : Int32) (x_tag_ending : Int32) (x_tag_begins : Nat → Int32) (x_tag_ends : Nat → Int32) (v1 : Int32) : Option (Int32 × Int32 × Int32 × Int32 × (Nat → Int32) × (Nat → Int32) × (Nat → Int32) × Int32 × Int32 × (Nat → Int32) × (Nat → Int32) × (Nat → Int32) × (Nat → Int32) × Int32 × Int32 × (Nat → Int32) × Int32 × (Nat → Int32) × (Nat → Int32) × Int32 × Int32 × Int32 × (Nat → Int32) × (Nat → Int32)) := kk x_at x_rawDue x_tree_count x_tree_attributeCount x_tree_codes x_tree_begins x_tree_ends x_tree_characters_size x_tree_characters_overflowed x_tree_characters_row x_tree_attributeLetters x_tree_valueBegins x_tree_valueEnds x_tree_values_size x_tree_values_overflowed x_tree_values_row x_builder_open_count x_builder_open_names x_builder_open_foreigns x_tag_had x_tag_name x_tag_ending x_tag_begins x_tag_ends (v1 + 1)
set_option maxHeartbeats 4000000 in
set_option maxRecDepth 100000 in
theorem wb_X4_readAll_L139 {p : Program} {l : Launch} {e : Env} {s : State} {m : MethodId} {args : Array Value} {below : List Frame} {meth : Method} {c : Code} {G : Gc} {A : Nat → Prop} {H : Heap} {locs : List Loc} {ls : Array Slot} {a_this : Nat} {a_source : Nat} {a_tree : Nat} {a_builder : Nat} {a_tag : Nat} {a_source_row : Nat} {a_tree_codes : Nat} {a_tree_begins : Nat} {a_tree_ends : Nat} {a_tree_characters : Nat} {a_tree_attributeLetters : Nat} {a_tree_valueBegins : Nat} {a_tree_valueEnds : Nat} {a_tree_values : Nat} {a_tree_characters_row : Nat} {a_tree_values_row : Nat} {a_builder_open : Nat} {a_builder_open_names : Nat} {a_builder_open_foreigns : Nat} {a_tag_begins : Nat} {a_tag_ends : Nat} {x_source_size : Int32} {x_source_overflowed : Int32} {x_source_row : Nat → Int32}  {kk : Int32 → Int32 → Int32 → Int32 → (Nat → Int32) → (Nat → Int32) → (Nat → Int32) → Int32 → Int32 → (Nat → Int32) → (Nat → Int32) → (Nat → Int32) → (Nat → Int32) → Int32 → Int32 → (Nat → Int32) → Int32 → (Nat → Int32) → (Nat → Int32) → Int32 → Int32 → Int32 → (Nat → Int32) → (Nat → Int32) → Int32 → Option (Int32 × Int32 × Int32 × Int32 × (Nat → Int32) × (Nat → Int32) × (Nat → Int32) × Int32 × Int32 × (Nat → Int32) × (Nat → Int32) × (Nat → Int32) × (Nat → Int32) × Int32 × Int32 × (Nat → Int32) × Int32 × (Nat → Int32) × (Nat → Int32) × Int32 × Int32 × Int32 × (Nat → Int32) × (Nat → Int32))} {Q : State → Prop} {x_at : Int32} {x_rawDue : Int32} {x_tree_count : Int32} {x_tree_attributeCount : Int32} {x_tree_codes : Nat → Int32} {x_tree_begins : Nat → Int32} {x_tree_ends : Nat → Int32} {x_tree_characters_size : Int32} {x_tree_characters_overflowed : Int32} {x_tree_characters_row : Nat → Int32} {x_tree_attributeLetters : Nat → Int32} {x_tree_valueBegins : Nat → Int32} {x_tree_valueEnds : Nat → Int32} {x_tree_values_size : Int32} {x_tree_values_overflowed : Int32} {x_tree_values_row : Nat → Int32} {x_builder_open_count : Int32} {x_builder_open_names : Nat → Int32} {x_builder_open_foreigns : Nat → Int32} {x_tag_had : Int32} {x_tag_name : Int32} {x_tag_ending : Int32} {x_tag_begins : Nat → Int32} {x_tag_ends : Nat → Int32} {v1 : Int32} {o : Int32 × Int32 × Int32 × Int32 × (Nat → Int32) × (Nat → Int32) × (Nat → Int32) × Int32 × Int32 × (Nat → Int32) × (Nat → Int32) × (Nat → Int32) × (Nat → Int32) × Int32 × Int32 × (Nat → Int32) × Int32 × (Nat → Int32) × (Nat → Int32) × Int32 × Int32 × Int32 × (Nat → Int32) × (Nat → Int32)} (hX : ms_CX p s m args meth c cX4_readAll 2 RX4 (some (.object "MarkupSieve$Tree")) G A) (hq : ∀ (H : Heap) (locs : List Loc) (ls : Array Slot), ms_W G A s H locs [ob_X4 a_this a_source a_tree a_builder a_tag o.1 o.2.1, ob_X1 a_source a_source_row x_source_size x_source_overflowed, (a_source_row, .inl (G.2.1 0, 200, .inl x_source_row)), ob_X7 a_tree a_tree_codes a_tree_begins a_tree_ends o.2.2.1 a_tree_characters a_tree_attributeLetters a_tree_valueBegins a_tree_valueEnds o.2.2.2.1 a_tree_values, (a_tree_codes, .inl (G.2.1 1, 200, .inl o.2.2.2.2.1)), (a_tree_begins, .inl (G.2.1 1, 200, .inl o.2.2.2.2.2.1)), (a_tree_ends, .inl (G.2.1 1, 200, .inl o.2.2.2.2.2.2.1)), ob_X1 a_tree_characters a_tree_characters_row o.2.2.2.2.2.2.2.1 o.2.2.2.2.2.2.2.2.1, (a_tree_characters_row, .inl (G.2.1 0, 200, .inl o.2.2.2.2.2.2.2.2.2.1)), (a_tree_attributeLetters, .inl (G.2.1 1, 100, .inl o.2.2.2.2.2.2.2.2.2.2.1)), (a_tree_valueBegins, .inl (G.2.1 1, 100, .inl o.2.2.2.2.2.2.2.2.2.2.2.1)), (a_tree_valueEnds, .inl (G.2.1 1, 100, .inl o.2.2.2.2.2.2.2.2.2.2.2.2.1)), ob_X1 a_tree_values a_tree_values_row o.2.2.2.2.2.2.2.2.2.2.2.2.2.1 o.2.2.2.2.2.2.2.2.2.2.2.2.2.2.1, (a_tree_values_row, .inl (G.2.1 0, 200, .inl o.2.2.2.2.2.2.2.2.2.2.2.2.2.2.2.1)), ob_X0 a_builder a_source a_tree a_builder_open, ob_X2 a_builder_open a_builder_open_names a_builder_open_foreigns o.2.2.2.2.2.2.2.2.2.2.2.2.2.2.2.2.1, (a_builder_open_names, .inl (G.2.1 1, 8, .inl o.2.2.2.2.2.2.2.2.2.2.2.2.2.2.2.2.2.1)), (a_builder_open_foreigns, .inl (G.2.1 3, 8, .inl o.2.2.2.2.2.2.2.2.2.2.2.2.2.2.2.2.2.2.1)), ob_X6 a_tag a_tag_begins a_tag_ends o.2.2.2.2.2.2.2.2.2.2.2.2.2.2.2.2.2.2.2.1 o.2.2.2.2.2.2.2.2.2.2.2.2.2.2.2.2.2.2.2.2.1 o.2.2.2.2.2.2.2.2.2.2.2.2.2.2.2.2.2.2.2.2.2.1, (a_tag_begins, .inl (G.2.1 1, 26, .inl o.2.2.2.2.2.2.2.2.2.2.2.2.2.2.2.2.2.2.2.2.2.2.1)), (a_tag_ends, .inl (G.2.1 1, 26, .inl o.2.2.2.2.2.2.2.2.2.2.2.2.2.2.2.2.2.2.2.2.2.2.2))] → lv_has ls 2 [(0, .ref a_this)] → W p l e rm_X4_readAll s m args below meth c H locs 0 0 Q (F0 m 145 ls [])) (ih : ∀ (x_at : Int32) (x_rawDue : Int32) (x_tree_count : Int32) (x_tree_attributeCount : Int32) (x_tree_codes : Nat → Int32) (x_tree_begins : Nat → Int32) (x_tree_ends : Nat → Int32) (x_tree_characters_size : Int32) (x_tree_characters_overflowed : Int32) (x_tree_characters_row : Nat → Int32) (x_tree_attributeLetters : Nat → Int32) (x_tree_valueBegins : Nat → Int32) (x_tree_valueEnds : Nat → Int32) (x_tree_values_size : Int32) (x_tree_values_overflowed : Int32) (x_tree_values_row : Nat → Int32) (x_builder_open_count : Int32) (x_builder_open_names : Nat → Int32) (x_builder_open_foreigns : Nat → Int32) (x_tag_had : Int32) (x_tag_name : Int32) (x_tag_ending : Int32) (x_tag_begins : Nat → Int32) (x_tag_ends : Nat → Int32) (v1 : Int32) (H : Heap) (locs : List Loc) (ls : Array Slot), kk x_at x_rawDue x_tree_count x_tree_attributeCount x_tree_codes x_tree_begins x_tree_ends x_tree_characters_size x_tree_characters_overflowed x_tree_characters_row x_tree_attributeLetters x_tree_valueBegins x_tree_valueEnds x_tree_values_size x_tree_values_overflowed x_tree_values_row x_builder_open_count x_builder_open_names x_builder_open_foreigns x_tag_had x_tag_name x_tag_ending x_tag_begins x_tag_ends v1 = some o → ms_W G A s H locs [ob_X4 a_this a_source a_tree a_builder a_tag x_at x_rawDue, ob_X1 a_source a_source_row x_source_size x_source_overflowed, (a_source_row, .inl (G.2.1 0, 200, .inl x_source_row)), ob_X7 a_tree a_tree_codes a_tree_begins a_tree_ends x_tree_count a_tree_characters a_tree_attributeLetters a_tree_valueBegins a_tree_valueEnds x_tree_attributeCount a_tree_values, (a_tree_codes, .inl (G.2.1 1, 200, .inl x_tree_codes)), (a_tree_begins, .inl (G.2.1 1, 200, .inl x_tree_begins)), (a_tree_ends, .inl (G.2.1 1, 200, .inl x_tree_ends)), ob_X1 a_tree_characters a_tree_characters_row x_tree_characters_size x_tree_characters_overflowed, (a_tree_characters_row, .inl (G.2.1 0, 200, .inl x_tree_characters_row)), (a_tree_attributeLetters, .inl (G.2.1 1, 100, .inl x_tree_attributeLetters)), (a_tree_valueBegins, .inl (G.2.1 1, 100, .inl x_tree_valueBegins)), (a_tree_valueEnds, .inl (G.2.1 1, 100, .inl x_tree_valueEnds)), ob_X1 a_tree_values a_tree_values_row x_tree_values_size x_tree_values_overflowed, (a_tree_values_row, .inl (G.2.1 0, 200, .inl x_tree_values_row)), ob_X0 a_builder a_source a_tree a_builder_open, ob_X2 a_builder_open a_builder_open_names a_builder_open_foreigns x_builder_open_count, (a_builder_open_names, .inl (G.2.1 1, 8, .inl x_builder_open_names)), (a_builder_open_foreigns, .inl (G.2.1 3, 8, .inl x_builder_open_foreigns)), ob_X6 a_tag a_tag_begins a_tag_ends x_tag_had x_tag_name x_tag_ending, (a_tag_begins, .inl (G.2.1 1, 26, .inl x_tag_begins)), (a_tag_ends, .inl (G.2.1 1, 26, .inl x_tag_ends))] → lv_has ls 2 [(0, .ref a_this), (1, .int v1)] → W p l e rm_X4_readAll s m args below meth c H locs 0 0 Q (F0 m 19 ls [])) (h : f_X4_readAll_L139 x_source_size x_source_row kk x_at x_rawDue x_tree_count x_tree_attributeCount x_tree_codes x_tree_begins x_tree_ends x_tree_characters_size x_tree_characters_overflowed x_tree_characters_row x_tree_attributeLetters x_tree_valueBegins x_tree_valueEnds x_tree_values_size x_tree_values_overflowed x_tree_values_row x_builder_open_count x_builder_open_names x_builder_open_foreigns x_tag_had x_tag_name x_tag_ending x_tag_begins x_tag_ends v1 = some o) (hW : ms_W G A s H locs [ob_X4 a_this a_source a_tree a_builder a_tag x_at x_rawDue, ob_X1 a_source a_source_row x_source_size x_source_overflowed, (a_source_row, .inl (G.2.1 0, 200, .inl x_source_row)), ob_X7 a_tree a_tree_codes a_tree_begins a_tree_ends x_tree_count a_tree_characters a_tree_attributeLetters a_tree_valueBegins a_tree_valueEnds x_tree_attributeCount a_tree_values, (a_tree_codes, .inl (G.2.1 1, 200, .inl x_tree_codes)), (a_tree_begins, .inl (G.2.1 1, 200, .inl x_tree_begins)), (a_tree_ends, .inl (G.2.1 1, 200, .inl x_tree_ends)), ob_X1 a_tree_characters a_tree_characters_row x_tree_characters_size x_tree_characters_overflowed, (a_tree_characters_row, .inl (G.2.1 0, 200, .inl x_tree_characters_row)), (a_tree_attributeLetters, .inl (G.2.1 1, 100, .inl x_tree_attributeLetters)), (a_tree_valueBegins, .inl (G.2.1 1, 100, .inl x_tree_valueBegins)), (a_tree_valueEnds, .inl (G.2.1 1, 100, .inl x_tree_valueEnds)), ob_X1 a_tree_values a_tree_values_row x_tree_values_size x_tree_values_overflowed, (a_tree_values_row, .inl (G.2.1 0, 200, .inl x_tree_values_row)), ob_X0 a_builder a_source a_tree a_builder_open, ob_X2 a_builder_open a_builder_open_names a_builder_open_foreigns x_builder_open_count, (a_builder_open_names, .inl (G.2.1 1, 8, .inl x_builder_open_names)), (a_builder_open_foreigns, .inl (G.2.1 3, 8, .inl x_builder_open_foreigns)), ob_X6 a_tag a_tag_begins a_tag_ends x_tag_had x_tag_name x_tag_ending, (a_tag_begins, .inl (G.2.1 1, 26, .inl x_tag_begins)), (a_tag_ends, .inl (G.2.1 1, 26, .inl x_tag_ends))]) (hl : lv_has ls 2 [(0, .ref a_this), (1, .int v1)]) : W p l e rm_X4_readAll s m args below meth c H locs 0 0 Q (F0 m 139 ls []) := by
  have hx := hX.1.1
  have hb := hX.1.2.1
  unfold f_X4_readAll_L139 at h
  refine lv_iinc (v := v1 + 1) (lv' := [(1, .int (v1 + 1)), (0, .ref a_this)]) hx hb dX4_readAll_139 hl (k := 1) rfl rfl (by decide) rfl (fun ls hl => ?_)
  refine lv_goto (tgt := 19) hx hb dX4_readAll_142 (by decide) ?_
  exact ih _ _ _ _ _ _ _ _ _ _ _ _ _ _ _ _ _ _ _ _ _ _ _ _ _ _ _ _ h hW (lv_sub hl [1, 0] rfl)
def f_X4_readAll_L19 (x_source_size : Int32) (x_source_row : Nat → Int32) : Nat → Int32 → Int32 → Int32 → Int32 → (Nat → Int32) → (Nat → Int32) → (Nat → Int32) → Int32 → Int32 → (Nat → Int32) → (Nat → Int32) → (Nat → Int32) → (Nat → Int32) → Int32 → Int32 → (Nat → Int32) → Int32 → (Nat → Int32) → (Nat → Int32) → Int32 → Int32 → Int32 → (Nat → Int32) → (Nat → Int32) → Int32 → Option (Int32 × Int32 × Int32 × Int32 × (Nat → Int32) × (Nat → Int32) × (Nat → Int32) × Int32 × Int32 × (Nat → Int32) × (Nat → Int32) × (Nat → Int32) × (Nat → Int32) × Int32 × Int32 × (Nat → Int32) × Int32 × (Nat → Int32) × (Nat → Int32) × Int32 × Int32 × Int32 × (Nat → Int32) × (Nat → Int32))
  | 0, _, _, _, _, _, _, _, _, _, _, _, _, _, _, _, _, _, _, _, _, _, _, _, _, _ => none
  | n + 1, x_at, x_rawDue, x_tree_count, x_tree_attributeCount, x_tree_codes, x_tree_begins, x_tree_ends, x_tree_characters_size, x_tree_characters_overflowed, x_tree_characters_row, x_tree_attributeLetters, x_tree_valueBegins, x_tree_valueEnds, x_tree_values_size, x_tree_values_overflowed, x_tree_values_row, x_builder_open_count, x_builder_open_names, x_builder_open_foreigns, x_tag_had, x_tag_name, x_tag_ending, x_tag_begins, x_tag_ends, v1 => (if 200 ≤ v1 then some (x_at, x_rawDue, x_tree_count, x_tree_attributeCount, x_tree_codes, x_tree_begins, x_tree_ends, x_tree_characters_size, x_tree_characters_overflowed, x_tree_characters_row, x_tree_attributeLetters, x_tree_valueBegins, x_tree_valueEnds, x_tree_values_size, x_tree_values_overflowed, x_tree_values_row, x_builder_open_count, x_builder_open_names, x_builder_open_foreigns, x_tag_had, x_tag_name, x_tag_ending, x_tag_begins, x_tag_ends) else (f_X1_size x_source_size).bind (fun q34 => (if q34 ≤ x_at then some (x_at, x_rawDue, x_tree_count, x_tree_attributeCount, x_tree_codes, x_tree_begins, x_tree_ends, x_tree_characters_size, x_tree_characters_overflowed, x_tree_characters_row, x_tree_attributeLetters, x_tree_valueBegins, x_tree_valueEnds, x_tree_values_size, x_tree_values_overflowed, x_tree_values_row, x_builder_open_count, x_builder_open_names, x_builder_open_foreigns, x_tag_had, x_tag_name, x_tag_ending, x_tag_begins, x_tag_ends) else (if x_rawDue = 0 then (f_X4_isMarkup x_source_size x_source_row x_at).bind (fun q59 => (if q59 = 0 then (f_X4_readText x_at x_source_size x_source_row x_tree_count x_tree_codes x_tree_begins x_tree_ends x_tree_characters_size x_tree_characters_overflowed x_tree_characters_row x_builder_open_count).bind (fun q66 => f_X4_readAll_L139 x_source_size x_source_row (f_X4_readAll_L19 x_source_size x_source_row n) q66.1 x_rawDue q66.2.1 x_tree_attributeCount q66.2.2.1 q66.2.2.2.1 q66.2.2.2.2.1 q66.2.2.2.2.2.1 q66.2.2.2.2.2.2.1 q66.2.2.2.2.2.2.2 x_tree_attributeLetters x_tree_valueBegins x_tree_valueEnds x_tree_values_size x_tree_values_overflowed x_tree_values_row x_builder_open_count x_builder_open_names x_builder_open_foreigns x_tag_had x_tag_name x_tag_ending x_tag_begins x_tag_ends v1) else (f_X4_isTag x_source_size x_source_row x_at).bind (fun q77 => (if q77 = 0 then (f_X4_readComment x_at x_source_size x_source_row x_tree_count x_tree_codes x_tree_begins x_tree_ends x_tree_characters_size x_tree_characters_overflowed x_tree_characters_row x_builder_open_count).bind (fun q84 => f_X4_readAll_L139 x_source_size x_source_row (f_X4_readAll_L19 x_source_size x_source_row n) q84.1 x_rawDue q84.2.1 x_tree_attributeCount q84.2.2.1 q84.2.2.2.1 q84.2.2.2.2.1 q84.2.2.2.2.2.1 q84.2.2.2.2.2.2.1 q84.2.2.2.2.2.2.2 x_tree_attributeLetters x_tree_valueBegins x_tree_valueEnds x_tree_values_size x_tree_values_overflowed x_tree_values_row x_builder_open_count x_builder_open_names x_builder_open_foreigns x_tag_had x_tag_name x_tag_ending x_tag_begins x_tag_ends v1) else (f_X4_readTag x_at x_source_size x_source_row x_tag_had x_tag_name x_tag_ending x_tag_begins x_tag_ends).bind (fun q91 => (if q91.2.2.2.2.2.2 = 0 then f_X4_readAll_L139 x_source_size x_source_row (f_X4_readAll_L19 x_source_size x_source_row n) q91.1 x_rawDue x_tree_count x_tree_attributeCount x_tree_codes x_tree_begins x_tree_ends x_tree_characters_size x_tree_characters_overflowed x_tree_characters_row x_tree_attributeLetters x_tree_valueBegins x_tree_valueEnds x_tree_values_size x_tree_values_overflowed x_tree_values_row x_builder_open_count x_builder_open_names x_builder_open_foreigns q91.2.1 q91.2.2.1 q91.2.2.2.1 q91.2.2.2.2.1 q91.2.2.2.2.2.1 v1 else (f_X6_isEnding q91.2.2.2.1).bind (fun q101 => (if q101 = 0 then (f_X0_start x_source_size x_source_row x_tree_count x_tree_attributeCount x_tree_codes x_tree_begins x_tree_ends x_tree_attributeLetters x_tree_valueBegins x_tree_valueEnds x_tree_values_size x_tree_values_overflowed x_tree_values_row x_builder_open_count x_builder_open_names x_builder_open_foreigns q91.2.1 q91.2.2.1 q91.2.2.2.2.1 q91.2.2.2.2.2.1).bind (fun q133 => ms_gz q133.2.2.2.2.2.2.2.2.2.2.2.2.2.2 (f_X4_readAll_L139 x_source_size x_source_row (f_X4_readAll_L19 x_source_size x_source_row n) q91.1 q133.2.2.2.2.2.2.2.2.2.2.2.2.2.2 q133.1 q133.2.1 q133.2.2.1 q133.2.2.2.1 q133.2.2.2.2.1 x_tree_characters_size x_tree_characters_overflowed x_tree_characters_row q133.2.2.2.2.2.1 q133.2.2.2.2.2.2.1 q133.2.2.2.2.2.2.2.1 q133.2.2.2.2.2.2.2.2.1 q133.2.2.2.2.2.2.2.2.2.1 q133.2.2.2.2.2.2.2.2.2.2.1 q133.2.2.2.2.2.2.2.2.2.2.2.1 q133.2.2.2.2.2.2.2.2.2.2.2.2.1 q133.2.2.2.2.2.2.2.2.2.2.2.2.2.1 q91.2.1 q91.2.2.1 q91.2.2.2.1 q91.2.2.2.2.1 q91.2.2.2.2.2.1 v1)) else (f_X6_name q91.2.2.1).bind (fun q115 => (f_X0_end x_tree_count x_tree_attributeCount x_tree_codes x_tree_begins x_tree_ends x_builder_open_count x_builder_open_names x_builder_open_foreigns q115).bind (fun q118 => f_X4_readAll_L139 x_source_size x_source_row (f_X4_readAll_L19 x_source_size x_source_row n) q91.1 x_rawDue q118.1 x_tree_attributeCount q118.2.1 q118.2.2.1 q118.2.2.2.1 x_tree_characters_size x_tree_characters_overflowed x_tree_characters_row x_tree_attributeLetters x_tree_valueBegins x_tree_valueEnds x_tree_values_size x_tree_values_overflowed x_tree_values_row q118.2.2.2.2.1 q118.2.2.2.2.2.1 q118.2.2.2.2.2.2 q91.2.1 q91.2.2.1 q91.2.2.2.1 q91.2.2.2.2.1 q91.2.2.2.2.2.1 v1)))))))))) else (f_X4_readRaw x_at x_rawDue x_source_size x_source_row x_tree_count x_tree_codes x_tree_begins x_tree_ends x_tree_characters_size x_tree_characters_overflowed x_tree_characters_row x_builder_open_count).bind (fun q48 => f_X4_readAll_L139 x_source_size x_source_row (f_X4_readAll_L19 x_source_size x_source_row n) q48.1 q48.2.1 q48.2.2.1 x_tree_attributeCount q48.2.2.2.1 q48.2.2.2.2.1 q48.2.2.2.2.2.1 q48.2.2.2.2.2.2.1 q48.2.2.2.2.2.2.2.1 q48.2.2.2.2.2.2.2.2 x_tree_attributeLetters x_tree_valueBegins x_tree_valueEnds x_tree_values_size x_tree_values_overflowed x_tree_values_row x_builder_open_count x_builder_open_names x_builder_open_foreigns x_tag_had x_tag_name x_tag_ending x_tag_begins x_tag_ends v1)))))
set_option maxHeartbeats 4000000 in
set_option maxRecDepth 100000 in
theorem wb_X4_readAll_L19 {p : Program} {l : Launch} {e : Env} {s : State} {m : MethodId} {args : Array Value} {below : List Frame} {meth : Method} {c : Code} {G : Gc} {A : Nat → Prop} {a_this : Nat} {a_source : Nat} {a_tree : Nat} {a_builder : Nat} {a_tag : Nat} {a_source_row : Nat} {a_tree_codes : Nat} {a_tree_begins : Nat} {a_tree_ends : Nat} {a_tree_characters : Nat} {a_tree_attributeLetters : Nat} {a_tree_valueBegins : Nat} {a_tree_valueEnds : Nat} {a_tree_values : Nat} {a_tree_characters_row : Nat} {a_tree_values_row : Nat} {a_builder_open : Nat} {a_builder_open_names : Nat} {a_builder_open_foreigns : Nat} {a_tag_begins : Nat} {a_tag_ends : Nat} {x_source_size : Int32} {x_source_overflowed : Int32} {x_source_row : Nat → Int32}  {Q : State → Prop} {o : Int32 × Int32 × Int32 × Int32 × (Nat → Int32) × (Nat → Int32) × (Nat → Int32) × Int32 × Int32 × (Nat → Int32) × (Nat → Int32) × (Nat → Int32) × (Nat → Int32) × Int32 × Int32 × (Nat → Int32) × Int32 × (Nat → Int32) × (Nat → Int32) × Int32 × Int32 × Int32 × (Nat → Int32) × (Nat → Int32)} (hX : ms_CX p s m args meth c cX4_readAll 2 RX4 (some (.object "MarkupSieve$Tree")) G A) (hq : ∀ (H : Heap) (locs : List Loc) (ls : Array Slot), ms_W G A s H locs [ob_X4 a_this a_source a_tree a_builder a_tag o.1 o.2.1, ob_X1 a_source a_source_row x_source_size x_source_overflowed, (a_source_row, .inl (G.2.1 0, 200, .inl x_source_row)), ob_X7 a_tree a_tree_codes a_tree_begins a_tree_ends o.2.2.1 a_tree_characters a_tree_attributeLetters a_tree_valueBegins a_tree_valueEnds o.2.2.2.1 a_tree_values, (a_tree_codes, .inl (G.2.1 1, 200, .inl o.2.2.2.2.1)), (a_tree_begins, .inl (G.2.1 1, 200, .inl o.2.2.2.2.2.1)), (a_tree_ends, .inl (G.2.1 1, 200, .inl o.2.2.2.2.2.2.1)), ob_X1 a_tree_characters a_tree_characters_row o.2.2.2.2.2.2.2.1 o.2.2.2.2.2.2.2.2.1, (a_tree_characters_row, .inl (G.2.1 0, 200, .inl o.2.2.2.2.2.2.2.2.2.1)), (a_tree_attributeLetters, .inl (G.2.1 1, 100, .inl o.2.2.2.2.2.2.2.2.2.2.1)), (a_tree_valueBegins, .inl (G.2.1 1, 100, .inl o.2.2.2.2.2.2.2.2.2.2.2.1)), (a_tree_valueEnds, .inl (G.2.1 1, 100, .inl o.2.2.2.2.2.2.2.2.2.2.2.2.1)), ob_X1 a_tree_values a_tree_values_row o.2.2.2.2.2.2.2.2.2.2.2.2.2.1 o.2.2.2.2.2.2.2.2.2.2.2.2.2.2.1, (a_tree_values_row, .inl (G.2.1 0, 200, .inl o.2.2.2.2.2.2.2.2.2.2.2.2.2.2.2.1)), ob_X0 a_builder a_source a_tree a_builder_open, ob_X2 a_builder_open a_builder_open_names a_builder_open_foreigns o.2.2.2.2.2.2.2.2.2.2.2.2.2.2.2.2.1, (a_builder_open_names, .inl (G.2.1 1, 8, .inl o.2.2.2.2.2.2.2.2.2.2.2.2.2.2.2.2.2.1)), (a_builder_open_foreigns, .inl (G.2.1 3, 8, .inl o.2.2.2.2.2.2.2.2.2.2.2.2.2.2.2.2.2.2.1)), ob_X6 a_tag a_tag_begins a_tag_ends o.2.2.2.2.2.2.2.2.2.2.2.2.2.2.2.2.2.2.2.1 o.2.2.2.2.2.2.2.2.2.2.2.2.2.2.2.2.2.2.2.2.1 o.2.2.2.2.2.2.2.2.2.2.2.2.2.2.2.2.2.2.2.2.2.1, (a_tag_begins, .inl (G.2.1 1, 26, .inl o.2.2.2.2.2.2.2.2.2.2.2.2.2.2.2.2.2.2.2.2.2.2.1)), (a_tag_ends, .inl (G.2.1 1, 26, .inl o.2.2.2.2.2.2.2.2.2.2.2.2.2.2.2.2.2.2.2.2.2.2.2))] → lv_has ls 2 [(0, .ref a_this)] → W p l e rm_X4_readAll s m args below meth c H locs 0 0 Q (F0 m 145 ls [])) : ∀ (n : Nat) (x_at : Int32) (x_rawDue : Int32) (x_tree_count : Int32) (x_tree_attributeCount : Int32) (x_tree_codes : Nat → Int32) (x_tree_begins : Nat → Int32) (x_tree_ends : Nat → Int32) (x_tree_characters_size : Int32) (x_tree_characters_overflowed : Int32) (x_tree_characters_row : Nat → Int32) (x_tree_attributeLetters : Nat → Int32) (x_tree_valueBegins : Nat → Int32) (x_tree_valueEnds : Nat → Int32) (x_tree_values_size : Int32) (x_tree_values_overflowed : Int32) (x_tree_values_row : Nat → Int32) (x_builder_open_count : Int32) (x_builder_open_names : Nat → Int32) (x_builder_open_foreigns : Nat → Int32) (x_tag_had : Int32) (x_tag_name : Int32) (x_tag_ending : Int32) (x_tag_begins : Nat → Int32) (x_tag_ends : Nat → Int32) (v1 : Int32) (H : Heap) (locs : List Loc) (ls : Array Slot), f_X4_readAll_L19 x_source_size x_source_row n x_at x_rawDue x_tree_count x_tree_attributeCount x_tree_codes x_tree_begins x_tree_ends x_tree_characters_size x_tree_characters_overflowed x_tree_characters_row x_tree_attributeLetters x_tree_valueBegins x_tree_valueEnds x_tree_values_size x_tree_values_overflowed x_tree_values_row x_builder_open_count x_builder_open_names x_builder_open_foreigns x_tag_had x_tag_name x_tag_ending x_tag_begins x_tag_ends v1 = some o → ms_W G A s H locs [ob_X4 a_this a_source a_tree a_builder a_tag x_at x_rawDue, ob_X1 a_source a_source_row x_source_size x_source_overflowed, (a_source_row, .inl (G.2.1 0, 200, .inl x_source_row)), ob_X7 a_tree a_tree_codes a_tree_begins a_tree_ends x_tree_count a_tree_characters a_tree_attributeLetters a_tree_valueBegins a_tree_valueEnds x_tree_attributeCount a_tree_values, (a_tree_codes, .inl (G.2.1 1, 200, .inl x_tree_codes)), (a_tree_begins, .inl (G.2.1 1, 200, .inl x_tree_begins)), (a_tree_ends, .inl (G.2.1 1, 200, .inl x_tree_ends)), ob_X1 a_tree_characters a_tree_characters_row x_tree_characters_size x_tree_characters_overflowed, (a_tree_characters_row, .inl (G.2.1 0, 200, .inl x_tree_characters_row)), (a_tree_attributeLetters, .inl (G.2.1 1, 100, .inl x_tree_attributeLetters)), (a_tree_valueBegins, .inl (G.2.1 1, 100, .inl x_tree_valueBegins)), (a_tree_valueEnds, .inl (G.2.1 1, 100, .inl x_tree_valueEnds)), ob_X1 a_tree_values a_tree_values_row x_tree_values_size x_tree_values_overflowed, (a_tree_values_row, .inl (G.2.1 0, 200, .inl x_tree_values_row)), ob_X0 a_builder a_source a_tree a_builder_open, ob_X2 a_builder_open a_builder_open_names a_builder_open_foreigns x_builder_open_count, (a_builder_open_names, .inl (G.2.1 1, 8, .inl x_builder_open_names)), (a_builder_open_foreigns, .inl (G.2.1 3, 8, .inl x_builder_open_foreigns)), ob_X6 a_tag a_tag_begins a_tag_ends x_tag_had x_tag_name x_tag_ending, (a_tag_begins, .inl (G.2.1 1, 26, .inl x_tag_begins)), (a_tag_ends, .inl (G.2.1 1, 26, .inl x_tag_ends))] → lv_has ls 2 [(0, .ref a_this), (1, .int v1)] → W p l e rm_X4_readAll s m args below meth c H locs 0 0 Q (F0 m 19 ls []) := by
  have hx := hX.1.1
  have hb := hX.1.2.1
  intro n
  induction n with
  | zero => intro x_at x_rawDue x_tree_count x_tree_attributeCount x_tree_codes x_tree_begins x_tree_ends x_tree_characters_size x_tree_characters_overflowed x_tree_characters_row x_tree_attributeLetters x_tree_valueBegins x_tree_valueEnds x_tree_values_size x_tree_values_overflowed x_tree_values_row x_builder_open_count x_builder_open_names x_builder_open_foreigns x_tag_had x_tag_name x_tag_ending x_tag_begins x_tag_ends v1 H locs ls h; rw [f_X4_readAll_L19] at h; cases h
  | succ n ih =>
    intro x_at x_rawDue x_tree_count x_tree_attributeCount x_tree_codes x_tree_begins x_tree_ends x_tree_characters_size x_tree_characters_overflowed x_tree_characters_row x_tree_attributeLetters x_tree_valueBegins x_tree_valueEnds x_tree_values_size x_tree_values_overflowed x_tree_values_row x_builder_open_count x_builder_open_names x_builder_open_foreigns x_tag_had x_tag_name x_tag_ending x_tag_begins x_tag_ends v1 H locs ls h hW hl
    rw [f_X4_readAll_L19] at h
    refine lv_iload_n hx hb dX4_readAll_19 rfl (lv_at hl 1 rfl) ?_
    refine lv_sipush (v := 200) hx hb dX4_readAll_20 (by decide) ?_
    refine lv_icmp_ge (tgt := 145) hx hb dX4_readAll_23 (by decide) (fun k => ?_) (fun k => ?_)
    · have h := ms_ifp h k
      obtain rfl := Option.some.inj h
      exact hq _ _ _ hW (lv_sub hl [0] rfl)
    · have h := ms_ifn h k
      refine lv_aload_n hx hb dX4_readAll_26 rfl (lv_at hl 0 rfl) ?_
      refine ms_get ff_X4_35 hX hW 0 rfl rfl dX4_readAll_27 ?_
      refine lv_aload_n hx hb dX4_readAll_30 rfl (lv_at hl 0 rfl) ?_
      refine ms_get ff_X4_9 hX hW 0 rfl rfl dX4_readAll_31 ?_
      obtain ⟨q34, hq34, h⟩ := ms_bd h
      refine ms_callV (fn_X1_size l G a_source a_source_row x_source_size x_source_overflowed hq34) wm_X1_size wv_X4_46 hX hW [1] rfl rfl rfl rfl rfl ⟨Nat.le_of_ble_eq_true rfl, Nat.le_of_ble_eq_true rfl, rfl, rfl, Nat.zero_le _, Nat.zero_le _⟩ rfl hl.1 [.int x_at] rfl (Nat.le_of_ble_eq_true rfl) dX4_readAll_34 (fun H locs hW => ?_)
      have hW : ms_W G A s H locs [ob_X4 a_this a_source a_tree a_builder a_tag x_at x_rawDue, ob_X1 a_source a_source_row x_source_size x_source_overflowed, (a_source_row, .inl (G.2.1 0, 200, .inl x_source_row)), ob_X7 a_tree a_tree_codes a_tree_begins a_tree_ends x_tree_count a_tree_characters a_tree_attributeLetters a_tree_valueBegins a_tree_valueEnds x_tree_attributeCount a_tree_values, (a_tree_codes, .inl (G.2.1 1, 200, .inl x_tree_codes)), (a_tree_begins, .inl (G.2.1 1, 200, .inl x_tree_begins)), (a_tree_ends, .inl (G.2.1 1, 200, .inl x_tree_ends)), ob_X1 a_tree_characters a_tree_characters_row x_tree_characters_size x_tree_characters_overflowed, (a_tree_characters_row, .inl (G.2.1 0, 200, .inl x_tree_characters_row)), (a_tree_attributeLetters, .inl (G.2.1 1, 100, .inl x_tree_attributeLetters)), (a_tree_valueBegins, .inl (G.2.1 1, 100, .inl x_tree_valueBegins)), (a_tree_valueEnds, .inl (G.2.1 1, 100, .inl x_tree_valueEnds)), ob_X1 a_tree_values a_tree_values_row x_tree_values_size x_tree_values_overflowed, (a_tree_values_row, .inl (G.2.1 0, 200, .inl x_tree_values_row)), ob_X0 a_builder a_source a_tree a_builder_open, ob_X2 a_builder_open a_builder_open_names a_builder_open_foreigns x_builder_open_count, (a_builder_open_names, .inl (G.2.1 1, 8, .inl x_builder_open_names)), (a_builder_open_foreigns, .inl (G.2.1 3, 8, .inl x_builder_open_foreigns)), ob_X6 a_tag a_tag_begins a_tag_ends x_tag_had x_tag_name x_tag_ending, (a_tag_begins, .inl (G.2.1 1, 26, .inl x_tag_begins)), (a_tag_ends, .inl (G.2.1 1, 26, .inl x_tag_ends))] := hW
      refine W.eq (g2 := F0 m 37 ls [.int q34, .int x_at]) rfl ?_
      refine lv_icmp_ge (tgt := 145) hx hb dX4_readAll_37 (by decide) (fun k => ?_) (fun k => ?_)
      · have h := ms_ifp h k
        obtain rfl := Option.some.inj h
        exact hq _ _ _ hW (lv_sub hl [0] rfl)
      · have h := ms_ifn h k
        refine lv_aload_n hx hb dX4_readAll_40 rfl (lv_at hl 0 rfl) ?_
        refine ms_get ff_X4_39 hX hW 0 rfl rfl dX4_readAll_41 ?_
        refine lv_if_eq (tgt := 54) hx hb dX4_readAll_44 (by decide) (fun k => ?_) (fun k => ?_)
        · have h := ms_ifp h k
          refine lv_aload_n hx hb dX4_readAll_54 rfl (lv_at hl 0 rfl) ?_
          refine lv_aload_n hx hb dX4_readAll_55 rfl (lv_at hl 0 rfl) ?_
          refine ms_get ff_X4_35 hX hW 0 rfl rfl dX4_readAll_56 ?_
          obtain ⟨q59, hq59, h⟩ := ms_bd h
          refine ms_callV (fn_X4_isMarkup l G a_this a_source a_tree a_builder a_tag a_source_row x_at x_rawDue x_source_size x_source_overflowed x_source_row x_at hq59) wm_X4_isMarkup wv_X4_55 hX hW [0, 1, 2] rfl rfl rfl rfl rfl ⟨Nat.le_of_ble_eq_true rfl, Nat.le_of_ble_eq_true rfl, rfl, rfl, Nat.zero_le _, Nat.zero_le _⟩ rfl hl.1 [] rfl (Nat.le_of_ble_eq_true rfl) dX4_readAll_59 (fun H locs hW => ?_)
          have hW : ms_W G A s H locs [ob_X4 a_this a_source a_tree a_builder a_tag x_at x_rawDue, ob_X1 a_source a_source_row x_source_size x_source_overflowed, (a_source_row, .inl (G.2.1 0, 200, .inl x_source_row)), ob_X7 a_tree a_tree_codes a_tree_begins a_tree_ends x_tree_count a_tree_characters a_tree_attributeLetters a_tree_valueBegins a_tree_valueEnds x_tree_attributeCount a_tree_values, (a_tree_codes, .inl (G.2.1 1, 200, .inl x_tree_codes)), (a_tree_begins, .inl (G.2.1 1, 200, .inl x_tree_begins)), (a_tree_ends, .inl (G.2.1 1, 200, .inl x_tree_ends)), ob_X1 a_tree_characters a_tree_characters_row x_tree_characters_size x_tree_characters_overflowed, (a_tree_characters_row, .inl (G.2.1 0, 200, .inl x_tree_characters_row)), (a_tree_attributeLetters, .inl (G.2.1 1, 100, .inl x_tree_attributeLetters)), (a_tree_valueBegins, .inl (G.2.1 1, 100, .inl x_tree_valueBegins)), (a_tree_valueEnds, .inl (G.2.1 1, 100, .inl x_tree_valueEnds)), ob_X1 a_tree_values a_tree_values_row x_tree_values_size x_tree_values_overflowed, (a_tree_values_row, .inl (G.2.1 0, 200, .inl x_tree_values_row)), ob_X0 a_builder a_source a_tree a_builder_open, ob_X2 a_builder_open a_builder_open_names a_builder_open_foreigns x_builder_open_count, (a_builder_open_names, .inl (G.2.1 1, 8, .inl x_builder_open_names)), (a_builder_open_foreigns, .inl (G.2.1 3, 8, .inl x_builder_open_foreigns)), ob_X6 a_tag a_tag_begins a_tag_ends x_tag_had x_tag_name x_tag_ending, (a_tag_begins, .inl (G.2.1 1, 26, .inl x_tag_begins)), (a_tag_ends, .inl (G.2.1 1, 26, .inl x_tag_ends))] := hW
          refine W.eq (g2 := F0 m 62 ls [.int q59]) rfl ?_
          refine lv_if_ne (tgt := 72) hx hb dX4_readAll_62 (by decide) (fun k => ?_) (fun k => ?_)
          · have h := ms_ifn h k
            refine lv_aload_n hx hb dX4_readAll_72 rfl (lv_at hl 0 rfl) ?_
            refine lv_aload_n hx hb dX4_readAll_73 rfl (lv_at hl 0 rfl) ?_
            refine ms_get ff_X4_35 hX hW 0 rfl rfl dX4_readAll_74 ?_
            obtain ⟨q77, hq77, h⟩ := ms_bd h
            refine ms_callV (fn_X4_isTag l G a_this a_source a_tree a_builder a_tag a_source_row x_at x_rawDue x_source_size x_source_overflowed x_source_row x_at hq77) wm_X4_isTag wv_X4_62 hX hW [0, 1, 2] rfl rfl rfl rfl rfl ⟨Nat.le_of_ble_eq_true rfl, Nat.le_of_ble_eq_true rfl, rfl, rfl, Nat.zero_le _, Nat.zero_le _⟩ rfl hl.1 [] rfl (Nat.le_of_ble_eq_true rfl) dX4_readAll_77 (fun H locs hW => ?_)
            have hW : ms_W G A s H locs [ob_X4 a_this a_source a_tree a_builder a_tag x_at x_rawDue, ob_X1 a_source a_source_row x_source_size x_source_overflowed, (a_source_row, .inl (G.2.1 0, 200, .inl x_source_row)), ob_X7 a_tree a_tree_codes a_tree_begins a_tree_ends x_tree_count a_tree_characters a_tree_attributeLetters a_tree_valueBegins a_tree_valueEnds x_tree_attributeCount a_tree_values, (a_tree_codes, .inl (G.2.1 1, 200, .inl x_tree_codes)), (a_tree_begins, .inl (G.2.1 1, 200, .inl x_tree_begins)), (a_tree_ends, .inl (G.2.1 1, 200, .inl x_tree_ends)), ob_X1 a_tree_characters a_tree_characters_row x_tree_characters_size x_tree_characters_overflowed, (a_tree_characters_row, .inl (G.2.1 0, 200, .inl x_tree_characters_row)), (a_tree_attributeLetters, .inl (G.2.1 1, 100, .inl x_tree_attributeLetters)), (a_tree_valueBegins, .inl (G.2.1 1, 100, .inl x_tree_valueBegins)), (a_tree_valueEnds, .inl (G.2.1 1, 100, .inl x_tree_valueEnds)), ob_X1 a_tree_values a_tree_values_row x_tree_values_size x_tree_values_overflowed, (a_tree_values_row, .inl (G.2.1 0, 200, .inl x_tree_values_row)), ob_X0 a_builder a_source a_tree a_builder_open, ob_X2 a_builder_open a_builder_open_names a_builder_open_foreigns x_builder_open_count, (a_builder_open_names, .inl (G.2.1 1, 8, .inl x_builder_open_names)), (a_builder_open_foreigns, .inl (G.2.1 3, 8, .inl x_builder_open_foreigns)), ob_X6 a_tag a_tag_begins a_tag_ends x_tag_had x_tag_name x_tag_ending, (a_tag_begins, .inl (G.2.1 1, 26, .inl x_tag_begins)), (a_tag_ends, .inl (G.2.1 1, 26, .inl x_tag_ends))] := hW
            refine W.eq (g2 := F0 m 80 ls [.int q77]) rfl ?_
            refine lv_if_ne (tgt := 90) hx hb dX4_readAll_80 (by decide) (fun k => ?_) (fun k => ?_)
            · have h := ms_ifn h k
              refine lv_aload_n hx hb dX4_readAll_90 rfl (lv_at hl 0 rfl) ?_
              obtain ⟨q91, hq91, h⟩ := ms_bd h
              refine ms_callV (fn_X4_readTag l G a_this a_source a_tree a_builder a_tag a_source_row a_tag_begins a_tag_ends x_at x_rawDue x_source_size x_source_overflowed x_source_row x_tag_had x_tag_name x_tag_ending x_tag_begins x_tag_ends hq91) wm_X4_readTag wv_X4_68 hX hW [0, 1, 2, 18, 19, 20] rfl rfl rfl rfl rfl ⟨Nat.le_of_ble_eq_true rfl, Nat.le_of_ble_eq_true rfl, rfl, rfl, Nat.zero_le _, Nat.zero_le _⟩ rfl hl.1 [] rfl (Nat.le_of_ble_eq_true rfl) dX4_readAll_91 (fun H locs hW => ?_)
              have hW : ms_W G A s H locs [ob_X4 a_this a_source a_tree a_builder a_tag q91.1 x_rawDue, ob_X1 a_source a_source_row x_source_size x_source_overflowed, (a_source_row, .inl (G.2.1 0, 200, .inl x_source_row)), ob_X7 a_tree a_tree_codes a_tree_begins a_tree_ends x_tree_count a_tree_characters a_tree_attributeLetters a_tree_valueBegins a_tree_valueEnds x_tree_attributeCount a_tree_values, (a_tree_codes, .inl (G.2.1 1, 200, .inl x_tree_codes)), (a_tree_begins, .inl (G.2.1 1, 200, .inl x_tree_begins)), (a_tree_ends, .inl (G.2.1 1, 200, .inl x_tree_ends)), ob_X1 a_tree_characters a_tree_characters_row x_tree_characters_size x_tree_characters_overflowed, (a_tree_characters_row, .inl (G.2.1 0, 200, .inl x_tree_characters_row)), (a_tree_attributeLetters, .inl (G.2.1 1, 100, .inl x_tree_attributeLetters)), (a_tree_valueBegins, .inl (G.2.1 1, 100, .inl x_tree_valueBegins)), (a_tree_valueEnds, .inl (G.2.1 1, 100, .inl x_tree_valueEnds)), ob_X1 a_tree_values a_tree_values_row x_tree_values_size x_tree_values_overflowed, (a_tree_values_row, .inl (G.2.1 0, 200, .inl x_tree_values_row)), ob_X0 a_builder a_source a_tree a_builder_open, ob_X2 a_builder_open a_builder_open_names a_builder_open_foreigns x_builder_open_count, (a_builder_open_names, .inl (G.2.1 1, 8, .inl x_builder_open_names)), (a_builder_open_foreigns, .inl (G.2.1 3, 8, .inl x_builder_open_foreigns)), ob_X6 a_tag a_tag_begins a_tag_ends q91.2.1 q91.2.2.1 q91.2.2.2.1, (a_tag_begins, .inl (G.2.1 1, 26, .inl q91.2.2.2.2.1)), (a_tag_ends, .inl (G.2.1 1, 26, .inl q91.2.2.2.2.2.1))] := hW
              refine W.eq (g2 := F0 m 94 ls [.int q91.2.2.2.2.2.2]) rfl ?_
              refine lv_if_eq (tgt := 139) hx hb dX4_readAll_94 (by decide) (fun k => ?_) (fun k => ?_)
              · have h := ms_ifp h k
                exact wb_X4_readAll_L139 hX hq (ih) h hW (lv_sub hl [0, 1] rfl)
              · have h := ms_ifn h k
                refine lv_aload_n hx hb dX4_readAll_97 rfl (lv_at hl 0 rfl) ?_
                refine ms_get ff_X4_31 hX hW 0 rfl rfl dX4_readAll_98 ?_
                obtain ⟨q101, hq101, h⟩ := ms_bd h
                refine ms_callV (fn_X6_isEnding l G a_tag a_tag_begins a_tag_ends q91.2.1 q91.2.2.1 q91.2.2.2.1 hq101) wm_X6_isEnding wv_X4_72 hX hW [18] rfl rfl rfl rfl rfl ⟨Nat.le_of_ble_eq_true rfl, Nat.le_of_ble_eq_true rfl, rfl, rfl, Nat.zero_le _, Nat.zero_le _⟩ rfl hl.1 [] rfl (Nat.le_of_ble_eq_true rfl) dX4_readAll_101 (fun H locs hW => ?_)
                have hW : ms_W G A s H locs [ob_X4 a_this a_source a_tree a_builder a_tag q91.1 x_rawDue, ob_X1 a_source a_source_row x_source_size x_source_overflowed, (a_source_row, .inl (G.2.1 0, 200, .inl x_source_row)), ob_X7 a_tree a_tree_codes a_tree_begins a_tree_ends x_tree_count a_tree_characters a_tree_attributeLetters a_tree_valueBegins a_tree_valueEnds x_tree_attributeCount a_tree_values, (a_tree_codes, .inl (G.2.1 1, 200, .inl x_tree_codes)), (a_tree_begins, .inl (G.2.1 1, 200, .inl x_tree_begins)), (a_tree_ends, .inl (G.2.1 1, 200, .inl x_tree_ends)), ob_X1 a_tree_characters a_tree_characters_row x_tree_characters_size x_tree_characters_overflowed, (a_tree_characters_row, .inl (G.2.1 0, 200, .inl x_tree_characters_row)), (a_tree_attributeLetters, .inl (G.2.1 1, 100, .inl x_tree_attributeLetters)), (a_tree_valueBegins, .inl (G.2.1 1, 100, .inl x_tree_valueBegins)), (a_tree_valueEnds, .inl (G.2.1 1, 100, .inl x_tree_valueEnds)), ob_X1 a_tree_values a_tree_values_row x_tree_values_size x_tree_values_overflowed, (a_tree_values_row, .inl (G.2.1 0, 200, .inl x_tree_values_row)), ob_X0 a_builder a_source a_tree a_builder_open, ob_X2 a_builder_open a_builder_open_names a_builder_open_foreigns x_builder_open_count, (a_builder_open_names, .inl (G.2.1 1, 8, .inl x_builder_open_names)), (a_builder_open_foreigns, .inl (G.2.1 3, 8, .inl x_builder_open_foreigns)), ob_X6 a_tag a_tag_begins a_tag_ends q91.2.1 q91.2.2.1 q91.2.2.2.1, (a_tag_begins, .inl (G.2.1 1, 26, .inl q91.2.2.2.2.1)), (a_tag_ends, .inl (G.2.1 1, 26, .inl q91.2.2.2.2.2.1))] := hW
                refine W.eq (g2 := F0 m 104 ls [.int q101]) rfl ?_
                refine lv_if_eq (tgt := 124) hx hb dX4_readAll_104 (by decide) (fun k => ?_) (fun k => ?_)
                · have h := ms_ifp h k
                  refine lv_aload_n hx hb dX4_readAll_124 rfl (lv_at hl 0 rfl) ?_
                  refine lv_aload_n hx hb dX4_readAll_125 rfl (lv_at hl 0 rfl) ?_
                  refine ms_get ff_X4_24 hX hW 0 rfl rfl dX4_readAll_126 ?_
                  refine lv_aload_n hx hb dX4_readAll_129 rfl (lv_at hl 0 rfl) ?_
                  refine ms_get ff_X4_31 hX hW 0 rfl rfl dX4_readAll_130 ?_
                  obtain ⟨q133, hq133, h⟩ := ms_bd h
                  refine ms_callV (fn_X0_start l G a_builder a_source a_tree a_builder_open a_source_row a_tree_codes a_tree_begins a_tree_ends a_tree_characters a_tree_attributeLetters a_tree_valueBegins a_tree_valueEnds a_tree_values a_tree_values_row a_builder_open_names a_builder_open_foreigns a_tag a_tag_begins a_tag_ends x_source_size x_source_overflowed x_source_row x_tree_count x_tree_attributeCount x_tree_codes x_tree_begins x_tree_ends x_tree_attributeLetters x_tree_valueBegins x_tree_valueEnds x_tree_values_size x_tree_values_overflowed x_tree_values_row x_builder_open_count x_builder_open_names x_builder_open_foreigns q91.2.1 q91.2.2.1 q91.2.2.2.1 q91.2.2.2.2.1 q91.2.2.2.2.2.1 hq133) wm_X0_start wv_X4_82 hX hW [14, 1, 2, 3, 4, 5, 6, 9, 10, 11, 12, 13, 15, 16, 17, 18, 19, 20] rfl rfl rfl rfl rfl ⟨Nat.le_of_ble_eq_true rfl, Nat.le_of_ble_eq_true rfl, rfl, rfl, Nat.zero_le _, Nat.zero_le _⟩ rfl hl.1 [.ref a_this] rfl (Nat.le_of_ble_eq_true rfl) dX4_readAll_133 (fun H locs hW => ?_)
                  have hW : ms_W G A s H locs [ob_X4 a_this a_source a_tree a_builder a_tag q91.1 x_rawDue, ob_X1 a_source a_source_row x_source_size x_source_overflowed, (a_source_row, .inl (G.2.1 0, 200, .inl x_source_row)), ob_X7 a_tree a_tree_codes a_tree_begins a_tree_ends q133.1 a_tree_characters a_tree_attributeLetters a_tree_valueBegins a_tree_valueEnds q133.2.1 a_tree_values, (a_tree_codes, .inl (G.2.1 1, 200, .inl q133.2.2.1)), (a_tree_begins, .inl (G.2.1 1, 200, .inl q133.2.2.2.1)), (a_tree_ends, .inl (G.2.1 1, 200, .inl q133.2.2.2.2.1)), ob_X1 a_tree_characters a_tree_characters_row x_tree_characters_size x_tree_characters_overflowed, (a_tree_characters_row, .inl (G.2.1 0, 200, .inl x_tree_characters_row)), (a_tree_attributeLetters, .inl (G.2.1 1, 100, .inl q133.2.2.2.2.2.1)), (a_tree_valueBegins, .inl (G.2.1 1, 100, .inl q133.2.2.2.2.2.2.1)), (a_tree_valueEnds, .inl (G.2.1 1, 100, .inl q133.2.2.2.2.2.2.2.1)), ob_X1 a_tree_values a_tree_values_row q133.2.2.2.2.2.2.2.2.1 q133.2.2.2.2.2.2.2.2.2.1, (a_tree_values_row, .inl (G.2.1 0, 200, .inl q133.2.2.2.2.2.2.2.2.2.2.1)), ob_X0 a_builder a_source a_tree a_builder_open, ob_X2 a_builder_open a_builder_open_names a_builder_open_foreigns q133.2.2.2.2.2.2.2.2.2.2.2.1, (a_builder_open_names, .inl (G.2.1 1, 8, .inl q133.2.2.2.2.2.2.2.2.2.2.2.2.1)), (a_builder_open_foreigns, .inl (G.2.1 3, 8, .inl q133.2.2.2.2.2.2.2.2.2.2.2.2.2.1)), ob_X6 a_tag a_tag_begins a_tag_ends q91.2.1 q91.2.2.1 q91.2.2.2.1, (a_tag_begins, .inl (G.2.1 1, 26, .inl q91.2.2.2.2.1)), (a_tag_ends, .inl (G.2.1 1, 26, .inl q91.2.2.2.2.2.1))] := hW
                  refine W.eq (g2 := F0 m 136 ls [.int q133.2.2.2.2.2.2.2.2.2.2.2.2.2.2, .ref a_this]) rfl ?_
                  obtain ⟨k, h⟩ := ms_gz_some h
                  refine ms_put ff_X4_39 fp_X4_5 rfl hX hW 0 rfl (ms_nz k) (ms_fz k) (Nat.le_of_ble_eq_true rfl) dX4_readAll_136 (fun H locs hW => ?_)
                  have hW : ms_W G A s H locs [ob_X4 a_this a_source a_tree a_builder a_tag q91.1 q133.2.2.2.2.2.2.2.2.2.2.2.2.2.2, ob_X1 a_source a_source_row x_source_size x_source_overflowed, (a_source_row, .inl (G.2.1 0, 200, .inl x_source_row)), ob_X7 a_tree a_tree_codes a_tree_begins a_tree_ends q133.1 a_tree_characters a_tree_attributeLetters a_tree_valueBegins a_tree_valueEnds q133.2.1 a_tree_values, (a_tree_codes, .inl (G.2.1 1, 200, .inl q133.2.2.1)), (a_tree_begins, .inl (G.2.1 1, 200, .inl q133.2.2.2.1)), (a_tree_ends, .inl (G.2.1 1, 200, .inl q133.2.2.2.2.1)), ob_X1 a_tree_characters a_tree_characters_row x_tree_characters_size x_tree_characters_overflowed, (a_tree_characters_row, .inl (G.2.1 0, 200, .inl x_tree_characters_row)), (a_tree_attributeLetters, .inl (G.2.1 1, 100, .inl q133.2.2.2.2.2.1)), (a_tree_valueBegins, .inl (G.2.1 1, 100, .inl q133.2.2.2.2.2.2.1)), (a_tree_valueEnds, .inl (G.2.1 1, 100, .inl q133.2.2.2.2.2.2.2.1)), ob_X1 a_tree_values a_tree_values_row q133.2.2.2.2.2.2.2.2.1 q133.2.2.2.2.2.2.2.2.2.1, (a_tree_values_row, .inl (G.2.1 0, 200, .inl q133.2.2.2.2.2.2.2.2.2.2.1)), ob_X0 a_builder a_source a_tree a_builder_open, ob_X2 a_builder_open a_builder_open_names a_builder_open_foreigns q133.2.2.2.2.2.2.2.2.2.2.2.1, (a_builder_open_names, .inl (G.2.1 1, 8, .inl q133.2.2.2.2.2.2.2.2.2.2.2.2.1)), (a_builder_open_foreigns, .inl (G.2.1 3, 8, .inl q133.2.2.2.2.2.2.2.2.2.2.2.2.2.1)), ob_X6 a_tag a_tag_begins a_tag_ends q91.2.1 q91.2.2.1 q91.2.2.2.1, (a_tag_begins, .inl (G.2.1 1, 26, .inl q91.2.2.2.2.1)), (a_tag_ends, .inl (G.2.1 1, 26, .inl q91.2.2.2.2.2.1))] := hW
                  exact wb_X4_readAll_L139 hX hq (ih) h hW (lv_sub hl [0, 1] rfl)
                · have h := ms_ifn h k
                  refine lv_aload_n hx hb dX4_readAll_107 rfl (lv_at hl 0 rfl) ?_
                  refine ms_get ff_X4_24 hX hW 0 rfl rfl dX4_readAll_108 ?_
                  refine lv_aload_n hx hb dX4_readAll_111 rfl (lv_at hl 0 rfl) ?_
                  refine ms_get ff_X4_31 hX hW 0 rfl rfl dX4_readAll_112 ?_
                  obtain ⟨q115, hq115, h⟩ := ms_bd h
                  refine ms_callV (fn_X6_name l G a_tag a_tag_begins a_tag_ends q91.2.1 q91.2.2.1 q91.2.2.2.1 hq115) wm_X6_name wv_X4_75 hX hW [18] rfl rfl rfl rfl rfl ⟨Nat.le_of_ble_eq_true rfl, Nat.le_of_ble_eq_true rfl, rfl, rfl, Nat.zero_le _, Nat.zero_le _⟩ rfl hl.1 [.ref a_builder] rfl (Nat.le_of_ble_eq_true rfl) dX4_readAll_115 (fun H locs hW => ?_)
                  have hW : ms_W G A s H locs [ob_X4 a_this a_source a_tree a_builder a_tag q91.1 x_rawDue, ob_X1 a_source a_source_row x_source_size x_source_overflowed, (a_source_row, .inl (G.2.1 0, 200, .inl x_source_row)), ob_X7 a_tree a_tree_codes a_tree_begins a_tree_ends x_tree_count a_tree_characters a_tree_attributeLetters a_tree_valueBegins a_tree_valueEnds x_tree_attributeCount a_tree_values, (a_tree_codes, .inl (G.2.1 1, 200, .inl x_tree_codes)), (a_tree_begins, .inl (G.2.1 1, 200, .inl x_tree_begins)), (a_tree_ends, .inl (G.2.1 1, 200, .inl x_tree_ends)), ob_X1 a_tree_characters a_tree_characters_row x_tree_characters_size x_tree_characters_overflowed, (a_tree_characters_row, .inl (G.2.1 0, 200, .inl x_tree_characters_row)), (a_tree_attributeLetters, .inl (G.2.1 1, 100, .inl x_tree_attributeLetters)), (a_tree_valueBegins, .inl (G.2.1 1, 100, .inl x_tree_valueBegins)), (a_tree_valueEnds, .inl (G.2.1 1, 100, .inl x_tree_valueEnds)), ob_X1 a_tree_values a_tree_values_row x_tree_values_size x_tree_values_overflowed, (a_tree_values_row, .inl (G.2.1 0, 200, .inl x_tree_values_row)), ob_X0 a_builder a_source a_tree a_builder_open, ob_X2 a_builder_open a_builder_open_names a_builder_open_foreigns x_builder_open_count, (a_builder_open_names, .inl (G.2.1 1, 8, .inl x_builder_open_names)), (a_builder_open_foreigns, .inl (G.2.1 3, 8, .inl x_builder_open_foreigns)), ob_X6 a_tag a_tag_begins a_tag_ends q91.2.1 q91.2.2.1 q91.2.2.2.1, (a_tag_begins, .inl (G.2.1 1, 26, .inl q91.2.2.2.2.1)), (a_tag_ends, .inl (G.2.1 1, 26, .inl q91.2.2.2.2.2.1))] := hW
                  refine W.eq (g2 := F0 m 118 ls [.int q115, .ref a_builder]) rfl ?_
                  obtain ⟨q118, hq118, h⟩ := ms_bd h
                  refine ms_callV (fn_X0_end l G a_builder a_source a_tree a_builder_open a_tree_codes a_tree_begins a_tree_ends a_tree_characters a_tree_attributeLetters a_tree_valueBegins a_tree_valueEnds a_tree_values a_builder_open_names a_builder_open_foreigns x_tree_count x_tree_attributeCount x_tree_codes x_tree_begins x_tree_ends x_builder_open_count x_builder_open_names x_builder_open_foreigns q115 hq118) wm_X0_end wv_X4_78 hX hW [14, 3, 4, 5, 6, 15, 16, 17] rfl rfl rfl rfl rfl ⟨Nat.le_of_ble_eq_true rfl, Nat.le_of_ble_eq_true rfl, rfl, rfl, Nat.zero_le _, Nat.zero_le _⟩ rfl hl.1 [] rfl (Nat.le_of_ble_eq_true rfl) dX4_readAll_118 (fun H locs hW => ?_)
                  have hW : ms_W G A s H locs [ob_X4 a_this a_source a_tree a_builder a_tag q91.1 x_rawDue, ob_X1 a_source a_source_row x_source_size x_source_overflowed, (a_source_row, .inl (G.2.1 0, 200, .inl x_source_row)), ob_X7 a_tree a_tree_codes a_tree_begins a_tree_ends q118.1 a_tree_characters a_tree_attributeLetters a_tree_valueBegins a_tree_valueEnds x_tree_attributeCount a_tree_values, (a_tree_codes, .inl (G.2.1 1, 200, .inl q118.2.1)), (a_tree_begins, .inl (G.2.1 1, 200, .inl q118.2.2.1)), (a_tree_ends, .inl (G.2.1 1, 200, .inl q118.2.2.2.1)), ob_X1 a_tree_characters a_tree_characters_row x_tree_characters_size x_tree_characters_overflowed, (a_tree_characters_row, .inl (G.2.1 0, 200, .inl x_tree_characters_row)), (a_tree_attributeLetters, .inl (G.2.1 1, 100, .inl x_tree_attributeLetters)), (a_tree_valueBegins, .inl (G.2.1 1, 100, .inl x_tree_valueBegins)), (a_tree_valueEnds, .inl (G.2.1 1, 100, .inl x_tree_valueEnds)), ob_X1 a_tree_values a_tree_values_row x_tree_values_size x_tree_values_overflowed, (a_tree_values_row, .inl (G.2.1 0, 200, .inl x_tree_values_row)), ob_X0 a_builder a_source a_tree a_builder_open, ob_X2 a_builder_open a_builder_open_names a_builder_open_foreigns q118.2.2.2.2.1, (a_builder_open_names, .inl (G.2.1 1, 8, .inl q118.2.2.2.2.2.1)), (a_builder_open_foreigns, .inl (G.2.1 3, 8, .inl q118.2.2.2.2.2.2)), ob_X6 a_tag a_tag_begins a_tag_ends q91.2.1 q91.2.2.1 q91.2.2.2.1, (a_tag_begins, .inl (G.2.1 1, 26, .inl q91.2.2.2.2.1)), (a_tag_ends, .inl (G.2.1 1, 26, .inl q91.2.2.2.2.2.1))] := hW
                  refine W.eq (g2 := F0 m 121 ls []) rfl ?_
                  refine lv_goto (tgt := 139) hx hb dX4_readAll_121 (by decide) ?_
                  exact wb_X4_readAll_L139 hX hq (ih) h hW (lv_sub hl [0, 1] rfl)
            · have h := ms_ifp h k
              refine lv_aload_n hx hb dX4_readAll_83 rfl (lv_at hl 0 rfl) ?_
              obtain ⟨q84, hq84, h⟩ := ms_bd h
              refine ms_callV (fn_X4_readComment l G a_this a_source a_tree a_builder a_tag a_source_row a_tree_codes a_tree_begins a_tree_ends a_tree_characters a_tree_attributeLetters a_tree_valueBegins a_tree_valueEnds a_tree_values a_tree_characters_row a_builder_open a_builder_open_names a_builder_open_foreigns x_at x_rawDue x_source_size x_source_overflowed x_source_row x_tree_count x_tree_attributeCount x_tree_codes x_tree_begins x_tree_ends x_tree_characters_size x_tree_characters_overflowed x_tree_characters_row x_builder_open_count hq84) wm_X4_readComment wv_X4_65 hX hW [0, 1, 2, 3, 4, 5, 6, 7, 8, 14, 15] rfl rfl rfl rfl rfl ⟨Nat.le_of_ble_eq_true rfl, Nat.le_of_ble_eq_true rfl, rfl, rfl, Nat.zero_le _, Nat.zero_le _⟩ rfl hl.1 [] rfl (Nat.le_of_ble_eq_true rfl) dX4_readAll_84 (fun H locs hW => ?_)
              have hW : ms_W G A s H locs [ob_X4 a_this a_source a_tree a_builder a_tag q84.1 x_rawDue, ob_X1 a_source a_source_row x_source_size x_source_overflowed, (a_source_row, .inl (G.2.1 0, 200, .inl x_source_row)), ob_X7 a_tree a_tree_codes a_tree_begins a_tree_ends q84.2.1 a_tree_characters a_tree_attributeLetters a_tree_valueBegins a_tree_valueEnds x_tree_attributeCount a_tree_values, (a_tree_codes, .inl (G.2.1 1, 200, .inl q84.2.2.1)), (a_tree_begins, .inl (G.2.1 1, 200, .inl q84.2.2.2.1)), (a_tree_ends, .inl (G.2.1 1, 200, .inl q84.2.2.2.2.1)), ob_X1 a_tree_characters a_tree_characters_row q84.2.2.2.2.2.1 q84.2.2.2.2.2.2.1, (a_tree_characters_row, .inl (G.2.1 0, 200, .inl q84.2.2.2.2.2.2.2)), (a_tree_attributeLetters, .inl (G.2.1 1, 100, .inl x_tree_attributeLetters)), (a_tree_valueBegins, .inl (G.2.1 1, 100, .inl x_tree_valueBegins)), (a_tree_valueEnds, .inl (G.2.1 1, 100, .inl x_tree_valueEnds)), ob_X1 a_tree_values a_tree_values_row x_tree_values_size x_tree_values_overflowed, (a_tree_values_row, .inl (G.2.1 0, 200, .inl x_tree_values_row)), ob_X0 a_builder a_source a_tree a_builder_open, ob_X2 a_builder_open a_builder_open_names a_builder_open_foreigns x_builder_open_count, (a_builder_open_names, .inl (G.2.1 1, 8, .inl x_builder_open_names)), (a_builder_open_foreigns, .inl (G.2.1 3, 8, .inl x_builder_open_foreigns)), ob_X6 a_tag a_tag_begins a_tag_ends x_tag_had x_tag_name x_tag_ending, (a_tag_begins, .inl (G.2.1 1, 26, .inl x_tag_begins)), (a_tag_ends, .inl (G.2.1 1, 26, .inl x_tag_ends))] := hW
              refine W.eq (g2 := F0 m 87 ls []) rfl ?_
              refine lv_goto (tgt := 139) hx hb dX4_readAll_87 (by decide) ?_
              exact wb_X4_readAll_L139 hX hq (ih) h hW (lv_sub hl [0, 1] rfl)
          · have h := ms_ifp h k
            refine lv_aload_n hx hb dX4_readAll_65 rfl (lv_at hl 0 rfl) ?_
            obtain ⟨q66, hq66, h⟩ := ms_bd h
            refine ms_callV (fn_X4_readText l G a_this a_source a_tree a_builder a_tag a_source_row a_tree_codes a_tree_begins a_tree_ends a_tree_characters a_tree_attributeLetters a_tree_valueBegins a_tree_valueEnds a_tree_values a_tree_characters_row a_builder_open a_builder_open_names a_builder_open_foreigns x_at x_rawDue x_source_size x_source_overflowed x_source_row x_tree_count x_tree_attributeCount x_tree_codes x_tree_begins x_tree_ends x_tree_characters_size x_tree_characters_overflowed x_tree_characters_row x_builder_open_count hq66) wm_X4_readText wv_X4_59 hX hW [0, 1, 2, 3, 4, 5, 6, 7, 8, 14, 15] rfl rfl rfl rfl rfl ⟨Nat.le_of_ble_eq_true rfl, Nat.le_of_ble_eq_true rfl, rfl, rfl, Nat.zero_le _, Nat.zero_le _⟩ rfl hl.1 [] rfl (Nat.le_of_ble_eq_true rfl) dX4_readAll_66 (fun H locs hW => ?_)
            have hW : ms_W G A s H locs [ob_X4 a_this a_source a_tree a_builder a_tag q66.1 x_rawDue, ob_X1 a_source a_source_row x_source_size x_source_overflowed, (a_source_row, .inl (G.2.1 0, 200, .inl x_source_row)), ob_X7 a_tree a_tree_codes a_tree_begins a_tree_ends q66.2.1 a_tree_characters a_tree_attributeLetters a_tree_valueBegins a_tree_valueEnds x_tree_attributeCount a_tree_values, (a_tree_codes, .inl (G.2.1 1, 200, .inl q66.2.2.1)), (a_tree_begins, .inl (G.2.1 1, 200, .inl q66.2.2.2.1)), (a_tree_ends, .inl (G.2.1 1, 200, .inl q66.2.2.2.2.1)), ob_X1 a_tree_characters a_tree_characters_row q66.2.2.2.2.2.1 q66.2.2.2.2.2.2.1, (a_tree_characters_row, .inl (G.2.1 0, 200, .inl q66.2.2.2.2.2.2.2)), (a_tree_attributeLetters, .inl (G.2.1 1, 100, .inl x_tree_attributeLetters)), (a_tree_valueBegins, .inl (G.2.1 1, 100, .inl x_tree_valueBegins)), (a_tree_valueEnds, .inl (G.2.1 1, 100, .inl x_tree_valueEnds)), ob_X1 a_tree_values a_tree_values_row x_tree_values_size x_tree_values_overflowed, (a_tree_values_row, .inl (G.2.1 0, 200, .inl x_tree_values_row)), ob_X0 a_builder a_source a_tree a_builder_open, ob_X2 a_builder_open a_builder_open_names a_builder_open_foreigns x_builder_open_count, (a_builder_open_names, .inl (G.2.1 1, 8, .inl x_builder_open_names)), (a_builder_open_foreigns, .inl (G.2.1 3, 8, .inl x_builder_open_foreigns)), ob_X6 a_tag a_tag_begins a_tag_ends x_tag_had x_tag_name x_tag_ending, (a_tag_begins, .inl (G.2.1 1, 26, .inl x_tag_begins)), (a_tag_ends, .inl (G.2.1 1, 26, .inl x_tag_ends))] := hW
            refine W.eq (g2 := F0 m 69 ls []) rfl ?_
            refine lv_goto (tgt := 139) hx hb dX4_readAll_69 (by decide) ?_
            exact wb_X4_readAll_L139 hX hq (ih) h hW (lv_sub hl [0, 1] rfl)
        · have h := ms_ifn h k
          refine lv_aload_n hx hb dX4_readAll_47 rfl (lv_at hl 0 rfl) ?_
          obtain ⟨q48, hq48, h⟩ := ms_bd h
          refine ms_callV (fn_X4_readRaw l G a_this a_source a_tree a_builder a_tag a_source_row a_tree_codes a_tree_begins a_tree_ends a_tree_characters a_tree_attributeLetters a_tree_valueBegins a_tree_valueEnds a_tree_values a_tree_characters_row a_builder_open a_builder_open_names a_builder_open_foreigns x_at x_rawDue x_source_size x_source_overflowed x_source_row x_tree_count x_tree_attributeCount x_tree_codes x_tree_begins x_tree_ends x_tree_characters_size x_tree_characters_overflowed x_tree_characters_row x_builder_open_count hq48) wm_X4_readRaw wv_X4_52 hX hW [0, 1, 2, 3, 4, 5, 6, 7, 8, 14, 15] rfl rfl rfl rfl rfl ⟨Nat.le_of_ble_eq_true rfl, Nat.le_of_ble_eq_true rfl, rfl, rfl, Nat.zero_le _, Nat.zero_le _⟩ rfl hl.1 [] rfl (Nat.le_of_ble_eq_true rfl) dX4_readAll_48 (fun H locs hW => ?_)
          have hW : ms_W G A s H locs [ob_X4 a_this a_source a_tree a_builder a_tag q48.1 q48.2.1, ob_X1 a_source a_source_row x_source_size x_source_overflowed, (a_source_row, .inl (G.2.1 0, 200, .inl x_source_row)), ob_X7 a_tree a_tree_codes a_tree_begins a_tree_ends q48.2.2.1 a_tree_characters a_tree_attributeLetters a_tree_valueBegins a_tree_valueEnds x_tree_attributeCount a_tree_values, (a_tree_codes, .inl (G.2.1 1, 200, .inl q48.2.2.2.1)), (a_tree_begins, .inl (G.2.1 1, 200, .inl q48.2.2.2.2.1)), (a_tree_ends, .inl (G.2.1 1, 200, .inl q48.2.2.2.2.2.1)), ob_X1 a_tree_characters a_tree_characters_row q48.2.2.2.2.2.2.1 q48.2.2.2.2.2.2.2.1, (a_tree_characters_row, .inl (G.2.1 0, 200, .inl q48.2.2.2.2.2.2.2.2)), (a_tree_attributeLetters, .inl (G.2.1 1, 100, .inl x_tree_attributeLetters)), (a_tree_valueBegins, .inl (G.2.1 1, 100, .inl x_tree_valueBegins)), (a_tree_valueEnds, .inl (G.2.1 1, 100, .inl x_tree_valueEnds)), ob_X1 a_tree_values a_tree_values_row x_tree_values_size x_tree_values_overflowed, (a_tree_values_row, .inl (G.2.1 0, 200, .inl x_tree_values_row)), ob_X0 a_builder a_source a_tree a_builder_open, ob_X2 a_builder_open a_builder_open_names a_builder_open_foreigns x_builder_open_count, (a_builder_open_names, .inl (G.2.1 1, 8, .inl x_builder_open_names)), (a_builder_open_foreigns, .inl (G.2.1 3, 8, .inl x_builder_open_foreigns)), ob_X6 a_tag a_tag_begins a_tag_ends x_tag_had x_tag_name x_tag_ending, (a_tag_begins, .inl (G.2.1 1, 26, .inl x_tag_begins)), (a_tag_ends, .inl (G.2.1 1, 26, .inl x_tag_ends))] := hW
          refine W.eq (g2 := F0 m 51 ls []) rfl ?_
          refine lv_goto (tgt := 139) hx hb dX4_readAll_51 (by decide) ?_
          exact wb_X4_readAll_L139 hX hq (ih) h hW (lv_sub hl [0, 1] rfl)
def f_X4_readAll (x_at : Int32) (x_rawDue : Int32) (x_source_size : Int32) (x_source_row : Nat → Int32) (x_tree_count : Int32) (x_tree_attributeCount : Int32) (x_tree_codes : Nat → Int32) (x_tree_begins : Nat → Int32) (x_tree_ends : Nat → Int32) (x_tree_characters_size : Int32) (x_tree_characters_overflowed : Int32) (x_tree_characters_row : Nat → Int32) (x_tree_attributeLetters : Nat → Int32) (x_tree_valueBegins : Nat → Int32) (x_tree_valueEnds : Nat → Int32) (x_tree_values_size : Int32) (x_tree_values_overflowed : Int32) (x_tree_values_row : Nat → Int32) (x_builder_open_count : Int32) (x_builder_open_names : Nat → Int32) (x_builder_open_foreigns : Nat → Int32) (x_tag_had : Int32) (x_tag_name : Int32) (x_tag_ending : Int32) (x_tag_begins : Nat → Int32) (x_tag_ends : Nat → Int32)  : Option (Int32 × Int32 × Int32 × Int32 × (Nat → Int32) × (Nat → Int32) × (Nat → Int32) × Int32 × Int32 × (Nat → Int32) × (Nat → Int32) × (Nat → Int32) × (Nat → Int32) × Int32 × Int32 × (Nat → Int32) × Int32 × (Nat → Int32) × (Nat → Int32) × Int32 × Int32 × Int32 × (Nat → Int32) × (Nat → Int32)) := (f_X0_begin x_tree_count x_tree_attributeCount x_tree_characters_size x_tree_characters_overflowed x_tree_values_size x_tree_values_overflowed x_builder_open_count).bind (fun q4 => (f_X4_readAll_L19 x_source_size x_source_row 1000 0 0 q4.1 q4.2.1 x_tree_codes x_tree_begins x_tree_ends q4.2.2.1 q4.2.2.2.1 x_tree_characters_row x_tree_attributeLetters x_tree_valueBegins x_tree_valueEnds q4.2.2.2.2.1 q4.2.2.2.2.2.1 x_tree_values_row q4.2.2.2.2.2.2 x_builder_open_names x_builder_open_foreigns x_tag_had x_tag_name x_tag_ending x_tag_begins x_tag_ends 0).bind (fun w19 => some (w19.1, w19.2.1, w19.2.2.1, w19.2.2.2.1, w19.2.2.2.2.1, w19.2.2.2.2.2.1, w19.2.2.2.2.2.2.1, w19.2.2.2.2.2.2.2.1, w19.2.2.2.2.2.2.2.2.1, w19.2.2.2.2.2.2.2.2.2.1, w19.2.2.2.2.2.2.2.2.2.2.1, w19.2.2.2.2.2.2.2.2.2.2.2.1, w19.2.2.2.2.2.2.2.2.2.2.2.2.1, w19.2.2.2.2.2.2.2.2.2.2.2.2.2.1, w19.2.2.2.2.2.2.2.2.2.2.2.2.2.2.1, w19.2.2.2.2.2.2.2.2.2.2.2.2.2.2.2.1, w19.2.2.2.2.2.2.2.2.2.2.2.2.2.2.2.2.1, w19.2.2.2.2.2.2.2.2.2.2.2.2.2.2.2.2.2.1, w19.2.2.2.2.2.2.2.2.2.2.2.2.2.2.2.2.2.2.1, w19.2.2.2.2.2.2.2.2.2.2.2.2.2.2.2.2.2.2.2.1, w19.2.2.2.2.2.2.2.2.2.2.2.2.2.2.2.2.2.2.2.2.1, w19.2.2.2.2.2.2.2.2.2.2.2.2.2.2.2.2.2.2.2.2.2.1, w19.2.2.2.2.2.2.2.2.2.2.2.2.2.2.2.2.2.2.2.2.2.2.1, w19.2.2.2.2.2.2.2.2.2.2.2.2.2.2.2.2.2.2.2.2.2.2.2)))
set_option maxHeartbeats 4000000 in
set_option maxRecDepth 100000 in
theorem fn_X4_readAll (l : Launch) (G : Gc) (a_this : Nat) (a_source : Nat) (a_tree : Nat) (a_builder : Nat) (a_tag : Nat) (a_source_row : Nat) (a_tree_codes : Nat) (a_tree_begins : Nat) (a_tree_ends : Nat) (a_tree_characters : Nat) (a_tree_attributeLetters : Nat) (a_tree_valueBegins : Nat) (a_tree_valueEnds : Nat) (a_tree_values : Nat) (a_tree_characters_row : Nat) (a_tree_values_row : Nat) (a_builder_open : Nat) (a_builder_open_names : Nat) (a_builder_open_foreigns : Nat) (a_tag_begins : Nat) (a_tag_ends : Nat) (x_at : Int32) (x_rawDue : Int32) (x_source_size : Int32) (x_source_overflowed : Int32) (x_source_row : Nat → Int32) (x_tree_count : Int32) (x_tree_attributeCount : Int32) (x_tree_codes : Nat → Int32) (x_tree_begins : Nat → Int32) (x_tree_ends : Nat → Int32) (x_tree_characters_size : Int32) (x_tree_characters_overflowed : Int32) (x_tree_characters_row : Nat → Int32) (x_tree_attributeLetters : Nat → Int32) (x_tree_valueBegins : Nat → Int32) (x_tree_valueEnds : Nat → Int32) (x_tree_values_size : Int32) (x_tree_values_overflowed : Int32) (x_tree_values_row : Nat → Int32) (x_builder_open_count : Int32) (x_builder_open_names : Nat → Int32) (x_builder_open_foreigns : Nat → Int32) (x_tag_had : Int32) (x_tag_name : Int32) (x_tag_ending : Int32) (x_tag_begins : Nat → Int32) (x_tag_ends : Nat → Int32)   {o : Int32 × Int32 × Int32 × Int32 × (Nat → Int32) × (Nat → Int32) × (Nat → Int32) × Int32 × Int32 × (Nat → Int32) × (Nat → Int32) × (Nat → Int32) × (Nat → Int32) × Int32 × Int32 × (Nat → Int32) × Int32 × (Nat → Int32) × (Nat → Int32) × Int32 × Int32 × Int32 × (Nat → Int32) × (Nat → Int32)} (h : f_X4_readAll x_at x_rawDue x_source_size x_source_row x_tree_count x_tree_attributeCount x_tree_codes x_tree_begins x_tree_ends x_tree_characters_size x_tree_characters_overflowed x_tree_characters_row x_tree_attributeLetters x_tree_valueBegins x_tree_valueEnds x_tree_values_size x_tree_values_overflowed x_tree_values_row x_builder_open_count x_builder_open_names x_builder_open_foreigns x_tag_had x_tag_name x_tag_ending x_tag_begins x_tag_ends = some o) : ms_Fn l G yX4_readAll cX4_readAll 2 (some (.object "MarkupSieve$Tree")) rm_X4_readAll [.ref a_this] [ob_X4 a_this a_source a_tree a_builder a_tag x_at x_rawDue, ob_X1 a_source a_source_row x_source_size x_source_overflowed, (a_source_row, .inl (G.2.1 0, 200, .inl x_source_row)), ob_X7 a_tree a_tree_codes a_tree_begins a_tree_ends x_tree_count a_tree_characters a_tree_attributeLetters a_tree_valueBegins a_tree_valueEnds x_tree_attributeCount a_tree_values, (a_tree_codes, .inl (G.2.1 1, 200, .inl x_tree_codes)), (a_tree_begins, .inl (G.2.1 1, 200, .inl x_tree_begins)), (a_tree_ends, .inl (G.2.1 1, 200, .inl x_tree_ends)), ob_X1 a_tree_characters a_tree_characters_row x_tree_characters_size x_tree_characters_overflowed, (a_tree_characters_row, .inl (G.2.1 0, 200, .inl x_tree_characters_row)), (a_tree_attributeLetters, .inl (G.2.1 1, 100, .inl x_tree_attributeLetters)), (a_tree_valueBegins, .inl (G.2.1 1, 100, .inl x_tree_valueBegins)), (a_tree_valueEnds, .inl (G.2.1 1, 100, .inl x_tree_valueEnds)), ob_X1 a_tree_values a_tree_values_row x_tree_values_size x_tree_values_overflowed, (a_tree_values_row, .inl (G.2.1 0, 200, .inl x_tree_values_row)), ob_X0 a_builder a_source a_tree a_builder_open, ob_X2 a_builder_open a_builder_open_names a_builder_open_foreigns x_builder_open_count, (a_builder_open_names, .inl (G.2.1 1, 8, .inl x_builder_open_names)), (a_builder_open_foreigns, .inl (G.2.1 3, 8, .inl x_builder_open_foreigns)), ob_X6 a_tag a_tag_begins a_tag_ends x_tag_had x_tag_name x_tag_ending, (a_tag_begins, .inl (G.2.1 1, 26, .inl x_tag_begins)), (a_tag_ends, .inl (G.2.1 1, 26, .inl x_tag_ends))] [ob_X4 a_this a_source a_tree a_builder a_tag o.1 o.2.1, ob_X1 a_source a_source_row x_source_size x_source_overflowed, (a_source_row, .inl (G.2.1 0, 200, .inl x_source_row)), ob_X7 a_tree a_tree_codes a_tree_begins a_tree_ends o.2.2.1 a_tree_characters a_tree_attributeLetters a_tree_valueBegins a_tree_valueEnds o.2.2.2.1 a_tree_values, (a_tree_codes, .inl (G.2.1 1, 200, .inl o.2.2.2.2.1)), (a_tree_begins, .inl (G.2.1 1, 200, .inl o.2.2.2.2.2.1)), (a_tree_ends, .inl (G.2.1 1, 200, .inl o.2.2.2.2.2.2.1)), ob_X1 a_tree_characters a_tree_characters_row o.2.2.2.2.2.2.2.1 o.2.2.2.2.2.2.2.2.1, (a_tree_characters_row, .inl (G.2.1 0, 200, .inl o.2.2.2.2.2.2.2.2.2.1)), (a_tree_attributeLetters, .inl (G.2.1 1, 100, .inl o.2.2.2.2.2.2.2.2.2.2.1)), (a_tree_valueBegins, .inl (G.2.1 1, 100, .inl o.2.2.2.2.2.2.2.2.2.2.2.1)), (a_tree_valueEnds, .inl (G.2.1 1, 100, .inl o.2.2.2.2.2.2.2.2.2.2.2.2.1)), ob_X1 a_tree_values a_tree_values_row o.2.2.2.2.2.2.2.2.2.2.2.2.2.1 o.2.2.2.2.2.2.2.2.2.2.2.2.2.2.1, (a_tree_values_row, .inl (G.2.1 0, 200, .inl o.2.2.2.2.2.2.2.2.2.2.2.2.2.2.2.1)), ob_X0 a_builder a_source a_tree a_builder_open, ob_X2 a_builder_open a_builder_open_names a_builder_open_foreigns o.2.2.2.2.2.2.2.2.2.2.2.2.2.2.2.2.1, (a_builder_open_names, .inl (G.2.1 1, 8, .inl o.2.2.2.2.2.2.2.2.2.2.2.2.2.2.2.2.2.1)), (a_builder_open_foreigns, .inl (G.2.1 3, 8, .inl o.2.2.2.2.2.2.2.2.2.2.2.2.2.2.2.2.2.2.1)), ob_X6 a_tag a_tag_begins a_tag_ends o.2.2.2.2.2.2.2.2.2.2.2.2.2.2.2.2.2.2.2.1 o.2.2.2.2.2.2.2.2.2.2.2.2.2.2.2.2.2.2.2.2.1 o.2.2.2.2.2.2.2.2.2.2.2.2.2.2.2.2.2.2.2.2.2.1, (a_tag_begins, .inl (G.2.1 1, 26, .inl o.2.2.2.2.2.2.2.2.2.2.2.2.2.2.2.2.2.2.2.2.2.2.1)), (a_tag_ends, .inl (G.2.1 1, 26, .inl o.2.2.2.2.2.2.2.2.2.2.2.2.2.2.2.2.2.2.2.2.2.2.2))] (some (.ref a_tree)) := by
  refine ms_start RX4 (by decide +kernel) rfl (Nat.le_of_ble_eq_true rfl) (fun p e s m below meth c A ls hX hW hl => ?_)
  have hx := hX.1.1
  have hb := hX.1.2.1
  have hl : lv_has ls 2 [(0, .ref a_this)] := hl
  unfold f_X4_readAll at h
  refine lv_aload_n hx hb dX4_readAll_0 rfl (lv_at hl 0 rfl) ?_
  refine ms_get ff_X4_24 hX hW 0 rfl rfl dX4_readAll_1 ?_
  obtain ⟨q4, hq4, h⟩ := ms_bd h
  refine ms_callV (fn_X0_begin l G a_builder a_source a_tree a_builder_open a_tree_codes a_tree_begins a_tree_ends a_tree_characters a_tree_attributeLetters a_tree_valueBegins a_tree_valueEnds a_tree_values a_tree_characters_row a_tree_values_row a_builder_open_names a_builder_open_foreigns x_tree_count x_tree_attributeCount x_tree_characters_size x_tree_characters_overflowed x_tree_values_size x_tree_values_overflowed x_builder_open_count hq4) wm_X0_begin wv_X4_43 hX hW [14, 3, 7, 12, 15] rfl rfl rfl rfl rfl ⟨Nat.le_of_ble_eq_true rfl, Nat.le_of_ble_eq_true rfl, rfl, rfl, Nat.zero_le _, Nat.zero_le _⟩ rfl hl.1 [] rfl (Nat.le_of_ble_eq_true rfl) dX4_readAll_4 (fun H locs hW => ?_)
  have hW : ms_W G A s H locs [ob_X4 a_this a_source a_tree a_builder a_tag x_at x_rawDue, ob_X1 a_source a_source_row x_source_size x_source_overflowed, (a_source_row, .inl (G.2.1 0, 200, .inl x_source_row)), ob_X7 a_tree a_tree_codes a_tree_begins a_tree_ends q4.1 a_tree_characters a_tree_attributeLetters a_tree_valueBegins a_tree_valueEnds q4.2.1 a_tree_values, (a_tree_codes, .inl (G.2.1 1, 200, .inl x_tree_codes)), (a_tree_begins, .inl (G.2.1 1, 200, .inl x_tree_begins)), (a_tree_ends, .inl (G.2.1 1, 200, .inl x_tree_ends)), ob_X1 a_tree_characters a_tree_characters_row q4.2.2.1 q4.2.2.2.1, (a_tree_characters_row, .inl (G.2.1 0, 200, .inl x_tree_characters_row)), (a_tree_attributeLetters, .inl (G.2.1 1, 100, .inl x_tree_attributeLetters)), (a_tree_valueBegins, .inl (G.2.1 1, 100, .inl x_tree_valueBegins)), (a_tree_valueEnds, .inl (G.2.1 1, 100, .inl x_tree_valueEnds)), ob_X1 a_tree_values a_tree_values_row q4.2.2.2.2.1 q4.2.2.2.2.2.1, (a_tree_values_row, .inl (G.2.1 0, 200, .inl x_tree_values_row)), ob_X0 a_builder a_source a_tree a_builder_open, ob_X2 a_builder_open a_builder_open_names a_builder_open_foreigns q4.2.2.2.2.2.2, (a_builder_open_names, .inl (G.2.1 1, 8, .inl x_builder_open_names)), (a_builder_open_foreigns, .inl (G.2.1 3, 8, .inl x_builder_open_foreigns)), ob_X6 a_tag a_tag_begins a_tag_ends x_tag_had x_tag_name x_tag_ending, (a_tag_begins, .inl (G.2.1 1, 26, .inl x_tag_begins)), (a_tag_ends, .inl (G.2.1 1, 26, .inl x_tag_ends))] := hW
  refine W.eq (g2 := F0 m 7 ls []) rfl ?_
  refine lv_aload_n hx hb dX4_readAll_7 rfl (lv_at hl 0 rfl) ?_
  refine lv_iconst (v := 0) hx hb dX4_readAll_8 (by decide) ?_
  refine ms_put ff_X4_35 fp_X4_4 rfl hX hW 0 rfl rfl rfl (Nat.le_of_ble_eq_true rfl) dX4_readAll_9 (fun H locs hW => ?_)
  have hW : ms_W G A s H locs [ob_X4 a_this a_source a_tree a_builder a_tag 0 x_rawDue, ob_X1 a_source a_source_row x_source_size x_source_overflowed, (a_source_row, .inl (G.2.1 0, 200, .inl x_source_row)), ob_X7 a_tree a_tree_codes a_tree_begins a_tree_ends q4.1 a_tree_characters a_tree_attributeLetters a_tree_valueBegins a_tree_valueEnds q4.2.1 a_tree_values, (a_tree_codes, .inl (G.2.1 1, 200, .inl x_tree_codes)), (a_tree_begins, .inl (G.2.1 1, 200, .inl x_tree_begins)), (a_tree_ends, .inl (G.2.1 1, 200, .inl x_tree_ends)), ob_X1 a_tree_characters a_tree_characters_row q4.2.2.1 q4.2.2.2.1, (a_tree_characters_row, .inl (G.2.1 0, 200, .inl x_tree_characters_row)), (a_tree_attributeLetters, .inl (G.2.1 1, 100, .inl x_tree_attributeLetters)), (a_tree_valueBegins, .inl (G.2.1 1, 100, .inl x_tree_valueBegins)), (a_tree_valueEnds, .inl (G.2.1 1, 100, .inl x_tree_valueEnds)), ob_X1 a_tree_values a_tree_values_row q4.2.2.2.2.1 q4.2.2.2.2.2.1, (a_tree_values_row, .inl (G.2.1 0, 200, .inl x_tree_values_row)), ob_X0 a_builder a_source a_tree a_builder_open, ob_X2 a_builder_open a_builder_open_names a_builder_open_foreigns q4.2.2.2.2.2.2, (a_builder_open_names, .inl (G.2.1 1, 8, .inl x_builder_open_names)), (a_builder_open_foreigns, .inl (G.2.1 3, 8, .inl x_builder_open_foreigns)), ob_X6 a_tag a_tag_begins a_tag_ends x_tag_had x_tag_name x_tag_ending, (a_tag_begins, .inl (G.2.1 1, 26, .inl x_tag_begins)), (a_tag_ends, .inl (G.2.1 1, 26, .inl x_tag_ends))] := hW
  refine lv_aload_n hx hb dX4_readAll_12 rfl (lv_at hl 0 rfl) ?_
  refine lv_iconst (v := 0) hx hb dX4_readAll_13 (by decide) ?_
  refine ms_put ff_X4_39 fp_X4_5 rfl hX hW 0 rfl (by decide) (by decide) (Nat.le_of_ble_eq_true rfl) dX4_readAll_14 (fun H locs hW => ?_)
  have hW : ms_W G A s H locs [ob_X4 a_this a_source a_tree a_builder a_tag 0 0, ob_X1 a_source a_source_row x_source_size x_source_overflowed, (a_source_row, .inl (G.2.1 0, 200, .inl x_source_row)), ob_X7 a_tree a_tree_codes a_tree_begins a_tree_ends q4.1 a_tree_characters a_tree_attributeLetters a_tree_valueBegins a_tree_valueEnds q4.2.1 a_tree_values, (a_tree_codes, .inl (G.2.1 1, 200, .inl x_tree_codes)), (a_tree_begins, .inl (G.2.1 1, 200, .inl x_tree_begins)), (a_tree_ends, .inl (G.2.1 1, 200, .inl x_tree_ends)), ob_X1 a_tree_characters a_tree_characters_row q4.2.2.1 q4.2.2.2.1, (a_tree_characters_row, .inl (G.2.1 0, 200, .inl x_tree_characters_row)), (a_tree_attributeLetters, .inl (G.2.1 1, 100, .inl x_tree_attributeLetters)), (a_tree_valueBegins, .inl (G.2.1 1, 100, .inl x_tree_valueBegins)), (a_tree_valueEnds, .inl (G.2.1 1, 100, .inl x_tree_valueEnds)), ob_X1 a_tree_values a_tree_values_row q4.2.2.2.2.1 q4.2.2.2.2.2.1, (a_tree_values_row, .inl (G.2.1 0, 200, .inl x_tree_values_row)), ob_X0 a_builder a_source a_tree a_builder_open, ob_X2 a_builder_open a_builder_open_names a_builder_open_foreigns q4.2.2.2.2.2.2, (a_builder_open_names, .inl (G.2.1 1, 8, .inl x_builder_open_names)), (a_builder_open_foreigns, .inl (G.2.1 3, 8, .inl x_builder_open_foreigns)), ob_X6 a_tag a_tag_begins a_tag_ends x_tag_had x_tag_name x_tag_ending, (a_tag_begins, .inl (G.2.1 1, 26, .inl x_tag_begins)), (a_tag_ends, .inl (G.2.1 1, 26, .inl x_tag_ends))] := hW
  refine lv_iconst (v := 0) hx hb dX4_readAll_17 (by decide) ?_
  refine lv_istore_n (lv' := [(1, .int 0), (0, .ref a_this)]) hx hb dX4_readAll_18 rfl hl (by decide) rfl (fun ls hl => ?_)
  obtain ⟨w19, hqw19, h⟩ := ms_bd h
  refine wb_X4_readAll_L19 hX (o := w19) (fun H locs ls hW hl => ?_) _ _ _ _ _ _ _ _ _ _ _ _ _ _ _ _ _ _ _ _ _ _ _ _ _ _ _ _ _ hqw19 hW (lv_sub hl [1, 0] rfl)
  refine lv_aload_n hx hb dX4_readAll_145 rfl (lv_at hl 0 rfl) ?_
  refine ms_get ff_X4_15 hX hW 0 rfl rfl dX4_readAll_146 ?_
  obtain rfl := Option.some.inj h
  exact ms_aret hX hW dX4_readAll_149
def rm_X7_size : Room := { frames := 0, cells := 0, slots := 0, locals := 0 }
def f_X7_size (x_count : Int32)  : Option (Int32) := some x_count
set_option maxHeartbeats 4000000 in
set_option maxRecDepth 100000 in
theorem fn_X7_size (l : Launch) (G : Gc) (a_this : Nat) (a_codes : Nat) (a_begins : Nat) (a_ends : Nat) (a_characters : Nat) (a_attributeLetters : Nat) (a_valueBegins : Nat) (a_valueEnds : Nat) (a_values : Nat) (x_count : Int32) (x_attributeCount : Int32)   {o : Int32} (h : f_X7_size x_count = some o) : ms_Fn l G yX7_size cX7_size 1 (some .int) rm_X7_size [.ref a_this] [ob_X7 a_this a_codes a_begins a_ends x_count a_characters a_attributeLetters a_valueBegins a_valueEnds x_attributeCount a_values] [ob_X7 a_this a_codes a_begins a_ends x_count a_characters a_attributeLetters a_valueBegins a_valueEnds x_attributeCount a_values] (some (.int o)) := by
  refine ms_start RX7 (by decide +kernel) rfl (Nat.le_of_ble_eq_true rfl) (fun p e s m below meth c A ls hX hW hl => ?_)
  have hx := hX.1.1
  have hb := hX.1.2.1
  have hl : lv_has ls 1 [(0, .ref a_this)] := hl
  unfold f_X7_size at h
  refine lv_aload_n hx hb dX7_size_0 rfl (lv_at hl 0 rfl) ?_
  refine ms_get ff_X7_21 hX hW 0 rfl rfl dX7_size_1 ?_
  obtain rfl := Option.some.inj h
  exact ms_iret hX hW dX7_size_4
def rm_X7_codeOf : Room := { frames := 1, cells := 0, slots := 0, locals := 21 }
def f_X7_codeOf (x_count : Int32) (x_codes : Nat → Int32) (v1 : Int32) : Option (Int32) := (f_X7_hasNode x_count v1).bind (fun q2 => (if q2 = 0 then some (-1) else ms_gi v1 200 (some (x_codes v1.toNatClampNeg))))
set_option maxHeartbeats 4000000 in
set_option maxRecDepth 100000 in
theorem fn_X7_codeOf (l : Launch) (G : Gc) (a_this : Nat) (a_codes : Nat) (a_begins : Nat) (a_ends : Nat) (a_characters : Nat) (a_attributeLetters : Nat) (a_valueBegins : Nat) (a_valueEnds : Nat) (a_values : Nat) (x_count : Int32) (x_attributeCount : Int32) (x_codes : Nat → Int32) (v1 : Int32)  {o : Int32} (h : f_X7_codeOf x_count x_codes v1 = some o) : ms_Fn l G yX7_codeOf cX7_codeOf 2 (some .int) rm_X7_codeOf [.ref a_this, .int v1] [ob_X7 a_this a_codes a_begins a_ends x_count a_characters a_attributeLetters a_valueBegins a_valueEnds x_attributeCount a_values, (a_codes, .inl (G.2.1 1, 200, .inl x_codes))] [ob_X7 a_this a_codes a_begins a_ends x_count a_characters a_attributeLetters a_valueBegins a_valueEnds x_attributeCount a_values, (a_codes, .inl (G.2.1 1, 200, .inl x_codes))] (some (.int o)) := by
  refine ms_start RX7 (by decide +kernel) rfl (Nat.le_of_ble_eq_true rfl) (fun p e s m below meth c A ls hX hW hl => ?_)
  have hx := hX.1.1
  have hb := hX.1.2.1
  have hl : lv_has ls 2 [(0, .ref a_this), (1, .int v1)] := hl
  unfold f_X7_codeOf at h
  refine lv_aload_n hx hb dX7_codeOf_0 rfl (lv_at hl 0 rfl) ?_
  refine lv_iload_n hx hb dX7_codeOf_1 rfl (lv_at hl 1 rfl) ?_
  obtain ⟨q2, hq2, h⟩ := ms_bd h
  refine ms_callV (fn_X7_hasNode l G a_this a_codes a_begins a_ends a_characters a_attributeLetters a_valueBegins a_valueEnds a_values x_count x_attributeCount v1 hq2) wm_X7_hasNode wv_X7_50 hX hW [0] rfl rfl rfl rfl rfl ⟨Nat.le_of_ble_eq_true rfl, Nat.le_of_ble_eq_true rfl, rfl, rfl, Nat.zero_le _, Nat.zero_le _⟩ rfl hl.1 [] rfl (Nat.le_of_ble_eq_true rfl) dX7_codeOf_2 (fun H locs hW => ?_)
  have hW : ms_W G A s H locs [ob_X7 a_this a_codes a_begins a_ends x_count a_characters a_attributeLetters a_valueBegins a_valueEnds x_attributeCount a_values, (a_codes, .inl (G.2.1 1, 200, .inl x_codes))] := hW
  refine W.eq (g2 := F0 m 5 ls [.int q2]) rfl ?_
  refine lv_if_eq (tgt := 17) hx hb dX7_codeOf_5 (by decide) (fun k => ?_) (fun k => ?_)
  · have h := ms_ifp h k
    refine lv_iconst (v := (-1)) hx hb dX7_codeOf_17 (by decide) ?_
    obtain rfl := Option.some.inj h
    exact ms_iret hX hW dX7_codeOf_18
  · have h := ms_ifn h k
    refine lv_aload_n hx hb dX7_codeOf_8 rfl (lv_at hl 0 rfl) ?_
    refine ms_get ff_X7_11 hX hW 0 rfl rfl dX7_codeOf_9 ?_
    refine lv_iload_n hx hb dX7_codeOf_12 rfl (lv_at hl 1 rfl) ?_
    obtain ⟨k, h⟩ := ms_gi_some h
    refine ms_iald hX hW 1 rfl k dX7_codeOf_13 ?_
    refine lv_goto (tgt := 18) hx hb dX7_codeOf_14 (by decide) ?_
    obtain rfl := Option.some.inj h
    exact ms_iret hX hW dX7_codeOf_18
def rm_X7_nameOf : Room := { frames := 1, cells := 0, slots := 0, locals := 21 }
def f_X7_nameOf (x_count : Int32) (x_codes : Nat → Int32) (v1 : Int32) : Option (Int32) := (f_X7_hasNode x_count v1).bind (fun q2 => (if q2 = 0 then some 0 else ms_gi v1 200 (some (((x_codes v1.toNatClampNeg) >>> ((2 : Int32) &&& 31)) &&& (31 : Int32)))))
set_option maxHeartbeats 4000000 in
set_option maxRecDepth 100000 in
theorem fn_X7_nameOf (l : Launch) (G : Gc) (a_this : Nat) (a_codes : Nat) (a_begins : Nat) (a_ends : Nat) (a_characters : Nat) (a_attributeLetters : Nat) (a_valueBegins : Nat) (a_valueEnds : Nat) (a_values : Nat) (x_count : Int32) (x_attributeCount : Int32) (x_codes : Nat → Int32) (v1 : Int32)  {o : Int32} (h : f_X7_nameOf x_count x_codes v1 = some o) : ms_Fn l G yX7_nameOf cX7_nameOf 2 (some .int) rm_X7_nameOf [.ref a_this, .int v1] [ob_X7 a_this a_codes a_begins a_ends x_count a_characters a_attributeLetters a_valueBegins a_valueEnds x_attributeCount a_values, (a_codes, .inl (G.2.1 1, 200, .inl x_codes))] [ob_X7 a_this a_codes a_begins a_ends x_count a_characters a_attributeLetters a_valueBegins a_valueEnds x_attributeCount a_values, (a_codes, .inl (G.2.1 1, 200, .inl x_codes))] (some (.int o)) := by
  refine ms_start RX7 (by decide +kernel) rfl (Nat.le_of_ble_eq_true rfl) (fun p e s m below meth c A ls hX hW hl => ?_)
  have hx := hX.1.1
  have hb := hX.1.2.1
  have hl : lv_has ls 2 [(0, .ref a_this), (1, .int v1)] := hl
  unfold f_X7_nameOf at h
  refine lv_aload_n hx hb dX7_nameOf_0 rfl (lv_at hl 0 rfl) ?_
  refine lv_iload_n hx hb dX7_nameOf_1 rfl (lv_at hl 1 rfl) ?_
  obtain ⟨q2, hq2, h⟩ := ms_bd h
  refine ms_callV (fn_X7_hasNode l G a_this a_codes a_begins a_ends a_characters a_attributeLetters a_valueBegins a_valueEnds a_values x_count x_attributeCount v1 hq2) wm_X7_hasNode wv_X7_50 hX hW [0] rfl rfl rfl rfl rfl ⟨Nat.le_of_ble_eq_true rfl, Nat.le_of_ble_eq_true rfl, rfl, rfl, Nat.zero_le _, Nat.zero_le _⟩ rfl hl.1 [] rfl (Nat.le_of_ble_eq_true rfl) dX7_nameOf_2 (fun H locs hW => ?_)
  have hW : ms_W G A s H locs [ob_X7 a_this a_codes a_begins a_ends x_count a_characters a_attributeLetters a_valueBegins a_valueEnds x_attributeCount a_values, (a_codes, .inl (G.2.1 1, 200, .inl x_codes))] := hW
  refine W.eq (g2 := F0 m 5 ls [.int q2]) rfl ?_
  refine lv_if_eq (tgt := 22) hx hb dX7_nameOf_5 (by decide) (fun k => ?_) (fun k => ?_)
  · have h := ms_ifp h k
    refine lv_iconst (v := 0) hx hb dX7_nameOf_22 (by decide) ?_
    obtain rfl := Option.some.inj h
    exact ms_iret hX hW dX7_nameOf_23
  · have h := ms_ifn h k
    refine lv_aload_n hx hb dX7_nameOf_8 rfl (lv_at hl 0 rfl) ?_
    refine ms_get ff_X7_11 hX hW 0 rfl rfl dX7_nameOf_9 ?_
    refine lv_iload_n hx hb dX7_nameOf_12 rfl (lv_at hl 1 rfl) ?_
    obtain ⟨k, h⟩ := ms_gi_some h
    refine ms_iald hX hW 1 rfl k dX7_nameOf_13 ?_
    refine lv_iconst (v := 2) hx hb dX7_nameOf_14 (by decide) ?_
    refine lv_ishr hx hb dX7_nameOf_15 ?_
    refine lv_bipush (v := 31) hx hb dX7_nameOf_16 (by decide) ?_
    refine lv_iand hx hb dX7_nameOf_18 ?_
    refine lv_goto (tgt := 23) hx hb dX7_nameOf_19 (by decide) ?_
    obtain rfl := Option.some.inj h
    exact ms_iret hX hW dX7_nameOf_23
def rm_X7_textLine : Room := { frames := 0, cells := 0, slots := 0, locals := 0 }
def f_X7_textLine   : Option (Unit) := some ()
set_option maxHeartbeats 4000000 in
set_option maxRecDepth 100000 in
theorem fn_X7_textLine (l : Launch) (G : Gc) (a_this : Nat) (a_codes : Nat) (a_begins : Nat) (a_ends : Nat) (a_characters : Nat) (a_attributeLetters : Nat) (a_valueBegins : Nat) (a_valueEnds : Nat) (a_values : Nat) (x_count : Int32) (x_attributeCount : Int32)   {o : Unit} (h : f_X7_textLine = some o) : ms_Fn l G yX7_textLine cX7_textLine 1 (some (.object "MarkupSieve$Line")) rm_X7_textLine [.ref a_this] [ob_X7 a_this a_codes a_begins a_ends x_count a_characters a_attributeLetters a_valueBegins a_valueEnds x_attributeCount a_values] [ob_X7 a_this a_codes a_begins a_ends x_count a_characters a_attributeLetters a_valueBegins a_valueEnds x_attributeCount a_values] (some (.ref a_characters)) := by
  refine ms_start RX7 (by decide +kernel) rfl (Nat.le_of_ble_eq_true rfl) (fun p e s m below meth c A ls hX hW hl => ?_)
  have hx := hX.1.1
  have hb := hX.1.2.1
  have hl : lv_has ls 1 [(0, .ref a_this)] := hl
  unfold f_X7_textLine at h
  refine lv_aload_n hx hb dX7_textLine_0 rfl (lv_at hl 0 rfl) ?_
  refine ms_get ff_X7_28 hX hW 0 rfl rfl dX7_textLine_1 ?_
  obtain rfl := Option.some.inj h
  exact ms_aret hX hW dX7_textLine_4
def rm_X7_valueLine : Room := { frames := 0, cells := 0, slots := 0, locals := 0 }
def f_X7_valueLine   : Option (Unit) := some ()
set_option maxHeartbeats 4000000 in
set_option maxRecDepth 100000 in
theorem fn_X7_valueLine (l : Launch) (G : Gc) (a_this : Nat) (a_codes : Nat) (a_begins : Nat) (a_ends : Nat) (a_characters : Nat) (a_attributeLetters : Nat) (a_valueBegins : Nat) (a_valueEnds : Nat) (a_values : Nat) (x_count : Int32) (x_attributeCount : Int32)   {o : Unit} (h : f_X7_valueLine = some o) : ms_Fn l G yX7_valueLine cX7_valueLine 1 (some (.object "MarkupSieve$Line")) rm_X7_valueLine [.ref a_this] [ob_X7 a_this a_codes a_begins a_ends x_count a_characters a_attributeLetters a_valueBegins a_valueEnds x_attributeCount a_values] [ob_X7 a_this a_codes a_begins a_ends x_count a_characters a_attributeLetters a_valueBegins a_valueEnds x_attributeCount a_values] (some (.ref a_values)) := by
  refine ms_start RX7 (by decide +kernel) rfl (Nat.le_of_ble_eq_true rfl) (fun p e s m below meth c A ls hX hW hl => ?_)
  have hx := hX.1.1
  have hb := hX.1.2.1
  have hl : lv_has ls 1 [(0, .ref a_this)] := hl
  unfold f_X7_valueLine at h
  refine lv_aload_n hx hb dX7_valueLine_0 rfl (lv_at hl 0 rfl) ?_
  refine ms_get ff_X7_44 hX hW 0 rfl rfl dX7_valueLine_1 ?_
  obtain rfl := Option.some.inj h
  exact ms_aret hX hW dX7_valueLine_4
def rm_X7_beginOf : Room := { frames := 1, cells := 0, slots := 0, locals := 21 }
def f_X7_beginOf (x_count : Int32) (x_begins : Nat → Int32) (v1 : Int32) : Option (Int32) := (f_X7_hasNode x_count v1).bind (fun q2 => (if q2 = 0 then some 0 else ms_gi v1 200 (some (x_begins v1.toNatClampNeg))))
set_option maxHeartbeats 4000000 in
set_option maxRecDepth 100000 in
theorem fn_X7_beginOf (l : Launch) (G : Gc) (a_this : Nat) (a_codes : Nat) (a_begins : Nat) (a_ends : Nat) (a_characters : Nat) (a_attributeLetters : Nat) (a_valueBegins : Nat) (a_valueEnds : Nat) (a_values : Nat) (x_count : Int32) (x_attributeCount : Int32) (x_begins : Nat → Int32) (v1 : Int32)  {o : Int32} (h : f_X7_beginOf x_count x_begins v1 = some o) : ms_Fn l G yX7_beginOf cX7_beginOf 2 (some .int) rm_X7_beginOf [.ref a_this, .int v1] [ob_X7 a_this a_codes a_begins a_ends x_count a_characters a_attributeLetters a_valueBegins a_valueEnds x_attributeCount a_values, (a_begins, .inl (G.2.1 1, 200, .inl x_begins))] [ob_X7 a_this a_codes a_begins a_ends x_count a_characters a_attributeLetters a_valueBegins a_valueEnds x_attributeCount a_values, (a_begins, .inl (G.2.1 1, 200, .inl x_begins))] (some (.int o)) := by
  refine ms_start RX7 (by decide +kernel) rfl (Nat.le_of_ble_eq_true rfl) (fun p e s m below meth c A ls hX hW hl => ?_)
  have hx := hX.1.1
  have hb := hX.1.2.1
  have hl : lv_has ls 2 [(0, .ref a_this), (1, .int v1)] := hl
  unfold f_X7_beginOf at h
  refine lv_aload_n hx hb dX7_beginOf_0 rfl (lv_at hl 0 rfl) ?_
  refine lv_iload_n hx hb dX7_beginOf_1 rfl (lv_at hl 1 rfl) ?_
  obtain ⟨q2, hq2, h⟩ := ms_bd h
  refine ms_callV (fn_X7_hasNode l G a_this a_codes a_begins a_ends a_characters a_attributeLetters a_valueBegins a_valueEnds a_values x_count x_attributeCount v1 hq2) wm_X7_hasNode wv_X7_50 hX hW [0] rfl rfl rfl rfl rfl ⟨Nat.le_of_ble_eq_true rfl, Nat.le_of_ble_eq_true rfl, rfl, rfl, Nat.zero_le _, Nat.zero_le _⟩ rfl hl.1 [] rfl (Nat.le_of_ble_eq_true rfl) dX7_beginOf_2 (fun H locs hW => ?_)
  have hW : ms_W G A s H locs [ob_X7 a_this a_codes a_begins a_ends x_count a_characters a_attributeLetters a_valueBegins a_valueEnds x_attributeCount a_values, (a_begins, .inl (G.2.1 1, 200, .inl x_begins))] := hW
  refine W.eq (g2 := F0 m 5 ls [.int q2]) rfl ?_
  refine lv_if_eq (tgt := 17) hx hb dX7_beginOf_5 (by decide) (fun k => ?_) (fun k => ?_)
  · have h := ms_ifp h k
    refine lv_iconst (v := 0) hx hb dX7_beginOf_17 (by decide) ?_
    obtain rfl := Option.some.inj h
    exact ms_iret hX hW dX7_beginOf_18
  · have h := ms_ifn h k
    refine lv_aload_n hx hb dX7_beginOf_8 rfl (lv_at hl 0 rfl) ?_
    refine ms_get ff_X7_15 hX hW 0 rfl rfl dX7_beginOf_9 ?_
    refine lv_iload_n hx hb dX7_beginOf_12 rfl (lv_at hl 1 rfl) ?_
    obtain ⟨k, h⟩ := ms_gi_some h
    refine ms_iald hX hW 1 rfl k dX7_beginOf_13 ?_
    refine lv_goto (tgt := 18) hx hb dX7_beginOf_14 (by decide) ?_
    obtain rfl := Option.some.inj h
    exact ms_iret hX hW dX7_beginOf_18
def rm_X7_endOf : Room := { frames := 1, cells := 0, slots := 0, locals := 21 }
def f_X7_endOf (x_count : Int32) (x_ends : Nat → Int32) (v1 : Int32) : Option (Int32) := (f_X7_hasNode x_count v1).bind (fun q2 => (if q2 = 0 then some 0 else ms_gi v1 200 (some (x_ends v1.toNatClampNeg))))
set_option maxHeartbeats 4000000 in
set_option maxRecDepth 100000 in
theorem fn_X7_endOf (l : Launch) (G : Gc) (a_this : Nat) (a_codes : Nat) (a_begins : Nat) (a_ends : Nat) (a_characters : Nat) (a_attributeLetters : Nat) (a_valueBegins : Nat) (a_valueEnds : Nat) (a_values : Nat) (x_count : Int32) (x_attributeCount : Int32) (x_ends : Nat → Int32) (v1 : Int32)  {o : Int32} (h : f_X7_endOf x_count x_ends v1 = some o) : ms_Fn l G yX7_endOf cX7_endOf 2 (some .int) rm_X7_endOf [.ref a_this, .int v1] [ob_X7 a_this a_codes a_begins a_ends x_count a_characters a_attributeLetters a_valueBegins a_valueEnds x_attributeCount a_values, (a_ends, .inl (G.2.1 1, 200, .inl x_ends))] [ob_X7 a_this a_codes a_begins a_ends x_count a_characters a_attributeLetters a_valueBegins a_valueEnds x_attributeCount a_values, (a_ends, .inl (G.2.1 1, 200, .inl x_ends))] (some (.int o)) := by
  refine ms_start RX7 (by decide +kernel) rfl (Nat.le_of_ble_eq_true rfl) (fun p e s m below meth c A ls hX hW hl => ?_)
  have hx := hX.1.1
  have hb := hX.1.2.1
  have hl : lv_has ls 2 [(0, .ref a_this), (1, .int v1)] := hl
  unfold f_X7_endOf at h
  refine lv_aload_n hx hb dX7_endOf_0 rfl (lv_at hl 0 rfl) ?_
  refine lv_iload_n hx hb dX7_endOf_1 rfl (lv_at hl 1 rfl) ?_
  obtain ⟨q2, hq2, h⟩ := ms_bd h
  refine ms_callV (fn_X7_hasNode l G a_this a_codes a_begins a_ends a_characters a_attributeLetters a_valueBegins a_valueEnds a_values x_count x_attributeCount v1 hq2) wm_X7_hasNode wv_X7_50 hX hW [0] rfl rfl rfl rfl rfl ⟨Nat.le_of_ble_eq_true rfl, Nat.le_of_ble_eq_true rfl, rfl, rfl, Nat.zero_le _, Nat.zero_le _⟩ rfl hl.1 [] rfl (Nat.le_of_ble_eq_true rfl) dX7_endOf_2 (fun H locs hW => ?_)
  have hW : ms_W G A s H locs [ob_X7 a_this a_codes a_begins a_ends x_count a_characters a_attributeLetters a_valueBegins a_valueEnds x_attributeCount a_values, (a_ends, .inl (G.2.1 1, 200, .inl x_ends))] := hW
  refine W.eq (g2 := F0 m 5 ls [.int q2]) rfl ?_
  refine lv_if_eq (tgt := 17) hx hb dX7_endOf_5 (by decide) (fun k => ?_) (fun k => ?_)
  · have h := ms_ifp h k
    refine lv_iconst (v := 0) hx hb dX7_endOf_17 (by decide) ?_
    obtain rfl := Option.some.inj h
    exact ms_iret hX hW dX7_endOf_18
  · have h := ms_ifn h k
    refine lv_aload_n hx hb dX7_endOf_8 rfl (lv_at hl 0 rfl) ?_
    refine ms_get ff_X7_18 hX hW 0 rfl rfl dX7_endOf_9 ?_
    refine lv_iload_n hx hb dX7_endOf_12 rfl (lv_at hl 1 rfl) ?_
    obtain ⟨k, h⟩ := ms_gi_some h
    refine ms_iald hX hW 1 rfl k dX7_endOf_13 ?_
    refine lv_goto (tgt := 18) hx hb dX7_endOf_14 (by decide) ?_
    obtain rfl := Option.some.inj h
    exact ms_iret hX hW dX7_endOf_18
def rm_X7_eightOfText : Room := { frames := 2, cells := 0, slots := 0, locals := 48 }
def f_X7_eightOfText (x_count : Int32) (x_codes : Nat → Int32) (x_begins : Nat → Int32) (x_ends : Nat → Int32) (x_characters_size : Int32) (x_characters_row : Nat → Int32) (v1 : Int32) (v2 : Int32) : Option (Int64) := (f_X7_hasNode x_count v1).bind (fun q2 => (if q2 = 0 then some 0 else (f_X7_kindOf x_count x_codes v1).bind (fun q10 => (if q10 = 3 then some 0 else ms_gi v1 200 (ms_gi v1 200 ((f_X1_eight x_characters_size x_characters_row (x_begins v1.toNatClampNeg) (x_ends v1.toNatClampNeg) v2).bind (fun q36 => some q36)))))))
set_option maxHeartbeats 4000000 in
set_option maxRecDepth 100000 in
theorem fn_X7_eightOfText (l : Launch) (G : Gc) (a_this : Nat) (a_codes : Nat) (a_begins : Nat) (a_ends : Nat) (a_characters : Nat) (a_attributeLetters : Nat) (a_valueBegins : Nat) (a_valueEnds : Nat) (a_values : Nat) (a_characters_row : Nat) (x_count : Int32) (x_attributeCount : Int32) (x_codes : Nat → Int32) (x_begins : Nat → Int32) (x_ends : Nat → Int32) (x_characters_size : Int32) (x_characters_overflowed : Int32) (x_characters_row : Nat → Int32) (v1 : Int32) (v2 : Int32)  {o : Int64} (h : f_X7_eightOfText x_count x_codes x_begins x_ends x_characters_size x_characters_row v1 v2 = some o) : ms_Fn l G yX7_eightOfText cX7_eightOfText 3 (some .long) rm_X7_eightOfText [.ref a_this, .int v1, .int v2] [ob_X7 a_this a_codes a_begins a_ends x_count a_characters a_attributeLetters a_valueBegins a_valueEnds x_attributeCount a_values, (a_codes, .inl (G.2.1 1, 200, .inl x_codes)), (a_begins, .inl (G.2.1 1, 200, .inl x_begins)), (a_ends, .inl (G.2.1 1, 200, .inl x_ends)), ob_X1 a_characters a_characters_row x_characters_size x_characters_overflowed, (a_characters_row, .inl (G.2.1 0, 200, .inl x_characters_row))] [ob_X7 a_this a_codes a_begins a_ends x_count a_characters a_attributeLetters a_valueBegins a_valueEnds x_attributeCount a_values, (a_codes, .inl (G.2.1 1, 200, .inl x_codes)), (a_begins, .inl (G.2.1 1, 200, .inl x_begins)), (a_ends, .inl (G.2.1 1, 200, .inl x_ends)), ob_X1 a_characters a_characters_row x_characters_size x_characters_overflowed, (a_characters_row, .inl (G.2.1 0, 200, .inl x_characters_row))] (some (.long o)) := by
  refine ms_start RX7 (by decide +kernel) rfl (Nat.le_of_ble_eq_true rfl) (fun p e s m below meth c A ls hX hW hl => ?_)
  have hx := hX.1.1
  have hb := hX.1.2.1
  have hl : lv_has ls 3 [(0, .ref a_this), (1, .int v1), (2, .int v2)] := hl
  unfold f_X7_eightOfText at h
  refine lv_aload_n hx hb dX7_eightOfText_0 rfl (lv_at hl 0 rfl) ?_
  refine lv_iload_n hx hb dX7_eightOfText_1 rfl (lv_at hl 1 rfl) ?_
  obtain ⟨q2, hq2, h⟩ := ms_bd h
  refine ms_callV (fn_X7_hasNode l G a_this a_codes a_begins a_ends a_characters a_attributeLetters a_valueBegins a_valueEnds a_values x_count x_attributeCount v1 hq2) wm_X7_hasNode wv_X7_50 hX hW [0] rfl rfl rfl rfl rfl ⟨Nat.le_of_ble_eq_true rfl, Nat.le_of_ble_eq_true rfl, rfl, rfl, Nat.zero_le _, Nat.zero_le _⟩ rfl hl.1 [] rfl (Nat.le_of_ble_eq_true rfl) dX7_eightOfText_2 (fun H locs hW => ?_)
  have hW : ms_W G A s H locs [ob_X7 a_this a_codes a_begins a_ends x_count a_characters a_attributeLetters a_valueBegins a_valueEnds x_attributeCount a_values, (a_codes, .inl (G.2.1 1, 200, .inl x_codes)), (a_begins, .inl (G.2.1 1, 200, .inl x_begins)), (a_ends, .inl (G.2.1 1, 200, .inl x_ends)), ob_X1 a_characters a_characters_row x_characters_size x_characters_overflowed, (a_characters_row, .inl (G.2.1 0, 200, .inl x_characters_row))] := hW
  refine W.eq (g2 := F0 m 5 ls [.int q2]) rfl ?_
  refine lv_if_eq (tgt := 17) hx hb dX7_eightOfText_5 (by decide) (fun k => ?_) (fun k => ?_)
  · have h := ms_ifp h k
    refine lv_lconst (v := 0) hx hb dX7_eightOfText_17 (by decide) ?_
    obtain rfl := Option.some.inj h
    exact ms_lret hX hW dX7_eightOfText_18
  · have h := ms_ifn h k
    refine lv_aload_n hx hb dX7_eightOfText_8 rfl (lv_at hl 0 rfl) ?_
    refine lv_iload_n hx hb dX7_eightOfText_9 rfl (lv_at hl 1 rfl) ?_
    obtain ⟨q10, hq10, h⟩ := ms_bd h
    refine ms_callV (fn_X7_kindOf l G a_this a_codes a_begins a_ends a_characters a_attributeLetters a_valueBegins a_valueEnds a_values x_count x_attributeCount x_codes v1 hq10) wm_X7_kindOf wv_X7_54 hX hW [0, 1] rfl rfl rfl rfl rfl ⟨Nat.le_of_ble_eq_true rfl, Nat.le_of_ble_eq_true rfl, rfl, rfl, Nat.zero_le _, Nat.zero_le _⟩ rfl hl.1 [] rfl (Nat.le_of_ble_eq_true rfl) dX7_eightOfText_10 (fun H locs hW => ?_)
    have hW : ms_W G A s H locs [ob_X7 a_this a_codes a_begins a_ends x_count a_characters a_attributeLetters a_valueBegins a_valueEnds x_attributeCount a_values, (a_codes, .inl (G.2.1 1, 200, .inl x_codes)), (a_begins, .inl (G.2.1 1, 200, .inl x_begins)), (a_ends, .inl (G.2.1 1, 200, .inl x_ends)), ob_X1 a_characters a_characters_row x_characters_size x_characters_overflowed, (a_characters_row, .inl (G.2.1 0, 200, .inl x_characters_row))] := hW
    refine W.eq (g2 := F0 m 13 ls [.int q10]) rfl ?_
    refine lv_iconst (v := 3) hx hb dX7_eightOfText_13 (by decide) ?_
    refine lv_icmp_ne (tgt := 19) hx hb dX7_eightOfText_14 (by decide) (fun k => ?_) (fun k => ?_)
    · have h := ms_ifn h k
      refine lv_aload_n hx hb dX7_eightOfText_19 rfl (lv_at hl 0 rfl) ?_
      refine ms_get ff_X7_28 hX hW 0 rfl rfl dX7_eightOfText_20 ?_
      refine lv_aload_n hx hb dX7_eightOfText_23 rfl (lv_at hl 0 rfl) ?_
      refine ms_get ff_X7_15 hX hW 0 rfl rfl dX7_eightOfText_24 ?_
      refine lv_iload_n hx hb dX7_eightOfText_27 rfl (lv_at hl 1 rfl) ?_
      obtain ⟨k, h⟩ := ms_gi_some h
      refine ms_iald hX hW 2 rfl k dX7_eightOfText_28 ?_
      refine lv_aload_n hx hb dX7_eightOfText_29 rfl (lv_at hl 0 rfl) ?_
      refine ms_get ff_X7_18 hX hW 0 rfl rfl dX7_eightOfText_30 ?_
      refine lv_iload_n hx hb dX7_eightOfText_33 rfl (lv_at hl 1 rfl) ?_
      obtain ⟨k, h⟩ := ms_gi_some h
      refine ms_iald hX hW 3 rfl k dX7_eightOfText_34 ?_
      refine lv_iload_n hx hb dX7_eightOfText_35 rfl (lv_at hl 2 rfl) ?_
      obtain ⟨q36, hq36, h⟩ := ms_bd h
      refine ms_callV (fn_X1_eight l G a_characters a_characters_row x_characters_size x_characters_overflowed x_characters_row (x_begins v1.toNatClampNeg) (x_ends v1.toNatClampNeg) v2 hq36) wm_X1_eight wv_X7_58 hX hW [4, 5] rfl rfl rfl rfl rfl ⟨Nat.le_of_ble_eq_true rfl, Nat.le_of_ble_eq_true rfl, rfl, rfl, Nat.zero_le _, Nat.zero_le _⟩ rfl hl.1 [] rfl (Nat.le_of_ble_eq_true rfl) dX7_eightOfText_36 (fun H locs hW => ?_)
      have hW : ms_W G A s H locs [ob_X7 a_this a_codes a_begins a_ends x_count a_characters a_attributeLetters a_valueBegins a_valueEnds x_attributeCount a_values, (a_codes, .inl (G.2.1 1, 200, .inl x_codes)), (a_begins, .inl (G.2.1 1, 200, .inl x_begins)), (a_ends, .inl (G.2.1 1, 200, .inl x_ends)), ob_X1 a_characters a_characters_row x_characters_size x_characters_overflowed, (a_characters_row, .inl (G.2.1 0, 200, .inl x_characters_row))] := hW
      refine W.eq (g2 := F0 m 39 ls [.long q36]) rfl ?_
      obtain rfl := Option.some.inj h
      exact ms_lret hX hW dX7_eightOfText_39
    · have h := ms_ifp h k
      refine lv_lconst (v := 0) hx hb dX7_eightOfText_17 (by decide) ?_
      obtain rfl := Option.some.inj h
      exact ms_lret hX hW dX7_eightOfText_18
