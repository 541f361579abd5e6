def rm_X1_empty : Room := { frames := 0, cells := 0, slots := 0, locals := 0 }
def f_X1_empty (x_size : Int32) (x_overflowed : Int32)  : Option (Int32 × Int32) := some (0, 0)
set_option maxHeartbeats 4000000 in
set_option maxRecDepth 100000 in
theorem fn_X1_empty (l : Launch) (G : Gc) (a_this : Nat) (a_row : Nat) (x_size : Int32) (x_overflowed : Int32)   {o : Int32 × Int32} (h : f_X1_empty x_size x_overflowed = some o) : ms_Fn l G yX1_empty cX1_empty 1 none rm_X1_empty [.ref a_this] [ob_X1 a_this a_row x_size x_overflowed] [ob_X1 a_this a_row o.1 o.2] none := by
  refine ms_start RX1 (by decide +kernel) rfl (Nat.le_of_ble_eq_true rfl) (fun p e s m below meth c A ls hX hW hl => ?_)
  have hx := hX.1.1
  have hb := hX.1.2.1
  have hl : lv_has ls 1 [(0, .ref a_this)] := hl
  unfold f_X1_empty at h
  refine lv_aload_n hx hb dX1_empty_0 rfl (lv_at hl 0 rfl) ?_
  refine lv_iconst (v := 0) hx hb dX1_empty_1 (by decide) ?_
  refine ms_put ff_X1_15 fp_X1_1 rfl hX hW 0 rfl rfl rfl (Nat.le_of_ble_eq_true rfl) dX1_empty_2 (fun H locs hW => ?_)
  have hW : ms_W G A s H locs [ob_X1 a_this a_row 0 x_overflowed] := hW
  refine lv_aload_n hx hb dX1_empty_5 rfl (lv_at hl 0 rfl) ?_
  refine lv_iconst (v := 0) hx hb dX1_empty_6 (by decide) ?_
  refine ms_put ff_X1_19 fp_X1_2 rfl hX hW 0 rfl (by decide) (by decide) (Nat.le_of_ble_eq_true rfl) dX1_empty_7 (fun H locs hW => ?_)
  have hW : ms_W G A s H locs [ob_X1 a_this a_row 0 0] := hW
  obtain rfl := Option.some.inj h
  exact ms_vret hX hW dX1_empty_10
def rm_X7_empty : Room := { frames := 1, cells := 0, slots := 0, locals := 20 }
def f_X7_empty (x_count : Int32) (x_attributeCount : Int32) (x_characters_size : Int32) (x_characters_overflowed : Int32) (x_values_size : Int32) (x_values_overflowed : Int32)  : Option (Int32 × Int32 × Int32 × Int32 × Int32 × Int32) := (f_X1_empty x_characters_size x_characters_overflowed).bind (fun q9 => (f_X1_empty x_values_size x_values_overflowed).bind (fun q21 => some (0, 0, q9.1, q9.2, q21.1, q21.2)))
set_option maxHeartbeats 4000000 in
set_option maxRecDepth 100000 in
theorem fn_X7_empty (l : Launch) (G : Gc) (a_this : Nat) (a_codes : Nat) (a_begins : Nat) (a_ends : Nat) (a_characters : Nat) (a_attributeLetters : Nat) (a_valueBegins : Nat) (a_valueEnds : Nat) (a_values : Nat) (a_characters_row : Nat) (a_values_row : Nat) (x_count : Int32) (x_attributeCount : Int32) (x_characters_size : Int32) (x_characters_overflowed : Int32) (x_values_size : Int32) (x_values_overflowed : Int32)   {o : Int32 × Int32 × Int32 × Int32 × Int32 × Int32} (h : f_X7_empty x_count x_attributeCount x_characters_size x_characters_overflowed x_values_size x_values_overflowed = some o) : ms_Fn l G yX7_empty cX7_empty 1 none rm_X7_empty [.ref a_this] [ob_X7 a_this a_codes a_begins a_ends x_count a_characters a_attributeLetters a_valueBegins a_valueEnds x_attributeCount a_values, ob_X1 a_characters a_characters_row x_characters_size x_characters_overflowed, ob_X1 a_values a_values_row x_values_size x_values_overflowed] [ob_X7 a_this a_codes a_begins a_ends o.1 a_characters a_attributeLetters a_valueBegins a_valueEnds o.2.1 a_values, ob_X1 a_characters a_characters_row o.2.2.1 o.2.2.2.1, ob_X1 a_values a_values_row o.2.2.2.2.1 o.2.2.2.2.2] none := by
  refine ms_start RX7 (by decide +kernel) rfl (Nat.le_of_ble_eq_true rfl) (fun p e s m below meth c A ls hX hW hl => ?_)
  have hx := hX.1.1
  have hb := hX.1.2.1
  have hl : lv_has ls 1 [(0, .ref a_this)] := hl
  unfold f_X7_empty at h
  refine lv_aload_n hx hb dX7_empty_0 rfl (lv_at hl 0 rfl) ?_
  refine lv_iconst (v := 0) hx hb dX7_empty_1 (by decide) ?_
  refine ms_put ff_X7_21 fp_X7_3 rfl hX hW 0 rfl rfl rfl (Nat.le_of_ble_eq_true rfl) dX7_empty_2 (fun H locs hW => ?_)
  have hW : ms_W G A s H locs [ob_X7 a_this a_codes a_begins a_ends 0 a_characters a_attributeLetters a_valueBegins a_valueEnds x_attributeCount a_values, ob_X1 a_characters a_characters_row x_characters_size x_characters_overflowed, ob_X1 a_values a_values_row x_values_size x_values_overflowed] := hW
  refine lv_aload_n hx hb dX7_empty_5 rfl (lv_at hl 0 rfl) ?_
  refine ms_get ff_X7_28 hX hW 0 rfl rfl dX7_empty_6 ?_
  obtain ⟨q9, hq9, h⟩ := ms_bd h
  refine ms_callV (fn_X1_empty l G a_characters a_characters_row x_characters_size x_characters_overflowed hq9) wm_X1_empty wv_X7_47 hX hW [1] rfl rfl rfl rfl rfl ⟨Nat.le_of_ble_eq_true rfl, Nat.le_of_ble_eq_true rfl, rfl, rfl, Nat.zero_le _, Nat.zero_le _⟩ rfl hl.1 [] rfl (Nat.le_of_ble_eq_true rfl) dX7_empty_9 (fun H locs hW => ?_)
  have hW : ms_W G A s H locs [ob_X7 a_this a_codes a_begins a_ends 0 a_characters a_attributeLetters a_valueBegins a_valueEnds x_attributeCount a_values, ob_X1 a_characters a_characters_row q9.1 q9.2, ob_X1 a_values a_values_row x_values_size x_values_overflowed] := hW
  refine W.eq (g2 := F0 m 12 ls []) rfl ?_
  refine lv_aload_n hx hb dX7_empty_12 rfl (lv_at hl 0 rfl) ?_
  refine lv_iconst (v := 0) hx hb dX7_empty_13 (by decide) ?_
  refine ms_put ff_X7_41 fp_X7_8 rfl hX hW 0 rfl rfl rfl (Nat.le_of_ble_eq_true rfl) dX7_empty_14 (fun H locs hW => ?_)
  have hW : ms_W G A s H locs [ob_X7 a_this a_codes a_begins a_ends 0 a_characters a_attributeLetters a_valueBegins a_valueEnds 0 a_values, ob_X1 a_characters a_characters_row q9.1 q9.2, ob_X1 a_values a_values_row x_values_size x_values_overflowed] := hW
  refine lv_aload_n hx hb dX7_empty_17 rfl (lv_at hl 0 rfl) ?_
  refine ms_get ff_X7_44 hX hW 0 rfl rfl dX7_empty_18 ?_
  obtain ⟨q21, hq21, h⟩ := ms_bd h
  refine ms_callV (fn_X1_empty l G a_values a_values_row x_values_size x_values_overflowed hq21) wm_X1_empty wv_X7_47 hX hW [2] rfl rfl rfl rfl rfl ⟨Nat.le_of_ble_eq_true rfl, Nat.le_of_ble_eq_true rfl, rfl, rfl, Nat.zero_le _, Nat.zero_le _⟩ rfl hl.1 [] rfl (Nat.le_of_ble_eq_true rfl) dX7_empty_21 (fun H locs hW => ?_)
  have hW : ms_W G A s H locs [ob_X7 a_this a_codes a_begins a_ends 0 a_characters a_attributeLetters a_valueBegins a_valueEnds 0 a_values, ob_X1 a_characters a_characters_row q9.1 q9.2, ob_X1 a_values a_values_row q21.1 q21.2] := hW
  refine W.eq (g2 := F0 m 24 ls []) rfl ?_
  obtain rfl := Option.some.inj h
  exact ms_vret hX hW dX7_empty_24
def rm_X2_empty : Room := { frames := 0, cells := 0, slots := 0, locals := 0 }
def f_X2_empty (x_count : Int32)  : Option (Int32) := some 0
set_option maxHeartbeats 4000000 in
set_option maxRecDepth 100000 in
theorem fn_X2_empty (l : Launch) (G : Gc) (a_this : Nat) (a_names : Nat) (a_foreigns : Nat) (x_count : Int32)   {o : Int32} (h : f_X2_empty x_count = some o) : ms_Fn l G yX2_empty cX2_empty 1 none rm_X2_empty [.ref a_this] [ob_X2 a_this a_names a_foreigns x_count] [ob_X2 a_this a_names a_foreigns o] none := by
  refine ms_start RX2 (by decide +kernel) rfl (Nat.le_of_ble_eq_true rfl) (fun p e s m below meth c A ls hX hW hl => ?_)
  have hx := hX.1.1
  have hb := hX.1.2.1
  have hl : lv_has ls 1 [(0, .ref a_this)] := hl
  unfold f_X2_empty at h
  refine lv_aload_n hx hb dX2_empty_0 rfl (lv_at hl 0 rfl) ?_
  refine lv_iconst (v := 0) hx hb dX2_empty_1 (by decide) ?_
  refine ms_put ff_X2_19 fp_X2_2 rfl hX hW 0 rfl rfl rfl (Nat.le_of_ble_eq_true rfl) dX2_empty_2 (fun H locs hW => ?_)
  have hW : ms_W G A s H locs [ob_X2 a_this a_names a_foreigns 0] := hW
  obtain rfl := Option.some.inj h
  exact ms_vret hX hW dX2_empty_5
def rm_X0_begin : Room := { frames := 2, cells := 0, slots := 0, locals := 40 }
def f_X0_begin (x_tree_count : Int32) (x_tree_attributeCount : Int32) (x_tree_characters_size : Int32) (x_tree_characters_overflowed : Int32) (x_tree_values_size : Int32) (x_tree_values_overflowed : Int32) (x_open_count : Int32)  : Option (Int32 × Int32 × Int32 × Int32 × Int32 × Int32 × Int32) := (f_X7_empty x_tree_count x_tree_attributeCount x_tree_characters_size x_tree_characters_overflowed x_tree_values_size x_tree_values_overflowed).bind (fun q4 => (f_X2_empty x_open_count).bind (fun q11 => some (q4.1, q4.2.1, q4.2.2.1, q4.2.2.2.1, q4.2.2.2.2.1, q4.2.2.2.2.2, q11)))
set_option maxHeartbeats 4000000 in
set_option maxRecDepth 100000 in
theorem fn_X0_begin (l : Launch) (G : Gc) (a_this : Nat) (a_source : Nat) (a_tree : Nat) (a_open : Nat) (a_tree_codes : Nat) (a_tree_begins : Nat) (a_tree_ends : Nat) (a_tree_characters : Nat) (a_tree_attributeLetters : Nat) (a_tree_valueBegins : Nat) (a_tree_valueEnds : Nat) (a_tree_values : Nat) (a_tree_characters_row : Nat) (a_tree_values_row : Nat) (a_open_names : Nat) (a_open_foreigns : Nat) (x_tree_count : Int32) (x_tree_attributeCount : Int32) (x_tree_characters_size : Int32) (x_tree_characters_overflowed : Int32) (x_tree_values_size : Int32) (x_tree_values_overflowed : Int32) (x_open_count : Int32)   {o : Int32 × Int32 × Int32 × Int32 × Int32 × Int32 × Int32} (h : f_X0_begin x_tree_count x_tree_attributeCount x_tree_characters_size x_tree_characters_overflowed x_tree_values_size x_tree_values_overflowed x_open_count = some o) : ms_Fn l G yX0_begin cX0_begin 1 none rm_X0_begin [.ref a_this] [ob_X0 a_this a_source a_tree a_open, ob_X7 a_tree a_tree_codes a_tree_begins a_tree_ends x_tree_count a_tree_characters a_tree_attributeLetters a_tree_valueBegins a_tree_valueEnds x_tree_attributeCount a_tree_values, ob_X1 a_tree_characters a_tree_characters_row x_tree_characters_size x_tree_characters_overflowed, ob_X1 a_tree_values a_tree_values_row x_tree_values_size x_tree_values_overflowed, ob_X2 a_open a_open_names a_open_foreigns x_open_count] [ob_X0 a_this a_source a_tree a_open, ob_X7 a_tree a_tree_codes a_tree_begins a_tree_ends o.1 a_tree_characters a_tree_attributeLetters a_tree_valueBegins a_tree_valueEnds o.2.1 a_tree_values, ob_X1 a_tree_characters a_tree_characters_row o.2.2.1 o.2.2.2.1, ob_X1 a_tree_values a_tree_values_row o.2.2.2.2.1 o.2.2.2.2.2.1, ob_X2 a_open a_open_names a_open_foreigns o.2.2.2.2.2.2] none := by
  refine ms_start RX0 (by decide +kernel) rfl (Nat.le_of_ble_eq_true rfl) (fun p e s m below meth c A ls hX hW hl => ?_)
  have hx := hX.1.1
  have hb := hX.1.2.1
  have hl : lv_has ls 1 [(0, .ref a_this)] := hl
  unfold f_X0_begin at h
  refine lv_aload_n hx hb dX0_begin_0 rfl (lv_at hl 0 rfl) ?_
  refine ms_get ff_X0_15 hX hW 0 rfl rfl dX0_begin_1 ?_
  obtain ⟨q4, hq4, h⟩ := ms_bd h
  refine ms_callV (fn_X7_empty l G a_tree a_tree_codes a_tree_begins a_tree_ends a_tree_characters a_tree_attributeLetters a_tree_valueBegins a_tree_valueEnds a_tree_values a_tree_characters_row a_tree_values_row x_tree_count x_tree_attributeCount x_tree_characters_size x_tree_characters_overflowed x_tree_values_size x_tree_values_overflowed hq4) wm_X7_empty wv_X0_26 hX hW [1, 2, 3] rfl rfl rfl rfl rfl ⟨Nat.le_of_ble_eq_true rfl, Nat.le_of_ble_eq_true rfl, rfl, rfl, Nat.zero_le _, Nat.zero_le _⟩ rfl hl.1 [] rfl (Nat.le_of_ble_eq_true rfl) dX0_begin_4 (fun H locs hW => ?_)
  have hW : ms_W G A s H locs [ob_X0 a_this a_source a_tree a_open, ob_X7 a_tree a_tree_codes a_tree_begins a_tree_ends q4.1 a_tree_characters a_tree_attributeLetters a_tree_valueBegins a_tree_valueEnds q4.2.1 a_tree_values, ob_X1 a_tree_characters a_tree_characters_row q4.2.2.1 q4.2.2.2.1, ob_X1 a_tree_values a_tree_values_row q4.2.2.2.2.1 q4.2.2.2.2.2, ob_X2 a_open a_open_names a_open_foreigns x_open_count] := hW
  refine W.eq (g2 := F0 m 7 ls []) rfl ?_
  refine lv_aload_n hx hb dX0_begin_7 rfl (lv_at hl 0 rfl) ?_
  refine ms_get ff_X0_22 hX hW 0 rfl rfl dX0_begin_8 ?_
  obtain ⟨q11, hq11, h⟩ := ms_bd h
  refine ms_callV (fn_X2_empty l G a_open a_open_names a_open_foreigns x_open_count hq11) wm_X2_empty wv_X0_31 hX hW [4] rfl rfl rfl rfl rfl ⟨Nat.le_of_ble_eq_true rfl, Nat.le_of_ble_eq_true rfl, rfl, rfl, Nat.zero_le _, Nat.zero_le _⟩ rfl hl.1 [] rfl (Nat.le_of_ble_eq_true rfl) dX0_begin_11 (fun H locs hW => ?_)
  have hW : ms_W G A s H locs [ob_X0 a_this a_source a_tree a_open, ob_X7 a_tree a_tree_codes a_tree_begins a_tree_ends q4.1 a_tree_characters a_tree_attributeLetters a_tree_valueBegins a_tree_valueEnds q4.2.1 a_tree_values, ob_X1 a_tree_characters a_tree_characters_row q4.2.2.1 q4.2.2.2.1, ob_X1 a_tree_values a_tree_values_row q4.2.2.2.2.1 q4.2.2.2.2.2, ob_X2 a_open a_open_names a_open_foreigns q11] := hW
  refine W.eq (g2 := F0 m 14 ls []) rfl ?_
  obtain rfl := Option.some.inj h
  exact ms_vret hX hW dX0_begin_14
def rm_X2_size : Room := { frames := 0, cells := 0, slots := 0, locals := 0 }
def f_X2_size (x_count : Int32)  : Option (Int32) := some x_count
set_option maxHeartbeats 4000000 in
set_option maxRecDepth 100000 in
theorem fn_X2_size (l : Launch) (G : Gc) (a_this : Nat) (a_names : Nat) (a_foreigns : Nat) (x_count : Int32)   {o : Int32} (h : f_X2_size x_count = some o) : ms_Fn l G yX2_size cX2_size 1 (some .int) rm_X2_size [.ref a_this] [ob_X2 a_this a_names a_foreigns x_count] [ob_X2 a_this a_names a_foreigns x_count] (some (.int o)) := by
  refine ms_start RX2 (by decide +kernel) rfl (Nat.le_of_ble_eq_true rfl) (fun p e s m below meth c A ls hX hW hl => ?_)
  have hx := hX.1.1
  have hb := hX.1.2.1
  have hl : lv_has ls 1 [(0, .ref a_this)] := hl
  unfold f_X2_size at h
  refine lv_aload_n hx hb dX2_size_0 rfl (lv_at hl 0 rfl) ?_
  refine ms_get ff_X2_19 hX hW 0 rfl rfl dX2_size_1 ?_
  obtain rfl := Option.some.inj h
  exact ms_iret hX hW dX2_size_4
def rm_X0_depth : Room := { frames := 1, cells := 0, slots := 0, locals := 20 }
def f_X0_depth (x_open_count : Int32)  : Option (Int32) := (f_X2_size x_open_count).bind (fun q4 => some q4)
set_option maxHeartbeats 4000000 in
set_option maxRecDepth 100000 in
theorem fn_X0_depth (l : Launch) (G : Gc) (a_this : Nat) (a_source : Nat) (a_tree : Nat) (a_open : Nat) (a_open_names : Nat) (a_open_foreigns : Nat) (x_open_count : Int32)   {o : Int32} (h : f_X0_depth x_open_count = some o) : ms_Fn l G yX0_depth cX0_depth 1 (some .int) rm_X0_depth [.ref a_this] [ob_X0 a_this a_source a_tree a_open, ob_X2 a_open a_open_names a_open_foreigns x_open_count] [ob_X0 a_this a_source a_tree a_open, ob_X2 a_open a_open_names a_open_foreigns x_open_count] (some (.int o)) := by
  refine ms_start RX0 (by decide +kernel) rfl (Nat.le_of_ble_eq_true rfl) (fun p e s m below meth c A ls hX hW hl => ?_)
  have hx := hX.1.1
  have hb := hX.1.2.1
  have hl : lv_has ls 1 [(0, .ref a_this)] := hl
  unfold f_X0_depth at h
  refine lv_aload_n hx hb dX0_depth_0 rfl (lv_at hl 0 rfl) ?_
  refine ms_get ff_X0_22 hX hW 0 rfl rfl dX0_depth_1 ?_
  obtain ⟨q4, hq4, h⟩ := ms_bd h
  refine ms_callV (fn_X2_size l G a_open a_open_names a_open_foreigns x_open_count hq4) wm_X2_size wv_X0_32 hX hW [1] rfl rfl rfl rfl rfl ⟨Nat.le_of_ble_eq_true rfl, Nat.le_of_ble_eq_true rfl, rfl, rfl, Nat.zero_le _, Nat.zero_le _⟩ rfl hl.1 [] rfl (Nat.le_of_ble_eq_true rfl) dX0_depth_4 (fun H locs hW => ?_)
  have hW : ms_W G A s H locs [ob_X0 a_this a_source a_tree a_open, ob_X2 a_open a_open_names a_open_foreigns x_open_count] := hW
  refine W.eq (g2 := F0 m 7 ls [.int q4]) rfl ?_
  obtain rfl := Option.some.inj h
  exact ms_iret hX hW dX0_depth_7
def rm_X6_name : Room := { frames := 0, cells := 0, slots := 0, locals := 0 }
def f_X6_name (x_name : Int32)  : Option (Int32) := some x_name
set_option maxHeartbeats 4000000 in
set_option maxRecDepth 100000 in
theorem fn_X6_name (l : Launch) (G : Gc) (a_this : Nat) (a_begins : Nat) (a_ends : Nat) (x_had : Int32) (x_name : Int32) (x_ending : Int32)   {o : Int32} (h : f_X6_name x_name = some o) : ms_Fn l G yX6_name cX6_name 1 (some .int) rm_X6_name [.ref a_this] [ob_X6 a_this a_begins a_ends x_had x_name x_ending] [ob_X6 a_this a_begins a_ends x_had x_name x_ending] (some (.int o)) := by
  refine ms_start RX6 (by decide +kernel) rfl (Nat.le_of_ble_eq_true rfl) (fun p e s m below meth c A ls hX hW hl => ?_)
  have hx := hX.1.1
  have hb := hX.1.2.1
  have hl : lv_has ls 1 [(0, .ref a_this)] := hl
  unfold f_X6_name at h
  refine lv_aload_n hx hb dX6_name_0 rfl (lv_at hl 0 rfl) ?_
  refine ms_get ff_X6_22 hX hW 0 rfl rfl dX6_name_1 ?_
  obtain rfl := Option.some.inj h
  exact ms_iret hX hW dX6_name_4
def rm_X9_isBlock : Room := { frames := 0, cells := 0, slots := 0, locals := 0 }
def f_X9_isBlock  (v0 : Int32) : Option (Int32) := (if v0 = 3 then some 1 else (if v0 = 15 then some 1 else (if v0 = 20 then some 1 else (if v0 = 11 then some 1 else some 0))))
set_option maxHeartbeats 4000000 in
set_option maxRecDepth 100000 in
theorem fn_X9_isBlock (l : Launch) (G : Gc)   (v0 : Int32)  {o : Int32} (h : f_X9_isBlock v0 = some o) : ms_Fn l G yX9_isBlock cX9_isBlock 1 (some .boolean) rm_X9_isBlock [.int v0] [] [] (some (.int o)) := by
  refine ms_start RX9 (by decide +kernel) rfl (Nat.le_of_ble_eq_true rfl) (fun p e s m below meth c A ls hX hW hl => ?_)
  have hx := hX.1.1
  have hb := hX.1.2.1
  have hl : lv_has ls 1 [(0, .int v0)] := hl
  unfold f_X9_isBlock at h
  refine lv_iload_n hx hb dX9_isBlock_0 rfl (lv_at hl 0 rfl) ?_
  refine lv_iconst (v := 3) hx hb dX9_isBlock_1 (by decide) ?_
  refine lv_icmp_eq (tgt := 23) hx hb dX9_isBlock_2 (by decide) (fun k => ?_) (fun k => ?_)
  · have h := ms_ifp h k
    refine lv_iconst (v := 1) hx hb dX9_isBlock_23 (by decide) ?_
    refine lv_goto (tgt := 28) hx hb dX9_isBlock_24 (by decide) ?_
    obtain rfl := Option.some.inj h
    exact ms_zret hX (ms_nz (Or.inr rfl)) hW dX9_isBlock_28
  · have h := ms_ifn h k
    refine lv_iload_n hx hb dX9_isBlock_5 rfl (lv_at hl 0 rfl) ?_
    refine lv_bipush (v := 15) hx hb dX9_isBlock_6 (by decide) ?_
    refine lv_icmp_eq (tgt := 23) hx hb dX9_isBlock_8 (by decide) (fun k => ?_) (fun k => ?_)
    · have h := ms_ifp h k
      refine lv_iconst (v := 1) hx hb dX9_isBlock_23 (by decide) ?_
      refine lv_goto (tgt := 28) hx hb dX9_isBlock_24 (by decide) ?_
      obtain rfl := Option.some.inj h
      exact ms_zret hX (ms_nz (Or.inr rfl)) hW dX9_isBlock_28
    · have h := ms_ifn h k
      refine lv_iload_n hx hb dX9_isBlock_11 rfl (lv_at hl 0 rfl) ?_
      refine lv_bipush (v := 20) hx hb dX9_isBlock_12 (by decide) ?_
      refine lv_icmp_eq (tgt := 23) hx hb dX9_isBlock_14 (by decide) (fun k => ?_) (fun k => ?_)
      · have h := ms_ifp h k
        refine lv_iconst (v := 1) hx hb dX9_isBlock_23 (by decide) ?_
        refine lv_goto (tgt := 28) hx hb dX9_isBlock_24 (by decide) ?_
        obtain rfl := Option.some.inj h
        exact ms_zret hX (ms_nz (Or.inr rfl)) hW dX9_isBlock_28
      · have h := ms_ifn h k
        refine lv_iload_n hx hb dX9_isBlock_17 rfl (lv_at hl 0 rfl) ?_
        refine lv_bipush (v := 11) hx hb dX9_isBlock_18 (by decide) ?_
        refine lv_icmp_ne (tgt := 27) hx hb dX9_isBlock_20 (by decide) (fun k => ?_) (fun k => ?_)
        · have h := ms_ifn h k
          refine lv_iconst (v := 0) hx hb dX9_isBlock_27 (by decide) ?_
          obtain rfl := Option.some.inj h
          exact ms_zret hX (ms_nz (Or.inl rfl)) hW dX9_isBlock_28
        · have h := ms_ifp h k
          refine lv_iconst (v := 1) hx hb dX9_isBlock_23 (by decide) ?_
          refine lv_goto (tgt := 28) hx hb dX9_isBlock_24 (by decide) ?_
          obtain rfl := Option.some.inj h
          exact ms_zret hX (ms_nz (Or.inr rfl)) hW dX9_isBlock_28
def rm_X2_isForeign : Room := { frames := 0, cells := 0, slots := 0, locals := 0 }
def f_X2_isForeign (x_count : Int32) (x_foreigns : Nat → Int32) (v1 : Int32) : Option (Int32) := (if v1 < 0 then some 0 else (if x_count ≤ v1 then some 0 else ms_gi v1 8 ((if (x_foreigns v1.toNatClampNeg) = 0 then some 0 else some 1))))
set_option maxHeartbeats 4000000 in
set_option maxRecDepth 100000 in
theorem fn_X2_isForeign (l : Launch) (G : Gc) (a_this : Nat) (a_names : Nat) (a_foreigns : Nat) (x_count : Int32) (x_foreigns : Nat → Int32) (v1 : Int32)  {o : Int32} (h : f_X2_isForeign x_count x_foreigns v1 = some o) : ms_Fn l G yX2_isForeign cX2_isForeign 2 (some .boolean) rm_X2_isForeign [.ref a_this, .int v1] [ob_X2 a_this a_names a_foreigns x_count, (a_foreigns, .inl (G.2.1 3, 8, .inl x_foreigns))] [ob_X2 a_this a_names a_foreigns x_count, (a_foreigns, .inl (G.2.1 3, 8, .inl x_foreigns))] (some (.int o)) := by
  refine ms_start RX2 (by decide +kernel) rfl (Nat.le_of_ble_eq_true rfl) (fun p e s m below meth c A ls hX hW hl => ?_)
  have hx := hX.1.1
  have hb := hX.1.2.1
  have hl : lv_has ls 2 [(0, .ref a_this), (1, .int v1)] := hl
  unfold f_X2_isForeign at h
  refine lv_iload_n hx hb dX2_isForeign_0 rfl (lv_at hl 1 rfl) ?_
  refine lv_if_lt (tgt := 25) hx hb dX2_isForeign_1 (by decide) (fun k => ?_) (fun k => ?_)
  · have h := ms_ifp h k
    refine lv_iconst (v := 0) hx hb dX2_isForeign_25 (by decide) ?_
    obtain rfl := Option.some.inj h
    exact ms_zret hX (ms_nz (Or.inl rfl)) hW dX2_isForeign_26
  · have h := ms_ifn h k
    refine lv_iload_n hx hb dX2_isForeign_4 rfl (lv_at hl 1 rfl) ?_
    refine lv_aload_n hx hb dX2_isForeign_5 rfl (lv_at hl 0 rfl) ?_
    refine ms_get ff_X2_19 hX hW 0 rfl rfl dX2_isForeign_6 ?_
    refine lv_icmp_ge (tgt := 25) hx hb dX2_isForeign_9 (by decide) (fun k => ?_) (fun k => ?_)
    · have h := ms_ifp h k
      refine lv_iconst (v := 0) hx hb dX2_isForeign_25 (by decide) ?_
      obtain rfl := Option.some.inj h
      exact ms_zret hX (ms_nz (Or.inl rfl)) hW dX2_isForeign_26
    · have h := ms_ifn h k
      refine lv_aload_n hx hb dX2_isForeign_12 rfl (lv_at hl 0 rfl) ?_
      refine ms_get ff_X2_15 hX hW 0 rfl rfl dX2_isForeign_13 ?_
      refine lv_iload_n hx hb dX2_isForeign_16 rfl (lv_at hl 1 rfl) ?_
      obtain ⟨k, h⟩ := ms_gi_some h
      refine ms_zald hX hW 1 rfl k dX2_isForeign_17 ?_
      refine lv_if_eq (tgt := 25) hx hb dX2_isForeign_18 (by decide) (fun k => ?_) (fun k => ?_)
      · have h := ms_ifp h k
        refine lv_iconst (v := 0) hx hb dX2_isForeign_25 (by decide) ?_
        obtain rfl := Option.some.inj h
        exact ms_zret hX (ms_nz (Or.inl rfl)) hW dX2_isForeign_26
      · have h := ms_ifn h k
        refine lv_iconst (v := 1) hx hb dX2_isForeign_21 (by decide) ?_
        refine lv_goto (tgt := 26) hx hb dX2_isForeign_22 (by decide) ?_
        obtain rfl := Option.some.inj h
        exact ms_zret hX (ms_nz (Or.inr rfl)) hW dX2_isForeign_26
def rm_X2_isNamed : Room := { frames := 0, cells := 0, slots := 0, locals := 0 }
def f_X2_isNamed (x_count : Int32) (x_names : Nat → Int32) (v1 : Int32) (v2 : Int32) : Option (Int32) := (if v1 < 0 then some 0 else (if x_count ≤ v1 then some 0 else ms_gi v1 8 ((if (x_names v1.toNatClampNeg) = v2 then some 1 else some 0))))
set_option maxHeartbeats 4000000 in
set_option maxRecDepth 100000 in
theorem fn_X2_isNamed (l : Launch) (G : Gc) (a_this : Nat) (a_names : Nat) (a_foreigns : Nat) (x_count : Int32) (x_names : Nat → Int32) (v1 : Int32) (v2 : Int32)  {o : Int32} (h : f_X2_isNamed x_count x_names v1 v2 = some o) : ms_Fn l G yX2_isNamed cX2_isNamed 3 (some .boolean) rm_X2_isNamed [.ref a_this, .int v1, .int v2] [ob_X2 a_this a_names a_foreigns x_count, (a_names, .inl (G.2.1 1, 8, .inl x_names))] [ob_X2 a_this a_names a_foreigns x_count, (a_names, .inl (G.2.1 1, 8, .inl x_names))] (some (.int o)) := by
  refine ms_start RX2 (by decide +kernel) rfl (Nat.le_of_ble_eq_true rfl) (fun p e s m below meth c A ls hX hW hl => ?_)
  have hx := hX.1.1
  have hb := hX.1.2.1
  have hl : lv_has ls 3 [(0, .ref a_this), (1, .int v1), (2, .int v2)] := hl
  unfold f_X2_isNamed at h
  refine lv_iload_n hx hb dX2_isNamed_0 rfl (lv_at hl 1 rfl) ?_
  refine lv_if_lt (tgt := 26) hx hb dX2_isNamed_1 (by decide) (fun k => ?_) (fun k => ?_)
  · have h := ms_ifp h k
    refine lv_iconst (v := 0) hx hb dX2_isNamed_26 (by decide) ?_
    obtain rfl := Option.some.inj h
    exact ms_zret hX (ms_nz (Or.inl rfl)) hW dX2_isNamed_27
  · have h := ms_ifn h k
    refine lv_iload_n hx hb dX2_isNamed_4 rfl (lv_at hl 1 rfl) ?_
    refine lv_aload_n hx hb dX2_isNamed_5 rfl (lv_at hl 0 rfl) ?_
    refine ms_get ff_X2_19 hX hW 0 rfl rfl dX2_isNamed_6 ?_
    refine lv_icmp_ge (tgt := 26) hx hb dX2_isNamed_9 (by decide) (fun k => ?_) (fun k => ?_)
    · have h := ms_ifp h k
      refine lv_iconst (v := 0) hx hb dX2_isNamed_26 (by decide) ?_
      obtain rfl := Option.some.inj h
      exact ms_zret hX (ms_nz (Or.inl rfl)) hW dX2_isNamed_27
    · have h := ms_ifn h k
      refine lv_aload_n hx hb dX2_isNamed_12 rfl (lv_at hl 0 rfl) ?_
      refine ms_get ff_X2_9 hX hW 0 rfl rfl dX2_isNamed_13 ?_
      refine lv_iload_n hx hb dX2_isNamed_16 rfl (lv_at hl 1 rfl) ?_
      obtain ⟨k, h⟩ := ms_gi_some h
      refine ms_iald hX hW 1 rfl k dX2_isNamed_17 ?_
      refine lv_iload_n hx hb dX2_isNamed_18 rfl (lv_at hl 2 rfl) ?_
      refine lv_icmp_ne (tgt := 26) hx hb dX2_isNamed_19 (by decide) (fun k => ?_) (fun k => ?_)
      · have h := ms_ifn h k
        refine lv_iconst (v := 0) hx hb dX2_isNamed_26 (by decide) ?_
        obtain rfl := Option.some.inj h
        exact ms_zret hX (ms_nz (Or.inl rfl)) hW dX2_isNamed_27
      · have h := ms_ifp h k
        refine lv_iconst (v := 1) hx hb dX2_isNamed_22 (by decide) ?_
        refine lv_goto (tgt := 27) hx hb dX2_isNamed_23 (by decide) ?_
        obtain rfl := Option.some.inj h
        exact ms_zret hX (ms_nz (Or.inr rfl)) hW dX2_isNamed_27
def rm_X2_isAlien : Room := { frames := 1, cells := 0, slots := 0, locals := 22 }
def f_X2_isAlien (x_count : Int32) (x_names : Nat → Int32) (x_foreigns : Nat → Int32)  : Option (Int32) := (f_X2_isForeign x_count x_foreigns (x_count - 1)).bind (fun q7 => (if q7 = 0 then some 0 else (f_X2_isNamed x_count x_names (x_count - 1) 5).bind (fun q21 => (if q21 = 0 then some 1 else some 0))))
set_option maxHeartbeats 4000000 in
set_option maxRecDepth 100000 in
theorem fn_X2_isAlien (l : Launch) (G : Gc) (a_this : Nat) (a_names : Nat) (a_foreigns : Nat) (x_count : Int32) (x_names : Nat → Int32) (x_foreigns : Nat → Int32)   {o : Int32} (h : f_X2_isAlien x_count x_names x_foreigns = some o) : ms_Fn l G yX2_isAlien cX2_isAlien 1 (some .boolean) rm_X2_isAlien [.ref a_this] [ob_X2 a_this a_names a_foreigns x_count, (a_names, .inl (G.2.1 1, 8, .inl x_names)), (a_foreigns, .inl (G.2.1 3, 8, .inl x_foreigns))] [ob_X2 a_this a_names a_foreigns x_count, (a_names, .inl (G.2.1 1, 8, .inl x_names)), (a_foreigns, .inl (G.2.1 3, 8, .inl x_foreigns))] (some (.int o)) := by
  refine ms_start RX2 (by decide +kernel) rfl (Nat.le_of_ble_eq_true rfl) (fun p e s m below meth c A ls hX hW hl => ?_)
  have hx := hX.1.1
  have hb := hX.1.2.1
  have hl : lv_has ls 1 [(0, .ref a_this)] := hl
  unfold f_X2_isAlien at h
  refine lv_aload_n hx hb dX2_isAlien_0 rfl (lv_at hl 0 rfl) ?_
  refine lv_aload_n hx hb dX2_isAlien_1 rfl (lv_at hl 0 rfl) ?_
  refine ms_get ff_X2_19 hX hW 0 rfl rfl dX2_isAlien_2 ?_
  refine lv_iconst (v := 1) hx hb dX2_isAlien_5 (by decide) ?_
  refine lv_isub hx hb dX2_isAlien_6 ?_
  obtain ⟨q7, hq7, h⟩ := ms_bd h
  refine ms_callV (fn_X2_isForeign l G a_this a_names a_foreigns x_count x_foreigns (x_count - 1) hq7) wm_X2_isForeign wv_X2_23 hX hW [0, 2] rfl rfl rfl rfl rfl ⟨Nat.le_of_ble_eq_true rfl, Nat.le_of_ble_eq_true rfl, rfl, rfl, Nat.zero_le _, Nat.zero_le _⟩ rfl hl.1 [] rfl (Nat.le_of_ble_eq_true rfl) dX2_isAlien_7 (fun H locs hW => ?_)
  have hW : ms_W G A s H locs [ob_X2 a_this a_names a_foreigns x_count, (a_names, .inl (G.2.1 1, 8, .inl x_names)), (a_foreigns, .inl (G.2.1 3, 8, .inl x_foreigns))] := hW
  refine W.eq (g2 := F0 m 10 ls [.int q7]) rfl ?_
  refine lv_if_eq (tgt := 31) hx hb dX2_isAlien_10 (by decide) (fun k => ?_) (fun k => ?_)
  · have h := ms_ifp h k
    refine lv_iconst (v := 0) hx hb dX2_isAlien_31 (by decide) ?_
    obtain rfl := Option.some.inj h
    exact ms_zret hX (ms_nz (Or.inl rfl)) hW dX2_isAlien_32
  · have h := ms_ifn h k
    refine lv_aload_n hx hb dX2_isAlien_13 rfl (lv_at hl 0 rfl) ?_
    refine lv_aload_n hx hb dX2_isAlien_14 rfl (lv_at hl 0 rfl) ?_
    refine ms_get ff_X2_19 hX hW 0 rfl rfl dX2_isAlien_15 ?_
    refine lv_iconst (v := 1) hx hb dX2_isAlien_18 (by decide) ?_
    refine lv_isub hx hb dX2_isAlien_19 ?_
    refine lv_iconst (v := 5) hx hb dX2_isAlien_20 (by decide) ?_
    obtain ⟨q21, hq21, h⟩ := ms_bd h
    refine ms_callV (fn_X2_isNamed l G a_this a_names a_foreigns x_count x_names (x_count - 1) 5 hq21) wm_X2_isNamed wv_X2_27 hX hW [0, 1] rfl rfl rfl rfl rfl ⟨Nat.le_of_ble_eq_true rfl, Nat.le_of_ble_eq_true rfl, rfl, rfl, Nat.zero_le _, Nat.zero_le _⟩ rfl hl.1 [] rfl (Nat.le_of_ble_eq_true rfl) dX2_isAlien_21 (fun H locs hW => ?_)
    have hW : ms_W G A s H locs [ob_X2 a_this a_names a_foreigns x_count, (a_names, .inl (G.2.1 1, 8, .inl x_names)), (a_foreigns, .inl (G.2.1 3, 8, .inl x_foreigns))] := hW
    refine W.eq (g2 := F0 m 24 ls [.int q21]) rfl ?_
    refine lv_if_ne (tgt := 31) hx hb dX2_isAlien_24 (by decide) (fun k => ?_) (fun k => ?_)
    · have h := ms_ifn h k
      refine lv_iconst (v := 0) hx hb dX2_isAlien_31 (by decide) ?_
      obtain rfl := Option.some.inj h
      exact ms_zret hX (ms_nz (Or.inl rfl)) hW dX2_isAlien_32
    · have h := ms_ifp h k
      refine lv_iconst (v := 1) hx hb dX2_isAlien_27 (by decide) ?_
      refine lv_goto (tgt := 32) hx hb dX2_isAlien_28 (by decide) ?_
      obtain rfl := Option.some.inj h
      exact ms_zret hX (ms_nz (Or.inr rfl)) hW dX2_isAlien_32
def rm_X2_close : Room := { frames := 0, cells := 0, slots := 0, locals := 0 }
def f_X2_close (x_count : Int32) (v1 : Int32) : Option (Int32) := (if v1 < 0 then some x_count else (if x_count ≤ v1 then some x_count else some v1))
set_option maxHeartbeats 4000000 in
set_option maxRecDepth 100000 in
theorem fn_X2_close (l : Launch) (G : Gc) (a_this : Nat) (a_names : Nat) (a_foreigns : Nat) (x_count : Int32) (v1 : Int32)  {o : Int32} (h : f_X2_close x_count v1 = some o) : ms_Fn l G yX2_close cX2_close 2 none rm_X2_close [.ref a_this, .int v1] [ob_X2 a_this a_names a_foreigns x_count] [ob_X2 a_this a_names a_foreigns o] none := by
  refine ms_start RX2 (by decide +kernel) rfl (Nat.le_of_ble_eq_true rfl) (fun p e s m below meth c A ls hX hW hl => ?_)
  have hx := hX.1.1
  have hb := hX.1.2.1
  have hl : lv_has ls 2 [(0, .ref a_this), (1, .int v1)] := hl
  unfold f_X2_close at h
  refine lv_iload_n hx hb dX2_close_0 rfl (lv_at hl 1 rfl) ?_
  refine lv_if_lt (tgt := 17) hx hb dX2_close_1 (by decide) (fun k => ?_) (fun k => ?_)
  · have h := ms_ifp h k
    obtain rfl := Option.some.inj h
    exact ms_vret hX hW dX2_close_17
  · have h := ms_ifn h k
    refine lv_iload_n hx hb dX2_close_4 rfl (lv_at hl 1 rfl) ?_
    refine lv_aload_n hx hb dX2_close_5 rfl (lv_at hl 0 rfl) ?_
    refine ms_get ff_X2_19 hX hW 0 rfl rfl dX2_close_6 ?_
    refine lv_icmp_ge (tgt := 17) hx hb dX2_close_9 (by decide) (fun k => ?_) (fun k => ?_)
    · have h := ms_ifp h k
      obtain rfl := Option.some.inj h
      exact ms_vret hX hW dX2_close_17
    · have h := ms_ifn h k
      refine lv_aload_n hx hb dX2_close_12 rfl (lv_at hl 0 rfl) ?_
      refine lv_iload_n hx hb dX2_close_13 rfl (lv_at hl 1 rfl) ?_
      refine ms_put ff_X2_19 fp_X2_2 rfl hX hW 0 rfl rfl rfl (Nat.le_of_ble_eq_true rfl) dX2_close_14 (fun H locs hW => ?_)
      have hW : ms_W G A s H locs [ob_X2 a_this a_names a_foreigns v1] := hW
      obtain rfl := Option.some.inj h
      exact ms_vret hX hW dX2_close_17
def rm_X0_leaveAliens : Room := { frames := 2, cells := 0, slots := 0, locals := 42 }
def f_X0_leaveAliens_L2 (x_open_names : Nat → Int32) (x_open_foreigns : Nat → Int32) : Nat → Int32 → Int32 → Option (Int32)
  | 0, _, _ => none
  | n + 1, x_open_count, v1 => (if 8 ≤ v1 then some x_open_count else (f_X2_isAlien x_open_count x_open_names x_open_foreigns).bind (fun q12 => (if q12 = 0 then some x_open_count else (f_X2_size x_open_count).bind (fun q26 => (f_X2_close x_open_count (q26 - 1)).bind (fun q31 => f_X0_leaveAliens_L2 x_open_names x_open_foreigns n q31 (v1 + 1))))))
set_option maxHeartbeats 4000000 in
set_option maxRecDepth 100000 in
theorem wb_X0_leaveAliens_L2 {p : Program} {l : Launch} {e : Env} {s : State} {m : MethodId} {args : Array Value} {below : List Frame} {meth : Method} {c : Code} {G : Gc} {A : Nat → Prop} {a_this : Nat} {a_source : Nat} {a_tree : Nat} {a_open : Nat} {a_open_names : Nat} {a_open_foreigns : Nat} {x_open_names : Nat → Int32} {x_open_foreigns : Nat → Int32}  {Q : State → Prop} {o : Int32} (hX : ms_CX p s m args meth c cX0_leaveAliens 2 RX0 none G A) (hq : ∀ (H : Heap) (locs : List Loc) (ls : Array Slot), ms_W G A s H locs [ob_X0 a_this a_source a_tree a_open, ob_X2 a_open a_open_names a_open_foreigns o, (a_open_names, .inl (G.2.1 1, 8, .inl x_open_names)), (a_open_foreigns, .inl (G.2.1 3, 8, .inl x_open_foreigns))] → lv_has ls 2 [] → W p l e rm_X0_leaveAliens s m args below meth c H locs 0 0 Q (F0 m 40 ls [])) : ∀ (n : Nat) (x_open_count : Int32) (v1 : Int32) (H : Heap) (locs : List Loc) (ls : Array Slot), f_X0_leaveAliens_L2 x_open_names x_open_foreigns n x_open_count v1 = some o → ms_W G A s H locs [ob_X0 a_this a_source a_tree a_open, ob_X2 a_open a_open_names a_open_foreigns x_open_count, (a_open_names, .inl (G.2.1 1, 8, .inl x_open_names)), (a_open_foreigns, .inl (G.2.1 3, 8, .inl x_open_foreigns))] → lv_has ls 2 [(0, .ref a_this), (1, .int v1)] → W p l e rm_X0_leaveAliens s m args below meth c H locs 0 0 Q (F0 m 2 ls []) := by
  have hx := hX.1.1
  have hb := hX.1.2.1
  intro n
  induction n with
  | zero => intro x_open_count v1 H locs ls h; rw [f_X0_leaveAliens_L2] at h; cases h
  | succ n ih =>
    intro x_open_count v1 H locs ls h hW hl
    rw [f_X0_leaveAliens_L2] at h
    refine lv_iload_n hx hb dX0_leaveAliens_2 rfl (lv_at hl 1 rfl) ?_
    refine lv_bipush (v := 8) hx hb dX0_leaveAliens_3 (by decide) ?_
    refine lv_icmp_ge (tgt := 40) hx hb dX0_leaveAliens_5 (by decide) (fun k => ?_) (fun k => ?_)
    · have h := ms_ifp h k
      obtain rfl := Option.some.inj h
      exact hq _ _ _ hW (lv_sub hl [] rfl)
    · have h := ms_ifn h k
      refine lv_aload_n hx hb dX0_leaveAliens_8 rfl (lv_at hl 0 rfl) ?_
      refine ms_get ff_X0_22 hX hW 0 rfl rfl dX0_leaveAliens_9 ?_
      obtain ⟨q12, hq12, h⟩ := ms_bd h
      refine ms_callV (fn_X2_isAlien l G a_open a_open_names a_open_foreigns x_open_count x_open_names x_open_foreigns hq12) wm_X2_isAlien wv_X0_60 hX hW [1, 2, 3] rfl rfl rfl rfl rfl ⟨Nat.le_of_ble_eq_true rfl, Nat.le_of_ble_eq_true rfl, rfl, rfl, Nat.zero_le _, Nat.zero_le _⟩ rfl hl.1 [] rfl (Nat.le_of_ble_eq_true rfl) dX0_leaveAliens_12 (fun H locs hW => ?_)
      have hW : ms_W G A s H locs [ob_X0 a_this a_source a_tree a_open, ob_X2 a_open a_open_names a_open_foreigns x_open_count, (a_open_names, .inl (G.2.1 1, 8, .inl x_open_names)), (a_open_foreigns, .inl (G.2.1 3, 8, .inl x_open_foreigns))] := hW
      refine W.eq (g2 := F0 m 15 ls [.int q12]) rfl ?_
      refine lv_if_eq (tgt := 40) hx hb dX0_leaveAliens_15 (by decide) (fun k => ?_) (fun k => ?_)
      · have h := ms_ifp h k
        obtain rfl := Option.some.inj h
        exact hq _ _ _ hW (lv_sub hl [] rfl)
      · have h := ms_ifn h k
        refine lv_aload_n hx hb dX0_leaveAliens_18 rfl (lv_at hl 0 rfl) ?_
        refine ms_get ff_X0_22 hX hW 0 rfl rfl dX0_leaveAliens_19 ?_
        refine lv_aload_n hx hb dX0_leaveAliens_22 rfl (lv_at hl 0 rfl) ?_
        refine ms_get ff_X0_22 hX hW 0 rfl rfl dX0_leaveAliens_23 ?_
        obtain ⟨q26, hq26, h⟩ := ms_bd h
        refine ms_callV (fn_X2_size l G a_open a_open_names a_open_foreigns x_open_count hq26) wm_X2_size wv_X0_32 hX hW [1] rfl rfl rfl rfl rfl ⟨Nat.le_of_ble_eq_true rfl, Nat.le_of_ble_eq_true rfl, rfl, rfl, Nat.zero_le _, Nat.zero_le _⟩ rfl hl.1 [.ref a_open] rfl (Nat.le_of_ble_eq_true rfl) dX0_leaveAliens_26 (fun H locs hW => ?_)
        have hW : ms_W G A s H locs [ob_X0 a_this a_source a_tree a_open, ob_X2 a_open a_open_names a_open_foreigns x_open_count, (a_open_names, .inl (G.2.1 1, 8, .inl x_open_names)), (a_open_foreigns, .inl (G.2.1 3, 8, .inl x_open_foreigns))] := hW
        refine W.eq (g2 := F0 m 29 ls [.int q26, .ref a_open]) rfl ?_
        refine lv_iconst (v := 1) hx hb dX0_leaveAliens_29 (by decide) ?_
        refine lv_isub hx hb dX0_leaveAliens_30 ?_
        obtain ⟨q31, hq31, h⟩ := ms_bd h
        refine ms_callV (fn_X2_close l G a_open a_open_names a_open_foreigns x_open_count (q26 - 1) hq31) wm_X2_close wv_X0_56 hX hW [1] rfl rfl rfl rfl rfl ⟨Nat.le_of_ble_eq_true rfl, Nat.le_of_ble_eq_true rfl, rfl, rfl, Nat.zero_le _, Nat.zero_le _⟩ rfl hl.1 [] rfl (Nat.le_of_ble_eq_true rfl) dX0_leaveAliens_31 (fun H locs hW => ?_)
        have hW : ms_W G A s H locs [ob_X0 a_this a_source a_tree a_open, ob_X2 a_open a_open_names a_open_foreigns q31, (a_open_names, .inl (G.2.1 1, 8, .inl x_open_names)), (a_open_foreigns, .inl (G.2.1 3, 8, .inl x_open_foreigns))] := hW
        refine W.eq (g2 := F0 m 34 ls []) rfl ?_
        refine lv_iinc (v := v1 + 1) (lv' := [(1, .int (v1 + 1)), (0, .ref a_this)]) hx hb dX0_leaveAliens_34 hl (k := 1) rfl rfl (by decide) rfl (fun ls hl => ?_)
        refine lv_goto (tgt := 2) hx hb dX0_leaveAliens_37 (by decide) ?_
        exact ih _ _ _ _ _ h hW (lv_sub hl [1, 0] rfl)
def f_X0_leaveAliens (x_open_count : Int32) (x_open_names : Nat → Int32) (x_open_foreigns : Nat → Int32)  : Option (Int32) := (f_X0_leaveAliens_L2 x_open_names x_open_foreigns 1000 x_open_count 0).bind (fun w2 => some w2)
set_option maxHeartbeats 4000000 in
set_option maxRecDepth 100000 in
theorem fn_X0_leaveAliens (l : Launch) (G : Gc) (a_this : Nat) (a_source : Nat) (a_tree : Nat) (a_open : Nat) (a_open_names : Nat) (a_open_foreigns : Nat) (x_open_count : Int32) (x_open_names : Nat → Int32) (x_open_foreigns : Nat → Int32)   {o : Int32} (h : f_X0_leaveAliens x_open_count x_open_names x_open_foreigns = some o) : ms_Fn l G yX0_leaveAliens cX0_leaveAliens 2 none rm_X0_leaveAliens [.ref a_this] [ob_X0 a_this a_source a_tree a_open, ob_X2 a_open a_open_names a_open_foreigns x_open_count, (a_open_names, .inl (G.2.1 1, 8, .inl x_open_names)), (a_open_foreigns, .inl (G.2.1 3, 8, .inl x_open_foreigns))] [ob_X0 a_this a_source a_tree a_open, ob_X2 a_open a_open_names a_open_foreigns o, (a_open_names, .inl (G.2.1 1, 8, .inl x_open_names)), (a_open_foreigns, .inl (G.2.1 3, 8, .inl x_open_foreigns))] none := by
  refine ms_start RX0 (by decide +kernel) rfl (Nat.le_of_ble_eq_true rfl) (fun p e s m below meth c A ls hX hW hl => ?_)
  have hx := hX.1.1
  have hb := hX.1.2.1
  have hl : lv_has ls 2 [(0, .ref a_this)] := hl
  unfold f_X0_leaveAliens at h
  refine lv_iconst (v := 0) hx hb dX0_leaveAliens_0 (by decide) ?_
  refine lv_istore_n (lv' := [(1, .int 0), (0, .ref a_this)]) hx hb dX0_leaveAliens_1 rfl hl (by decide) rfl (fun ls hl => ?_)
  obtain ⟨w2, hqw2, h⟩ := ms_bd h
  refine wb_X0_leaveAliens_L2 hX (o := w2) (fun H locs ls hW hl => ?_) _ _ _ _ _ _ hqw2 hW (lv_sub hl [1, 0] rfl)
  obtain rfl := Option.some.inj h
  exact ms_vret hX hW dX0_leaveAliens_40
def rm_X2_lastInTail : Room := { frames := 1, cells := 0, slots := 0, locals := 22 }
def f_X2_lastInTail_L18 (x_count : Int32) (x_names : Nat → Int32) (x_foreigns : Nat → Int32) (v1 : Int32) : Nat → Int32 → Int32 → Option (Int32)
  | 0, _, _ => none
  | n + 1, v2, v3 => (if v3 < 0 then some (-1) else (f_X2_isForeign x_count x_foreigns v3).bind (fun q24 => (if q24 = v2 then (f_X2_isNamed x_count x_names v3 v1).bind (fun q34 => (if q34 = 0 then f_X2_lastInTail_L18 x_count x_names x_foreigns v1 n v2 (v3 + (-1)) else some v3)) else some (-1))))
set_option maxHeartbeats 4000000 in
set_option maxRecDepth 100000 in
theorem wb_X2_lastInTail_L18 {p : Program} {l : Launch} {e : Env} {s : State} {m : MethodId} {args : Array Value} {below : List Frame} {meth : Method} {c : Code} {G : Gc} {A : Nat → Prop} {a_this : Nat} {a_names : Nat} {a_foreigns : Nat} {x_count : Int32} {x_names : Nat → Int32} {x_foreigns : Nat → Int32} {v1 : Int32} {o : Int32} (hX : ms_CX p s m args meth c cX2_lastInTail 4 RX2 (some .int) G A)  : ∀ (n : Nat) (v2 : Int32) (v3 : Int32) (H : Heap) (locs : List Loc) (ls : Array Slot), f_X2_lastInTail_L18 x_count x_names x_foreigns v1 n v2 v3 = some o → ms_W G A s H locs [ob_X2 a_this a_names a_foreigns x_count, (a_names, .inl (G.2.1 1, 8, .inl x_names)), (a_foreigns, .inl (G.2.1 3, 8, .inl x_foreigns))] → lv_has ls 4 [(0, .ref a_this), (1, .int v1), (2, .int v2), (3, .int v3)] → W p l e rm_X2_lastInTail s m args below meth c H locs 0 0 (ms_Q G A below args s [ob_X2 a_this a_names a_foreigns x_count, (a_names, .inl (G.2.1 1, 8, .inl x_names)), (a_foreigns, .inl (G.2.1 3, 8, .inl x_foreigns))] (some (.int o))) (F0 m 18 ls []) := by
  have hx := hX.1.1
  have hb := hX.1.2.1
  intro n
  induction n with
  | zero => intro v2 v3 H locs ls h; rw [f_X2_lastInTail_L18] at h; cases h
  | succ n ih =>
    intro v2 v3 H locs ls h hW hl
    rw [f_X2_lastInTail_L18] at h
    refine lv_iload_n hx hb dX2_lastInTail_18 rfl (lv_at hl 3 rfl) ?_
    refine lv_if_lt (tgt := 48) hx hb dX2_lastInTail_19 (by decide) (fun k => ?_) (fun k => ?_)
    · have h := ms_ifp h k
      refine lv_iconst (v := (-1)) hx hb dX2_lastInTail_48 (by decide) ?_
      obtain rfl := Option.some.inj h
      exact ms_iret hX hW dX2_lastInTail_49
    · have h := ms_ifn h k
      refine lv_aload_n hx hb dX2_lastInTail_22 rfl (lv_at hl 0 rfl) ?_
      refine lv_iload_n hx hb dX2_lastInTail_23 rfl (lv_at hl 3 rfl) ?_
      obtain ⟨q24, hq24, h⟩ := ms_bd h
      refine ms_callV (fn_X2_isForeign l G a_this a_names a_foreigns x_count x_foreigns v3 hq24) wm_X2_isForeign wv_X2_23 hX hW [0, 2] rfl rfl rfl rfl rfl ⟨Nat.le_of_ble_eq_true rfl, Nat.le_of_ble_eq_true rfl, rfl, rfl, Nat.zero_le _, Nat.zero_le _⟩ rfl hl.1 [] rfl (Nat.le_of_ble_eq_true rfl) dX2_lastInTail_24 (fun H locs hW => ?_)
      have hW : ms_W G A s H locs [ob_X2 a_this a_names a_foreigns x_count, (a_names, .inl (G.2.1 1, 8, .inl x_names)), (a_foreigns, .inl (G.2.1 3, 8, .inl x_foreigns))] := hW
      refine W.eq (g2 := F0 m 27 ls [.int q24]) rfl ?_
      refine lv_iload_n hx hb dX2_lastInTail_27 rfl (lv_at hl 2 rfl) ?_
      refine lv_icmp_ne (tgt := 48) hx hb dX2_lastInTail_28 (by decide) (fun k => ?_) (fun k => ?_)
      · have h := ms_ifn h k
        refine lv_iconst (v := (-1)) hx hb dX2_lastInTail_48 (by decide) ?_
        obtain rfl := Option.some.inj h
        exact ms_iret hX hW dX2_lastInTail_49
      · have h := ms_ifp h k
        refine lv_aload_n hx hb dX2_lastInTail_31 rfl (lv_at hl 0 rfl) ?_
        refine lv_iload_n hx hb dX2_lastInTail_32 rfl (lv_at hl 3 rfl) ?_
        refine lv_iload_n hx hb dX2_lastInTail_33 rfl (lv_at hl 1 rfl) ?_
        obtain ⟨q34, hq34, h⟩ := ms_bd h
        refine ms_callV (fn_X2_isNamed l G a_this a_names a_foreigns x_count x_names v3 v1 hq34) wm_X2_isNamed wv_X2_27 hX hW [0, 1] rfl rfl rfl rfl rfl ⟨Nat.le_of_ble_eq_true rfl, Nat.le_of_ble_eq_true rfl, rfl, rfl, Nat.zero_le _, Nat.zero_le _⟩ rfl hl.1 [] rfl (Nat.le_of_ble_eq_true rfl) dX2_lastInTail_34 (fun H locs hW => ?_)
        have hW : ms_W G A s H locs [ob_X2 a_this a_names a_foreigns x_count, (a_names, .inl (G.2.1 1, 8, .inl x_names)), (a_foreigns, .inl (G.2.1 3, 8, .inl x_foreigns))] := hW
        refine W.eq (g2 := F0 m 37 ls [.int q34]) rfl ?_
        refine lv_if_eq (tgt := 42) hx hb dX2_lastInTail_37 (by decide) (fun k => ?_) (fun k => ?_)
        · have h := ms_ifp h k
          refine lv_iinc (v := v3 + (-1)) (lv' := [(3, .int (v3 + (-1))), (0, .ref a_this), (1, .int v1), (2, .int v2)]) hx hb dX2_lastInTail_42 hl (k := 3) rfl rfl (by decide) rfl (fun ls hl => ?_)
          refine lv_goto (tgt := 18) hx hb dX2_lastInTail_45 (by decide) ?_
          exact ih _ _ _ _ _ h hW (lv_sub hl [1, 2, 3, 0] rfl)
        · have h := ms_ifn h k
          refine lv_iload_n hx hb dX2_lastInTail_40 rfl (lv_at hl 3 rfl) ?_
          obtain rfl := Option.some.inj h
          exact ms_iret hX hW dX2_lastInTail_41
def f_X2_lastInTail (x_count : Int32) (x_names : Nat → Int32) (x_foreigns : Nat → Int32) (v1 : Int32) : Option (Int32) := (f_X2_isForeign x_count x_foreigns (x_count - 1)).bind (fun q7 => f_X2_lastInTail_L18 x_count x_names x_foreigns v1 1000 q7 (x_count - 1))
set_option maxHeartbeats 4000000 in
set_option maxRecDepth 100000 in
theorem fn_X2_lastInTail (l : Launch) (G : Gc) (a_this : Nat) (a_names : Nat) (a_foreigns : Nat) (x_count : Int32) (x_names : Nat → Int32) (x_foreigns : Nat → Int32) (v1 : Int32)  {o : Int32} (h : f_X2_lastInTail x_count x_names x_foreigns v1 = some o) : ms_Fn l G yX2_lastInTail cX2_lastInTail 4 (some .int) rm_X2_lastInTail [.ref a_this, .int v1] [ob_X2 a_this a_names a_foreigns x_count, (a_names, .inl (G.2.1 1, 8, .inl x_names)), (a_foreigns, .inl (G.2.1 3, 8, .inl x_foreigns))] [ob_X2 a_this a_names a_foreigns x_count, (a_names, .inl (G.2.1 1, 8, .inl x_names)), (a_foreigns, .inl (G.2.1 3, 8, .inl x_foreigns))] (some (.int o)) := by
  refine ms_start RX2 (by decide +kernel) rfl (Nat.le_of_ble_eq_true rfl) (fun p e s m below meth c A ls hX hW hl => ?_)
  have hx := hX.1.1
  have hb := hX.1.2.1
  have hl : lv_has ls 4 [(0, .ref a_this), (1, .int v1)] := hl
  unfold f_X2_lastInTail at h
  refine lv_aload_n hx hb dX2_lastInTail_0 rfl (lv_at hl 0 rfl) ?_
  refine lv_aload_n hx hb dX2_lastInTail_1 rfl (lv_at hl 0 rfl) ?_
  refine ms_get ff_X2_19 hX hW 0 rfl rfl dX2_lastInTail_2 ?_
  refine lv_iconst (v := 1) hx hb dX2_lastInTail_5 (by decide) ?_
  refine lv_isub hx hb dX2_lastInTail_6 ?_
  obtain ⟨q7, hq7, h⟩ := ms_bd h
  refine ms_callV (fn_X2_isForeign l G a_this a_names a_foreigns x_count x_foreigns (x_count - 1) hq7) wm_X2_isForeign wv_X2_23 hX hW [0, 2] rfl rfl rfl rfl rfl ⟨Nat.le_of_ble_eq_true rfl, Nat.le_of_ble_eq_true rfl, rfl, rfl, Nat.zero_le _, Nat.zero_le _⟩ rfl hl.1 [] rfl (Nat.le_of_ble_eq_true rfl) dX2_lastInTail_7 (fun H locs hW => ?_)
  have hW : ms_W G A s H locs [ob_X2 a_this a_names a_foreigns x_count, (a_names, .inl (G.2.1 1, 8, .inl x_names)), (a_foreigns, .inl (G.2.1 3, 8, .inl x_foreigns))] := hW
  refine W.eq (g2 := F0 m 10 ls [.int q7]) rfl ?_
  refine lv_istore_n (lv' := [(2, .int q7), (0, .ref a_this), (1, .int v1)]) hx hb dX2_lastInTail_10 rfl hl (by decide) rfl (fun ls hl => ?_)
  refine lv_aload_n hx hb dX2_lastInTail_11 rfl (lv_at hl 1 rfl) ?_
  refine ms_get ff_X2_19 hX hW 0 rfl rfl dX2_lastInTail_12 ?_
  refine lv_iconst (v := 1) hx hb dX2_lastInTail_15 (by decide) ?_
  refine lv_isub hx hb dX2_lastInTail_16 ?_
  refine lv_istore_n (lv' := [(3, .int (x_count - 1)), (2, .int q7), (0, .ref a_this), (1, .int v1)]) hx hb dX2_lastInTail_17 rfl hl (by decide) rfl (fun ls hl => ?_)
  exact wb_X2_lastInTail_L18 hX _ _ _ _ _ _ h hW (lv_sub hl [2, 3, 1, 0] rfl)
def rm_X2_lastInScope : Room := { frames := 2, cells := 0, slots := 0, locals := 45 }
def f_X2_lastInScope (x_count : Int32) (x_names : Nat → Int32) (x_foreigns : Nat → Int32) (v1 : Int32) : Option (Int32) := (f_X2_isForeign x_count x_foreigns (x_count - 1)).bind (fun q7 => (if q7 = 0 then (f_X2_lastInTail x_count x_names x_foreigns v1).bind (fun q19 => some q19) else some (-1)))
set_option maxHeartbeats 4000000 in
set_option maxRecDepth 100000 in
theorem fn_X2_lastInScope (l : Launch) (G : Gc) (a_this : Nat) (a_names : Nat) (a_foreigns : Nat) (x_count : Int32) (x_names : Nat → Int32) (x_foreigns : Nat → Int32) (v1 : Int32)  {o : Int32} (h : f_X2_lastInScope x_count x_names x_foreigns v1 = some o) : ms_Fn l G yX2_lastInScope cX2_lastInScope 2 (some .int) rm_X2_lastInScope [.ref a_this, .int v1] [ob_X2 a_this a_names a_foreigns x_count, (a_names, .inl (G.2.1 1, 8, .inl x_names)), (a_foreigns, .inl (G.2.1 3, 8, .inl x_foreigns))] [ob_X2 a_this a_names a_foreigns x_count, (a_names, .inl (G.2.1 1, 8, .inl x_names)), (a_foreigns, .inl (G.2.1 3, 8, .inl x_foreigns))] (some (.int o)) := by
  refine ms_start RX2 (by decide +kernel) rfl (Nat.le_of_ble_eq_true rfl) (fun p e s m below meth c A ls hX hW hl => ?_)
  have hx := hX.1.1
  have hb := hX.1.2.1
  have hl : lv_has ls 2 [(0, .ref a_this), (1, .int v1)] := hl
  unfold f_X2_lastInScope at h
  refine lv_aload_n hx hb dX2_lastInScope_0 rfl (lv_at hl 0 rfl) ?_
  refine lv_aload_n hx hb dX2_lastInScope_1 rfl (lv_at hl 0 rfl) ?_
  refine ms_get ff_X2_19 hX hW 0 rfl rfl dX2_lastInScope_2 ?_
  refine lv_iconst (v := 1) hx hb dX2_lastInScope_5 (by decide) ?_
  refine lv_isub hx hb dX2_lastInScope_6 ?_
  obtain ⟨q7, hq7, h⟩ := ms_bd h
  refine ms_callV (fn_X2_isForeign l G a_this a_names a_foreigns x_count x_foreigns (x_count - 1) hq7) wm_X2_isForeign wv_X2_23 hX hW [0, 2] rfl rfl rfl rfl rfl ⟨Nat.le_of_ble_eq_true rfl, Nat.le_of_ble_eq_true rfl, rfl, rfl, Nat.zero_le _, Nat.zero_le _⟩ rfl hl.1 [] rfl (Nat.le_of_ble_eq_true rfl) dX2_lastInScope_7 (fun H locs hW => ?_)
  have hW : ms_W G A s H locs [ob_X2 a_this a_names a_foreigns x_count, (a_names, .inl (G.2.1 1, 8, .inl x_names)), (a_foreigns, .inl (G.2.1 3, 8, .inl x_foreigns))] := hW
  refine W.eq (g2 := F0 m 10 ls [.int q7]) rfl ?_
  refine lv_if_eq (tgt := 17) hx hb dX2_lastInScope_10 (by decide) (fun k => ?_) (fun k => ?_)
  · have h := ms_ifp h k
    refine lv_aload_n hx hb dX2_lastInScope_17 rfl (lv_at hl 0 rfl) ?_
    refine lv_iload_n hx hb dX2_lastInScope_18 rfl (lv_at hl 1 rfl) ?_
    obtain ⟨q19, hq19, h⟩ := ms_bd h
    refine ms_callV (fn_X2_lastInTail l G a_this a_names a_foreigns x_count x_names x_foreigns v1 hq19) wm_X2_lastInTail wv_X2_31 hX hW [0, 1, 2] rfl rfl rfl rfl rfl ⟨Nat.le_of_ble_eq_true rfl, Nat.le_of_ble_eq_true rfl, rfl, rfl, Nat.zero_le _, Nat.zero_le _⟩ rfl hl.1 [] rfl (Nat.le_of_ble_eq_true rfl) dX2_lastInScope_19 (fun H locs hW => ?_)
    have hW : ms_W G A s H locs [ob_X2 a_this a_names a_foreigns x_count, (a_names, .inl (G.2.1 1, 8, .inl x_names)), (a_foreigns, .inl (G.2.1 3, 8, .inl x_foreigns))] := hW
    refine W.eq (g2 := F0 m 22 ls [.int q19]) rfl ?_
    obtain rfl := Option.some.inj h
    exact ms_iret hX hW dX2_lastInScope_22
  · have h := ms_ifn h k
    refine lv_iconst (v := (-1)) hx hb dX2_lastInScope_13 (by decide) ?_
    refine lv_goto (tgt := 22) hx hb dX2_lastInScope_14 (by decide) ?_
    obtain rfl := Option.some.inj h
    exact ms_iret hX hW dX2_lastInScope_22
def rm_X0_closeBefore : Room := { frames := 3, cells := 0, slots := 0, locals := 66 }
def f_X0_closeBefore_L42 (x_open_names : Nat → Int32) (x_open_foreigns : Nat → Int32) (v1 : Int32) (x_open_count : Int32) : Option (Int32) := (if v1 = 11 then (f_X2_lastInScope x_open_count x_open_names x_open_foreigns 11).bind (fun q54 => (f_X2_lastInScope x_open_count x_open_names x_open_foreigns 20).bind (fun q65 => (if q54 ≤ q65 then some x_open_count else (f_X2_close x_open_count q54).bind (fun q76 => some q76)))) else some x_open_count)
set_option maxHeartbeats 4000000 in
set_option maxRecDepth 100000 in
theorem wb_X0_closeBefore_L42 {p : Program} {l : Launch} {e : Env} {s : State} {m : MethodId} {args : Array Value} {below : List Frame} {meth : Method} {c : Code} {G : Gc} {A : Nat → Prop} {H : Heap} {locs : List Loc} {ls : Array Slot} {a_this : Nat} {a_source : Nat} {a_tree : Nat} {a_open : Nat} {a_open_names : Nat} {a_open_foreigns : Nat} {x_open_names : Nat → Int32} {x_open_foreigns : Nat → Int32} {v1 : Int32} {x_open_count : Int32} {o : Int32} (hX : ms_CX p s m args meth c cX0_closeBefore 3 RX0 none G A)   (h : f_X0_closeBefore_L42 x_open_names x_open_foreigns v1 x_open_count = some o) (hW : ms_W G A s H locs [ob_X0 a_this a_source a_tree a_open, ob_X2 a_open a_open_names a_open_foreigns x_open_count, (a_open_names, .inl (G.2.1 1, 8, .inl x_open_names)), (a_open_foreigns, .inl (G.2.1 3, 8, .inl x_open_foreigns))]) (hl : lv_has ls 3 [(0, .ref a_this), (1, .int v1)]) : W p l e rm_X0_closeBefore s m args below meth c H locs 0 0 (ms_Q G A below args s [ob_X0 a_this a_source a_tree a_open, ob_X2 a_open a_open_names a_open_foreigns o, (a_open_names, .inl (G.2.1 1, 8, .inl x_open_names)), (a_open_foreigns, .inl (G.2.1 3, 8, .inl x_open_foreigns))] none) (F0 m 42 ls []) := by
  have hx := hX.1.1
  have hb := hX.1.2.1
  unfold f_X0_closeBefore_L42 at h
  refine lv_iload_n hx hb dX0_closeBefore_42 rfl (lv_at hl 1 rfl) ?_
  refine lv_bipush (v := 11) hx hb dX0_closeBefore_43 (by decide) ?_
  refine lv_icmp_ne (tgt := 79) hx hb dX0_closeBefore_45 (by decide) (fun k => ?_) (fun k => ?_)
  · have h := ms_ifn h k
    obtain rfl := Option.some.inj h
    exact ms_vret hX hW dX0_closeBefore_79
  · have h := ms_ifp h k
    refine lv_aload_n hx hb dX0_closeBefore_48 rfl (lv_at hl 0 rfl) ?_
    refine ms_get ff_X0_22 hX hW 0 rfl rfl dX0_closeBefore_49 ?_
    refine lv_bipush (v := 11) hx hb dX0_closeBefore_52 (by decide) ?_
    obtain ⟨q54, hq54, h⟩ := ms_bd h
    refine ms_callV (fn_X2_lastInScope l G a_open a_open_names a_open_foreigns x_open_count x_open_names x_open_foreigns 11 hq54) wm_X2_lastInScope wv_X0_90 hX hW [1, 2, 3] rfl rfl rfl rfl rfl ⟨Nat.le_of_ble_eq_true rfl, Nat.le_of_ble_eq_true rfl, rfl, rfl, Nat.zero_le _, Nat.zero_le _⟩ rfl hl.1 [] rfl (Nat.le_of_ble_eq_true rfl) dX0_closeBefore_54 (fun H locs hW => ?_)
    have hW : ms_W G A s H locs [ob_X0 a_this a_source a_tree a_open, ob_X2 a_open a_open_names a_open_foreigns x_open_count, (a_open_names, .inl (G.2.1 1, 8, .inl x_open_names)), (a_open_foreigns, .inl (G.2.1 3, 8, .inl x_open_foreigns))] := hW
    refine W.eq (g2 := F0 m 57 ls [.int q54]) rfl ?_
    refine lv_istore_n (lv' := [(2, .int q54), (0, .ref a_this), (1, .int v1)]) hx hb dX0_closeBefore_57 rfl hl (by decide) rfl (fun ls hl => ?_)
    refine lv_iload_n hx hb dX0_closeBefore_58 rfl (lv_at hl 0 rfl) ?_
    refine lv_aload_n hx hb dX0_closeBefore_59 rfl (lv_at hl 1 rfl) ?_
    refine ms_get ff_X0_22 hX hW 0 rfl rfl dX0_closeBefore_60 ?_
    refine lv_bipush (v := 20) hx hb dX0_closeBefore_63 (by decide) ?_
    obtain ⟨q65, hq65, h⟩ := ms_bd h
    refine ms_callV (fn_X2_lastInScope l G a_open a_open_names a_open_foreigns x_open_count x_open_names x_open_foreigns 20 hq65) wm_X2_lastInScope wv_X0_90 hX hW [1, 2, 3] rfl rfl rfl rfl rfl ⟨Nat.le_of_ble_eq_true rfl, Nat.le_of_ble_eq_true rfl, rfl, rfl, Nat.zero_le _, Nat.zero_le _⟩ rfl hl.1 [.int q54] rfl (Nat.le_of_ble_eq_true rfl) dX0_closeBefore_65 (fun H locs hW => ?_)
    have hW : ms_W G A s H locs [ob_X0 a_this a_source a_tree a_open, ob_X2 a_open a_open_names a_open_foreigns x_open_count, (a_open_names, .inl (G.2.1 1, 8, .inl x_open_names)), (a_open_foreigns, .inl (G.2.1 3, 8, .inl x_open_foreigns))] := hW
    refine W.eq (g2 := F0 m 68 ls [.int q65, .int q54]) rfl ?_
    refine lv_icmp_le (tgt := 79) hx hb dX0_closeBefore_68 (by decide) (fun k => ?_) (fun k => ?_)
    · have h := ms_ifp h k
      obtain rfl := Option.some.inj h
      exact ms_vret hX hW dX0_closeBefore_79
    · have h := ms_ifn h k
      refine lv_aload_n hx hb dX0_closeBefore_71 rfl (lv_at hl 1 rfl) ?_
      refine ms_get ff_X0_22 hX hW 0 rfl rfl dX0_closeBefore_72 ?_
      refine lv_iload_n hx hb dX0_closeBefore_75 rfl (lv_at hl 0 rfl) ?_
      obtain ⟨q76, hq76, h⟩ := ms_bd h
      refine ms_callV (fn_X2_close l G a_open a_open_names a_open_foreigns x_open_count q54 hq76) wm_X2_close wv_X0_56 hX hW [1] rfl rfl rfl rfl rfl ⟨Nat.le_of_ble_eq_true rfl, Nat.le_of_ble_eq_true rfl, rfl, rfl, Nat.zero_le _, Nat.zero_le _⟩ rfl hl.1 [] rfl (Nat.le_of_ble_eq_true rfl) dX0_closeBefore_76 (fun H locs hW => ?_)
      have hW : ms_W G A s H locs [ob_X0 a_this a_source a_tree a_open, ob_X2 a_open a_open_names a_open_foreigns q76, (a_open_names, .inl (G.2.1 1, 8, .inl x_open_names)), (a_open_foreigns, .inl (G.2.1 3, 8, .inl x_open_foreigns))] := hW
      refine W.eq (g2 := F0 m 79 ls []) rfl ?_
      obtain rfl := Option.some.inj h
      exact ms_vret hX hW dX0_closeBefore_79
def f_X0_closeBefore_L23 (x_open_names : Nat → Int32) (x_open_foreigns : Nat → Int32) (v1 : Int32) (x_open_count : Int32) : Option (Int32) := (if v1 = 0 then (f_X2_lastInScope x_open_count x_open_names x_open_foreigns 0).bind (fun q36 => (f_X2_close x_open_count q36).bind (fun q39 => f_X0_closeBefore_L42 x_open_names x_open_foreigns v1 q39)) else f_X0_closeBefore_L42 x_open_names x_open_foreigns v1 x_open_count)
set_option maxHeartbeats 4000000 in
set_option maxRecDepth 100000 in
theorem wb_X0_closeBefore_L23 {p : Program} {l : Launch} {e : Env} {s : State} {m : MethodId} {args : Array Value} {below : List Frame} {meth : Method} {c : Code} {G : Gc} {A : Nat → Prop} {H : Heap} {locs : List Loc} {ls : Array Slot} {a_this : Nat} {a_source : Nat} {a_tree : Nat} {a_open : Nat} {a_open_names : Nat} {a_open_foreigns : Nat} {x_open_names : Nat → Int32} {x_open_foreigns : Nat → Int32} {v1 : Int32} {x_open_count : Int32} {o : Int32} (hX : ms_CX p s m args meth c cX0_closeBefore 3 RX0 none G A)   (h : f_X0_closeBefore_L23 x_open_names x_open_foreigns v1 x_open_count = some o) (hW : ms_W G A s H locs [ob_X0 a_this a_source a_tree a_open, ob_X2 a_open a_open_names a_open_foreigns x_open_count, (a_open_names, .inl (G.2.1 1, 8, .inl x_open_names)), (a_open_foreigns, .inl (G.2.1 3, 8, .inl x_open_foreigns))]) (hl : lv_has ls 3 [(0, .ref a_this), (1, .int v1)]) : W p l e rm_X0_closeBefore s m args below meth c H locs 0 0 (ms_Q G A below args s [ob_X0 a_this a_source a_tree a_open, ob_X2 a_open a_open_names a_open_foreigns o, (a_open_names, .inl (G.2.1 1, 8, .inl x_open_names)), (a_open_foreigns, .inl (G.2.1 3, 8, .inl x_open_foreigns))] none) (F0 m 23 ls []) := by
  have hx := hX.1.1
  have hb := hX.1.2.1
  unfold f_X0_closeBefore_L23 at h
  refine lv_iload_n hx hb dX0_closeBefore_23 rfl (lv_at hl 1 rfl) ?_
  refine lv_if_ne (tgt := 42) hx hb dX0_closeBefore_24 (by decide) (fun k => ?_) (fun k => ?_)
  · have h := ms_ifn h k
    exact wb_X0_closeBefore_L42 hX h hW (lv_sub hl [0, 1] rfl)
  · have h := ms_ifp h k
    refine lv_aload_n hx hb dX0_closeBefore_27 rfl (lv_at hl 0 rfl) ?_
    refine ms_get ff_X0_22 hX hW 0 rfl rfl dX0_closeBefore_28 ?_
    refine lv_aload_n hx hb dX0_closeBefore_31 rfl (lv_at hl 0 rfl) ?_
    refine ms_get ff_X0_22 hX hW 0 rfl rfl dX0_closeBefore_32 ?_
    refine lv_iconst (v := 0) hx hb dX0_closeBefore_35 (by decide) ?_
    obtain ⟨q36, hq36, h⟩ := ms_bd h
    refine ms_callV (fn_X2_lastInScope l G a_open a_open_names a_open_foreigns x_open_count x_open_names x_open_foreigns 0 hq36) wm_X2_lastInScope wv_X0_90 hX hW [1, 2, 3] rfl rfl rfl rfl rfl ⟨Nat.le_of_ble_eq_true rfl, Nat.le_of_ble_eq_true rfl, rfl, rfl, Nat.zero_le _, Nat.zero_le _⟩ rfl hl.1 [.ref a_open] rfl (Nat.le_of_ble_eq_true rfl) dX0_closeBefore_36 (fun H locs hW => ?_)
    have hW : ms_W G A s H locs [ob_X0 a_this a_source a_tree a_open, ob_X2 a_open a_open_names a_open_foreigns x_open_count, (a_open_names, .inl (G.2.1 1, 8, .inl x_open_names)), (a_open_foreigns, .inl (G.2.1 3, 8, .inl x_open_foreigns))] := hW
    refine W.eq (g2 := F0 m 39 ls [.int q36, .ref a_open]) rfl ?_
    obtain ⟨q39, hq39, h⟩ := ms_bd h
    refine ms_callV (fn_X2_close l G a_open a_open_names a_open_foreigns x_open_count q36 hq39) wm_X2_close wv_X0_56 hX hW [1] rfl rfl rfl rfl rfl ⟨Nat.le_of_ble_eq_true rfl, Nat.le_of_ble_eq_true rfl, rfl, rfl, Nat.zero_le _, Nat.zero_le _⟩ rfl hl.1 [] rfl (Nat.le_of_ble_eq_true rfl) dX0_closeBefore_39 (fun H locs hW => ?_)
    have hW : ms_W G A s H locs [ob_X0 a_this a_source a_tree a_open, ob_X2 a_open a_open_names a_open_foreigns q39, (a_open_names, .inl (G.2.1 1, 8, .inl x_open_names)), (a_open_foreigns, .inl (G.2.1 3, 8, .inl x_open_foreigns))] := hW
    refine W.eq (g2 := F0 m 42 ls []) rfl ?_
    exact wb_X0_closeBefore_L42 hX h hW (lv_sub hl [0, 1] rfl)
def f_X0_closeBefore (x_open_count : Int32) (x_open_names : Nat → Int32) (x_open_foreigns : Nat → Int32) (v1 : Int32) : Option (Int32) := (f_X9_isBlock v1).bind (fun q1 => (if q1 = 0 then f_X0_closeBefore_L23 x_open_names x_open_foreigns v1 x_open_count else (f_X2_lastInScope x_open_count x_open_names x_open_foreigns 15).bind (fun q17 => (f_X2_close x_open_count q17).bind (fun q20 => f_X0_closeBefore_L23 x_open_names x_open_foreigns v1 q20))))
set_option maxHeartbeats 4000000 in
set_option maxRecDepth 100000 in
theorem fn_X0_closeBefore (l : Launch) (G : Gc) (a_this : Nat) (a_source : Nat) (a_tree : Nat) (a_open : Nat) (a_open_names : Nat) (a_open_foreigns : Nat) (x_open_count : Int32) (x_open_names : Nat → Int32) (x_open_foreigns : Nat → Int32) (v1 : Int32)  {o : Int32} (h : f_X0_closeBefore x_open_count x_open_names x_open_foreigns v1 = some o) : ms_Fn l G yX0_closeBefore cX0_closeBefore 3 none rm_X0_closeBefore [.ref a_this, .int v1] [ob_X0 a_this a_source a_tree a_open, ob_X2 a_open a_open_names a_open_foreigns x_open_count, (a_open_names, .inl (G.2.1 1, 8, .inl x_open_names)), (a_open_foreigns, .inl (G.2.1 3, 8, .inl x_open_foreigns))] [ob_X0 a_this a_source a_tree a_open, ob_X2 a_open a_open_names a_open_foreigns o, (a_open_names, .inl (G.2.1 1, 8, .inl x_open_names)), (a_open_foreigns, .inl (G.2.1 3, 8, .inl x_open_foreigns))] none := by
  refine ms_start RX0 (by decide +kernel) rfl (Nat.le_of_ble_eq_true rfl) (fun p e s m below meth c A ls hX hW hl => ?_)
  have hx := hX.1.1
  have hb := hX.1.2.1
  have hl : lv_has ls 3 [(0, .ref a_this), (1, .int v1)] := hl
  unfold f_X0_closeBefore at h
  refine lv_iload_n hx hb dX0_closeBefore_0 rfl (lv_at hl 1 rfl) ?_
  obtain ⟨q1, hq1, h⟩ := ms_bd h
  refine ms_callN (host := RX9) (fn_X9_isBlock l G v1 hq1) wm_X9_isBlock (List.mem_of_getElem? (i := 6) rfl) wt_X9_isBlock hX hW [] rfl rfl rfl ⟨Nat.le_of_ble_eq_true rfl, Nat.le_of_ble_eq_true rfl, rfl, rfl, Nat.zero_le _, Nat.zero_le _⟩ rfl hl.1 [] rfl (Nat.le_of_ble_eq_true rfl) dX0_closeBefore_1 (fun H locs hW => ?_)
  have hW : ms_W G A s H locs [ob_X0 a_this a_source a_tree a_open, ob_X2 a_open a_open_names a_open_foreigns x_open_count, (a_open_names, .inl (G.2.1 1, 8, .inl x_open_names)), (a_open_foreigns, .inl (G.2.1 3, 8, .inl x_open_foreigns))] := hW
  refine W.eq (g2 := F0 m 4 ls [.int q1]) rfl ?_
  refine lv_if_eq (tgt := 23) hx hb dX0_closeBefore_4 (by decide) (fun k => ?_) (fun k => ?_)
  · have h := ms_ifp h k
    exact wb_X0_closeBefore_L23 hX h hW (lv_sub hl [0, 1] rfl)
  · have h := ms_ifn h k
    refine lv_aload_n hx hb dX0_closeBefore_7 rfl (lv_at hl 0 rfl) ?_
    refine ms_get ff_X0_22 hX hW 0 rfl rfl dX0_closeBefore_8 ?_
    refine lv_aload_n hx hb dX0_closeBefore_11 rfl (lv_at hl 0 rfl) ?_
    refine ms_get ff_X0_22 hX hW 0 rfl rfl dX0_closeBefore_12 ?_
    refine lv_bipush (v := 15) hx hb dX0_closeBefore_15 (by decide) ?_
    obtain ⟨q17, hq17, h⟩ := ms_bd h
    refine ms_callV (fn_X2_lastInScope l G a_open a_open_names a_open_foreigns x_open_count x_open_names x_open_foreigns 15 hq17) wm_X2_lastInScope wv_X0_90 hX hW [1, 2, 3] rfl rfl rfl rfl rfl ⟨Nat.le_of_ble_eq_true rfl, Nat.le_of_ble_eq_true rfl, rfl, rfl, Nat.zero_le _, Nat.zero_le _⟩ rfl hl.1 [.ref a_open] rfl (Nat.le_of_ble_eq_true rfl) dX0_closeBefore_17 (fun H locs hW => ?_)
    have hW : ms_W G A s H locs [ob_X0 a_this a_source a_tree a_open, ob_X2 a_open a_open_names a_open_foreigns x_open_count, (a_open_names, .inl (G.2.1 1, 8, .inl x_open_names)), (a_open_foreigns, .inl (G.2.1 3, 8, .inl x_open_foreigns))] := hW
    refine W.eq (g2 := F0 m 20 ls [.int q17, .ref a_open]) rfl ?_
    obtain ⟨q20, hq20, h⟩ := ms_bd h
    refine ms_callV (fn_X2_close l G a_open a_open_names a_open_foreigns x_open_count q17 hq20) wm_X2_close wv_X0_56 hX hW [1] rfl rfl rfl rfl rfl ⟨Nat.le_of_ble_eq_true rfl, Nat.le_of_ble_eq_true rfl, rfl, rfl, Nat.zero_le _, Nat.zero_le _⟩ rfl hl.1 [] rfl (Nat.le_of_ble_eq_true rfl) dX0_closeBefore_20 (fun H locs hW => ?_)
    have hW : ms_W G A s H locs [ob_X0 a_this a_source a_tree a_open, ob_X2 a_open a_open_names a_open_foreigns q20, (a_open_names, .inl (G.2.1 1, 8, .inl x_open_names)), (a_open_foreigns, .inl (G.2.1 3, 8, .inl x_open_foreigns))] := hW
    refine W.eq (g2 := F0 m 23 ls []) rfl ?_
    exact wb_X0_closeBefore_L23 hX h hW (lv_sub hl [0, 1] rfl)
def rm_X9_isEmptyName : Room := { frames := 0, cells := 0, slots := 0, locals := 0 }
def f_X9_isEmptyName  (v0 : Int32) : Option (Int32) := (if v0 = 13 then some 1 else (if v0 = 12 then some 1 else some 0))
set_option maxHeartbeats 4000000 in
set_option maxRecDepth 100000 in
theorem fn_X9_isEmptyName (l : Launch) (G : Gc)   (v0 : Int32)  {o : Int32} (h : f_X9_isEmptyName v0 = some o) : ms_Fn l G yX9_isEmptyName cX9_isEmptyName 1 (some .boolean) rm_X9_isEmptyName [.int v0] [] [] (some (.int o)) := by
  refine ms_start RX9 (by decide +kernel) rfl (Nat.le_of_ble_eq_true rfl) (fun p e s m below meth c A ls hX hW hl => ?_)
  have hx := hX.1.1
  have hb := hX.1.2.1
  have hl : lv_has ls 1 [(0, .int v0)] := hl
  unfold f_X9_isEmptyName at h
  refine lv_iload_n hx hb dX9_isEmptyName_0 rfl (lv_at hl 0 rfl) ?_
  refine lv_bipush (v := 13) hx hb dX9_isEmptyName_1 (by decide) ?_
  refine lv_icmp_eq (tgt := 12) hx hb dX9_isEmptyName_3 (by decide) (fun k => ?_) (fun k => ?_)
  · have h := ms_ifp h k
    refine lv_iconst (v := 1) hx hb dX9_isEmptyName_12 (by decide) ?_
    refine lv_goto (tgt := 17) hx hb dX9_isEmptyName_13 (by decide) ?_
    obtain rfl := Option.some.inj h
    exact ms_zret hX (ms_nz (Or.inr rfl)) hW dX9_isEmptyName_17
  · have h := ms_ifn h k
    refine lv_iload_n hx hb dX9_isEmptyName_6 rfl (lv_at hl 0 rfl) ?_
    refine lv_bipush (v := 12) hx hb dX9_isEmptyName_7 (by decide) ?_
    refine lv_icmp_ne (tgt := 16) hx hb dX9_isEmptyName_9 (by decide) (fun k => ?_) (fun k => ?_)
    · have h := ms_ifn h k
      refine lv_iconst (v := 0) hx hb dX9_isEmptyName_16 (by decide) ?_
      obtain rfl := Option.some.inj h
      exact ms_zret hX (ms_nz (Or.inl rfl)) hW dX9_isEmptyName_17
    · have h := ms_ifp h k
      refine lv_iconst (v := 1) hx hb dX9_isEmptyName_12 (by decide) ?_
      refine lv_goto (tgt := 17) hx hb dX9_isEmptyName_13 (by decide) ?_
      obtain rfl := Option.some.inj h
      exact ms_zret hX (ms_nz (Or.inr rfl)) hW dX9_isEmptyName_17
def rm_X2_isFull : Room := { frames := 0, cells := 0, slots := 0, locals := 0 }
def f_X2_isFull (x_count : Int32)  : Option (Int32) := (if x_count < 8 then some 0 else some 1)
set_option maxHeartbeats 4000000 in
set_option maxRecDepth 100000 in
theorem fn_X2_isFull (l : Launch) (G : Gc) (a_this : Nat) (a_names : Nat) (a_foreigns : Nat) (x_count : Int32)   {o : Int32} (h : f_X2_isFull x_count = some o) : ms_Fn l G yX2_isFull cX2_isFull 1 (some .boolean) rm_X2_isFull [.ref a_this] [ob_X2 a_this a_names a_foreigns x_count] [ob_X2 a_this a_names a_foreigns x_count] (some (.int o)) := by
  refine ms_start RX2 (by decide +kernel) rfl (Nat.le_of_ble_eq_true rfl) (fun p e s m below meth c A ls hX hW hl => ?_)
  have hx := hX.1.1
  have hb := hX.1.2.1
  have hl : lv_has ls 1 [(0, .ref a_this)] := hl
  unfold f_X2_isFull at h
  refine lv_aload_n hx hb dX2_isFull_0 rfl (lv_at hl 0 rfl) ?_
  refine ms_get ff_X2_19 hX hW 0 rfl rfl dX2_isFull_1 ?_
  refine lv_bipush (v := 8) hx hb dX2_isFull_4 (by decide) ?_
  refine lv_icmp_lt (tgt := 13) hx hb dX2_isFull_6 (by decide) (fun k => ?_) (fun k => ?_)
  · have h := ms_ifp h k
    refine lv_iconst (v := 0) hx hb dX2_isFull_13 (by decide) ?_
    obtain rfl := Option.some.inj h
    exact ms_zret hX (ms_nz (Or.inl rfl)) hW dX2_isFull_14
  · have h := ms_ifn h k
    refine lv_iconst (v := 1) hx hb dX2_isFull_9 (by decide) ?_
    refine lv_goto (tgt := 14) hx hb dX2_isFull_10 (by decide) ?_
    obtain rfl := Option.some.inj h
    exact ms_zret hX (ms_nz (Or.inr rfl)) hW dX2_isFull_14
def rm_X7_addNode : Room := { frames := 0, cells := 0, slots := 0, locals := 0 }
def f_X7_addNode (x_count : Int32) (x_codes : Nat → Int32) (x_begins : Nat → Int32) (x_ends : Nat → Int32) (v1 : Int32) (v2 : Int32) : Option (Int32 × (Nat → Int32) × (Nat → Int32) × (Nat → Int32) × Int32) := (if x_count < 200 then ms_gi x_count 200 (ms_gi x_count 200 (ms_gi x_count 200 (some (x_count + 1, upd x_codes x_count.toNatClampNeg v1, upd x_begins x_count.toNatClampNeg v2, upd x_ends x_count.toNatClampNeg v2, (x_count + 1) - 1)))) else some (x_count, x_codes, x_begins, x_ends, (-1)))
set_option maxHeartbeats 4000000 in
set_option maxRecDepth 100000 in
theorem fn_X7_addNode (l : Launch) (G : Gc) (a_this : Nat) (a_codes : Nat) (a_begins : Nat) (a_ends : Nat) (a_characters : Nat) (a_attributeLetters : Nat) (a_valueBegins : Nat) (a_valueEnds : Nat) (a_values : Nat) (x_count : Int32) (x_attributeCount : Int32) (x_codes : Nat → Int32) (x_begins : Nat → Int32) (x_ends : Nat → Int32) (v1 : Int32) (v2 : Int32)  {o : Int32 × (Nat → Int32) × (Nat → Int32) × (Nat → Int32) × Int32} (h : f_X7_addNode x_count x_codes x_begins x_ends v1 v2 = some o) : ms_Fn l G yX7_addNode cX7_addNode 3 (some .int) rm_X7_addNode [.ref a_this, .int v1, .int v2] [ob_X7 a_this a_codes a_begins a_ends x_count a_characters a_attributeLetters a_valueBegins a_valueEnds x_attributeCount a_values, (a_codes, .inl (G.2.1 1, 200, .inl x_codes)), (a_begins, .inl (G.2.1 1, 200, .inl x_begins)), (a_ends, .inl (G.2.1 1, 200, .inl x_ends))] [ob_X7 a_this a_codes a_begins a_ends o.1 a_characters a_attributeLetters a_valueBegins a_valueEnds x_attributeCount a_values, (a_codes, .inl (G.2.1 1, 200, .inl o.2.1)), (a_begins, .inl (G.2.1 1, 200, .inl o.2.2.1)), (a_ends, .inl (G.2.1 1, 200, .inl o.2.2.2.1))] (some (.int o.2.2.2.2)) := by
  refine ms_start RX7 (by decide +kernel) rfl (Nat.le_of_ble_eq_true rfl) (fun p e s m below meth c A ls hX hW hl => ?_)
  have hx := hX.1.1
  have hb := hX.1.2.1
  have hl : lv_has ls 3 [(0, .ref a_this), (1, .int v1), (2, .int v2)] := hl
  unfold f_X7_addNode at h
  refine lv_aload_n hx hb dX7_addNode_0 rfl (lv_at hl 0 rfl) ?_
  refine ms_get ff_X7_21 hX hW 0 rfl rfl dX7_addNode_1 ?_
  refine lv_sipush (v := 200) hx hb dX7_addNode_4 (by decide) ?_
  refine lv_icmp_lt (tgt := 12) hx hb dX7_addNode_7 (by decide) (fun k => ?_) (fun k => ?_)
  · have h := ms_ifp h k
    refine lv_aload_n hx hb dX7_addNode_12 rfl (lv_at hl 0 rfl) ?_
    refine ms_get ff_X7_11 hX hW 0 rfl rfl dX7_addNode_13 ?_
    refine lv_aload_n hx hb dX7_addNode_16 rfl (lv_at hl 0 rfl) ?_
    refine ms_get ff_X7_21 hX hW 0 rfl rfl dX7_addNode_17 ?_
    refine lv_iload_n hx hb dX7_addNode_20 rfl (lv_at hl 1 rfl) ?_
    obtain ⟨k, h⟩ := ms_gi_some h
    refine ms_iast hX hW 1 rfl k dX7_addNode_21 (fun H locs hW => ?_)
    have hW : ms_W G A s H locs [ob_X7 a_this a_codes a_begins a_ends x_count a_characters a_attributeLetters a_valueBegins a_valueEnds x_attributeCount a_values, (a_codes, .inl (G.2.1 1, 200, .inl (upd x_codes x_count.toNatClampNeg v1))), (a_begins, .inl (G.2.1 1, 200, .inl x_begins)), (a_ends, .inl (G.2.1 1, 200, .inl x_ends))] := hW
    refine lv_aload_n hx hb dX7_addNode_22 rfl (lv_at hl 0 rfl) ?_
    refine ms_get ff_X7_15 hX hW 0 rfl rfl dX7_addNode_23 ?_
    refine lv_aload_n hx hb dX7_addNode_26 rfl (lv_at hl 0 rfl) ?_
    refine ms_get ff_X7_21 hX hW 0 rfl rfl dX7_addNode_27 ?_
    refine lv_iload_n hx hb dX7_addNode_30 rfl (lv_at hl 2 rfl) ?_
    obtain ⟨k, h⟩ := ms_gi_some h
    refine ms_iast hX hW 2 rfl k dX7_addNode_31 (fun H locs hW => ?_)
    have hW : ms_W G A s H locs [ob_X7 a_this a_codes a_begins a_ends x_count a_characters a_attributeLetters a_valueBegins a_valueEnds x_attributeCount a_values, (a_codes, .inl (G.2.1 1, 200, .inl (upd x_codes x_count.toNatClampNeg v1))), (a_begins, .inl (G.2.1 1, 200, .inl (upd x_begins x_count.toNatClampNeg v2))), (a_ends, .inl (G.2.1 1, 200, .inl x_ends))] := hW
    refine lv_aload_n hx hb dX7_addNode_32 rfl (lv_at hl 0 rfl) ?_
    refine ms_get ff_X7_18 hX hW 0 rfl rfl dX7_addNode_33 ?_
    refine lv_aload_n hx hb dX7_addNode_36 rfl (lv_at hl 0 rfl) ?_
    refine ms_get ff_X7_21 hX hW 0 rfl rfl dX7_addNode_37 ?_
    refine lv_iload_n hx hb dX7_addNode_40 rfl (lv_at hl 2 rfl) ?_
    obtain ⟨k, h⟩ := ms_gi_some h
    refine ms_iast hX hW 3 rfl k dX7_addNode_41 (fun H locs hW => ?_)
    have hW : ms_W G A s H locs [ob_X7 a_this a_codes a_begins a_ends x_count a_characters a_attributeLetters a_valueBegins a_valueEnds x_attributeCount a_values, (a_codes, .inl (G.2.1 1, 200, .inl (upd x_codes x_count.toNatClampNeg v1))), (a_begins, .inl (G.2.1 1, 200, .inl (upd x_begins x_count.toNatClampNeg v2))), (a_ends, .inl (G.2.1 1, 200, .inl (upd x_ends x_count.toNatClampNeg v2)))] := hW
    refine lv_aload_n hx hb dX7_addNode_42 rfl (lv_at hl 0 rfl) ?_
    refine lv_dup hx hb dX7_addNode_43 rfl ?_
    refine ms_get ff_X7_21 hX hW 0 rfl rfl dX7_addNode_44 ?_
    refine lv_iconst (v := 1) hx hb dX7_addNode_47 (by decide) ?_
    refine lv_iadd hx hb dX7_addNode_48 ?_
    refine ms_put ff_X7_21 fp_X7_3 rfl hX hW 0 rfl rfl rfl (Nat.le_of_ble_eq_true rfl) dX7_addNode_49 (fun H locs hW => ?_)
    have hW : ms_W G A s H locs [ob_X7 a_this a_codes a_begins a_ends (x_count + 1) a_characters a_attributeLetters a_valueBegins a_valueEnds x_attributeCount a_values, (a_codes, .inl (G.2.1 1, 200, .inl (upd x_codes x_count.toNatClampNeg v1))), (a_begins, .inl (G.2.1 1, 200, .inl (upd x_begins x_count.toNatClampNeg v2))), (a_ends, .inl (G.2.1 1, 200, .inl (upd x_ends x_count.toNatClampNeg v2)))] := hW
    refine lv_aload_n hx hb dX7_addNode_52 rfl (lv_at hl 0 rfl) ?_
    refine ms_get ff_X7_21 hX hW 0 rfl rfl dX7_addNode_53 ?_
    refine lv_iconst (v := 1) hx hb dX7_addNode_56 (by decide) ?_
    refine lv_isub hx hb dX7_addNode_57 ?_
    obtain rfl := Option.some.inj h
    exact ms_iret hX hW dX7_addNode_58
  · have h := ms_ifn h k
    refine lv_iconst (v := (-1)) hx hb dX7_addNode_10 (by decide) ?_
    obtain rfl := Option.some.inj h
    exact ms_iret hX hW dX7_addNode_11
def rm_X7_addElement : Room := { frames := 1, cells := 0, slots := 0, locals := 22 }
def f_X7_addElement_L26 (x_attributeCount : Int32) (v1 : Int32) (v2 : Int32) (v3 : Int32) (x_count : Int32) (x_codes : Nat → Int32) (x_begins : Nat → Int32) (x_ends : Nat → Int32) (z1 : Int32) (z2 : Int32) : Option (Int32 × (Nat → Int32) × (Nat → Int32) × (Nat → Int32) × Int32) := (f_X7_addNode x_count x_codes x_begins x_ends (z1 ||| z2) x_attributeCount).bind (fun q31 => some (q31.1, q31.2.1, q31.2.2.1, q31.2.2.2.1, q31.2.2.2.2))
set_option maxHeartbeats 4000000 in
set_option maxRecDepth 100000 in
theorem wb_X7_addElement_L26 {p : Program} {l : Launch} {e : Env} {s : State} {m : MethodId} {args : Array Value} {below : List Frame} {meth : Method} {c : Code} {G : Gc} {A : Nat → Prop} {H : Heap} {locs : List Loc} {ls : Array Slot} {a_this : Nat} {a_codes : Nat} {a_begins : Nat} {a_ends : Nat} {a_characters : Nat} {a_attributeLetters : Nat} {a_valueBegins : Nat} {a_valueEnds : Nat} {a_values : Nat} {x_attributeCount : Int32} {v1 : Int32} {v2 : Int32} {v3 : Int32} {x_count : Int32} {x_codes : Nat → Int32} {x_begins : Nat → Int32} {x_ends : Nat → Int32} {z1 : Int32} {z2 : Int32} {o : Int32 × (Nat → Int32) × (Nat → Int32) × (Nat → Int32) × Int32} (hX : ms_CX p s m args meth c cX7_addElement 5 RX7 (some .int) G A)   (h : f_X7_addElement_L26 x_attributeCount v1 v2 v3 x_count x_codes x_begins x_ends z1 z2 = some o) (hW : ms_W G A s H locs [ob_X7 a_this a_codes a_begins a_ends x_count a_characters a_attributeLetters a_valueBegins a_valueEnds x_attributeCount a_values, (a_codes, .inl (G.2.1 1, 200, .inl x_codes)), (a_begins, .inl (G.2.1 1, 200, .inl x_begins)), (a_ends, .inl (G.2.1 1, 200, .inl x_ends))]) (hl : lv_has ls 5 [(0, .ref a_this)]) : W p l e rm_X7_addElement s m args below meth c H locs 0 0 (ms_Q G A below args s [ob_X7 a_this a_codes a_begins a_ends o.1 a_characters a_attributeLetters a_valueBegins a_valueEnds x_attributeCount a_values, (a_codes, .inl (G.2.1 1, 200, .inl o.2.1)), (a_begins, .inl (G.2.1 1, 200, .inl o.2.2.1)), (a_ends, .inl (G.2.1 1, 200, .inl o.2.2.2.1))] (some (.int o.2.2.2.2))) (F0 m 26 ls [.int z2, .int z1, .ref a_this]) := by
  have hx := hX.1.1
  have hb := hX.1.2.1
  unfold f_X7_addElement_L26 at h
  refine lv_ior hx hb dX7_addElement_26 ?_
  refine lv_aload_n hx hb dX7_addElement_27 rfl (lv_at hl 0 rfl) ?_
  refine ms_get ff_X7_41 hX hW 0 rfl rfl dX7_addElement_28 ?_
  obtain ⟨q31, hq31, h⟩ := ms_bd h
  refine ms_callV (fn_X7_addNode l G a_this a_codes a_begins a_ends a_characters a_attributeLetters a_valueBegins a_valueEnds a_values x_count x_attributeCount x_codes x_begins x_ends (z1 ||| z2) x_attributeCount hq31) wm_X7_addNode wv_X7_77 hX hW [0, 1, 2, 3] rfl rfl rfl rfl rfl ⟨Nat.le_of_ble_eq_true rfl, Nat.le_of_ble_eq_true rfl, rfl, rfl, Nat.zero_le _, Nat.zero_le _⟩ rfl hl.1 [] rfl (Nat.le_of_ble_eq_true rfl) dX7_addElement_31 (fun H locs hW => ?_)
  have hW : ms_W G A s H locs [ob_X7 a_this a_codes a_begins a_ends q31.1 a_characters a_attributeLetters a_valueBegins a_valueEnds x_attributeCount a_values, (a_codes, .inl (G.2.1 1, 200, .inl q31.2.1)), (a_begins, .inl (G.2.1 1, 200, .inl q31.2.2.1)), (a_ends, .inl (G.2.1 1, 200, .inl q31.2.2.2.1))] := hW
  refine W.eq (g2 := F0 m 34 ls [.int q31.2.2.2.2]) rfl ?_
  obtain rfl := Option.some.inj h
  exact ms_iret hX hW dX7_addElement_34
def f_X7_addElement (x_count : Int32) (x_attributeCount : Int32) (x_codes : Nat → Int32) (x_begins : Nat → Int32) (x_ends : Nat → Int32) (v1 : Int32) (v2 : Int32) (v3 : Int32) : Option (Int32 × (Nat → Int32) × (Nat → Int32) × (Nat → Int32) × Int32) := (if v3 = 0 then f_X7_addElement_L26 x_attributeCount v1 v2 v3 x_count x_codes x_begins x_ends (((3 : Int32) ||| (v1 <<< ((2 : Int32) &&& 31))) ||| (v2 <<< ((7 : Int32) &&& 31))) 0 else f_X7_addElement_L26 x_attributeCount v1 v2 v3 x_count x_codes x_begins x_ends (((3 : Int32) ||| (v1 <<< ((2 : Int32) &&& 31))) ||| (v2 <<< ((7 : Int32) &&& 31))) 4096)
set_option maxHeartbeats 4000000 in
set_option maxRecDepth 100000 in
theorem fn_X7_addElement (l : Launch) (G : Gc) (a_this : Nat) (a_codes : Nat) (a_begins : Nat) (a_ends : Nat) (a_characters : Nat) (a_attributeLetters : Nat) (a_valueBegins : Nat) (a_valueEnds : Nat) (a_values : Nat) (x_count : Int32) (x_attributeCount : Int32) (x_codes : Nat → Int32) (x_begins : Nat → Int32) (x_ends : Nat → Int32) (v1 : Int32) (v2 : Int32) (v3 : Int32)  {o : Int32 × (Nat → Int32) × (Nat → Int32) × (Nat → Int32) × Int32} (h : f_X7_addElement x_count x_attributeCount x_codes x_begins x_ends v1 v2 v3 = some o) : ms_Fn l G yX7_addElement cX7_addElement 5 (some .int) rm_X7_addElement [.ref a_this, .int v1, .int v2, .int v3] [ob_X7 a_this a_codes a_begins a_ends x_count a_characters a_attributeLetters a_valueBegins a_valueEnds x_attributeCount a_values, (a_codes, .inl (G.2.1 1, 200, .inl x_codes)), (a_begins, .inl (G.2.1 1, 200, .inl x_begins)), (a_ends, .inl (G.2.1 1, 200, .inl x_ends))] [ob_X7 a_this a_codes a_begins a_ends o.1 a_characters a_attributeLetters a_valueBegins a_valueEnds x_attributeCount a_values, (a_codes, .inl (G.2.1 1, 200, .inl o.2.1)), (a_begins, .inl (G.2.1 1, 200, .inl o.2.2.1)), (a_ends, .inl (G.2.1 1, 200, .inl o.2.2.2.1))] (some (.int o.2.2.2.2)) := by
  refine ms_start RX7 (by decide +kernel) rfl (Nat.le_of_ble_eq_true rfl) (fun p e s m below meth c A ls hX hW hl => ?_)
  have hx := hX.1.1
  have hb := hX.1.2.1
  have hl : lv_has ls 5 [(0, .ref a_this), (1, .int v1), (2, .int v2), (3, .int v3)] := hl
  unfold f_X7_addElement at h
  refine lv_iconst (v := 3) hx hb dX7_addElement_0 (by decide) ?_
  refine lv_iload_n hx hb dX7_addElement_1 rfl (lv_at hl 1 rfl) ?_
  refine lv_iconst (v := 2) hx hb dX7_addElement_2 (by decide) ?_
  refine lv_ishl hx hb dX7_addElement_3 ?_
  refine lv_ior hx hb dX7_addElement_4 ?_
  refine lv_iload_n hx hb dX7_addElement_5 rfl (lv_at hl 2 rfl) ?_
  refine lv_bipush (v := 7) hx hb dX7_addElement_6 (by decide) ?_
  refine lv_ishl hx hb dX7_addElement_8 ?_
  refine lv_ior hx hb dX7_addElement_9 ?_
  refine lv_istore (lv' := [(4, .int (((3 : Int32) ||| (v1 <<< ((2 : Int32) &&& 31))) ||| (v2 <<< ((7 : Int32) &&& 31)))), (0, .ref a_this), (1, .int v1), (2, .int v2), (3, .int v3)]) hx hb dX7_addElement_10 hl (by decide) rfl (fun ls hl => ?_)
  refine lv_aload_n hx hb dX7_addElement_12 rfl (lv_at hl 1 rfl) ?_
  refine lv_iload hx hb dX7_addElement_13 (lv_at hl 0 rfl) ?_
  refine lv_iload_n hx hb dX7_addElement_15 rfl (lv_at hl 4 rfl) ?_
  refine lv_if_eq (tgt := 25) hx hb dX7_addElement_16 (by decide) (fun k => ?_) (fun k => ?_)
  · have h := ms_ifp h k
    refine lv_iconst (v := 0) hx hb dX7_addElement_25 (by decide) ?_
    exact wb_X7_addElement_L26 hX h hW (lv_sub hl [1] rfl)
  · have h := ms_ifn h k
    refine lv_sipush (v := 4096) hx hb dX7_addElement_19 (by decide) ?_
    refine lv_goto (tgt := 26) hx hb dX7_addElement_22 (by decide) ?_
    exact wb_X7_addElement_L26 hX h hW (lv_sub hl [1] rfl)
def rm_X2_add : Room := { frames := 0, cells := 0, slots := 0, locals := 0 }
def f_X2_add (x_count : Int32) (x_names : Nat → Int32) (x_foreigns : Nat → Int32) (v1 : Int32) (v2 : Int32) : Option (Int32 × (Nat → Int32) × (Nat → Int32)) := (if 8 ≤ x_count then some (x_count, x_names, x_foreigns) else ms_gi x_count 8 (ms_gi x_count 8 (some (x_count + 1, upd x_names x_count.toNatClampNeg v1, upd x_foreigns x_count.toNatClampNeg (vp_nar .boolean v2)))))
set_option maxHeartbeats 4000000 in
set_option maxRecDepth 100000 in
theorem fn_X2_add (l : Launch) (G : Gc) (a_this : Nat) (a_names : Nat) (a_foreigns : Nat) (x_count : Int32) (x_names : Nat → Int32) (x_foreigns : Nat → Int32) (v1 : Int32) (v2 : Int32)  {o : Int32 × (Nat → Int32) × (Nat → Int32)} (h : f_X2_add x_count x_names x_foreigns v1 v2 = some o) : ms_Fn l G yX2_add cX2_add 3 none rm_X2_add [.ref a_this, .int v1, .int v2] [ob_X2 a_this a_names a_foreigns x_count, (a_names, .inl (G.2.1 1, 8, .inl x_names)), (a_foreigns, .inl (G.2.1 3, 8, .inl x_foreigns))] [ob_X2 a_this a_names a_foreigns o.1, (a_names, .inl (G.2.1 1, 8, .inl o.2.1)), (a_foreigns, .inl (G.2.1 3, 8, .inl o.2.2))] none := by
  refine ms_start RX2 (by decide +kernel) rfl (Nat.le_of_ble_eq_true rfl) (fun p e s m below meth c A ls hX hW hl => ?_)
  have hx := hX.1.1
  have hb := hX.1.2.1
  have hl : lv_has ls 3 [(0, .ref a_this), (1, .int v1), (2, .int v2)] := hl
  unfold f_X2_add at h
  refine lv_aload_n hx hb dX2_add_0 rfl (lv_at hl 0 rfl) ?_
  refine ms_get ff_X2_19 hX hW 0 rfl rfl dX2_add_1 ?_
  refine lv_bipush (v := 8) hx hb dX2_add_4 (by decide) ?_
  refine lv_icmp_ge (tgt := 39) hx hb dX2_add_6 (by decide) (fun k => ?_) (fun k => ?_)
  · have h := ms_ifp h k
    obtain rfl := Option.some.inj h
    exact ms_vret hX hW dX2_add_39
  · have h := ms_ifn h k
    refine lv_aload_n hx hb dX2_add_9 rfl (lv_at hl 0 rfl) ?_
    refine ms_get ff_X2_9 hX hW 0 rfl rfl dX2_add_10 ?_
    refine lv_aload_n hx hb dX2_add_13 rfl (lv_at hl 0 rfl) ?_
    refine ms_get ff_X2_19 hX hW 0 rfl rfl dX2_add_14 ?_
    refine lv_iload_n hx hb dX2_add_17 rfl (lv_at hl 1 rfl) ?_
    obtain ⟨k, h⟩ := ms_gi_some h
    refine ms_iast hX hW 1 rfl k dX2_add_18 (fun H locs hW => ?_)
    have hW : ms_W G A s H locs [ob_X2 a_this a_names a_foreigns x_count, (a_names, .inl (G.2.1 1, 8, .inl (upd x_names x_count.toNatClampNeg v1))), (a_foreigns, .inl (G.2.1 3, 8, .inl x_foreigns))] := hW
    refine lv_aload_n hx hb dX2_add_19 rfl (lv_at hl 0 rfl) ?_
    refine ms_get ff_X2_15 hX hW 0 rfl rfl dX2_add_20 ?_
    refine lv_aload_n hx hb dX2_add_23 rfl (lv_at hl 0 rfl) ?_
    refine ms_get ff_X2_19 hX hW 0 rfl rfl dX2_add_24 ?_
    refine lv_iload_n hx hb dX2_add_27 rfl (lv_at hl 2 rfl) ?_
    obtain ⟨k, h⟩ := ms_gi_some h
    refine ms_zast hX hW 2 rfl k dX2_add_28 (fun H locs hW => ?_)
    have hW : ms_W G A s H locs [ob_X2 a_this a_names a_foreigns x_count, (a_names, .inl (G.2.1 1, 8, .inl (upd x_names x_count.toNatClampNeg v1))), (a_foreigns, .inl (G.2.1 3, 8, .inl (upd x_foreigns x_count.toNatClampNeg (vp_nar .boolean v2))))] := hW
    refine lv_aload_n hx hb dX2_add_29 rfl (lv_at hl 0 rfl) ?_
    refine lv_dup hx hb dX2_add_30 rfl ?_
    refine ms_get ff_X2_19 hX hW 0 rfl rfl dX2_add_31 ?_
    refine lv_iconst (v := 1) hx hb dX2_add_34 (by decide) ?_
    refine lv_iadd hx hb dX2_add_35 ?_
    refine ms_put ff_X2_19 fp_X2_2 rfl hX hW 0 rfl rfl rfl (Nat.le_of_ble_eq_true rfl) dX2_add_36 (fun H locs hW => ?_)
    have hW : ms_W G A s H locs [ob_X2 a_this a_names a_foreigns (x_count + 1), (a_names, .inl (G.2.1 1, 8, .inl (upd x_names x_count.toNatClampNeg v1))), (a_foreigns, .inl (G.2.1 3, 8, .inl (upd x_foreigns x_count.toNatClampNeg (vp_nar .boolean v2))))] := hW
    obtain rfl := Option.some.inj h
    exact ms_vret hX hW dX2_add_39
def rm_X0_putElement : Room := { frames := 4, cells := 0, slots := 0, locals := 88 }
def f_X0_putElement_L76 (x_tree_attributeCount : Int32) (v1 : Int32) (x_tree_count : Int32) (x_tree_codes : Nat → Int32) (x_tree_begins : Nat → Int32) (x_tree_ends : Nat → Int32) (x_open_count : Int32) (x_open_names : Nat → Int32) (x_open_foreigns : Nat → Int32) (v3 : Int32) (z0 : Int32) : Option (Int32 × (Nat → Int32) × (Nat → Int32) × (Nat → Int32) × Int32 × (Nat → Int32) × (Nat → Int32) × Int32) := (f_X0_depth x_open_count).bind (fun q84 => (f_X7_addElement x_tree_count x_tree_attributeCount x_tree_codes x_tree_begins x_tree_ends v1 q84 z0).bind (fun q89 => (if v3 = 0 then some (q89.1, q89.2.1, q89.2.2.1, q89.2.2.2.1, x_open_count, x_open_names, x_open_foreigns, q89.2.2.2.2) else (f_X2_add x_open_count x_open_names x_open_foreigns v1 z0).bind (fun q105 => some (q89.1, q89.2.1, q89.2.2.1, q89.2.2.2.1, q105.1, q105.2.1, q105.2.2, q89.2.2.2.2)))))
set_option maxHeartbeats 4000000 in
set_option maxRecDepth 100000 in
theorem wb_X0_putElement_L76 {p : Program} {l : Launch} {e : Env} {s : State} {m : MethodId} {args : Array Value} {below : List Frame} {meth : Method} {c : Code} {G : Gc} {A : Nat → Prop} {H : Heap} {locs : List Loc} {ls : Array Slot} {a_this : Nat} {a_source : Nat} {a_tree : Nat} {a_open : Nat} {a_tree_codes : Nat} {a_tree_begins : Nat} {a_tree_ends : Nat} {a_tree_characters : Nat} {a_tree_attributeLetters : Nat} {a_tree_valueBegins : Nat} {a_tree_valueEnds : Nat} {a_tree_values : Nat} {a_open_names : Nat} {a_open_foreigns : Nat} {x_tree_attributeCount : Int32} {v1 : Int32} {x_tree_count : Int32} {x_tree_codes : Nat → Int32} {x_tree_begins : Nat → Int32} {x_tree_ends : Nat → Int32} {x_open_count : Int32} {x_open_names : Nat → Int32} {x_open_foreigns : Nat → Int32} {v3 : Int32} {z0 : Int32} {o : Int32 × (Nat → Int32) × (Nat → Int32) × (Nat → Int32) × Int32 × (Nat → Int32) × (Nat → Int32) × Int32} (hX : ms_CX p s m args meth c cX0_putElement 6 RX0 (some .int) G A)   (h : f_X0_putElement_L76 x_tree_attributeCount v1 x_tree_count x_tree_codes x_tree_begins x_tree_ends x_open_count x_open_names x_open_foreigns v3 z0 = some o) (hW : ms_W G A s H locs [ob_X0 a_this a_source a_tree a_open, ob_X7 a_tree a_tree_codes a_tree_begins a_tree_ends x_tree_count a_tree_characters a_tree_attributeLetters a_tree_valueBegins a_tree_valueEnds x_tree_attributeCount a_tree_values, (a_tree_codes, .inl (G.2.1 1, 200, .inl x_tree_codes)), (a_tree_begins, .inl (G.2.1 1, 200, .inl x_tree_begins)), (a_tree_ends, .inl (G.2.1 1, 200, .inl x_tree_ends)), ob_X2 a_open a_open_names a_open_foreigns x_open_count, (a_open_names, .inl (G.2.1 1, 8, .inl x_open_names)), (a_open_foreigns, .inl (G.2.1 3, 8, .inl x_open_foreigns))]) (hl : lv_has ls 6 [(0, .ref a_this), (1, .int v1), (3, .int v3)]) : W p l e rm_X0_putElement s m args below meth c H locs 0 0 (ms_Q G A below args s [ob_X0 a_this a_source a_tree a_open, ob_X7 a_tree a_tree_codes a_tree_begins a_tree_ends o.1 a_tree_characters a_tree_attributeLetters a_tree_valueBegins a_tree_valueEnds x_tree_attributeCount a_tree_values, (a_tree_codes, .inl (G.2.1 1, 200, .inl o.2.1)), (a_tree_begins, .inl (G.2.1 1, 200, .inl o.2.2.1)), (a_tree_ends, .inl (G.2.1 1, 200, .inl o.2.2.2.1)), ob_X2 a_open a_open_names a_open_foreigns o.2.2.2.2.1, (a_open_names, .inl (G.2.1 1, 8, .inl o.2.2.2.2.2.1)), (a_open_foreigns, .inl (G.2.1 3, 8, .inl o.2.2.2.2.2.2.1))] (some (.int o.2.2.2.2.2.2.2))) (F0 m 76 ls [.int z0]) := by
  have hx := hX.1.1
  have hb := hX.1.2.1
  unfold f_X0_putElement_L76 at h
  refine lv_istore (lv' := [(4, .int z0), (0, .ref a_this), (1, .int v1), (3, .int v3)]) hx hb dX0_putElement_76 hl (by decide) rfl (fun ls hl => ?_)
  refine lv_aload_n hx hb dX0_putElement_78 rfl (lv_at hl 1 rfl) ?_
  refine ms_get ff_X0_15 hX hW 0 rfl rfl dX0_putElement_79 ?_
  refine lv_iload_n hx hb dX0_putElement_82 rfl (lv_at hl 2 rfl) ?_
  refine lv_aload_n hx hb dX0_putElement_83 rfl (lv_at hl 1 rfl) ?_
  obtain ⟨q84, hq84, h⟩ := ms_bd h
  refine ms_callV (fn_X0_depth l G a_this a_source a_tree a_open a_open_names a_open_foreigns x_open_count hq84) wm_X0_depth wv_X0_79 hX hW [0, 5] rfl rfl rfl rfl rfl ⟨Nat.le_of_ble_eq_true rfl, Nat.le_of_ble_eq_true rfl, rfl, rfl, Nat.zero_le _, Nat.zero_le _⟩ rfl hl.1 [.int v1, .ref a_tree] rfl (Nat.le_of_ble_eq_true rfl) dX0_putElement_84 (fun H locs hW => ?_)
  have hW : ms_W G A s H locs [ob_X0 a_this a_source a_tree a_open, ob_X7 a_tree a_tree_codes a_tree_begins a_tree_ends x_tree_count a_tree_characters a_tree_attributeLetters a_tree_valueBegins a_tree_valueEnds x_tree_attributeCount a_tree_values, (a_tree_codes, .inl (G.2.1 1, 200, .inl x_tree_codes)), (a_tree_begins, .inl (G.2.1 1, 200, .inl x_tree_begins)), (a_tree_ends, .inl (G.2.1 1, 200, .inl x_tree_ends)), ob_X2 a_open a_open_names a_open_foreigns x_open_count, (a_open_names, .inl (G.2.1 1, 8, .inl x_open_names)), (a_open_foreigns, .inl (G.2.1 3, 8, .inl x_open_foreigns))] := hW
  refine W.eq (g2 := F0 m 87 ls [.int q84, .int v1, .ref a_tree]) rfl ?_
  refine lv_iload hx hb dX0_putElement_87 (lv_at hl 0 rfl) ?_
  obtain ⟨q89, hq89, h⟩ := ms_bd h
  refine ms_callV (fn_X7_addElement l G a_tree a_tree_codes a_tree_begins a_tree_ends a_tree_characters a_tree_attributeLetters a_tree_valueBegins a_tree_valueEnds a_tree_values x_tree_count x_tree_attributeCount x_tree_codes x_tree_begins x_tree_ends v1 q84 z0 hq89) wm_X7_addElement wv_X0_82 hX hW [1, 2, 3, 4] rfl rfl rfl rfl rfl ⟨Nat.le_of_ble_eq_true rfl, Nat.le_of_ble_eq_true rfl, rfl, rfl, Nat.zero_le _, Nat.zero_le _⟩ rfl hl.1 [] rfl (Nat.le_of_ble_eq_true rfl) dX0_putElement_89 (fun H locs hW => ?_)
  have hW : ms_W G A s H locs [ob_X0 a_this a_source a_tree a_open, ob_X7 a_tree a_tree_codes a_tree_begins a_tree_ends q89.1 a_tree_characters a_tree_attributeLetters a_tree_valueBegins a_tree_valueEnds x_tree_attributeCount a_tree_values, (a_tree_codes, .inl (G.2.1 1, 200, .inl q89.2.1)), (a_tree_begins, .inl (G.2.1 1, 200, .inl q89.2.2.1)), (a_tree_ends, .inl (G.2.1 1, 200, .inl q89.2.2.2.1)), ob_X2 a_open a_open_names a_open_foreigns x_open_count, (a_open_names, .inl (G.2.1 1, 8, .inl x_open_names)), (a_open_foreigns, .inl (G.2.1 3, 8, .inl x_open_foreigns))] := hW
  refine W.eq (g2 := F0 m 92 ls [.int q89.2.2.2.2]) rfl ?_
  refine lv_istore (lv' := [(5, .int q89.2.2.2.2), (4, .int z0), (0, .ref a_this), (1, .int v1), (3, .int v3)]) hx hb dX0_putElement_92 hl (by decide) rfl (fun ls hl => ?_)
  refine lv_iload_n hx hb dX0_putElement_94 rfl (lv_at hl 4 rfl) ?_
  refine lv_if_eq (tgt := 108) hx hb dX0_putElement_95 (by decide) (fun k => ?_) (fun k => ?_)
  · have h := ms_ifp h k
    refine lv_iload hx hb dX0_putElement_108 (lv_at hl 0 rfl) ?_
    obtain rfl := Option.some.inj h
    exact ms_iret hX hW dX0_putElement_110
  · have h := ms_ifn h k
    refine lv_aload_n hx hb dX0_putElement_98 rfl (lv_at hl 2 rfl) ?_
    refine ms_get ff_X0_22 hX hW 0 rfl rfl dX0_putElement_99 ?_
    refine lv_iload_n hx hb dX0_putElement_102 rfl (lv_at hl 3 rfl) ?_
    refine lv_iload hx hb dX0_putElement_103 (lv_at hl 1 rfl) ?_
    obtain ⟨q105, hq105, h⟩ := ms_bd h
    refine ms_callV (fn_X2_add l G a_open a_open_names a_open_foreigns x_open_count x_open_names x_open_foreigns v1 z0 hq105) wm_X2_add wv_X0_86 hX hW [5, 6, 7] rfl rfl rfl rfl rfl ⟨Nat.le_of_ble_eq_true rfl, Nat.le_of_ble_eq_true rfl, rfl, rfl, Nat.zero_le _, Nat.zero_le _⟩ rfl hl.1 [] rfl (Nat.le_of_ble_eq_true rfl) dX0_putElement_105 (fun H locs hW => ?_)
    have hW : ms_W G A s H locs [ob_X0 a_this a_source a_tree a_open, ob_X7 a_tree a_tree_codes a_tree_begins a_tree_ends q89.1 a_tree_characters a_tree_attributeLetters a_tree_valueBegins a_tree_valueEnds x_tree_attributeCount a_tree_values, (a_tree_codes, .inl (G.2.1 1, 200, .inl q89.2.1)), (a_tree_begins, .inl (G.2.1 1, 200, .inl q89.2.2.1)), (a_tree_ends, .inl (G.2.1 1, 200, .inl q89.2.2.2.1)), ob_X2 a_open a_open_names a_open_foreigns q105.1, (a_open_names, .inl (G.2.1 1, 8, .inl q105.2.1)), (a_open_foreigns, .inl (G.2.1 3, 8, .inl q105.2.2))] := hW
    refine W.eq (g2 := F0 m 108 ls []) rfl ?_
    refine lv_iload hx hb dX0_putElement_108 (lv_at hl 0 rfl) ?_
    obtain rfl := Option.some.inj h
    exact ms_iret hX hW dX0_putElement_110
def f_X0_putElement_L71 (x_tree_attributeCount : Int32) (v1 : Int32) (x_tree_count : Int32) (x_tree_codes : Nat → Int32) (x_tree_begins : Nat → Int32) (x_tree_ends : Nat → Int32) (x_open_count : Int32) (x_open_names : Nat → Int32) (x_open_foreigns : Nat → Int32) (v3 : Int32) : Option (Int32 × (Nat → Int32) × (Nat → Int32) × (Nat → Int32) × Int32 × (Nat → Int32) × (Nat → Int32) × Int32) := f_X0_putElement_L76 x_tree_attributeCount v1 x_tree_count x_tree_codes x_tree_begins x_tree_ends x_open_count x_open_names x_open_foreigns v3 1
set_option maxHeartbeats 4000000 in
set_option maxRecDepth 100000 in
theorem wb_X0_putElement_L71 {p : Program} {l : Launch} {e : Env} {s : State} {m : MethodId} {args : Array Value} {below : List Frame} {meth : Method} {c : Code} {G : Gc} {A : Nat → Prop} {H : Heap} {locs : List Loc} {ls : Array Slot} {a_this : Nat} {a_source : Nat} {a_tree : Nat} {a_open : Nat} {a_tree_codes : Nat} {a_tree_begins : Nat} {a_tree_ends : Nat} {a_tree_characters : Nat} {a_tree_attributeLetters : Nat} {a_tree_valueBegins : Nat} {a_tree_valueEnds : Nat} {a_tree_values : Nat} {a_open_names : Nat} {a_open_foreigns : Nat} {x_tree_attributeCount : Int32} {v1 : Int32} {x_tree_count : Int32} {x_tree_codes : Nat → Int32} {x_tree_begins : Nat → Int32} {x_tree_ends : Nat → Int32} {x_open_count : Int32} {x_open_names : Nat → Int32} {x_open_foreigns : Nat → Int32} {v3 : Int32} {o : Int32 × (Nat → Int32) × (Nat → Int32) × (Nat → Int32) × Int32 × (Nat → Int32) × (Nat → Int32) × Int32} (hX : ms_CX p s m args meth c cX0_putElement 6 RX0 (some .int) G A)   (h : f_X0_putElement_L71 x_tree_attributeCount v1 x_tree_count x_tree_codes x_tree_begins x_tree_ends x_open_count x_open_names x_open_foreigns v3 = some o) (hW : ms_W G A s H locs [ob_X0 a_this a_source a_tree a_open, ob_X7 a_tree a_tree_codes a_tree_begins a_tree_ends x_tree_count a_tree_characters a_tree_attributeLetters a_tree_valueBegins a_tree_valueEnds x_tree_attributeCount a_tree_values, (a_tree_codes, .inl (G.2.1 1, 200, .inl x_tree_codes)), (a_tree_begins, .inl (G.2.1 1, 200, .inl x_tree_begins)), (a_tree_ends, .inl (G.2.1 1, 200, .inl x_tree_ends)), ob_X2 a_open a_open_names a_open_foreigns x_open_count, (a_open_names, .inl (G.2.1 1, 8, .inl x_open_names)), (a_open_foreigns, .inl (G.2.1 3, 8, .inl x_open_foreigns))]) (hl : lv_has ls 6 [(0, .ref a_this), (1, .int v1), (3, .int v3)]) : W p l e rm_X0_putElement s m args below meth c H locs 0 0 (ms_Q G A below args s [ob_X0 a_this a_source a_tree a_open, ob_X7 a_tree a_tree_codes a_tree_begins a_tree_ends o.1 a_tree_characters a_tree_attributeLetters a_tree_valueBegins a_tree_valueEnds x_tree_attributeCount a_tree_values, (a_tree_codes, .inl (G.2.1 1, 200, .inl o.2.1)), (a_tree_begins, .inl (G.2.1 1, 200, .inl o.2.2.1)), (a_tree_ends, .inl (G.2.1 1, 200, .inl o.2.2.2.1)), ob_X2 a_open a_open_names a_open_foreigns o.2.2.2.2.1, (a_open_names, .inl (G.2.1 1, 8, .inl o.2.2.2.2.2.1)), (a_open_foreigns, .inl (G.2.1 3, 8, .inl o.2.2.2.2.2.2.1))] (some (.int o.2.2.2.2.2.2.2))) (F0 m 71 ls []) := by
  have hx := hX.1.1
  have hb := hX.1.2.1
  unfold f_X0_putElement_L71 at h
  refine lv_iconst (v := 1) hx hb dX0_putElement_71 (by decide) ?_
  refine lv_goto (tgt := 76) hx hb dX0_putElement_72 (by decide) ?_
  exact wb_X0_putElement_L76 hX h hW (lv_sub hl [0, 1, 2] rfl)
def f_X0_putElement_L61 (x_tree_attributeCount : Int32) (v1 : Int32) (x_tree_count : Int32) (x_tree_codes : Nat → Int32) (x_tree_begins : Nat → Int32) (x_tree_ends : Nat → Int32) (x_open_count : Int32) (x_open_names : Nat → Int32) (x_open_foreigns : Nat → Int32) (v2 : Int32) (v3 : Int32) : Option (Int32 × (Nat → Int32) × (Nat → Int32) × (Nat → Int32) × Int32 × (Nat → Int32) × (Nat → Int32) × Int32) := (if v2 = 0 then (if v1 = 21 then f_X0_putElement_L71 x_tree_attributeCount v1 x_tree_count x_tree_codes x_tree_begins x_tree_ends x_open_count x_open_names x_open_foreigns v3 else f_X0_putElement_L76 x_tree_attributeCount v1 x_tree_count x_tree_codes x_tree_begins x_tree_ends x_open_count x_open_names x_open_foreigns v3 0) else f_X0_putElement_L71 x_tree_attributeCount v1 x_tree_count x_tree_codes x_tree_begins x_tree_ends x_open_count x_open_names x_open_foreigns v3)
set_option maxHeartbeats 4000000 in
set_option maxRecDepth 100000 in
theorem wb_X0_putElement_L61 {p : Program} {l : Launch} {e : Env} {s : State} {m : MethodId} {args : Array Value} {below : List Frame} {meth : Method} {c : Code} {G : Gc} {A : Nat → Prop} {H : Heap} {locs : List Loc} {ls : Array Slot} {a_this : Nat} {a_source : Nat} {a_tree : Nat} {a_open : Nat} {a_tree_codes : Nat} {a_tree_begins : Nat} {a_tree_ends : Nat} {a_tree_characters : Nat} {a_tree_attributeLetters : Nat} {a_tree_valueBegins : Nat} {a_tree_valueEnds : Nat} {a_tree_values : Nat} {a_open_names : Nat} {a_open_foreigns : Nat} {x_tree_attributeCount : Int32} {v1 : Int32} {x_tree_count : Int32} {x_tree_codes : Nat → Int32} {x_tree_begins : Nat → Int32} {x_tree_ends : Nat → Int32} {x_open_count : Int32} {x_open_names : Nat → Int32} {x_open_foreigns : Nat → Int32} {v2 : Int32} {v3 : Int32} {o : Int32 × (Nat → Int32) × (Nat → Int32) × (Nat → Int32) × Int32 × (Nat → Int32) × (Nat → Int32) × Int32} (hX : ms_CX p s m args meth c cX0_putElement 6 RX0 (some .int) G A)   (h : f_X0_putElement_L61 x_tree_attributeCount v1 x_tree_count x_tree_codes x_tree_begins x_tree_ends x_open_count x_open_names x_open_foreigns v2 v3 = some o) (hW : ms_W G A s H locs [ob_X0 a_this a_source a_tree a_open, ob_X7 a_tree a_tree_codes a_tree_begins a_tree_ends x_tree_count a_tree_characters a_tree_attributeLetters a_tree_valueBegins a_tree_valueEnds x_tree_attributeCount a_tree_values, (a_tree_codes, .inl (G.2.1 1, 200, .inl x_tree_codes)), (a_tree_begins, .inl (G.2.1 1, 200, .inl x_tree_begins)), (a_tree_ends, .inl (G.2.1 1, 200, .inl x_tree_ends)), ob_X2 a_open a_open_names a_open_foreigns x_open_count, (a_open_names, .inl (G.2.1 1, 8, .inl x_open_names)), (a_open_foreigns, .inl (G.2.1 3, 8, .inl x_open_foreigns))]) (hl : lv_has ls 6 [(0, .ref a_this), (1, .int v1), (2, .int v2), (3, .int v3)]) : W p l e rm_X0_putElement s m args below meth c H locs 0 0 (ms_Q G A below args s [ob_X0 a_this a_source a_tree a_open, ob_X7 a_tree a_tree_codes a_tree_begins a_tree_ends o.1 a_tree_characters a_tree_attributeLetters a_tree_valueBegins a_tree_valueEnds x_tree_attributeCount a_tree_values, (a_tree_codes, .inl (G.2.1 1, 200, .inl o.2.1)), (a_tree_begins, .inl (G.2.1 1, 200, .inl o.2.2.1)), (a_tree_ends, .inl (G.2.1 1, 200, .inl o.2.2.2.1)), ob_X2 a_open a_open_names a_open_foreigns o.2.2.2.2.1, (a_open_names, .inl (G.2.1 1, 8, .inl o.2.2.2.2.2.1)), (a_open_foreigns, .inl (G.2.1 3, 8, .inl o.2.2.2.2.2.2.1))] (some (.int o.2.2.2.2.2.2.2))) (F0 m 61 ls []) := by
  have hx := hX.1.1
  have hb := hX.1.2.1
  unfold f_X0_putElement_L61 at h
  refine lv_iload_n hx hb dX0_putElement_61 rfl (lv_at hl 2 rfl) ?_
  refine lv_if_ne (tgt := 71) hx hb dX0_putElement_62 (by decide) (fun k => ?_) (fun k => ?_)
  · have h := ms_ifn h k
    exact wb_X0_putElement_L71 hX h hW (lv_sub hl [0, 1, 3] rfl)
  · have h := ms_ifp h k
    refine lv_iload_n hx hb dX0_putElement_65 rfl (lv_at hl 1 rfl) ?_
    refine lv_bipush (v := 21) hx hb dX0_putElement_66 (by decide) ?_
    refine lv_icmp_ne (tgt := 75) hx hb dX0_putElement_68 (by decide) (fun k => ?_) (fun k => ?_)
    · have h := ms_ifn h k
      refine lv_iconst (v := 0) hx hb dX0_putElement_75 (by decide) ?_
      exact wb_X0_putElement_L76 hX h hW (lv_sub hl [0, 1, 3] rfl)
    · have h := ms_ifp h k
      exact wb_X0_putElement_L71 hX h hW (lv_sub hl [0, 1, 3] rfl)
def f_X0_putElement_L44 (x_tree_attributeCount : Int32) (v1 : Int32) (x_tree_count : Int32) (x_tree_codes : Nat → Int32) (x_tree_begins : Nat → Int32) (x_tree_ends : Nat → Int32) (x_open_count : Int32) (x_open_names : Nat → Int32) (x_open_foreigns : Nat → Int32) (v2 : Int32) (z0 : Int32) : Option (Int32 × (Nat → Int32) × (Nat → Int32) × (Nat → Int32) × Int32 × (Nat → Int32) × (Nat → Int32) × Int32) := (if z0 = 0 then f_X0_putElement_L61 x_tree_attributeCount v1 x_tree_count x_tree_codes x_tree_begins x_tree_ends x_open_count x_open_names x_open_foreigns v2 z0 else (f_X2_isFull x_open_count).bind (fun q53 => (if q53 = 0 then f_X0_putElement_L61 x_tree_attributeCount v1 x_tree_count x_tree_codes x_tree_begins x_tree_ends x_open_count x_open_names x_open_foreigns v2 z0 else some (x_tree_count, x_tree_codes, x_tree_begins, x_tree_ends, x_open_count, x_open_names, x_open_foreigns, (-1)))))
set_option maxHeartbeats 4000000 in
set_option maxRecDepth 100000 in
theorem wb_X0_putElement_L44 {p : Program} {l : Launch} {e : Env} {s : State} {m : MethodId} {args : Array Value} {below : List Frame} {meth : Method} {c : Code} {G : Gc} {A : Nat → Prop} {H : Heap} {locs : List Loc} {ls : Array Slot} {a_this : Nat} {a_source : Nat} {a_tree : Nat} {a_open : Nat} {a_tree_codes : Nat} {a_tree_begins : Nat} {a_tree_ends : Nat} {a_tree_characters : Nat} {a_tree_attributeLetters : Nat} {a_tree_valueBegins : Nat} {a_tree_valueEnds : Nat} {a_tree_values : Nat} {a_open_names : Nat} {a_open_foreigns : Nat} {x_tree_attributeCount : Int32} {v1 : Int32} {x_tree_count : Int32} {x_tree_codes : Nat → Int32} {x_tree_begins : Nat → Int32} {x_tree_ends : Nat → Int32} {x_open_count : Int32} {x_open_names : Nat → Int32} {x_open_foreigns : Nat → Int32} {v2 : Int32} {z0 : Int32} {o : Int32 × (Nat → Int32) × (Nat → Int32) × (Nat → Int32) × Int32 × (Nat → Int32) × (Nat → Int32) × Int32} (hX : ms_CX p s m args meth c cX0_putElement 6 RX0 (some .int) G A)   (h : f_X0_putElement_L44 x_tree_attributeCount v1 x_tree_count x_tree_codes x_tree_begins x_tree_ends x_open_count x_open_names x_open_foreigns v2 z0 = some o) (hW : ms_W G A s H locs [ob_X0 a_this a_source a_tree a_open, ob_X7 a_tree a_tree_codes a_tree_begins a_tree_ends x_tree_count a_tree_characters a_tree_attributeLetters a_tree_valueBegins a_tree_valueEnds x_tree_attributeCount a_tree_values, (a_tree_codes, .inl (G.2.1 1, 200, .inl x_tree_codes)), (a_tree_begins, .inl (G.2.1 1, 200, .inl x_tree_begins)), (a_tree_ends, .inl (G.2.1 1, 200, .inl x_tree_ends)), ob_X2 a_open a_open_names a_open_foreigns x_open_count, (a_open_names, .inl (G.2.1 1, 8, .inl x_open_names)), (a_open_foreigns, .inl (G.2.1 3, 8, .inl x_open_foreigns))]) (hl : lv_has ls 6 [(0, .ref a_this), (1, .int v1), (2, .int v2)]) : W p l e rm_X0_putElement s m args below meth c H locs 0 0 (ms_Q G A below args s [ob_X0 a_this a_source a_tree a_open, ob_X7 a_tree a_tree_codes a_tree_begins a_tree_ends o.1 a_tree_characters a_tree_attributeLetters a_tree_valueBegins a_tree_valueEnds x_tree_attributeCount a_tree_values, (a_tree_codes, .inl (G.2.1 1, 200, .inl o.2.1)), (a_tree_begins, .inl (G.2.1 1, 200, .inl o.2.2.1)), (a_tree_ends, .inl (G.2.1 1, 200, .inl o.2.2.2.1)), ob_X2 a_open a_open_names a_open_foreigns o.2.2.2.2.1, (a_open_names, .inl (G.2.1 1, 8, .inl o.2.2.2.2.2.1)), (a_open_foreigns, .inl (G.2.1 3, 8, .inl o.2.2.2.2.2.2.1))] (some (.int o.2.2.2.2.2.2.2))) (F0 m 44 ls [.int z0]) := by
  have hx := hX.1.1
  have hb := hX.1.2.1
  unfold f_X0_putElement_L44 at h
  refine lv_istore_n (lv' := [(3, .int z0), (0, .ref a_this), (1, .int v1), (2, .int v2)]) hx hb dX0_putElement_44 rfl hl (by decide) rfl (fun ls hl => ?_)
  refine lv_iload_n hx hb dX0_putElement_45 rfl (lv_at hl 0 rfl) ?_
  refine lv_if_eq (tgt := 61) hx hb dX0_putElement_46 (by decide) (fun k => ?_) (fun k => ?_)
  · have h := ms_ifp h k
    exact wb_X0_putElement_L61 hX h hW (lv_sub hl [1, 2, 3, 0] rfl)
  · have h := ms_ifn h k
    refine lv_aload_n hx hb dX0_putElement_49 rfl (lv_at hl 1 rfl) ?_
    refine ms_get ff_X0_22 hX hW 0 rfl rfl dX0_putElement_50 ?_
    obtain ⟨q53, hq53, h⟩ := ms_bd h
    refine ms_callV (fn_X2_isFull l G a_open a_open_names a_open_foreigns x_open_count hq53) wm_X2_isFull wv_X0_76 hX hW [5] rfl rfl rfl rfl rfl ⟨Nat.le_of_ble_eq_true rfl, Nat.le_of_ble_eq_true rfl, rfl, rfl, Nat.zero_le _, Nat.zero_le _⟩ rfl hl.1 [] rfl (Nat.le_of_ble_eq_true rfl) dX0_putElement_53 (fun H locs hW => ?_)
    have hW : ms_W G A s H locs [ob_X0 a_this a_source a_tree a_open, ob_X7 a_tree a_tree_codes a_tree_begins a_tree_ends x_tree_count a_tree_characters a_tree_attributeLetters a_tree_valueBegins a_tree_valueEnds x_tree_attributeCount a_tree_values, (a_tree_codes, .inl (G.2.1 1, 200, .inl x_tree_codes)), (a_tree_begins, .inl (G.2.1 1, 200, .inl x_tree_begins)), (a_tree_ends, .inl (G.2.1 1, 200, .inl x_tree_ends)), ob_X2 a_open a_open_names a_open_foreigns x_open_count, (a_open_names, .inl (G.2.1 1, 8, .inl x_open_names)), (a_open_foreigns, .inl (G.2.1 3, 8, .inl x_open_foreigns))] := hW
    refine W.eq (g2 := F0 m 56 ls [.int q53]) rfl ?_
    refine lv_if_eq (tgt := 61) hx hb dX0_putElement_56 (by decide) (fun k => ?_) (fun k => ?_)
    · have h := ms_ifp h k
      exact wb_X0_putElement_L61 hX h hW (lv_sub hl [1, 2, 3, 0] rfl)
    · have h := ms_ifn h k
      refine lv_iconst (v := (-1)) hx hb dX0_putElement_59 (by decide) ?_
      obtain rfl := Option.some.inj h
      exact ms_iret hX hW dX0_putElement_60
def f_X0_putElement_L39 (x_tree_attributeCount : Int32) (v1 : Int32) (x_tree_count : Int32) (x_tree_codes : Nat → Int32) (x_tree_begins : Nat → Int32) (x_tree_ends : Nat → Int32) (x_open_count : Int32) (x_open_names : Nat → Int32) (x_open_foreigns : Nat → Int32) (v2 : Int32) : Option (Int32 × (Nat → Int32) × (Nat → Int32) × (Nat → Int32) × Int32 × (Nat → Int32) × (Nat → Int32) × Int32) := f_X0_putElement_L44 x_tree_attributeCount v1 x_tree_count x_tree_codes x_tree_begins x_tree_ends x_open_count x_open_names x_open_foreigns v2 1
set_option maxHeartbeats 4000000 in
set_option maxRecDepth 100000 in
theorem wb_X0_putElement_L39 {p : Program} {l : Launch} {e : Env} {s : State} {m : MethodId} {args : Array Value} {below : List Frame} {meth : Method} {c : Code} {G : Gc} {A : Nat → Prop} {H : Heap} {locs : List Loc} {ls : Array Slot} {a_this : Nat} {a_source : Nat} {a_tree : Nat} {a_open : Nat} {a_tree_codes : Nat} {a_tree_begins : Nat} {a_tree_ends : Nat} {a_tree_characters : Nat} {a_tree_attributeLetters : Nat} {a_tree_valueBegins : Nat} {a_tree_valueEnds : Nat} {a_tree_values : Nat} {a_open_names : Nat} {a_open_foreigns : Nat} {x_tree_attributeCount : Int32} {v1 : Int32} {x_tree_count : Int32} {x_tree_codes : Nat → Int32} {x_tree_begins : Nat → Int32} {x_tree_ends : Nat → Int32} {x_open_count : Int32} {x_open_names : Nat → Int32} {x_open_foreigns : Nat → Int32} {v2 : Int32} {o : Int32 × (Nat → Int32) × (Nat → Int32) × (Nat → Int32) × Int32 × (Nat → Int32) × (Nat → Int32) × Int32} (hX : ms_CX p s m args meth c cX0_putElement 6 RX0 (some .int) G A)   (h : f_X0_putElement_L39 x_tree_attributeCount v1 x_tree_count x_tree_codes x_tree_begins x_tree_ends x_open_count x_open_names x_open_foreigns v2 = some o) (hW : ms_W G A s H locs [ob_X0 a_this a_source a_tree a_open, ob_X7 a_tree a_tree_codes a_tree_begins a_tree_ends x_tree_count a_tree_characters a_tree_attributeLetters a_tree_valueBegins a_tree_valueEnds x_tree_attributeCount a_tree_values, (a_tree_codes, .inl (G.2.1 1, 200, .inl x_tree_codes)), (a_tree_begins, .inl (G.2.1 1, 200, .inl x_tree_begins)), (a_tree_ends, .inl (G.2.1 1, 200, .inl x_tree_ends)), ob_X2 a_open a_open_names a_open_foreigns x_open_count, (a_open_names, .inl (G.2.1 1, 8, .inl x_open_names)), (a_open_foreigns, .inl (G.2.1 3, 8, .inl x_open_foreigns))]) (hl : lv_has ls 6 [(0, .ref a_this), (1, .int v1), (2, .int v2)]) : W p l e rm_X0_putElement s m args below meth c H locs 0 0 (ms_Q G A below args s [ob_X0 a_this a_source a_tree a_open, ob_X7 a_tree a_tree_codes a_tree_begins a_tree_ends o.1 a_tree_characters a_tree_attributeLetters a_tree_valueBegins a_tree_valueEnds x_tree_attributeCount a_tree_values, (a_tree_codes, .inl (G.2.1 1, 200, .inl o.2.1)), (a_tree_begins, .inl (G.2.1 1, 200, .inl o.2.2.1)), (a_tree_ends, .inl (G.2.1 1, 200, .inl o.2.2.2.1)), ob_X2 a_open a_open_names a_open_foreigns o.2.2.2.2.1, (a_open_names, .inl (G.2.1 1, 8, .inl o.2.2.2.2.2.1)), (a_open_foreigns, .inl (G.2.1 3, 8, .inl o.2.2.2.2.2.2.1))] (some (.int o.2.2.2.2.2.2.2))) (F0 m 39 ls []) := by
  have hx := hX.1.1
  have hb := hX.1.2.1
  unfold f_X0_putElement_L39 at h
  refine lv_iconst (v := 1) hx hb dX0_putElement_39 (by decide) ?_
  refine lv_goto (tgt := 44) hx hb dX0_putElement_40 (by decide) ?_
  exact wb_X0_putElement_L44 hX h hW (lv_sub hl [0, 1, 2] rfl)
def f_X0_putElement_L28 (x_tree_attributeCount : Int32) (v1 : Int32) (x_tree_count : Int32) (x_tree_codes : Nat → Int32) (x_tree_begins : Nat → Int32) (x_tree_ends : Nat → Int32) (x_open_count : Int32) (x_open_names : Nat → Int32) (x_open_foreigns : Nat → Int32) (v2 : Int32) : Option (Int32 × (Nat → Int32) × (Nat → Int32) × (Nat → Int32) × Int32 × (Nat → Int32) × (Nat → Int32) × Int32) := (if v2 = 0 then (f_X9_isEmptyName v1).bind (fun q33 => (if q33 = 0 then f_X0_putElement_L39 x_tree_attributeCount v1 x_tree_count x_tree_codes x_tree_begins x_tree_ends x_open_count x_open_names x_open_foreigns v2 else f_X0_putElement_L44 x_tree_attributeCount v1 x_tree_count x_tree_codes x_tree_begins x_tree_ends x_open_count x_open_names x_open_foreigns v2 0)) else f_X0_putElement_L39 x_tree_attributeCount v1 x_tree_count x_tree_codes x_tree_begins x_tree_ends x_open_count x_open_names x_open_foreigns v2)
set_option maxHeartbeats 4000000 in
set_option maxRecDepth 100000 in
theorem wb_X0_putElement_L28 {p : Program} {l : Launch} {e : Env} {s : State} {m : MethodId} {args : Array Value} {below : List Frame} {meth : Method} {c : Code} {G : Gc} {A : Nat → Prop} {H : Heap} {locs : List Loc} {ls : Array Slot} {a_this : Nat} {a_source : Nat} {a_tree : Nat} {a_open : Nat} {a_tree_codes : Nat} {a_tree_begins : Nat} {a_tree_ends : Nat} {a_tree_characters : Nat} {a_tree_attributeLetters : Nat} {a_tree_valueBegins : Nat} {a_tree_valueEnds : Nat} {a_tree_values : Nat} {a_open_names : Nat} {a_open_foreigns : Nat} {x_tree_attributeCount : Int32} {v1 : Int32} {x_tree_count : Int32} {x_tree_codes : Nat → Int32} {x_tree_begins : Nat → Int32} {x_tree_ends : Nat → Int32} {x_open_count : Int32} {x_open_names : Nat → Int32} {x_open_foreigns : Nat → Int32} {v2 : Int32} {o : Int32 × (Nat → Int32) × (Nat → Int32) × (Nat → Int32) × Int32 × (Nat → Int32) × (Nat → Int32) × Int32} (hX : ms_CX p s m args meth c cX0_putElement 6 RX0 (some .int) G A)   (h : f_X0_putElement_L28 x_tree_attributeCount v1 x_tree_count x_tree_codes x_tree_begins x_tree_ends x_open_count x_open_names x_open_foreigns v2 = some o) (hW : ms_W G A s H locs [ob_X0 a_this a_source a_tree a_open, ob_X7 a_tree a_tree_codes a_tree_begins a_tree_ends x_tree_count a_tree_characters a_tree_attributeLetters a_tree_valueBegins a_tree_valueEnds x_tree_attributeCount a_tree_values, (a_tree_codes, .inl (G.2.1 1, 200, .inl x_tree_codes)), (a_tree_begins, .inl (G.2.1 1, 200, .inl x_tree_begins)), (a_tree_ends, .inl (G.2.1 1, 200, .inl x_tree_ends)), ob_X2 a_open a_open_names a_open_foreigns x_open_count, (a_open_names, .inl (G.2.1 1, 8, .inl x_open_names)), (a_open_foreigns, .inl (G.2.1 3, 8, .inl x_open_foreigns))]) (hl : lv_has ls 6 [(0, .ref a_this), (1, .int v1), (2, .int v2)]) : W p l e rm_X0_putElement s m args below meth c H locs 0 0 (ms_Q G A below args s [ob_X0 a_this a_source a_tree a_open, ob_X7 a_tree a_tree_codes a_tree_begins a_tree_ends o.1 a_tree_characters a_tree_attributeLetters a_tree_valueBegins a_tree_valueEnds x_tree_attributeCount a_tree_values, (a_tree_codes, .inl (G.2.1 1, 200, .inl o.2.1)), (a_tree_begins, .inl (G.2.1 1, 200, .inl o.2.2.1)), (a_tree_ends, .inl (G.2.1 1, 200, .inl o.2.2.2.1)), ob_X2 a_open a_open_names a_open_foreigns o.2.2.2.2.1, (a_open_names, .inl (G.2.1 1, 8, .inl o.2.2.2.2.2.1)), (a_open_foreigns, .inl (G.2.1 3, 8, .inl o.2.2.2.2.2.2.1))] (some (.int o.2.2.2.2.2.2.2))) (F0 m 28 ls []) := by
  have hx := hX.1.1
  have hb := hX.1.2.1
  unfold f_X0_putElement_L28 at h
  refine lv_iload_n hx hb dX0_putElement_28 rfl (lv_at hl 2 rfl) ?_
  refine lv_if_ne (tgt := 39) hx hb dX0_putElement_29 (by decide) (fun k => ?_) (fun k => ?_)
  · have h := ms_ifn h k
    exact wb_X0_putElement_L39 hX h hW (lv_sub hl [0, 1, 2] rfl)
  · have h := ms_ifp h k
    refine lv_iload_n hx hb dX0_putElement_32 rfl (lv_at hl 1 rfl) ?_
    obtain ⟨q33, hq33, h⟩ := ms_bd h
    refine ms_callN (host := RX9) (fn_X9_isEmptyName l G v1 hq33) wm_X9_isEmptyName (List.mem_of_getElem? (i := 7) rfl) wt_X9_isEmptyName hX hW [] rfl rfl rfl ⟨Nat.le_of_ble_eq_true rfl, Nat.le_of_ble_eq_true rfl, rfl, rfl, Nat.zero_le _, Nat.zero_le _⟩ rfl hl.1 [] rfl (Nat.le_of_ble_eq_true rfl) dX0_putElement_33 (fun H locs hW => ?_)
    have hW : ms_W G A s H locs [ob_X0 a_this a_source a_tree a_open, ob_X7 a_tree a_tree_codes a_tree_begins a_tree_ends x_tree_count a_tree_characters a_tree_attributeLetters a_tree_valueBegins a_tree_valueEnds x_tree_attributeCount a_tree_values, (a_tree_codes, .inl (G.2.1 1, 200, .inl x_tree_codes)), (a_tree_begins, .inl (G.2.1 1, 200, .inl x_tree_begins)), (a_tree_ends, .inl (G.2.1 1, 200, .inl x_tree_ends)), ob_X2 a_open a_open_names a_open_foreigns x_open_count, (a_open_names, .inl (G.2.1 1, 8, .inl x_open_names)), (a_open_foreigns, .inl (G.2.1 3, 8, .inl x_open_foreigns))] := hW
    refine W.eq (g2 := F0 m 36 ls [.int q33]) rfl ?_
    refine lv_if_ne (tgt := 43) hx hb dX0_putElement_36 (by decide) (fun k => ?_) (fun k => ?_)
    · have h := ms_ifn h k
      refine lv_iconst (v := 0) hx hb dX0_putElement_43 (by decide) ?_
      exact wb_X0_putElement_L44 hX h hW (lv_sub hl [0, 1, 2] rfl)
    · have h := ms_ifp h k
      exact wb_X0_putElement_L39 hX h hW (lv_sub hl [0, 1, 2] rfl)
def f_X0_putElement_L11 (x_tree_attributeCount : Int32) (v1 : Int32) (x_tree_count : Int32) (x_tree_codes : Nat → Int32) (x_tree_begins : Nat → Int32) (x_tree_ends : Nat → Int32) (x_open_count : Int32) (x_open_names : Nat → Int32) (x_open_foreigns : Nat → Int32) : Option (Int32 × (Nat → Int32) × (Nat → Int32) × (Nat → Int32) × Int32 × (Nat → Int32) × (Nat → Int32) × Int32) := (f_X2_isAlien x_open_count x_open_names x_open_foreigns).bind (fun q15 => (if q15 = 0 then (f_X0_closeBefore x_open_count x_open_names x_open_foreigns v1).bind (fun q25 => f_X0_putElement_L28 x_tree_attributeCount v1 x_tree_count x_tree_codes x_tree_begins x_tree_ends q25 x_open_names x_open_foreigns q15) else f_X0_putElement_L28 x_tree_attributeCount v1 x_tree_count x_tree_codes x_tree_begins x_tree_ends x_open_count x_open_names x_open_foreigns q15))
set_option maxHeartbeats 4000000 in
set_option maxRecDepth 100000 in
theorem wb_X0_putElement_L11 {p : Program} {l : Launch} {e : Env} {s : State} {m : MethodId} {args : Array Value} {below : List Frame} {meth : Method} {c : Code} {G : Gc} {A : Nat → Prop} {H : Heap} {locs : List Loc} {ls : Array Slot} {a_this : Nat} {a_source : Nat} {a_tree : Nat} {a_open : Nat} {a_tree_codes : Nat} {a_tree_begins : Nat} {a_tree_ends : Nat} {a_tree_characters : Nat} {a_tree_attributeLetters : Nat} {a_tree_valueBegins : Nat} {a_tree_valueEnds : Nat} {a_tree_values : Nat} {a_open_names : Nat} {a_open_foreigns : Nat} {x_tree_attributeCount : Int32} {v1 : Int32} {x_tree_count : Int32} {x_tree_codes : Nat → Int32} {x_tree_begins : Nat → Int32} {x_tree_ends : Nat → Int32} {x_open_count : Int32} {x_open_names : Nat → Int32} {x_open_foreigns : Nat → Int32} {o : Int32 × (Nat → Int32) × (Nat → Int32) × (Nat → Int32) × Int32 × (Nat → Int32) × (Nat → Int32) × Int32} (hX : ms_CX p s m args meth c cX0_putElement 6 RX0 (some .int) G A)   (h : f_X0_putElement_L11 x_tree_attributeCount v1 x_tree_count x_tree_codes x_tree_begins x_tree_ends x_open_count x_open_names x_open_foreigns = some o) (hW : ms_W G A s H locs [ob_X0 a_this a_source a_tree a_open, ob_X7 a_tree a_tree_codes a_tree_begins a_tree_ends x_tree_count a_tree_characters a_tree_attributeLetters a_tree_valueBegins a_tree_valueEnds x_tree_attributeCount a_tree_values, (a_tree_codes, .inl (G.2.1 1, 200, .inl x_tree_codes)), (a_tree_begins, .inl (G.2.1 1, 200, .inl x_tree_begins)), (a_tree_ends, .inl (G.2.1 1, 200, .inl x_tree_ends)), ob_X2 a_open a_open_names a_open_foreigns x_open_count, (a_open_names, .inl (G.2.1 1, 8, .inl x_open_names)), (a_open_foreigns, .inl (G.2.1 3, 8, .inl x_open_foreigns))]) (hl : lv_has ls 6 [(0, .ref a_this), (1, .int v1)]) : W p l e rm_X0_putElement s m args below meth c H locs 0 0 (ms_Q G A below args s [ob_X0 a_this a_source a_tree a_open, ob_X7 a_tree a_tree_codes a_tree_begins a_tree_ends o.1 a_tree_characters a_tree_attributeLetters a_tree_valueBegins a_tree_valueEnds x_tree_attributeCount a_tree_values, (a_tree_codes, .inl (G.2.1 1, 200, .inl o.2.1)), (a_tree_begins, .inl (G.2.1 1, 200, .inl o.2.2.1)), (a_tree_ends, .inl (G.2.1 1, 200, .inl o.2.2.2.1)), ob_X2 a_open a_open_names a_open_foreigns o.2.2.2.2.1, (a_open_names, .inl (G.2.1 1, 8, .inl o.2.2.2.2.2.1)), (a_open_foreigns, .inl (G.2.1 3, 8, .inl o.2.2.2.2.2.2.1))] (some (.int o.2.2.2.2.2.2.2))) (F0 m 11 ls []) := by
  have hx := hX.1.1
  have hb := hX.1.2.1
  unfold f_X0_putElement_L11 at h
  refine lv_aload_n hx hb dX0_putElement_11 rfl (lv_at hl 0 rfl) ?_
  refine ms_get ff_X0_22 hX hW 0 rfl rfl dX0_putElement_12 ?_
  obtain ⟨q15, hq15, h⟩ := ms_bd h
  refine ms_callV (fn_X2_isAlien l G a_open a_open_names a_open_foreigns x_open_count x_open_names x_open_foreigns hq15) wm_X2_isAlien wv_X0_60 hX hW [5, 6, 7] rfl rfl rfl rfl rfl ⟨Nat.le_of_ble_eq_true rfl, Nat.le_of_ble_eq_true rfl, rfl, rfl, Nat.zero_le _, Nat.zero_le _⟩ rfl hl.1 [] rfl (Nat.le_of_ble_eq_true rfl) dX0_putElement_15 (fun H locs hW => ?_)
  have hW : ms_W G A s H locs [ob_X0 a_this a_source a_tree a_open, ob_X7 a_tree a_tree_codes a_tree_begins a_tree_ends x_tree_count a_tree_characters a_tree_attributeLetters a_tree_valueBegins a_tree_valueEnds x_tree_attributeCount a_tree_values, (a_tree_codes, .inl (G.2.1 1, 200, .inl x_tree_codes)), (a_tree_begins, .inl (G.2.1 1, 200, .inl x_tree_begins)), (a_tree_ends, .inl (G.2.1 1, 200, .inl x_tree_ends)), ob_X2 a_open a_open_names a_open_foreigns x_open_count, (a_open_names, .inl (G.2.1 1, 8, .inl x_open_names)), (a_open_foreigns, .inl (G.2.1 3, 8, .inl x_open_foreigns))] := hW
  refine W.eq (g2 := F0 m 18 ls [.int q15]) rfl ?_
  refine lv_istore_n (lv' := [(2, .int q15), (0, .ref a_this), (1, .int v1)]) hx hb dX0_putElement_18 rfl hl (by decide) rfl (fun ls hl => ?_)
  refine lv_iload_n hx hb dX0_putElement_19 rfl (lv_at hl 0 rfl) ?_
  refine lv_if_ne (tgt := 28) hx hb dX0_putElement_20 (by decide) (fun k => ?_) (fun k => ?_)
  · have h := ms_ifn h k
    exact wb_X0_putElement_L28 hX h hW (lv_sub hl [1, 2, 0] rfl)
  · have h := ms_ifp h k
    refine lv_aload_n hx hb dX0_putElement_23 rfl (lv_at hl 1 rfl) ?_
    refine lv_iload_n hx hb dX0_putElement_24 rfl (lv_at hl 2 rfl) ?_
    obtain ⟨q25, hq25, h⟩ := ms_bd h
    refine ms_callV (fn_X0_closeBefore l G a_this a_source a_tree a_open a_open_names a_open_foreigns x_open_count x_open_names x_open_foreigns v1 hq25) wm_X0_closeBefore wv_X0_70 hX hW [0, 5, 6, 7] rfl rfl rfl rfl rfl ⟨Nat.le_of_ble_eq_true rfl, Nat.le_of_ble_eq_true rfl, rfl, rfl, Nat.zero_le _, Nat.zero_le _⟩ rfl hl.1 [] rfl (Nat.le_of_ble_eq_true rfl) dX0_putElement_25 (fun H locs hW => ?_)
    have hW : ms_W G A s H locs [ob_X0 a_this a_source a_tree a_open, ob_X7 a_tree a_tree_codes a_tree_begins a_tree_ends x_tree_count a_tree_characters a_tree_attributeLetters a_tree_valueBegins a_tree_valueEnds x_tree_attributeCount a_tree_values, (a_tree_codes, .inl (G.2.1 1, 200, .inl x_tree_codes)), (a_tree_begins, .inl (G.2.1 1, 200, .inl x_tree_begins)), (a_tree_ends, .inl (G.2.1 1, 200, .inl x_tree_ends)), ob_X2 a_open a_open_names a_open_foreigns q25, (a_open_names, .inl (G.2.1 1, 8, .inl x_open_names)), (a_open_foreigns, .inl (G.2.1 3, 8, .inl x_open_foreigns))] := hW
    refine W.eq (g2 := F0 m 28 ls []) rfl ?_
    exact wb_X0_putElement_L28 hX h hW (lv_sub hl [1, 2, 0] rfl)
def f_X0_putElement (x_tree_count : Int32) (x_tree_attributeCount : Int32) (x_tree_codes : Nat → Int32) (x_tree_begins : Nat → Int32) (x_tree_ends : Nat → Int32) (x_open_count : Int32) (x_open_names : Nat → Int32) (x_open_foreigns : Nat → Int32) (v1 : Int32) : Option (Int32 × (Nat → Int32) × (Nat → Int32) × (Nat → Int32) × Int32 × (Nat → Int32) × (Nat → Int32) × Int32) := (f_X9_isBlock v1).bind (fun q1 => (if q1 = 0 then f_X0_putElement_L11 x_tree_attributeCount v1 x_tree_count x_tree_codes x_tree_begins x_tree_ends x_open_count x_open_names x_open_foreigns else (f_X0_leaveAliens x_open_count x_open_names x_open_foreigns).bind (fun q8 => f_X0_putElement_L11 x_tree_attributeCount v1 x_tree_count x_tree_codes x_tree_begins x_tree_ends q8 x_open_names x_open_foreigns)))
set_option maxHeartbeats 4000000 in
set_option maxRecDepth 100000 in
theorem fn_X0_putElement (l : Launch) (G : Gc) (a_this : Nat) (a_source : Nat) (a_tree : Nat) (a_open : Nat) (a_tree_codes : Nat) (a_tree_begins : Nat) (a_tree_ends : Nat) (a_tree_characters : Nat) (a_tree_attributeLetters : Nat) (a_tree_valueBegins : Nat) (a_tree_valueEnds : Nat) (a_tree_values : Nat) (a_open_names : Nat) (a_open_foreigns : Nat) (x_tree_count : Int32) (x_tree_attributeCount : Int32) (x_tree_codes : Nat → Int32) (x_tree_begins : Nat → Int32) (x_tree_ends : Nat → Int32) (x_open_count : Int32) (x_open_names : Nat → Int32) (x_open_foreigns : Nat → Int32) (v1 : Int32)  {o : Int32 × (Nat → Int32) × (Nat → Int32) × (Nat → Int32) × Int32 × (Nat → Int32) × (Nat → Int32) × Int32} (h : f_X0_putElement x_tree_count x_tree_attributeCount x_tree_codes x_tree_begins x_tree_ends x_open_count x_open_names x_open_foreigns v1 = some o) : ms_Fn l G yX0_putElement cX0_putElement 6 (some .int) rm_X0_putElement [.ref a_this, .int v1] [ob_X0 a_this a_source a_tree a_open, ob_X7 a_tree a_tree_codes a_tree_begins a_tree_ends x_tree_count a_tree_characters a_tree_attributeLetters a_tree_valueBegins a_tree_valueEnds x_tree_attributeCount a_tree_values, (a_tree_codes, .inl (G.2.1 1, 200, .inl x_tree_codes)), (a_tree_begins, .inl (G.2.1 1, 200, .inl x_tree_begins)), (a_tree_ends, .inl (G.2.1 1, 200, .inl x_tree_ends)), ob_X2 a_open a_open_names a_open_foreigns x_open_count, (a_open_names, .inl (G.2.1 1, 8, .inl x_open_names)), (a_open_foreigns, .inl (G.2.1 3, 8, .inl x_open_foreigns))] [ob_X0 a_this a_source a_tree a_open, ob_X7 a_tree a_tree_codes a_tree_begins a_tree_ends o.1 a_tree_characters a_tree_attributeLetters a_tree_valueBegins a_tree_valueEnds x_tree_attributeCount a_tree_values, (a_tree_codes, .inl (G.2.1 1, 200, .inl o.2.1)), (a_tree_begins, .inl (G.2.1 1, 200, .inl o.2.2.1)), (a_tree_ends, .inl (G.2.1 1, 200, .inl o.2.2.2.1)), ob_X2 a_open a_open_names a_open_foreigns o.2.2.2.2.1, (a_open_names, .inl (G.2.1 1, 8, .inl o.2.2.2.2.2.1)), (a_open_foreigns, .inl (G.2.1 3, 8, .inl o.2.2.2.2.2.2.1))] (some (.int o.2.2.2.2.2.2.2)) := by
  refine ms_start RX0 (by decide +kernel) rfl (Nat.le_of_ble_eq_true rfl) (fun p e s m below meth c A ls hX hW hl => ?_)
  have hx := hX.1.1
  have hb := hX.1.2.1
  have hl : lv_has ls 6 [(0, .ref a_this), (1, .int v1)] := hl
  unfold f_X0_putElement at h
  refine lv_iload_n hx hb dX0_putElement_0 rfl (lv_at hl 1 rfl) ?_
  obtain ⟨q1, hq1, h⟩ := ms_bd h
  refine ms_callN (host := RX9) (fn_X9_isBlock l G v1 hq1) wm_X9_isBlock (List.mem_of_getElem? (i := 6) rfl) wt_X9_isBlock hX hW [] rfl rfl rfl ⟨Nat.le_of_ble_eq_true rfl, Nat.le_of_ble_eq_true rfl, rfl, rfl, Nat.zero_le _, Nat.zero_le _⟩ rfl hl.1 [] rfl (Nat.le_of_ble_eq_true rfl) dX0_putElement_1 (fun H locs hW => ?_)
  have hW : ms_W G A s H locs [ob_X0 a_this a_source a_tree a_open, ob_X7 a_tree a_tree_codes a_tree_begins a_tree_ends x_tree_count a_tree_characters a_tree_attributeLetters a_tree_valueBegins a_tree_valueEnds x_tree_attributeCount a_tree_values, (a_tree_codes, .inl (G.2.1 1, 200, .inl x_tree_codes)), (a_tree_begins, .inl (G.2.1 1, 200, .inl x_tree_begins)), (a_tree_ends, .inl (G.2.1 1, 200, .inl x_tree_ends)), ob_X2 a_open a_open_names a_open_foreigns x_open_count, (a_open_names, .inl (G.2.1 1, 8, .inl x_open_names)), (a_open_foreigns, .inl (G.2.1 3, 8, .inl x_open_foreigns))] := hW
  refine W.eq (g2 := F0 m 4 ls [.int q1]) rfl ?_
  refine lv_if_eq (tgt := 11) hx hb dX0_putElement_4 (by decide) (fun k => ?_) (fun k => ?_)
  · have h := ms_ifp h k
    exact wb_X0_putElement_L11 hX h hW (lv_sub hl [0, 1] rfl)
  · have h := ms_ifn h k
    refine lv_aload_n hx hb dX0_putElement_7 rfl (lv_at hl 0 rfl) ?_
    obtain ⟨q8, hq8, h⟩ := ms_bd h
    refine ms_callV (fn_X0_leaveAliens l G a_this a_source a_tree a_open a_open_names a_open_foreigns x_open_count x_open_names x_open_foreigns hq8) wm_X0_leaveAliens wv_X0_67 hX hW [0, 5, 6, 7] rfl rfl rfl rfl rfl ⟨Nat.le_of_ble_eq_true rfl, Nat.le_of_ble_eq_true rfl, rfl, rfl, Nat.zero_le _, Nat.zero_le _⟩ rfl hl.1 [] rfl (Nat.le_of_ble_eq_true rfl) dX0_putElement_8 (fun H locs hW => ?_)
    have hW : ms_W G A s H locs [ob_X0 a_this a_source a_tree a_open, ob_X7 a_tree a_tree_codes a_tree_begins a_tree_ends x_tree_count a_tree_characters a_tree_attributeLetters a_tree_valueBegins a_tree_valueEnds x_tree_attributeCount a_tree_values, (a_tree_codes, .inl (G.2.1 1, 200, .inl x_tree_codes)), (a_tree_begins, .inl (G.2.1 1, 200, .inl x_tree_begins)), (a_tree_ends, .inl (G.2.1 1, 200, .inl x_tree_ends)), ob_X2 a_open a_open_names a_open_foreigns q8, (a_open_names, .inl (G.2.1 1, 8, .inl x_open_names)), (a_open_foreigns, .inl (G.2.1 3, 8, .inl x_open_foreigns))] := hW
    refine W.eq (g2 := F0 m 11 ls []) rfl ?_
    exact wb_X0_putElement_L11 hX h hW (lv_sub hl [0, 1] rfl)
def rm_X9_isLetterNumber : Room := { frames := 0, cells := 0, slots := 0, locals := 0 }
def f_X9_isLetterNumber  (v0 : Int32) : Option (Int32) := (if v0 < 0 then some 0 else (if 26 ≤ v0 then some 0 else some 1))
set_option maxHeartbeats 4000000 in
set_option maxRecDepth 100000 in
theorem fn_X9_isLetterNumber (l : Launch) (G : Gc)   (v0 : Int32)  {o : Int32} (h : f_X9_isLetterNumber v0 = some o) : ms_Fn l G yX9_isLetterNumber cX9_isLetterNumber 1 (some .boolean) rm_X9_isLetterNumber [.int v0] [] [] (some (.int o)) := by
  refine ms_start RX9 (by decide +kernel) rfl (Nat.le_of_ble_eq_true rfl) (fun p e s m below meth c A ls hX hW hl => ?_)
  have hx := hX.1.1
  have hb := hX.1.2.1
  have hl : lv_has ls 1 [(0, .int v0)] := hl
  unfold f_X9_isLetterNumber at h
  refine lv_iload_n hx hb dX9_isLetterNumber_0 rfl (lv_at hl 0 rfl) ?_
  refine lv_if_lt (tgt := 14) hx hb dX9_isLetterNumber_1 (by decide) (fun k => ?_) (fun k => ?_)
  · have h := ms_ifp h k
    refine lv_iconst (v := 0) hx hb dX9_isLetterNumber_14 (by decide) ?_
    obtain rfl := Option.some.inj h
    exact ms_zret hX (ms_nz (Or.inl rfl)) hW dX9_isLetterNumber_15
  · have h := ms_ifn h k
    refine lv_iload_n hx hb dX9_isLetterNumber_4 rfl (lv_at hl 0 rfl) ?_
    refine lv_bipush (v := 26) hx hb dX9_isLetterNumber_5 (by decide) ?_
    refine lv_icmp_ge (tgt := 14) hx hb dX9_isLetterNumber_7 (by decide) (fun k => ?_) (fun k => ?_)
    · have h := ms_ifp h k
      refine lv_iconst (v := 0) hx hb dX9_isLetterNumber_14 (by decide) ?_
      obtain rfl := Option.some.inj h
      exact ms_zret hX (ms_nz (Or.inl rfl)) hW dX9_isLetterNumber_15
    · have h := ms_ifn h k
      refine lv_iconst (v := 1) hx hb dX9_isLetterNumber_10 (by decide) ?_
      refine lv_goto (tgt := 15) hx hb dX9_isLetterNumber_11 (by decide) ?_
      obtain rfl := Option.some.inj h
      exact ms_zret hX (ms_nz (Or.inr rfl)) hW dX9_isLetterNumber_15
def rm_X6_hasAttribute : Room := { frames := 1, cells := 0, slots := 0, locals := 20 }
def f_X6_hasAttribute (x_had : Int32) (v1 : Int32) : Option (Int32) := (f_X9_isLetterNumber v1).bind (fun q1 => (if q1 = 0 then some 0 else (if ((x_had >>> (v1 &&& 31)) &&& (1 : Int32)) = 0 then some 0 else some 1)))
set_option maxHeartbeats 4000000 in
set_option maxRecDepth 100000 in
theorem fn_X6_hasAttribute (l : Launch) (G : Gc) (a_this : Nat) (a_begins : Nat) (a_ends : Nat) (x_had : Int32) (x_name : Int32) (x_ending : Int32) (v1 : Int32)  {o : Int32} (h : f_X6_hasAttribute x_had v1 = some o) : ms_Fn l G yX6_hasAttribute cX6_hasAttribute 2 (some .boolean) rm_X6_hasAttribute [.ref a_this, .int v1] [ob_X6 a_this a_begins a_ends x_had x_name x_ending] [ob_X6 a_this a_begins a_ends x_had x_name x_ending] (some (.int o)) := by
  refine ms_start RX6 (by decide +kernel) rfl (Nat.le_of_ble_eq_true rfl) (fun p e s m below meth c A ls hX hW hl => ?_)
  have hx := hX.1.1
  have hb := hX.1.2.1
  have hl : lv_has ls 2 [(0, .ref a_this), (1, .int v1)] := hl
  unfold f_X6_hasAttribute at h
  refine lv_iload_n hx hb dX6_hasAttribute_0 rfl (lv_at hl 1 rfl) ?_
  obtain ⟨q1, hq1, h⟩ := ms_bd h
  refine ms_callN (host := RX9) (fn_X9_isLetterNumber l G v1 hq1) wm_X9_isLetterNumber (List.mem_of_getElem? (i := 5) rfl) wt_X9_isLetterNumber hX hW [] rfl rfl rfl ⟨Nat.le_of_ble_eq_true rfl, Nat.le_of_ble_eq_true rfl, rfl, rfl, Nat.zero_le _, Nat.zero_le _⟩ rfl hl.1 [] rfl (Nat.le_of_ble_eq_true rfl) dX6_hasAttribute_1 (fun H locs hW => ?_)
  have hW : ms_W G A s H locs [ob_X6 a_this a_begins a_ends x_had x_name x_ending] := hW
  refine W.eq (g2 := F0 m 4 ls [.int q1]) rfl ?_
  refine lv_if_eq (tgt := 22) hx hb dX6_hasAttribute_4 (by decide) (fun k => ?_) (fun k => ?_)
  · have h := ms_ifp h k
    refine lv_iconst (v := 0) hx hb dX6_hasAttribute_22 (by decide) ?_
    obtain rfl := Option.some.inj h
    exact ms_zret hX (ms_nz (Or.inl rfl)) hW dX6_hasAttribute_23
  · have h := ms_ifn h k
    refine lv_aload_n hx hb dX6_hasAttribute_7 rfl (lv_at hl 0 rfl) ?_
    refine ms_get ff_X6_18 hX hW 0 rfl rfl dX6_hasAttribute_8 ?_
    refine lv_iload_n hx hb dX6_hasAttribute_11 rfl (lv_at hl 1 rfl) ?_
    refine lv_ishr hx hb dX6_hasAttribute_12 ?_
    refine lv_iconst (v := 1) hx hb dX6_hasAttribute_13 (by decide) ?_
    refine lv_iand hx hb dX6_hasAttribute_14 ?_
    refine lv_if_eq (tgt := 22) hx hb dX6_hasAttribute_15 (by decide) (fun k => ?_) (fun k => ?_)
    · have h := ms_ifp h k
      refine lv_iconst (v := 0) hx hb dX6_hasAttribute_22 (by decide) ?_
      obtain rfl := Option.some.inj h
      exact ms_zret hX (ms_nz (Or.inl rfl)) hW dX6_hasAttribute_23
    · have h := ms_ifn h k
      refine lv_iconst (v := 1) hx hb dX6_hasAttribute_18 (by decide) ?_
      refine lv_goto (tgt := 23) hx hb dX6_hasAttribute_19 (by decide) ?_
      obtain rfl := Option.some.inj h
      exact ms_zret hX (ms_nz (Or.inr rfl)) hW dX6_hasAttribute_23
def rm_X1_size : Room := { frames := 0, cells := 0, slots := 0, locals := 0 }
def f_X1_size (x_size : Int32)  : Option (Int32) := some x_size
set_option maxHeartbeats 4000000 in
set_option maxRecDepth 100000 in
theorem fn_X1_size (l : Launch) (G : Gc) (a_this : Nat) (a_row : Nat) (x_size : Int32) (x_overflowed : Int32)   {o : Int32} (h : f_X1_size x_size = some o) : ms_Fn l G yX1_size cX1_size 1 (some .int) rm_X1_size [.ref a_this] [ob_X1 a_this a_row x_size x_overflowed] [ob_X1 a_this a_row x_size x_overflowed] (some (.int o)) := by
  refine ms_start RX1 (by decide +kernel) rfl (Nat.le_of_ble_eq_true rfl) (fun p e s m below meth c A ls hX hW hl => ?_)
  have hx := hX.1.1
  have hb := hX.1.2.1
  have hl : lv_has ls 1 [(0, .ref a_this)] := hl
  unfold f_X1_size at h
  refine lv_aload_n hx hb dX1_size_0 rfl (lv_at hl 0 rfl) ?_
  refine ms_get ff_X1_15 hX hW 0 rfl rfl dX1_size_1 ?_
  obtain rfl := Option.some.inj h
  exact ms_iret hX hW dX1_size_4
def rm_X6_beginOf : Room := { frames := 2, cells := 0, slots := 0, locals := 41 }
def f_X6_beginOf (x_had : Int32) (x_begins : Nat → Int32) (v1 : Int32) : Option (Int32) := (f_X6_hasAttribute x_had v1).bind (fun q2 => (if q2 = 0 then some 0 else ms_gi v1 26 (some (x_begins v1.toNatClampNeg))))
set_option maxHeartbeats 4000000 in
set_option maxRecDepth 100000 in
theorem fn_X6_beginOf (l : Launch) (G : Gc) (a_this : Nat) (a_begins : Nat) (a_ends : Nat) (x_had : Int32) (x_name : Int32) (x_ending : Int32) (x_begins : Nat → Int32) (v1 : Int32)  {o : Int32} (h : f_X6_beginOf x_had x_begins v1 = some o) : ms_Fn l G yX6_beginOf cX6_beginOf 2 (some .int) rm_X6_beginOf [.ref a_this, .int v1] [ob_X6 a_this a_begins a_ends x_had x_name x_ending, (a_begins, .inl (G.2.1 1, 26, .inl x_begins))] [ob_X6 a_this a_begins a_ends x_had x_name x_ending, (a_begins, .inl (G.2.1 1, 26, .inl x_begins))] (some (.int o)) := by
  refine ms_start RX6 (by decide +kernel) rfl (Nat.le_of_ble_eq_true rfl) (fun p e s m below meth c A ls hX hW hl => ?_)
  have hx := hX.1.1
  have hb := hX.1.2.1
  have hl : lv_has ls 2 [(0, .ref a_this), (1, .int v1)] := hl
  unfold f_X6_beginOf at h
  refine lv_aload_n hx hb dX6_beginOf_0 rfl (lv_at hl 0 rfl) ?_
  refine lv_iload_n hx hb dX6_beginOf_1 rfl (lv_at hl 1 rfl) ?_
  obtain ⟨q2, hq2, h⟩ := ms_bd h
  refine ms_callV (fn_X6_hasAttribute l G a_this a_begins a_ends x_had x_name x_ending v1 hq2) wm_X6_hasAttribute wv_X6_33 hX hW [0] rfl rfl rfl rfl rfl ⟨Nat.le_of_ble_eq_true rfl, Nat.le_of_ble_eq_true rfl, rfl, rfl, Nat.zero_le _, Nat.zero_le _⟩ rfl hl.1 [] rfl (Nat.le_of_ble_eq_true rfl) dX6_beginOf_2 (fun H locs hW => ?_)
  have hW : ms_W G A s H locs [ob_X6 a_this a_begins a_ends x_had x_name x_ending, (a_begins, .inl (G.2.1 1, 26, .inl x_begins))] := hW
  refine W.eq (g2 := F0 m 5 ls [.int q2]) rfl ?_
  refine lv_if_eq (tgt := 17) hx hb dX6_beginOf_5 (by decide) (fun k => ?_) (fun k => ?_)
  · have h := ms_ifp h k
    refine lv_iconst (v := 0) hx hb dX6_beginOf_17 (by decide) ?_
    obtain rfl := Option.some.inj h
    exact ms_iret hX hW dX6_beginOf_18
  · have h := ms_ifn h k
    refine lv_aload_n hx hb dX6_beginOf_8 rfl (lv_at hl 0 rfl) ?_
    refine ms_get ff_X6_9 hX hW 0 rfl rfl dX6_beginOf_9 ?_
    refine lv_iload_n hx hb dX6_beginOf_12 rfl (lv_at hl 1 rfl) ?_
    obtain ⟨k, h⟩ := ms_gi_some h
    refine ms_iald hX hW 1 rfl k dX6_beginOf_13 ?_
    refine lv_goto (tgt := 18) hx hb dX6_beginOf_14 (by decide) ?_
    obtain rfl := Option.some.inj h
    exact ms_iret hX hW dX6_beginOf_18
def rm_X6_endOf : Room := { frames := 2, cells := 0, slots := 0, locals := 41 }
def f_X6_endOf (x_had : Int32) (x_ends : Nat → Int32) (v1 : Int32) : Option (Int32) := (f_X6_hasAttribute x_had v1).bind (fun q2 => (if q2 = 0 then some 0 else ms_gi v1 26 (some (x_ends v1.toNatClampNeg))))
set_option maxHeartbeats 4000000 in
set_option maxRecDepth 100000 in
theorem fn_X6_endOf (l : Launch) (G : Gc) (a_this : Nat) (a_begins : Nat) (a_ends : Nat) (x_had : Int32) (x_name : Int32) (x_ending : Int32) (x_ends : Nat → Int32) (v1 : Int32)  {o : Int32} (h : f_X6_endOf x_had x_ends v1 = some o) : ms_Fn l G yX6_endOf cX6_endOf 2 (some .int) rm_X6_endOf [.ref a_this, .int v1] [ob_X6 a_this a_begins a_ends x_had x_name x_ending, (a_ends, .inl (G.2.1 1, 26, .inl x_ends))] [ob_X6 a_this a_begins a_ends x_had x_name x_ending, (a_ends, .inl (G.2.1 1, 26, .inl x_ends))] (some (.int o)) := by
  refine ms_start RX6 (by decide +kernel) rfl (Nat.le_of_ble_eq_true rfl) (fun p e s m below meth c A ls hX hW hl => ?_)
  have hx := hX.1.1
  have hb := hX.1.2.1
  have hl : lv_has ls 2 [(0, .ref a_this), (1, .int v1)] := hl
  unfold f_X6_endOf at h
  refine lv_aload_n hx hb dX6_endOf_0 rfl (lv_at hl 0 rfl) ?_
  refine lv_iload_n hx hb dX6_endOf_1 rfl (lv_at hl 1 rfl) ?_
  obtain ⟨q2, hq2, h⟩ := ms_bd h
  refine ms_callV (fn_X6_hasAttribute l G a_this a_begins a_ends x_had x_name x_ending v1 hq2) wm_X6_hasAttribute wv_X6_33 hX hW [0] rfl rfl rfl rfl rfl ⟨Nat.le_of_ble_eq_true rfl, Nat.le_of_ble_eq_true rfl, rfl, rfl, Nat.zero_le _, Nat.zero_le _⟩ rfl hl.1 [] rfl (Nat.le_of_ble_eq_true rfl) dX6_endOf_2 (fun H locs hW => ?_)
  have hW : ms_W G A s H locs [ob_X6 a_this a_begins a_ends x_had x_name x_ending, (a_ends, .inl (G.2.1 1, 26, .inl x_ends))] := hW
  refine W.eq (g2 := F0 m 5 ls [.int q2]) rfl ?_
  refine lv_if_eq (tgt := 17) hx hb dX6_endOf_5 (by decide) (fun k => ?_) (fun k => ?_)
  · have h := ms_ifp h k
    refine lv_iconst (v := 0) hx hb dX6_endOf_17 (by decide) ?_
    obtain rfl := Option.some.inj h
    exact ms_iret hX hW dX6_endOf_18
  · have h := ms_ifn h k
    refine lv_aload_n hx hb dX6_endOf_8 rfl (lv_at hl 0 rfl) ?_
    refine ms_get ff_X6_15 hX hW 0 rfl rfl dX6_endOf_9 ?_
    refine lv_iload_n hx hb dX6_endOf_12 rfl (lv_at hl 1 rfl) ?_
    obtain ⟨k, h⟩ := ms_gi_some h
    refine ms_iald hX hW 1 rfl k dX6_endOf_13 ?_
    refine lv_goto (tgt := 18) hx hb dX6_endOf_14 (by decide) ?_
    obtain rfl := Option.some.inj h
    exact ms_iret hX hW dX6_endOf_18
def rm_X1_at : Room := { frames := 0, cells := 0, slots := 0, locals := 0 }
def f_X1_at (x_size : Int32) (x_row : Nat → Int32) (v1 : Int32) : Option (Int32) := (if v1 < 0 then some 0 else (if x_size ≤ v1 then some 0 else ms_gi v1 200 (ms_gc (x_row v1.toNatClampNeg) (some (x_row v1.toNatClampNeg)))))
set_option maxHeartbeats 4000000 in
set_option maxRecDepth 100000 in
theorem fn_X1_at (l : Launch) (G : Gc) (a_this : Nat) (a_row : Nat) (x_size : Int32) (x_overflowed : Int32) (x_row : Nat → Int32) (v1 : Int32)  {o : Int32} (h : f_X1_at x_size x_row v1 = some o) : ms_Fn l G yX1_at cX1_at 2 (some .char) rm_X1_at [.ref a_this, .int v1] [ob_X1 a_this a_row x_size x_overflowed, (a_row, .inl (G.2.1 0, 200, .inl x_row))] [ob_X1 a_this a_row x_size x_overflowed, (a_row, .inl (G.2.1 0, 200, .inl x_row))] (some (.int o)) := by
  refine ms_start RX1 (by decide +kernel) rfl (Nat.le_of_ble_eq_true rfl) (fun p e s m below meth c A ls hX hW hl => ?_)
  have hx := hX.1.1
  have hb := hX.1.2.1
  have hl : lv_has ls 2 [(0, .ref a_this), (1, .int v1)] := hl
  unfold f_X1_at at h
  refine lv_iload_n hx hb dX1_at_0 rfl (lv_at hl 1 rfl) ?_
  refine lv_if_lt (tgt := 21) hx hb dX1_at_1 (by decide) (fun k => ?_) (fun k => ?_)
  · have h := ms_ifp h k
    refine lv_iconst (v := 0) hx hb dX1_at_21 (by decide) ?_
    obtain rfl := Option.some.inj h
    exact ms_zret hX (by decide) hW dX1_at_22
  · have h := ms_ifn h k
    refine lv_iload_n hx hb dX1_at_4 rfl (lv_at hl 1 rfl) ?_
    refine lv_aload_n hx hb dX1_at_5 rfl (lv_at hl 0 rfl) ?_
    refine ms_get ff_X1_15 hX hW 0 rfl rfl dX1_at_6 ?_
    refine lv_icmp_ge (tgt := 21) hx hb dX1_at_9 (by decide) (fun k => ?_) (fun k => ?_)
    · have h := ms_ifp h k
      refine lv_iconst (v := 0) hx hb dX1_at_21 (by decide) ?_
      obtain rfl := Option.some.inj h
      exact ms_zret hX (by decide) hW dX1_at_22
    · have h := ms_ifn h k
      refine lv_aload_n hx hb dX1_at_12 rfl (lv_at hl 0 rfl) ?_
      refine ms_get ff_X1_9 hX hW 0 rfl rfl dX1_at_13 ?_
      refine lv_iload_n hx hb dX1_at_16 rfl (lv_at hl 1 rfl) ?_
      obtain ⟨k, h⟩ := ms_gi_some h
      refine ms_cald hX hW 1 rfl k dX1_at_17 ?_
      refine lv_goto (tgt := 22) hx hb dX1_at_18 (by decide) ?_
      obtain ⟨k, h⟩ := ms_gc_some h
      obtain rfl := Option.some.inj h
      exact ms_zret hX (ms_nc k) hW dX1_at_22
def rm_X9_isDigit : Room := { frames := 0, cells := 0, slots := 0, locals := 0 }
def f_X9_isDigit  (v0 : Int32) : Option (Int32) := (if v0 < 48 then some 0 else (if 57 < v0 then some 0 else some 1))
set_option maxHeartbeats 4000000 in
set_option maxRecDepth 100000 in
theorem fn_X9_isDigit (l : Launch) (G : Gc)   (v0 : Int32)  {o : Int32} (h : f_X9_isDigit v0 = some o) : ms_Fn l G yX9_isDigit cX9_isDigit 1 (some .boolean) rm_X9_isDigit [.int v0] [] [] (some (.int o)) := by
  refine ms_start RX9 (by decide +kernel) rfl (Nat.le_of_ble_eq_true rfl) (fun p e s m below meth c A ls hX hW hl => ?_)
  have hx := hX.1.1
  have hb := hX.1.2.1
  have hl : lv_has ls 1 [(0, .int v0)] := hl
  unfold f_X9_isDigit at h
  refine lv_iload_n hx hb dX9_isDigit_0 rfl (lv_at hl 0 rfl) ?_
  refine lv_bipush (v := 48) hx hb dX9_isDigit_1 (by decide) ?_
  refine lv_icmp_lt (tgt := 16) hx hb dX9_isDigit_3 (by decide) (fun k => ?_) (fun k => ?_)
  · have h := ms_ifp h k
    refine lv_iconst (v := 0) hx hb dX9_isDigit_16 (by decide) ?_
    obtain rfl := Option.some.inj h
    exact ms_zret hX (ms_nz (Or.inl rfl)) hW dX9_isDigit_17
  · have h := ms_ifn h k
    refine lv_iload_n hx hb dX9_isDigit_6 rfl (lv_at hl 0 rfl) ?_
    refine lv_bipush (v := 57) hx hb dX9_isDigit_7 (by decide) ?_
    refine lv_icmp_gt (tgt := 16) hx hb dX9_isDigit_9 (by decide) (fun k => ?_) (fun k => ?_)
    · have h := ms_ifp h k
      refine lv_iconst (v := 0) hx hb dX9_isDigit_16 (by decide) ?_
      obtain rfl := Option.some.inj h
      exact ms_zret hX (ms_nz (Or.inl rfl)) hW dX9_isDigit_17
    · have h := ms_ifn h k
      refine lv_iconst (v := 1) hx hb dX9_isDigit_12 (by decide) ?_
      refine lv_goto (tgt := 17) hx hb dX9_isDigit_13 (by decide) ?_
      obtain rfl := Option.some.inj h
      exact ms_zret hX (ms_nz (Or.inr rfl)) hW dX9_isDigit_17
def rm_X9_isPlain : Room := { frames := 0, cells := 0, slots := 0, locals := 0 }
def f_X9_isPlain  (v0 : Int32) : Option (Int32) := (if v0 < 32 then some 0 else (if 126 < v0 then some 0 else some 1))
set_option maxHeartbeats 4000000 in
set_option maxRecDepth 100000 in
theorem fn_X9_isPlain (l : Launch) (G : Gc)   (v0 : Int32)  {o : Int32} (h : f_X9_isPlain v0 = some o) : ms_Fn l G yX9_isPlain cX9_isPlain 1 (some .boolean) rm_X9_isPlain [.int v0] [] [] (some (.int o)) := by
  refine ms_start RX9 (by decide +kernel) rfl (Nat.le_of_ble_eq_true rfl) (fun p e s m below meth c A ls hX hW hl => ?_)
  have hx := hX.1.1
  have hb := hX.1.2.1
  have hl : lv_has ls 1 [(0, .int v0)] := hl
  unfold f_X9_isPlain at h
  refine lv_iload_n hx hb dX9_isPlain_0 rfl (lv_at hl 0 rfl) ?_
  refine lv_bipush (v := 32) hx hb dX9_isPlain_1 (by decide) ?_
  refine lv_icmp_lt (tgt := 16) hx hb dX9_isPlain_3 (by decide) (fun k => ?_) (fun k => ?_)
  · have h := ms_ifp h k
    refine lv_iconst (v := 0) hx hb dX9_isPlain_16 (by decide) ?_
    obtain rfl := Option.some.inj h
    exact ms_zret hX (ms_nz (Or.inl rfl)) hW dX9_isPlain_17
  · have h := ms_ifn h k
    refine lv_iload_n hx hb dX9_isPlain_6 rfl (lv_at hl 0 rfl) ?_
    refine lv_bipush (v := 126) hx hb dX9_isPlain_7 (by decide) ?_
    refine lv_icmp_gt (tgt := 16) hx hb dX9_isPlain_9 (by decide) (fun k => ?_) (fun k => ?_)
    · have h := ms_ifp h k
      refine lv_iconst (v := 0) hx hb dX9_isPlain_16 (by decide) ?_
      obtain rfl := Option.some.inj h
      exact ms_zret hX (ms_nz (Or.inl rfl)) hW dX9_isPlain_17
    · have h := ms_ifn h k
      refine lv_iconst (v := 1) hx hb dX9_isPlain_12 (by decide) ?_
      refine lv_goto (tgt := 17) hx hb dX9_isPlain_13 (by decide) ?_
      obtain rfl := Option.some.inj h
      exact ms_zret hX (ms_nz (Or.inr rfl)) hW dX9_isPlain_17
def rm_X5_join : Room := { frames := 0, cells := 0, slots := 0, locals := 0 }
def f_X5_join  (v0 : Int32) (v1 : Int32) : Option (Int32) := some ((v1 <<< ((8 : Int32) &&& 31)) ||| v0)
set_option maxHeartbeats 4000000 in
set_option maxRecDepth 100000 in
theorem fn_X5_join (l : Launch) (G : Gc)   (v0 : Int32) (v1 : Int32)  {o : Int32} (h : f_X5_join v0 v1 = some o) : ms_Fn l G yX5_join cX5_join 2 (some .int) rm_X5_join [.int v0, .int v1] [] [] (some (.int o)) := by
  refine ms_start RX5 (by decide +kernel) rfl (Nat.le_of_ble_eq_true rfl) (fun p e s m below meth c A ls hX hW hl => ?_)
  have hx := hX.1.1
  have hb := hX.1.2.1
  have hl : lv_has ls 2 [(0, .int v0), (1, .int v1)] := hl
  unfold f_X5_join at h
  refine lv_iload_n hx hb dX5_join_0 rfl (lv_at hl 1 rfl) ?_
  refine lv_bipush (v := 8) hx hb dX5_join_1 (by decide) ?_
  refine lv_ishl hx hb dX5_join_3 ?_
  refine lv_iload_n hx hb dX5_join_4 rfl (lv_at hl 0 rfl) ?_
  refine lv_ior hx hb dX5_join_5 ?_
  obtain rfl := Option.some.inj h
  exact ms_iret hX hW dX5_join_6
