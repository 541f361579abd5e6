def rm_X5_findNumber : Room := { frames := 1, cells := 0, slots := 0, locals := 21 }
def f_X5_findNumber_L71 (x_a0_size : Int32) (x_a0_row : Nat → Int32) (v1 : Int32) (v2 : Int32) (v3 : Int32) (z0 : Int32) : Option (Int32) := (if z0 = 0 then some 0 else (f_X9_isPlain v2).bind (fun q79 => (if q79 = 0 then some 0 else (f_X5_join v2 (v3 + 3)).bind (fun q89 => some q89))))
set_option maxHeartbeats 4000000 in
set_option maxRecDepth 100000 in
theorem wb_X5_findNumber_L71 {p : Program} {l : Launch} {e : Env} {s : State} {m : MethodId} {args : Array Value} {below : List Frame} {meth : Method} {c : Code} {G : Gc} {A : Nat → Prop} {H : Heap} {locs : List Loc} {ls : Array Slot} {a_a0 : Nat} {a_a0_row : Nat} {x_a0_size : Int32} {x_a0_overflowed : Int32} {x_a0_row : Nat → Int32} {v1 : Int32} {v2 : Int32} {v3 : Int32} {z0 : Int32} {o : Int32} (hX : ms_CX p s m args meth c cX5_findNumber 5 RX5 (some .int) G A)   (h : f_X5_findNumber_L71 x_a0_size x_a0_row v1 v2 v3 z0 = some o) (hW : ms_W G A s H locs [ob_X1 a_a0 a_a0_row x_a0_size x_a0_overflowed, (a_a0_row, .inl (G.2.1 0, 200, .inl x_a0_row))]) (hl : lv_has ls 5 [(2, .int v2), (3, .int v3)]) : W p l e rm_X5_findNumber s m args below meth c H locs 0 0 (ms_Q G A below args s [ob_X1 a_a0 a_a0_row x_a0_size x_a0_overflowed, (a_a0_row, .inl (G.2.1 0, 200, .inl x_a0_row))] (some (.int o))) (F0 m 71 ls [.int z0]) := by
  have hx := hX.1.1
  have hb := hX.1.2.1
  unfold f_X5_findNumber_L71 at h
  refine lv_istore (lv' := [(4, .int z0), (2, .int v2), (3, .int v3)]) hx hb dX5_findNumber_71 hl (by decide) rfl (fun ls hl => ?_)
  refine lv_iload hx hb dX5_findNumber_73 (lv_at hl 0 rfl) ?_
  refine lv_if_eq (tgt := 95) hx hb dX5_findNumber_75 (by decide) (fun k => ?_) (fun k => ?_)
  · have h := ms_ifp h k
    refine lv_iconst (v := 0) hx hb dX5_findNumber_95 (by decide) ?_
    obtain rfl := Option.some.inj h
    exact ms_iret hX hW dX5_findNumber_96
  · have h := ms_ifn h k
    refine lv_iload_n hx hb dX5_findNumber_78 rfl (lv_at hl 1 rfl) ?_
    obtain ⟨q79, hq79, h⟩ := ms_bd h
    refine ms_callN (host := RX9) (fn_X9_isPlain l G v2 hq79) wm_X9_isPlain (List.mem_of_getElem? (i := 3) rfl) wt_X9_isPlain hX hW [] rfl rfl rfl ⟨Nat.le_of_ble_eq_true rfl, Nat.le_of_ble_eq_true rfl, rfl, rfl, Nat.zero_le _, Nat.zero_le _⟩ rfl hl.1 [] rfl (Nat.le_of_ble_eq_true rfl) dX5_findNumber_79 (fun H locs hW => ?_)
    have hW : ms_W G A s H locs [ob_X1 a_a0 a_a0_row x_a0_size x_a0_overflowed, (a_a0_row, .inl (G.2.1 0, 200, .inl x_a0_row))] := hW
    refine W.eq (g2 := F0 m 82 ls [.int q79]) rfl ?_
    refine lv_if_eq (tgt := 95) hx hb dX5_findNumber_82 (by decide) (fun k => ?_) (fun k => ?_)
    · have h := ms_ifp h k
      refine lv_iconst (v := 0) hx hb dX5_findNumber_95 (by decide) ?_
      obtain rfl := Option.some.inj h
      exact ms_iret hX hW dX5_findNumber_96
    · have h := ms_ifn h k
      refine lv_iload_n hx hb dX5_findNumber_85 rfl (lv_at hl 1 rfl) ?_
      refine lv_iload_n hx hb dX5_findNumber_86 rfl (lv_at hl 2 rfl) ?_
      refine lv_iconst (v := 3) hx hb dX5_findNumber_87 (by decide) ?_
      refine lv_iadd hx hb dX5_findNumber_88 ?_
      obtain ⟨q89, hq89, h⟩ := ms_bd h
      refine ms_callS (fn_X5_join l G v2 (v3 + 3) hq89) wm_X5_join wz_X5_25 hX hW [] rfl rfl rfl ⟨Nat.le_of_ble_eq_true rfl, Nat.le_of_ble_eq_true rfl, rfl, rfl, Nat.zero_le _, Nat.zero_le _⟩ rfl hl.1 [] rfl (Nat.le_of_ble_eq_true rfl) dX5_findNumber_89 (fun H locs hW => ?_)
      have hW : ms_W G A s H locs [ob_X1 a_a0 a_a0_row x_a0_size x_a0_overflowed, (a_a0_row, .inl (G.2.1 0, 200, .inl x_a0_row))] := hW
      refine W.eq (g2 := F0 m 92 ls [.int q89]) rfl ?_
      refine lv_goto (tgt := 96) hx hb dX5_findNumber_92 (by decide) ?_
      obtain rfl := Option.some.inj h
      exact ms_iret hX hW dX5_findNumber_96
def f_X5_findNumber_L70 (x_a0_size : Int32) (x_a0_row : Nat → Int32) (v1 : Int32) (v2 : Int32) (v3 : Int32) : Option (Int32) := f_X5_findNumber_L71 x_a0_size x_a0_row v1 v2 v3 0
set_option maxHeartbeats 4000000 in
set_option maxRecDepth 100000 in
theorem wb_X5_findNumber_L70 {p : Program} {l : Launch} {e : Env} {s : State} {m : MethodId} {args : Array Value} {below : List Frame} {meth : Method} {c : Code} {G : Gc} {A : Nat → Prop} {H : Heap} {locs : List Loc} {ls : Array Slot} {a_a0 : Nat} {a_a0_row : Nat} {x_a0_size : Int32} {x_a0_overflowed : Int32} {x_a0_row : Nat → Int32} {v1 : Int32} {v2 : Int32} {v3 : Int32} {o : Int32} (hX : ms_CX p s m args meth c cX5_findNumber 5 RX5 (some .int) G A)   (h : f_X5_findNumber_L70 x_a0_size x_a0_row v1 v2 v3 = some o) (hW : ms_W G A s H locs [ob_X1 a_a0 a_a0_row x_a0_size x_a0_overflowed, (a_a0_row, .inl (G.2.1 0, 200, .inl x_a0_row))]) (hl : lv_has ls 5 [(2, .int v2), (3, .int v3)]) : W p l e rm_X5_findNumber s m args below meth c H locs 0 0 (ms_Q G A below args s [ob_X1 a_a0 a_a0_row x_a0_size x_a0_overflowed, (a_a0_row, .inl (G.2.1 0, 200, .inl x_a0_row))] (some (.int o))) (F0 m 70 ls []) := by
  have hx := hX.1.1
  have hb := hX.1.2.1
  unfold f_X5_findNumber_L70 at h
  refine lv_iconst (v := 0) hx hb dX5_findNumber_70 (by decide) ?_
  exact wb_X5_findNumber_L71 hX h hW (lv_sub hl [0, 1] rfl)
def f_X5_findNumber_L4 (x_a0_size : Int32) (x_a0_row : Nat → Int32) (v1 : Int32) : Nat → Int32 → Int32 → Option (Int32 × Int32)
  | 0, _, _ => none
  | n + 1, v2, v3 => (if 3 ≤ v3 then some (v2, v3) else (f_X1_at x_a0_size x_a0_row ((v1 + 2) + v3)).bind (fun q15 => (f_X9_isDigit q15).bind (fun q18 => (if q18 = 0 then some (v2, v3) else (f_X1_at x_a0_size x_a0_row ((v1 + 2) + v3)).bind (fun q34 => f_X5_findNumber_L4 x_a0_size x_a0_row v1 n (((10 * v2) + q34) - 48) (v3 + 1))))))
set_option maxHeartbeats 4000000 in
set_option maxRecDepth 100000 in
theorem wb_X5_findNumber_L4 {p : Program} {l : Launch} {e : Env} {s : State} {m : MethodId} {args : Array Value} {below : List Frame} {meth : Method} {c : Code} {G : Gc} {A : Nat → Prop} {a_a0 : Nat} {a_a0_row : Nat} {x_a0_size : Int32} {x_a0_overflowed : Int32} {x_a0_row : Nat → Int32} {v1 : Int32} {Q : State → Prop} {o : Int32 × Int32} (hX : ms_CX p s m args meth c cX5_findNumber 5 RX5 (some .int) G A) (hq : ∀ (H : Heap) (locs : List Loc) (ls : Array Slot), ms_W G A s H locs [ob_X1 a_a0 a_a0_row x_a0_size x_a0_overflowed, (a_a0_row, .inl (G.2.1 0, 200, .inl x_a0_row))] → lv_has ls 5 [(0, .ref a_a0), (1, .int v1), (2, .int o.1), (3, .int o.2)] → W p l e rm_X5_findNumber s m args below meth c H locs 0 0 Q (F0 m 48 ls [])) : ∀ (n : Nat) (v2 : Int32) (v3 : Int32) (H : Heap) (locs : List Loc) (ls : Array Slot), f_X5_findNumber_L4 x_a0_size x_a0_row v1 n v2 v3 = some o → ms_W G A s H locs [ob_X1 a_a0 a_a0_row x_a0_size x_a0_overflowed, (a_a0_row, .inl (G.2.1 0, 200, .inl x_a0_row))] → lv_has ls 5 [(0, .ref a_a0), (1, .int v1), (2, .int v2), (3, .int v3)] → W p l e rm_X5_findNumber s m args below meth c H locs 0 0 Q (F0 m 4 ls []) := by
  have hx := hX.1.1
  have hb := hX.1.2.1
  intro n
  induction n with
  | zero => intro v2 v3 H locs ls h; rw [f_X5_findNumber_L4] at h; cases h
  | succ n ih =>
    intro v2 v3 H locs ls h hW hl
    rw [f_X5_findNumber_L4] at h
    refine lv_iload_n hx hb dX5_findNumber_4 rfl (lv_at hl 3 rfl) ?_
    refine lv_iconst (v := 3) hx hb dX5_findNumber_5 (by decide) ?_
    refine lv_icmp_ge (tgt := 48) hx hb dX5_findNumber_6 (by decide) (fun k => ?_) (fun k => ?_)
    · have h := ms_ifp h k
      obtain rfl := Option.some.inj h
      exact hq _ _ _ hW (lv_sub hl [0, 1, 2, 3] rfl)
    · have h := ms_ifn h k
      refine lv_aload_n hx hb dX5_findNumber_9 rfl (lv_at hl 0 rfl) ?_
      refine lv_iload_n hx hb dX5_findNumber_10 rfl (lv_at hl 1 rfl) ?_
      refine lv_iconst (v := 2) hx hb dX5_findNumber_11 (by decide) ?_
      refine lv_iadd hx hb dX5_findNumber_12 ?_
      refine lv_iload_n hx hb dX5_findNumber_13 rfl (lv_at hl 3 rfl) ?_
      refine lv_iadd hx hb dX5_findNumber_14 ?_
      obtain ⟨q15, hq15, h⟩ := ms_bd h
      refine ms_callV (fn_X1_at l G a_a0 a_a0_row x_a0_size x_a0_overflowed x_a0_row ((v1 + 2) + v3) hq15) wm_X1_at wv_X5_7 hX hW [0, 1] rfl rfl rfl rfl rfl ⟨Nat.le_of_ble_eq_true rfl, Nat.le_of_ble_eq_true rfl, rfl, rfl, Nat.zero_le _, Nat.zero_le _⟩ rfl hl.1 [] rfl (Nat.le_of_ble_eq_true rfl) dX5_findNumber_15 (fun H locs hW => ?_)
      have hW : ms_W G A s H locs [ob_X1 a_a0 a_a0_row x_a0_size x_a0_overflowed, (a_a0_row, .inl (G.2.1 0, 200, .inl x_a0_row))] := hW
      refine W.eq (g2 := F0 m 18 ls [.int q15]) rfl ?_
      obtain ⟨q18, hq18, h⟩ := ms_bd h
      refine ms_callN (host := RX9) (fn_X9_isDigit l G q15 hq18) wm_X9_isDigit (List.mem_of_getElem? (i := 2) rfl) wt_X9_isDigit hX hW [] rfl rfl rfl ⟨Nat.le_of_ble_eq_true rfl, Nat.le_of_ble_eq_true rfl, rfl, rfl, Nat.zero_le _, Nat.zero_le _⟩ rfl hl.1 [] rfl (Nat.le_of_ble_eq_true rfl) dX5_findNumber_18 (fun H locs hW => ?_)
      have hW : ms_W G A s H locs [ob_X1 a_a0 a_a0_row x_a0_size x_a0_overflowed, (a_a0_row, .inl (G.2.1 0, 200, .inl x_a0_row))] := hW
      refine W.eq (g2 := F0 m 21 ls [.int q18]) rfl ?_
      refine lv_if_eq (tgt := 48) hx hb dX5_findNumber_21 (by decide) (fun k => ?_) (fun k => ?_)
      · have h := ms_ifp h k
        obtain rfl := Option.some.inj h
        exact hq _ _ _ hW (lv_sub hl [0, 1, 2, 3] rfl)
      · have h := ms_ifn h k
        refine lv_bipush (v := 10) hx hb dX5_findNumber_24 (by decide) ?_
        refine lv_iload_n hx hb dX5_findNumber_26 rfl (lv_at hl 2 rfl) ?_
        refine lv_imul hx hb dX5_findNumber_27 ?_
        refine lv_aload_n hx hb dX5_findNumber_28 rfl (lv_at hl 0 rfl) ?_
        refine lv_iload_n hx hb dX5_findNumber_29 rfl (lv_at hl 1 rfl) ?_
        refine lv_iconst (v := 2) hx hb dX5_findNumber_30 (by decide) ?_
        refine lv_iadd hx hb dX5_findNumber_31 ?_
        refine lv_iload_n hx hb dX5_findNumber_32 rfl (lv_at hl 3 rfl) ?_
        refine lv_iadd hx hb dX5_findNumber_33 ?_
        obtain ⟨q34, hq34, h⟩ := ms_bd h
        refine ms_callV (fn_X1_at l G a_a0 a_a0_row x_a0_size x_a0_overflowed x_a0_row ((v1 + 2) + v3) hq34) wm_X1_at wv_X5_7 hX hW [0, 1] rfl rfl rfl rfl rfl ⟨Nat.le_of_ble_eq_true rfl, Nat.le_of_ble_eq_true rfl, rfl, rfl, Nat.zero_le _, Nat.zero_le _⟩ rfl hl.1 [.int (10 * v2)] rfl (Nat.le_of_ble_eq_true rfl) dX5_findNumber_34 (fun H locs hW => ?_)
        have hW : ms_W G A s H locs [ob_X1 a_a0 a_a0_row x_a0_size x_a0_overflowed, (a_a0_row, .inl (G.2.1 0, 200, .inl x_a0_row))] := hW
        refine W.eq (g2 := F0 m 37 ls [.int q34, .int (10 * v2)]) rfl ?_
        refine lv_iadd hx hb dX5_findNumber_37 ?_
        refine lv_bipush (v := 48) hx hb dX5_findNumber_38 (by decide) ?_
        refine lv_isub hx hb dX5_findNumber_40 ?_
        refine lv_istore_n (lv' := [(2, .int (((10 * v2) + q34) - 48)), (0, .ref a_a0), (1, .int v1), (3, .int v3)]) hx hb dX5_findNumber_41 rfl hl (by decide) rfl (fun ls hl => ?_)
        refine lv_iinc (v := v3 + 1) (lv' := [(3, .int (v3 + 1)), (2, .int (((10 * v2) + q34) - 48)), (0, .ref a_a0), (1, .int v1)]) hx hb dX5_findNumber_42 hl (k := 3) rfl rfl (by decide) rfl (fun ls hl => ?_)
        refine lv_goto (tgt := 4) hx hb dX5_findNumber_45 (by decide) ?_
        exact ih _ _ _ _ _ h hW (lv_sub hl [2, 3, 1, 0] rfl)
def f_X5_findNumber (x_a0_size : Int32) (x_a0_row : Nat → Int32) (v1 : Int32) : Option (Int32) := (f_X5_findNumber_L4 x_a0_size x_a0_row v1 1000 0 0).bind (fun w4 => (if w4.2 ≤ 0 then f_X5_findNumber_L70 x_a0_size x_a0_row v1 w4.1 w4.2 else (f_X1_at x_a0_size x_a0_row ((v1 + 2) + w4.2)).bind (fun q58 => (if q58 = 59 then f_X5_findNumber_L71 x_a0_size x_a0_row v1 w4.1 w4.2 1 else f_X5_findNumber_L70 x_a0_size x_a0_row v1 w4.1 w4.2))))
set_option maxHeartbeats 4000000 in
set_option maxRecDepth 100000 in
theorem fn_X5_findNumber (l : Launch) (G : Gc) (a_a0 : Nat) (a_a0_row : Nat) (x_a0_size : Int32) (x_a0_overflowed : Int32) (x_a0_row : Nat → Int32) (v1 : Int32)  {o : Int32} (h : f_X5_findNumber x_a0_size x_a0_row v1 = some o) : ms_Fn l G yX5_findNumber cX5_findNumber 5 (some .int) rm_X5_findNumber [.ref a_a0, .int v1] [ob_X1 a_a0 a_a0_row x_a0_size x_a0_overflowed, (a_a0_row, .inl (G.2.1 0, 200, .inl x_a0_row))] [ob_X1 a_a0 a_a0_row x_a0_size x_a0_overflowed, (a_a0_row, .inl (G.2.1 0, 200, .inl x_a0_row))] (some (.int o)) := by
  refine ms_start RX5 (by decide +kernel) rfl (Nat.le_of_ble_eq_true rfl) (fun p e s m below meth c A ls hX hW hl => ?_)
  have hx := hX.1.1
  have hb := hX.1.2.1
  have hl : lv_has ls 5 [(0, .ref a_a0), (1, .int v1)] := hl
  unfold f_X5_findNumber at h
  refine lv_iconst (v := 0) hx hb dX5_findNumber_0 (by decide) ?_
  refine lv_istore_n (lv' := [(2, .int 0), (0, .ref a_a0), (1, .int v1)]) hx hb dX5_findNumber_1 rfl hl (by decide) rfl (fun ls hl => ?_)
  refine lv_iconst (v := 0) hx hb dX5_findNumber_2 (by decide) ?_
  refine lv_istore_n (lv' := [(3, .int 0), (2, .int 0), (0, .ref a_a0), (1, .int v1)]) hx hb dX5_findNumber_3 rfl hl (by decide) rfl (fun ls hl => ?_)
  obtain ⟨w4, hqw4, h⟩ := ms_bd h
  refine wb_X5_findNumber_L4 hX (o := w4) (fun H locs ls hW hl => ?_) _ _ _ _ _ _ hqw4 hW (lv_sub hl [2, 3, 1, 0] rfl)
  refine lv_iload_n hx hb dX5_findNumber_48 rfl (lv_at hl 3 rfl) ?_
  refine lv_if_le (tgt := 70) hx hb dX5_findNumber_49 (by decide) (fun k => ?_) (fun k => ?_)
  · have h := ms_ifp h k
    exact wb_X5_findNumber_L70 hX h hW (lv_sub hl [2, 3] rfl)
  · have h := ms_ifn h k
    refine lv_aload_n hx hb dX5_findNumber_52 rfl (lv_at hl 0 rfl) ?_
    refine lv_iload_n hx hb dX5_findNumber_53 rfl (lv_at hl 1 rfl) ?_
    refine lv_iconst (v := 2) hx hb dX5_findNumber_54 (by decide) ?_
    refine lv_iadd hx hb dX5_findNumber_55 ?_
    refine lv_iload_n hx hb dX5_findNumber_56 rfl (lv_at hl 3 rfl) ?_
    refine lv_iadd hx hb dX5_findNumber_57 ?_
    obtain ⟨q58, hq58, h⟩ := ms_bd h
    refine ms_callV (fn_X1_at l G a_a0 a_a0_row x_a0_size x_a0_overflowed x_a0_row ((v1 + 2) + w4.2) hq58) wm_X1_at wv_X5_7 hX hW [0, 1] rfl rfl rfl rfl rfl ⟨Nat.le_of_ble_eq_true rfl, Nat.le_of_ble_eq_true rfl, rfl, rfl, Nat.zero_le _, Nat.zero_le _⟩ rfl hl.1 [] rfl (Nat.le_of_ble_eq_true rfl) dX5_findNumber_58 (fun H locs hW => ?_)
    have hW : ms_W G A s H locs [ob_X1 a_a0 a_a0_row x_a0_size x_a0_overflowed, (a_a0_row, .inl (G.2.1 0, 200, .inl x_a0_row))] := hW
    refine W.eq (g2 := F0 m 61 ls [.int q58]) rfl ?_
    refine lv_bipush (v := 59) hx hb dX5_findNumber_61 (by decide) ?_
    refine lv_icmp_ne (tgt := 70) hx hb dX5_findNumber_63 (by decide) (fun k => ?_) (fun k => ?_)
    · have h := ms_ifn h k
      exact wb_X5_findNumber_L70 hX h hW (lv_sub hl [2, 3] rfl)
    · have h := ms_ifp h k
      refine lv_iconst (v := 1) hx hb dX5_findNumber_66 (by decide) ?_
      refine lv_goto (tgt := 71) hx hb dX5_findNumber_67 (by decide) ?_
      exact wb_X5_findNumber_L71 hX h hW (lv_sub hl [2, 3] rfl)
def rm_X1_has : Room := { frames := 4, cells := 0, slots := 0, locals := 85 }
def f_X1_has_L2 (x_size : Int32) (x_row : Nat → Int32) (v1 : Int32) (v2 : Nat) : Nat → Int32 → Option (Int32)
  | 0, _ => none
  | n + 1, v3 => (f_J0_length_8abf5 v2).bind (fun q4 => (if q4 ≤ v3 then some 1 else (f_X1_at x_size x_row (v1 + v3)).bind (fun q14 => (f_J0_charAt_5068e v2 v3).bind (fun q19 => (if q14 = q19 then f_X1_has_L2 x_size x_row v1 v2 n (v3 + 1) else some 0)))))
set_option maxHeartbeats 4000000 in
set_option maxRecDepth 100000 in
theorem wb_X1_has_L2 {p : Program} {l : Launch} {e : Env} {s : State} {m : MethodId} {args : Array Value} {below : List Frame} {meth : Method} {c : Code} {G : Gc} {A : Nat → Prop} {a_this : Nat} {a_row : Nat} {x_size : Int32} {x_overflowed : Int32} {x_row : Nat → Int32} {v1 : Int32} {v2 : Nat} {o : Int32} (hX : ms_CX p s m args meth c cX1_has 4 RX1 (some .boolean) G A) (hs_v2 : v2 < 14)  : ∀ (n : Nat) (v3 : Int32) (H : Heap) (locs : List Loc) (ls : Array Slot), f_X1_has_L2 x_size x_row v1 v2 n v3 = some o → ms_W G A s H locs [ob_X1 a_this a_row x_size x_overflowed, (a_row, .inl (G.2.1 0, 200, .inl x_row))] → lv_has ls 4 [(0, .ref a_this), (1, .int v1), (2, .ref (G.2.2.1 v2)), (3, .int v3)] → W p l e rm_X1_has s m args below meth c H locs 0 0 (ms_Q G A below args s [ob_X1 a_this a_row x_size x_overflowed, (a_row, .inl (G.2.1 0, 200, .inl x_row))] (some (.int o))) (F0 m 2 ls []) := by
  have hx := hX.1.1
  have hb := hX.1.2.1
  intro n
  induction n with
  | zero => intro v3 H locs ls h; rw [f_X1_has_L2] at h; cases h
  | succ n ih =>
    intro v3 H locs ls h hW hl
    rw [f_X1_has_L2] at h
    refine lv_iload_n hx hb dX1_has_2 rfl (lv_at hl 3 rfl) ?_
    refine lv_aload_n hx hb dX1_has_3 rfl (lv_at hl 2 rfl) ?_
    obtain ⟨q4, hq4, h⟩ := ms_bd h
    refine ms_callK (fn_J0_length_8abf5 l G v2 hs_v2 hq4) hs_v2 wm_J0_length_8abf5 wv_X1_23 hX hW ⟨Nat.le_of_ble_eq_true rfl, Nat.le_of_ble_eq_true rfl, rfl, rfl, Nat.zero_le _, Nat.zero_le _⟩ rfl hl.1 [.int v3] rfl (Nat.le_of_ble_eq_true rfl) dX1_has_4 (fun H locs hW => ?_)
    have hW : ms_W G A s H locs [ob_X1 a_this a_row x_size x_overflowed, (a_row, .inl (G.2.1 0, 200, .inl x_row))] := hW
    refine W.eq (g2 := F0 m 7 ls [.int q4, .int v3]) rfl ?_
    refine lv_icmp_ge (tgt := 33) hx hb dX1_has_7 (by decide) (fun k => ?_) (fun k => ?_)
    · have h := ms_ifp h k
      refine lv_iconst (v := 1) hx hb dX1_has_33 (by decide) ?_
      obtain rfl := Option.some.inj h
      exact ms_zret hX (ms_nz (Or.inr rfl)) hW dX1_has_34
    · have h := ms_ifn h k
      refine lv_aload_n hx hb dX1_has_10 rfl (lv_at hl 0 rfl) ?_
      refine lv_iload_n hx hb dX1_has_11 rfl (lv_at hl 1 rfl) ?_
      refine lv_iload_n hx hb dX1_has_12 rfl (lv_at hl 3 rfl) ?_
      refine lv_iadd hx hb dX1_has_13 ?_
      obtain ⟨q14, hq14, h⟩ := ms_bd h
      refine ms_callV (fn_X1_at l G a_this a_row x_size x_overflowed x_row (v1 + v3) hq14) wm_X1_at wv_X1_37 hX hW [0, 1] rfl rfl rfl rfl rfl ⟨Nat.le_of_ble_eq_true rfl, Nat.le_of_ble_eq_true rfl, rfl, rfl, Nat.zero_le _, Nat.zero_le _⟩ rfl hl.1 [] rfl (Nat.le_of_ble_eq_true rfl) dX1_has_14 (fun H locs hW => ?_)
      have hW : ms_W G A s H locs [ob_X1 a_this a_row x_size x_overflowed, (a_row, .inl (G.2.1 0, 200, .inl x_row))] := hW
      refine W.eq (g2 := F0 m 17 ls [.int q14]) rfl ?_
      refine lv_aload_n hx hb dX1_has_17 rfl (lv_at hl 2 rfl) ?_
      refine lv_iload_n hx hb dX1_has_18 rfl (lv_at hl 3 rfl) ?_
      obtain ⟨q19, hq19, h⟩ := ms_bd h
      refine ms_callK (fn_J0_charAt_5068e l G v2 v3 hs_v2 hq19) hs_v2 wm_J0_charAt_5068e wv_X1_29 hX hW ⟨Nat.le_of_ble_eq_true rfl, Nat.le_of_ble_eq_true rfl, rfl, rfl, Nat.zero_le _, Nat.zero_le _⟩ rfl hl.1 [.int q14] rfl (Nat.le_of_ble_eq_true rfl) dX1_has_19 (fun H locs hW => ?_)
      have hW : ms_W G A s H locs [ob_X1 a_this a_row x_size x_overflowed, (a_row, .inl (G.2.1 0, 200, .inl x_row))] := hW
      refine W.eq (g2 := F0 m 22 ls [.int q19, .int q14]) rfl ?_
      refine lv_icmp_eq (tgt := 27) hx hb dX1_has_22 (by decide) (fun k => ?_) (fun k => ?_)
      · have h := ms_ifp h k
        refine lv_iinc (v := v3 + 1) (lv' := [(3, .int (v3 + 1)), (0, .ref a_this), (1, .int v1), (2, .ref (G.2.2.1 v2))]) hx hb dX1_has_27 hl (k := 3) rfl rfl (by decide) rfl (fun ls hl => ?_)
        refine lv_goto (tgt := 2) hx hb dX1_has_30 (by decide) ?_
        exact ih _ _ _ _ h hW (lv_sub hl [1, 2, 3, 0] rfl)
      · have h := ms_ifn h k
        refine lv_iconst (v := 0) hx hb dX1_has_25 (by decide) ?_
        obtain rfl := Option.some.inj h
        exact ms_zret hX (ms_nz (Or.inl rfl)) hW dX1_has_26
def f_X1_has (x_size : Int32) (x_row : Nat → Int32) (v1 : Int32) (v2 : Nat) : Option (Int32) := f_X1_has_L2 x_size x_row v1 v2 1000 0
set_option maxHeartbeats 4000000 in
set_option maxRecDepth 100000 in
theorem fn_X1_has (l : Launch) (G : Gc) (a_this : Nat) (a_row : Nat) (x_size : Int32) (x_overflowed : Int32) (x_row : Nat → Int32) (v1 : Int32) (v2 : Nat) (hs_v2 : v2 < 14) {o : Int32} (h : f_X1_has x_size x_row v1 v2 = some o) : ms_Fn l G yX1_has cX1_has 4 (some .boolean) rm_X1_has [.ref a_this, .int v1, .ref (G.2.2.1 v2)] [ob_X1 a_this a_row x_size x_overflowed, (a_row, .inl (G.2.1 0, 200, .inl x_row))] [ob_X1 a_this a_row x_size x_overflowed, (a_row, .inl (G.2.1 0, 200, .inl x_row))] (some (.int o)) := by
  refine ms_start RX1 (by decide +kernel) rfl (Nat.le_of_ble_eq_true rfl) (fun p e s m below meth c A ls hX hW hl => ?_)
  have hx := hX.1.1
  have hb := hX.1.2.1
  have hl : lv_has ls 4 [(0, .ref a_this), (1, .int v1), (2, .ref (G.2.2.1 v2))] := hl
  unfold f_X1_has at h
  refine lv_iconst (v := 0) hx hb dX1_has_0 (by decide) ?_
  refine lv_istore_n (lv' := [(3, .int 0), (0, .ref a_this), (1, .int v1), (2, .ref (G.2.2.1 v2))]) hx hb dX1_has_1 rfl hl (by decide) rfl (fun ls hl => ?_)
  exact wb_X1_has_L2 hX hs_v2 _ _ _ _ _ h hW (lv_sub hl [1, 2, 3, 0] rfl)
def rm_X5_find : Room := { frames := 5, cells := 0, slots := 0, locals := 108 }
def f_X5_find (x_a0_size : Int32) (x_a0_row : Nat → Int32) (v1 : Int32) : Option (Int32) := (f_X1_at x_a0_size x_a0_row v1).bind (fun q2 => (if q2 = 38 then (f_X1_at x_a0_size x_a0_row (v1 + 1)).bind (fun q16 => (if q16 = 35 then (f_X5_findNumber x_a0_size x_a0_row v1).bind (fun q26 => some q26) else (f_X1_has x_a0_size x_a0_row v1 2).bind (fun q34 => (if q34 = 0 then (f_X1_has x_a0_size x_a0_row v1 3).bind (fun q51 => (if q51 = 0 then (f_X1_has x_a0_size x_a0_row v1 4).bind (fun q68 => (if q68 = 0 then (f_X1_has x_a0_size x_a0_row v1 5).bind (fun q85 => (if q85 = 0 then some 0 else (f_X5_join 34 6).bind (fun q95 => some q95))) else (f_X5_join 38 5).bind (fun q77 => some q77))) else (f_X5_join 62 4).bind (fun q60 => some q60))) else (f_X5_join 60 4).bind (fun q43 => some q43))))) else some 0))
set_option maxHeartbeats 4000000 in
set_option maxRecDepth 100000 in
theorem fn_X5_find (l : Launch) (G : Gc) (a_a0 : Nat) (a_a0_row : Nat) (x_a0_size : Int32) (x_a0_overflowed : Int32) (x_a0_row : Nat → Int32) (v1 : Int32)  {o : Int32} (h : f_X5_find x_a0_size x_a0_row v1 = some o) : ms_Fn l G yX5_find cX5_find 2 (some .int) rm_X5_find [.ref a_a0, .int v1] [ob_X1 a_a0 a_a0_row x_a0_size x_a0_overflowed, (a_a0_row, .inl (G.2.1 0, 200, .inl x_a0_row))] [ob_X1 a_a0 a_a0_row x_a0_size x_a0_overflowed, (a_a0_row, .inl (G.2.1 0, 200, .inl x_a0_row))] (some (.int o)) := by
  refine ms_start RX5 (by decide +kernel) rfl (Nat.le_of_ble_eq_true rfl) (fun p e s m below meth c A ls hX hW hl => ?_)
  have hx := hX.1.1
  have hb := hX.1.2.1
  have hl : lv_has ls 2 [(0, .ref a_a0), (1, .int v1)] := hl
  unfold f_X5_find at h
  refine lv_aload_n hx hb dX5_find_0 rfl (lv_at hl 0 rfl) ?_
  refine lv_iload_n hx hb dX5_find_1 rfl (lv_at hl 1 rfl) ?_
  obtain ⟨q2, hq2, h⟩ := ms_bd h
  refine ms_callV (fn_X1_at l G a_a0 a_a0_row x_a0_size x_a0_overflowed x_a0_row v1 hq2) wm_X1_at wv_X5_7 hX hW [0, 1] rfl rfl rfl rfl rfl ⟨Nat.le_of_ble_eq_true rfl, Nat.le_of_ble_eq_true rfl, rfl, rfl, Nat.zero_le _, Nat.zero_le _⟩ rfl hl.1 [] rfl (Nat.le_of_ble_eq_true rfl) dX5_find_2 (fun H locs hW => ?_)
  have hW : ms_W G A s H locs [ob_X1 a_a0 a_a0_row x_a0_size x_a0_overflowed, (a_a0_row, .inl (G.2.1 0, 200, .inl x_a0_row))] := hW
  refine W.eq (g2 := F0 m 5 ls [.int q2]) rfl ?_
  refine lv_bipush (v := 38) hx hb dX5_find_5 (by decide) ?_
  refine lv_icmp_eq (tgt := 12) hx hb dX5_find_7 (by decide) (fun k => ?_) (fun k => ?_)
  · have h := ms_ifp h k
    refine lv_aload_n hx hb dX5_find_12 rfl (lv_at hl 0 rfl) ?_
    refine lv_iload_n hx hb dX5_find_13 rfl (lv_at hl 1 rfl) ?_
    refine lv_iconst (v := 1) hx hb dX5_find_14 (by decide) ?_
    refine lv_iadd hx hb dX5_find_15 ?_
    obtain ⟨q16, hq16, h⟩ := ms_bd h
    refine ms_callV (fn_X1_at l G a_a0 a_a0_row x_a0_size x_a0_overflowed x_a0_row (v1 + 1) hq16) wm_X1_at wv_X5_7 hX hW [0, 1] rfl rfl rfl rfl rfl ⟨Nat.le_of_ble_eq_true rfl, Nat.le_of_ble_eq_true rfl, rfl, rfl, Nat.zero_le _, Nat.zero_le _⟩ rfl hl.1 [] rfl (Nat.le_of_ble_eq_true rfl) dX5_find_16 (fun H locs hW => ?_)
    have hW : ms_W G A s H locs [ob_X1 a_a0 a_a0_row x_a0_size x_a0_overflowed, (a_a0_row, .inl (G.2.1 0, 200, .inl x_a0_row))] := hW
    refine W.eq (g2 := F0 m 19 ls [.int q16]) rfl ?_
    refine lv_bipush (v := 35) hx hb dX5_find_19 (by decide) ?_
    refine lv_icmp_ne (tgt := 30) hx hb dX5_find_21 (by decide) (fun k => ?_) (fun k => ?_)
    · have h := ms_ifn h k
      refine lv_aload_n hx hb dX5_find_30 rfl (lv_at hl 0 rfl) ?_
      refine lv_iload_n hx hb dX5_find_31 rfl (lv_at hl 1 rfl) ?_
      refine ms_ldcS hX (tx := "&lt;") (i := 2) (List.mem_of_getElem? (i := 2) rfl) dX5_find_32 ?_
      obtain ⟨q34, hq34, h⟩ := ms_bd h
      refine ms_callV (fn_X1_has l G a_a0 a_a0_row x_a0_size x_a0_overflowed x_a0_row v1 2 (by decide) hq34) wm_X1_has wv_X5_21 hX hW [0, 1] rfl rfl rfl rfl rfl ⟨Nat.le_of_ble_eq_true rfl, Nat.le_of_ble_eq_true rfl, rfl, rfl, Nat.zero_le _, Nat.zero_le _⟩ rfl hl.1 [] rfl (Nat.le_of_ble_eq_true rfl) dX5_find_34 (fun H locs hW => ?_)
      have hW : ms_W G A s H locs [ob_X1 a_a0 a_a0_row x_a0_size x_a0_overflowed, (a_a0_row, .inl (G.2.1 0, 200, .inl x_a0_row))] := hW
      refine W.eq (g2 := F0 m 37 ls [.int q34]) rfl ?_
      refine lv_if_eq (tgt := 47) hx hb dX5_find_37 (by decide) (fun k => ?_) (fun k => ?_)
      · have h := ms_ifp h k
        refine lv_aload_n hx hb dX5_find_47 rfl (lv_at hl 0 rfl) ?_
        refine lv_iload_n hx hb dX5_find_48 rfl (lv_at hl 1 rfl) ?_
        refine ms_ldcS hX (tx := "&gt;") (i := 3) (List.mem_of_getElem? (i := 3) rfl) dX5_find_49 ?_
        obtain ⟨q51, hq51, h⟩ := ms_bd h
        refine ms_callV (fn_X1_has l G a_a0 a_a0_row x_a0_size x_a0_overflowed x_a0_row v1 3 (by decide) hq51) wm_X1_has wv_X5_21 hX hW [0, 1] rfl rfl rfl rfl rfl ⟨Nat.le_of_ble_eq_true rfl, Nat.le_of_ble_eq_true rfl, rfl, rfl, Nat.zero_le _, Nat.zero_le _⟩ rfl hl.1 [] rfl (Nat.le_of_ble_eq_true rfl) dX5_find_51 (fun H locs hW => ?_)
        have hW : ms_W G A s H locs [ob_X1 a_a0 a_a0_row x_a0_size x_a0_overflowed, (a_a0_row, .inl (G.2.1 0, 200, .inl x_a0_row))] := hW
        refine W.eq (g2 := F0 m 54 ls [.int q51]) rfl ?_
        refine lv_if_eq (tgt := 64) hx hb dX5_find_54 (by decide) (fun k => ?_) (fun k => ?_)
        · have h := ms_ifp h k
          refine lv_aload_n hx hb dX5_find_64 rfl (lv_at hl 0 rfl) ?_
          refine lv_iload_n hx hb dX5_find_65 rfl (lv_at hl 1 rfl) ?_
          refine ms_ldcS hX (tx := "&amp;") (i := 4) (List.mem_of_getElem? (i := 4) rfl) dX5_find_66 ?_
          obtain ⟨q68, hq68, h⟩ := ms_bd h
          refine ms_callV (fn_X1_has l G a_a0 a_a0_row x_a0_size x_a0_overflowed x_a0_row v1 4 (by decide) hq68) wm_X1_has wv_X5_21 hX hW [0, 1] rfl rfl rfl rfl rfl ⟨Nat.le_of_ble_eq_true rfl, Nat.le_of_ble_eq_true rfl, rfl, rfl, Nat.zero_le _, Nat.zero_le _⟩ rfl hl.1 [] rfl (Nat.le_of_ble_eq_true rfl) dX5_find_68 (fun H locs hW => ?_)
          have hW : ms_W G A s H locs [ob_X1 a_a0 a_a0_row x_a0_size x_a0_overflowed, (a_a0_row, .inl (G.2.1 0, 200, .inl x_a0_row))] := hW
          refine W.eq (g2 := F0 m 71 ls [.int q68]) rfl ?_
          refine lv_if_eq (tgt := 81) hx hb dX5_find_71 (by decide) (fun k => ?_) (fun k => ?_)
          · have h := ms_ifp h k
            refine lv_aload_n hx hb dX5_find_81 rfl (lv_at hl 0 rfl) ?_
            refine lv_iload_n hx hb dX5_find_82 rfl (lv_at hl 1 rfl) ?_
            refine ms_ldcS hX (tx := "&quot;") (i := 5) (List.mem_of_getElem? (i := 5) rfl) dX5_find_83 ?_
            obtain ⟨q85, hq85, h⟩ := ms_bd h
            refine ms_callV (fn_X1_has l G a_a0 a_a0_row x_a0_size x_a0_overflowed x_a0_row v1 5 (by decide) hq85) wm_X1_has wv_X5_21 hX hW [0, 1] rfl rfl rfl rfl rfl ⟨Nat.le_of_ble_eq_true rfl, Nat.le_of_ble_eq_true rfl, rfl, rfl, Nat.zero_le _, Nat.zero_le _⟩ rfl hl.1 [] rfl (Nat.le_of_ble_eq_true rfl) dX5_find_85 (fun H locs hW => ?_)
            have hW : ms_W G A s H locs [ob_X1 a_a0 a_a0_row x_a0_size x_a0_overflowed, (a_a0_row, .inl (G.2.1 0, 200, .inl x_a0_row))] := hW
            refine W.eq (g2 := F0 m 88 ls [.int q85]) rfl ?_
            refine lv_if_eq (tgt := 101) hx hb dX5_find_88 (by decide) (fun k => ?_) (fun k => ?_)
            · have h := ms_ifp h k
              refine lv_iconst (v := 0) hx hb dX5_find_101 (by decide) ?_
              obtain rfl := Option.some.inj h
              exact ms_iret hX hW dX5_find_102
            · have h := ms_ifn h k
              refine lv_bipush (v := 34) hx hb dX5_find_91 (by decide) ?_
              refine lv_bipush (v := 6) hx hb dX5_find_93 (by decide) ?_
              obtain ⟨q95, hq95, h⟩ := ms_bd h
              refine ms_callS (fn_X5_join l G 34 6 hq95) wm_X5_join wz_X5_25 hX hW [] rfl rfl rfl ⟨Nat.le_of_ble_eq_true rfl, Nat.le_of_ble_eq_true rfl, rfl, rfl, Nat.zero_le _, Nat.zero_le _⟩ rfl hl.1 [] rfl (Nat.le_of_ble_eq_true rfl) dX5_find_95 (fun H locs hW => ?_)
              have hW : ms_W G A s H locs [ob_X1 a_a0 a_a0_row x_a0_size x_a0_overflowed, (a_a0_row, .inl (G.2.1 0, 200, .inl x_a0_row))] := hW
              refine W.eq (g2 := F0 m 98 ls [.int q95]) rfl ?_
              refine lv_goto (tgt := 102) hx hb dX5_find_98 (by decide) ?_
              obtain rfl := Option.some.inj h
              exact ms_iret hX hW dX5_find_102
          · have h := ms_ifn h k
            refine lv_bipush (v := 38) hx hb dX5_find_74 (by decide) ?_
            refine lv_iconst (v := 5) hx hb dX5_find_76 (by decide) ?_
            obtain ⟨q77, hq77, h⟩ := ms_bd h
            refine ms_callS (fn_X5_join l G 38 5 hq77) wm_X5_join wz_X5_25 hX hW [] rfl rfl rfl ⟨Nat.le_of_ble_eq_true rfl, Nat.le_of_ble_eq_true rfl, rfl, rfl, Nat.zero_le _, Nat.zero_le _⟩ rfl hl.1 [] rfl (Nat.le_of_ble_eq_true rfl) dX5_find_77 (fun H locs hW => ?_)
            have hW : ms_W G A s H locs [ob_X1 a_a0 a_a0_row x_a0_size x_a0_overflowed, (a_a0_row, .inl (G.2.1 0, 200, .inl x_a0_row))] := hW
            refine W.eq (g2 := F0 m 80 ls [.int q77]) rfl ?_
            obtain rfl := Option.some.inj h
            exact ms_iret hX hW dX5_find_80
        · have h := ms_ifn h k
          refine lv_bipush (v := 62) hx hb dX5_find_57 (by decide) ?_
          refine lv_iconst (v := 4) hx hb dX5_find_59 (by decide) ?_
          obtain ⟨q60, hq60, h⟩ := ms_bd h
          refine ms_callS (fn_X5_join l G 62 4 hq60) wm_X5_join wz_X5_25 hX hW [] rfl rfl rfl ⟨Nat.le_of_ble_eq_true rfl, Nat.le_of_ble_eq_true rfl, rfl, rfl, Nat.zero_le _, Nat.zero_le _⟩ rfl hl.1 [] rfl (Nat.le_of_ble_eq_true rfl) dX5_find_60 (fun H locs hW => ?_)
          have hW : ms_W G A s H locs [ob_X1 a_a0 a_a0_row x_a0_size x_a0_overflowed, (a_a0_row, .inl (G.2.1 0, 200, .inl x_a0_row))] := hW
          refine W.eq (g2 := F0 m 63 ls [.int q60]) rfl ?_
          obtain rfl := Option.some.inj h
          exact ms_iret hX hW dX5_find_63
      · have h := ms_ifn h k
        refine lv_bipush (v := 60) hx hb dX5_find_40 (by decide) ?_
        refine lv_iconst (v := 4) hx hb dX5_find_42 (by decide) ?_
        obtain ⟨q43, hq43, h⟩ := ms_bd h
        refine ms_callS (fn_X5_join l G 60 4 hq43) wm_X5_join wz_X5_25 hX hW [] rfl rfl rfl ⟨Nat.le_of_ble_eq_true rfl, Nat.le_of_ble_eq_true rfl, rfl, rfl, Nat.zero_le _, Nat.zero_le _⟩ rfl hl.1 [] rfl (Nat.le_of_ble_eq_true rfl) dX5_find_43 (fun H locs hW => ?_)
        have hW : ms_W G A s H locs [ob_X1 a_a0 a_a0_row x_a0_size x_a0_overflowed, (a_a0_row, .inl (G.2.1 0, 200, .inl x_a0_row))] := hW
        refine W.eq (g2 := F0 m 46 ls [.int q43]) rfl ?_
        obtain rfl := Option.some.inj h
        exact ms_iret hX hW dX5_find_46
    · have h := ms_ifp h k
      refine lv_aload_n hx hb dX5_find_24 rfl (lv_at hl 0 rfl) ?_
      refine lv_iload_n hx hb dX5_find_25 rfl (lv_at hl 1 rfl) ?_
      obtain ⟨q26, hq26, h⟩ := ms_bd h
      refine ms_callS (fn_X5_findNumber l G a_a0 a_a0_row x_a0_size x_a0_overflowed x_a0_row v1 hq26) wm_X5_findNumber wz_X5_15 hX hW [0, 1] rfl rfl rfl ⟨Nat.le_of_ble_eq_true rfl, Nat.le_of_ble_eq_true rfl, rfl, rfl, Nat.zero_le _, Nat.zero_le _⟩ rfl hl.1 [] rfl (Nat.le_of_ble_eq_true rfl) dX5_find_26 (fun H locs hW => ?_)
      have hW : ms_W G A s H locs [ob_X1 a_a0 a_a0_row x_a0_size x_a0_overflowed, (a_a0_row, .inl (G.2.1 0, 200, .inl x_a0_row))] := hW
      refine W.eq (g2 := F0 m 29 ls [.int q26]) rfl ?_
      obtain rfl := Option.some.inj h
      exact ms_iret hX hW dX5_find_29
  · have h := ms_ifn h k
    refine lv_iconst (v := 0) hx hb dX5_find_10 (by decide) ?_
    obtain rfl := Option.some.inj h
    exact ms_iret hX hW dX5_find_11
def rm_X5_sizeOf : Room := { frames := 0, cells := 0, slots := 0, locals := 0 }
def f_X5_sizeOf  (v0 : Int32) : Option (Int32) := some (v0 >>> ((8 : Int32) &&& 31))
set_option maxHeartbeats 4000000 in
set_option maxRecDepth 100000 in
theorem fn_X5_sizeOf (l : Launch) (G : Gc)   (v0 : Int32)  {o : Int32} (h : f_X5_sizeOf v0 = some o) : ms_Fn l G yX5_sizeOf cX5_sizeOf 1 (some .int) rm_X5_sizeOf [.int v0] [] [] (some (.int o)) := by
  refine ms_start RX5 (by decide +kernel) rfl (Nat.le_of_ble_eq_true rfl) (fun p e s m below meth c A ls hX hW hl => ?_)
  have hx := hX.1.1
  have hb := hX.1.2.1
  have hl : lv_has ls 1 [(0, .int v0)] := hl
  unfold f_X5_sizeOf at h
  refine lv_iload_n hx hb dX5_sizeOf_0 rfl (lv_at hl 0 rfl) ?_
  refine lv_bipush (v := 8) hx hb dX5_sizeOf_1 (by decide) ?_
  refine lv_ishr hx hb dX5_sizeOf_3 ?_
  obtain rfl := Option.some.inj h
  exact ms_iret hX hW dX5_sizeOf_4
def rm_X5_characterOf : Room := { frames := 0, cells := 0, slots := 0, locals := 0 }
def f_X5_characterOf  (v0 : Int32) : Option (Int32) := ms_gc (((v0 &&& (255 : Int32)).toUInt32 % 65536).toInt32) (some (((v0 &&& (255 : Int32)).toUInt32 % 65536).toInt32))
set_option maxHeartbeats 4000000 in
set_option maxRecDepth 100000 in
theorem fn_X5_characterOf (l : Launch) (G : Gc)   (v0 : Int32)  {o : Int32} (h : f_X5_characterOf v0 = some o) : ms_Fn l G yX5_characterOf cX5_characterOf 1 (some .char) rm_X5_characterOf [.int v0] [] [] (some (.int o)) := by
  refine ms_start RX5 (by decide +kernel) rfl (Nat.le_of_ble_eq_true rfl) (fun p e s m below meth c A ls hX hW hl => ?_)
  have hx := hX.1.1
  have hb := hX.1.2.1
  have hl : lv_has ls 1 [(0, .int v0)] := hl
  unfold f_X5_characterOf at h
  refine lv_iload_n hx hb dX5_characterOf_0 rfl (lv_at hl 0 rfl) ?_
  refine lv_sipush (v := 255) hx hb dX5_characterOf_1 (by decide) ?_
  refine lv_iand hx hb dX5_characterOf_4 ?_
  refine lv_i2c (v := ((v0 &&& (255 : Int32)).toUInt32 % 65536).toInt32) hx hb dX5_characterOf_5 rfl ?_
  obtain ⟨k, h⟩ := ms_gc_some h
  obtain rfl := Option.some.inj h
  exact ms_zret hX (ms_nc k) hW dX5_characterOf_6
def rm_X1_add : Room := { frames := 0, cells := 0, slots := 0, locals := 0 }
def f_X1_add (x_size : Int32) (x_overflowed : Int32) (x_row : Nat → Int32) (v1 : Int32) : Option (Int32 × Int32 × (Nat → Int32)) := (if x_size < 200 then ms_gi x_size 200 (some (x_size + 1, x_overflowed, upd x_row x_size.toNatClampNeg (vp_nar .char v1))) else some (x_size, 1, x_row))
set_option maxHeartbeats 4000000 in
set_option maxRecDepth 100000 in
theorem fn_X1_add (l : Launch) (G : Gc) (a_this : Nat) (a_row : Nat) (x_size : Int32) (x_overflowed : Int32) (x_row : Nat → Int32) (v1 : Int32)  {o : Int32 × Int32 × (Nat → Int32)} (h : f_X1_add x_size x_overflowed x_row v1 = some o) : ms_Fn l G yX1_add cX1_add 2 none rm_X1_add [.ref a_this, .int v1] [ob_X1 a_this a_row x_size x_overflowed, (a_row, .inl (G.2.1 0, 200, .inl x_row))] [ob_X1 a_this a_row o.1 o.2.1, (a_row, .inl (G.2.1 0, 200, .inl o.2.2))] none := by
  refine ms_start RX1 (by decide +kernel) rfl (Nat.le_of_ble_eq_true rfl) (fun p e s m below meth c A ls hX hW hl => ?_)
  have hx := hX.1.1
  have hb := hX.1.2.1
  have hl : lv_has ls 2 [(0, .ref a_this), (1, .int v1)] := hl
  unfold f_X1_add at h
  refine lv_aload_n hx hb dX1_add_0 rfl (lv_at hl 0 rfl) ?_
  refine ms_get ff_X1_15 hX hW 0 rfl rfl dX1_add_1 ?_
  refine lv_sipush (v := 200) hx hb dX1_add_4 (by decide) ?_
  refine lv_icmp_lt (tgt := 16) hx hb dX1_add_7 (by decide) (fun k => ?_) (fun k => ?_)
  · have h := ms_ifp h k
    refine lv_aload_n hx hb dX1_add_16 rfl (lv_at hl 0 rfl) ?_
    refine ms_get ff_X1_9 hX hW 0 rfl rfl dX1_add_17 ?_
    refine lv_aload_n hx hb dX1_add_20 rfl (lv_at hl 0 rfl) ?_
    refine ms_get ff_X1_15 hX hW 0 rfl rfl dX1_add_21 ?_
    refine lv_iload_n hx hb dX1_add_24 rfl (lv_at hl 1 rfl) ?_
    obtain ⟨k, h⟩ := ms_gi_some h
    refine ms_cast hX hW 1 rfl k dX1_add_25 (fun H locs hW => ?_)
    have hW : ms_W G A s H locs [ob_X1 a_this a_row x_size x_overflowed, (a_row, .inl (G.2.1 0, 200, .inl (upd x_row x_size.toNatClampNeg (vp_nar .char v1))))] := hW
    refine lv_aload_n hx hb dX1_add_26 rfl (lv_at hl 0 rfl) ?_
    refine lv_dup hx hb dX1_add_27 rfl ?_
    refine ms_get ff_X1_15 hX hW 0 rfl rfl dX1_add_28 ?_
    refine lv_iconst (v := 1) hx hb dX1_add_31 (by decide) ?_
    refine lv_iadd hx hb dX1_add_32 ?_
    refine ms_put ff_X1_15 fp_X1_1 rfl hX hW 0 rfl rfl rfl (Nat.le_of_ble_eq_true rfl) dX1_add_33 (fun H locs hW => ?_)
    have hW : ms_W G A s H locs [ob_X1 a_this a_row (x_size + 1) x_overflowed, (a_row, .inl (G.2.1 0, 200, .inl (upd x_row x_size.toNatClampNeg (vp_nar .char v1))))] := hW
    obtain rfl := Option.some.inj h
    exact ms_vret hX hW dX1_add_36
  · have h := ms_ifn h k
    refine lv_aload_n hx hb dX1_add_10 rfl (lv_at hl 0 rfl) ?_
    refine lv_iconst (v := 1) hx hb dX1_add_11 (by decide) ?_
    refine ms_put ff_X1_19 fp_X1_2 rfl hX hW 0 rfl (by decide) (by decide) (Nat.le_of_ble_eq_true rfl) dX1_add_12 (fun H locs hW => ?_)
    have hW : ms_W G A s H locs [ob_X1 a_this a_row x_size 1, (a_row, .inl (G.2.1 0, 200, .inl x_row))] := hW
    obtain rfl := Option.some.inj h
    exact ms_vret hX hW dX1_add_15
def rm_X1_addResolved : Room := { frames := 6, cells := 0, slots := 0, locals := 129 }
def f_X1_addResolved_L81 (x_a1_size : Int32) (x_a1_row : Nat → Int32) (v2 : Int32) (v3 : Int32) (kk : Int32 → Int32 → (Nat → Int32) → Int32 → Option (Int32 × Int32 × (Nat → Int32))) (x_size : Int32) (x_overflowed : Int32) (x_row : Nat → Int32) (z0 : Int32) (z1 : Int32) : Option (Int32 × Int32 × (Nat → Int32)) := kk x_size x_overflowed x_row (z0 + z1)
set_option maxHeartbeats 4000000 in
set_option maxRecDepth 100000 in
theorem wb_X1_addResolved_L81 {p : Program} {l : Launch} {e : Env} {s : State} {m : MethodId} {args : Array Value} {below : List Frame} {meth : Method} {c : Code} {G : Gc} {A : Nat → Prop} {H : Heap} {locs : List Loc} {ls : Array Slot} {a_this : Nat} {a_row : Nat} {a_a1 : Nat} {a_a1_row : Nat} {x_a1_size : Int32} {x_a1_overflowed : Int32} {x_a1_row : Nat → Int32} {v2 : Int32} {v3 : Int32} {kk : Int32 → Int32 → (Nat → Int32) → Int32 → Option (Int32 × Int32 × (Nat → Int32))} {Q : State → Prop} {x_size : Int32} {x_overflowed : Int32} {x_row : Nat → Int32} {z0 : Int32} {z1 : Int32} {o : Int32 × Int32 × (Nat → Int32)} (hX : ms_CX p s m args meth c cX1_addResolved 8 RX1 none G A) (hq : ∀ (H : Heap) (locs : List Loc) (ls : Array Slot), ms_W G A s H locs [ob_X1 a_this a_row o.1 o.2.1, (a_row, .inl (G.2.1 0, 200, .inl o.2.2)), ob_X1 a_a1 a_a1_row x_a1_size x_a1_overflowed, (a_a1_row, .inl (G.2.1 0, 200, .inl x_a1_row))] → lv_has ls 8 [] → W p l e rm_X1_addResolved s m args below meth c H locs 0 0 Q (F0 m 87 ls [])) (ih : ∀ (x_size : Int32) (x_overflowed : Int32) (x_row : Nat → Int32) (v4 : Int32) (H : Heap) (locs : List Loc) (ls : Array Slot), kk x_size x_overflowed x_row v4 = some o → ms_W G A s H locs [ob_X1 a_this a_row x_size x_overflowed, (a_row, .inl (G.2.1 0, 200, .inl x_row)), ob_X1 a_a1 a_a1_row x_a1_size x_a1_overflowed, (a_a1_row, .inl (G.2.1 0, 200, .inl x_a1_row))] → lv_has ls 8 [(0, .ref a_this), (1, .ref a_a1), (3, .int v3), (4, .int v4)] → W p l e rm_X1_addResolved s m args below meth c H locs 0 0 Q (F0 m 3 ls [])) (h : f_X1_addResolved_L81 x_a1_size x_a1_row v2 v3 kk x_size x_overflowed x_row z0 z1 = some o) (hW : ms_W G A s H locs [ob_X1 a_this a_row x_size x_overflowed, (a_row, .inl (G.2.1 0, 200, .inl x_row)), ob_X1 a_a1 a_a1_row x_a1_size x_a1_overflowed, (a_a1_row, .inl (G.2.1 0, 200, .inl x_a1_row))]) (hl : lv_has ls 8 [(0, .ref a_this), (1, .ref a_a1), (3, .int v3)]) : W p l e rm_X1_addResolved s m args below meth c H locs 0 0 Q (F0 m 81 ls [.int z1, .int z0]) := by
  have hx := hX.1.1
  have hb := hX.1.2.1
  unfold f_X1_addResolved_L81 at h
  refine lv_iadd hx hb dX1_addResolved_81 ?_
  refine lv_istore (lv' := [(4, .int (z0 + z1)), (0, .ref a_this), (1, .ref a_a1), (3, .int v3)]) hx hb dX1_addResolved_82 hl (by decide) rfl (fun ls hl => ?_)
  refine lv_goto (tgt := 3) hx hb dX1_addResolved_84 (by decide) ?_
  exact ih _ _ _ _ _ _ _ h hW (lv_sub hl [1, 2, 3, 0] rfl)
def f_X1_addResolved_L65 (x_a1_size : Int32) (x_a1_row : Nat → Int32) (v2 : Int32) (v3 : Int32) (kk : Int32 → Int32 → (Nat → Int32) → Int32 → Option (Int32 × Int32 × (Nat → Int32))) (x_size : Int32) (x_overflowed : Int32) (x_row : Nat → Int32) (v4 : Int32) (v6 : Int32) (v7 : Int32) (z1 : Int32) : Option (Int32 × Int32 × (Nat → Int32)) := (f_X1_add x_size x_overflowed x_row z1).bind (fun q65 => (if v7 = 0 then f_X1_addResolved_L81 x_a1_size x_a1_row v2 v3 (kk) q65.1 q65.2.1 q65.2.2 v4 1 else f_X1_addResolved_L81 x_a1_size x_a1_row v2 v3 (kk) q65.1 q65.2.1 q65.2.2 v4 v6))
set_option maxHeartbeats 4000000 in
set_option maxRecDepth 100000 in
theorem wb_X1_addResolved_L65 {p : Program} {l : Launch} {e : Env} {s : State} {m : MethodId} {args : Array Value} {below : List Frame} {meth : Method} {c : Code} {G : Gc} {A : Nat → Prop} {H : Heap} {locs : List Loc} {ls : Array Slot} {a_this : Nat} {a_row : Nat} {a_a1 : Nat} {a_a1_row : Nat} {x_a1_size : Int32} {x_a1_overflowed : Int32} {x_a1_row : Nat → Int32} {v2 : Int32} {v3 : Int32} {kk : Int32 → Int32 → (Nat → Int32) → Int32 → Option (Int32 × Int32 × (Nat → Int32))} {Q : State → Prop} {x_size : Int32} {x_overflowed : Int32} {x_row : Nat → Int32} {v4 : Int32} {v6 : Int32} {v7 : Int32} {z1 : Int32} {o : Int32 × Int32 × (Nat → Int32)} (hX : ms_CX p s m args meth c cX1_addResolved 8 RX1 none G A) (hq : ∀ (H : Heap) (locs : List Loc) (ls : Array Slot), ms_W G A s H locs [ob_X1 a_this a_row o.1 o.2.1, (a_row, .inl (G.2.1 0, 200, .inl o.2.2)), ob_X1 a_a1 a_a1_row x_a1_size x_a1_overflowed, (a_a1_row, .inl (G.2.1 0, 200, .inl x_a1_row))] → lv_has ls 8 [] → W p l e rm_X1_addResolved s m args below meth c H locs 0 0 Q (F0 m 87 ls [])) (ih : ∀ (x_size : Int32) (x_overflowed : Int32) (x_row : Nat → Int32) (v4 : Int32) (H : Heap) (locs : List Loc) (ls : Array Slot), kk x_size x_overflowed x_row v4 = some o → ms_W G A s H locs [ob_X1 a_this a_row x_size x_overflowed, (a_row, .inl (G.2.1 0, 200, .inl x_row)), ob_X1 a_a1 a_a1_row x_a1_size x_a1_overflowed, (a_a1_row, .inl (G.2.1 0, 200, .inl x_a1_row))] → lv_has ls 8 [(0, .ref a_this), (1, .ref a_a1), (3, .int v3), (4, .int v4)] → W p l e rm_X1_addResolved s m args below meth c H locs 0 0 Q (F0 m 3 ls [])) (h : f_X1_addResolved_L65 x_a1_size x_a1_row v2 v3 kk x_size x_overflowed x_row v4 v6 v7 z1 = some o) (hW : ms_W G A s H locs [ob_X1 a_this a_row x_size x_overflowed, (a_row, .inl (G.2.1 0, 200, .inl x_row)), ob_X1 a_a1 a_a1_row x_a1_size x_a1_overflowed, (a_a1_row, .inl (G.2.1 0, 200, .inl x_a1_row))]) (hl : lv_has ls 8 [(0, .ref a_this), (1, .ref a_a1), (3, .int v3), (4, .int v4), (6, .int v6), (7, .int v7)]) : W p l e rm_X1_addResolved s m args below meth c H locs 0 0 Q (F0 m 65 ls [.int z1, .ref a_this]) := by
  have hx := hX.1.1
  have hb := hX.1.2.1
  unfold f_X1_addResolved_L65 at h
  obtain ⟨q65, hq65, h⟩ := ms_bd h
  refine ms_callV (fn_X1_add l G a_this a_row x_size x_overflowed x_row z1 hq65) wm_X1_add wv_X1_33 hX hW [0, 1] rfl rfl rfl rfl rfl ⟨Nat.le_of_ble_eq_true rfl, Nat.le_of_ble_eq_true rfl, rfl, rfl, Nat.zero_le _, Nat.zero_le _⟩ rfl hl.1 [] rfl (Nat.le_of_ble_eq_true rfl) dX1_addResolved_65 (fun H locs hW => ?_)
  have hW : ms_W G A s H locs [ob_X1 a_this a_row q65.1 q65.2.1, (a_row, .inl (G.2.1 0, 200, .inl q65.2.2)), ob_X1 a_a1 a_a1_row x_a1_size x_a1_overflowed, (a_a1_row, .inl (G.2.1 0, 200, .inl x_a1_row))] := hW
  refine W.eq (g2 := F0 m 68 ls []) rfl ?_
  refine lv_iload hx hb dX1_addResolved_68 (lv_at hl 3 rfl) ?_
  refine lv_iload hx hb dX1_addResolved_70 (lv_at hl 5 rfl) ?_
  refine lv_if_eq (tgt := 80) hx hb dX1_addResolved_72 (by decide) (fun k => ?_) (fun k => ?_)
  · have h := ms_ifp h k
    refine lv_iconst (v := 1) hx hb dX1_addResolved_80 (by decide) ?_
    exact wb_X1_addResolved_L81 hX hq (ih) h hW (lv_sub hl [0, 1, 2] rfl)
  · have h := ms_ifn h k
    refine lv_iload hx hb dX1_addResolved_75 (lv_at hl 4 rfl) ?_
    refine lv_goto (tgt := 81) hx hb dX1_addResolved_77 (by decide) ?_
    exact wb_X1_addResolved_L81 hX hq (ih) h hW (lv_sub hl [0, 1, 2] rfl)
def f_X1_addResolved_L43 (x_a1_size : Int32) (x_a1_row : Nat → Int32) (v2 : Int32) (v3 : Int32) (kk : Int32 → Int32 → (Nat → Int32) → Int32 → Option (Int32 × Int32 × (Nat → Int32))) (x_size : Int32) (x_overflowed : Int32) (x_row : Nat → Int32) (v4 : Int32) (v5 : Int32) (v6 : Int32) (z0 : Int32) : Option (Int32 × Int32 × (Nat → Int32)) := (if z0 = 0 then (f_X1_at x_a1_size x_a1_row v4).bind (fun q62 => f_X1_addResolved_L65 x_a1_size x_a1_row v2 v3 (kk) x_size x_overflowed x_row v4 v6 z0 q62) else (f_X5_characterOf v5).bind (fun q53 => f_X1_addResolved_L65 x_a1_size x_a1_row v2 v3 (kk) x_size x_overflowed x_row v4 v6 z0 q53))
set_option maxHeartbeats 4000000 in
set_option maxRecDepth 100000 in
theorem wb_X1_addResolved_L43 {p : Program} {l : Launch} {e : Env} {s : State} {m : MethodId} {args : Array Value} {below : List Frame} {meth : Method} {c : Code} {G : Gc} {A : Nat → Prop} {H : Heap} {locs : List Loc} {ls : Array Slot} {a_this : Nat} {a_row : Nat} {a_a1 : Nat} {a_a1_row : Nat} {x_a1_size : Int32} {x_a1_overflowed : Int32} {x_a1_row : Nat → Int32} {v2 : Int32} {v3 : Int32} {kk : Int32 → Int32 → (Nat → Int32) → Int32 → Option (Int32 × Int32 × (Nat → Int32))} {Q : State → Prop} {x_size : Int32} {x_overflowed : Int32} {x_row : Nat → Int32} {v4 : Int32} {v5 : Int32} {v6 : Int32} {z0 : Int32} {o : Int32 × Int32 × (Nat → Int32)} (hX : ms_CX p s m args meth c cX1_addResolved 8 RX1 none G A) (hq : ∀ (H : Heap) (locs : List Loc) (ls : Array Slot), ms_W G A s H locs [ob_X1 a_this a_row o.1 o.2.1, (a_row, .inl (G.2.1 0, 200, .inl o.2.2)), ob_X1 a_a1 a_a1_row x_a1_size x_a1_overflowed, (a_a1_row, .inl (G.2.1 0, 200, .inl x_a1_row))] → lv_has ls 8 [] → W p l e rm_X1_addResolved s m args below meth c H locs 0 0 Q (F0 m 87 ls [])) (ih : ∀ (x_size : Int32) (x_overflowed : Int32) (x_row : Nat → Int32) (v4 : Int32) (H : Heap) (locs : List Loc) (ls : Array Slot), kk x_size x_overflowed x_row v4 = some o → ms_W G A s H locs [ob_X1 a_this a_row x_size x_overflowed, (a_row, .inl (G.2.1 0, 200, .inl x_row)), ob_X1 a_a1 a_a1_row x_a1_size x_a1_overflowed, (a_a1_row, .inl (G.2.1 0, 200, .inl x_a1_row))] → lv_has ls 8 [(0, .ref a_this), (1, .ref a_a1), (3, .int v3), (4, .int v4)] → W p l e rm_X1_addResolved s m args below meth c H locs 0 0 Q (F0 m 3 ls [])) (h : f_X1_addResolved_L43 x_a1_size x_a1_row v2 v3 kk x_size x_overflowed x_row v4 v5 v6 z0 = some o) (hW : ms_W G A s H locs [ob_X1 a_this a_row x_size x_overflowed, (a_row, .inl (G.2.1 0, 200, .inl x_row)), ob_X1 a_a1 a_a1_row x_a1_size x_a1_overflowed, (a_a1_row, .inl (G.2.1 0, 200, .inl x_a1_row))]) (hl : lv_has ls 8 [(0, .ref a_this), (1, .ref a_a1), (3, .int v3), (4, .int v4), (5, .int v5), (6, .int v6)]) : W p l e rm_X1_addResolved s m args below meth c H locs 0 0 Q (F0 m 43 ls [.int z0]) := by
  have hx := hX.1.1
  have hb := hX.1.2.1
  unfold f_X1_addResolved_L43 at h
  refine lv_istore (lv' := [(7, .int z0), (0, .ref a_this), (1, .ref a_a1), (3, .int v3), (4, .int v4), (5, .int v5), (6, .int v6)]) hx hb dX1_addResolved_43 hl (by decide) rfl (fun ls hl => ?_)
  refine lv_aload_n hx hb dX1_addResolved_45 rfl (lv_at hl 1 rfl) ?_
  refine lv_iload hx hb dX1_addResolved_46 (lv_at hl 0 rfl) ?_
  refine lv_if_eq (tgt := 59) hx hb dX1_addResolved_48 (by decide) (fun k => ?_) (fun k => ?_)
  · have h := ms_ifp h k
    refine lv_aload_n hx hb dX1_addResolved_59 rfl (lv_at hl 2 rfl) ?_
    refine lv_iload hx hb dX1_addResolved_60 (lv_at hl 4 rfl) ?_
    obtain ⟨q62, hq62, h⟩ := ms_bd h
    refine ms_callV (fn_X1_at l G a_a1 a_a1_row x_a1_size x_a1_overflowed x_a1_row v4 hq62) wm_X1_at wv_X1_37 hX hW [2, 3] rfl rfl rfl rfl rfl ⟨Nat.le_of_ble_eq_true rfl, Nat.le_of_ble_eq_true rfl, rfl, rfl, Nat.zero_le _, Nat.zero_le _⟩ rfl hl.1 [.ref a_this] rfl (Nat.le_of_ble_eq_true rfl) dX1_addResolved_62 (fun H locs hW => ?_)
    have hW : ms_W G A s H locs [ob_X1 a_this a_row x_size x_overflowed, (a_row, .inl (G.2.1 0, 200, .inl x_row)), ob_X1 a_a1 a_a1_row x_a1_size x_a1_overflowed, (a_a1_row, .inl (G.2.1 0, 200, .inl x_a1_row))] := hW
    refine W.eq (g2 := F0 m 65 ls [.int q62, .ref a_this]) rfl ?_
    exact wb_X1_addResolved_L65 hX hq (ih) h hW (lv_sub hl [1, 2, 3, 4, 6, 0] rfl)
  · have h := ms_ifn h k
    refine lv_iload hx hb dX1_addResolved_51 (lv_at hl 5 rfl) ?_
    obtain ⟨q53, hq53, h⟩ := ms_bd h
    refine ms_callS (fn_X5_characterOf l G v5 hq53) wm_X5_characterOf wz_X1_57 hX hW [] rfl rfl rfl ⟨Nat.le_of_ble_eq_true rfl, Nat.le_of_ble_eq_true rfl, rfl, rfl, Nat.zero_le _, Nat.zero_le _⟩ rfl hl.1 [.ref a_this] rfl (Nat.le_of_ble_eq_true rfl) dX1_addResolved_53 (fun H locs hW => ?_)
    have hW : ms_W G A s H locs [ob_X1 a_this a_row x_size x_overflowed, (a_row, .inl (G.2.1 0, 200, .inl x_row)), ob_X1 a_a1 a_a1_row x_a1_size x_a1_overflowed, (a_a1_row, .inl (G.2.1 0, 200, .inl x_a1_row))] := hW
    refine W.eq (g2 := F0 m 56 ls [.int q53, .ref a_this]) rfl ?_
    refine lv_goto (tgt := 65) hx hb dX1_addResolved_56 (by decide) ?_
    exact wb_X1_addResolved_L65 hX hq (ih) h hW (lv_sub hl [1, 2, 3, 4, 6, 0] rfl)
def f_X1_addResolved_L42 (x_a1_size : Int32) (x_a1_row : Nat → Int32) (v2 : Int32) (v3 : Int32) (kk : Int32 → Int32 → (Nat → Int32) → Int32 → Option (Int32 × Int32 × (Nat → Int32))) (x_size : Int32) (x_overflowed : Int32) (x_row : Nat → Int32) (v4 : Int32) (v5 : Int32) (v6 : Int32) : Option (Int32 × Int32 × (Nat → Int32)) := f_X1_addResolved_L43 x_a1_size x_a1_row v2 v3 (kk) x_size x_overflowed x_row v4 v5 v6 0
set_option maxHeartbeats 4000000 in
set_option maxRecDepth 100000 in
theorem wb_X1_addResolved_L42 {p : Program} {l : Launch} {e : Env} {s : State} {m : MethodId} {args : Array Value} {below : List Frame} {meth : Method} {c : Code} {G : Gc} {A : Nat → Prop} {H : Heap} {locs : List Loc} {ls : Array Slot} {a_this : Nat} {a_row : Nat} {a_a1 : Nat} {a_a1_row : Nat} {x_a1_size : Int32} {x_a1_overflowed : Int32} {x_a1_row : Nat → Int32} {v2 : Int32} {v3 : Int32} {kk : Int32 → Int32 → (Nat → Int32) → Int32 → Option (Int32 × Int32 × (Nat → Int32))} {Q : State → Prop} {x_size : Int32} {x_overflowed : Int32} {x_row : Nat → Int32} {v4 : Int32} {v5 : Int32} {v6 : Int32} {o : Int32 × Int32 × (Nat → Int32)} (hX : ms_CX p s m args meth c cX1_addResolved 8 RX1 none G A) (hq : ∀ (H : Heap) (locs : List Loc) (ls : Array Slot), ms_W G A s H locs [ob_X1 a_this a_row o.1 o.2.1, (a_row, .inl (G.2.1 0, 200, .inl o.2.2)), ob_X1 a_a1 a_a1_row x_a1_size x_a1_overflowed, (a_a1_row, .inl (G.2.1 0, 200, .inl x_a1_row))] → lv_has ls 8 [] → W p l e rm_X1_addResolved s m args below meth c H locs 0 0 Q (F0 m 87 ls [])) (ih : ∀ (x_size : Int32) (x_overflowed : Int32) (x_row : Nat → Int32) (v4 : Int32) (H : Heap) (locs : List Loc) (ls : Array Slot), kk x_size x_overflowed x_row v4 = some o → ms_W G A s H locs [ob_X1 a_this a_row x_size x_overflowed, (a_row, .inl (G.2.1 0, 200, .inl x_row)), ob_X1 a_a1 a_a1_row x_a1_size x_a1_overflowed, (a_a1_row, .inl (G.2.1 0, 200, .inl x_a1_row))] → lv_has ls 8 [(0, .ref a_this), (1, .ref a_a1), (3, .int v3), (4, .int v4)] → W p l e rm_X1_addResolved s m args below meth c H locs 0 0 Q (F0 m 3 ls [])) (h : f_X1_addResolved_L42 x_a1_size x_a1_row v2 v3 kk x_size x_overflowed x_row v4 v5 v6 = some o) (hW : ms_W G A s H locs [ob_X1 a_this a_row x_size x_overflowed, (a_row, .inl (G.2.1 0, 200, .inl x_row)), ob_X1 a_a1 a_a1_row x_a1_size x_a1_overflowed, (a_a1_row, .inl (G.2.1 0, 200, .inl x_a1_row))]) (hl : lv_has ls 8 [(0, .ref a_this), (1, .ref a_a1), (3, .int v3), (4, .int v4), (5, .int v5), (6, .int v6)]) : W p l e rm_X1_addResolved s m args below meth c H locs 0 0 Q (F0 m 42 ls []) := by
  have hx := hX.1.1
  have hb := hX.1.2.1
  unfold f_X1_addResolved_L42 at h
  refine lv_iconst (v := 0) hx hb dX1_addResolved_42 (by decide) ?_
  exact wb_X1_addResolved_L43 hX hq (ih) h hW (lv_sub hl [0, 1, 2, 3, 4, 5] rfl)
def f_X1_addResolved_L3 (x_a1_size : Int32) (x_a1_row : Nat → Int32) (v2 : Int32) (v3 : Int32) : Nat → Int32 → Int32 → (Nat → Int32) → Int32 → Option (Int32 × Int32 × (Nat → Int32))
  | 0, _, _, _, _ => none
  | n + 1, x_size, x_overflowed, x_row, v4 => (if v3 ≤ v4 then some (x_size, x_overflowed, x_row) else (f_X5_find x_a1_size x_a1_row v4).bind (fun q12 => (f_X5_sizeOf q12).bind (fun q19 => (if q19 ≤ 0 then f_X1_addResolved_L42 x_a1_size x_a1_row v2 v3 (f_X1_addResolved_L3 x_a1_size x_a1_row v2 v3 n) x_size x_overflowed x_row v4 q12 q19 else (if v3 < (v4 + q19) then f_X1_addResolved_L42 x_a1_size x_a1_row v2 v3 (f_X1_addResolved_L3 x_a1_size x_a1_row v2 v3 n) x_size x_overflowed x_row v4 q12 q19 else f_X1_addResolved_L43 x_a1_size x_a1_row v2 v3 (f_X1_addResolved_L3 x_a1_size x_a1_row v2 v3 n) x_size x_overflowed x_row v4 q12 q19 1)))))
set_option maxHeartbeats 4000000 in
set_option maxRecDepth 100000 in
theorem wb_X1_addResolved_L3 {p : Program} {l : Launch} {e : Env} {s : State} {m : MethodId} {args : Array Value} {below : List Frame} {meth : Method} {c : Code} {G : Gc} {A : Nat → Prop} {a_this : Nat} {a_row : Nat} {a_a1 : Nat} {a_a1_row : Nat} {x_a1_size : Int32} {x_a1_overflowed : Int32} {x_a1_row : Nat → Int32} {v2 : Int32} {v3 : Int32} {Q : State → Prop} {o : Int32 × Int32 × (Nat → Int32)} (hX : ms_CX p s m args meth c cX1_addResolved 8 RX1 none G A) (hq : ∀ (H : Heap) (locs : List Loc) (ls : Array Slot), ms_W G A s H locs [ob_X1 a_this a_row o.1 o.2.1, (a_row, .inl (G.2.1 0, 200, .inl o.2.2)), ob_X1 a_a1 a_a1_row x_a1_size x_a1_overflowed, (a_a1_row, .inl (G.2.1 0, 200, .inl x_a1_row))] → lv_has ls 8 [] → W p l e rm_X1_addResolved s m args below meth c H locs 0 0 Q (F0 m 87 ls [])) : ∀ (n : Nat) (x_size : Int32) (x_overflowed : Int32) (x_row : Nat → Int32) (v4 : Int32) (H : Heap) (locs : List Loc) (ls : Array Slot), f_X1_addResolved_L3 x_a1_size x_a1_row v2 v3 n x_size x_overflowed x_row v4 = some o → ms_W G A s H locs [ob_X1 a_this a_row x_size x_overflowed, (a_row, .inl (G.2.1 0, 200, .inl x_row)), ob_X1 a_a1 a_a1_row x_a1_size x_a1_overflowed, (a_a1_row, .inl (G.2.1 0, 200, .inl x_a1_row))] → lv_has ls 8 [(0, .ref a_this), (1, .ref a_a1), (3, .int v3), (4, .int v4)] → W p l e rm_X1_addResolved s m args below meth c H locs 0 0 Q (F0 m 3 ls []) := by
  have hx := hX.1.1
  have hb := hX.1.2.1
  intro n
  induction n with
  | zero => intro x_size x_overflowed x_row v4 H locs ls h; rw [f_X1_addResolved_L3] at h; cases h
  | succ n ih =>
    intro x_size x_overflowed x_row v4 H locs ls h hW hl
    rw [f_X1_addResolved_L3] at h
    refine lv_iload hx hb dX1_addResolved_3 (lv_at hl 3 rfl) ?_
    refine lv_iload_n hx hb dX1_addResolved_5 rfl (lv_at hl 2 rfl) ?_
    refine lv_icmp_ge (tgt := 87) hx hb dX1_addResolved_6 (by decide) (fun k => ?_) (fun k => ?_)
    · have h := ms_ifp h k
      obtain rfl := Option.some.inj h
      exact hq _ _ _ hW (lv_sub hl [] rfl)
    · have h := ms_ifn h k
      refine lv_aload_n hx hb dX1_addResolved_9 rfl (lv_at hl 1 rfl) ?_
      refine lv_iload hx hb dX1_addResolved_10 (lv_at hl 3 rfl) ?_
      obtain ⟨q12, hq12, h⟩ := ms_bd h
      refine ms_callS (fn_X5_find l G a_a1 a_a1_row x_a1_size x_a1_overflowed x_a1_row v4 hq12) wm_X5_find wz_X1_47 hX hW [2, 3] rfl rfl rfl ⟨Nat.le_of_ble_eq_true rfl, Nat.le_of_ble_eq_true rfl, rfl, rfl, Nat.zero_le _, Nat.zero_le _⟩ rfl hl.1 [] rfl (Nat.le_of_ble_eq_true rfl) dX1_addResolved_12 (fun H locs hW => ?_)
      have hW : ms_W G A s H locs [ob_X1 a_this a_row x_size x_overflowed, (a_row, .inl (G.2.1 0, 200, .inl x_row)), ob_X1 a_a1 a_a1_row x_a1_size x_a1_overflowed, (a_a1_row, .inl (G.2.1 0, 200, .inl x_a1_row))] := hW
      refine W.eq (g2 := F0 m 15 ls [.int q12]) rfl ?_
      refine lv_istore (lv' := [(5, .int q12), (0, .ref a_this), (1, .ref a_a1), (3, .int v3), (4, .int v4)]) hx hb dX1_addResolved_15 hl (by decide) rfl (fun ls hl => ?_)
      refine lv_iload hx hb dX1_addResolved_17 (lv_at hl 0 rfl) ?_
      obtain ⟨q19, hq19, h⟩ := ms_bd h
      refine ms_callS (fn_X5_sizeOf l G q12 hq19) wm_X5_sizeOf wz_X1_53 hX hW [] rfl rfl rfl ⟨Nat.le_of_ble_eq_true rfl, Nat.le_of_ble_eq_true rfl, rfl, rfl, Nat.zero_le _, Nat.zero_le _⟩ rfl hl.1 [] rfl (Nat.le_of_ble_eq_true rfl) dX1_addResolved_19 (fun H locs hW => ?_)
      have hW : ms_W G A s H locs [ob_X1 a_this a_row x_size x_overflowed, (a_row, .inl (G.2.1 0, 200, .inl x_row)), ob_X1 a_a1 a_a1_row x_a1_size x_a1_overflowed, (a_a1_row, .inl (G.2.1 0, 200, .inl x_a1_row))] := hW
      refine W.eq (g2 := F0 m 22 ls [.int q19]) rfl ?_
      refine lv_istore (lv' := [(6, .int q19), (5, .int q12), (0, .ref a_this), (1, .ref a_a1), (3, .int v3), (4, .int v4)]) hx hb dX1_addResolved_22 hl (by decide) rfl (fun ls hl => ?_)
      refine lv_iload hx hb dX1_addResolved_24 (lv_at hl 0 rfl) ?_
      refine lv_if_le (tgt := 42) hx hb dX1_addResolved_26 (by decide) (fun k => ?_) (fun k => ?_)
      · have h := ms_ifp h k
        exact wb_X1_addResolved_L42 hX hq (ih) h hW (lv_sub hl [2, 3, 4, 5, 1, 0] rfl)
      · have h := ms_ifn h k
        refine lv_iload hx hb dX1_addResolved_29 (lv_at hl 5 rfl) ?_
        refine lv_iload hx hb dX1_addResolved_31 (lv_at hl 0 rfl) ?_
        refine lv_iadd hx hb dX1_addResolved_33 ?_
        refine lv_iload_n hx hb dX1_addResolved_34 rfl (lv_at hl 4 rfl) ?_
        refine lv_icmp_gt (tgt := 42) hx hb dX1_addResolved_35 (by decide) (fun k => ?_) (fun k => ?_)
        · have h := ms_ifp h k
          exact wb_X1_addResolved_L42 hX hq (ih) h hW (lv_sub hl [2, 3, 4, 5, 1, 0] rfl)
        · have h := ms_ifn h k
          refine lv_iconst (v := 1) hx hb dX1_addResolved_38 (by decide) ?_
          refine lv_goto (tgt := 43) hx hb dX1_addResolved_39 (by decide) ?_
          exact wb_X1_addResolved_L43 hX hq (ih) h hW (lv_sub hl [2, 3, 4, 5, 1, 0] rfl)
def f_X1_addResolved (x_size : Int32) (x_overflowed : Int32) (x_row : Nat → Int32) (x_a1_size : Int32) (x_a1_row : Nat → Int32) (v2 : Int32) (v3 : Int32) : Option (Int32 × Int32 × (Nat → Int32)) := (f_X1_addResolved_L3 x_a1_size x_a1_row v2 v3 1000 x_size x_overflowed x_row v2).bind (fun w3 => some (w3.1, w3.2.1, w3.2.2))
set_option maxHeartbeats 4000000 in
set_option maxRecDepth 100000 in
theorem fn_X1_addResolved (l : Launch) (G : Gc) (a_this : Nat) (a_row : Nat) (a_a1 : Nat) (a_a1_row : Nat) (x_size : Int32) (x_overflowed : Int32) (x_row : Nat → Int32) (x_a1_size : Int32) (x_a1_overflowed : Int32) (x_a1_row : Nat → Int32) (v2 : Int32) (v3 : Int32)  {o : Int32 × Int32 × (Nat → Int32)} (h : f_X1_addResolved x_size x_overflowed x_row x_a1_size x_a1_row v2 v3 = some o) : ms_Fn l G yX1_addResolved cX1_addResolved 8 none rm_X1_addResolved [.ref a_this, .ref a_a1, .int v2, .int v3] [ob_X1 a_this a_row x_size x_overflowed, (a_row, .inl (G.2.1 0, 200, .inl x_row)), ob_X1 a_a1 a_a1_row x_a1_size x_a1_overflowed, (a_a1_row, .inl (G.2.1 0, 200, .inl x_a1_row))] [ob_X1 a_this a_row o.1 o.2.1, (a_row, .inl (G.2.1 0, 200, .inl o.2.2)), ob_X1 a_a1 a_a1_row x_a1_size x_a1_overflowed, (a_a1_row, .inl (G.2.1 0, 200, .inl x_a1_row))] none := by
  refine ms_start RX1 (by decide +kernel) rfl (Nat.le_of_ble_eq_true rfl) (fun p e s m below meth c A ls hX hW hl => ?_)
  have hx := hX.1.1
  have hb := hX.1.2.1
  have hl : lv_has ls 8 [(0, .ref a_this), (1, .ref a_a1), (2, .int v2), (3, .int v3)] := hl
  unfold f_X1_addResolved at h
  refine lv_iload_n hx hb dX1_addResolved_0 rfl (lv_at hl 2 rfl) ?_
  refine lv_istore (lv' := [(4, .int v2), (0, .ref a_this), (1, .ref a_a1), (2, .int v2), (3, .int v3)]) hx hb dX1_addResolved_1 hl (by decide) rfl (fun ls hl => ?_)
  obtain ⟨w3, hqw3, h⟩ := ms_bd h
  refine wb_X1_addResolved_L3 hX (o := w3) (fun H locs ls hW hl => ?_) _ _ _ _ _ _ _ _ hqw3 hW (lv_sub hl [1, 2, 4, 0] rfl)
  obtain rfl := Option.some.inj h
  exact ms_vret hX hW dX1_addResolved_87
def rm_X7_hasNode : Room := { frames := 0, cells := 0, slots := 0, locals := 0 }
def f_X7_hasNode (x_count : Int32) (v1 : Int32) : Option (Int32) := (if v1 < 0 then some 0 else (if x_count ≤ v1 then some 0 else some 1))
set_option maxHeartbeats 4000000 in
set_option maxRecDepth 100000 in
theorem fn_X7_hasNode (l : Launch) (G : Gc) (a_this : Nat) (a_codes : Nat) (a_begins : Nat) (a_ends : Nat) (a_characters : Nat) (a_attributeLetters : Nat) (a_valueBegins : Nat) (a_valueEnds : Nat) (a_values : Nat) (x_count : Int32) (x_attributeCount : Int32) (v1 : Int32)  {o : Int32} (h : f_X7_hasNode x_count v1 = some o) : ms_Fn l G yX7_hasNode cX7_hasNode 2 (some .boolean) rm_X7_hasNode [.ref a_this, .int v1] [ob_X7 a_this a_codes a_begins a_ends x_count a_characters a_attributeLetters a_valueBegins a_valueEnds x_attributeCount a_values] [ob_X7 a_this a_codes a_begins a_ends x_count a_characters a_attributeLetters a_valueBegins a_valueEnds x_attributeCount a_values] (some (.int o)) := by
  refine ms_start RX7 (by decide +kernel) rfl (Nat.le_of_ble_eq_true rfl) (fun p e s m below meth c A ls hX hW hl => ?_)
  have hx := hX.1.1
  have hb := hX.1.2.1
  have hl : lv_has ls 2 [(0, .ref a_this), (1, .int v1)] := hl
  unfold f_X7_hasNode at h
  refine lv_iload_n hx hb dX7_hasNode_0 rfl (lv_at hl 1 rfl) ?_
  refine lv_if_lt (tgt := 16) hx hb dX7_hasNode_1 (by decide) (fun k => ?_) (fun k => ?_)
  · have h := ms_ifp h k
    refine lv_iconst (v := 0) hx hb dX7_hasNode_16 (by decide) ?_
    obtain rfl := Option.some.inj h
    exact ms_zret hX (ms_nz (Or.inl rfl)) hW dX7_hasNode_17
  · have h := ms_ifn h k
    refine lv_iload_n hx hb dX7_hasNode_4 rfl (lv_at hl 1 rfl) ?_
    refine lv_aload_n hx hb dX7_hasNode_5 rfl (lv_at hl 0 rfl) ?_
    refine ms_get ff_X7_21 hX hW 0 rfl rfl dX7_hasNode_6 ?_
    refine lv_icmp_ge (tgt := 16) hx hb dX7_hasNode_9 (by decide) (fun k => ?_) (fun k => ?_)
    · have h := ms_ifp h k
      refine lv_iconst (v := 0) hx hb dX7_hasNode_16 (by decide) ?_
      obtain rfl := Option.some.inj h
      exact ms_zret hX (ms_nz (Or.inl rfl)) hW dX7_hasNode_17
    · have h := ms_ifn h k
      refine lv_iconst (v := 1) hx hb dX7_hasNode_12 (by decide) ?_
      refine lv_goto (tgt := 17) hx hb dX7_hasNode_13 (by decide) ?_
      obtain rfl := Option.some.inj h
      exact ms_zret hX (ms_nz (Or.inr rfl)) hW dX7_hasNode_17
def rm_X7_addAttributes : Room := { frames := 7, cells := 0, slots := 0, locals := 156 }
def f_X7_addAttributes_L95 (x_count : Int32) (x_a1_had : Int32) (x_a1_begins : Nat → Int32) (x_a1_ends : Nat → Int32) (x_a2_size : Int32) (x_a2_row : Nat → Int32) (kk : Int32 → (Nat → Int32) → (Nat → Int32) → (Nat → Int32) → (Nat → Int32) → Int32 → Int32 → (Nat → Int32) → Int32 → Option (Int32 × (Nat → Int32) × (Nat → Int32) × (Nat → Int32) × (Nat → Int32) × Int32 × Int32 × (Nat → Int32))) (x_attributeCount : Int32) (x_ends : Nat → Int32) (x_attributeLetters : Nat → Int32) (x_valueBegins : Nat → Int32) (x_valueEnds : Nat → Int32) (x_values_size : Int32) (x_values_overflowed : Int32) (x_values_row : Nat → Int32) (v3 : Int32) : Option (Int32 × (Nat → Int32) × (Nat → Int32) × (Nat → Int32) × (Nat → Int32) × Int32 × Int32 × (Nat → Int32)) := kk x_attributeCount x_ends x_attributeLetters x_valueBegins x_valueEnds x_values_size x_values_overflowed x_values_row (v3 + 1)
set_option maxHeartbeats 4000000 in
set_option maxRecDepth 100000 in
theorem wb_X7_addAttributes_L95 {p : Program} {l : Launch} {e : Env} {s : State} {m : MethodId} {args : Array Value} {below : List Frame} {meth : Method} {c : Code} {G : Gc} {A : Nat → Prop} {H : Heap} {locs : List Loc} {ls : Array Slot} {a_this : Nat} {a_codes : Nat} {a_begins : Nat} {a_ends : Nat} {a_characters : Nat} {a_attributeLetters : Nat} {a_valueBegins : Nat} {a_valueEnds : Nat} {a_values : Nat} {a_values_row : Nat} {a_a1 : Nat} {a_a1_begins : Nat} {a_a1_ends : Nat} {a_a2 : Nat} {a_a2_row : Nat} {x_count : Int32} {x_a1_had : Int32} {x_a1_name : Int32} {x_a1_ending : Int32} {x_a1_begins : Nat → Int32} {x_a1_ends : Nat → Int32} {x_a2_size : Int32} {x_a2_overflowed : Int32} {x_a2_row : Nat → Int32}  {kk : Int32 → (Nat → Int32) → (Nat → Int32) → (Nat → Int32) → (Nat → Int32) → Int32 → Int32 → (Nat → Int32) → Int32 → Option (Int32 × (Nat → Int32) × (Nat → Int32) × (Nat → Int32) × (Nat → Int32) × Int32 × Int32 × (Nat → Int32))} {Q : State → Prop} {x_attributeCount : Int32} {x_ends : Nat → Int32} {x_attributeLetters : Nat → Int32} {x_valueBegins : Nat → Int32} {x_valueEnds : Nat → Int32} {x_values_size : Int32} {x_values_overflowed : Int32} {x_values_row : Nat → Int32} {v3 : Int32} {o : Int32 × (Nat → Int32) × (Nat → Int32) × (Nat → Int32) × (Nat → Int32) × Int32 × Int32 × (Nat → Int32)} (hX : ms_CX p s m args meth c cX7_addAttributes 4 RX7 none G A) (hq : ∀ (H : Heap) (locs : List Loc) (ls : Array Slot), ms_W G A s H locs [ob_X7 a_this a_codes a_begins a_ends x_count a_characters a_attributeLetters a_valueBegins a_valueEnds o.1 a_values, (a_ends, .inl (G.2.1 1, 200, .inl o.2.1)), (a_attributeLetters, .inl (G.2.1 1, 100, .inl o.2.2.1)), (a_valueBegins, .inl (G.2.1 1, 100, .inl o.2.2.2.1)), (a_valueEnds, .inl (G.2.1 1, 100, .inl o.2.2.2.2.1)), ob_X1 a_values a_values_row o.2.2.2.2.2.1 o.2.2.2.2.2.2.1, (a_values_row, .inl (G.2.1 0, 200, .inl o.2.2.2.2.2.2.2)), ob_X6 a_a1 a_a1_begins a_a1_ends x_a1_had x_a1_name x_a1_ending, (a_a1_begins, .inl (G.2.1 1, 26, .inl x_a1_begins)), (a_a1_ends, .inl (G.2.1 1, 26, .inl x_a1_ends)), ob_X1 a_a2 a_a2_row x_a2_size x_a2_overflowed, (a_a2_row, .inl (G.2.1 0, 200, .inl x_a2_row))] → lv_has ls 4 [(0, .ref a_this)] → W p l e rm_X7_addAttributes s m args below meth c H locs 0 0 Q (F0 m 101 ls [])) (ih : ∀ (x_attributeCount : Int32) (x_ends : Nat → Int32) (x_attributeLetters : Nat → Int32) (x_valueBegins : Nat → Int32) (x_valueEnds : Nat → Int32) (x_values_size : Int32) (x_values_overflowed : Int32) (x_values_row : Nat → Int32) (v3 : Int32) (H : Heap) (locs : List Loc) (ls : Array Slot), kk x_attributeCount x_ends x_attributeLetters x_valueBegins x_valueEnds x_values_size x_values_overflowed x_values_row v3 = some o → ms_W G A s H locs [ob_X7 a_this a_codes a_begins a_ends x_count a_characters a_attributeLetters a_valueBegins a_valueEnds x_attributeCount a_values, (a_ends, .inl (G.2.1 1, 200, .inl x_ends)), (a_attributeLetters, .inl (G.2.1 1, 100, .inl x_attributeLetters)), (a_valueBegins, .inl (G.2.1 1, 100, .inl x_valueBegins)), (a_valueEnds, .inl (G.2.1 1, 100, .inl x_valueEnds)), ob_X1 a_values a_values_row x_values_size x_values_overflowed, (a_values_row, .inl (G.2.1 0, 200, .inl x_values_row)), ob_X6 a_a1 a_a1_begins a_a1_ends x_a1_had x_a1_name x_a1_ending, (a_a1_begins, .inl (G.2.1 1, 26, .inl x_a1_begins)), (a_a1_ends, .inl (G.2.1 1, 26, .inl x_a1_ends)), ob_X1 a_a2 a_a2_row x_a2_size x_a2_overflowed, (a_a2_row, .inl (G.2.1 0, 200, .inl x_a2_row))] → lv_has ls 4 [(0, .ref a_this), (1, .ref a_a1), (2, .ref a_a2), (3, .int v3)] → W p l e rm_X7_addAttributes s m args below meth c H locs 0 0 Q (F0 m 2 ls [])) (h : f_X7_addAttributes_L95 x_count x_a1_had x_a1_begins x_a1_ends x_a2_size x_a2_row kk x_attributeCount x_ends x_attributeLetters x_valueBegins x_valueEnds x_values_size x_values_overflowed x_values_row v3 = some o) (hW : ms_W G A s H locs [ob_X7 a_this a_codes a_begins a_ends x_count a_characters a_attributeLetters a_valueBegins a_valueEnds x_attributeCount a_values, (a_ends, .inl (G.2.1 1, 200, .inl x_ends)), (a_attributeLetters, .inl (G.2.1 1, 100, .inl x_attributeLetters)), (a_valueBegins, .inl (G.2.1 1, 100, .inl x_valueBegins)), (a_valueEnds, .inl (G.2.1 1, 100, .inl x_valueEnds)), ob_X1 a_values a_values_row x_values_size x_values_overflowed, (a_values_row, .inl (G.2.1 0, 200, .inl x_values_row)), ob_X6 a_a1 a_a1_begins a_a1_ends x_a1_had x_a1_name x_a1_ending, (a_a1_begins, .inl (G.2.1 1, 26, .inl x_a1_begins)), (a_a1_ends, .inl (G.2.1 1, 26, .inl x_a1_ends)), ob_X1 a_a2 a_a2_row x_a2_size x_a2_overflowed, (a_a2_row, .inl (G.2.1 0, 200, .inl x_a2_row))]) (hl : lv_has ls 4 [(0, .ref a_this), (1, .ref a_a1), (2, .ref a_a2), (3, .int v3)]) : W p l e rm_X7_addAttributes s m args below meth c H locs 0 0 Q (F0 m 95 ls []) := by
  have hx := hX.1.1
  have hb := hX.1.2.1
  unfold f_X7_addAttributes_L95 at h
  refine lv_iinc (v := v3 + 1) (lv' := [(3, .int (v3 + 1)), (0, .ref a_this), (1, .ref a_a1), (2, .ref a_a2)]) hx hb dX7_addAttributes_95 hl (k := 3) rfl rfl (by decide) rfl (fun ls hl => ?_)
  refine lv_goto (tgt := 2) hx hb dX7_addAttributes_98 (by decide) ?_
  exact ih _ _ _ _ _ _ _ _ _ _ _ _ h hW (lv_sub hl [1, 2, 3, 0] rfl)
def f_X7_addAttributes_L2 (x_count : Int32) (x_a1_had : Int32) (x_a1_begins : Nat → Int32) (x_a1_ends : Nat → Int32) (x_a2_size : Int32) (x_a2_row : Nat → Int32) : Nat → Int32 → (Nat → Int32) → (Nat → Int32) → (Nat → Int32) → (Nat → Int32) → Int32 → Int32 → (Nat → Int32) → Int32 → Option (Int32 × (Nat → Int32) × (Nat → Int32) × (Nat → Int32) × (Nat → Int32) × Int32 × Int32 × (Nat → Int32))
  | 0, _, _, _, _, _, _, _, _, _ => none
  | n + 1, x_attributeCount, x_ends, x_attributeLetters, x_valueBegins, x_valueEnds, x_values_size, x_values_overflowed, x_values_row, v3 => (if 26 ≤ v3 then some (x_attributeCount, x_ends, x_attributeLetters, x_valueBegins, x_valueEnds, x_values_size, x_values_overflowed, x_values_row) else (f_X6_hasAttribute x_a1_had v3).bind (fun q10 => (if q10 = 0 then f_X7_addAttributes_L95 x_count x_a1_had x_a1_begins x_a1_ends x_a2_size x_a2_row (f_X7_addAttributes_L2 x_count x_a1_had x_a1_begins x_a1_ends x_a2_size x_a2_row n) x_attributeCount x_ends x_attributeLetters x_valueBegins x_valueEnds x_values_size x_values_overflowed x_values_row v3 else (if 100 ≤ x_attributeCount then f_X7_addAttributes_L95 x_count x_a1_had x_a1_begins x_a1_ends x_a2_size x_a2_row (f_X7_addAttributes_L2 x_count x_a1_had x_a1_begins x_a1_ends x_a2_size x_a2_row n) x_attributeCount x_ends x_attributeLetters x_valueBegins x_valueEnds x_values_size x_values_overflowed x_values_row v3 else ms_gi x_attributeCount 100 ((f_X1_size x_values_size).bind (fun q47 => ms_gi x_attributeCount 100 ((f_X6_beginOf x_a1_had x_a1_begins v3).bind (fun q58 => (f_X6_endOf x_a1_had x_a1_ends v3).bind (fun q63 => (f_X1_addResolved x_values_size x_values_overflowed x_values_row x_a2_size x_a2_row q58 q63).bind (fun q66 => (f_X1_size q66.1).bind (fun q81 => ms_gi x_attributeCount 100 (f_X7_addAttributes_L95 x_count x_a1_had x_a1_begins x_a1_ends x_a2_size x_a2_row (f_X7_addAttributes_L2 x_count x_a1_had x_a1_begins x_a1_ends x_a2_size x_a2_row n) (x_attributeCount + 1) x_ends (upd x_attributeLetters x_attributeCount.toNatClampNeg v3) (upd x_valueBegins x_attributeCount.toNatClampNeg q47) (upd x_valueEnds x_attributeCount.toNatClampNeg q81) q66.1 q66.2.1 q66.2.2 v3))))))))))))
set_option maxHeartbeats 4000000 in
set_option maxRecDepth 100000 in
theorem wb_X7_addAttributes_L2 {p : Program} {l : Launch} {e : Env} {s : State} {m : MethodId} {args : Array Value} {below : List Frame} {meth : Method} {c : Code} {G : Gc} {A : Nat → Prop} {a_this : Nat} {a_codes : Nat} {a_begins : Nat} {a_ends : Nat} {a_characters : Nat} {a_attributeLetters : Nat} {a_valueBegins : Nat} {a_valueEnds : Nat} {a_values : Nat} {a_values_row : Nat} {a_a1 : Nat} {a_a1_begins : Nat} {a_a1_ends : Nat} {a_a2 : Nat} {a_a2_row : Nat} {x_count : Int32} {x_a1_had : Int32} {x_a1_name : Int32} {x_a1_ending : Int32} {x_a1_begins : Nat → Int32} {x_a1_ends : Nat → Int32} {x_a2_size : Int32} {x_a2_overflowed : Int32} {x_a2_row : Nat → Int32}  {Q : State → Prop} {o : Int32 × (Nat → Int32) × (Nat → Int32) × (Nat → Int32) × (Nat → Int32) × Int32 × Int32 × (Nat → Int32)} (hX : ms_CX p s m args meth c cX7_addAttributes 4 RX7 none G A) (hq : ∀ (H : Heap) (locs : List Loc) (ls : Array Slot), ms_W G A s H locs [ob_X7 a_this a_codes a_begins a_ends x_count a_characters a_attributeLetters a_valueBegins a_valueEnds o.1 a_values, (a_ends, .inl (G.2.1 1, 200, .inl o.2.1)), (a_attributeLetters, .inl (G.2.1 1, 100, .inl o.2.2.1)), (a_valueBegins, .inl (G.2.1 1, 100, .inl o.2.2.2.1)), (a_valueEnds, .inl (G.2.1 1, 100, .inl o.2.2.2.2.1)), ob_X1 a_values a_values_row o.2.2.2.2.2.1 o.2.2.2.2.2.2.1, (a_values_row, .inl (G.2.1 0, 200, .inl o.2.2.2.2.2.2.2)), ob_X6 a_a1 a_a1_begins a_a1_ends x_a1_had x_a1_name x_a1_ending, (a_a1_begins, .inl (G.2.1 1, 26, .inl x_a1_begins)), (a_a1_ends, .inl (G.2.1 1, 26, .inl x_a1_ends)), ob_X1 a_a2 a_a2_row x_a2_size x_a2_overflowed, (a_a2_row, .inl (G.2.1 0, 200, .inl x_a2_row))] → lv_has ls 4 [(0, .ref a_this)] → W p l e rm_X7_addAttributes s m args below meth c H locs 0 0 Q (F0 m 101 ls [])) : ∀ (n : Nat) (x_attributeCount : Int32) (x_ends : Nat → Int32) (x_attributeLetters : Nat → Int32) (x_valueBegins : Nat → Int32) (x_valueEnds : Nat → Int32) (x_values_size : Int32) (x_values_overflowed : Int32) (x_values_row : Nat → Int32) (v3 : Int32) (H : Heap) (locs : List Loc) (ls : Array Slot), f_X7_addAttributes_L2 x_count x_a1_had x_a1_begins x_a1_ends x_a2_size x_a2_row n x_attributeCount x_ends x_attributeLetters x_valueBegins x_valueEnds x_values_size x_values_overflowed x_values_row v3 = some o → ms_W G A s H locs [ob_X7 a_this a_codes a_begins a_ends x_count a_characters a_attributeLetters a_valueBegins a_valueEnds x_attributeCount a_values, (a_ends, .inl (G.2.1 1, 200, .inl x_ends)), (a_attributeLetters, .inl (G.2.1 1, 100, .inl x_attributeLetters)), (a_valueBegins, .inl (G.2.1 1, 100, .inl x_valueBegins)), (a_valueEnds, .inl (G.2.1 1, 100, .inl x_valueEnds)), ob_X1 a_values a_values_row x_values_size x_values_overflowed, (a_values_row, .inl (G.2.1 0, 200, .inl x_values_row)), ob_X6 a_a1 a_a1_begins a_a1_ends x_a1_had x_a1_name x_a1_ending, (a_a1_begins, .inl (G.2.1 1, 26, .inl x_a1_begins)), (a_a1_ends, .inl (G.2.1 1, 26, .inl x_a1_ends)), ob_X1 a_a2 a_a2_row x_a2_size x_a2_overflowed, (a_a2_row, .inl (G.2.1 0, 200, .inl x_a2_row))] → lv_has ls 4 [(0, .ref a_this), (1, .ref a_a1), (2, .ref a_a2), (3, .int v3)] → W p l e rm_X7_addAttributes s m args below meth c H locs 0 0 Q (F0 m 2 ls []) := by
  have hx := hX.1.1
  have hb := hX.1.2.1
  intro n
  induction n with
  | zero => intro x_attributeCount x_ends x_attributeLetters x_valueBegins x_valueEnds x_values_size x_values_overflowed x_values_row v3 H locs ls h; rw [f_X7_addAttributes_L2] at h; cases h
  | succ n ih =>
    intro x_attributeCount x_ends x_attributeLetters x_valueBegins x_valueEnds x_values_size x_values_overflowed x_values_row v3 H locs ls h hW hl
    rw [f_X7_addAttributes_L2] at h
    refine lv_iload_n hx hb dX7_addAttributes_2 rfl (lv_at hl 3 rfl) ?_
    refine lv_bipush (v := 26) hx hb dX7_addAttributes_3 (by decide) ?_
    refine lv_icmp_ge (tgt := 101) hx hb dX7_addAttributes_5 (by decide) (fun k => ?_) (fun k => ?_)
    · have h := ms_ifp h k
      obtain rfl := Option.some.inj h
      exact hq _ _ _ hW (lv_sub hl [0] rfl)
    · have h := ms_ifn h k
      refine lv_aload_n hx hb dX7_addAttributes_8 rfl (lv_at hl 1 rfl) ?_
      refine lv_iload_n hx hb dX7_addAttributes_9 rfl (lv_at hl 3 rfl) ?_
      obtain ⟨q10, hq10, h⟩ := ms_bd h
      refine ms_callV (fn_X6_hasAttribute l G a_a1 a_a1_begins a_a1_ends x_a1_had x_a1_name x_a1_ending v3 hq10) wm_X6_hasAttribute wv_X7_102 hX hW [7] rfl rfl rfl rfl rfl ⟨Nat.le_of_ble_eq_true rfl, Nat.le_of_ble_eq_true rfl, rfl, rfl, Nat.zero_le _, Nat.zero_le _⟩ rfl hl.1 [] rfl (Nat.le_of_ble_eq_true rfl) dX7_addAttributes_10 (fun H locs hW => ?_)
      have hW : ms_W G A s H locs [ob_X7 a_this a_codes a_begins a_ends x_count a_characters a_attributeLetters a_valueBegins a_valueEnds x_attributeCount a_values, (a_ends, .inl (G.2.1 1, 200, .inl x_ends)), (a_attributeLetters, .inl (G.2.1 1, 100, .inl x_attributeLetters)), (a_valueBegins, .inl (G.2.1 1, 100, .inl x_valueBegins)), (a_valueEnds, .inl (G.2.1 1, 100, .inl x_valueEnds)), ob_X1 a_values a_values_row x_values_size x_values_overflowed, (a_values_row, .inl (G.2.1 0, 200, .inl x_values_row)), ob_X6 a_a1 a_a1_begins a_a1_ends x_a1_had x_a1_name x_a1_ending, (a_a1_begins, .inl (G.2.1 1, 26, .inl x_a1_begins)), (a_a1_ends, .inl (G.2.1 1, 26, .inl x_a1_ends)), ob_X1 a_a2 a_a2_row x_a2_size x_a2_overflowed, (a_a2_row, .inl (G.2.1 0, 200, .inl x_a2_row))] := hW
      refine W.eq (g2 := F0 m 13 ls [.int q10]) rfl ?_
      refine lv_if_eq (tgt := 95) hx hb dX7_addAttributes_13 (by decide) (fun k => ?_) (fun k => ?_)
      · have h := ms_ifp h k
        exact wb_X7_addAttributes_L95 hX hq (ih) h hW (lv_sub hl [0, 1, 2, 3] rfl)
      · have h := ms_ifn h k
        refine lv_aload_n hx hb dX7_addAttributes_16 rfl (lv_at hl 0 rfl) ?_
        refine ms_get ff_X7_41 hX hW 0 rfl rfl dX7_addAttributes_17 ?_
        refine lv_bipush (v := 100) hx hb dX7_addAttributes_20 (by decide) ?_
        refine lv_icmp_ge (tgt := 95) hx hb dX7_addAttributes_22 (by decide) (fun k => ?_) (fun k => ?_)
        · have h := ms_ifp h k
          exact wb_X7_addAttributes_L95 hX hq (ih) h hW (lv_sub hl [0, 1, 2, 3] rfl)
        · have h := ms_ifn h k
          refine lv_aload_n hx hb dX7_addAttributes_25 rfl (lv_at hl 0 rfl) ?_
          refine ms_get ff_X7_32 hX hW 0 rfl rfl dX7_addAttributes_26 ?_
          refine lv_aload_n hx hb dX7_addAttributes_29 rfl (lv_at hl 0 rfl) ?_
          refine ms_get ff_X7_41 hX hW 0 rfl rfl dX7_addAttributes_30 ?_
          refine lv_iload_n hx hb dX7_addAttributes_33 rfl (lv_at hl 3 rfl) ?_
          obtain ⟨k, h⟩ := ms_gi_some h
          refine ms_iast hX hW 2 rfl k dX7_addAttributes_34 (fun H locs hW => ?_)
          have hW : ms_W G A s H locs [ob_X7 a_this a_codes a_begins a_ends x_count a_characters a_attributeLetters a_valueBegins a_valueEnds x_attributeCount a_values, (a_ends, .inl (G.2.1 1, 200, .inl x_ends)), (a_attributeLetters, .inl (G.2.1 1, 100, .inl (upd x_attributeLetters x_attributeCount.toNatClampNeg v3))), (a_valueBegins, .inl (G.2.1 1, 100, .inl x_valueBegins)), (a_valueEnds, .inl (G.2.1 1, 100, .inl x_valueEnds)), ob_X1 a_values a_values_row x_values_size x_values_overflowed, (a_values_row, .inl (G.2.1 0, 200, .inl x_values_row)), ob_X6 a_a1 a_a1_begins a_a1_ends x_a1_had x_a1_name x_a1_ending, (a_a1_begins, .inl (G.2.1 1, 26, .inl x_a1_begins)), (a_a1_ends, .inl (G.2.1 1, 26, .inl x_a1_ends)), ob_X1 a_a2 a_a2_row x_a2_size x_a2_overflowed, (a_a2_row, .inl (G.2.1 0, 200, .inl x_a2_row))] := hW
          refine lv_aload_n hx hb dX7_addAttributes_35 rfl (lv_at hl 0 rfl) ?_
          refine ms_get ff_X7_35 hX hW 0 rfl rfl dX7_addAttributes_36 ?_
          refine lv_aload_n hx hb dX7_addAttributes_39 rfl (lv_at hl 0 rfl) ?_
          refine ms_get ff_X7_41 hX hW 0 rfl rfl dX7_addAttributes_40 ?_
          refine lv_aload_n hx hb dX7_addAttributes_43 rfl (lv_at hl 0 rfl) ?_
          refine ms_get ff_X7_44 hX hW 0 rfl rfl dX7_addAttributes_44 ?_
          obtain ⟨q47, hq47, h⟩ := ms_bd h
          refine ms_callV (fn_X1_size l G a_values a_values_row x_values_size x_values_overflowed hq47) wm_X1_size wv_X7_81 hX hW [5] rfl rfl rfl rfl rfl ⟨Nat.le_of_ble_eq_true rfl, Nat.le_of_ble_eq_true rfl, rfl, rfl, Nat.zero_le _, Nat.zero_le _⟩ rfl hl.1 [.int x_attributeCount, .ref a_valueBegins] rfl (Nat.le_of_ble_eq_true rfl) dX7_addAttributes_47 (fun H locs hW => ?_)
          have hW : ms_W G A s H locs [ob_X7 a_this a_codes a_begins a_ends x_count a_characters a_attributeLetters a_valueBegins a_valueEnds x_attributeCount a_values, (a_ends, .inl (G.2.1 1, 200, .inl x_ends)), (a_attributeLetters, .inl (G.2.1 1, 100, .inl (upd x_attributeLetters x_attributeCount.toNatClampNeg v3))), (a_valueBegins, .inl (G.2.1 1, 100, .inl x_valueBegins)), (a_valueEnds, .inl (G.2.1 1, 100, .inl x_valueEnds)), ob_X1 a_values a_values_row x_values_size x_values_overflowed, (a_values_row, .inl (G.2.1 0, 200, .inl x_values_row)), ob_X6 a_a1 a_a1_begins a_a1_ends x_a1_had x_a1_name x_a1_ending, (a_a1_begins, .inl (G.2.1 1, 26, .inl x_a1_begins)), (a_a1_ends, .inl (G.2.1 1, 26, .inl x_a1_ends)), ob_X1 a_a2 a_a2_row x_a2_size x_a2_overflowed, (a_a2_row, .inl (G.2.1 0, 200, .inl x_a2_row))] := hW
          refine W.eq (g2 := F0 m 50 ls [.int q47, .int x_attributeCount, .ref a_valueBegins]) rfl ?_
          obtain ⟨k, h⟩ := ms_gi_some h
          refine ms_iast hX hW 3 rfl k dX7_addAttributes_50 (fun H locs hW => ?_)
          have hW : ms_W G A s H locs [ob_X7 a_this a_codes a_begins a_ends x_count a_characters a_attributeLetters a_valueBegins a_valueEnds x_attributeCount a_values, (a_ends, .inl (G.2.1 1, 200, .inl x_ends)), (a_attributeLetters, .inl (G.2.1 1, 100, .inl (upd x_attributeLetters x_attributeCount.toNatClampNeg v3))), (a_valueBegins, .inl (G.2.1 1, 100, .inl (upd x_valueBegins x_attributeCount.toNatClampNeg q47))), (a_valueEnds, .inl (G.2.1 1, 100, .inl x_valueEnds)), ob_X1 a_values a_values_row x_values_size x_values_overflowed, (a_values_row, .inl (G.2.1 0, 200, .inl x_values_row)), ob_X6 a_a1 a_a1_begins a_a1_ends x_a1_had x_a1_name x_a1_ending, (a_a1_begins, .inl (G.2.1 1, 26, .inl x_a1_begins)), (a_a1_ends, .inl (G.2.1 1, 26, .inl x_a1_ends)), ob_X1 a_a2 a_a2_row x_a2_size x_a2_overflowed, (a_a2_row, .inl (G.2.1 0, 200, .inl x_a2_row))] := hW
          refine lv_aload_n hx hb dX7_addAttributes_51 rfl (lv_at hl 0 rfl) ?_
          refine ms_get ff_X7_44 hX hW 0 rfl rfl dX7_addAttributes_52 ?_
          refine lv_aload_n hx hb dX7_addAttributes_55 rfl (lv_at hl 2 rfl) ?_
          refine lv_aload_n hx hb dX7_addAttributes_56 rfl (lv_at hl 1 rfl) ?_
          refine lv_iload_n hx hb dX7_addAttributes_57 rfl (lv_at hl 3 rfl) ?_
          obtain ⟨q58, hq58, h⟩ := ms_bd h
          refine ms_callV (fn_X6_beginOf l G a_a1 a_a1_begins a_a1_ends x_a1_had x_a1_name x_a1_ending x_a1_begins v3 hq58) wm_X6_beginOf wv_X7_105 hX hW [7, 8] rfl rfl rfl rfl rfl ⟨Nat.le_of_ble_eq_true rfl, Nat.le_of_ble_eq_true rfl, rfl, rfl, Nat.zero_le _, Nat.zero_le _⟩ rfl hl.1 [.ref a_a2, .ref a_values] rfl (Nat.le_of_ble_eq_true rfl) dX7_addAttributes_58 (fun H locs hW => ?_)
          have hW : ms_W G A s H locs [ob_X7 a_this a_codes a_begins a_ends x_count a_characters a_attributeLetters a_valueBegins a_valueEnds x_attributeCount a_values, (a_ends, .inl (G.2.1 1, 200, .inl x_ends)), (a_attributeLetters, .inl (G.2.1 1, 100, .inl (upd x_attributeLetters x_attributeCount.toNatClampNeg v3))), (a_valueBegins, .inl (G.2.1 1, 100, .inl (upd x_valueBegins x_attributeCount.toNatClampNeg q47))), (a_valueEnds, .inl (G.2.1 1, 100, .inl x_valueEnds)), ob_X1 a_values a_values_row x_values_size x_values_overflowed, (a_values_row, .inl (G.2.1 0, 200, .inl x_values_row)), ob_X6 a_a1 a_a1_begins a_a1_ends x_a1_had x_a1_name x_a1_ending, (a_a1_begins, .inl (G.2.1 1, 26, .inl x_a1_begins)), (a_a1_ends, .inl (G.2.1 1, 26, .inl x_a1_ends)), ob_X1 a_a2 a_a2_row x_a2_size x_a2_overflowed, (a_a2_row, .inl (G.2.1 0, 200, .inl x_a2_row))] := hW
          refine W.eq (g2 := F0 m 61 ls [.int q58, .ref a_a2, .ref a_values]) rfl ?_
          refine lv_aload_n hx hb dX7_addAttributes_61 rfl (lv_at hl 1 rfl) ?_
          refine lv_iload_n hx hb dX7_addAttributes_62 rfl (lv_at hl 3 rfl) ?_
          obtain ⟨q63, hq63, h⟩ := ms_bd h
          refine ms_callV (fn_X6_endOf l G a_a1 a_a1_begins a_a1_ends x_a1_had x_a1_name x_a1_ending x_a1_ends v3 hq63) wm_X6_endOf wv_X7_106 hX hW [7, 9] rfl rfl rfl rfl rfl ⟨Nat.le_of_ble_eq_true rfl, Nat.le_of_ble_eq_true rfl, rfl, rfl, Nat.zero_le _, Nat.zero_le _⟩ rfl hl.1 [.int q58, .ref a_a2, .ref a_values] rfl (Nat.le_of_ble_eq_true rfl) dX7_addAttributes_63 (fun H locs hW => ?_)
          have hW : ms_W G A s H locs [ob_X7 a_this a_codes a_begins a_ends x_count a_characters a_attributeLetters a_valueBegins a_valueEnds x_attributeCount a_values, (a_ends, .inl (G.2.1 1, 200, .inl x_ends)), (a_attributeLetters, .inl (G.2.1 1, 100, .inl (upd x_attributeLetters x_attributeCount.toNatClampNeg v3))), (a_valueBegins, .inl (G.2.1 1, 100, .inl (upd x_valueBegins x_attributeCount.toNatClampNeg q47))), (a_valueEnds, .inl (G.2.1 1, 100, .inl x_valueEnds)), ob_X1 a_values a_values_row x_values_size x_values_overflowed, (a_values_row, .inl (G.2.1 0, 200, .inl x_values_row)), ob_X6 a_a1 a_a1_begins a_a1_ends x_a1_had x_a1_name x_a1_ending, (a_a1_begins, .inl (G.2.1 1, 26, .inl x_a1_begins)), (a_a1_ends, .inl (G.2.1 1, 26, .inl x_a1_ends)), ob_X1 a_a2 a_a2_row x_a2_size x_a2_overflowed, (a_a2_row, .inl (G.2.1 0, 200, .inl x_a2_row))] := hW
          refine W.eq (g2 := F0 m 66 ls [.int q63, .int q58, .ref a_a2, .ref a_values]) rfl ?_
          obtain ⟨q66, hq66, h⟩ := ms_bd h
          refine ms_callV (fn_X1_addResolved l G a_values a_values_row a_a2 a_a2_row x_values_size x_values_overflowed x_values_row x_a2_size x_a2_overflowed x_a2_row q58 q63 hq66) wm_X1_addResolved wv_X7_96 hX hW [5, 6, 10, 11] rfl rfl rfl rfl rfl ⟨Nat.le_of_ble_eq_true rfl, Nat.le_of_ble_eq_true rfl, rfl, rfl, Nat.zero_le _, Nat.zero_le _⟩ rfl hl.1 [] rfl (Nat.le_of_ble_eq_true rfl) dX7_addAttributes_66 (fun H locs hW => ?_)
          have hW : ms_W G A s H locs [ob_X7 a_this a_codes a_begins a_ends x_count a_characters a_attributeLetters a_valueBegins a_valueEnds x_attributeCount a_values, (a_ends, .inl (G.2.1 1, 200, .inl x_ends)), (a_attributeLetters, .inl (G.2.1 1, 100, .inl (upd x_attributeLetters x_attributeCount.toNatClampNeg v3))), (a_valueBegins, .inl (G.2.1 1, 100, .inl (upd x_valueBegins x_attributeCount.toNatClampNeg q47))), (a_valueEnds, .inl (G.2.1 1, 100, .inl x_valueEnds)), ob_X1 a_values a_values_row q66.1 q66.2.1, (a_values_row, .inl (G.2.1 0, 200, .inl q66.2.2)), ob_X6 a_a1 a_a1_begins a_a1_ends x_a1_had x_a1_name x_a1_ending, (a_a1_begins, .inl (G.2.1 1, 26, .inl x_a1_begins)), (a_a1_ends, .inl (G.2.1 1, 26, .inl x_a1_ends)), ob_X1 a_a2 a_a2_row x_a2_size x_a2_overflowed, (a_a2_row, .inl (G.2.1 0, 200, .inl x_a2_row))] := hW
          refine W.eq (g2 := F0 m 69 ls []) rfl ?_
          refine lv_aload_n hx hb dX7_addAttributes_69 rfl (lv_at hl 0 rfl) ?_
          refine ms_get ff_X7_38 hX hW 0 rfl rfl dX7_addAttributes_70 ?_
          refine lv_aload_n hx hb dX7_addAttributes_73 rfl (lv_at hl 0 rfl) ?_
          refine ms_get ff_X7_41 hX hW 0 rfl rfl dX7_addAttributes_74 ?_
          refine lv_aload_n hx hb dX7_addAttributes_77 rfl (lv_at hl 0 rfl) ?_
          refine ms_get ff_X7_44 hX hW 0 rfl rfl dX7_addAttributes_78 ?_
          obtain ⟨q81, hq81, h⟩ := ms_bd h
          refine ms_callV (fn_X1_size l G a_values a_values_row q66.1 q66.2.1 hq81) wm_X1_size wv_X7_81 hX hW [5] rfl rfl rfl rfl rfl ⟨Nat.le_of_ble_eq_true rfl, Nat.le_of_ble_eq_true rfl, rfl, rfl, Nat.zero_le _, Nat.zero_le _⟩ rfl hl.1 [.int x_attributeCount, .ref a_valueEnds] rfl (Nat.le_of_ble_eq_true rfl) dX7_addAttributes_81 (fun H locs hW => ?_)
          have hW : ms_W G A s H locs [ob_X7 a_this a_codes a_begins a_ends x_count a_characters a_attributeLetters a_valueBegins a_valueEnds x_attributeCount a_values, (a_ends, .inl (G.2.1 1, 200, .inl x_ends)), (a_attributeLetters, .inl (G.2.1 1, 100, .inl (upd x_attributeLetters x_attributeCount.toNatClampNeg v3))), (a_valueBegins, .inl (G.2.1 1, 100, .inl (upd x_valueBegins x_attributeCount.toNatClampNeg q47))), (a_valueEnds, .inl (G.2.1 1, 100, .inl x_valueEnds)), ob_X1 a_values a_values_row q66.1 q66.2.1, (a_values_row, .inl (G.2.1 0, 200, .inl q66.2.2)), ob_X6 a_a1 a_a1_begins a_a1_ends x_a1_had x_a1_name x_a1_ending, (a_a1_begins, .inl (G.2.1 1, 26, .inl x_a1_begins)), (a_a1_ends, .inl (G.2.1 1, 26, .inl x_a1_ends)), ob_X1 a_a2 a_a2_row x_a2_size x_a2_overflowed, (a_a2_row, .inl (G.2.1 0, 200, .inl x_a2_row))] := hW
          refine W.eq (g2 := F0 m 84 ls [.int q81, .int x_attributeCount, .ref a_valueEnds]) rfl ?_
          obtain ⟨k, h⟩ := ms_gi_some h
          refine ms_iast hX hW 4 rfl k dX7_addAttributes_84 (fun H locs hW => ?_)
          have hW : ms_W G A s H locs [ob_X7 a_this a_codes a_begins a_ends x_count a_characters a_attributeLetters a_valueBegins a_valueEnds x_attributeCount a_values, (a_ends, .inl (G.2.1 1, 200, .inl x_ends)), (a_attributeLetters, .inl (G.2.1 1, 100, .inl (upd x_attributeLetters x_attributeCount.toNatClampNeg v3))), (a_valueBegins, .inl (G.2.1 1, 100, .inl (upd x_valueBegins x_attributeCount.toNatClampNeg q47))), (a_valueEnds, .inl (G.2.1 1, 100, .inl (upd x_valueEnds x_attributeCount.toNatClampNeg q81))), ob_X1 a_values a_values_row q66.1 q66.2.1, (a_values_row, .inl (G.2.1 0, 200, .inl q66.2.2)), ob_X6 a_a1 a_a1_begins a_a1_ends x_a1_had x_a1_name x_a1_ending, (a_a1_begins, .inl (G.2.1 1, 26, .inl x_a1_begins)), (a_a1_ends, .inl (G.2.1 1, 26, .inl x_a1_ends)), ob_X1 a_a2 a_a2_row x_a2_size x_a2_overflowed, (a_a2_row, .inl (G.2.1 0, 200, .inl x_a2_row))] := hW
          refine lv_aload_n hx hb dX7_addAttributes_85 rfl (lv_at hl 0 rfl) ?_
          refine lv_dup hx hb dX7_addAttributes_86 rfl ?_
          refine ms_get ff_X7_41 hX hW 0 rfl rfl dX7_addAttributes_87 ?_
          refine lv_iconst (v := 1) hx hb dX7_addAttributes_90 (by decide) ?_
          refine lv_iadd hx hb dX7_addAttributes_91 ?_
          refine ms_put ff_X7_41 fp_X7_8 rfl hX hW 0 rfl rfl rfl (Nat.le_of_ble_eq_true rfl) dX7_addAttributes_92 (fun H locs hW => ?_)
          have hW : ms_W G A s H locs [ob_X7 a_this a_codes a_begins a_ends x_count a_characters a_attributeLetters a_valueBegins a_valueEnds (x_attributeCount + 1) a_values, (a_ends, .inl (G.2.1 1, 200, .inl x_ends)), (a_attributeLetters, .inl (G.2.1 1, 100, .inl (upd x_attributeLetters x_attributeCount.toNatClampNeg v3))), (a_valueBegins, .inl (G.2.1 1, 100, .inl (upd x_valueBegins x_attributeCount.toNatClampNeg q47))), (a_valueEnds, .inl (G.2.1 1, 100, .inl (upd x_valueEnds x_attributeCount.toNatClampNeg q81))), ob_X1 a_values a_values_row q66.1 q66.2.1, (a_values_row, .inl (G.2.1 0, 200, .inl q66.2.2)), ob_X6 a_a1 a_a1_begins a_a1_ends x_a1_had x_a1_name x_a1_ending, (a_a1_begins, .inl (G.2.1 1, 26, .inl x_a1_begins)), (a_a1_ends, .inl (G.2.1 1, 26, .inl x_a1_ends)), ob_X1 a_a2 a_a2_row x_a2_size x_a2_overflowed, (a_a2_row, .inl (G.2.1 0, 200, .inl x_a2_row))] := hW
          exact wb_X7_addAttributes_L95 hX hq (ih) h hW (lv_sub hl [0, 1, 2, 3] rfl)
def f_X7_addAttributes (x_count : Int32) (x_attributeCount : Int32) (x_ends : Nat → Int32) (x_attributeLetters : Nat → Int32) (x_valueBegins : Nat → Int32) (x_valueEnds : Nat → Int32) (x_values_size : Int32) (x_values_overflowed : Int32) (x_values_row : Nat → Int32) (x_a1_had : Int32) (x_a1_begins : Nat → Int32) (x_a1_ends : Nat → Int32) (x_a2_size : Int32) (x_a2_row : Nat → Int32)  : Option (Int32 × (Nat → Int32) × (Nat → Int32) × (Nat → Int32) × (Nat → Int32) × Int32 × Int32 × (Nat → Int32)) := (f_X7_addAttributes_L2 x_count x_a1_had x_a1_begins x_a1_ends x_a2_size x_a2_row 1000 x_attributeCount x_ends x_attributeLetters x_valueBegins x_valueEnds x_values_size x_values_overflowed x_values_row 0).bind (fun w2 => (f_X7_hasNode x_count (x_count - 1)).bind (fun q108 => (if q108 = 0 then some (w2.1, w2.2.1, w2.2.2.1, w2.2.2.2.1, w2.2.2.2.2.1, w2.2.2.2.2.2.1, w2.2.2.2.2.2.2.1, w2.2.2.2.2.2.2.2) else ms_gi (x_count - 1) 200 (some (w2.1, upd w2.2.1 (x_count - 1).toNatClampNeg w2.1, w2.2.2.1, w2.2.2.2.1, w2.2.2.2.2.1, w2.2.2.2.2.2.1, w2.2.2.2.2.2.2.1, w2.2.2.2.2.2.2.2)))))
set_option maxHeartbeats 4000000 in
set_option maxRecDepth 100000 in
theorem fn_X7_addAttributes (l : Launch) (G : Gc) (a_this : Nat) (a_codes : Nat) (a_begins : Nat) (a_ends : Nat) (a_characters : Nat) (a_attributeLetters : Nat) (a_valueBegins : Nat) (a_valueEnds : Nat) (a_values : Nat) (a_values_row : Nat) (a_a1 : Nat) (a_a1_begins : Nat) (a_a1_ends : Nat) (a_a2 : Nat) (a_a2_row : Nat) (x_count : Int32) (x_attributeCount : Int32) (x_ends : Nat → Int32) (x_attributeLetters : Nat → Int32) (x_valueBegins : Nat → Int32) (x_valueEnds : Nat → Int32) (x_values_size : Int32) (x_values_overflowed : Int32) (x_values_row : Nat → Int32) (x_a1_had : Int32) (x_a1_name : Int32) (x_a1_ending : Int32) (x_a1_begins : Nat → Int32) (x_a1_ends : Nat → Int32) (x_a2_size : Int32) (x_a2_overflowed : Int32) (x_a2_row : Nat → Int32)   {o : Int32 × (Nat → Int32) × (Nat → Int32) × (Nat → Int32) × (Nat → Int32) × Int32 × Int32 × (Nat → Int32)} (h : f_X7_addAttributes x_count x_attributeCount x_ends x_attributeLetters x_valueBegins x_valueEnds x_values_size x_values_overflowed x_values_row x_a1_had x_a1_begins x_a1_ends x_a2_size x_a2_row = some o) : ms_Fn l G yX7_addAttributes cX7_addAttributes 4 none rm_X7_addAttributes [.ref a_this, .ref a_a1, .ref a_a2] [ob_X7 a_this a_codes a_begins a_ends x_count a_characters a_attributeLetters a_valueBegins a_valueEnds x_attributeCount a_values, (a_ends, .inl (G.2.1 1, 200, .inl x_ends)), (a_attributeLetters, .inl (G.2.1 1, 100, .inl x_attributeLetters)), (a_valueBegins, .inl (G.2.1 1, 100, .inl x_valueBegins)), (a_valueEnds, .inl (G.2.1 1, 100, .inl x_valueEnds)), ob_X1 a_values a_values_row x_values_size x_values_overflowed, (a_values_row, .inl (G.2.1 0, 200, .inl x_values_row)), ob_X6 a_a1 a_a1_begins a_a1_ends x_a1_had x_a1_name x_a1_ending, (a_a1_begins, .inl (G.2.1 1, 26, .inl x_a1_begins)), (a_a1_ends, .inl (G.2.1 1, 26, .inl x_a1_ends)), ob_X1 a_a2 a_a2_row x_a2_size x_a2_overflowed, (a_a2_row, .inl (G.2.1 0, 200, .inl x_a2_row))] [ob_X7 a_this a_codes a_begins a_ends x_count a_characters a_attributeLetters a_valueBegins a_valueEnds o.1 a_values, (a_ends, .inl (G.2.1 1, 200, .inl o.2.1)), (a_attributeLetters, .inl (G.2.1 1, 100, .inl o.2.2.1)), (a_valueBegins, .inl (G.2.1 1, 100, .inl o.2.2.2.1)), (a_valueEnds, .inl (G.2.1 1, 100, .inl o.2.2.2.2.1)), ob_X1 a_values a_values_row o.2.2.2.2.2.1 o.2.2.2.2.2.2.1, (a_values_row, .inl (G.2.1 0, 200, .inl o.2.2.2.2.2.2.2)), ob_X6 a_a1 a_a1_begins a_a1_ends x_a1_had x_a1_name x_a1_ending, (a_a1_begins, .inl (G.2.1 1, 26, .inl x_a1_begins)), (a_a1_ends, .inl (G.2.1 1, 26, .inl x_a1_ends)), ob_X1 a_a2 a_a2_row x_a2_size x_a2_overflowed, (a_a2_row, .inl (G.2.1 0, 200, .inl x_a2_row))] none := by
  refine ms_start RX7 (by decide +kernel) rfl (Nat.le_of_ble_eq_true rfl) (fun p e s m below meth c A ls hX hW hl => ?_)
  have hx := hX.1.1
  have hb := hX.1.2.1
  have hl : lv_has ls 4 [(0, .ref a_this), (1, .ref a_a1), (2, .ref a_a2)] := hl
  unfold f_X7_addAttributes at h
  refine lv_iconst (v := 0) hx hb dX7_addAttributes_0 (by decide) ?_
  refine lv_istore_n (lv' := [(3, .int 0), (0, .ref a_this), (1, .ref a_a1), (2, .ref a_a2)]) hx hb dX7_addAttributes_1 rfl hl (by decide) rfl (fun ls hl => ?_)
  obtain ⟨w2, hqw2, h⟩ := ms_bd h
  refine wb_X7_addAttributes_L2 hX (o := w2) (fun H locs ls hW hl => ?_) _ _ _ _ _ _ _ _ _ _ _ _ _ hqw2 hW (lv_sub hl [1, 2, 3, 0] rfl)
  refine lv_aload_n hx hb dX7_addAttributes_101 rfl (lv_at hl 0 rfl) ?_
  refine lv_aload_n hx hb dX7_addAttributes_102 rfl (lv_at hl 0 rfl) ?_
  refine ms_get ff_X7_21 hX hW 0 rfl rfl dX7_addAttributes_103 ?_
  refine lv_iconst (v := 1) hx hb dX7_addAttributes_106 (by decide) ?_
  refine lv_isub hx hb dX7_addAttributes_107 ?_
  obtain ⟨q108, hq108, h⟩ := ms_bd h
  refine ms_callV (fn_X7_hasNode l G a_this a_codes a_begins a_ends a_characters a_attributeLetters a_valueBegins a_valueEnds a_values x_count w2.1 (x_count - 1) hq108) wm_X7_hasNode wv_X7_50 hX hW [0] rfl rfl rfl rfl rfl ⟨Nat.le_of_ble_eq_true rfl, Nat.le_of_ble_eq_true rfl, rfl, rfl, Nat.zero_le _, Nat.zero_le _⟩ rfl hl.1 [] rfl (Nat.le_of_ble_eq_true rfl) dX7_addAttributes_108 (fun H locs hW => ?_)
  have hW : ms_W G A s H locs [ob_X7 a_this a_codes a_begins a_ends x_count a_characters a_attributeLetters a_valueBegins a_valueEnds w2.1 a_values, (a_ends, .inl (G.2.1 1, 200, .inl w2.2.1)), (a_attributeLetters, .inl (G.2.1 1, 100, .inl w2.2.2.1)), (a_valueBegins, .inl (G.2.1 1, 100, .inl w2.2.2.2.1)), (a_valueEnds, .inl (G.2.1 1, 100, .inl w2.2.2.2.2.1)), ob_X1 a_values a_values_row w2.2.2.2.2.2.1 w2.2.2.2.2.2.2.1, (a_values_row, .inl (G.2.1 0, 200, .inl w2.2.2.2.2.2.2.2)), ob_X6 a_a1 a_a1_begins a_a1_ends x_a1_had x_a1_name x_a1_ending, (a_a1_begins, .inl (G.2.1 1, 26, .inl x_a1_begins)), (a_a1_ends, .inl (G.2.1 1, 26, .inl x_a1_ends)), ob_X1 a_a2 a_a2_row x_a2_size x_a2_overflowed, (a_a2_row, .inl (G.2.1 0, 200, .inl x_a2_row))] := hW
  refine W.eq (g2 := F0 m 111 ls [.int q108]) rfl ?_
  refine lv_if_eq (tgt := 129) hx hb dX7_addAttributes_111 (by decide) (fun k => ?_) (fun k => ?_)
  · have h := ms_ifp h k
    obtain rfl := Option.some.inj h
    exact ms_vret hX hW dX7_addAttributes_129
  · have h := ms_ifn h k
    refine lv_aload_n hx hb dX7_addAttributes_114 rfl (lv_at hl 0 rfl) ?_
    refine ms_get ff_X7_18 hX hW 0 rfl rfl dX7_addAttributes_115 ?_
    refine lv_aload_n hx hb dX7_addAttributes_118 rfl (lv_at hl 0 rfl) ?_
    refine ms_get ff_X7_21 hX hW 0 rfl rfl dX7_addAttributes_119 ?_
    refine lv_iconst (v := 1) hx hb dX7_addAttributes_122 (by decide) ?_
    refine lv_isub hx hb dX7_addAttributes_123 ?_
    refine lv_aload_n hx hb dX7_addAttributes_124 rfl (lv_at hl 0 rfl) ?_
    refine ms_get ff_X7_41 hX hW 0 rfl rfl dX7_addAttributes_125 ?_
    obtain ⟨k, h⟩ := ms_gi_some h
    refine ms_iast hX hW 1 rfl k dX7_addAttributes_128 (fun H locs hW => ?_)
    have hW : ms_W G A s H locs [ob_X7 a_this a_codes a_begins a_ends x_count a_characters a_attributeLetters a_valueBegins a_valueEnds w2.1 a_values, (a_ends, .inl (G.2.1 1, 200, .inl (upd w2.2.1 (x_count - 1).toNatClampNeg w2.1))), (a_attributeLetters, .inl (G.2.1 1, 100, .inl w2.2.2.1)), (a_valueBegins, .inl (G.2.1 1, 100, .inl w2.2.2.2.1)), (a_valueEnds, .inl (G.2.1 1, 100, .inl w2.2.2.2.2.1)), ob_X1 a_values a_values_row w2.2.2.2.2.2.1 w2.2.2.2.2.2.2.1, (a_values_row, .inl (G.2.1 0, 200, .inl w2.2.2.2.2.2.2.2)), ob_X6 a_a1 a_a1_begins a_a1_ends x_a1_had x_a1_name x_a1_ending, (a_a1_begins, .inl (G.2.1 1, 26, .inl x_a1_begins)), (a_a1_ends, .inl (G.2.1 1, 26, .inl x_a1_ends)), ob_X1 a_a2 a_a2_row x_a2_size x_a2_overflowed, (a_a2_row, .inl (G.2.1 0, 200, .inl x_a2_row))] := hW
    obtain rfl := Option.some.inj h
    exact ms_vret hX hW dX7_addAttributes_129
def rm_X7_isForeign : Room := { frames := 1, cells := 0, slots := 0, locals := 21 }
def f_X7_isForeign (x_count : Int32) (x_codes : Nat → Int32) (v1 : Int32) : Option (Int32) := (f_X7_hasNode x_count v1).bind (fun q2 => (if q2 = 0 then some 0 else ms_gi v1 200 ((if ((x_codes v1.toNatClampNeg) &&& (4096 : Int32)) = 0 then some 0 else some 1))))
set_option maxHeartbeats 4000000 in
set_option maxRecDepth 100000 in
theorem fn_X7_isForeign (l : Launch) (G : Gc) (a_this : Nat) (a_codes : Nat) (a_begins : Nat) (a_ends : Nat) (a_characters : Nat) (a_attributeLetters : Nat) (a_valueBegins : Nat) (a_valueEnds : Nat) (a_values : Nat) (x_count : Int32) (x_attributeCount : Int32) (x_codes : Nat → Int32) (v1 : Int32)  {o : Int32} (h : f_X7_isForeign x_count x_codes v1 = some o) : ms_Fn l G yX7_isForeign cX7_isForeign 2 (some .boolean) rm_X7_isForeign [.ref a_this, .int v1] [ob_X7 a_this a_codes a_begins a_ends x_count a_characters a_attributeLetters a_valueBegins a_valueEnds x_attributeCount a_values, (a_codes, .inl (G.2.1 1, 200, .inl x_codes))] [ob_X7 a_this a_codes a_begins a_ends x_count a_characters a_attributeLetters a_valueBegins a_valueEnds x_attributeCount a_values, (a_codes, .inl (G.2.1 1, 200, .inl x_codes))] (some (.int o)) := by
  refine ms_start RX7 (by decide +kernel) rfl (Nat.le_of_ble_eq_true rfl) (fun p e s m below meth c A ls hX hW hl => ?_)
  have hx := hX.1.1
  have hb := hX.1.2.1
  have hl : lv_has ls 2 [(0, .ref a_this), (1, .int v1)] := hl
  unfold f_X7_isForeign at h
  refine lv_aload_n hx hb dX7_isForeign_0 rfl (lv_at hl 0 rfl) ?_
  refine lv_iload_n hx hb dX7_isForeign_1 rfl (lv_at hl 1 rfl) ?_
  obtain ⟨q2, hq2, h⟩ := ms_bd h
  refine ms_callV (fn_X7_hasNode l G a_this a_codes a_begins a_ends a_characters a_attributeLetters a_valueBegins a_valueEnds a_values x_count x_attributeCount v1 hq2) wm_X7_hasNode wv_X7_50 hX hW [0] rfl rfl rfl rfl rfl ⟨Nat.le_of_ble_eq_true rfl, Nat.le_of_ble_eq_true rfl, rfl, rfl, Nat.zero_le _, Nat.zero_le _⟩ rfl hl.1 [] rfl (Nat.le_of_ble_eq_true rfl) dX7_isForeign_2 (fun H locs hW => ?_)
  have hW : ms_W G A s H locs [ob_X7 a_this a_codes a_begins a_ends x_count a_characters a_attributeLetters a_valueBegins a_valueEnds x_attributeCount a_values, (a_codes, .inl (G.2.1 1, 200, .inl x_codes))] := hW
  refine W.eq (g2 := F0 m 5 ls [.int q2]) rfl ?_
  refine lv_if_eq (tgt := 25) hx hb dX7_isForeign_5 (by decide) (fun k => ?_) (fun k => ?_)
  · have h := ms_ifp h k
    refine lv_iconst (v := 0) hx hb dX7_isForeign_25 (by decide) ?_
    obtain rfl := Option.some.inj h
    exact ms_zret hX (ms_nz (Or.inl rfl)) hW dX7_isForeign_26
  · have h := ms_ifn h k
    refine lv_aload_n hx hb dX7_isForeign_8 rfl (lv_at hl 0 rfl) ?_
    refine ms_get ff_X7_11 hX hW 0 rfl rfl dX7_isForeign_9 ?_
    refine lv_iload_n hx hb dX7_isForeign_12 rfl (lv_at hl 1 rfl) ?_
    obtain ⟨k, h⟩ := ms_gi_some h
    refine ms_iald hX hW 1 rfl k dX7_isForeign_13 ?_
    refine lv_sipush (v := 4096) hx hb dX7_isForeign_14 (by decide) ?_
    refine lv_iand hx hb dX7_isForeign_17 ?_
    refine lv_if_eq (tgt := 25) hx hb dX7_isForeign_18 (by decide) (fun k => ?_) (fun k => ?_)
    · have h := ms_ifp h k
      refine lv_iconst (v := 0) hx hb dX7_isForeign_25 (by decide) ?_
      obtain rfl := Option.some.inj h
      exact ms_zret hX (ms_nz (Or.inl rfl)) hW dX7_isForeign_26
    · have h := ms_ifn h k
      refine lv_iconst (v := 1) hx hb dX7_isForeign_21 (by decide) ?_
      refine lv_goto (tgt := 26) hx hb dX7_isForeign_22 (by decide) ?_
      obtain rfl := Option.some.inj h
      exact ms_zret hX (ms_nz (Or.inr rfl)) hW dX7_isForeign_26
def rm_X0_start : Room := { frames := 8, cells := 0, slots := 0, locals := 179 }
def f_X0_start (x_source_size : Int32) (x_source_row : Nat → Int32) (x_tree_count : Int32) (x_tree_attributeCount : Int32) (x_tree_codes : Nat → Int32) (x_tree_begins : Nat → Int32) (x_tree_ends : Nat → Int32) (x_tree_attributeLetters : Nat → Int32) (x_tree_valueBegins : Nat → Int32) (x_tree_valueEnds : Nat → Int32) (x_tree_values_size : Int32) (x_tree_values_overflowed : Int32) (x_tree_values_row : Nat → Int32) (x_open_count : Int32) (x_open_names : Nat → Int32) (x_open_foreigns : Nat → Int32) (x_a1_had : Int32) (x_a1_name : Int32) (x_a1_begins : Nat → Int32) (x_a1_ends : Nat → Int32)  : Option (Int32 × Int32 × (Nat → Int32) × (Nat → Int32) × (Nat → Int32) × (Nat → Int32) × (Nat → Int32) × (Nat → Int32) × Int32 × Int32 × (Nat → Int32) × Int32 × (Nat → Int32) × (Nat → Int32) × Int32) := (f_X6_name x_a1_name).bind (fun q2 => (f_X0_putElement x_tree_count x_tree_attributeCount x_tree_codes x_tree_begins x_tree_ends x_open_count x_open_names x_open_foreigns q2).bind (fun q5 => (if q5.2.2.2.2.2.2.2 = (-1) then some (q5.1, x_tree_attributeCount, q5.2.1, q5.2.2.1, q5.2.2.2.1, x_tree_attributeLetters, x_tree_valueBegins, x_tree_valueEnds, x_tree_values_size, x_tree_values_overflowed, x_tree_values_row, q5.2.2.2.2.1, q5.2.2.2.2.2.1, q5.2.2.2.2.2.2.1, 0) else (f_X7_addAttributes q5.1 x_tree_attributeCount q5.2.2.2.1 x_tree_attributeLetters x_tree_valueBegins x_tree_valueEnds x_tree_values_size x_tree_values_overflowed x_tree_values_row x_a1_had x_a1_begins x_a1_ends x_source_size x_source_row).bind (fun q25 => (f_X6_name x_a1_name).bind (fun q29 => (if q29 = 18 then (f_X7_isForeign q5.1 q5.2.1 q5.2.2.2.2.2.2.2).bind (fun q42 => (if q42 = 0 then some (q5.1, q25.1, q5.2.1, q5.2.2.1, q25.2.1, q25.2.2.1, q25.2.2.2.1, q25.2.2.2.2.1, q25.2.2.2.2.2.1, q25.2.2.2.2.2.2.1, q25.2.2.2.2.2.2.2, q5.2.2.2.2.1, q5.2.2.2.2.2.1, q5.2.2.2.2.2.2.1, 1) else some (q5.1, q25.1, q5.2.1, q5.2.2.1, q25.2.1, q25.2.2.1, q25.2.2.2.1, q25.2.2.2.2.1, q25.2.2.2.2.2.1, q25.2.2.2.2.2.2.1, q25.2.2.2.2.2.2.2, q5.2.2.2.2.1, q5.2.2.2.2.2.1, q5.2.2.2.2.2.2.1, 0))) else some (q5.1, q25.1, q5.2.1, q5.2.2.1, q25.2.1, q25.2.2.1, q25.2.2.2.1, q25.2.2.2.2.1, q25.2.2.2.2.2.1, q25.2.2.2.2.2.2.1, q25.2.2.2.2.2.2.2, q5.2.2.2.2.1, q5.2.2.2.2.2.1, q5.2.2.2.2.2.2.1, 0)))))))
set_option maxHeartbeats 4000000 in
set_option maxRecDepth 100000 in
theorem fn_X0_start (l : Launch) (G : Gc) (a_this : Nat) (a_source : Nat) (a_tree : Nat) (a_open : Nat) (a_source_row : Nat) (a_tree_codes : Nat) (a_tree_begins : Nat) (a_tree_ends : Nat) (a_tree_characters : Nat) (a_tree_attributeLetters : Nat) (a_tree_valueBegins : Nat) (a_tree_valueEnds : Nat) (a_tree_values : Nat) (a_tree_values_row : Nat) (a_open_names : Nat) (a_open_foreigns : Nat) (a_a1 : Nat) (a_a1_begins : Nat) (a_a1_ends : Nat) (x_source_size : Int32) (x_source_overflowed : Int32) (x_source_row : Nat → Int32) (x_tree_count : Int32) (x_tree_attributeCount : Int32) (x_tree_codes : Nat → Int32) (x_tree_begins : Nat → Int32) (x_tree_ends : Nat → Int32) (x_tree_attributeLetters : Nat → Int32) (x_tree_valueBegins : Nat → Int32) (x_tree_valueEnds : Nat → Int32) (x_tree_values_size : Int32) (x_tree_values_overflowed : Int32) (x_tree_values_row : Nat → Int32) (x_open_count : Int32) (x_open_names : Nat → Int32) (x_open_foreigns : Nat → Int32) (x_a1_had : Int32) (x_a1_name : Int32) (x_a1_ending : Int32) (x_a1_begins : Nat → Int32) (x_a1_ends : Nat → Int32)   {o : Int32 × Int32 × (Nat → Int32) × (Nat → Int32) × (Nat → Int32) × (Nat → Int32) × (Nat → Int32) × (Nat → Int32) × Int32 × Int32 × (Nat → Int32) × Int32 × (Nat → Int32) × (Nat → Int32) × Int32} (h : f_X0_start x_source_size x_source_row x_tree_count x_tree_attributeCount x_tree_codes x_tree_begins x_tree_ends x_tree_attributeLetters x_tree_valueBegins x_tree_valueEnds x_tree_values_size x_tree_values_overflowed x_tree_values_row x_open_count x_open_names x_open_foreigns x_a1_had x_a1_name x_a1_begins x_a1_ends = some o) : ms_Fn l G yX0_start cX0_start 3 (some .boolean) rm_X0_start [.ref a_this, .ref a_a1] [ob_X0 a_this a_source a_tree a_open, ob_X1 a_source a_source_row x_source_size x_source_overflowed, (a_source_row, .inl (G.2.1 0, 200, .inl x_source_row)), ob_X7 a_tree a_tree_codes a_tree_begins a_tree_ends x_tree_count a_tree_characters a_tree_attributeLetters a_tree_valueBegins a_tree_valueEnds x_tree_attributeCount a_tree_values, (a_tree_codes, .inl (G.2.1 1, 200, .inl x_tree_codes)), (a_tree_begins, .inl (G.2.1 1, 200, .inl x_tree_begins)), (a_tree_ends, .inl (G.2.1 1, 200, .inl x_tree_ends)), (a_tree_attributeLetters, .inl (G.2.1 1, 100, .inl x_tree_attributeLetters)), (a_tree_valueBegins, .inl (G.2.1 1, 100, .inl x_tree_valueBegins)), (a_tree_valueEnds, .inl (G.2.1 1, 100, .inl x_tree_valueEnds)), ob_X1 a_tree_values a_tree_values_row x_tree_values_size x_tree_values_overflowed, (a_tree_values_row, .inl (G.2.1 0, 200, .inl x_tree_values_row)), ob_X2 a_open a_open_names a_open_foreigns x_open_count, (a_open_names, .inl (G.2.1 1, 8, .inl x_open_names)), (a_open_foreigns, .inl (G.2.1 3, 8, .inl x_open_foreigns)), ob_X6 a_a1 a_a1_begins a_a1_ends x_a1_had x_a1_name x_a1_ending, (a_a1_begins, .inl (G.2.1 1, 26, .inl x_a1_begins)), (a_a1_ends, .inl (G.2.1 1, 26, .inl x_a1_ends))] [ob_X0 a_this a_source a_tree a_open, ob_X1 a_source a_source_row x_source_size x_source_overflowed, (a_source_row, .inl (G.2.1 0, 200, .inl x_source_row)), ob_X7 a_tree a_tree_codes a_tree_begins a_tree_ends o.1 a_tree_characters a_tree_attributeLetters a_tree_valueBegins a_tree_valueEnds o.2.1 a_tree_values, (a_tree_codes, .inl (G.2.1 1, 200, .inl o.2.2.1)), (a_tree_begins, .inl (G.2.1 1, 200, .inl o.2.2.2.1)), (a_tree_ends, .inl (G.2.1 1, 200, .inl o.2.2.2.2.1)), (a_tree_attributeLetters, .inl (G.2.1 1, 100, .inl o.2.2.2.2.2.1)), (a_tree_valueBegins, .inl (G.2.1 1, 100, .inl o.2.2.2.2.2.2.1)), (a_tree_valueEnds, .inl (G.2.1 1, 100, .inl o.2.2.2.2.2.2.2.1)), ob_X1 a_tree_values a_tree_values_row o.2.2.2.2.2.2.2.2.1 o.2.2.2.2.2.2.2.2.2.1, (a_tree_values_row, .inl (G.2.1 0, 200, .inl o.2.2.2.2.2.2.2.2.2.2.1)), ob_X2 a_open a_open_names a_open_foreigns o.2.2.2.2.2.2.2.2.2.2.2.1, (a_open_names, .inl (G.2.1 1, 8, .inl o.2.2.2.2.2.2.2.2.2.2.2.2.1)), (a_open_foreigns, .inl (G.2.1 3, 8, .inl o.2.2.2.2.2.2.2.2.2.2.2.2.2.1)), ob_X6 a_a1 a_a1_begins a_a1_ends x_a1_had x_a1_name x_a1_ending, (a_a1_begins, .inl (G.2.1 1, 26, .inl x_a1_begins)), (a_a1_ends, .inl (G.2.1 1, 26, .inl x_a1_ends))] (some (.int o.2.2.2.2.2.2.2.2.2.2.2.2.2.2)) := by
  refine ms_start RX0 (by decide +kernel) rfl (Nat.le_of_ble_eq_true rfl) (fun p e s m below meth c A ls hX hW hl => ?_)
  have hx := hX.1.1
  have hb := hX.1.2.1
  have hl : lv_has ls 3 [(0, .ref a_this), (1, .ref a_a1)] := hl
  unfold f_X0_start at h
  refine lv_aload_n hx hb dX0_start_0 rfl (lv_at hl 0 rfl) ?_
  refine lv_aload_n hx hb dX0_start_1 rfl (lv_at hl 1 rfl) ?_
  obtain ⟨q2, hq2, h⟩ := ms_bd h
  refine ms_callV (fn_X6_name l G a_a1 a_a1_begins a_a1_ends x_a1_had x_a1_name x_a1_ending hq2) wm_X6_name wv_X0_36 hX hW [15] rfl rfl rfl rfl rfl ⟨Nat.le_of_ble_eq_true rfl, Nat.le_of_ble_eq_true rfl, rfl, rfl, Nat.zero_le _, Nat.zero_le _⟩ rfl hl.1 [.ref a_this] rfl (Nat.le_of_ble_eq_true rfl) dX0_start_2 (fun H locs hW => ?_)
  have hW : ms_W G A s H locs [ob_X0 a_this a_source a_tree a_open, ob_X1 a_source a_source_row x_source_size x_source_overflowed, (a_source_row, .inl (G.2.1 0, 200, .inl x_source_row)), ob_X7 a_tree a_tree_codes a_tree_begins a_tree_ends x_tree_count a_tree_characters a_tree_attributeLetters a_tree_valueBegins a_tree_valueEnds x_tree_attributeCount a_tree_values, (a_tree_codes, .inl (G.2.1 1, 200, .inl x_tree_codes)), (a_tree_begins, .inl (G.2.1 1, 200, .inl x_tree_begins)), (a_tree_ends, .inl (G.2.1 1, 200, .inl x_tree_ends)), (a_tree_attributeLetters, .inl (G.2.1 1, 100, .inl x_tree_attributeLetters)), (a_tree_valueBegins, .inl (G.2.1 1, 100, .inl x_tree_valueBegins)), (a_tree_valueEnds, .inl (G.2.1 1, 100, .inl x_tree_valueEnds)), ob_X1 a_tree_values a_tree_values_row x_tree_values_size x_tree_values_overflowed, (a_tree_values_row, .inl (G.2.1 0, 200, .inl x_tree_values_row)), ob_X2 a_open a_open_names a_open_foreigns x_open_count, (a_open_names, .inl (G.2.1 1, 8, .inl x_open_names)), (a_open_foreigns, .inl (G.2.1 3, 8, .inl x_open_foreigns)), ob_X6 a_a1 a_a1_begins a_a1_ends x_a1_had x_a1_name x_a1_ending, (a_a1_begins, .inl (G.2.1 1, 26, .inl x_a1_begins)), (a_a1_ends, .inl (G.2.1 1, 26, .inl x_a1_ends))] := hW
  refine W.eq (g2 := F0 m 5 ls [.int q2, .ref a_this]) rfl ?_
  obtain ⟨q5, hq5, h⟩ := ms_bd h
  refine ms_callV (fn_X0_putElement l G a_this a_source a_tree a_open a_tree_codes a_tree_begins a_tree_ends a_tree_characters a_tree_attributeLetters a_tree_valueBegins a_tree_valueEnds a_tree_values a_open_names a_open_foreigns x_tree_count x_tree_attributeCount x_tree_codes x_tree_begins x_tree_ends x_open_count x_open_names x_open_foreigns q2 hq5) wm_X0_putElement wv_X0_41 hX hW [0, 3, 4, 5, 6, 12, 13, 14] rfl rfl rfl rfl rfl ⟨Nat.le_of_ble_eq_true rfl, Nat.le_of_ble_eq_true rfl, rfl, rfl, Nat.zero_le _, Nat.zero_le _⟩ rfl hl.1 [] rfl (Nat.le_of_ble_eq_true rfl) dX0_start_5 (fun H locs hW => ?_)
  have hW : ms_W G A s H locs [ob_X0 a_this a_source a_tree a_open, ob_X1 a_source a_source_row x_source_size x_source_overflowed, (a_source_row, .inl (G.2.1 0, 200, .inl x_source_row)), ob_X7 a_tree a_tree_codes a_tree_begins a_tree_ends q5.1 a_tree_characters a_tree_attributeLetters a_tree_valueBegins a_tree_valueEnds x_tree_attributeCount a_tree_values, (a_tree_codes, .inl (G.2.1 1, 200, .inl q5.2.1)), (a_tree_begins, .inl (G.2.1 1, 200, .inl q5.2.2.1)), (a_tree_ends, .inl (G.2.1 1, 200, .inl q5.2.2.2.1)), (a_tree_attributeLetters, .inl (G.2.1 1, 100, .inl x_tree_attributeLetters)), (a_tree_valueBegins, .inl (G.2.1 1, 100, .inl x_tree_valueBegins)), (a_tree_valueEnds, .inl (G.2.1 1, 100, .inl x_tree_valueEnds)), ob_X1 a_tree_values a_tree_values_row x_tree_values_size x_tree_values_overflowed, (a_tree_values_row, .inl (G.2.1 0, 200, .inl x_tree_values_row)), ob_X2 a_open a_open_names a_open_foreigns q5.2.2.2.2.1, (a_open_names, .inl (G.2.1 1, 8, .inl q5.2.2.2.2.2.1)), (a_open_foreigns, .inl (G.2.1 3, 8, .inl q5.2.2.2.2.2.2.1)), ob_X6 a_a1 a_a1_begins a_a1_ends x_a1_had x_a1_name x_a1_ending, (a_a1_begins, .inl (G.2.1 1, 26, .inl x_a1_begins)), (a_a1_ends, .inl (G.2.1 1, 26, .inl x_a1_ends))] := hW
  refine W.eq (g2 := F0 m 8 ls [.int q5.2.2.2.2.2.2.2]) rfl ?_
  refine lv_istore_n (lv' := [(2, .int q5.2.2.2.2.2.2.2), (0, .ref a_this), (1, .ref a_a1)]) hx hb dX0_start_8 rfl hl (by decide) rfl (fun ls hl => ?_)
  refine lv_iload_n hx hb dX0_start_9 rfl (lv_at hl 0 rfl) ?_
  refine lv_iconst (v := (-1)) hx hb dX0_start_10 (by decide) ?_
  refine lv_icmp_ne (tgt := 16) hx hb dX0_start_11 (by decide) (fun k => ?_) (fun k => ?_)
  · have h := ms_ifn h k
    refine lv_aload_n hx hb dX0_start_16 rfl (lv_at hl 1 rfl) ?_
    refine ms_get ff_X0_15 hX hW 0 rfl rfl dX0_start_17 ?_
    refine lv_aload_n hx hb dX0_start_20 rfl (lv_at hl 2 rfl) ?_
    refine lv_aload_n hx hb dX0_start_21 rfl (lv_at hl 1 rfl) ?_
    refine ms_get ff_X0_9 hX hW 0 rfl rfl dX0_start_22 ?_
    obtain ⟨q25, hq25, h⟩ := ms_bd h
    refine ms_callV (fn_X7_addAttributes l G a_tree a_tree_codes a_tree_begins a_tree_ends a_tree_characters a_tree_attributeLetters a_tree_valueBegins a_tree_valueEnds a_tree_values a_tree_values_row a_a1 a_a1_begins a_a1_ends a_source a_source_row q5.1 x_tree_attributeCount q5.2.2.2.1 x_tree_attributeLetters x_tree_valueBegins x_tree_valueEnds x_tree_values_size x_tree_values_overflowed x_tree_values_row x_a1_had x_a1_name x_a1_ending x_a1_begins x_a1_ends x_source_size x_source_overflowed x_source_row hq25) wm_X7_addAttributes wv_X0_45 hX hW [3, 6, 7, 8, 9, 10, 11, 15, 16, 17, 1, 2] rfl rfl rfl rfl rfl ⟨Nat.le_of_ble_eq_true rfl, Nat.le_of_ble_eq_true rfl, rfl, rfl, Nat.zero_le _, Nat.zero_le _⟩ rfl hl.1 [] rfl (Nat.le_of_ble_eq_true rfl) dX0_start_25 (fun H locs hW => ?_)
    have hW : ms_W G A s H locs [ob_X0 a_this a_source a_tree a_open, ob_X1 a_source a_source_row x_source_size x_source_overflowed, (a_source_row, .inl (G.2.1 0, 200, .inl x_source_row)), ob_X7 a_tree a_tree_codes a_tree_begins a_tree_ends q5.1 a_tree_characters a_tree_attributeLetters a_tree_valueBegins a_tree_valueEnds q25.1 a_tree_values, (a_tree_codes, .inl (G.2.1 1, 200, .inl q5.2.1)), (a_tree_begins, .inl (G.2.1 1, 200, .inl q5.2.2.1)), (a_tree_ends, .inl (G.2.1 1, 200, .inl q25.2.1)), (a_tree_attributeLetters, .inl (G.2.1 1, 100, .inl q25.2.2.1)), (a_tree_valueBegins, .inl (G.2.1 1, 100, .inl q25.2.2.2.1)), (a_tree_valueEnds, .inl (G.2.1 1, 100, .inl q25.2.2.2.2.1)), ob_X1 a_tree_values a_tree_values_row q25.2.2.2.2.2.1 q25.2.2.2.2.2.2.1, (a_tree_values_row, .inl (G.2.1 0, 200, .inl q25.2.2.2.2.2.2.2)), ob_X2 a_open a_open_names a_open_foreigns q5.2.2.2.2.1, (a_open_names, .inl (G.2.1 1, 8, .inl q5.2.2.2.2.2.1)), (a_open_foreigns, .inl (G.2.1 3, 8, .inl q5.2.2.2.2.2.2.1)), ob_X6 a_a1 a_a1_begins a_a1_ends x_a1_had x_a1_name x_a1_ending, (a_a1_begins, .inl (G.2.1 1, 26, .inl x_a1_begins)), (a_a1_ends, .inl (G.2.1 1, 26, .inl x_a1_ends))] := hW
    refine W.eq (g2 := F0 m 28 ls []) rfl ?_
    refine lv_aload_n hx hb dX0_start_28 rfl (lv_at hl 2 rfl) ?_
    obtain ⟨q29, hq29, h⟩ := ms_bd h
    refine ms_callV (fn_X6_name l G a_a1 a_a1_begins a_a1_ends x_a1_had x_a1_name x_a1_ending hq29) wm_X6_name wv_X0_36 hX hW [15] rfl rfl rfl rfl rfl ⟨Nat.le_of_ble_eq_true rfl, Nat.le_of_ble_eq_true rfl, rfl, rfl, Nat.zero_le _, Nat.zero_le _⟩ rfl hl.1 [] rfl (Nat.le_of_ble_eq_true rfl) dX0_start_29 (fun H locs hW => ?_)
    have hW : ms_W G A s H locs [ob_X0 a_this a_source a_tree a_open, ob_X1 a_source a_source_row x_source_size x_source_overflowed, (a_source_row, .inl (G.2.1 0, 200, .inl x_source_row)), ob_X7 a_tree a_tree_codes a_tree_begins a_tree_ends q5.1 a_tree_characters a_tree_attributeLetters a_tree_valueBegins a_tree_valueEnds q25.1 a_tree_values, (a_tree_codes, .inl (G.2.1 1, 200, .inl q5.2.1)), (a_tree_begins, .inl (G.2.1 1, 200, .inl q5.2.2.1)), (a_tree_ends, .inl (G.2.1 1, 200, .inl q25.2.1)), (a_tree_attributeLetters, .inl (G.2.1 1, 100, .inl q25.2.2.1)), (a_tree_valueBegins, .inl (G.2.1 1, 100, .inl q25.2.2.2.1)), (a_tree_valueEnds, .inl (G.2.1 1, 100, .inl q25.2.2.2.2.1)), ob_X1 a_tree_values a_tree_values_row q25.2.2.2.2.2.1 q25.2.2.2.2.2.2.1, (a_tree_values_row, .inl (G.2.1 0, 200, .inl q25.2.2.2.2.2.2.2)), ob_X2 a_open a_open_names a_open_foreigns q5.2.2.2.2.1, (a_open_names, .inl (G.2.1 1, 8, .inl q5.2.2.2.2.2.1)), (a_open_foreigns, .inl (G.2.1 3, 8, .inl q5.2.2.2.2.2.2.1)), ob_X6 a_a1 a_a1_begins a_a1_ends x_a1_had x_a1_name x_a1_ending, (a_a1_begins, .inl (G.2.1 1, 26, .inl x_a1_begins)), (a_a1_ends, .inl (G.2.1 1, 26, .inl x_a1_ends))] := hW
    refine W.eq (g2 := F0 m 32 ls [.int q29]) rfl ?_
    refine lv_bipush (v := 18) hx hb dX0_start_32 (by decide) ?_
    refine lv_icmp_ne (tgt := 52) hx hb dX0_start_34 (by decide) (fun k => ?_) (fun k => ?_)
    · have h := ms_ifn h k
      refine lv_iconst (v := 0) hx hb dX0_start_52 (by decide) ?_
      obtain rfl := Option.some.inj h
      exact ms_zret hX (ms_nz (Or.inl rfl)) hW dX0_start_53
    · have h := ms_ifp h k
      refine lv_aload_n hx hb dX0_start_37 rfl (lv_at hl 1 rfl) ?_
      refine ms_get ff_X0_15 hX hW 0 rfl rfl dX0_start_38 ?_
      refine lv_iload_n hx hb dX0_start_41 rfl (lv_at hl 0 rfl) ?_
      obtain ⟨q42, hq42, h⟩ := ms_bd h
      refine ms_callV (fn_X7_isForeign l G a_tree a_tree_codes a_tree_begins a_tree_ends a_tree_characters a_tree_attributeLetters a_tree_valueBegins a_tree_valueEnds a_tree_values q5.1 q25.1 q5.2.1 q5.2.2.2.2.2.2.2 hq42) wm_X7_isForeign wv_X0_49 hX hW [3, 4] rfl rfl rfl rfl rfl ⟨Nat.le_of_ble_eq_true rfl, Nat.le_of_ble_eq_true rfl, rfl, rfl, Nat.zero_le _, Nat.zero_le _⟩ rfl hl.1 [] rfl (Nat.le_of_ble_eq_true rfl) dX0_start_42 (fun H locs hW => ?_)
      have hW : ms_W G A s H locs [ob_X0 a_this a_source a_tree a_open, ob_X1 a_source a_source_row x_source_size x_source_overflowed, (a_source_row, .inl (G.2.1 0, 200, .inl x_source_row)), ob_X7 a_tree a_tree_codes a_tree_begins a_tree_ends q5.1 a_tree_characters a_tree_attributeLetters a_tree_valueBegins a_tree_valueEnds q25.1 a_tree_values, (a_tree_codes, .inl (G.2.1 1, 200, .inl q5.2.1)), (a_tree_begins, .inl (G.2.1 1, 200, .inl q5.2.2.1)), (a_tree_ends, .inl (G.2.1 1, 200, .inl q25.2.1)), (a_tree_attributeLetters, .inl (G.2.1 1, 100, .inl q25.2.2.1)), (a_tree_valueBegins, .inl (G.2.1 1, 100, .inl q25.2.2.2.1)), (a_tree_valueEnds, .inl (G.2.1 1, 100, .inl q25.2.2.2.2.1)), ob_X1 a_tree_values a_tree_values_row q25.2.2.2.2.2.1 q25.2.2.2.2.2.2.1, (a_tree_values_row, .inl (G.2.1 0, 200, .inl q25.2.2.2.2.2.2.2)), ob_X2 a_open a_open_names a_open_foreigns q5.2.2.2.2.1, (a_open_names, .inl (G.2.1 1, 8, .inl q5.2.2.2.2.2.1)), (a_open_foreigns, .inl (G.2.1 3, 8, .inl q5.2.2.2.2.2.2.1)), ob_X6 a_a1 a_a1_begins a_a1_ends x_a1_had x_a1_name x_a1_ending, (a_a1_begins, .inl (G.2.1 1, 26, .inl x_a1_begins)), (a_a1_ends, .inl (G.2.1 1, 26, .inl x_a1_ends))] := hW
      refine W.eq (g2 := F0 m 45 ls [.int q42]) rfl ?_
      refine lv_if_ne (tgt := 52) hx hb dX0_start_45 (by decide) (fun k => ?_) (fun k => ?_)
      · have h := ms_ifn h k
        refine lv_iconst (v := 0) hx hb dX0_start_52 (by decide) ?_
        obtain rfl := Option.some.inj h
        exact ms_zret hX (ms_nz (Or.inl rfl)) hW dX0_start_53
      · have h := ms_ifp h k
        refine lv_iconst (v := 1) hx hb dX0_start_48 (by decide) ?_
        refine lv_goto (tgt := 53) hx hb dX0_start_49 (by decide) ?_
        obtain rfl := Option.some.inj h
        exact ms_zret hX (ms_nz (Or.inr rfl)) hW dX0_start_53
  · have h := ms_ifp h k
    refine lv_iconst (v := 0) hx hb dX0_start_14 (by decide) ?_
    obtain rfl := Option.some.inj h
    exact ms_zret hX (ms_nz (Or.inl rfl)) hW dX0_start_15
def rm_X0_end : Room := { frames := 5, cells := 0, slots := 0, locals := 113 }
def f_X0_end (x_tree_count : Int32) (x_tree_attributeCount : Int32) (x_tree_codes : Nat → Int32) (x_tree_begins : Nat → Int32) (x_tree_ends : Nat → Int32) (x_open_count : Int32) (x_open_names : Nat → Int32) (x_open_foreigns : Nat → Int32) (v1 : Int32) : Option (Int32 × (Nat → Int32) × (Nat → Int32) × (Nat → Int32) × Int32 × (Nat → Int32) × (Nat → Int32)) := (f_X2_lastInTail x_open_count x_open_names x_open_foreigns v1).bind (fun q5 => (if q5 = (-1) then (if v1 = 15 then (f_X2_isAlien x_open_count x_open_names x_open_foreigns).bind (fun q35 => (if q35 = 0 then (f_X0_putElement x_tree_count x_tree_attributeCount x_tree_codes x_tree_begins x_tree_ends x_open_count x_open_names x_open_foreigns 15).bind (fun q44 => (if q44.2.2.2.2.2.2.2 = (-1) then some (q44.1, q44.2.1, q44.2.2.1, q44.2.2.2.1, q44.2.2.2.2.1, q44.2.2.2.2.2.1, q44.2.2.2.2.2.2.1) else (f_X2_size q44.2.2.2.2.1).bind (fun q59 => (f_X2_close q44.2.2.2.2.1 (q59 - 1)).bind (fun q64 => some (q44.1, q44.2.1, q44.2.2.1, q44.2.2.2.1, q64, q44.2.2.2.2.2.1, q44.2.2.2.2.2.2.1))))) else some (x_tree_count, x_tree_codes, x_tree_begins, x_tree_ends, x_open_count, x_open_names, x_open_foreigns))) else some (x_tree_count, x_tree_codes, x_tree_begins, x_tree_ends, x_open_count, x_open_names, x_open_foreigns)) else (f_X2_close x_open_count q5).bind (fun q19 => some (x_tree_count, x_tree_codes, x_tree_begins, x_tree_ends, q19, x_open_names, x_open_foreigns))))
set_option maxHeartbeats 4000000 in
set_option maxRecDepth 100000 in
theorem fn_X0_end (l : Launch) (G : Gc) (a_this : Nat) (a_source : Nat) (a_tree : Nat) (a_open : Nat) (a_tree_codes : Nat) (a_tree_begins : Nat) (a_tree_ends : Nat) (a_tree_characters : Nat) (a_tree_attributeLetters : Nat) (a_tree_valueBegins : Nat) (a_tree_valueEnds : Nat) (a_tree_values : Nat) (a_open_names : Nat) (a_open_foreigns : Nat) (x_tree_count : Int32) (x_tree_attributeCount : Int32) (x_tree_codes : Nat → Int32) (x_tree_begins : Nat → Int32) (x_tree_ends : Nat → Int32) (x_open_count : Int32) (x_open_names : Nat → Int32) (x_open_foreigns : Nat → Int32) (v1 : Int32)  {o : Int32 × (Nat → Int32) × (Nat → Int32) × (Nat → Int32) × Int32 × (Nat → Int32) × (Nat → Int32)} (h : f_X0_end x_tree_count x_tree_attributeCount x_tree_codes x_tree_begins x_tree_ends x_open_count x_open_names x_open_foreigns v1 = some o) : ms_Fn l G yX0_end cX0_end 3 none rm_X0_end [.ref a_this, .int v1] [ob_X0 a_this a_source a_tree a_open, ob_X7 a_tree a_tree_codes a_tree_begins a_tree_ends x_tree_count a_tree_characters a_tree_attributeLetters a_tree_valueBegins a_tree_valueEnds x_tree_attributeCount a_tree_values, (a_tree_codes, .inl (G.2.1 1, 200, .inl x_tree_codes)), (a_tree_begins, .inl (G.2.1 1, 200, .inl x_tree_begins)), (a_tree_ends, .inl (G.2.1 1, 200, .inl x_tree_ends)), ob_X2 a_open a_open_names a_open_foreigns x_open_count, (a_open_names, .inl (G.2.1 1, 8, .inl x_open_names)), (a_open_foreigns, .inl (G.2.1 3, 8, .inl x_open_foreigns))] [ob_X0 a_this a_source a_tree a_open, ob_X7 a_tree a_tree_codes a_tree_begins a_tree_ends o.1 a_tree_characters a_tree_attributeLetters a_tree_valueBegins a_tree_valueEnds x_tree_attributeCount a_tree_values, (a_tree_codes, .inl (G.2.1 1, 200, .inl o.2.1)), (a_tree_begins, .inl (G.2.1 1, 200, .inl o.2.2.1)), (a_tree_ends, .inl (G.2.1 1, 200, .inl o.2.2.2.1)), ob_X2 a_open a_open_names a_open_foreigns o.2.2.2.2.1, (a_open_names, .inl (G.2.1 1, 8, .inl o.2.2.2.2.2.1)), (a_open_foreigns, .inl (G.2.1 3, 8, .inl o.2.2.2.2.2.2))] none := by
  refine ms_start RX0 (by decide +kernel) rfl (Nat.le_of_ble_eq_true rfl) (fun p e s m below meth c A ls hX hW hl => ?_)
  have hx := hX.1.1
  have hb := hX.1.2.1
  have hl : lv_has ls 3 [(0, .ref a_this), (1, .int v1)] := hl
  unfold f_X0_end at h
  refine lv_aload_n hx hb dX0_end_0 rfl (lv_at hl 0 rfl) ?_
  refine ms_get ff_X0_22 hX hW 0 rfl rfl dX0_end_1 ?_
  refine lv_iload_n hx hb dX0_end_4 rfl (lv_at hl 1 rfl) ?_
  obtain ⟨q5, hq5, h⟩ := ms_bd h
  refine ms_callV (fn_X2_lastInTail l G a_open a_open_names a_open_foreigns x_open_count x_open_names x_open_foreigns v1 hq5) wm_X2_lastInTail wv_X0_53 hX hW [5, 6, 7] rfl rfl rfl rfl rfl ⟨Nat.le_of_ble_eq_true rfl, Nat.le_of_ble_eq_true rfl, rfl, rfl, Nat.zero_le _, Nat.zero_le _⟩ rfl hl.1 [] rfl (Nat.le_of_ble_eq_true rfl) dX0_end_5 (fun H locs hW => ?_)
  have hW : ms_W G A s H locs [ob_X0 a_this a_source a_tree a_open, ob_X7 a_tree a_tree_codes a_tree_begins a_tree_ends x_tree_count a_tree_characters a_tree_attributeLetters a_tree_valueBegins a_tree_valueEnds x_tree_attributeCount a_tree_values, (a_tree_codes, .inl (G.2.1 1, 200, .inl x_tree_codes)), (a_tree_begins, .inl (G.2.1 1, 200, .inl x_tree_begins)), (a_tree_ends, .inl (G.2.1 1, 200, .inl x_tree_ends)), ob_X2 a_open a_open_names a_open_foreigns x_open_count, (a_open_names, .inl (G.2.1 1, 8, .inl x_open_names)), (a_open_foreigns, .inl (G.2.1 3, 8, .inl x_open_foreigns))] := hW
  refine W.eq (g2 := F0 m 8 ls [.int q5]) rfl ?_
  refine lv_istore_n (lv' := [(2, .int q5), (0, .ref a_this), (1, .int v1)]) hx hb dX0_end_8 rfl hl (by decide) rfl (fun ls hl => ?_)
  refine lv_iload_n hx hb dX0_end_9 rfl (lv_at hl 0 rfl) ?_
  refine lv_iconst (v := (-1)) hx hb dX0_end_10 (by decide) ?_
  refine lv_icmp_eq (tgt := 25) hx hb dX0_end_11 (by decide) (fun k => ?_) (fun k => ?_)
  · have h := ms_ifp h k
    refine lv_iload_n hx hb dX0_end_25 rfl (lv_at hl 2 rfl) ?_
    refine lv_bipush (v := 15) hx hb dX0_end_26 (by decide) ?_
    refine lv_icmp_ne (tgt := 67) hx hb dX0_end_28 (by decide) (fun k => ?_) (fun k => ?_)
    · have h := ms_ifn h k
      obtain rfl := Option.some.inj h
      exact ms_vret hX hW dX0_end_67
    · have h := ms_ifp h k
      refine lv_aload_n hx hb dX0_end_31 rfl (lv_at hl 1 rfl) ?_
      refine ms_get ff_X0_22 hX hW 0 rfl rfl dX0_end_32 ?_
      obtain ⟨q35, hq35, h⟩ := ms_bd h
      refine ms_callV (fn_X2_isAlien l G a_open a_open_names a_open_foreigns x_open_count x_open_names x_open_foreigns hq35) wm_X2_isAlien wv_X0_60 hX hW [5, 6, 7] rfl rfl rfl rfl rfl ⟨Nat.le_of_ble_eq_true rfl, Nat.le_of_ble_eq_true rfl, rfl, rfl, Nat.zero_le _, Nat.zero_le _⟩ rfl hl.1 [] rfl (Nat.le_of_ble_eq_true rfl) dX0_end_35 (fun H locs hW => ?_)
      have hW : ms_W G A s H locs [ob_X0 a_this a_source a_tree a_open, ob_X7 a_tree a_tree_codes a_tree_begins a_tree_ends x_tree_count a_tree_characters a_tree_attributeLetters a_tree_valueBegins a_tree_valueEnds x_tree_attributeCount a_tree_values, (a_tree_codes, .inl (G.2.1 1, 200, .inl x_tree_codes)), (a_tree_begins, .inl (G.2.1 1, 200, .inl x_tree_begins)), (a_tree_ends, .inl (G.2.1 1, 200, .inl x_tree_ends)), ob_X2 a_open a_open_names a_open_foreigns x_open_count, (a_open_names, .inl (G.2.1 1, 8, .inl x_open_names)), (a_open_foreigns, .inl (G.2.1 3, 8, .inl x_open_foreigns))] := hW
      refine W.eq (g2 := F0 m 38 ls [.int q35]) rfl ?_
      refine lv_if_ne (tgt := 67) hx hb dX0_end_38 (by decide) (fun k => ?_) (fun k => ?_)
      · have h := ms_ifn h k
        obtain rfl := Option.some.inj h
        exact ms_vret hX hW dX0_end_67
      · have h := ms_ifp h k
        refine lv_aload_n hx hb dX0_end_41 rfl (lv_at hl 1 rfl) ?_
        refine lv_bipush (v := 15) hx hb dX0_end_42 (by decide) ?_
        obtain ⟨q44, hq44, h⟩ := ms_bd h
        refine ms_callV (fn_X0_putElement l G a_this a_source a_tree a_open a_tree_codes a_tree_begins a_tree_ends a_tree_characters a_tree_attributeLetters a_tree_valueBegins a_tree_valueEnds a_tree_values a_open_names a_open_foreigns x_tree_count x_tree_attributeCount x_tree_codes x_tree_begins x_tree_ends x_open_count x_open_names x_open_foreigns 15 hq44) wm_X0_putElement wv_X0_41 hX hW [0, 1, 2, 3, 4, 5, 6, 7] rfl rfl rfl rfl rfl ⟨Nat.le_of_ble_eq_true rfl, Nat.le_of_ble_eq_true rfl, rfl, rfl, Nat.zero_le _, Nat.zero_le _⟩ rfl hl.1 [] rfl (Nat.le_of_ble_eq_true rfl) dX0_end_44 (fun H locs hW => ?_)
        have hW : ms_W G A s H locs [ob_X0 a_this a_source a_tree a_open, ob_X7 a_tree a_tree_codes a_tree_begins a_tree_ends q44.1 a_tree_characters a_tree_attributeLetters a_tree_valueBegins a_tree_valueEnds x_tree_attributeCount a_tree_values, (a_tree_codes, .inl (G.2.1 1, 200, .inl q44.2.1)), (a_tree_begins, .inl (G.2.1 1, 200, .inl q44.2.2.1)), (a_tree_ends, .inl (G.2.1 1, 200, .inl q44.2.2.2.1)), ob_X2 a_open a_open_names a_open_foreigns q44.2.2.2.2.1, (a_open_names, .inl (G.2.1 1, 8, .inl q44.2.2.2.2.2.1)), (a_open_foreigns, .inl (G.2.1 3, 8, .inl q44.2.2.2.2.2.2.1))] := hW
        refine W.eq (g2 := F0 m 47 ls [.int q44.2.2.2.2.2.2.2]) rfl ?_
        refine lv_iconst (v := (-1)) hx hb dX0_end_47 (by decide) ?_
        refine lv_icmp_eq (tgt := 67) hx hb dX0_end_48 (by decide) (fun k => ?_) (fun k => ?_)
        · have h := ms_ifp h k
          obtain rfl := Option.some.inj h
          exact ms_vret hX hW dX0_end_67
        · have h := ms_ifn h k
          refine lv_aload_n hx hb dX0_end_51 rfl (lv_at hl 1 rfl) ?_
          refine ms_get ff_X0_22 hX hW 0 rfl rfl dX0_end_52 ?_
          refine lv_aload_n hx hb dX0_end_55 rfl (lv_at hl 1 rfl) ?_
          refine ms_get ff_X0_22 hX hW 0 rfl rfl dX0_end_56 ?_
          obtain ⟨q59, hq59, h⟩ := ms_bd h
          refine ms_callV (fn_X2_size l G a_open a_open_names a_open_foreigns q44.2.2.2.2.1 hq59) wm_X2_size wv_X0_32 hX hW [5] rfl rfl rfl rfl rfl ⟨Nat.le_of_ble_eq_true rfl, Nat.le_of_ble_eq_true rfl, rfl, rfl, Nat.zero_le _, Nat.zero_le _⟩ rfl hl.1 [.ref a_open] rfl (Nat.le_of_ble_eq_true rfl) dX0_end_59 (fun H locs hW => ?_)
          have hW : ms_W G A s H locs [ob_X0 a_this a_source a_tree a_open, ob_X7 a_tree a_tree_codes a_tree_begins a_tree_ends q44.1 a_tree_characters a_tree_attributeLetters a_tree_valueBegins a_tree_valueEnds x_tree_attributeCount a_tree_values, (a_tree_codes, .inl (G.2.1 1, 200, .inl q44.2.1)), (a_tree_begins, .inl (G.2.1 1, 200, .inl q44.2.2.1)), (a_tree_ends, .inl (G.2.1 1, 200, .inl q44.2.2.2.1)), ob_X2 a_open a_open_names a_open_foreigns q44.2.2.2.2.1, (a_open_names, .inl (G.2.1 1, 8, .inl q44.2.2.2.2.2.1)), (a_open_foreigns, .inl (G.2.1 3, 8, .inl q44.2.2.2.2.2.2.1))] := hW
          refine W.eq (g2 := F0 m 62 ls [.int q59, .ref a_open]) rfl ?_
          refine lv_iconst (v := 1) hx hb dX0_end_62 (by decide) ?_
          refine lv_isub hx hb dX0_end_63 ?_
          obtain ⟨q64, hq64, h⟩ := ms_bd h
          refine ms_callV (fn_X2_close l G a_open a_open_names a_open_foreigns q44.2.2.2.2.1 (q59 - 1) hq64) wm_X2_close wv_X0_56 hX hW [5] rfl rfl rfl rfl rfl ⟨Nat.le_of_ble_eq_true rfl, Nat.le_of_ble_eq_true rfl, rfl, rfl, Nat.zero_le _, Nat.zero_le _⟩ rfl hl.1 [] rfl (Nat.le_of_ble_eq_true rfl) dX0_end_64 (fun H locs hW => ?_)
          have hW : ms_W G A s H locs [ob_X0 a_this a_source a_tree a_open, ob_X7 a_tree a_tree_codes a_tree_begins a_tree_ends q44.1 a_tree_characters a_tree_attributeLetters a_tree_valueBegins a_tree_valueEnds x_tree_attributeCount a_tree_values, (a_tree_codes, .inl (G.2.1 1, 200, .inl q44.2.1)), (a_tree_begins, .inl (G.2.1 1, 200, .inl q44.2.2.1)), (a_tree_ends, .inl (G.2.1 1, 200, .inl q44.2.2.2.1)), ob_X2 a_open a_open_names a_open_foreigns q64, (a_open_names, .inl (G.2.1 1, 8, .inl q44.2.2.2.2.2.1)), (a_open_foreigns, .inl (G.2.1 3, 8, .inl q44.2.2.2.2.2.2.1))] := hW
          refine W.eq (g2 := F0 m 67 ls []) rfl ?_
          obtain rfl := Option.some.inj h
          exact ms_vret hX hW dX0_end_67
  · have h := ms_ifn h k
    refine lv_aload_n hx hb dX0_end_14 rfl (lv_at hl 1 rfl) ?_
    refine ms_get ff_X0_22 hX hW 0 rfl rfl dX0_end_15 ?_
    refine lv_iload_n hx hb dX0_end_18 rfl (lv_at hl 0 rfl) ?_
    obtain ⟨q19, hq19, h⟩ := ms_bd h
    refine ms_callV (fn_X2_close l G a_open a_open_names a_open_foreigns x_open_count q5 hq19) wm_X2_close wv_X0_56 hX hW [5] rfl rfl rfl rfl rfl ⟨Nat.le_of_ble_eq_true rfl, Nat.le_of_ble_eq_true rfl, rfl, rfl, Nat.zero_le _, Nat.zero_le _⟩ rfl hl.1 [] rfl (Nat.le_of_ble_eq_true rfl) dX0_end_19 (fun H locs hW => ?_)
    have hW : ms_W G A s H locs [ob_X0 a_this a_source a_tree a_open, ob_X7 a_tree a_tree_codes a_tree_begins a_tree_ends x_tree_count a_tree_characters a_tree_attributeLetters a_tree_valueBegins a_tree_valueEnds x_tree_attributeCount a_tree_values, (a_tree_codes, .inl (G.2.1 1, 200, .inl x_tree_codes)), (a_tree_begins, .inl (G.2.1 1, 200, .inl x_tree_begins)), (a_tree_ends, .inl (G.2.1 1, 200, .inl x_tree_ends)), ob_X2 a_open a_open_names a_open_foreigns q19, (a_open_names, .inl (G.2.1 1, 8, .inl x_open_names)), (a_open_foreigns, .inl (G.2.1 3, 8, .inl x_open_foreigns))] := hW
    refine W.eq (g2 := F0 m 22 ls []) rfl ?_
    refine lv_goto (tgt := 67) hx hb dX0_end_22 (by decide) ?_
    obtain rfl := Option.some.inj h
    exact ms_vret hX hW dX0_end_67
def rm_X1_isOverflowed : Room := { frames := 0, cells := 0, slots := 0, locals := 0 }
def f_X1_isOverflowed (x_overflowed : Int32)  : Option (Int32) := ms_gz x_overflowed (some x_overflowed)
set_option maxHeartbeats 4000000 in
set_option maxRecDepth 100000 in
theorem fn_X1_isOverflowed (l : Launch) (G : Gc) (a_this : Nat) (a_row : Nat) (x_size : Int32) (x_overflowed : Int32)   {o : Int32} (h : f_X1_isOverflowed x_overflowed = some o) : ms_Fn l G yX1_isOverflowed cX1_isOverflowed 1 (some .boolean) rm_X1_isOverflowed [.ref a_this] [ob_X1 a_this a_row x_size x_overflowed] [ob_X1 a_this a_row x_size x_overflowed] (some (.int o)) := by
  refine ms_start RX1 (by decide +kernel) rfl (Nat.le_of_ble_eq_true rfl) (fun p e s m below meth c A ls hX hW hl => ?_)
  have hx := hX.1.1
  have hb := hX.1.2.1
  have hl : lv_has ls 1 [(0, .ref a_this)] := hl
  unfold f_X1_isOverflowed at h
  refine lv_aload_n hx hb dX1_isOverflowed_0 rfl (lv_at hl 0 rfl) ?_
  refine ms_get ff_X1_19 hX hW 0 rfl rfl dX1_isOverflowed_1 ?_
  obtain ⟨k, h⟩ := ms_gz_some h
  obtain rfl := Option.some.inj h
  exact ms_zret hX (ms_nz k) hW dX1_isOverflowed_4
def rm_X1_addWord : Room := { frames := 4, cells := 0, slots := 0, locals := 85 }
def f_X1_addWord_L2 (v1 : Nat) : Nat → Int32 → Int32 → (Nat → Int32) → Int32 → Option (Int32 × Int32 × (Nat → Int32))
  | 0, _, _, _, _ => none
  | n + 1, x_size, x_overflowed, x_row, v2 => (f_J0_length_8abf5 v1).bind (fun q4 => (if q4 ≤ v2 then some (x_size, x_overflowed, x_row) else (f_J0_charAt_5068e v1 v2).bind (fun q13 => (f_X1_add x_size x_overflowed x_row q13).bind (fun q16 => f_X1_addWord_L2 v1 n q16.1 q16.2.1 q16.2.2 (v2 + 1)))))
set_option maxHeartbeats 4000000 in
set_option maxRecDepth 100000 in
theorem wb_X1_addWord_L2 {p : Program} {l : Launch} {e : Env} {s : State} {m : MethodId} {args : Array Value} {below : List Frame} {meth : Method} {c : Code} {G : Gc} {A : Nat → Prop} {a_this : Nat} {a_row : Nat}  {v1 : Nat} {Q : State → Prop} {o : Int32 × Int32 × (Nat → Int32)} (hX : ms_CX p s m args meth c cX1_addWord 3 RX1 none G A) (hs_v1 : v1 < 14) (hq : ∀ (H : Heap) (locs : List Loc) (ls : Array Slot), ms_W G A s H locs [ob_X1 a_this a_row o.1 o.2.1, (a_row, .inl (G.2.1 0, 200, .inl o.2.2))] → lv_has ls 3 [] → W p l e rm_X1_addWord s m args below meth c H locs 0 0 Q (F0 m 25 ls [])) : ∀ (n : Nat) (x_size : Int32) (x_overflowed : Int32) (x_row : Nat → Int32) (v2 : Int32) (H : Heap) (locs : List Loc) (ls : Array Slot), f_X1_addWord_L2 v1 n x_size x_overflowed x_row v2 = some o → ms_W G A s H locs [ob_X1 a_this a_row x_size x_overflowed, (a_row, .inl (G.2.1 0, 200, .inl x_row))] → lv_has ls 3 [(0, .ref a_this), (1, .ref (G.2.2.1 v1)), (2, .int v2)] → W p l e rm_X1_addWord s m args below meth c H locs 0 0 Q (F0 m 2 ls []) := by
  have hx := hX.1.1
  have hb := hX.1.2.1
  intro n
  induction n with
  | zero => intro x_size x_overflowed x_row v2 H locs ls h; rw [f_X1_addWord_L2] at h; cases h
  | succ n ih =>
    intro x_size x_overflowed x_row v2 H locs ls h hW hl
    rw [f_X1_addWord_L2] at h
    refine lv_iload_n hx hb dX1_addWord_2 rfl (lv_at hl 2 rfl) ?_
    refine lv_aload_n hx hb dX1_addWord_3 rfl (lv_at hl 1 rfl) ?_
    obtain ⟨q4, hq4, h⟩ := ms_bd h
    refine ms_callK (fn_J0_length_8abf5 l G v1 hs_v1 hq4) hs_v1 wm_J0_length_8abf5 wv_X1_23 hX hW ⟨Nat.le_of_ble_eq_true rfl, Nat.le_of_ble_eq_true rfl, rfl, rfl, Nat.zero_le _, Nat.zero_le _⟩ rfl hl.1 [.int v2] rfl (Nat.le_of_ble_eq_true rfl) dX1_addWord_4 (fun H locs hW => ?_)
    have hW : ms_W G A s H locs [ob_X1 a_this a_row x_size x_overflowed, (a_row, .inl (G.2.1 0, 200, .inl x_row))] := hW
    refine W.eq (g2 := F0 m 7 ls [.int q4, .int v2]) rfl ?_
    refine lv_icmp_ge (tgt := 25) hx hb dX1_addWord_7 (by decide) (fun k => ?_) (fun k => ?_)
    · have h := ms_ifp h k
      obtain rfl := Option.some.inj h
      exact hq _ _ _ hW (lv_sub hl [] rfl)
    · have h := ms_ifn h k
      refine lv_aload_n hx hb dX1_addWord_10 rfl (lv_at hl 0 rfl) ?_
      refine lv_aload_n hx hb dX1_addWord_11 rfl (lv_at hl 1 rfl) ?_
      refine lv_iload_n hx hb dX1_addWord_12 rfl (lv_at hl 2 rfl) ?_
      obtain ⟨q13, hq13, h⟩ := ms_bd h
      refine ms_callK (fn_J0_charAt_5068e l G v1 v2 hs_v1 hq13) hs_v1 wm_J0_charAt_5068e wv_X1_29 hX hW ⟨Nat.le_of_ble_eq_true rfl, Nat.le_of_ble_eq_true rfl, rfl, rfl, Nat.zero_le _, Nat.zero_le _⟩ rfl hl.1 [.ref a_this] rfl (Nat.le_of_ble_eq_true rfl) dX1_addWord_13 (fun H locs hW => ?_)
      have hW : ms_W G A s H locs [ob_X1 a_this a_row x_size x_overflowed, (a_row, .inl (G.2.1 0, 200, .inl x_row))] := hW
      refine W.eq (g2 := F0 m 16 ls [.int q13, .ref a_this]) rfl ?_
      obtain ⟨q16, hq16, h⟩ := ms_bd h
      refine ms_callV (fn_X1_add l G a_this a_row x_size x_overflowed x_row q13 hq16) wm_X1_add wv_X1_33 hX hW [0, 1] rfl rfl rfl rfl rfl ⟨Nat.le_of_ble_eq_true rfl, Nat.le_of_ble_eq_true rfl, rfl, rfl, Nat.zero_le _, Nat.zero_le _⟩ rfl hl.1 [] rfl (Nat.le_of_ble_eq_true rfl) dX1_addWord_16 (fun H locs hW => ?_)
      have hW : ms_W G A s H locs [ob_X1 a_this a_row q16.1 q16.2.1, (a_row, .inl (G.2.1 0, 200, .inl q16.2.2))] := hW
      refine W.eq (g2 := F0 m 19 ls []) rfl ?_
      refine lv_iinc (v := v2 + 1) (lv' := [(2, .int (v2 + 1)), (0, .ref a_this), (1, .ref (G.2.2.1 v1))]) hx hb dX1_addWord_19 hl (k := 2) rfl rfl (by decide) rfl (fun ls hl => ?_)
      refine lv_goto (tgt := 2) hx hb dX1_addWord_22 (by decide) ?_
      exact ih _ _ _ _ _ _ _ h hW (lv_sub hl [1, 2, 0] rfl)
def f_X1_addWord (x_size : Int32) (x_overflowed : Int32) (x_row : Nat → Int32) (v1 : Nat) : Option (Int32 × Int32 × (Nat → Int32)) := (f_X1_addWord_L2 v1 1000 x_size x_overflowed x_row 0).bind (fun w2 => some (w2.1, w2.2.1, w2.2.2))
set_option maxHeartbeats 4000000 in
set_option maxRecDepth 100000 in
theorem fn_X1_addWord (l : Launch) (G : Gc) (a_this : Nat) (a_row : Nat) (x_size : Int32) (x_overflowed : Int32) (x_row : Nat → Int32) (v1 : Nat) (hs_v1 : v1 < 14) {o : Int32 × Int32 × (Nat → Int32)} (h : f_X1_addWord x_size x_overflowed x_row v1 = some o) : ms_Fn l G yX1_addWord cX1_addWord 3 none rm_X1_addWord [.ref a_this, .ref (G.2.2.1 v1)] [ob_X1 a_this a_row x_size x_overflowed, (a_row, .inl (G.2.1 0, 200, .inl x_row))] [ob_X1 a_this a_row o.1 o.2.1, (a_row, .inl (G.2.1 0, 200, .inl o.2.2))] none := by
  refine ms_start RX1 (by decide +kernel) rfl (Nat.le_of_ble_eq_true rfl) (fun p e s m below meth c A ls hX hW hl => ?_)
  have hx := hX.1.1
  have hb := hX.1.2.1
  have hl : lv_has ls 3 [(0, .ref a_this), (1, .ref (G.2.2.1 v1))] := hl
  unfold f_X1_addWord at h
  refine lv_iconst (v := 0) hx hb dX1_addWord_0 (by decide) ?_
  refine lv_istore_n (lv' := [(2, .int 0), (0, .ref a_this), (1, .ref (G.2.2.1 v1))]) hx hb dX1_addWord_1 rfl hl (by decide) rfl (fun ls hl => ?_)
  obtain ⟨w2, hqw2, h⟩ := ms_bd h
  refine wb_X1_addWord_L2 hX hs_v1 (o := w2) (fun H locs ls hW hl => ?_) _ _ _ _ _ _ _ _ hqw2 hW (lv_sub hl [1, 2, 0] rfl)
  obtain rfl := Option.some.inj h
  exact ms_vret hX hW dX1_addWord_25
def rm_X1_isSame : Room := { frames := 1, cells := 0, slots := 0, locals := 21 }
def f_X1_isSame_L15 (x_size : Int32) (x_row : Nat → Int32) (x_a1_size : Int32) (x_a1_row : Nat → Int32) : Nat → Int32 → Option (Int32)
  | 0, _ => none
  | n + 1, v2 => (if x_size ≤ v2 then some 1 else (f_X1_at x_size x_row v2).bind (fun q25 => (f_X1_at x_a1_size x_a1_row v2).bind (fun q30 => (if q25 = q30 then f_X1_isSame_L15 x_size x_row x_a1_size x_a1_row n (v2 + 1) else some 0))))
set_option maxHeartbeats 4000000 in
set_option maxRecDepth 100000 in
theorem wb_X1_isSame_L15 {p : Program} {l : Launch} {e : Env} {s : State} {m : MethodId} {args : Array Value} {below : List Frame} {meth : Method} {c : Code} {G : Gc} {A : Nat → Prop} {a_this : Nat} {a_row : Nat} {a_a1 : Nat} {a_a1_row : Nat} {x_size : Int32} {x_overflowed : Int32} {x_row : Nat → Int32} {x_a1_size : Int32} {x_a1_overflowed : Int32} {x_a1_row : Nat → Int32}  {o : Int32} (hX : ms_CX p s m args meth c cX1_isSame 3 RX1 (some .boolean) G A)  : ∀ (n : Nat) (v2 : Int32) (H : Heap) (locs : List Loc) (ls : Array Slot), f_X1_isSame_L15 x_size x_row x_a1_size x_a1_row n v2 = some o → ms_W G A s H locs [ob_X1 a_this a_row x_size x_overflowed, (a_row, .inl (G.2.1 0, 200, .inl x_row)), ob_X1 a_a1 a_a1_row x_a1_size x_a1_overflowed, (a_a1_row, .inl (G.2.1 0, 200, .inl x_a1_row))] → lv_has ls 3 [(0, .ref a_this), (1, .ref a_a1), (2, .int v2)] → W p l e rm_X1_isSame s m args below meth c H locs 0 0 (ms_Q G A below args s [ob_X1 a_this a_row x_size x_overflowed, (a_row, .inl (G.2.1 0, 200, .inl x_row)), ob_X1 a_a1 a_a1_row x_a1_size x_a1_overflowed, (a_a1_row, .inl (G.2.1 0, 200, .inl x_a1_row))] (some (.int o))) (F0 m 15 ls []) := by
  have hx := hX.1.1
  have hb := hX.1.2.1
  intro n
  induction n with
  | zero => intro v2 H locs ls h; rw [f_X1_isSame_L15] at h; cases h
  | succ n ih =>
    intro v2 H locs ls h hW hl
    rw [f_X1_isSame_L15] at h
    refine lv_iload_n hx hb dX1_isSame_15 rfl (lv_at hl 2 rfl) ?_
    refine lv_aload_n hx hb dX1_isSame_16 rfl (lv_at hl 0 rfl) ?_
    refine ms_get ff_X1_15 hX hW 0 rfl rfl dX1_isSame_17 ?_
    refine lv_icmp_ge (tgt := 44) hx hb dX1_isSame_20 (by decide) (fun k => ?_) (fun k => ?_)
    · have h := ms_ifp h k
      refine lv_iconst (v := 1) hx hb dX1_isSame_44 (by decide) ?_
      obtain rfl := Option.some.inj h
      exact ms_zret hX (ms_nz (Or.inr rfl)) hW dX1_isSame_45
    · have h := ms_ifn h k
      refine lv_aload_n hx hb dX1_isSame_23 rfl (lv_at hl 0 rfl) ?_
      refine lv_iload_n hx hb dX1_isSame_24 rfl (lv_at hl 2 rfl) ?_
      obtain ⟨q25, hq25, h⟩ := ms_bd h
      refine ms_callV (fn_X1_at l G a_this a_row x_size x_overflowed x_row v2 hq25) wm_X1_at wv_X1_37 hX hW [0, 1] rfl rfl rfl rfl rfl ⟨Nat.le_of_ble_eq_true rfl, Nat.le_of_ble_eq_true rfl, rfl, rfl, Nat.zero_le _, Nat.zero_le _⟩ rfl hl.1 [] rfl (Nat.le_of_ble_eq_true rfl) dX1_isSame_25 (fun H locs hW => ?_)
      have hW : ms_W G A s H locs [ob_X1 a_this a_row x_size x_overflowed, (a_row, .inl (G.2.1 0, 200, .inl x_row)), ob_X1 a_a1 a_a1_row x_a1_size x_a1_overflowed, (a_a1_row, .inl (G.2.1 0, 200, .inl x_a1_row))] := hW
      refine W.eq (g2 := F0 m 28 ls [.int q25]) rfl ?_
      refine lv_aload_n hx hb dX1_isSame_28 rfl (lv_at hl 1 rfl) ?_
      refine lv_iload_n hx hb dX1_isSame_29 rfl (lv_at hl 2 rfl) ?_
      obtain ⟨q30, hq30, h⟩ := ms_bd h
      refine ms_callV (fn_X1_at l G a_a1 a_a1_row x_a1_size x_a1_overflowed x_a1_row v2 hq30) wm_X1_at wv_X1_37 hX hW [2, 3] rfl rfl rfl rfl rfl ⟨Nat.le_of_ble_eq_true rfl, Nat.le_of_ble_eq_true rfl, rfl, rfl, Nat.zero_le _, Nat.zero_le _⟩ rfl hl.1 [.int q25] rfl (Nat.le_of_ble_eq_true rfl) dX1_isSame_30 (fun H locs hW => ?_)
      have hW : ms_W G A s H locs [ob_X1 a_this a_row x_size x_overflowed, (a_row, .inl (G.2.1 0, 200, .inl x_row)), ob_X1 a_a1 a_a1_row x_a1_size x_a1_overflowed, (a_a1_row, .inl (G.2.1 0, 200, .inl x_a1_row))] := hW
      refine W.eq (g2 := F0 m 33 ls [.int q30, .int q25]) rfl ?_
      refine lv_icmp_eq (tgt := 38) hx hb dX1_isSame_33 (by decide) (fun k => ?_) (fun k => ?_)
      · have h := ms_ifp h k
        refine lv_iinc (v := v2 + 1) (lv' := [(2, .int (v2 + 1)), (0, .ref a_this), (1, .ref a_a1)]) hx hb dX1_isSame_38 hl (k := 2) rfl rfl (by decide) rfl (fun ls hl => ?_)
        refine lv_goto (tgt := 15) hx hb dX1_isSame_41 (by decide) ?_
        exact ih _ _ _ _ h hW (lv_sub hl [1, 2, 0] rfl)
      · have h := ms_ifn h k
        refine lv_iconst (v := 0) hx hb dX1_isSame_36 (by decide) ?_
        obtain rfl := Option.some.inj h
        exact ms_zret hX (ms_nz (Or.inl rfl)) hW dX1_isSame_37
def f_X1_isSame (x_size : Int32) (x_row : Nat → Int32) (x_a1_size : Int32) (x_a1_row : Nat → Int32)  : Option (Int32) := (if x_size = x_a1_size then f_X1_isSame_L15 x_size x_row x_a1_size x_a1_row 1000 0 else some 0)
set_option maxHeartbeats 4000000 in
set_option maxRecDepth 100000 in
theorem fn_X1_isSame (l : Launch) (G : Gc) (a_this : Nat) (a_row : Nat) (a_a1 : Nat) (a_a1_row : Nat) (x_size : Int32) (x_overflowed : Int32) (x_row : Nat → Int32) (x_a1_size : Int32) (x_a1_overflowed : Int32) (x_a1_row : Nat → Int32)   {o : Int32} (h : f_X1_isSame x_size x_row x_a1_size x_a1_row = some o) : ms_Fn l G yX1_isSame cX1_isSame 3 (some .boolean) rm_X1_isSame [.ref a_this, .ref a_a1] [ob_X1 a_this a_row x_size x_overflowed, (a_row, .inl (G.2.1 0, 200, .inl x_row)), ob_X1 a_a1 a_a1_row x_a1_size x_a1_overflowed, (a_a1_row, .inl (G.2.1 0, 200, .inl x_a1_row))] [ob_X1 a_this a_row x_size x_overflowed, (a_row, .inl (G.2.1 0, 200, .inl x_row)), ob_X1 a_a1 a_a1_row x_a1_size x_a1_overflowed, (a_a1_row, .inl (G.2.1 0, 200, .inl x_a1_row))] (some (.int o)) := by
  refine ms_start RX1 (by decide +kernel) rfl (Nat.le_of_ble_eq_true rfl) (fun p e s m below meth c A ls hX hW hl => ?_)
  have hx := hX.1.1
  have hb := hX.1.2.1
  have hl : lv_has ls 3 [(0, .ref a_this), (1, .ref a_a1)] := hl
  unfold f_X1_isSame at h
  refine lv_aload_n hx hb dX1_isSame_0 rfl (lv_at hl 0 rfl) ?_
  refine ms_get ff_X1_15 hX hW 0 rfl rfl dX1_isSame_1 ?_
  refine lv_aload_n hx hb dX1_isSame_4 rfl (lv_at hl 1 rfl) ?_
  refine ms_get ff_X1_15 hX hW 2 rfl rfl dX1_isSame_5 ?_
  refine lv_icmp_eq (tgt := 13) hx hb dX1_isSame_8 (by decide) (fun k => ?_) (fun k => ?_)
  · have h := ms_ifp h k
    refine lv_iconst (v := 0) hx hb dX1_isSame_13 (by decide) ?_
    refine lv_istore_n (lv' := [(2, .int 0), (0, .ref a_this), (1, .ref a_a1)]) hx hb dX1_isSame_14 rfl hl (by decide) rfl (fun ls hl => ?_)
    exact wb_X1_isSame_L15 hX _ _ _ _ _ h hW (lv_sub hl [1, 2, 0] rfl)
  · have h := ms_ifn h k
    refine lv_iconst (v := 0) hx hb dX1_isSame_11 (by decide) ?_
    obtain rfl := Option.some.inj h
    exact ms_zret hX (ms_nz (Or.inl rfl)) hW dX1_isSame_12
def rm_X1_addPiece : Room := { frames := 1, cells := 0, slots := 0, locals := 21 }
def f_X1_addPiece_L3 (x_a1_size : Int32) (x_a1_row : Nat → Int32) (v2 : Int32) (v3 : Int32) : Nat → Int32 → Int32 → (Nat → Int32) → Int32 → Option (Int32 × Int32 × (Nat → Int32))
  | 0, _, _, _, _ => none
  | n + 1, x_size, x_overflowed, x_row, v4 => (if v3 ≤ v4 then some (x_size, x_overflowed, x_row) else (f_X1_at x_a1_size x_a1_row v4).bind (fun q13 => (f_X1_add x_size x_overflowed x_row q13).bind (fun q16 => f_X1_addPiece_L3 x_a1_size x_a1_row v2 v3 n q16.1 q16.2.1 q16.2.2 (v4 + 1))))
set_option maxHeartbeats 4000000 in
set_option maxRecDepth 100000 in
theorem wb_X1_addPiece_L3 {p : Program} {l : Launch} {e : Env} {s : State} {m : MethodId} {args : Array Value} {below : List Frame} {meth : Method} {c : Code} {G : Gc} {A : Nat → Prop} {a_this : Nat} {a_row : Nat} {a_a1 : Nat} {a_a1_row : Nat} {x_a1_size : Int32} {x_a1_overflowed : Int32} {x_a1_row : Nat → Int32} {v2 : Int32} {v3 : Int32} {Q : State → Prop} {o : Int32 × Int32 × (Nat → Int32)} (hX : ms_CX p s m args meth c cX1_addPiece 5 RX1 none G A) (hq : ∀ (H : Heap) (locs : List Loc) (ls : Array Slot), ms_W G A s H locs [ob_X1 a_this a_row o.1 o.2.1, (a_row, .inl (G.2.1 0, 200, .inl o.2.2)), ob_X1 a_a1 a_a1_row x_a1_size x_a1_overflowed, (a_a1_row, .inl (G.2.1 0, 200, .inl x_a1_row))] → lv_has ls 5 [] → W p l e rm_X1_addPiece s m args below meth c H locs 0 0 Q (F0 m 25 ls [])) : ∀ (n : Nat) (x_size : Int32) (x_overflowed : Int32) (x_row : Nat → Int32) (v4 : Int32) (H : Heap) (locs : List Loc) (ls : Array Slot), f_X1_addPiece_L3 x_a1_size x_a1_row v2 v3 n x_size x_overflowed x_row v4 = some o → ms_W G A s H locs [ob_X1 a_this a_row x_size x_overflowed, (a_row, .inl (G.2.1 0, 200, .inl x_row)), ob_X1 a_a1 a_a1_row x_a1_size x_a1_overflowed, (a_a1_row, .inl (G.2.1 0, 200, .inl x_a1_row))] → lv_has ls 5 [(0, .ref a_this), (1, .ref a_a1), (3, .int v3), (4, .int v4)] → W p l e rm_X1_addPiece s m args below meth c H locs 0 0 Q (F0 m 3 ls []) := by
  have hx := hX.1.1
  have hb := hX.1.2.1
  intro n
  induction n with
  | zero => intro x_size x_overflowed x_row v4 H locs ls h; rw [f_X1_addPiece_L3] at h; cases h
  | succ n ih =>
    intro x_size x_overflowed x_row v4 H locs ls h hW hl
    rw [f_X1_addPiece_L3] at h
    refine lv_iload hx hb dX1_addPiece_3 (lv_at hl 3 rfl) ?_
    refine lv_iload_n hx hb dX1_addPiece_5 rfl (lv_at hl 2 rfl) ?_
    refine lv_icmp_ge (tgt := 25) hx hb dX1_addPiece_6 (by decide) (fun k => ?_) (fun k => ?_)
    · have h := ms_ifp h k
      obtain rfl := Option.some.inj h
      exact hq _ _ _ hW (lv_sub hl [] rfl)
    · have h := ms_ifn h k
      refine lv_aload_n hx hb dX1_addPiece_9 rfl (lv_at hl 0 rfl) ?_
      refine lv_aload_n hx hb dX1_addPiece_10 rfl (lv_at hl 1 rfl) ?_
      refine lv_iload hx hb dX1_addPiece_11 (lv_at hl 3 rfl) ?_
      obtain ⟨q13, hq13, h⟩ := ms_bd h
      refine ms_callV (fn_X1_at l G a_a1 a_a1_row x_a1_size x_a1_overflowed x_a1_row v4 hq13) wm_X1_at wv_X1_37 hX hW [2, 3] rfl rfl rfl rfl rfl ⟨Nat.le_of_ble_eq_true rfl, Nat.le_of_ble_eq_true rfl, rfl, rfl, Nat.zero_le _, Nat.zero_le _⟩ rfl hl.1 [.ref a_this] rfl (Nat.le_of_ble_eq_true rfl) dX1_addPiece_13 (fun H locs hW => ?_)
      have hW : ms_W G A s H locs [ob_X1 a_this a_row x_size x_overflowed, (a_row, .inl (G.2.1 0, 200, .inl x_row)), ob_X1 a_a1 a_a1_row x_a1_size x_a1_overflowed, (a_a1_row, .inl (G.2.1 0, 200, .inl x_a1_row))] := hW
      refine W.eq (g2 := F0 m 16 ls [.int q13, .ref a_this]) rfl ?_
      obtain ⟨q16, hq16, h⟩ := ms_bd h
      refine ms_callV (fn_X1_add l G a_this a_row x_size x_overflowed x_row q13 hq16) wm_X1_add wv_X1_33 hX hW [0, 1] rfl rfl rfl rfl rfl ⟨Nat.le_of_ble_eq_true rfl, Nat.le_of_ble_eq_true rfl, rfl, rfl, Nat.zero_le _, Nat.zero_le _⟩ rfl hl.1 [] rfl (Nat.le_of_ble_eq_true rfl) dX1_addPiece_16 (fun H locs hW => ?_)
      have hW : ms_W G A s H locs [ob_X1 a_this a_row q16.1 q16.2.1, (a_row, .inl (G.2.1 0, 200, .inl q16.2.2)), ob_X1 a_a1 a_a1_row x_a1_size x_a1_overflowed, (a_a1_row, .inl (G.2.1 0, 200, .inl x_a1_row))] := hW
      refine W.eq (g2 := F0 m 19 ls []) rfl ?_
      refine lv_iinc (v := v4 + 1) (lv' := [(4, .int (v4 + 1)), (0, .ref a_this), (1, .ref a_a1), (3, .int v3)]) hx hb dX1_addPiece_19 hl (k := 3) rfl rfl (by decide) rfl (fun ls hl => ?_)
      refine lv_goto (tgt := 3) hx hb dX1_addPiece_22 (by decide) ?_
      exact ih _ _ _ _ _ _ _ h hW (lv_sub hl [1, 2, 3, 0] rfl)
def f_X1_addPiece (x_size : Int32) (x_overflowed : Int32) (x_row : Nat → Int32) (x_a1_size : Int32) (x_a1_row : Nat → Int32) (v2 : Int32) (v3 : Int32) : Option (Int32 × Int32 × (Nat → Int32)) := (f_X1_addPiece_L3 x_a1_size x_a1_row v2 v3 1000 x_size x_overflowed x_row v2).bind (fun w3 => some (w3.1, w3.2.1, w3.2.2))
set_option maxHeartbeats 4000000 in
set_option maxRecDepth 100000 in
theorem fn_X1_addPiece (l : Launch) (G : Gc) (a_this : Nat) (a_row : Nat) (a_a1 : Nat) (a_a1_row : Nat) (x_size : Int32) (x_overflowed : Int32) (x_row : Nat → Int32) (x_a1_size : Int32) (x_a1_overflowed : Int32) (x_a1_row : Nat → Int32) (v2 : Int32) (v3 : Int32)  {o : Int32 × Int32 × (Nat → Int32)} (h : f_X1_addPiece x_size x_overflowed x_row x_a1_size x_a1_row v2 v3 = some o) : ms_Fn l G yX1_addPiece cX1_addPiece 5 none rm_X1_addPiece [.ref a_this, .ref a_a1, .int v2, .int v3] [ob_X1 a_this a_row x_size x_overflowed, (a_row, .inl (G.2.1 0, 200, .inl x_row)), ob_X1 a_a1 a_a1_row x_a1_size x_a1_overflowed, (a_a1_row, .inl (G.2.1 0, 200, .inl x_a1_row))] [ob_X1 a_this a_row o.1 o.2.1, (a_row, .inl (G.2.1 0, 200, .inl o.2.2)), ob_X1 a_a1 a_a1_row x_a1_size x_a1_overflowed, (a_a1_row, .inl (G.2.1 0, 200, .inl x_a1_row))] none := by
  refine ms_start RX1 (by decide +kernel) rfl (Nat.le_of_ble_eq_true rfl) (fun p e s m below meth c A ls hX hW hl => ?_)
  have hx := hX.1.1
  have hb := hX.1.2.1
  have hl : lv_has ls 5 [(0, .ref a_this), (1, .ref a_a1), (2, .int v2), (3, .int v3)] := hl
  unfold f_X1_addPiece at h
  refine lv_iload_n hx hb dX1_addPiece_0 rfl (lv_at hl 2 rfl) ?_
  refine lv_istore (lv' := [(4, .int v2), (0, .ref a_this), (1, .ref a_a1), (2, .int v2), (3, .int v3)]) hx hb dX1_addPiece_1 hl (by decide) rfl (fun ls hl => ?_)
  obtain ⟨w3, hqw3, h⟩ := ms_bd h
  refine wb_X1_addPiece_L3 hX (o := w3) (fun H locs ls hW hl => ?_) _ _ _ _ _ _ _ _ hqw3 hW (lv_sub hl [1, 2, 4, 0] rfl)
  obtain rfl := Option.some.inj h
  exact ms_vret hX hW dX1_addPiece_25
def rm_X1_copy : Room := { frames := 2, cells := 0, slots := 0, locals := 45 }
def f_X1_copy (x_size : Int32) (x_overflowed : Int32) (x_row : Nat → Int32) (x_a1_size : Int32) (x_a1_row : Nat → Int32)  : Option (Int32 × Int32 × (Nat → Int32)) := (f_X1_empty x_size x_overflowed).bind (fun q1 => (f_X1_addPiece q1.1 q1.2 x_row x_a1_size x_a1_row 0 x_a1_size).bind (fun q11 => some (q11.1, q11.2.1, q11.2.2)))
set_option maxHeartbeats 4000000 in
set_option maxRecDepth 100000 in
theorem fn_X1_copy (l : Launch) (G : Gc) (a_this : Nat) (a_row : Nat) (a_a1 : Nat) (a_a1_row : Nat) (x_size : Int32) (x_overflowed : Int32) (x_row : Nat → Int32) (x_a1_size : Int32) (x_a1_overflowed : Int32) (x_a1_row : Nat → Int32)   {o : Int32 × Int32 × (Nat → Int32)} (h : f_X1_copy x_size x_overflowed x_row x_a1_size x_a1_row = some o) : ms_Fn l G yX1_copy cX1_copy 2 none rm_X1_copy [.ref a_this, .ref a_a1] [ob_X1 a_this a_row x_size x_overflowed, (a_row, .inl (G.2.1 0, 200, .inl x_row)), ob_X1 a_a1 a_a1_row x_a1_size x_a1_overflowed, (a_a1_row, .inl (G.2.1 0, 200, .inl x_a1_row))] [ob_X1 a_this a_row o.1 o.2.1, (a_row, .inl (G.2.1 0, 200, .inl o.2.2)), ob_X1 a_a1 a_a1_row x_a1_size x_a1_overflowed, (a_a1_row, .inl (G.2.1 0, 200, .inl x_a1_row))] none := by
  refine ms_start RX1 (by decide +kernel) rfl (Nat.le_of_ble_eq_true rfl) (fun p e s m below meth c A ls hX hW hl => ?_)
  have hx := hX.1.1
  have hb := hX.1.2.1
  have hl : lv_has ls 2 [(0, .ref a_this), (1, .ref a_a1)] := hl
  unfold f_X1_copy at h
  refine lv_aload_n hx hb dX1_copy_0 rfl (lv_at hl 0 rfl) ?_
  obtain ⟨q1, hq1, h⟩ := ms_bd h
  refine ms_callV (fn_X1_empty l G a_this a_row x_size x_overflowed hq1) wm_X1_empty wv_X1_40 hX hW [0] rfl rfl rfl rfl rfl ⟨Nat.le_of_ble_eq_true rfl, Nat.le_of_ble_eq_true rfl, rfl, rfl, Nat.zero_le _, Nat.zero_le _⟩ rfl hl.1 [] rfl (Nat.le_of_ble_eq_true rfl) dX1_copy_1 (fun H locs hW => ?_)
  have hW : ms_W G A s H locs [ob_X1 a_this a_row q1.1 q1.2, (a_row, .inl (G.2.1 0, 200, .inl x_row)), ob_X1 a_a1 a_a1_row x_a1_size x_a1_overflowed, (a_a1_row, .inl (G.2.1 0, 200, .inl x_a1_row))] := hW
  refine W.eq (g2 := F0 m 4 ls []) rfl ?_
  refine lv_aload_n hx hb dX1_copy_4 rfl (lv_at hl 0 rfl) ?_
  refine lv_aload_n hx hb dX1_copy_5 rfl (lv_at hl 1 rfl) ?_
  refine lv_iconst (v := 0) hx hb dX1_copy_6 (by decide) ?_
  refine lv_aload_n hx hb dX1_copy_7 rfl (lv_at hl 1 rfl) ?_
  refine ms_get ff_X1_15 hX hW 2 rfl rfl dX1_copy_8 ?_
  obtain ⟨q11, hq11, h⟩ := ms_bd h
  refine ms_callV (fn_X1_addPiece l G a_this a_row a_a1 a_a1_row q1.1 q1.2 x_row x_a1_size x_a1_overflowed x_a1_row 0 x_a1_size hq11) wm_X1_addPiece wv_X1_43 hX hW [0, 1, 2, 3] rfl rfl rfl rfl rfl ⟨Nat.le_of_ble_eq_true rfl, Nat.le_of_ble_eq_true rfl, rfl, rfl, Nat.zero_le _, Nat.zero_le _⟩ rfl hl.1 [] rfl (Nat.le_of_ble_eq_true rfl) dX1_copy_11 (fun H locs hW => ?_)
  have hW : ms_W G A s H locs [ob_X1 a_this a_row q11.1 q11.2.1, (a_row, .inl (G.2.1 0, 200, .inl q11.2.2)), ob_X1 a_a1 a_a1_row x_a1_size x_a1_overflowed, (a_a1_row, .inl (G.2.1 0, 200, .inl x_a1_row))] := hW
  refine W.eq (g2 := F0 m 14 ls []) rfl ?_
  obtain rfl := Option.some.inj h
  exact ms_vret hX hW dX1_copy_14
def rm_X1_eight : Room := { frames := 1, cells := 0, slots := 0, locals := 21 }
def f_X1_eight_L60 (x_size : Int32) (x_row : Nat → Int32) (v1 : Int32) (v2 : Int32) (v3 : Int32) (kk : Int64 → Int32 → Option (Int64)) (v4 : Int64) (v6 : Int32) : Option (Int64) := kk v4 (v6 + 1)
set_option maxHeartbeats 4000000 in
set_option maxRecDepth 100000 in
theorem wb_X1_eight_L60 {p : Program} {l : Launch} {e : Env} {s : State} {m : MethodId} {args : Array Value} {below : List Frame} {meth : Method} {c : Code} {G : Gc} {A : Nat → Prop} {H : Heap} {locs : List Loc} {ls : Array Slot} {a_this : Nat} {a_row : Nat} {x_size : Int32} {x_overflowed : Int32} {x_row : Nat → Int32} {v1 : Int32} {v2 : Int32} {v3 : Int32} {kk : Int64 → Int32 → Option (Int64)} {Q : State → Prop} {v4 : Int64} {v6 : Int32} {o : Int64} (hX : ms_CX p s m args meth c cX1_eight 8 RX1 (some .long) G A) (hq : ∀ (H : Heap) (locs : List Loc) (ls : Array Slot), ms_W G A s H locs [ob_X1 a_this a_row x_size x_overflowed, (a_row, .inl (G.2.1 0, 200, .inl x_row))] → lv_has ls 8 [(4, .long o)] → W p l e rm_X1_eight s m args below meth c H locs 0 0 Q (F0 m 66 ls [])) (ih : ∀ (v4 : Int64) (v6 : Int32) (H : Heap) (locs : List Loc) (ls : Array Slot), kk v4 v6 = some o → ms_W G A s H locs [ob_X1 a_this a_row x_size x_overflowed, (a_row, .inl (G.2.1 0, 200, .inl x_row))] → lv_has ls 8 [(0, .ref a_this), (1, .int v1), (2, .int v2), (3, .int v3), (4, .long v4), (6, .int v6)] → W p l e rm_X1_eight s m args below meth c H locs 0 0 Q (F0 m 18 ls [])) (h : f_X1_eight_L60 x_size x_row v1 v2 v3 kk v4 v6 = some o) (hW : ms_W G A s H locs [ob_X1 a_this a_row x_size x_overflowed, (a_row, .inl (G.2.1 0, 200, .inl x_row))]) (hl : lv_has ls 8 [(0, .ref a_this), (1, .int v1), (2, .int v2), (3, .int v3), (4, .long v4), (6, .int v6)]) : W p l e rm_X1_eight s m args below meth c H locs 0 0 Q (F0 m 60 ls []) := by
  have hx := hX.1.1
  have hb := hX.1.2.1
  unfold f_X1_eight_L60 at h
  refine lv_iinc (v := v6 + 1) (lv' := [(6, .int (v6 + 1)), (0, .ref a_this), (1, .int v1), (2, .int v2), (3, .int v3), (4, .long v4)]) hx hb dX1_eight_60 hl (k := 5) rfl rfl (by decide) rfl (fun ls hl => ?_)
  refine lv_goto (tgt := 18) hx hb dX1_eight_63 (by decide) ?_
  exact ih _ _ _ _ _ h hW (lv_sub hl [1, 2, 3, 4, 5, 0] rfl)
def f_X1_eight_L18 (x_size : Int32) (x_row : Nat → Int32) (v1 : Int32) (v2 : Int32) (v3 : Int32) : Nat → Int64 → Int32 → Option (Int64)
  | 0, _, _ => none
  | n + 1, v4, v6 => (if 8 ≤ v6 then some v4 else (if v2 ≤ ((v1 + (8 * v3)) + v6) then f_X1_eight_L60 x_size x_row v1 v2 v3 (f_X1_eight_L18 x_size x_row v1 v2 v3 n) v4 v6 else (f_X1_at x_size x_row ((v1 + (8 * v3)) + v6)).bind (fun q47 => f_X1_eight_L60 x_size x_row v1 v2 v3 (f_X1_eight_L18 x_size x_row v1 v2 v3 n) (v4 ||| (q47.toInt64 <<< ((8 * v6).toInt64 &&& 63))) v6)))
set_option maxHeartbeats 4000000 in
set_option maxRecDepth 100000 in
theorem wb_X1_eight_L18 {p : Program} {l : Launch} {e : Env} {s : State} {m : MethodId} {args : Array Value} {below : List Frame} {meth : Method} {c : Code} {G : Gc} {A : Nat → Prop} {a_this : Nat} {a_row : Nat} {x_size : Int32} {x_overflowed : Int32} {x_row : Nat → Int32} {v1 : Int32} {v2 : Int32} {v3 : Int32} {Q : State → Prop} {o : Int64} (hX : ms_CX p s m args meth c cX1_eight 8 RX1 (some .long) G A) (hq : ∀ (H : Heap) (locs : List Loc) (ls : Array Slot), ms_W G A s H locs [ob_X1 a_this a_row x_size x_overflowed, (a_row, .inl (G.2.1 0, 200, .inl x_row))] → lv_has ls 8 [(4, .long o)] → W p l e rm_X1_eight s m args below meth c H locs 0 0 Q (F0 m 66 ls [])) : ∀ (n : Nat) (v4 : Int64) (v6 : Int32) (H : Heap) (locs : List Loc) (ls : Array Slot), f_X1_eight_L18 x_size x_row v1 v2 v3 n v4 v6 = some o → ms_W G A s H locs [ob_X1 a_this a_row x_size x_overflowed, (a_row, .inl (G.2.1 0, 200, .inl x_row))] → lv_has ls 8 [(0, .ref a_this), (1, .int v1), (2, .int v2), (3, .int v3), (4, .long v4), (6, .int v6)] → W p l e rm_X1_eight s m args below meth c H locs 0 0 Q (F0 m 18 ls []) := by
  have hx := hX.1.1
  have hb := hX.1.2.1
  intro n
  induction n with
  | zero => intro v4 v6 H locs ls h; rw [f_X1_eight_L18] at h; cases h
  | succ n ih =>
    intro v4 v6 H locs ls h hW hl
    rw [f_X1_eight_L18] at h
    refine lv_iload hx hb dX1_eight_18 (lv_at hl 5 rfl) ?_
    refine lv_bipush (v := 8) hx hb dX1_eight_20 (by decide) ?_
    refine lv_icmp_ge (tgt := 66) hx hb dX1_eight_22 (by decide) (fun k => ?_) (fun k => ?_)
    · have h := ms_ifp h k
      obtain rfl := Option.some.inj h
      exact hq _ _ _ hW (lv_sub hl [4] rfl)
    · have h := ms_ifn h k
      refine lv_iload_n hx hb dX1_eight_25 rfl (lv_at hl 1 rfl) ?_
      refine lv_bipush (v := 8) hx hb dX1_eight_26 (by decide) ?_
      refine lv_iload_n hx hb dX1_eight_28 rfl (lv_at hl 3 rfl) ?_
      refine lv_imul hx hb dX1_eight_29 ?_
      refine lv_iadd hx hb dX1_eight_30 ?_
      refine lv_iload hx hb dX1_eight_31 (lv_at hl 5 rfl) ?_
      refine lv_iadd hx hb dX1_eight_33 ?_
      refine lv_istore (lv' := [(7, .int ((v1 + (8 * v3)) + v6)), (0, .ref a_this), (1, .int v1), (2, .int v2), (3, .int v3), (4, .long v4), (6, .int v6)]) hx hb dX1_eight_34 hl (by decide) rfl (fun ls hl => ?_)
      refine lv_iload hx hb dX1_eight_36 (lv_at hl 0 rfl) ?_
      refine lv_iload_n hx hb dX1_eight_38 rfl (lv_at hl 3 rfl) ?_
      refine lv_icmp_ge (tgt := 60) hx hb dX1_eight_39 (by decide) (fun k => ?_) (fun k => ?_)
      · have h := ms_ifp h k
        exact wb_X1_eight_L60 hX hq (ih) h hW (lv_sub hl [1, 2, 3, 4, 5, 6] rfl)
      · have h := ms_ifn h k
        refine lv_lload hx hb dX1_eight_42 (lv_at hl 5 rfl) ?_
        refine lv_aload_n hx hb dX1_eight_44 rfl (lv_at hl 1 rfl) ?_
        refine lv_iload hx hb dX1_eight_45 (lv_at hl 0 rfl) ?_
        obtain ⟨q47, hq47, h⟩ := ms_bd h
        refine ms_callV (fn_X1_at l G a_this a_row x_size x_overflowed x_row ((v1 + (8 * v3)) + v6) hq47) wm_X1_at wv_X1_37 hX hW [0, 1] rfl rfl rfl rfl rfl ⟨Nat.le_of_ble_eq_true rfl, Nat.le_of_ble_eq_true rfl, rfl, rfl, Nat.zero_le _, Nat.zero_le _⟩ rfl hl.1 [.long v4] rfl (Nat.le_of_ble_eq_true rfl) dX1_eight_47 (fun H locs hW => ?_)
        have hW : ms_W G A s H locs [ob_X1 a_this a_row x_size x_overflowed, (a_row, .inl (G.2.1 0, 200, .inl x_row))] := hW
        refine W.eq (g2 := F0 m 50 ls [.int q47, .long v4]) rfl ?_
        refine lv_i2l (v := q47.toInt64) hx hb dX1_eight_50 rfl ?_
        refine lv_bipush (v := 8) hx hb dX1_eight_51 (by decide) ?_
        refine lv_iload hx hb dX1_eight_53 (lv_at hl 6 rfl) ?_
        refine lv_imul hx hb dX1_eight_55 ?_
        refine lv_lshl (v := q47.toInt64 <<< ((8 * v6).toInt64 &&& 63)) hx hb dX1_eight_56 rfl ?_
        refine lv_lor hx hb dX1_eight_57 ?_
        refine lv_lstore (lv' := [(4, .long (v4 ||| (q47.toInt64 <<< ((8 * v6).toInt64 &&& 63)))), (7, .int ((v1 + (8 * v3)) + v6)), (0, .ref a_this), (1, .int v1), (2, .int v2), (3, .int v3), (6, .int v6)]) hx hb dX1_eight_58 hl (by decide) rfl (fun ls hl => ?_)
        exact wb_X1_eight_L60 hX hq (ih) h hW (lv_sub hl [2, 3, 4, 5, 0, 6] rfl)
def f_X1_eight (x_size : Int32) (x_row : Nat → Int32) (v1 : Int32) (v2 : Int32) (v3 : Int32) : Option (Int64) := (if v3 < 0 then some 0 else (if v3 ≤ 25 then (f_X1_eight_L18 x_size x_row v1 v2 v3 1000 0 0).bind (fun w18 => some w18) else some 0))
set_option maxHeartbeats 4000000 in
set_option maxRecDepth 100000 in
theorem fn_X1_eight (l : Launch) (G : Gc) (a_this : Nat) (a_row : Nat) (x_size : Int32) (x_overflowed : Int32) (x_row : Nat → Int32) (v1 : Int32) (v2 : Int32) (v3 : Int32)  {o : Int64} (h : f_X1_eight x_size x_row v1 v2 v3 = some o) : ms_Fn l G yX1_eight cX1_eight 8 (some .long) rm_X1_eight [.ref a_this, .int v1, .int v2, .int v3] [ob_X1 a_this a_row x_size x_overflowed, (a_row, .inl (G.2.1 0, 200, .inl x_row))] [ob_X1 a_this a_row x_size x_overflowed, (a_row, .inl (G.2.1 0, 200, .inl x_row))] (some (.long o)) := by
  refine ms_start RX1 (by decide +kernel) rfl (Nat.le_of_ble_eq_true rfl) (fun p e s m below meth c A ls hX hW hl => ?_)
  have hx := hX.1.1
  have hb := hX.1.2.1
  have hl : lv_has ls 8 [(0, .ref a_this), (1, .int v1), (2, .int v2), (3, .int v3)] := hl
  unfold f_X1_eight at h
  refine lv_iload_n hx hb dX1_eight_0 rfl (lv_at hl 3 rfl) ?_
  refine lv_if_lt (tgt := 10) hx hb dX1_eight_1 (by decide) (fun k => ?_) (fun k => ?_)
  · have h := ms_ifp h k
    refine lv_lconst (v := 0) hx hb dX1_eight_10 (by decide) ?_
    obtain rfl := Option.some.inj h
    exact ms_lret hX hW dX1_eight_11
  · have h := ms_ifn h k
    refine lv_iload_n hx hb dX1_eight_4 rfl (lv_at hl 3 rfl) ?_
    refine lv_bipush (v := 25) hx hb dX1_eight_5 (by decide) ?_
    refine lv_icmp_le (tgt := 12) hx hb dX1_eight_7 (by decide) (fun k => ?_) (fun k => ?_)
    · have h := ms_ifp h k
      refine lv_lconst (v := 0) hx hb dX1_eight_12 (by decide) ?_
      refine lv_lstore (lv' := [(4, .long 0), (0, .ref a_this), (1, .int v1), (2, .int v2), (3, .int v3)]) hx hb dX1_eight_13 hl (by decide) rfl (fun ls hl => ?_)
      refine lv_iconst (v := 0) hx hb dX1_eight_15 (by decide) ?_
      refine lv_istore (lv' := [(6, .int 0), (4, .long 0), (0, .ref a_this), (1, .int v1), (2, .int v2), (3, .int v3)]) hx hb dX1_eight_16 hl (by decide) rfl (fun ls hl => ?_)
      obtain ⟨w18, hqw18, h⟩ := ms_bd h
      refine wb_X1_eight_L18 hX (o := w18) (fun H locs ls hW hl => ?_) _ _ _ _ _ _ hqw18 hW (lv_sub hl [2, 3, 4, 5, 1, 0] rfl)
      refine lv_lload hx hb dX1_eight_66 (lv_at hl 0 rfl) ?_
      obtain rfl := Option.some.inj h
      exact ms_lret hX hW dX1_eight_68
    · have h := ms_ifn h k
      refine lv_lconst (v := 0) hx hb dX1_eight_10 (by decide) ?_
      obtain rfl := Option.some.inj h
      exact ms_lret hX hW dX1_eight_11
def rm_X3_restore : Room := { frames := 0, cells := 0, slots := 0, locals := 0 }
def f_X3_restore_L24  (kk : Int32 → (Nat → Int32) → (Nat → Int32) → Int32 → Option (Int32 × (Nat → Int32) × (Nat → Int32))) (x_schemeCount : Int32) (x_actions : Nat → Int32) (x_attributes : Nat → Int32) (v1 : Int32) (z1 : Int32) (z2 : Int32) : Option (Int32 × (Nat → Int32) × (Nat → Int32)) := ms_gi z1 26 (ms_gi v1 27 (kk x_schemeCount (upd x_actions z1.toNatClampNeg z2) (upd x_attributes v1.toNatClampNeg 0) (v1 + 1)))
set_option maxHeartbeats 4000000 in
set_option maxRecDepth 100000 in
theorem wb_X3_restore_L24 {p : Program} {l : Launch} {e : Env} {s : State} {m : MethodId} {args : Array Value} {below : List Frame} {meth : Method} {c : Code} {G : Gc} {A : Nat → Prop} {H : Heap} {locs : List Loc} {ls : Array Slot} {a_this : Nat} {a_actions : Nat} {a_attributes : Nat} {a_schemes : Nat}   {kk : Int32 → (Nat → Int32) → (Nat → Int32) → Int32 → Option (Int32 × (Nat → Int32) × (Nat → Int32))} {Q : State → Prop} {x_schemeCount : Int32} {x_actions : Nat → Int32} {x_attributes : Nat → Int32} {v1 : Int32} {z1 : Int32} {z2 : Int32} {o : Int32 × (Nat → Int32) × (Nat → Int32)} (hX : ms_CX p s m args meth c cX3_restore 2 RX3 none G A) (hq : ∀ (H : Heap) (locs : List Loc) (ls : Array Slot), ms_W G A s H locs [ob_X3 a_this a_actions a_attributes a_schemes o.1, (a_actions, .inl (G.2.1 1, 26, .inl o.2.1)), (a_attributes, .inl (G.2.1 1, 27, .inl o.2.2))] → lv_has ls 2 [(0, .ref a_this)] → W p l e rm_X3_restore s m args below meth c H locs 0 0 Q (F0 m 38 ls [])) (ih : ∀ (x_schemeCount : Int32) (x_actions : Nat → Int32) (x_attributes : Nat → Int32) (v1 : Int32) (H : Heap) (locs : List Loc) (ls : Array Slot), kk x_schemeCount x_actions x_attributes v1 = some o → ms_W G A s H locs [ob_X3 a_this a_actions a_attributes a_schemes x_schemeCount, (a_actions, .inl (G.2.1 1, 26, .inl x_actions)), (a_attributes, .inl (G.2.1 1, 27, .inl x_attributes))] → lv_has ls 2 [(0, .ref a_this), (1, .int v1)] → W p l e rm_X3_restore s m args below meth c H locs 0 0 Q (F0 m 2 ls [])) (h : f_X3_restore_L24  kk x_schemeCount x_actions x_attributes v1 z1 z2 = some o) (hW : ms_W G A s H locs [ob_X3 a_this a_actions a_attributes a_schemes x_schemeCount, (a_actions, .inl (G.2.1 1, 26, .inl x_actions)), (a_attributes, .inl (G.2.1 1, 27, .inl x_attributes))]) (hl : lv_has ls 2 [(0, .ref a_this), (1, .int v1)]) : W p l e rm_X3_restore s m args below meth c H locs 0 0 Q (F0 m 24 ls [.int z2, .int z1, .ref a_actions]) := by
  have hx := hX.1.1
  have hb := hX.1.2.1
  unfold f_X3_restore_L24 at h
  obtain ⟨k, h⟩ := ms_gi_some h
  refine ms_iast hX hW 1 rfl k dX3_restore_24 (fun H locs hW => ?_)
  have hW : ms_W G A s H locs [ob_X3 a_this a_actions a_attributes a_schemes x_schemeCount, (a_actions, .inl (G.2.1 1, 26, .inl (upd x_actions z1.toNatClampNeg z2))), (a_attributes, .inl (G.2.1 1, 27, .inl x_attributes))] := hW
  refine lv_aload_n hx hb dX3_restore_25 rfl (lv_at hl 0 rfl) ?_
  refine ms_get ff_X3_15 hX hW 0 rfl rfl dX3_restore_26 ?_
  refine lv_iload_n hx hb dX3_restore_29 rfl (lv_at hl 1 rfl) ?_
  refine lv_iconst (v := 0) hx hb dX3_restore_30 (by decide) ?_
  obtain ⟨k, h⟩ := ms_gi_some h
  refine ms_iast hX hW 2 rfl k dX3_restore_31 (fun H locs hW => ?_)
  have hW : ms_W G A s H locs [ob_X3 a_this a_actions a_attributes a_schemes x_schemeCount, (a_actions, .inl (G.2.1 1, 26, .inl (upd x_actions z1.toNatClampNeg z2))), (a_attributes, .inl (G.2.1 1, 27, .inl (upd x_attributes v1.toNatClampNeg 0)))] := hW
  refine lv_iinc (v := v1 + 1) (lv' := [(1, .int (v1 + 1)), (0, .ref a_this)]) hx hb dX3_restore_32 hl (k := 1) rfl rfl (by decide) rfl (fun ls hl => ?_)
  refine lv_goto (tgt := 2) hx hb dX3_restore_35 (by decide) ?_
  exact ih _ _ _ _ _ _ _ h hW (lv_sub hl [1, 0] rfl)
def f_X3_restore_L2  : Nat → Int32 → (Nat → Int32) → (Nat → Int32) → Int32 → Option (Int32 × (Nat → Int32) × (Nat → Int32))
  | 0, _, _, _, _ => none
  | n + 1, x_schemeCount, x_actions, x_attributes, v1 => (if 26 ≤ v1 then some (x_schemeCount, x_actions, x_attributes) else (if v1 = 18 then f_X3_restore_L24 (f_X3_restore_L2 n) x_schemeCount x_actions x_attributes v1 v1 2 else f_X3_restore_L24 (f_X3_restore_L2 n) x_schemeCount x_actions x_attributes v1 v1 1))
set_option maxHeartbeats 4000000 in
set_option maxRecDepth 100000 in
theorem wb_X3_restore_L2 {p : Program} {l : Launch} {e : Env} {s : State} {m : MethodId} {args : Array Value} {below : List Frame} {meth : Method} {c : Code} {G : Gc} {A : Nat → Prop} {a_this : Nat} {a_actions : Nat} {a_attributes : Nat} {a_schemes : Nat}   {Q : State → Prop} {o : Int32 × (Nat → Int32) × (Nat → Int32)} (hX : ms_CX p s m args meth c cX3_restore 2 RX3 none G A) (hq : ∀ (H : Heap) (locs : List Loc) (ls : Array Slot), ms_W G A s H locs [ob_X3 a_this a_actions a_attributes a_schemes o.1, (a_actions, .inl (G.2.1 1, 26, .inl o.2.1)), (a_attributes, .inl (G.2.1 1, 27, .inl o.2.2))] → lv_has ls 2 [(0, .ref a_this)] → W p l e rm_X3_restore s m args below meth c H locs 0 0 Q (F0 m 38 ls [])) : ∀ (n : Nat) (x_schemeCount : Int32) (x_actions : Nat → Int32) (x_attributes : Nat → Int32) (v1 : Int32) (H : Heap) (locs : List Loc) (ls : Array Slot), f_X3_restore_L2  n x_schemeCount x_actions x_attributes v1 = some o → ms_W G A s H locs [ob_X3 a_this a_actions a_attributes a_schemes x_schemeCount, (a_actions, .inl (G.2.1 1, 26, .inl x_actions)), (a_attributes, .inl (G.2.1 1, 27, .inl x_attributes))] → lv_has ls 2 [(0, .ref a_this), (1, .int v1)] → W p l e rm_X3_restore s m args below meth c H locs 0 0 Q (F0 m 2 ls []) := by
  have hx := hX.1.1
  have hb := hX.1.2.1
  intro n
  induction n with
  | zero => intro x_schemeCount x_actions x_attributes v1 H locs ls h; rw [f_X3_restore_L2] at h; cases h
  | succ n ih =>
    intro x_schemeCount x_actions x_attributes v1 H locs ls h hW hl
    rw [f_X3_restore_L2] at h
    refine lv_iload_n hx hb dX3_restore_2 rfl (lv_at hl 1 rfl) ?_
    refine lv_bipush (v := 26) hx hb dX3_restore_3 (by decide) ?_
    refine lv_icmp_ge (tgt := 38) hx hb dX3_restore_5 (by decide) (fun k => ?_) (fun k => ?_)
    · have h := ms_ifp h k
      obtain rfl := Option.some.inj h
      exact hq _ _ _ hW (lv_sub hl [0] rfl)
    · have h := ms_ifn h k
      refine lv_aload_n hx hb dX3_restore_8 rfl (lv_at hl 0 rfl) ?_
      refine ms_get ff_X3_9 hX hW 0 rfl rfl dX3_restore_9 ?_
      refine lv_iload_n hx hb dX3_restore_12 rfl (lv_at hl 1 rfl) ?_
      refine lv_iload_n hx hb dX3_restore_13 rfl (lv_at hl 1 rfl) ?_
      refine lv_bipush (v := 18) hx hb dX3_restore_14 (by decide) ?_
      refine lv_icmp_ne (tgt := 23) hx hb dX3_restore_16 (by decide) (fun k => ?_) (fun k => ?_)
      · have h := ms_ifn h k
        refine lv_iconst (v := 1) hx hb dX3_restore_23 (by decide) ?_
        exact wb_X3_restore_L24 hX hq (ih) h hW (lv_sub hl [0, 1] rfl)
      · have h := ms_ifp h k
        refine lv_iconst (v := 2) hx hb dX3_restore_19 (by decide) ?_
        refine lv_goto (tgt := 24) hx hb dX3_restore_20 (by decide) ?_
        exact wb_X3_restore_L24 hX hq (ih) h hW (lv_sub hl [0, 1] rfl)
def f_X3_restore (x_schemeCount : Int32) (x_actions : Nat → Int32) (x_attributes : Nat → Int32)  : Option (Int32 × (Nat → Int32) × (Nat → Int32)) := (f_X3_restore_L2 1000 x_schemeCount x_actions x_attributes 0).bind (fun w2 => ms_gi 26 27 (some (0, w2.2.1, upd w2.2.2 (26 : Int32).toNatClampNeg 0)))
set_option maxHeartbeats 4000000 in
set_option maxRecDepth 100000 in
theorem fn_X3_restore (l : Launch) (G : Gc) (a_this : Nat) (a_actions : Nat) (a_attributes : Nat) (a_schemes : Nat) (x_schemeCount : Int32) (x_actions : Nat → Int32) (x_attributes : Nat → Int32)   {o : Int32 × (Nat → Int32) × (Nat → Int32)} (h : f_X3_restore x_schemeCount x_actions x_attributes = some o) : ms_Fn l G yX3_restore cX3_restore 2 none rm_X3_restore [.ref a_this] [ob_X3 a_this a_actions a_attributes a_schemes x_schemeCount, (a_actions, .inl (G.2.1 1, 26, .inl x_actions)), (a_attributes, .inl (G.2.1 1, 27, .inl x_attributes))] [ob_X3 a_this a_actions a_attributes a_schemes o.1, (a_actions, .inl (G.2.1 1, 26, .inl o.2.1)), (a_attributes, .inl (G.2.1 1, 27, .inl o.2.2))] none := by
  refine ms_start RX3 (by decide +kernel) rfl (Nat.le_of_ble_eq_true rfl) (fun p e s m below meth c A ls hX hW hl => ?_)
  have hx := hX.1.1
  have hb := hX.1.2.1
  have hl : lv_has ls 2 [(0, .ref a_this)] := hl
  unfold f_X3_restore at h
  refine lv_iconst (v := 0) hx hb dX3_restore_0 (by decide) ?_
  refine lv_istore_n (lv' := [(1, .int 0), (0, .ref a_this)]) hx hb dX3_restore_1 rfl hl (by decide) rfl (fun ls hl => ?_)
  obtain ⟨w2, hqw2, h⟩ := ms_bd h
  refine wb_X3_restore_L2 hX (o := w2) (fun H locs ls hW hl => ?_) _ _ _ _ _ _ _ _ hqw2 hW (lv_sub hl [1, 0] rfl)
  refine lv_aload_n hx hb dX3_restore_38 rfl (lv_at hl 0 rfl) ?_
  refine ms_get ff_X3_15 hX hW 0 rfl rfl dX3_restore_39 ?_
  refine lv_bipush (v := 26) hx hb dX3_restore_42 (by decide) ?_
  refine lv_iconst (v := 0) hx hb dX3_restore_44 (by decide) ?_
  obtain ⟨k, h⟩ := ms_gi_some h
  refine ms_iast hX hW 2 rfl k dX3_restore_45 (fun H locs hW => ?_)
  have hW : ms_W G A s H locs [ob_X3 a_this a_actions a_attributes a_schemes w2.1, (a_actions, .inl (G.2.1 1, 26, .inl w2.2.1)), (a_attributes, .inl (G.2.1 1, 27, .inl (upd w2.2.2 (26 : Int32).toNatClampNeg 0)))] := hW
  refine lv_aload_n hx hb dX3_restore_46 rfl (lv_at hl 0 rfl) ?_
  refine lv_iconst (v := 0) hx hb dX3_restore_47 (by decide) ?_
  refine ms_put ff_X3_25 fp_X3_3 rfl hX hW 0 rfl rfl rfl (Nat.le_of_ble_eq_true rfl) dX3_restore_48 (fun H locs hW => ?_)
  have hW : ms_W G A s H locs [ob_X3 a_this a_actions a_attributes a_schemes 0, (a_actions, .inl (G.2.1 1, 26, .inl w2.2.1)), (a_attributes, .inl (G.2.1 1, 27, .inl (upd w2.2.2 (26 : Int32).toNatClampNeg 0)))] := hW
  obtain rfl := Option.some.inj h
  exact ms_vret hX hW dX3_restore_51
def rm_X3_setAction : Room := { frames := 1, cells := 0, slots := 0, locals := 20 }
def f_X3_setAction (x_actions : Nat → Int32) (v1 : Int32) (v2 : Int32) : Option ((Nat → Int32)) := (f_X9_isLetterNumber v1).bind (fun q1 => (if q1 = 0 then some x_actions else ms_gi v1 26 (some (upd x_actions v1.toNatClampNeg v2))))
set_option maxHeartbeats 4000000 in
set_option maxRecDepth 100000 in
theorem fn_X3_setAction (l : Launch) (G : Gc) (a_this : Nat) (a_actions : Nat) (a_attributes : Nat) (a_schemes : Nat) (x_schemeCount : Int32) (x_actions : Nat → Int32) (v1 : Int32) (v2 : Int32)  {o : (Nat → Int32)} (h : f_X3_setAction x_actions v1 v2 = some o) : ms_Fn l G yX3_setAction cX3_setAction 3 none rm_X3_setAction [.ref a_this, .int v1, .int v2] [ob_X3 a_this a_actions a_attributes a_schemes x_schemeCount, (a_actions, .inl (G.2.1 1, 26, .inl x_actions))] [ob_X3 a_this a_actions a_attributes a_schemes x_schemeCount, (a_actions, .inl (G.2.1 1, 26, .inl o))] none := by
  refine ms_start RX3 (by decide +kernel) rfl (Nat.le_of_ble_eq_true rfl) (fun p e s m below meth c A ls hX hW hl => ?_)
  have hx := hX.1.1
  have hb := hX.1.2.1
  have hl : lv_has ls 3 [(0, .ref a_this), (1, .int v1), (2, .int v2)] := hl
  unfold f_X3_setAction at h
  refine lv_iload_n hx hb dX3_setAction_0 rfl (lv_at hl 1 rfl) ?_
  obtain ⟨q1, hq1, h⟩ := ms_bd h
  refine ms_callN (host := RX9) (fn_X9_isLetterNumber l G v1 hq1) wm_X9_isLetterNumber (List.mem_of_getElem? (i := 0) rfl) wt_X9_isLetterNumber hX hW [] rfl rfl rfl ⟨Nat.le_of_ble_eq_true rfl, Nat.le_of_ble_eq_true rfl, rfl, rfl, Nat.zero_le _, Nat.zero_le _⟩ rfl hl.1 [] rfl (Nat.le_of_ble_eq_true rfl) dX3_setAction_1 (fun H locs hW => ?_)
  have hW : ms_W G A s H locs [ob_X3 a_this a_actions a_attributes a_schemes x_schemeCount, (a_actions, .inl (G.2.1 1, 26, .inl x_actions))] := hW
  refine W.eq (g2 := F0 m 4 ls [.int q1]) rfl ?_
  refine lv_if_eq (tgt := 14) hx hb dX3_setAction_4 (by decide) (fun k => ?_) (fun k => ?_)
  · have h := ms_ifp h k
    obtain rfl := Option.some.inj h
    exact ms_vret hX hW dX3_setAction_14
  · have h := ms_ifn h k
    refine lv_aload_n hx hb dX3_setAction_7 rfl (lv_at hl 0 rfl) ?_
    refine ms_get ff_X3_9 hX hW 0 rfl rfl dX3_setAction_8 ?_
    refine lv_iload_n hx hb dX3_setAction_11 rfl (lv_at hl 1 rfl) ?_
    refine lv_iload_n hx hb dX3_setAction_12 rfl (lv_at hl 2 rfl) ?_
    obtain ⟨k, h⟩ := ms_gi_some h
    refine ms_iast hX hW 1 rfl k dX3_setAction_13 (fun H locs hW => ?_)
    have hW : ms_W G A s H locs [ob_X3 a_this a_actions a_attributes a_schemes x_schemeCount, (a_actions, .inl (G.2.1 1, 26, .inl (upd x_actions v1.toNatClampNeg v2)))] := hW
    obtain rfl := Option.some.inj h
    exact ms_vret hX hW dX3_setAction_14
def rm_X3_actionOf : Room := { frames := 1, cells := 0, slots := 0, locals := 20 }
def f_X3_actionOf (x_actions : Nat → Int32) (v1 : Int32) : Option (Int32) := (f_X9_isLetterNumber v1).bind (fun q1 => (if q1 = 0 then some 1 else ms_gi v1 26 (some (x_actions v1.toNatClampNeg))))
set_option maxHeartbeats 4000000 in
set_option maxRecDepth 100000 in
theorem fn_X3_actionOf (l : Launch) (G : Gc) (a_this : Nat) (a_actions : Nat) (a_attributes : Nat) (a_schemes : Nat) (x_schemeCount : Int32) (x_actions : Nat → Int32) (v1 : Int32)  {o : Int32} (h : f_X3_actionOf x_actions v1 = some o) : ms_Fn l G yX3_actionOf cX3_actionOf 2 (some .int) rm_X3_actionOf [.ref a_this, .int v1] [ob_X3 a_this a_actions a_attributes a_schemes x_schemeCount, (a_actions, .inl (G.2.1 1, 26, .inl x_actions))] [ob_X3 a_this a_actions a_attributes a_schemes x_schemeCount, (a_actions, .inl (G.2.1 1, 26, .inl x_actions))] (some (.int o)) := by
  refine ms_start RX3 (by decide +kernel) rfl (Nat.le_of_ble_eq_true rfl) (fun p e s m below meth c A ls hX hW hl => ?_)
  have hx := hX.1.1
  have hb := hX.1.2.1
  have hl : lv_has ls 2 [(0, .ref a_this), (1, .int v1)] := hl
  unfold f_X3_actionOf at h
  refine lv_iload_n hx hb dX3_actionOf_0 rfl (lv_at hl 1 rfl) ?_
  obtain ⟨q1, hq1, h⟩ := ms_bd h
  refine ms_callN (host := RX9) (fn_X9_isLetterNumber l G v1 hq1) wm_X9_isLetterNumber (List.mem_of_getElem? (i := 0) rfl) wt_X9_isLetterNumber hX hW [] rfl rfl rfl ⟨Nat.le_of_ble_eq_true rfl, Nat.le_of_ble_eq_true rfl, rfl, rfl, Nat.zero_le _, Nat.zero_le _⟩ rfl hl.1 [] rfl (Nat.le_of_ble_eq_true rfl) dX3_actionOf_1 (fun H locs hW => ?_)
  have hW : ms_W G A s H locs [ob_X3 a_this a_actions a_attributes a_schemes x_schemeCount, (a_actions, .inl (G.2.1 1, 26, .inl x_actions))] := hW
  refine W.eq (g2 := F0 m 4 ls [.int q1]) rfl ?_
  refine lv_if_eq (tgt := 16) hx hb dX3_actionOf_4 (by decide) (fun k => ?_) (fun k => ?_)
  · have h := ms_ifp h k
    refine lv_iconst (v := 1) hx hb dX3_actionOf_16 (by decide) ?_
    obtain rfl := Option.some.inj h
    exact ms_iret hX hW dX3_actionOf_17
  · have h := ms_ifn h k
    refine lv_aload_n hx hb dX3_actionOf_7 rfl (lv_at hl 0 rfl) ?_
    refine ms_get ff_X3_9 hX hW 0 rfl rfl dX3_actionOf_8 ?_
    refine lv_iload_n hx hb dX3_actionOf_11 rfl (lv_at hl 1 rfl) ?_
    obtain ⟨k, h⟩ := ms_gi_some h
    refine ms_iald hX hW 1 rfl k dX3_actionOf_12 ?_
    refine lv_goto (tgt := 17) hx hb dX3_actionOf_13 (by decide) ?_
    obtain rfl := Option.some.inj h
    exact ms_iret hX hW dX3_actionOf_17
def rm_X3_setAttribute : Room := { frames := 1, cells := 0, slots := 0, locals := 20 }
def f_X3_setAttribute_L13 (v1 : Int32) (v2 : Int32) (v3 : Int32) (x_attributes : Nat → Int32) (z0 : Int32) : Option ((Nat → Int32)) := (if v3 = 0 then ms_gi z0 27 (ms_gi z0 27 (some (upd x_attributes z0.toNatClampNeg ((x_attributes z0.toNatClampNeg) &&& (((1 : Int32) <<< (v2 &&& 31)) ^^^ (-1 : Int32)))))) else ms_gi z0 27 (ms_gi z0 27 (some (upd x_attributes z0.toNatClampNeg ((x_attributes z0.toNatClampNeg) ||| ((1 : Int32) <<< (v2 &&& 31)))))))
set_option maxHeartbeats 4000000 in
set_option maxRecDepth 100000 in
theorem wb_X3_setAttribute_L13 {p : Program} {l : Launch} {e : Env} {s : State} {m : MethodId} {args : Array Value} {below : List Frame} {meth : Method} {c : Code} {G : Gc} {A : Nat → Prop} {H : Heap} {locs : List Loc} {ls : Array Slot} {a_this : Nat} {a_actions : Nat} {a_attributes : Nat} {a_schemes : Nat} {x_schemeCount : Int32} {v1 : Int32} {v2 : Int32} {v3 : Int32} {x_attributes : Nat → Int32} {z0 : Int32} {o : (Nat → Int32)} (hX : ms_CX p s m args meth c cX3_setAttribute 5 RX3 none G A)   (h : f_X3_setAttribute_L13 v1 v2 v3 x_attributes z0 = some o) (hW : ms_W G A s H locs [ob_X3 a_this a_actions a_attributes a_schemes x_schemeCount, (a_attributes, .inl (G.2.1 1, 27, .inl x_attributes))]) (hl : lv_has ls 5 [(0, .ref a_this), (2, .int v2), (3, .int v3)]) : W p l e rm_X3_setAttribute s m args below meth c H locs 0 0 (ms_Q G A below args s [ob_X3 a_this a_actions a_attributes a_schemes x_schemeCount, (a_attributes, .inl (G.2.1 1, 27, .inl o))] none) (F0 m 13 ls [.int z0]) := by
  have hx := hX.1.1
  have hb := hX.1.2.1
  unfold f_X3_setAttribute_L13 at h
  refine lv_istore (lv' := [(4, .int z0), (0, .ref a_this), (2, .int v2), (3, .int v3)]) hx hb dX3_setAttribute_13 hl (by decide) rfl (fun ls hl => ?_)
  refine lv_iload_n hx hb dX3_setAttribute_15 rfl (lv_at hl 3 rfl) ?_
  refine lv_if_eq (tgt := 35) hx hb dX3_setAttribute_16 (by decide) (fun k => ?_) (fun k => ?_)
  · have h := ms_ifp h k
    refine lv_aload_n hx hb dX3_setAttribute_35 rfl (lv_at hl 1 rfl) ?_
    refine ms_get ff_X3_15 hX hW 0 rfl rfl dX3_setAttribute_36 ?_
    refine lv_iload hx hb dX3_setAttribute_39 (lv_at hl 0 rfl) ?_
    refine lv_dup2_11 hx hb dX3_setAttribute_41 rfl rfl ?_
    obtain ⟨k, h⟩ := ms_gi_some h
    refine ms_iald hX hW 1 rfl k dX3_setAttribute_42 ?_
    refine lv_iconst (v := 1) hx hb dX3_setAttribute_43 (by decide) ?_
    refine lv_iload_n hx hb dX3_setAttribute_44 rfl (lv_at hl 2 rfl) ?_
    refine lv_ishl hx hb dX3_setAttribute_45 ?_
    refine lv_iconst (v := (-1)) hx hb dX3_setAttribute_46 (by decide) ?_
    refine lv_ixor hx hb dX3_setAttribute_47 ?_
    refine lv_iand hx hb dX3_setAttribute_48 ?_
    obtain ⟨k, h⟩ := ms_gi_some h
    refine ms_iast hX hW 1 rfl k dX3_setAttribute_49 (fun H locs hW => ?_)
    have hW : ms_W G A s H locs [ob_X3 a_this a_actions a_attributes a_schemes x_schemeCount, (a_attributes, .inl (G.2.1 1, 27, .inl (upd x_attributes z0.toNatClampNeg ((x_attributes z0.toNatClampNeg) &&& (((1 : Int32) <<< (v2 &&& 31)) ^^^ (-1 : Int32))))))] := hW
    obtain rfl := Option.some.inj h
    exact ms_vret hX hW dX3_setAttribute_50
  · have h := ms_ifn h k
    refine lv_aload_n hx hb dX3_setAttribute_19 rfl (lv_at hl 1 rfl) ?_
    refine ms_get ff_X3_15 hX hW 0 rfl rfl dX3_setAttribute_20 ?_
    refine lv_iload hx hb dX3_setAttribute_23 (lv_at hl 0 rfl) ?_
    refine lv_dup2_11 hx hb dX3_setAttribute_25 rfl rfl ?_
    obtain ⟨k, h⟩ := ms_gi_some h
    refine ms_iald hX hW 1 rfl k dX3_setAttribute_26 ?_
    refine lv_iconst (v := 1) hx hb dX3_setAttribute_27 (by decide) ?_
    refine lv_iload_n hx hb dX3_setAttribute_28 rfl (lv_at hl 2 rfl) ?_
    refine lv_ishl hx hb dX3_setAttribute_29 ?_
    refine lv_ior hx hb dX3_setAttribute_30 ?_
    obtain ⟨k, h⟩ := ms_gi_some h
    refine ms_iast hX hW 1 rfl k dX3_setAttribute_31 (fun H locs hW => ?_)
    have hW : ms_W G A s H locs [ob_X3 a_this a_actions a_attributes a_schemes x_schemeCount, (a_attributes, .inl (G.2.1 1, 27, .inl (upd x_attributes z0.toNatClampNeg ((x_attributes z0.toNatClampNeg) ||| ((1 : Int32) <<< (v2 &&& 31))))))] := hW
    refine lv_goto (tgt := 50) hx hb dX3_setAttribute_32 (by decide) ?_
    obtain rfl := Option.some.inj h
    exact ms_vret hX hW dX3_setAttribute_50
def f_X3_setAttribute (x_attributes : Nat → Int32) (v1 : Int32) (v2 : Int32) (v3 : Int32) : Option ((Nat → Int32)) := (f_X9_isLetterNumber v1).bind (fun q1 => (if q1 = 0 then f_X3_setAttribute_L13 v1 v2 v3 x_attributes 26 else f_X3_setAttribute_L13 v1 v2 v3 x_attributes v1))
set_option maxHeartbeats 4000000 in
set_option maxRecDepth 100000 in
theorem fn_X3_setAttribute (l : Launch) (G : Gc) (a_this : Nat) (a_actions : Nat) (a_attributes : Nat) (a_schemes : Nat) (x_schemeCount : Int32) (x_attributes : Nat → Int32) (v1 : Int32) (v2 : Int32) (v3 : Int32)  {o : (Nat → Int32)} (h : f_X3_setAttribute x_attributes v1 v2 v3 = some o) : ms_Fn l G yX3_setAttribute cX3_setAttribute 5 none rm_X3_setAttribute [.ref a_this, .int v1, .int v2, .int v3] [ob_X3 a_this a_actions a_attributes a_schemes x_schemeCount, (a_attributes, .inl (G.2.1 1, 27, .inl x_attributes))] [ob_X3 a_this a_actions a_attributes a_schemes x_schemeCount, (a_attributes, .inl (G.2.1 1, 27, .inl o))] none := by
  refine ms_start RX3 (by decide +kernel) rfl (Nat.le_of_ble_eq_true rfl) (fun p e s m below meth c A ls hX hW hl => ?_)
  have hx := hX.1.1
  have hb := hX.1.2.1
  have hl : lv_has ls 5 [(0, .ref a_this), (1, .int v1), (2, .int v2), (3, .int v3)] := hl
  unfold f_X3_setAttribute at h
  refine lv_iload_n hx hb dX3_setAttribute_0 rfl (lv_at hl 1 rfl) ?_
  obtain ⟨q1, hq1, h⟩ := ms_bd h
  refine ms_callN (host := RX9) (fn_X9_isLetterNumber l G v1 hq1) wm_X9_isLetterNumber (List.mem_of_getElem? (i := 0) rfl) wt_X9_isLetterNumber hX hW [] rfl rfl rfl ⟨Nat.le_of_ble_eq_true rfl, Nat.le_of_ble_eq_true rfl, rfl, rfl, Nat.zero_le _, Nat.zero_le _⟩ rfl hl.1 [] rfl (Nat.le_of_ble_eq_true rfl) dX3_setAttribute_1 (fun H locs hW => ?_)
  have hW : ms_W G A s H locs [ob_X3 a_this a_actions a_attributes a_schemes x_schemeCount, (a_attributes, .inl (G.2.1 1, 27, .inl x_attributes))] := hW
  refine W.eq (g2 := F0 m 4 ls [.int q1]) rfl ?_
  refine lv_if_eq (tgt := 11) hx hb dX3_setAttribute_4 (by decide) (fun k => ?_) (fun k => ?_)
  · have h := ms_ifp h k
    refine lv_bipush (v := 26) hx hb dX3_setAttribute_11 (by decide) ?_
    exact wb_X3_setAttribute_L13 hX h hW (lv_sub hl [0, 2, 3] rfl)
  · have h := ms_ifn h k
    refine lv_iload_n hx hb dX3_setAttribute_7 rfl (lv_at hl 1 rfl) ?_
    refine lv_goto (tgt := 13) hx hb dX3_setAttribute_8 (by decide) ?_
    exact wb_X3_setAttribute_L13 hX h hW (lv_sub hl [0, 2, 3] rfl)
def rm_X3_allowsAttribute : Room := { frames := 1, cells := 0, slots := 0, locals := 20 }
def f_X3_allowsAttribute_L13 (x_attributes : Nat → Int32) (v1 : Int32) (v2 : Int32) (z0 : Int32) : Option (Int32) := ms_gi z0 27 (ms_gi 26 27 ((if ((((x_attributes z0.toNatClampNeg) ||| (x_attributes (26 : Int32).toNatClampNeg)) >>> (v2 &&& 31)) &&& (1 : Int32)) = 0 then some 0 else some 1)))
set_option maxHeartbeats 4000000 in
set_option maxRecDepth 100000 in
theorem wb_X3_allowsAttribute_L13 {p : Program} {l : Launch} {e : Env} {s : State} {m : MethodId} {args : Array Value} {below : List Frame} {meth : Method} {c : Code} {G : Gc} {A : Nat → Prop} {H : Heap} {locs : List Loc} {ls : Array Slot} {a_this : Nat} {a_actions : Nat} {a_attributes : Nat} {a_schemes : Nat} {x_schemeCount : Int32} {x_attributes : Nat → Int32} {v1 : Int32} {v2 : Int32} {z0 : Int32} {o : Int32} (hX : ms_CX p s m args meth c cX3_allowsAttribute 4 RX3 (some .boolean) G A)   (h : f_X3_allowsAttribute_L13 x_attributes v1 v2 z0 = some o) (hW : ms_W G A s H locs [ob_X3 a_this a_actions a_attributes a_schemes x_schemeCount, (a_attributes, .inl (G.2.1 1, 27, .inl x_attributes))]) (hl : lv_has ls 4 [(0, .ref a_this), (2, .int v2)]) : W p l e rm_X3_allowsAttribute s m args below meth c H locs 0 0 (ms_Q G A below args s [ob_X3 a_this a_actions a_attributes a_schemes x_schemeCount, (a_attributes, .inl (G.2.1 1, 27, .inl x_attributes))] (some (.int o))) (F0 m 13 ls [.int z0]) := by
  have hx := hX.1.1
  have hb := hX.1.2.1
  unfold f_X3_allowsAttribute_L13 at h
  refine lv_istore_n (lv' := [(3, .int z0), (0, .ref a_this), (2, .int v2)]) hx hb dX3_allowsAttribute_13 rfl hl (by decide) rfl (fun ls hl => ?_)
  refine lv_aload_n hx hb dX3_allowsAttribute_14 rfl (lv_at hl 1 rfl) ?_
  refine ms_get ff_X3_15 hX hW 0 rfl rfl dX3_allowsAttribute_15 ?_
  refine lv_iload_n hx hb dX3_allowsAttribute_18 rfl (lv_at hl 0 rfl) ?_
  obtain ⟨k, h⟩ := ms_gi_some h
  refine ms_iald hX hW 1 rfl k dX3_allowsAttribute_19 ?_
  refine lv_aload_n hx hb dX3_allowsAttribute_20 rfl (lv_at hl 1 rfl) ?_
  refine ms_get ff_X3_15 hX hW 0 rfl rfl dX3_allowsAttribute_21 ?_
  refine lv_bipush (v := 26) hx hb dX3_allowsAttribute_24 (by decide) ?_
  obtain ⟨k, h⟩ := ms_gi_some h
  refine ms_iald hX hW 1 rfl k dX3_allowsAttribute_26 ?_
  refine lv_ior hx hb dX3_allowsAttribute_27 ?_
  refine lv_iload_n hx hb dX3_allowsAttribute_28 rfl (lv_at hl 2 rfl) ?_
  refine lv_ishr hx hb dX3_allowsAttribute_29 ?_
  refine lv_iconst (v := 1) hx hb dX3_allowsAttribute_30 (by decide) ?_
  refine lv_iand hx hb dX3_allowsAttribute_31 ?_
  refine lv_if_eq (tgt := 39) hx hb dX3_allowsAttribute_32 (by decide) (fun k => ?_) (fun k => ?_)
  · have h := ms_ifp h k
    refine lv_iconst (v := 0) hx hb dX3_allowsAttribute_39 (by decide) ?_
    obtain rfl := Option.some.inj h
    exact ms_zret hX (ms_nz (Or.inl rfl)) hW dX3_allowsAttribute_40
  · have h := ms_ifn h k
    refine lv_iconst (v := 1) hx hb dX3_allowsAttribute_35 (by decide) ?_
    refine lv_goto (tgt := 40) hx hb dX3_allowsAttribute_36 (by decide) ?_
    obtain rfl := Option.some.inj h
    exact ms_zret hX (ms_nz (Or.inr rfl)) hW dX3_allowsAttribute_40
def f_X3_allowsAttribute (x_attributes : Nat → Int32) (v1 : Int32) (v2 : Int32) : Option (Int32) := (f_X9_isLetterNumber v1).bind (fun q1 => (if q1 = 0 then f_X3_allowsAttribute_L13 x_attributes v1 v2 26 else f_X3_allowsAttribute_L13 x_attributes v1 v2 v1))
set_option maxHeartbeats 4000000 in
set_option maxRecDepth 100000 in
theorem fn_X3_allowsAttribute (l : Launch) (G : Gc) (a_this : Nat) (a_actions : Nat) (a_attributes : Nat) (a_schemes : Nat) (x_schemeCount : Int32) (x_attributes : Nat → Int32) (v1 : Int32) (v2 : Int32)  {o : Int32} (h : f_X3_allowsAttribute x_attributes v1 v2 = some o) : ms_Fn l G yX3_allowsAttribute cX3_allowsAttribute 4 (some .boolean) rm_X3_allowsAttribute [.ref a_this, .int v1, .int v2] [ob_X3 a_this a_actions a_attributes a_schemes x_schemeCount, (a_attributes, .inl (G.2.1 1, 27, .inl x_attributes))] [ob_X3 a_this a_actions a_attributes a_schemes x_schemeCount, (a_attributes, .inl (G.2.1 1, 27, .inl x_attributes))] (some (.int o)) := by
  refine ms_start RX3 (by decide +kernel) rfl (Nat.le_of_ble_eq_true rfl) (fun p e s m below meth c A ls hX hW hl => ?_)
  have hx := hX.1.1
  have hb := hX.1.2.1
  have hl : lv_has ls 4 [(0, .ref a_this), (1, .int v1), (2, .int v2)] := hl
  unfold f_X3_allowsAttribute at h
  refine lv_iload_n hx hb dX3_allowsAttribute_0 rfl (lv_at hl 1 rfl) ?_
  obtain ⟨q1, hq1, h⟩ := ms_bd h
  refine ms_callN (host := RX9) (fn_X9_isLetterNumber l G v1 hq1) wm_X9_isLetterNumber (List.mem_of_getElem? (i := 0) rfl) wt_X9_isLetterNumber hX hW [] rfl rfl rfl ⟨Nat.le_of_ble_eq_true rfl, Nat.le_of_ble_eq_true rfl, rfl, rfl, Nat.zero_le _, Nat.zero_le _⟩ rfl hl.1 [] rfl (Nat.le_of_ble_eq_true rfl) dX3_allowsAttribute_1 (fun H locs hW => ?_)
  have hW : ms_W G A s H locs [ob_X3 a_this a_actions a_attributes a_schemes x_schemeCount, (a_attributes, .inl (G.2.1 1, 27, .inl x_attributes))] := hW
  refine W.eq (g2 := F0 m 4 ls [.int q1]) rfl ?_
  refine lv_if_eq (tgt := 11) hx hb dX3_allowsAttribute_4 (by decide) (fun k => ?_) (fun k => ?_)
  · have h := ms_ifp h k
    refine lv_bipush (v := 26) hx hb dX3_allowsAttribute_11 (by decide) ?_
    exact wb_X3_allowsAttribute_L13 hX h hW (lv_sub hl [0, 2] rfl)
  · have h := ms_ifn h k
    refine lv_iload_n hx hb dX3_allowsAttribute_7 rfl (lv_at hl 1 rfl) ?_
    refine lv_goto (tgt := 13) hx hb dX3_allowsAttribute_8 (by decide) ?_
    exact wb_X3_allowsAttribute_L13 hX h hW (lv_sub hl [0, 2] rfl)
def rm_X3_hasScheme : Room := { frames := 0, cells := 0, slots := 0, locals := 0 }
def f_X3_hasScheme_L2 (x_schemeCount : Int32) (x_schemes : Nat → Int64) (v1 : Int64) : Nat → Int32 → Option (Int32)
  | 0, _ => none
  | n + 1, v3 => (if x_schemeCount ≤ v3 then some 0 else ms_gi v3 4 ((if (lg_cmp (x_schemes v3.toNatClampNeg) v1) = 0 then some 1 else f_X3_hasScheme_L2 x_schemeCount x_schemes v1 n (v3 + 1))))
set_option maxHeartbeats 4000000 in
set_option maxRecDepth 100000 in
theorem wb_X3_hasScheme_L2 {p : Program} {l : Launch} {e : Env} {s : State} {m : MethodId} {args : Array Value} {below : List Frame} {meth : Method} {c : Code} {G : Gc} {A : Nat → Prop} {a_this : Nat} {a_actions : Nat} {a_attributes : Nat} {a_schemes : Nat} {x_schemeCount : Int32} {x_schemes : Nat → Int64} {v1 : Int64} {o : Int32} (hX : ms_CX p s m args meth c cX3_hasScheme 4 RX3 (some .boolean) G A)  : ∀ (n : Nat) (v3 : Int32) (H : Heap) (locs : List Loc) (ls : Array Slot), f_X3_hasScheme_L2 x_schemeCount x_schemes v1 n v3 = some o → ms_W G A s H locs [ob_X3 a_this a_actions a_attributes a_schemes x_schemeCount, (a_schemes, .inl (G.2.1 2, 4, .inr (.inl x_schemes)))] → lv_has ls 4 [(0, .ref a_this), (1, .long v1), (3, .int v3)] → W p l e rm_X3_hasScheme s m args below meth c H locs 0 0 (ms_Q G A below args s [ob_X3 a_this a_actions a_attributes a_schemes x_schemeCount, (a_schemes, .inl (G.2.1 2, 4, .inr (.inl x_schemes)))] (some (.int o))) (F0 m 2 ls []) := by
  have hx := hX.1.1
  have hb := hX.1.2.1
  intro n
  induction n with
  | zero => intro v3 H locs ls h; rw [f_X3_hasScheme_L2] at h; cases h
  | succ n ih =>
    intro v3 H locs ls h hW hl
    rw [f_X3_hasScheme_L2] at h
    refine lv_iload_n hx hb dX3_hasScheme_2 rfl (lv_at hl 2 rfl) ?_
    refine lv_aload_n hx hb dX3_hasScheme_3 rfl (lv_at hl 0 rfl) ?_
    refine ms_get ff_X3_25 hX hW 0 rfl rfl dX3_hasScheme_4 ?_
    refine lv_icmp_ge (tgt := 29) hx hb dX3_hasScheme_7 (by decide) (fun k => ?_) (fun k => ?_)
    · have h := ms_ifp h k
      refine lv_iconst (v := 0) hx hb dX3_hasScheme_29 (by decide) ?_
      obtain rfl := Option.some.inj h
      exact ms_zret hX (ms_nz (Or.inl rfl)) hW dX3_hasScheme_30
    · have h := ms_ifn h k
      refine lv_aload_n hx hb dX3_hasScheme_10 rfl (lv_at hl 0 rfl) ?_
      refine ms_get ff_X3_18 hX hW 0 rfl rfl dX3_hasScheme_11 ?_
      refine lv_iload_n hx hb dX3_hasScheme_14 rfl (lv_at hl 2 rfl) ?_
      obtain ⟨k, h⟩ := ms_gi_some h
      refine ms_lald hX hW 1 rfl k dX3_hasScheme_15 ?_
      refine lv_lload_n hx hb dX3_hasScheme_16 rfl (lv_at hl 1 rfl) ?_
      refine W.lcmp hx hb dX3_hasScheme_17 ?_
      refine lv_if_ne (tgt := 23) hx hb dX3_hasScheme_18 (by decide) (fun k => ?_) (fun k => ?_)
      · have h := ms_ifn h k
        refine lv_iinc (v := v3 + 1) (lv' := [(3, .int (v3 + 1)), (0, .ref a_this), (1, .long v1)]) hx hb dX3_hasScheme_23 hl (k := 2) rfl rfl (by decide) rfl (fun ls hl => ?_)
        refine lv_goto (tgt := 2) hx hb dX3_hasScheme_26 (by decide) ?_
        exact ih _ _ _ _ h hW (lv_sub hl [1, 2, 0] rfl)
      · have h := ms_ifp h k
        refine lv_iconst (v := 1) hx hb dX3_hasScheme_21 (by decide) ?_
        obtain rfl := Option.some.inj h
        exact ms_zret hX (ms_nz (Or.inr rfl)) hW dX3_hasScheme_22
def f_X3_hasScheme (x_schemeCount : Int32) (x_schemes : Nat → Int64) (v1 : Int64) : Option (Int32) := f_X3_hasScheme_L2 x_schemeCount x_schemes v1 1000 0
set_option maxHeartbeats 4000000 in
set_option maxRecDepth 100000 in
theorem fn_X3_hasScheme (l : Launch) (G : Gc) (a_this : Nat) (a_actions : Nat) (a_attributes : Nat) (a_schemes : Nat) (x_schemeCount : Int32) (x_schemes : Nat → Int64) (v1 : Int64)  {o : Int32} (h : f_X3_hasScheme x_schemeCount x_schemes v1 = some o) : ms_Fn l G yX3_hasScheme cX3_hasScheme 4 (some .boolean) rm_X3_hasScheme [.ref a_this, .long v1] [ob_X3 a_this a_actions a_attributes a_schemes x_schemeCount, (a_schemes, .inl (G.2.1 2, 4, .inr (.inl x_schemes)))] [ob_X3 a_this a_actions a_attributes a_schemes x_schemeCount, (a_schemes, .inl (G.2.1 2, 4, .inr (.inl x_schemes)))] (some (.int o)) := by
  refine ms_start RX3 (by decide +kernel) rfl (Nat.le_of_ble_eq_true rfl) (fun p e s m below meth c A ls hX hW hl => ?_)
  have hx := hX.1.1
  have hb := hX.1.2.1
  have hl : lv_has ls 4 [(0, .ref a_this), (1, .long v1)] := hl
  unfold f_X3_hasScheme at h
  refine lv_iconst (v := 0) hx hb dX3_hasScheme_0 (by decide) ?_
  refine lv_istore_n (lv' := [(3, .int 0), (0, .ref a_this), (1, .long v1)]) hx hb dX3_hasScheme_1 rfl hl (by decide) rfl (fun ls hl => ?_)
  exact wb_X3_hasScheme_L2 hX _ _ _ _ _ h hW (lv_sub hl [1, 2, 0] rfl)
def rm_X3_addScheme : Room := { frames := 1, cells := 0, slots := 0, locals := 23 }
def f_X3_addScheme (x_schemeCount : Int32) (x_schemes : Nat → Int64) (v1 : Int64) : Option (Int32 × (Nat → Int64) × Int32) := (if 4 ≤ x_schemeCount then some (x_schemeCount, x_schemes, 0) else (f_X3_hasScheme x_schemeCount x_schemes v1).bind (fun q10 => (if q10 = 0 then ms_gi x_schemeCount 4 (some (x_schemeCount + 1, vp_updL x_schemes x_schemeCount.toNatClampNeg v1, 1)) else some (x_schemeCount, x_schemes, 0))))
set_option maxHeartbeats 4000000 in
set_option maxRecDepth 100000 in
theorem fn_X3_addScheme (l : Launch) (G : Gc) (a_this : Nat) (a_actions : Nat) (a_attributes : Nat) (a_schemes : Nat) (x_schemeCount : Int32) (x_schemes : Nat → Int64) (v1 : Int64)  {o : Int32 × (Nat → Int64) × Int32} (h : f_X3_addScheme x_schemeCount x_schemes v1 = some o) : ms_Fn l G yX3_addScheme cX3_addScheme 3 (some .boolean) rm_X3_addScheme [.ref a_this, .long v1] [ob_X3 a_this a_actions a_attributes a_schemes x_schemeCount, (a_schemes, .inl (G.2.1 2, 4, .inr (.inl x_schemes)))] [ob_X3 a_this a_actions a_attributes a_schemes o.1, (a_schemes, .inl (G.2.1 2, 4, .inr (.inl o.2.1)))] (some (.int o.2.2)) := by
  refine ms_start RX3 (by decide +kernel) rfl (Nat.le_of_ble_eq_true rfl) (fun p e s m below meth c A ls hX hW hl => ?_)
  have hx := hX.1.1
  have hb := hX.1.2.1
  have hl : lv_has ls 3 [(0, .ref a_this), (1, .long v1)] := hl
  unfold f_X3_addScheme at h
  refine lv_aload_n hx hb dX3_addScheme_0 rfl (lv_at hl 0 rfl) ?_
  refine ms_get ff_X3_25 hX hW 0 rfl rfl dX3_addScheme_1 ?_
  refine lv_iconst (v := 4) hx hb dX3_addScheme_4 (by decide) ?_
  refine lv_icmp_ge (tgt := 16) hx hb dX3_addScheme_5 (by decide) (fun k => ?_) (fun k => ?_)
  · have h := ms_ifp h k
    refine lv_iconst (v := 0) hx hb dX3_addScheme_16 (by decide) ?_
    obtain rfl := Option.some.inj h
    exact ms_zret hX (ms_nz (Or.inl rfl)) hW dX3_addScheme_17
  · have h := ms_ifn h k
    refine lv_aload_n hx hb dX3_addScheme_8 rfl (lv_at hl 0 rfl) ?_
    refine lv_lload_n hx hb dX3_addScheme_9 rfl (lv_at hl 1 rfl) ?_
    obtain ⟨q10, hq10, h⟩ := ms_bd h
    refine ms_callV (fn_X3_hasScheme l G a_this a_actions a_attributes a_schemes x_schemeCount x_schemes v1 hq10) wm_X3_hasScheme wv_X3_33 hX hW [0, 1] rfl rfl rfl rfl rfl ⟨Nat.le_of_ble_eq_true rfl, Nat.le_of_ble_eq_true rfl, rfl, rfl, Nat.zero_le _, Nat.zero_le _⟩ rfl hl.1 [] rfl (Nat.le_of_ble_eq_true rfl) dX3_addScheme_10 (fun H locs hW => ?_)
    have hW : ms_W G A s H locs [ob_X3 a_this a_actions a_attributes a_schemes x_schemeCount, (a_schemes, .inl (G.2.1 2, 4, .inr (.inl x_schemes)))] := hW
    refine W.eq (g2 := F0 m 13 ls [.int q10]) rfl ?_
    refine lv_if_eq (tgt := 18) hx hb dX3_addScheme_13 (by decide) (fun k => ?_) (fun k => ?_)
    · have h := ms_ifp h k
      refine lv_aload_n hx hb dX3_addScheme_18 rfl (lv_at hl 0 rfl) ?_
      refine ms_get ff_X3_18 hX hW 0 rfl rfl dX3_addScheme_19 ?_
      refine lv_aload_n hx hb dX3_addScheme_22 rfl (lv_at hl 0 rfl) ?_
      refine ms_get ff_X3_25 hX hW 0 rfl rfl dX3_addScheme_23 ?_
      refine lv_lload_n hx hb dX3_addScheme_26 rfl (lv_at hl 1 rfl) ?_
      obtain ⟨k, h⟩ := ms_gi_some h
      refine ms_last hX hW 1 rfl k dX3_addScheme_27 (fun H locs hW => ?_)
      have hW : ms_W G A s H locs [ob_X3 a_this a_actions a_attributes a_schemes x_schemeCount, (a_schemes, .inl (G.2.1 2, 4, .inr (.inl (vp_updL x_schemes x_schemeCount.toNatClampNeg v1))))] := hW
      refine lv_aload_n hx hb dX3_addScheme_28 rfl (lv_at hl 0 rfl) ?_
      refine lv_dup hx hb dX3_addScheme_29 rfl ?_
      refine ms_get ff_X3_25 hX hW 0 rfl rfl dX3_addScheme_30 ?_
      refine lv_iconst (v := 1) hx hb dX3_addScheme_33 (by decide) ?_
      refine lv_iadd hx hb dX3_addScheme_34 ?_
      refine ms_put ff_X3_25 fp_X3_3 rfl hX hW 0 rfl rfl rfl (Nat.le_of_ble_eq_true rfl) dX3_addScheme_35 (fun H locs hW => ?_)
      have hW : ms_W G A s H locs [ob_X3 a_this a_actions a_attributes a_schemes (x_schemeCount + 1), (a_schemes, .inl (G.2.1 2, 4, .inr (.inl (vp_updL x_schemes x_schemeCount.toNatClampNeg v1))))] := hW
      refine lv_iconst (v := 1) hx hb dX3_addScheme_38 (by decide) ?_
      obtain rfl := Option.some.inj h
      exact ms_zret hX (ms_nz (Or.inr rfl)) hW dX3_addScheme_39
    · have h := ms_ifn h k
      refine lv_iconst (v := 0) hx hb dX3_addScheme_16 (by decide) ?_
      obtain rfl := Option.some.inj h
      exact ms_zret hX (ms_nz (Or.inl rfl)) hW dX3_addScheme_17
def rm_X9_isLetter : Room := { frames := 0, cells := 0, slots := 0, locals := 0 }
def f_X9_isLetter_L12 (v0 : Int32)  : Option (Int32) := (if v0 < 65 then some 0 else (if 90 < v0 then some 0 else some 1))
set_option maxHeartbeats 4000000 in
set_option maxRecDepth 100000 in
theorem wb_X9_isLetter_L12 {p : Program} {l : Launch} {e : Env} {s : State} {m : MethodId} {args : Array Value} {below : List Frame} {meth : Method} {c : Code} {G : Gc} {A : Nat → Prop} {H : Heap} {locs : List Loc} {ls : Array Slot}   {v0 : Int32}  {o : Int32} (hX : ms_CX p s m args meth c cX9_isLetter 1 RX9 (some .boolean) G A)   (h : f_X9_isLetter_L12 v0 = some o) (hW : ms_W G A s H locs []) (hl : lv_has ls 1 [(0, .int v0)]) : W p l e rm_X9_isLetter s m args below meth c H locs 0 0 (ms_Q G A below args s [] (some (.int o))) (F0 m 12 ls []) := by
  have hx := hX.1.1
  have hb := hX.1.2.1
  unfold f_X9_isLetter_L12 at h
  refine lv_iload_n hx hb dX9_isLetter_12 rfl (lv_at hl 0 rfl) ?_
  refine lv_bipush (v := 65) hx hb dX9_isLetter_13 (by decide) ?_
  refine lv_icmp_lt (tgt := 28) hx hb dX9_isLetter_15 (by decide) (fun k => ?_) (fun k => ?_)
  · have h := ms_ifp h k
    refine lv_iconst (v := 0) hx hb dX9_isLetter_28 (by decide) ?_
    obtain rfl := Option.some.inj h
    exact ms_zret hX (ms_nz (Or.inl rfl)) hW dX9_isLetter_29
  · have h := ms_ifn h k
    refine lv_iload_n hx hb dX9_isLetter_18 rfl (lv_at hl 0 rfl) ?_
    refine lv_bipush (v := 90) hx hb dX9_isLetter_19 (by decide) ?_
    refine lv_icmp_gt (tgt := 28) hx hb dX9_isLetter_21 (by decide) (fun k => ?_) (fun k => ?_)
    · have h := ms_ifp h k
      refine lv_iconst (v := 0) hx hb dX9_isLetter_28 (by decide) ?_
      obtain rfl := Option.some.inj h
      exact ms_zret hX (ms_nz (Or.inl rfl)) hW dX9_isLetter_29
    · have h := ms_ifn h k
      refine lv_iconst (v := 1) hx hb dX9_isLetter_24 (by decide) ?_
      refine lv_goto (tgt := 29) hx hb dX9_isLetter_25 (by decide) ?_
      obtain rfl := Option.some.inj h
      exact ms_zret hX (ms_nz (Or.inr rfl)) hW dX9_isLetter_29
def f_X9_isLetter  (v0 : Int32) : Option (Int32) := (if v0 < 97 then f_X9_isLetter_L12 v0 else (if v0 ≤ 122 then some 1 else f_X9_isLetter_L12 v0))
set_option maxHeartbeats 4000000 in
set_option maxRecDepth 100000 in
theorem fn_X9_isLetter (l : Launch) (G : Gc)   (v0 : Int32)  {o : Int32} (h : f_X9_isLetter v0 = some o) : ms_Fn l G yX9_isLetter cX9_isLetter 1 (some .boolean) rm_X9_isLetter [.int v0] [] [] (some (.int o)) := by
  refine ms_start RX9 (by decide +kernel) rfl (Nat.le_of_ble_eq_true rfl) (fun p e s m below meth c A ls hX hW hl => ?_)
  have hx := hX.1.1
  have hb := hX.1.2.1
  have hl : lv_has ls 1 [(0, .int v0)] := hl
  unfold f_X9_isLetter at h
  refine lv_iload_n hx hb dX9_isLetter_0 rfl (lv_at hl 0 rfl) ?_
  refine lv_bipush (v := 97) hx hb dX9_isLetter_1 (by decide) ?_
  refine lv_icmp_lt (tgt := 12) hx hb dX9_isLetter_3 (by decide) (fun k => ?_) (fun k => ?_)
  · have h := ms_ifp h k
    exact wb_X9_isLetter_L12 hX h hW (lv_sub hl [0] rfl)
  · have h := ms_ifn h k
    refine lv_iload_n hx hb dX9_isLetter_6 rfl (lv_at hl 0 rfl) ?_
    refine lv_bipush (v := 122) hx hb dX9_isLetter_7 (by decide) ?_
    refine lv_icmp_le (tgt := 24) hx hb dX9_isLetter_9 (by decide) (fun k => ?_) (fun k => ?_)
    · have h := ms_ifp h k
      refine lv_iconst (v := 1) hx hb dX9_isLetter_24 (by decide) ?_
      refine lv_goto (tgt := 29) hx hb dX9_isLetter_25 (by decide) ?_
      obtain rfl := Option.some.inj h
      exact ms_zret hX (ms_nz (Or.inr rfl)) hW dX9_isLetter_29
    · have h := ms_ifn h k
      exact wb_X9_isLetter_L12 hX h hW (lv_sub hl [0] rfl)
def rm_X3_isSchemeCharacter : Room := { frames := 1, cells := 0, slots := 0, locals := 20 }
def f_X3_isSchemeCharacter  (v0 : Int32) (v1 : Int32) : Option (Int32) := (f_X9_isLetter v0).bind (fun q1 => (if q1 = 0 then (if v1 = 0 then (f_X9_isDigit v0).bind (fun q12 => (if q12 = 0 then (if v0 = 43 then some 1 else (if v0 = 45 then some 1 else (if v0 = 46 then some 1 else some 0))) else some 1)) else some 0) else some 1))
set_option maxHeartbeats 4000000 in
set_option maxRecDepth 100000 in
theorem fn_X3_isSchemeCharacter (l : Launch) (G : Gc)   (v0 : Int32) (v1 : Int32)  {o : Int32} (h : f_X3_isSchemeCharacter v0 v1 = some o) : ms_Fn l G yX3_isSchemeCharacter cX3_isSchemeCharacter 2 (some .boolean) rm_X3_isSchemeCharacter [.int v0, .int v1] [] [] (some (.int o)) := by
  refine ms_start RX3 (by decide +kernel) rfl (Nat.le_of_ble_eq_true rfl) (fun p e s m below meth c A ls hX hW hl => ?_)
  have hx := hX.1.1
  have hb := hX.1.2.1
  have hl : lv_has ls 2 [(0, .int v0), (1, .int v1)] := hl
  unfold f_X3_isSchemeCharacter at h
  refine lv_iload_n hx hb dX3_isSchemeCharacter_0 rfl (lv_at hl 0 rfl) ?_
  obtain ⟨q1, hq1, h⟩ := ms_bd h
  refine ms_callN (host := RX9) (fn_X9_isLetter l G v0 hq1) wm_X9_isLetter (List.mem_of_getElem? (i := 8) rfl) wt_X9_isLetter hX hW [] rfl rfl rfl ⟨Nat.le_of_ble_eq_true rfl, Nat.le_of_ble_eq_true rfl, rfl, rfl, Nat.zero_le _, Nat.zero_le _⟩ rfl hl.1 [] rfl (Nat.le_of_ble_eq_true rfl) dX3_isSchemeCharacter_1 (fun H locs hW => ?_)
  have hW : ms_W G A s H locs [] := hW
  refine W.eq (g2 := F0 m 4 ls [.int q1]) rfl ?_
  refine lv_if_ne (tgt := 36) hx hb dX3_isSchemeCharacter_4 (by decide) (fun k => ?_) (fun k => ?_)
  · have h := ms_ifn h k
    refine lv_iconst (v := 1) hx hb dX3_isSchemeCharacter_36 (by decide) ?_
    refine lv_goto (tgt := 41) hx hb dX3_isSchemeCharacter_37 (by decide) ?_
    obtain rfl := Option.some.inj h
    exact ms_zret hX (ms_nz (Or.inr rfl)) hW dX3_isSchemeCharacter_41
  · have h := ms_ifp h k
    refine lv_iload_n hx hb dX3_isSchemeCharacter_7 rfl (lv_at hl 1 rfl) ?_
    refine lv_if_ne (tgt := 40) hx hb dX3_isSchemeCharacter_8 (by decide) (fun k => ?_) (fun k => ?_)
    · have h := ms_ifn h k
      refine lv_iconst (v := 0) hx hb dX3_isSchemeCharacter_40 (by decide) ?_
      obtain rfl := Option.some.inj h
      exact ms_zret hX (ms_nz (Or.inl rfl)) hW dX3_isSchemeCharacter_41
    · have h := ms_ifp h k
      refine lv_iload_n hx hb dX3_isSchemeCharacter_11 rfl (lv_at hl 0 rfl) ?_
      obtain ⟨q12, hq12, h⟩ := ms_bd h
      refine ms_callN (host := RX9) (fn_X9_isDigit l G v0 hq12) wm_X9_isDigit (List.mem_of_getElem? (i := 9) rfl) wt_X9_isDigit hX hW [] rfl rfl rfl ⟨Nat.le_of_ble_eq_true rfl, Nat.le_of_ble_eq_true rfl, rfl, rfl, Nat.zero_le _, Nat.zero_le _⟩ rfl hl.1 [] rfl (Nat.le_of_ble_eq_true rfl) dX3_isSchemeCharacter_12 (fun H locs hW => ?_)
      have hW : ms_W G A s H locs [] := hW
      refine W.eq (g2 := F0 m 15 ls [.int q12]) rfl ?_
      refine lv_if_ne (tgt := 36) hx hb dX3_isSchemeCharacter_15 (by decide) (fun k => ?_) (fun k => ?_)
      · have h := ms_ifn h k
        refine lv_iconst (v := 1) hx hb dX3_isSchemeCharacter_36 (by decide) ?_
        refine lv_goto (tgt := 41) hx hb dX3_isSchemeCharacter_37 (by decide) ?_
        obtain rfl := Option.some.inj h
        exact ms_zret hX (ms_nz (Or.inr rfl)) hW dX3_isSchemeCharacter_41
      · have h := ms_ifp h k
        refine lv_iload_n hx hb dX3_isSchemeCharacter_18 rfl (lv_at hl 0 rfl) ?_
        refine lv_bipush (v := 43) hx hb dX3_isSchemeCharacter_19 (by decide) ?_
        refine lv_icmp_eq (tgt := 36) hx hb dX3_isSchemeCharacter_21 (by decide) (fun k => ?_) (fun k => ?_)
        · have h := ms_ifp h k
          refine lv_iconst (v := 1) hx hb dX3_isSchemeCharacter_36 (by decide) ?_
          refine lv_goto (tgt := 41) hx hb dX3_isSchemeCharacter_37 (by decide) ?_
          obtain rfl := Option.some.inj h
          exact ms_zret hX (ms_nz (Or.inr rfl)) hW dX3_isSchemeCharacter_41
        · have h := ms_ifn h k
          refine lv_iload_n hx hb dX3_isSchemeCharacter_24 rfl (lv_at hl 0 rfl) ?_
          refine lv_bipush (v := 45) hx hb dX3_isSchemeCharacter_25 (by decide) ?_
          refine lv_icmp_eq (tgt := 36) hx hb dX3_isSchemeCharacter_27 (by decide) (fun k => ?_) (fun k => ?_)
          · have h := ms_ifp h k
            refine lv_iconst (v := 1) hx hb dX3_isSchemeCharacter_36 (by decide) ?_
            refine lv_goto (tgt := 41) hx hb dX3_isSchemeCharacter_37 (by decide) ?_
            obtain rfl := Option.some.inj h
            exact ms_zret hX (ms_nz (Or.inr rfl)) hW dX3_isSchemeCharacter_41
          · have h := ms_ifn h k
            refine lv_iload_n hx hb dX3_isSchemeCharacter_30 rfl (lv_at hl 0 rfl) ?_
            refine lv_bipush (v := 46) hx hb dX3_isSchemeCharacter_31 (by decide) ?_
            refine lv_icmp_ne (tgt := 40) hx hb dX3_isSchemeCharacter_33 (by decide) (fun k => ?_) (fun k => ?_)
            · have h := ms_ifn h k
              refine lv_iconst (v := 0) hx hb dX3_isSchemeCharacter_40 (by decide) ?_
              obtain rfl := Option.some.inj h
              exact ms_zret hX (ms_nz (Or.inl rfl)) hW dX3_isSchemeCharacter_41
            · have h := ms_ifp h k
              refine lv_iconst (v := 1) hx hb dX3_isSchemeCharacter_36 (by decide) ?_
              refine lv_goto (tgt := 41) hx hb dX3_isSchemeCharacter_37 (by decide) ?_
              obtain rfl := Option.some.inj h
              exact ms_zret hX (ms_nz (Or.inr rfl)) hW dX3_isSchemeCharacter_41
def rm_X9_letterNumber : Room := { frames := 0, cells := 0, slots := 0, locals := 0 }
def f_X9_letterNumber_L17 (v0 : Int32)  : Option (Int32) := (if v0 < 65 then some (-1) else (if 90 < v0 then some (-1) else some (v0 - 65)))
set_option maxHeartbeats 4000000 in
set_option maxRecDepth 100000 in
theorem wb_X9_letterNumber_L17 {p : Program} {l : Launch} {e : Env} {s : State} {m : MethodId} {args : Array Value} {below : List Frame} {meth : Method} {c : Code} {G : Gc} {A : Nat → Prop} {H : Heap} {locs : List Loc} {ls : Array Slot}   {v0 : Int32}  {o : Int32} (hX : ms_CX p s m args meth c cX9_letterNumber 1 RX9 (some .int) G A)   (h : f_X9_letterNumber_L17 v0 = some o) (hW : ms_W G A s H locs []) (hl : lv_has ls 1 [(0, .int v0)]) : W p l e rm_X9_letterNumber s m args below meth c H locs 0 0 (ms_Q G A below args s [] (some (.int o))) (F0 m 17 ls []) := by
  have hx := hX.1.1
  have hb := hX.1.2.1
  unfold f_X9_letterNumber_L17 at h
  refine lv_iload_n hx hb dX9_letterNumber_17 rfl (lv_at hl 0 rfl) ?_
  refine lv_bipush (v := 65) hx hb dX9_letterNumber_18 (by decide) ?_
  refine lv_icmp_lt (tgt := 36) hx hb dX9_letterNumber_20 (by decide) (fun k => ?_) (fun k => ?_)
  · have h := ms_ifp h k
    refine lv_iconst (v := (-1)) hx hb dX9_letterNumber_36 (by decide) ?_
    obtain rfl := Option.some.inj h
    exact ms_iret hX hW dX9_letterNumber_37
  · have h := ms_ifn h k
    refine lv_iload_n hx hb dX9_letterNumber_23 rfl (lv_at hl 0 rfl) ?_
    refine lv_bipush (v := 90) hx hb dX9_letterNumber_24 (by decide) ?_
    refine lv_icmp_gt (tgt := 36) hx hb dX9_letterNumber_26 (by decide) (fun k => ?_) (fun k => ?_)
    · have h := ms_ifp h k
      refine lv_iconst (v := (-1)) hx hb dX9_letterNumber_36 (by decide) ?_
      obtain rfl := Option.some.inj h
      exact ms_iret hX hW dX9_letterNumber_37
    · have h := ms_ifn h k
      refine lv_iload_n hx hb dX9_letterNumber_29 rfl (lv_at hl 0 rfl) ?_
      refine lv_bipush (v := 65) hx hb dX9_letterNumber_30 (by decide) ?_
      refine lv_isub hx hb dX9_letterNumber_32 ?_
      refine lv_goto (tgt := 37) hx hb dX9_letterNumber_33 (by decide) ?_
      obtain rfl := Option.some.inj h
      exact ms_iret hX hW dX9_letterNumber_37
def f_X9_letterNumber  (v0 : Int32) : Option (Int32) := (if v0 < 97 then f_X9_letterNumber_L17 v0 else (if 122 < v0 then f_X9_letterNumber_L17 v0 else some (v0 - 97)))
set_option maxHeartbeats 4000000 in
set_option maxRecDepth 100000 in
theorem fn_X9_letterNumber (l : Launch) (G : Gc)   (v0 : Int32)  {o : Int32} (h : f_X9_letterNumber v0 = some o) : ms_Fn l G yX9_letterNumber cX9_letterNumber 1 (some .int) rm_X9_letterNumber [.int v0] [] [] (some (.int o)) := by
  refine ms_start RX9 (by decide +kernel) rfl (Nat.le_of_ble_eq_true rfl) (fun p e s m below meth c A ls hX hW hl => ?_)
  have hx := hX.1.1
  have hb := hX.1.2.1
  have hl : lv_has ls 1 [(0, .int v0)] := hl
  unfold f_X9_letterNumber at h
  refine lv_iload_n hx hb dX9_letterNumber_0 rfl (lv_at hl 0 rfl) ?_
  refine lv_bipush (v := 97) hx hb dX9_letterNumber_1 (by decide) ?_
  refine lv_icmp_lt (tgt := 17) hx hb dX9_letterNumber_3 (by decide) (fun k => ?_) (fun k => ?_)
  · have h := ms_ifp h k
    exact wb_X9_letterNumber_L17 hX h hW (lv_sub hl [0] rfl)
  · have h := ms_ifn h k
    refine lv_iload_n hx hb dX9_letterNumber_6 rfl (lv_at hl 0 rfl) ?_
    refine lv_bipush (v := 122) hx hb dX9_letterNumber_7 (by decide) ?_
    refine lv_icmp_gt (tgt := 17) hx hb dX9_letterNumber_9 (by decide) (fun k => ?_) (fun k => ?_)
    · have h := ms_ifp h k
      exact wb_X9_letterNumber_L17 hX h hW (lv_sub hl [0] rfl)
    · have h := ms_ifn h k
      refine lv_iload_n hx hb dX9_letterNumber_12 rfl (lv_at hl 0 rfl) ?_
      refine lv_bipush (v := 97) hx hb dX9_letterNumber_13 (by decide) ?_
      refine lv_isub hx hb dX9_letterNumber_15 ?_
      obtain rfl := Option.some.inj h
      exact ms_iret hX hW dX9_letterNumber_16
def rm_X3_allowsScheme : Room := { frames := 1, cells := 0, slots := 0, locals := 23 }
def f_X3_allowsScheme_L16 (x_schemeCount : Int32) (x_schemes : Nat → Int64) (x_a1_size : Int32) (x_a1_row : Nat → Int32) (v2 : Int32) (v3 : Int32) : Nat → Int64 → Int32 → Option (Int32)
  | 0, _, _ => none
  | n + 1, v4, v6 => (if v3 ≤ v6 then (f_X3_hasScheme x_schemeCount x_schemes v4).bind (fun q69 => ms_gz q69 (some q69)) else (f_X1_at x_a1_size x_a1_row v6).bind (fun q25 => (f_X9_letterNumber q25).bind (fun q28 => (if q28 = (-1) then some 0 else f_X3_allowsScheme_L16 x_schemeCount x_schemes x_a1_size x_a1_row v2 v3 n (v4 ||| (((97 + q28).toInt64) <<< ((8 * (v6 - v2)).toInt64 &&& 63))) (v6 + 1)))))
set_option maxHeartbeats 4000000 in
set_option maxRecDepth 100000 in
theorem wb_X3_allowsScheme_L16 {p : Program} {l : Launch} {e : Env} {s : State} {m : MethodId} {args : Array Value} {below : List Frame} {meth : Method} {c : Code} {G : Gc} {A : Nat → Prop} {a_this : Nat} {a_actions : Nat} {a_attributes : Nat} {a_schemes : Nat} {a_a1 : Nat} {a_a1_row : Nat} {x_schemeCount : Int32} {x_schemes : Nat → Int64} {x_a1_size : Int32} {x_a1_overflowed : Int32} {x_a1_row : Nat → Int32} {v2 : Int32} {v3 : Int32} {o : Int32} (hX : ms_CX p s m args meth c cX3_allowsScheme 8 RX3 (some .boolean) G A)  : ∀ (n : Nat) (v4 : Int64) (v6 : Int32) (H : Heap) (locs : List Loc) (ls : Array Slot), f_X3_allowsScheme_L16 x_schemeCount x_schemes x_a1_size x_a1_row v2 v3 n v4 v6 = some o → ms_W G A s H locs [ob_X3 a_this a_actions a_attributes a_schemes x_schemeCount, (a_schemes, .inl (G.2.1 2, 4, .inr (.inl x_schemes))), ob_X1 a_a1 a_a1_row x_a1_size x_a1_overflowed, (a_a1_row, .inl (G.2.1 0, 200, .inl x_a1_row))] → lv_has ls 8 [(0, .ref a_this), (1, .ref a_a1), (2, .int v2), (3, .int v3), (4, .long v4), (6, .int v6)] → W p l e rm_X3_allowsScheme s m args below meth c H locs 0 0 (ms_Q G A below args s [ob_X3 a_this a_actions a_attributes a_schemes x_schemeCount, (a_schemes, .inl (G.2.1 2, 4, .inr (.inl x_schemes))), ob_X1 a_a1 a_a1_row x_a1_size x_a1_overflowed, (a_a1_row, .inl (G.2.1 0, 200, .inl x_a1_row))] (some (.int o))) (F0 m 16 ls []) := by
  have hx := hX.1.1
  have hb := hX.1.2.1
  intro n
  induction n with
  | zero => intro v4 v6 H locs ls h; rw [f_X3_allowsScheme_L16] at h; cases h
  | succ n ih =>
    intro v4 v6 H locs ls h hW hl
    rw [f_X3_allowsScheme_L16] at h
    refine lv_iload hx hb dX3_allowsScheme_16 (lv_at hl 5 rfl) ?_
    refine lv_iload_n hx hb dX3_allowsScheme_18 rfl (lv_at hl 3 rfl) ?_
    refine lv_icmp_ge (tgt := 66) hx hb dX3_allowsScheme_19 (by decide) (fun k => ?_) (fun k => ?_)
    · have h := ms_ifp h k
      refine lv_aload_n hx hb dX3_allowsScheme_66 rfl (lv_at hl 0 rfl) ?_
      refine lv_lload hx hb dX3_allowsScheme_67 (lv_at hl 4 rfl) ?_
      obtain ⟨q69, hq69, h⟩ := ms_bd h
      refine ms_callV (fn_X3_hasScheme l G a_this a_actions a_attributes a_schemes x_schemeCount x_schemes v4 hq69) wm_X3_hasScheme wv_X3_33 hX hW [0, 1] rfl rfl rfl rfl rfl ⟨Nat.le_of_ble_eq_true rfl, Nat.le_of_ble_eq_true rfl, rfl, rfl, Nat.zero_le _, Nat.zero_le _⟩ rfl hl.1 [] rfl (Nat.le_of_ble_eq_true rfl) dX3_allowsScheme_69 (fun H locs hW => ?_)
      have hW : ms_W G A s H locs [ob_X3 a_this a_actions a_attributes a_schemes x_schemeCount, (a_schemes, .inl (G.2.1 2, 4, .inr (.inl x_schemes))), ob_X1 a_a1 a_a1_row x_a1_size x_a1_overflowed, (a_a1_row, .inl (G.2.1 0, 200, .inl x_a1_row))] := hW
      refine W.eq (g2 := F0 m 72 ls [.int q69]) rfl ?_
      obtain ⟨k, h⟩ := ms_gz_some h
      obtain rfl := Option.some.inj h
      exact ms_zret hX (ms_nz k) hW dX3_allowsScheme_72
    · have h := ms_ifn h k
      refine lv_aload_n hx hb dX3_allowsScheme_22 rfl (lv_at hl 1 rfl) ?_
      refine lv_iload hx hb dX3_allowsScheme_23 (lv_at hl 5 rfl) ?_
      obtain ⟨q25, hq25, h⟩ := ms_bd h
      refine ms_callV (fn_X1_at l G a_a1 a_a1_row x_a1_size x_a1_overflowed x_a1_row v6 hq25) wm_X1_at wv_X3_37 hX hW [2, 3] rfl rfl rfl rfl rfl ⟨Nat.le_of_ble_eq_true rfl, Nat.le_of_ble_eq_true rfl, rfl, rfl, Nat.zero_le _, Nat.zero_le _⟩ rfl hl.1 [] rfl (Nat.le_of_ble_eq_true rfl) dX3_allowsScheme_25 (fun H locs hW => ?_)
      have hW : ms_W G A s H locs [ob_X3 a_this a_actions a_attributes a_schemes x_schemeCount, (a_schemes, .inl (G.2.1 2, 4, .inr (.inl x_schemes))), ob_X1 a_a1 a_a1_row x_a1_size x_a1_overflowed, (a_a1_row, .inl (G.2.1 0, 200, .inl x_a1_row))] := hW
      refine W.eq (g2 := F0 m 28 ls [.int q25]) rfl ?_
      obtain ⟨q28, hq28, h⟩ := ms_bd h
      refine ms_callN (host := RX9) (fn_X9_letterNumber l G q25 hq28) wm_X9_letterNumber (List.mem_of_getElem? (i := 10) rfl) wt_X9_letterNumber hX hW [] rfl rfl rfl ⟨Nat.le_of_ble_eq_true rfl, Nat.le_of_ble_eq_true rfl, rfl, rfl, Nat.zero_le _, Nat.zero_le _⟩ rfl hl.1 [] rfl (Nat.le_of_ble_eq_true rfl) dX3_allowsScheme_28 (fun H locs hW => ?_)
      have hW : ms_W G A s H locs [ob_X3 a_this a_actions a_attributes a_schemes x_schemeCount, (a_schemes, .inl (G.2.1 2, 4, .inr (.inl x_schemes))), ob_X1 a_a1 a_a1_row x_a1_size x_a1_overflowed, (a_a1_row, .inl (G.2.1 0, 200, .inl x_a1_row))] := hW
      refine W.eq (g2 := F0 m 31 ls [.int q28]) rfl ?_
      refine lv_istore (lv' := [(7, .int q28), (0, .ref a_this), (1, .ref a_a1), (2, .int v2), (3, .int v3), (4, .long v4), (6, .int v6)]) hx hb dX3_allowsScheme_31 hl (by decide) rfl (fun ls hl => ?_)
      refine lv_iload hx hb dX3_allowsScheme_33 (lv_at hl 0 rfl) ?_
      refine lv_iconst (v := (-1)) hx hb dX3_allowsScheme_35 (by decide) ?_
      refine lv_icmp_ne (tgt := 41) hx hb dX3_allowsScheme_36 (by decide) (fun k => ?_) (fun k => ?_)
      · have h := ms_ifn h k
        refine lv_lload hx hb dX3_allowsScheme_41 (lv_at hl 5 rfl) ?_
        refine lv_bipush (v := 97) hx hb dX3_allowsScheme_43 (by decide) ?_
        refine lv_iload hx hb dX3_allowsScheme_45 (lv_at hl 0 rfl) ?_
        refine lv_iadd hx hb dX3_allowsScheme_47 ?_
        refine lv_i2l (v := (97 + q28).toInt64) hx hb dX3_allowsScheme_48 rfl ?_
        refine lv_bipush (v := 8) hx hb dX3_allowsScheme_49 (by decide) ?_
        refine lv_iload hx hb dX3_allowsScheme_51 (lv_at hl 6 rfl) ?_
        refine lv_iload_n hx hb dX3_allowsScheme_53 rfl (lv_at hl 3 rfl) ?_
        refine lv_isub hx hb dX3_allowsScheme_54 ?_
        refine lv_imul hx hb dX3_allowsScheme_55 ?_
        refine lv_lshl (v := ((97 + q28).toInt64) <<< ((8 * (v6 - v2)).toInt64 &&& 63)) hx hb dX3_allowsScheme_56 rfl ?_
        refine lv_lor hx hb dX3_allowsScheme_57 ?_
        refine lv_lstore (lv' := [(4, .long (v4 ||| (((97 + q28).toInt64) <<< ((8 * (v6 - v2)).toInt64 &&& 63)))), (7, .int q28), (0, .ref a_this), (1, .ref a_a1), (2, .int v2), (3, .int v3), (6, .int v6)]) hx hb dX3_allowsScheme_58 hl (by decide) rfl (fun ls hl => ?_)
        refine lv_iinc (v := v6 + 1) (lv' := [(6, .int (v6 + 1)), (4, .long (v4 ||| (((97 + q28).toInt64) <<< ((8 * (v6 - v2)).toInt64 &&& 63)))), (7, .int q28), (0, .ref a_this), (1, .ref a_a1), (2, .int v2), (3, .int v3)]) hx hb dX3_allowsScheme_60 hl (k := 6) rfl rfl (by decide) rfl (fun ls hl => ?_)
        refine lv_goto (tgt := 16) hx hb dX3_allowsScheme_63 (by decide) ?_
        exact ih _ _ _ _ _ h hW (lv_sub hl [3, 4, 5, 6, 1, 0] rfl)
      · have h := ms_ifp h k
        refine lv_iconst (v := 0) hx hb dX3_allowsScheme_39 (by decide) ?_
        obtain rfl := Option.some.inj h
        exact ms_zret hX (ms_nz (Or.inl rfl)) hW dX3_allowsScheme_40
def f_X3_allowsScheme (x_schemeCount : Int32) (x_schemes : Nat → Int64) (x_a1_size : Int32) (x_a1_row : Nat → Int32) (v2 : Int32) (v3 : Int32) : Option (Int32) := (if (v3 - v2) ≤ 8 then f_X3_allowsScheme_L16 x_schemeCount x_schemes x_a1_size x_a1_row v2 v3 1000 0 v2 else some 0)
set_option maxHeartbeats 4000000 in
set_option maxRecDepth 100000 in
theorem fn_X3_allowsScheme (l : Launch) (G : Gc) (a_this : Nat) (a_actions : Nat) (a_attributes : Nat) (a_schemes : Nat) (a_a1 : Nat) (a_a1_row : Nat) (x_schemeCount : Int32) (x_schemes : Nat → Int64) (x_a1_size : Int32) (x_a1_overflowed : Int32) (x_a1_row : Nat → Int32) (v2 : Int32) (v3 : Int32)  {o : Int32} (h : f_X3_allowsScheme x_schemeCount x_schemes x_a1_size x_a1_row v2 v3 = some o) : ms_Fn l G yX3_allowsScheme cX3_allowsScheme 8 (some .boolean) rm_X3_allowsScheme [.ref a_this, .ref a_a1, .int v2, .int v3] [ob_X3 a_this a_actions a_attributes a_schemes x_schemeCount, (a_schemes, .inl (G.2.1 2, 4, .inr (.inl x_schemes))), ob_X1 a_a1 a_a1_row x_a1_size x_a1_overflowed, (a_a1_row, .inl (G.2.1 0, 200, .inl x_a1_row))] [ob_X3 a_this a_actions a_attributes a_schemes x_schemeCount, (a_schemes, .inl (G.2.1 2, 4, .inr (.inl x_schemes))), ob_X1 a_a1 a_a1_row x_a1_size x_a1_overflowed, (a_a1_row, .inl (G.2.1 0, 200, .inl x_a1_row))] (some (.int o)) := by
  refine ms_start RX3 (by decide +kernel) rfl (Nat.le_of_ble_eq_true rfl) (fun p e s m below meth c A ls hX hW hl => ?_)
  have hx := hX.1.1
  have hb := hX.1.2.1
  have hl : lv_has ls 8 [(0, .ref a_this), (1, .ref a_a1), (2, .int v2), (3, .int v3)] := hl
  unfold f_X3_allowsScheme at h
  refine lv_iload_n hx hb dX3_allowsScheme_0 rfl (lv_at hl 3 rfl) ?_
  refine lv_iload_n hx hb dX3_allowsScheme_1 rfl (lv_at hl 2 rfl) ?_
  refine lv_isub hx hb dX3_allowsScheme_2 ?_
  refine lv_bipush (v := 8) hx hb dX3_allowsScheme_3 (by decide) ?_
  refine lv_icmp_le (tgt := 10) hx hb dX3_allowsScheme_5 (by decide) (fun k => ?_) (fun k => ?_)
  · have h := ms_ifp h k
    refine lv_lconst (v := 0) hx hb dX3_allowsScheme_10 (by decide) ?_
    refine lv_lstore (lv' := [(4, .long 0), (0, .ref a_this), (1, .ref a_a1), (2, .int v2), (3, .int v3)]) hx hb dX3_allowsScheme_11 hl (by decide) rfl (fun ls hl => ?_)
    refine lv_iload_n hx hb dX3_allowsScheme_13 rfl (lv_at hl 3 rfl) ?_
    refine lv_istore (lv' := [(6, .int v2), (4, .long 0), (0, .ref a_this), (1, .ref a_a1), (2, .int v2), (3, .int v3)]) hx hb dX3_allowsScheme_14 hl (by decide) rfl (fun ls hl => ?_)
    exact wb_X3_allowsScheme_L16 hX _ _ _ _ _ _ h hW (lv_sub hl [2, 3, 4, 5, 1, 0] rfl)
  · have h := ms_ifn h k
    refine lv_iconst (v := 0) hx hb dX3_allowsScheme_8 (by decide) ?_
    obtain rfl := Option.some.inj h
    exact ms_zret hX (ms_nz (Or.inl rfl)) hW dX3_allowsScheme_9
def rm_X3_allowsAddress : Room := { frames := 2, cells := 0, slots := 0, locals := 50 }
def f_X3_allowsAddress_L95 (x_schemeCount : Int32) (x_schemes : Nat → Int64) (x_a1_size : Int32) (x_a1_row : Nat → Int32) (v2 : Int32) (v3 : Int32) (v4 : Int32) (v5 : Int32) (z0 : Int32) : Option (Int32) := (if z0 = 0 then some 1 else (f_X3_allowsScheme x_schemeCount x_schemes x_a1_size x_a1_row v4 v5).bind (fun q108 => (if q108 = 0 then some 0 else some 1)))
set_option maxHeartbeats 4000000 in
set_option maxRecDepth 100000 in
theorem wb_X3_allowsAddress_L95 {p : Program} {l : Launch} {e : Env} {s : State} {m : MethodId} {args : Array Value} {below : List Frame} {meth : Method} {c : Code} {G : Gc} {A : Nat → Prop} {H : Heap} {locs : List Loc} {ls : Array Slot} {a_this : Nat} {a_actions : Nat} {a_attributes : Nat} {a_schemes : Nat} {a_a1 : Nat} {a_a1_row : Nat} {x_schemeCount : Int32} {x_schemes : Nat → Int64} {x_a1_size : Int32} {x_a1_overflowed : Int32} {x_a1_row : Nat → Int32} {v2 : Int32} {v3 : Int32} {v4 : Int32} {v5 : Int32} {z0 : Int32} {o : Int32} (hX : ms_CX p s m args meth c cX3_allowsAddress 7 RX3 (some .boolean) G A)   (h : f_X3_allowsAddress_L95 x_schemeCount x_schemes x_a1_size x_a1_row v2 v3 v4 v5 z0 = some o) (hW : ms_W G A s H locs [ob_X3 a_this a_actions a_attributes a_schemes x_schemeCount, (a_schemes, .inl (G.2.1 2, 4, .inr (.inl x_schemes))), ob_X1 a_a1 a_a1_row x_a1_size x_a1_overflowed, (a_a1_row, .inl (G.2.1 0, 200, .inl x_a1_row))]) (hl : lv_has ls 7 [(0, .ref a_this), (1, .ref a_a1), (4, .int v4), (5, .int v5)]) : W p l e rm_X3_allowsAddress s m args below meth c H locs 0 0 (ms_Q G A below args s [ob_X3 a_this a_actions a_attributes a_schemes x_schemeCount, (a_schemes, .inl (G.2.1 2, 4, .inr (.inl x_schemes))), ob_X1 a_a1 a_a1_row x_a1_size x_a1_overflowed, (a_a1_row, .inl (G.2.1 0, 200, .inl x_a1_row))] (some (.int o))) (F0 m 95 ls [.int z0]) := by
  have hx := hX.1.1
  have hb := hX.1.2.1
  unfold f_X3_allowsAddress_L95 at h
  refine lv_istore (lv' := [(6, .int z0), (0, .ref a_this), (1, .ref a_a1), (4, .int v4), (5, .int v5)]) hx hb dX3_allowsAddress_95 hl (by decide) rfl (fun ls hl => ?_)
  refine lv_iload hx hb dX3_allowsAddress_97 (lv_at hl 0 rfl) ?_
  refine lv_if_eq (tgt := 114) hx hb dX3_allowsAddress_99 (by decide) (fun k => ?_) (fun k => ?_)
  · have h := ms_ifp h k
    refine lv_iconst (v := 1) hx hb dX3_allowsAddress_114 (by decide) ?_
    refine lv_goto (tgt := 119) hx hb dX3_allowsAddress_115 (by decide) ?_
    obtain rfl := Option.some.inj h
    exact ms_zret hX (ms_nz (Or.inr rfl)) hW dX3_allowsAddress_119
  · have h := ms_ifn h k
    refine lv_aload_n hx hb dX3_allowsAddress_102 rfl (lv_at hl 1 rfl) ?_
    refine lv_aload_n hx hb dX3_allowsAddress_103 rfl (lv_at hl 2 rfl) ?_
    refine lv_iload hx hb dX3_allowsAddress_104 (lv_at hl 3 rfl) ?_
    refine lv_iload hx hb dX3_allowsAddress_106 (lv_at hl 4 rfl) ?_
    obtain ⟨q108, hq108, h⟩ := ms_bd h
    refine ms_callV (fn_X3_allowsScheme l G a_this a_actions a_attributes a_schemes a_a1 a_a1_row x_schemeCount x_schemes x_a1_size x_a1_overflowed x_a1_row v4 v5 hq108) wm_X3_allowsScheme wv_X3_47 hX hW [0, 1, 2, 3] rfl rfl rfl rfl rfl ⟨Nat.le_of_ble_eq_true rfl, Nat.le_of_ble_eq_true rfl, rfl, rfl, Nat.zero_le _, Nat.zero_le _⟩ rfl hl.1 [] rfl (Nat.le_of_ble_eq_true rfl) dX3_allowsAddress_108 (fun H locs hW => ?_)
    have hW : ms_W G A s H locs [ob_X3 a_this a_actions a_attributes a_schemes x_schemeCount, (a_schemes, .inl (G.2.1 2, 4, .inr (.inl x_schemes))), ob_X1 a_a1 a_a1_row x_a1_size x_a1_overflowed, (a_a1_row, .inl (G.2.1 0, 200, .inl x_a1_row))] := hW
    refine W.eq (g2 := F0 m 111 ls [.int q108]) rfl ?_
    refine lv_if_eq (tgt := 118) hx hb dX3_allowsAddress_111 (by decide) (fun k => ?_) (fun k => ?_)
    · have h := ms_ifp h k
      refine lv_iconst (v := 0) hx hb dX3_allowsAddress_118 (by decide) ?_
      obtain rfl := Option.some.inj h
      exact ms_zret hX (ms_nz (Or.inl rfl)) hW dX3_allowsAddress_119
    · have h := ms_ifn h k
      refine lv_iconst (v := 1) hx hb dX3_allowsAddress_114 (by decide) ?_
      refine lv_goto (tgt := 119) hx hb dX3_allowsAddress_115 (by decide) ?_
      obtain rfl := Option.some.inj h
      exact ms_zret hX (ms_nz (Or.inr rfl)) hW dX3_allowsAddress_119
def f_X3_allowsAddress_L94 (x_schemeCount : Int32) (x_schemes : Nat → Int64) (x_a1_size : Int32) (x_a1_row : Nat → Int32) (v2 : Int32) (v3 : Int32) (v4 : Int32) (v5 : Int32) : Option (Int32) := f_X3_allowsAddress_L95 x_schemeCount x_schemes x_a1_size x_a1_row v2 v3 v4 v5 0
set_option maxHeartbeats 4000000 in
set_option maxRecDepth 100000 in
theorem wb_X3_allowsAddress_L94 {p : Program} {l : Launch} {e : Env} {s : State} {m : MethodId} {args : Array Value} {below : List Frame} {meth : Method} {c : Code} {G : Gc} {A : Nat → Prop} {H : Heap} {locs : List Loc} {ls : Array Slot} {a_this : Nat} {a_actions : Nat} {a_attributes : Nat} {a_schemes : Nat} {a_a1 : Nat} {a_a1_row : Nat} {x_schemeCount : Int32} {x_schemes : Nat → Int64} {x_a1_size : Int32} {x_a1_overflowed : Int32} {x_a1_row : Nat → Int32} {v2 : Int32} {v3 : Int32} {v4 : Int32} {v5 : Int32} {o : Int32} (hX : ms_CX p s m args meth c cX3_allowsAddress 7 RX3 (some .boolean) G A)   (h : f_X3_allowsAddress_L94 x_schemeCount x_schemes x_a1_size x_a1_row v2 v3 v4 v5 = some o) (hW : ms_W G A s H locs [ob_X3 a_this a_actions a_attributes a_schemes x_schemeCount, (a_schemes, .inl (G.2.1 2, 4, .inr (.inl x_schemes))), ob_X1 a_a1 a_a1_row x_a1_size x_a1_overflowed, (a_a1_row, .inl (G.2.1 0, 200, .inl x_a1_row))]) (hl : lv_has ls 7 [(0, .ref a_this), (1, .ref a_a1), (4, .int v4), (5, .int v5)]) : W p l e rm_X3_allowsAddress s m args below meth c H locs 0 0 (ms_Q G A below args s [ob_X3 a_this a_actions a_attributes a_schemes x_schemeCount, (a_schemes, .inl (G.2.1 2, 4, .inr (.inl x_schemes))), ob_X1 a_a1 a_a1_row x_a1_size x_a1_overflowed, (a_a1_row, .inl (G.2.1 0, 200, .inl x_a1_row))] (some (.int o))) (F0 m 94 ls []) := by
  have hx := hX.1.1
  have hb := hX.1.2.1
  unfold f_X3_allowsAddress_L94 at h
  refine lv_iconst (v := 0) hx hb dX3_allowsAddress_94 (by decide) ?_
  exact wb_X3_allowsAddress_L95 hX h hW (lv_sub hl [0, 1, 2, 3] rfl)
def f_X3_allowsAddress_L54 (x_schemeCount : Int32) (x_schemes : Nat → Int64) (x_a1_size : Int32) (x_a1_row : Nat → Int32) (v2 : Int32) (v3 : Int32) (kk : Int32 → Int32 → Option (Int32 × Int32)) (v4 : Int32) (v5 : Int32) (z0 : Int32) (z1 : Int32) : Option (Int32 × Int32) := (f_X3_isSchemeCharacter z0 z1).bind (fun q54 => (if q54 = 0 then some (v4, v5) else kk v4 (v5 + 1)))
set_option maxHeartbeats 4000000 in
set_option maxRecDepth 100000 in
theorem wb_X3_allowsAddress_L54 {p : Program} {l : Launch} {e : Env} {s : State} {m : MethodId} {args : Array Value} {below : List Frame} {meth : Method} {c : Code} {G : Gc} {A : Nat → Prop} {H : Heap} {locs : List Loc} {ls : Array Slot} {a_this : Nat} {a_actions : Nat} {a_attributes : Nat} {a_schemes : Nat} {a_a1 : Nat} {a_a1_row : Nat} {x_schemeCount : Int32} {x_schemes : Nat → Int64} {x_a1_size : Int32} {x_a1_overflowed : Int32} {x_a1_row : Nat → Int32} {v2 : Int32} {v3 : Int32} {kk : Int32 → Int32 → Option (Int32 × Int32)} {Q : State → Prop} {v4 : Int32} {v5 : Int32} {z0 : Int32} {z1 : Int32} {o : Int32 × Int32} (hX : ms_CX p s m args meth c cX3_allowsAddress 7 RX3 (some .boolean) G A) (hq : ∀ (H : Heap) (locs : List Loc) (ls : Array Slot), ms_W G A s H locs [ob_X3 a_this a_actions a_attributes a_schemes x_schemeCount, (a_schemes, .inl (G.2.1 2, 4, .inr (.inl x_schemes))), ob_X1 a_a1 a_a1_row x_a1_size x_a1_overflowed, (a_a1_row, .inl (G.2.1 0, 200, .inl x_a1_row))] → lv_has ls 7 [(0, .ref a_this), (1, .ref a_a1), (3, .int v3), (4, .int o.1), (5, .int o.2)] → W p l e rm_X3_allowsAddress s m args below meth c H locs 0 0 Q (F0 m 66 ls [])) (ih : ∀ (v4 : Int32) (v5 : Int32) (H : Heap) (locs : List Loc) (ls : Array Slot), kk v4 v5 = some o → ms_W G A s H locs [ob_X3 a_this a_actions a_attributes a_schemes x_schemeCount, (a_schemes, .inl (G.2.1 2, 4, .inr (.inl x_schemes))), ob_X1 a_a1 a_a1_row x_a1_size x_a1_overflowed, (a_a1_row, .inl (G.2.1 0, 200, .inl x_a1_row))] → lv_has ls 7 [(0, .ref a_this), (1, .ref a_a1), (3, .int v3), (4, .int v4), (5, .int v5)] → W p l e rm_X3_allowsAddress s m args below meth c H locs 0 0 Q (F0 m 30 ls [])) (h : f_X3_allowsAddress_L54 x_schemeCount x_schemes x_a1_size x_a1_row v2 v3 kk v4 v5 z0 z1 = some o) (hW : ms_W G A s H locs [ob_X3 a_this a_actions a_attributes a_schemes x_schemeCount, (a_schemes, .inl (G.2.1 2, 4, .inr (.inl x_schemes))), ob_X1 a_a1 a_a1_row x_a1_size x_a1_overflowed, (a_a1_row, .inl (G.2.1 0, 200, .inl x_a1_row))]) (hl : lv_has ls 7 [(0, .ref a_this), (1, .ref a_a1), (3, .int v3), (4, .int v4), (5, .int v5)]) : W p l e rm_X3_allowsAddress s m args below meth c H locs 0 0 Q (F0 m 54 ls [.int z1, .int z0]) := by
  have hx := hX.1.1
  have hb := hX.1.2.1
  unfold f_X3_allowsAddress_L54 at h
  obtain ⟨q54, hq54, h⟩ := ms_bd h
  refine ms_callS (fn_X3_isSchemeCharacter l G z0 z1 hq54) wm_X3_isSchemeCharacter wz_X3_43 hX hW [] rfl rfl rfl ⟨Nat.le_of_ble_eq_true rfl, Nat.le_of_ble_eq_true rfl, rfl, rfl, Nat.zero_le _, Nat.zero_le _⟩ rfl hl.1 [] rfl (Nat.le_of_ble_eq_true rfl) dX3_allowsAddress_54 (fun H locs hW => ?_)
  have hW : ms_W G A s H locs [ob_X3 a_this a_actions a_attributes a_schemes x_schemeCount, (a_schemes, .inl (G.2.1 2, 4, .inr (.inl x_schemes))), ob_X1 a_a1 a_a1_row x_a1_size x_a1_overflowed, (a_a1_row, .inl (G.2.1 0, 200, .inl x_a1_row))] := hW
  refine W.eq (g2 := F0 m 57 ls [.int q54]) rfl ?_
  refine lv_if_eq (tgt := 66) hx hb dX3_allowsAddress_57 (by decide) (fun k => ?_) (fun k => ?_)
  · have h := ms_ifp h k
    obtain rfl := Option.some.inj h
    exact hq _ _ _ hW (lv_sub hl [0, 1, 2, 3, 4] rfl)
  · have h := ms_ifn h k
    refine lv_iinc (v := v5 + 1) (lv' := [(5, .int (v5 + 1)), (0, .ref a_this), (1, .ref a_a1), (3, .int v3), (4, .int v4)]) hx hb dX3_allowsAddress_60 hl (k := 4) rfl rfl (by decide) rfl (fun ls hl => ?_)
    refine lv_goto (tgt := 30) hx hb dX3_allowsAddress_63 (by decide) ?_
    exact ih _ _ _ _ _ h hW (lv_sub hl [1, 2, 3, 4, 0] rfl)
def f_X3_allowsAddress_L30 (x_schemeCount : Int32) (x_schemes : Nat → Int64) (x_a1_size : Int32) (x_a1_row : Nat → Int32) (v2 : Int32) (v3 : Int32) : Nat → Int32 → Int32 → Option (Int32 × Int32)
  | 0, _, _ => none
  | n + 1, v4, v5 => (if v3 ≤ v5 then some (v4, v5) else (f_X1_at x_a1_size x_a1_row v5).bind (fun q39 => (if v5 = v4 then f_X3_allowsAddress_L54 x_schemeCount x_schemes x_a1_size x_a1_row v2 v3 (f_X3_allowsAddress_L30 x_schemeCount x_schemes x_a1_size x_a1_row v2 v3 n) v4 v5 q39 1 else f_X3_allowsAddress_L54 x_schemeCount x_schemes x_a1_size x_a1_row v2 v3 (f_X3_allowsAddress_L30 x_schemeCount x_schemes x_a1_size x_a1_row v2 v3 n) v4 v5 q39 0)))
set_option maxHeartbeats 4000000 in
set_option maxRecDepth 100000 in
theorem wb_X3_allowsAddress_L30 {p : Program} {l : Launch} {e : Env} {s : State} {m : MethodId} {args : Array Value} {below : List Frame} {meth : Method} {c : Code} {G : Gc} {A : Nat → Prop} {a_this : Nat} {a_actions : Nat} {a_attributes : Nat} {a_schemes : Nat} {a_a1 : Nat} {a_a1_row : Nat} {x_schemeCount : Int32} {x_schemes : Nat → Int64} {x_a1_size : Int32} {x_a1_overflowed : Int32} {x_a1_row : Nat → Int32} {v2 : Int32} {v3 : Int32} {Q : State → Prop} {o : Int32 × Int32} (hX : ms_CX p s m args meth c cX3_allowsAddress 7 RX3 (some .boolean) G A) (hq : ∀ (H : Heap) (locs : List Loc) (ls : Array Slot), ms_W G A s H locs [ob_X3 a_this a_actions a_attributes a_schemes x_schemeCount, (a_schemes, .inl (G.2.1 2, 4, .inr (.inl x_schemes))), ob_X1 a_a1 a_a1_row x_a1_size x_a1_overflowed, (a_a1_row, .inl (G.2.1 0, 200, .inl x_a1_row))] → lv_has ls 7 [(0, .ref a_this), (1, .ref a_a1), (3, .int v3), (4, .int o.1), (5, .int o.2)] → W p l e rm_X3_allowsAddress s m args below meth c H locs 0 0 Q (F0 m 66 ls [])) : ∀ (n : Nat) (v4 : Int32) (v5 : Int32) (H : Heap) (locs : List Loc) (ls : Array Slot), f_X3_allowsAddress_L30 x_schemeCount x_schemes x_a1_size x_a1_row v2 v3 n v4 v5 = some o → ms_W G A s H locs [ob_X3 a_this a_actions a_attributes a_schemes x_schemeCount, (a_schemes, .inl (G.2.1 2, 4, .inr (.inl x_schemes))), ob_X1 a_a1 a_a1_row x_a1_size x_a1_overflowed, (a_a1_row, .inl (G.2.1 0, 200, .inl x_a1_row))] → lv_has ls 7 [(0, .ref a_this), (1, .ref a_a1), (3, .int v3), (4, .int v4), (5, .int v5)] → W p l e rm_X3_allowsAddress s m args below meth c H locs 0 0 Q (F0 m 30 ls []) := by
  have hx := hX.1.1
  have hb := hX.1.2.1
  intro n
  induction n with
  | zero => intro v4 v5 H locs ls h; rw [f_X3_allowsAddress_L30] at h; cases h
  | succ n ih =>
    intro v4 v5 H locs ls h hW hl
    rw [f_X3_allowsAddress_L30] at h
    refine lv_iload hx hb dX3_allowsAddress_30 (lv_at hl 4 rfl) ?_
    refine lv_iload_n hx hb dX3_allowsAddress_32 rfl (lv_at hl 2 rfl) ?_
    refine lv_icmp_ge (tgt := 66) hx hb dX3_allowsAddress_33 (by decide) (fun k => ?_) (fun k => ?_)
    · have h := ms_ifp h k
      obtain rfl := Option.some.inj h
      exact hq _ _ _ hW (lv_sub hl [0, 1, 2, 3, 4] rfl)
    · have h := ms_ifn h k
      refine lv_aload_n hx hb dX3_allowsAddress_36 rfl (lv_at hl 1 rfl) ?_
      refine lv_iload hx hb dX3_allowsAddress_37 (lv_at hl 4 rfl) ?_
      obtain ⟨q39, hq39, h⟩ := ms_bd h
      refine ms_callV (fn_X1_at l G a_a1 a_a1_row x_a1_size x_a1_overflowed x_a1_row v5 hq39) wm_X1_at wv_X3_37 hX hW [2, 3] rfl rfl rfl rfl rfl ⟨Nat.le_of_ble_eq_true rfl, Nat.le_of_ble_eq_true rfl, rfl, rfl, Nat.zero_le _, Nat.zero_le _⟩ rfl hl.1 [] rfl (Nat.le_of_ble_eq_true rfl) dX3_allowsAddress_39 (fun H locs hW => ?_)
      have hW : ms_W G A s H locs [ob_X3 a_this a_actions a_attributes a_schemes x_schemeCount, (a_schemes, .inl (G.2.1 2, 4, .inr (.inl x_schemes))), ob_X1 a_a1 a_a1_row x_a1_size x_a1_overflowed, (a_a1_row, .inl (G.2.1 0, 200, .inl x_a1_row))] := hW
      refine W.eq (g2 := F0 m 42 ls [.int q39]) rfl ?_
      refine lv_iload hx hb dX3_allowsAddress_42 (lv_at hl 4 rfl) ?_
      refine lv_iload hx hb dX3_allowsAddress_44 (lv_at hl 3 rfl) ?_
      refine lv_icmp_ne (tgt := 53) hx hb dX3_allowsAddress_46 (by decide) (fun k => ?_) (fun k => ?_)
      · have h := ms_ifn h k
        refine lv_iconst (v := 0) hx hb dX3_allowsAddress_53 (by decide) ?_
        exact wb_X3_allowsAddress_L54 hX hq (ih) h hW (lv_sub hl [0, 1, 2, 3, 4] rfl)
      · have h := ms_ifp h k
        refine lv_iconst (v := 1) hx hb dX3_allowsAddress_49 (by decide) ?_
        refine lv_goto (tgt := 54) hx hb dX3_allowsAddress_50 (by decide) ?_
        exact wb_X3_allowsAddress_L54 hX hq (ih) h hW (lv_sub hl [0, 1, 2, 3, 4] rfl)
def f_X3_allowsAddress_L3 (x_schemeCount : Int32) (x_schemes : Nat → Int64) (x_a1_size : Int32) (x_a1_row : Nat → Int32) (v2 : Int32) (v3 : Int32) : Nat → Int32 → Option (Int32)
  | 0, _ => none
  | n + 1, v4 => (if v3 ≤ v4 then some v4 else (f_X1_at x_a1_size x_a1_row v4).bind (fun q12 => (if q12 = 32 then f_X3_allowsAddress_L3 x_schemeCount x_schemes x_a1_size x_a1_row v2 v3 n (v4 + 1) else some v4)))
set_option maxHeartbeats 4000000 in
set_option maxRecDepth 100000 in
theorem wb_X3_allowsAddress_L3 {p : Program} {l : Launch} {e : Env} {s : State} {m : MethodId} {args : Array Value} {below : List Frame} {meth : Method} {c : Code} {G : Gc} {A : Nat → Prop} {a_this : Nat} {a_actions : Nat} {a_attributes : Nat} {a_schemes : Nat} {a_a1 : Nat} {a_a1_row : Nat} {x_schemeCount : Int32} {x_schemes : Nat → Int64} {x_a1_size : Int32} {x_a1_overflowed : Int32} {x_a1_row : Nat → Int32} {v2 : Int32} {v3 : Int32} {Q : State → Prop} {o : Int32} (hX : ms_CX p s m args meth c cX3_allowsAddress 7 RX3 (some .boolean) G A) (hq : ∀ (H : Heap) (locs : List Loc) (ls : Array Slot), ms_W G A s H locs [ob_X3 a_this a_actions a_attributes a_schemes x_schemeCount, (a_schemes, .inl (G.2.1 2, 4, .inr (.inl x_schemes))), ob_X1 a_a1 a_a1_row x_a1_size x_a1_overflowed, (a_a1_row, .inl (G.2.1 0, 200, .inl x_a1_row))] → lv_has ls 7 [(0, .ref a_this), (1, .ref a_a1), (3, .int v3), (4, .int o)] → W p l e rm_X3_allowsAddress s m args below meth c H locs 0 0 Q (F0 m 26 ls [])) : ∀ (n : Nat) (v4 : Int32) (H : Heap) (locs : List Loc) (ls : Array Slot), f_X3_allowsAddress_L3 x_schemeCount x_schemes x_a1_size x_a1_row v2 v3 n v4 = some o → ms_W G A s H locs [ob_X3 a_this a_actions a_attributes a_schemes x_schemeCount, (a_schemes, .inl (G.2.1 2, 4, .inr (.inl x_schemes))), ob_X1 a_a1 a_a1_row x_a1_size x_a1_overflowed, (a_a1_row, .inl (G.2.1 0, 200, .inl x_a1_row))] → lv_has ls 7 [(0, .ref a_this), (1, .ref a_a1), (3, .int v3), (4, .int v4)] → W p l e rm_X3_allowsAddress s m args below meth c H locs 0 0 Q (F0 m 3 ls []) := by
  have hx := hX.1.1
  have hb := hX.1.2.1
  intro n
  induction n with
  | zero => intro v4 H locs ls h; rw [f_X3_allowsAddress_L3] at h; cases h
  | succ n ih =>
    intro v4 H locs ls h hW hl
    rw [f_X3_allowsAddress_L3] at h
    refine lv_iload hx hb dX3_allowsAddress_3 (lv_at hl 3 rfl) ?_
    refine lv_iload_n hx hb dX3_allowsAddress_5 rfl (lv_at hl 2 rfl) ?_
    refine lv_icmp_ge (tgt := 26) hx hb dX3_allowsAddress_6 (by decide) (fun k => ?_) (fun k => ?_)
    · have h := ms_ifp h k
      obtain rfl := Option.some.inj h
      exact hq _ _ _ hW (lv_sub hl [0, 1, 2, 3] rfl)
    · have h := ms_ifn h k
      refine lv_aload_n hx hb dX3_allowsAddress_9 rfl (lv_at hl 1 rfl) ?_
      refine lv_iload hx hb dX3_allowsAddress_10 (lv_at hl 3 rfl) ?_
      obtain ⟨q12, hq12, h⟩ := ms_bd h
      refine ms_callV (fn_X1_at l G a_a1 a_a1_row x_a1_size x_a1_overflowed x_a1_row v4 hq12) wm_X1_at wv_X3_37 hX hW [2, 3] rfl rfl rfl rfl rfl ⟨Nat.le_of_ble_eq_true rfl, Nat.le_of_ble_eq_true rfl, rfl, rfl, Nat.zero_le _, Nat.zero_le _⟩ rfl hl.1 [] rfl (Nat.le_of_ble_eq_true rfl) dX3_allowsAddress_12 (fun H locs hW => ?_)
      have hW : ms_W G A s H locs [ob_X3 a_this a_actions a_attributes a_schemes x_schemeCount, (a_schemes, .inl (G.2.1 2, 4, .inr (.inl x_schemes))), ob_X1 a_a1 a_a1_row x_a1_size x_a1_overflowed, (a_a1_row, .inl (G.2.1 0, 200, .inl x_a1_row))] := hW
      refine W.eq (g2 := F0 m 15 ls [.int q12]) rfl ?_
      refine lv_bipush (v := 32) hx hb dX3_allowsAddress_15 (by decide) ?_
      refine lv_icmp_ne (tgt := 26) hx hb dX3_allowsAddress_17 (by decide) (fun k => ?_) (fun k => ?_)
      · have h := ms_ifn h k
        obtain rfl := Option.some.inj h
        exact hq _ _ _ hW (lv_sub hl [0, 1, 2, 3] rfl)
      · have h := ms_ifp h k
        refine lv_iinc (v := v4 + 1) (lv' := [(4, .int (v4 + 1)), (0, .ref a_this), (1, .ref a_a1), (3, .int v3)]) hx hb dX3_allowsAddress_20 hl (k := 3) rfl rfl (by decide) rfl (fun ls hl => ?_)
        refine lv_goto (tgt := 3) hx hb dX3_allowsAddress_23 (by decide) ?_
        exact ih _ _ _ _ h hW (lv_sub hl [1, 2, 3, 0] rfl)
def f_X3_allowsAddress (x_schemeCount : Int32) (x_schemes : Nat → Int64) (x_a1_size : Int32) (x_a1_row : Nat → Int32) (v2 : Int32) (v3 : Int32) : Option (Int32) := (f_X3_allowsAddress_L3 x_schemeCount x_schemes x_a1_size x_a1_row v2 v3 1000 v2).bind (fun w3 => (f_X3_allowsAddress_L30 x_schemeCount x_schemes x_a1_size x_a1_row v2 v3 1000 w3 w3).bind (fun w30 => (if w30.2 ≤ w30.1 then f_X3_allowsAddress_L94 x_schemeCount x_schemes x_a1_size x_a1_row v2 v3 w30.1 w30.2 else (if v3 ≤ w30.2 then f_X3_allowsAddress_L94 x_schemeCount x_schemes x_a1_size x_a1_row v2 v3 w30.1 w30.2 else (f_X1_at x_a1_size x_a1_row w30.2).bind (fun q82 => (if q82 = 58 then f_X3_allowsAddress_L95 x_schemeCount x_schemes x_a1_size x_a1_row v2 v3 w30.1 w30.2 1 else f_X3_allowsAddress_L94 x_schemeCount x_schemes x_a1_size x_a1_row v2 v3 w30.1 w30.2))))))
set_option maxHeartbeats 4000000 in
set_option maxRecDepth 100000 in
theorem fn_X3_allowsAddress (l : Launch) (G : Gc) (a_this : Nat) (a_actions : Nat) (a_attributes : Nat) (a_schemes : Nat) (a_a1 : Nat) (a_a1_row : Nat) (x_schemeCount : Int32) (x_schemes : Nat → Int64) (x_a1_size : Int32) (x_a1_overflowed : Int32) (x_a1_row : Nat → Int32) (v2 : Int32) (v3 : Int32)  {o : Int32} (h : f_X3_allowsAddress x_schemeCount x_schemes x_a1_size x_a1_row v2 v3 = some o) : ms_Fn l G yX3_allowsAddress cX3_allowsAddress 7 (some .boolean) rm_X3_allowsAddress [.ref a_this, .ref a_a1, .int v2, .int v3] [ob_X3 a_this a_actions a_attributes a_schemes x_schemeCount, (a_schemes, .inl (G.2.1 2, 4, .inr (.inl x_schemes))), ob_X1 a_a1 a_a1_row x_a1_size x_a1_overflowed, (a_a1_row, .inl (G.2.1 0, 200, .inl x_a1_row))] [ob_X3 a_this a_actions a_attributes a_schemes x_schemeCount, (a_schemes, .inl (G.2.1 2, 4, .inr (.inl x_schemes))), ob_X1 a_a1 a_a1_row x_a1_size x_a1_overflowed, (a_a1_row, .inl (G.2.1 0, 200, .inl x_a1_row))] (some (.int o)) := by
  refine ms_start RX3 (by decide +kernel) rfl (Nat.le_of_ble_eq_true rfl) (fun p e s m below meth c A ls hX hW hl => ?_)
  have hx := hX.1.1
  have hb := hX.1.2.1
  have hl : lv_has ls 7 [(0, .ref a_this), (1, .ref a_a1), (2, .int v2), (3, .int v3)] := hl
  unfold f_X3_allowsAddress at h
  refine lv_iload_n hx hb dX3_allowsAddress_0 rfl (lv_at hl 2 rfl) ?_
  refine lv_istore (lv' := [(4, .int v2), (0, .ref a_this), (1, .ref a_a1), (2, .int v2), (3, .int v3)]) hx hb dX3_allowsAddress_1 hl (by decide) rfl (fun ls hl => ?_)
  obtain ⟨w3, hqw3, h⟩ := ms_bd h
  refine wb_X3_allowsAddress_L3 hX (o := w3) (fun H locs ls hW hl => ?_) _ _ _ _ _ hqw3 hW (lv_sub hl [1, 2, 4, 0] rfl)
  refine lv_iload hx hb dX3_allowsAddress_26 (lv_at hl 3 rfl) ?_
  refine lv_istore (lv' := [(5, .int w3), (0, .ref a_this), (1, .ref a_a1), (3, .int v3), (4, .int w3)]) hx hb dX3_allowsAddress_28 hl (by decide) rfl (fun ls hl => ?_)
  obtain ⟨w30, hqw30, h⟩ := ms_bd h
  refine wb_X3_allowsAddress_L30 hX (o := w30) (fun H locs ls hW hl => ?_) _ _ _ _ _ _ hqw30 hW (lv_sub hl [1, 2, 3, 4, 0] rfl)
  refine lv_iload hx hb dX3_allowsAddress_66 (lv_at hl 4 rfl) ?_
  refine lv_iload hx hb dX3_allowsAddress_68 (lv_at hl 3 rfl) ?_
  refine lv_icmp_le (tgt := 94) hx hb dX3_allowsAddress_70 (by decide) (fun k => ?_) (fun k => ?_)
  · have h := ms_ifp h k
    exact wb_X3_allowsAddress_L94 hX h hW (lv_sub hl [0, 1, 3, 4] rfl)
  · have h := ms_ifn h k
    refine lv_iload hx hb dX3_allowsAddress_73 (lv_at hl 4 rfl) ?_
    refine lv_iload_n hx hb dX3_allowsAddress_75 rfl (lv_at hl 2 rfl) ?_
    refine lv_icmp_ge (tgt := 94) hx hb dX3_allowsAddress_76 (by decide) (fun k => ?_) (fun k => ?_)
    · have h := ms_ifp h k
      exact wb_X3_allowsAddress_L94 hX h hW (lv_sub hl [0, 1, 3, 4] rfl)
    · have h := ms_ifn h k
      refine lv_aload_n hx hb dX3_allowsAddress_79 rfl (lv_at hl 1 rfl) ?_
      refine lv_iload hx hb dX3_allowsAddress_80 (lv_at hl 4 rfl) ?_
      obtain ⟨q82, hq82, h⟩ := ms_bd h
      refine ms_callV (fn_X1_at l G a_a1 a_a1_row x_a1_size x_a1_overflowed x_a1_row w30.2 hq82) wm_X1_at wv_X3_37 hX hW [2, 3] rfl rfl rfl rfl rfl ⟨Nat.le_of_ble_eq_true rfl, Nat.le_of_ble_eq_true rfl, rfl, rfl, Nat.zero_le _, Nat.zero_le _⟩ rfl hl.1 [] rfl (Nat.le_of_ble_eq_true rfl) dX3_allowsAddress_82 (fun H locs hW => ?_)
      have hW : ms_W G A s H locs [ob_X3 a_this a_actions a_attributes a_schemes x_schemeCount, (a_schemes, .inl (G.2.1 2, 4, .inr (.inl x_schemes))), ob_X1 a_a1 a_a1_row x_a1_size x_a1_overflowed, (a_a1_row, .inl (G.2.1 0, 200, .inl x_a1_row))] := hW
      refine W.eq (g2 := F0 m 85 ls [.int q82]) rfl ?_
      refine lv_bipush (v := 58) hx hb dX3_allowsAddress_85 (by decide) ?_
      refine lv_icmp_ne (tgt := 94) hx hb dX3_allowsAddress_87 (by decide) (fun k => ?_) (fun k => ?_)
      · have h := ms_ifn h k
        exact wb_X3_allowsAddress_L94 hX h hW (lv_sub hl [0, 1, 3, 4] rfl)
      · have h := ms_ifp h k
        refine lv_iconst (v := 1) hx hb dX3_allowsAddress_90 (by decide) ?_
        refine lv_goto (tgt := 95) hx hb dX3_allowsAddress_91 (by decide) ?_
        exact wb_X3_allowsAddress_L95 hX h hW (lv_sub hl [0, 1, 3, 4] rfl)
def rm_X4_isRawEnd : Room := { frames := 5, cells := 0, slots := 0, locals := 108 }
def f_X4_isRawEnd_L28 (x_source_size : Int32) (x_source_row : Nat → Int32) (v1 : Int32)  : Option (Int32) := (f_X1_at x_source_size x_source_row (v1 + 3)).bind (fun q35 => (if q35 = 32 then some 1 else (if q35 = 47 then some 1 else (if q35 = 62 then some 1 else (if q35 = 0 then some 1 else some 0)))))
set_option maxHeartbeats 4000000 in
set_option maxRecDepth 100000 in
theorem wb_X4_isRawEnd_L28 {p : Program} {l : Launch} {e : Env} {s : State} {m : MethodId} {args : Array Value} {below : List Frame} {meth : Method} {c : Code} {G : Gc} {A : Nat → Prop} {H : Heap} {locs : List Loc} {ls : Array Slot} {a_this : Nat} {a_source : Nat} {a_tree : Nat} {a_builder : Nat} {a_tag : Nat} {a_source_row : Nat} {x_at : Int32} {x_rawDue : Int32} {x_source_size : Int32} {x_source_overflowed : Int32} {x_source_row : Nat → Int32} {v1 : Int32}  {o : Int32} (hX : ms_CX p s m args meth c cX4_isRawEnd 3 RX4 (some .boolean) G A)   (h : f_X4_isRawEnd_L28 x_source_size x_source_row v1 = some o) (hW : ms_W G A s H locs [ob_X4 a_this a_source a_tree a_builder a_tag x_at x_rawDue, ob_X1 a_source a_source_row x_source_size x_source_overflowed, (a_source_row, .inl (G.2.1 0, 200, .inl x_source_row))]) (hl : lv_has ls 3 [(0, .ref a_this), (1, .int v1)]) : W p l e rm_X4_isRawEnd s m args below meth c H locs 0 0 (ms_Q G A below args s [ob_X4 a_this a_source a_tree a_builder a_tag x_at x_rawDue, ob_X1 a_source a_source_row x_source_size x_source_overflowed, (a_source_row, .inl (G.2.1 0, 200, .inl x_source_row))] (some (.int o))) (F0 m 28 ls []) := by
  have hx := hX.1.1
  have hb := hX.1.2.1
  unfold f_X4_isRawEnd_L28 at h
  refine lv_aload_n hx hb dX4_isRawEnd_28 rfl (lv_at hl 0 rfl) ?_
  refine ms_get ff_X4_9 hX hW 0 rfl rfl dX4_isRawEnd_29 ?_
  refine lv_iload_n hx hb dX4_isRawEnd_32 rfl (lv_at hl 1 rfl) ?_
  refine lv_iconst (v := 3) hx hb dX4_isRawEnd_33 (by decide) ?_
  refine lv_iadd hx hb dX4_isRawEnd_34 ?_
  obtain ⟨q35, hq35, h⟩ := ms_bd h
  refine ms_callV (fn_X1_at l G a_source a_source_row x_source_size x_source_overflowed x_source_row (v1 + 3) hq35) wm_X1_at wv_X4_86 hX hW [1, 2] rfl rfl rfl rfl rfl ⟨Nat.le_of_ble_eq_true rfl, Nat.le_of_ble_eq_true rfl, rfl, rfl, Nat.zero_le _, Nat.zero_le _⟩ rfl hl.1 [] rfl (Nat.le_of_ble_eq_true rfl) dX4_isRawEnd_35 (fun H locs hW => ?_)
  have hW : ms_W G A s H locs [ob_X4 a_this a_source a_tree a_builder a_tag x_at x_rawDue, ob_X1 a_source a_source_row x_source_size x_source_overflowed, (a_source_row, .inl (G.2.1 0, 200, .inl x_source_row))] := hW
  refine W.eq (g2 := F0 m 38 ls [.int q35]) rfl ?_
  refine lv_istore_n (lv' := [(2, .int q35), (0, .ref a_this), (1, .int v1)]) hx hb dX4_isRawEnd_38 rfl hl (by decide) rfl (fun ls hl => ?_)
  refine lv_iload_n hx hb dX4_isRawEnd_39 rfl (lv_at hl 0 rfl) ?_
  refine lv_bipush (v := 32) hx hb dX4_isRawEnd_40 (by decide) ?_
  refine lv_icmp_eq (tgt := 61) hx hb dX4_isRawEnd_42 (by decide) (fun k => ?_) (fun k => ?_)
  · have h := ms_ifp h k
    refine lv_iconst (v := 1) hx hb dX4_isRawEnd_61 (by decide) ?_
    refine lv_goto (tgt := 66) hx hb dX4_isRawEnd_62 (by decide) ?_
    obtain rfl := Option.some.inj h
    exact ms_zret hX (ms_nz (Or.inr rfl)) hW dX4_isRawEnd_66
  · have h := ms_ifn h k
    refine lv_iload_n hx hb dX4_isRawEnd_45 rfl (lv_at hl 0 rfl) ?_
    refine lv_bipush (v := 47) hx hb dX4_isRawEnd_46 (by decide) ?_
    refine lv_icmp_eq (tgt := 61) hx hb dX4_isRawEnd_48 (by decide) (fun k => ?_) (fun k => ?_)
    · have h := ms_ifp h k
      refine lv_iconst (v := 1) hx hb dX4_isRawEnd_61 (by decide) ?_
      refine lv_goto (tgt := 66) hx hb dX4_isRawEnd_62 (by decide) ?_
      obtain rfl := Option.some.inj h
      exact ms_zret hX (ms_nz (Or.inr rfl)) hW dX4_isRawEnd_66
    · have h := ms_ifn h k
      refine lv_iload_n hx hb dX4_isRawEnd_51 rfl (lv_at hl 0 rfl) ?_
      refine lv_bipush (v := 62) hx hb dX4_isRawEnd_52 (by decide) ?_
      refine lv_icmp_eq (tgt := 61) hx hb dX4_isRawEnd_54 (by decide) (fun k => ?_) (fun k => ?_)
      · have h := ms_ifp h k
        refine lv_iconst (v := 1) hx hb dX4_isRawEnd_61 (by decide) ?_
        refine lv_goto (tgt := 66) hx hb dX4_isRawEnd_62 (by decide) ?_
        obtain rfl := Option.some.inj h
        exact ms_zret hX (ms_nz (Or.inr rfl)) hW dX4_isRawEnd_66
      · have h := ms_ifn h k
        refine lv_iload_n hx hb dX4_isRawEnd_57 rfl (lv_at hl 0 rfl) ?_
        refine lv_if_ne (tgt := 65) hx hb dX4_isRawEnd_58 (by decide) (fun k => ?_) (fun k => ?_)
        · have h := ms_ifn h k
          refine lv_iconst (v := 0) hx hb dX4_isRawEnd_65 (by decide) ?_
          obtain rfl := Option.some.inj h
          exact ms_zret hX (ms_nz (Or.inl rfl)) hW dX4_isRawEnd_66
        · have h := ms_ifp h k
          refine lv_iconst (v := 1) hx hb dX4_isRawEnd_61 (by decide) ?_
          refine lv_goto (tgt := 66) hx hb dX4_isRawEnd_62 (by decide) ?_
          obtain rfl := Option.some.inj h
          exact ms_zret hX (ms_nz (Or.inr rfl)) hW dX4_isRawEnd_66
def f_X4_isRawEnd (x_source_size : Int32) (x_source_row : Nat → Int32) (v1 : Int32) : Option (Int32) := (f_X1_has x_source_size x_source_row v1 0).bind (fun q7 => (if q7 = 0 then (f_X1_has x_source_size x_source_row v1 1).bind (fun q20 => (if q20 = 0 then some 0 else f_X4_isRawEnd_L28 x_source_size x_source_row v1)) else f_X4_isRawEnd_L28 x_source_size x_source_row v1))
set_option maxHeartbeats 4000000 in
set_option maxRecDepth 100000 in
theorem fn_X4_isRawEnd (l : Launch) (G : Gc) (a_this : Nat) (a_source : Nat) (a_tree : Nat) (a_builder : Nat) (a_tag : Nat) (a_source_row : Nat) (x_at : Int32) (x_rawDue : Int32) (x_source_size : Int32) (x_source_overflowed : Int32) (x_source_row : Nat → Int32) (v1 : Int32)  {o : Int32} (h : f_X4_isRawEnd x_source_size x_source_row v1 = some o) : ms_Fn l G yX4_isRawEnd cX4_isRawEnd 3 (some .boolean) rm_X4_isRawEnd [.ref a_this, .int v1] [ob_X4 a_this a_source a_tree a_builder a_tag x_at x_rawDue, ob_X1 a_source a_source_row x_source_size x_source_overflowed, (a_source_row, .inl (G.2.1 0, 200, .inl x_source_row))] [ob_X4 a_this a_source a_tree a_builder a_tag x_at x_rawDue, ob_X1 a_source a_source_row x_source_size x_source_overflowed, (a_source_row, .inl (G.2.1 0, 200, .inl x_source_row))] (some (.int o)) := by
  refine ms_start RX4 (by decide +kernel) rfl (Nat.le_of_ble_eq_true rfl) (fun p e s m below meth c A ls hX hW hl => ?_)
  have hx := hX.1.1
  have hb := hX.1.2.1
  have hl : lv_has ls 3 [(0, .ref a_this), (1, .int v1)] := hl
  unfold f_X4_isRawEnd at h
  refine lv_aload_n hx hb dX4_isRawEnd_0 rfl (lv_at hl 0 rfl) ?_
  refine ms_get ff_X4_9 hX hW 0 rfl rfl dX4_isRawEnd_1 ?_
  refine lv_iload_n hx hb dX4_isRawEnd_4 rfl (lv_at hl 1 rfl) ?_
  refine ms_ldcS hX (tx := "</s") (i := 0) (List.mem_of_getElem? (i := 0) rfl) dX4_isRawEnd_5 ?_
  obtain ⟨q7, hq7, h⟩ := ms_bd h
  refine ms_callV (fn_X1_has l G a_source a_source_row x_source_size x_source_overflowed x_source_row v1 0 (by decide) hq7) wm_X1_has wv_X4_107 hX hW [1, 2] rfl rfl rfl rfl rfl ⟨Nat.le_of_ble_eq_true rfl, Nat.le_of_ble_eq_true rfl, rfl, rfl, Nat.zero_le _, Nat.zero_le _⟩ rfl hl.1 [] rfl (Nat.le_of_ble_eq_true rfl) dX4_isRawEnd_7 (fun H locs hW => ?_)
  have hW : ms_W G A s H locs [ob_X4 a_this a_source a_tree a_builder a_tag x_at x_rawDue, ob_X1 a_source a_source_row x_source_size x_source_overflowed, (a_source_row, .inl (G.2.1 0, 200, .inl x_source_row))] := hW
  refine W.eq (g2 := F0 m 10 ls [.int q7]) rfl ?_
  refine lv_if_ne (tgt := 28) hx hb dX4_isRawEnd_10 (by decide) (fun k => ?_) (fun k => ?_)
  · have h := ms_ifn h k
    exact wb_X4_isRawEnd_L28 hX h hW (lv_sub hl [0, 1] rfl)
  · have h := ms_ifp h k
    refine lv_aload_n hx hb dX4_isRawEnd_13 rfl (lv_at hl 0 rfl) ?_
    refine ms_get ff_X4_9 hX hW 0 rfl rfl dX4_isRawEnd_14 ?_
    refine lv_iload_n hx hb dX4_isRawEnd_17 rfl (lv_at hl 1 rfl) ?_
    refine ms_ldcS hX (tx := "</S") (i := 1) (List.mem_of_getElem? (i := 1) rfl) dX4_isRawEnd_18 ?_
    obtain ⟨q20, hq20, h⟩ := ms_bd h
    refine ms_callV (fn_X1_has l G a_source a_source_row x_source_size x_source_overflowed x_source_row v1 1 (by decide) hq20) wm_X1_has wv_X4_107 hX hW [1, 2] rfl rfl rfl rfl rfl ⟨Nat.le_of_ble_eq_true rfl, Nat.le_of_ble_eq_true rfl, rfl, rfl, Nat.zero_le _, Nat.zero_le _⟩ rfl hl.1 [] rfl (Nat.le_of_ble_eq_true rfl) dX4_isRawEnd_20 (fun H locs hW => ?_)
    have hW : ms_W G A s H locs [ob_X4 a_this a_source a_tree a_builder a_tag x_at x_rawDue, ob_X1 a_source a_source_row x_source_size x_source_overflowed, (a_source_row, .inl (G.2.1 0, 200, .inl x_source_row))] := hW
    refine W.eq (g2 := F0 m 23 ls [.int q20]) rfl ?_
    refine lv_if_ne (tgt := 28) hx hb dX4_isRawEnd_23 (by decide) (fun k => ?_) (fun k => ?_)
    · have h := ms_ifn h k
      exact wb_X4_isRawEnd_L28 hX h hW (lv_sub hl [0, 1] rfl)
    · have h := ms_ifp h k
      refine lv_iconst (v := 0) hx hb dX4_isRawEnd_26 (by decide) ?_
      obtain rfl := Option.some.inj h
      exact ms_zret hX (ms_nz (Or.inl rfl)) hW dX4_isRawEnd_27
