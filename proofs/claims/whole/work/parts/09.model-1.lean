def rm_X10_byteOf : Room := { frames := 0, cells := 0, slots := 0, locals := 0 }
def f_X10_byteOf  (v0 : Int64) (v2 : Int32) : Option (Int32) := some (((v0 >>> ((8 * v2).toInt64 &&& 63)) &&& (255 : Int64)).toInt32)
set_option maxHeartbeats 4000000 in
set_option maxRecDepth 100000 in
theorem fn_X10_byteOf (l : Launch) (G : Gc)   (v0 : Int64) (v2 : Int32)  {o : Int32} (h : f_X10_byteOf v0 v2 = some o) : ms_Fn l G yX10_byteOf cX10_byteOf 3 (some .int) rm_X10_byteOf [.long v0, .int v2] [] [] (some (.int o)) := by
  refine ms_start RX10 (by decide +kernel) rfl (Nat.le_of_ble_eq_true rfl) (fun p e s m below meth c A ls hX hW hl => ?_)
  have hx := hX.1.1
  have hb := hX.1.2.1
  have hl : lv_has ls 3 [(0, .long v0), (2, .int v2)] := hl
  unfold f_X10_byteOf at h
  refine lv_lload_n hx hb dX10_byteOf_0 rfl (lv_at hl 0 rfl) ?_
  refine lv_bipush (v := 8) hx hb dX10_byteOf_1 (by decide) ?_
  refine lv_iload_n hx hb dX10_byteOf_3 rfl (lv_at hl 1 rfl) ?_
  refine lv_imul hx hb dX10_byteOf_4 ?_
  refine lv_lshr (v := v0 >>> ((8 * v2).toInt64 &&& 63)) hx hb dX10_byteOf_5 rfl ?_
  refine lv_ldc2 (v := 255) hx hb hX.1.2.2.2.1 (hX.1.2.2.2.2 (Cond.constantLong RX10 90 255) (ms_in 1007 rfl rfl)) dX10_byteOf_6 ?_
  refine lv_land hx hb dX10_byteOf_9 ?_
  refine lv_l2i (v := ((v0 >>> ((8 * v2).toInt64 &&& 63)) &&& (255 : Int64)).toInt32) hx hb dX10_byteOf_10 rfl ?_
  obtain rfl := Option.some.inj h
  exact ms_iret hX hW dX10_byteOf_11
def rm_X10_put : Room := { frames := 1, cells := 0, slots := 0, locals := 22 }
def f_X10_put_L118 (v1 : Int64) (kk : Int32 → (Nat → Int32) → Int32 → Option (Int32 × (Nat → Int32))) (x_inputSize : Int32) (x_input : Nat → Int32) (v4 : Int32) : Option (Int32 × (Nat → Int32)) := kk x_inputSize x_input (v4 + 1)
set_option maxHeartbeats 4000000 in
set_option maxRecDepth 100000 in
theorem wb_X10_put_L118 {p : Program} {l : Launch} {e : Env} {s : State} {m : MethodId} {args : Array Value} {below : List Frame} {meth : Method} {c : Code} {G : Gc} {A : Nat → Prop} {H : Heap} {locs : List Loc} {ls : Array Slot} {a_this : Nat} {rr : Nat → Nat} {x_outputSize : Int32} {x_made : Int32} {x_schemes : Int32} {x_n : Int32} {x_written : Int32} {x_tree : Int32} {x_pos : Int32} {x_raw : Int32} {x_opened : Int32} {x_whole : Int32} {x_name : Int32} {x_code : Int32} {v1 : Int64} {kk : Int32 → (Nat → Int32) → Int32 → Option (Int32 × (Nat → Int32))} {Q : State → Prop} {x_inputSize : Int32} {x_input : Nat → Int32} {v4 : Int32} {o : Int32 × (Nat → Int32)} (hX : ms_CX p s m args meth c cX10_put 6 RX10 (some .boolean) G A) (hq : ∀ (H : Heap) (locs : List Loc) (ls : Array Slot), ms_W G A s H locs [ob_X10 a_this rr o.1 x_outputSize x_made x_schemes x_n x_written x_tree x_pos x_raw x_opened x_whole x_name x_code, (rr 0, .inl (G.2.1 1, 200, .inl o.2))] → lv_has ls 6 [] → W p l e rm_X10_put s m args below meth c H locs 0 0 Q (F0 m 124 ls [])) (ih : ∀ (x_inputSize : Int32) (x_input : Nat → Int32) (v4 : Int32) (H : Heap) (locs : List Loc) (ls : Array Slot), kk x_inputSize x_input v4 = some o → ms_W G A s H locs [ob_X10 a_this rr x_inputSize x_outputSize x_made x_schemes x_n x_written x_tree x_pos x_raw x_opened x_whole x_name x_code, (rr 0, .inl (G.2.1 1, 200, .inl x_input))] → lv_has ls 6 [(0, .ref a_this), (1, .long v1), (4, .int v4)] → W p l e rm_X10_put s m args below meth c H locs 0 0 Q (F0 m 77 ls [])) (h : f_X10_put_L118 v1 kk x_inputSize x_input v4 = some o) (hW : ms_W G A s H locs [ob_X10 a_this rr x_inputSize x_outputSize x_made x_schemes x_n x_written x_tree x_pos x_raw x_opened x_whole x_name x_code, (rr 0, .inl (G.2.1 1, 200, .inl x_input))]) (hl : lv_has ls 6 [(0, .ref a_this), (1, .long v1), (4, .int v4)]) : W p l e rm_X10_put s m args below meth c H locs 0 0 Q (F0 m 118 ls []) := by
  have hx := hX.1.1
  have hb := hX.1.2.1
  unfold f_X10_put_L118 at h
  refine lv_iinc (v := v4 + 1) (lv' := [(4, .int (v4 + 1)), (0, .ref a_this), (1, .long v1)]) hx hb dX10_put_118 hl (k := 2) rfl rfl (by decide) rfl (fun ls hl => ?_)
  refine lv_goto (tgt := 77) hx hb dX10_put_121 (by decide) ?_
  exact ih _ _ _ _ _ _ h hW (lv_sub hl [1, 2, 0] rfl)
def f_X10_put_L77 (v1 : Int64) : Nat → Int32 → (Nat → Int32) → Int32 → Option (Int32 × (Nat → Int32))
  | 0, _, _, _ => none
  | n + 1, x_inputSize, x_input, v4 => (if 8 ≤ v4 then some (x_inputSize, x_input) else (f_X10_byteOf v1 v4).bind (fun q87 => (if q87 = 0 then f_X10_put_L118 v1 (f_X10_put_L77 v1 n) x_inputSize x_input v4 else ms_gi x_inputSize 200 (f_X10_put_L118 v1 (f_X10_put_L77 v1 n) (x_inputSize + 1) (upd x_input x_inputSize.toNatClampNeg q87) v4))))
set_option maxHeartbeats 4000000 in
set_option maxRecDepth 100000 in
theorem wb_X10_put_L77 {p : Program} {l : Launch} {e : Env} {s : State} {m : MethodId} {args : Array Value} {below : List Frame} {meth : Method} {c : Code} {G : Gc} {A : Nat → Prop} {a_this : Nat} {rr : Nat → Nat} {x_outputSize : Int32} {x_made : Int32} {x_schemes : Int32} {x_n : Int32} {x_written : Int32} {x_tree : Int32} {x_pos : Int32} {x_raw : Int32} {x_opened : Int32} {x_whole : Int32} {x_name : Int32} {x_code : Int32} {v1 : Int64} {Q : State → Prop} {o : Int32 × (Nat → Int32)} (hX : ms_CX p s m args meth c cX10_put 6 RX10 (some .boolean) G A) (hq : ∀ (H : Heap) (locs : List Loc) (ls : Array Slot), ms_W G A s H locs [ob_X10 a_this rr o.1 x_outputSize x_made x_schemes x_n x_written x_tree x_pos x_raw x_opened x_whole x_name x_code, (rr 0, .inl (G.2.1 1, 200, .inl o.2))] → lv_has ls 6 [] → W p l e rm_X10_put s m args below meth c H locs 0 0 Q (F0 m 124 ls [])) : ∀ (n : Nat) (x_inputSize : Int32) (x_input : Nat → Int32) (v4 : Int32) (H : Heap) (locs : List Loc) (ls : Array Slot), f_X10_put_L77 v1 n x_inputSize x_input v4 = some o → ms_W G A s H locs [ob_X10 a_this rr x_inputSize x_outputSize x_made x_schemes x_n x_written x_tree x_pos x_raw x_opened x_whole x_name x_code, (rr 0, .inl (G.2.1 1, 200, .inl x_input))] → lv_has ls 6 [(0, .ref a_this), (1, .long v1), (4, .int v4)] → W p l e rm_X10_put s m args below meth c H locs 0 0 Q (F0 m 77 ls []) := by
  have hx := hX.1.1
  have hb := hX.1.2.1
  intro n
  induction n with
  | zero => intro x_inputSize x_input v4 H locs ls h; rw [f_X10_put_L77] at h; cases h
  | succ n ih =>
    intro x_inputSize x_input v4 H locs ls h hW hl
    rw [f_X10_put_L77] at h
    refine lv_iload hx hb dX10_put_77 (lv_at hl 2 rfl) ?_
    refine lv_bipush (v := 8) hx hb dX10_put_79 (by decide) ?_
    refine lv_icmp_ge (tgt := 124) hx hb dX10_put_81 (by decide) (fun k => ?_) (fun k => ?_)
    · have h := ms_ifp h k
      obtain rfl := Option.some.inj h
      exact hq _ _ _ hW (lv_sub hl [] rfl)
    · have h := ms_ifn h k
      refine lv_lload_n hx hb dX10_put_84 rfl (lv_at hl 1 rfl) ?_
      refine lv_iload hx hb dX10_put_85 (lv_at hl 2 rfl) ?_
      obtain ⟨q87, hq87, h⟩ := ms_bd h
      refine ms_callS (fn_X10_byteOf l G v1 v4 hq87) wm_X10_byteOf wz_X10_92 hX hW [] rfl rfl rfl ⟨Nat.le_of_ble_eq_true rfl, Nat.le_of_ble_eq_true rfl, rfl, rfl, Nat.zero_le _, Nat.zero_le _⟩ rfl hl.1 [] rfl (Nat.le_of_ble_eq_true rfl) dX10_put_87 (fun H locs hW => ?_)
      have hW : ms_W G A s H locs [ob_X10 a_this rr x_inputSize x_outputSize x_made x_schemes x_n x_written x_tree x_pos x_raw x_opened x_whole x_name x_code, (rr 0, .inl (G.2.1 1, 200, .inl x_input))] := hW
      refine W.eq (g2 := F0 m 90 ls [.int q87]) rfl ?_
      refine lv_istore (lv' := [(5, .int q87), (0, .ref a_this), (1, .long v1), (4, .int v4)]) hx hb dX10_put_90 hl (by decide) rfl (fun ls hl => ?_)
      refine lv_iload hx hb dX10_put_92 (lv_at hl 0 rfl) ?_
      refine lv_if_eq (tgt := 118) hx hb dX10_put_94 (by decide) (fun k => ?_) (fun k => ?_)
      · have h := ms_ifp h k
        exact wb_X10_put_L118 hX hq (ih) h hW (lv_sub hl [1, 2, 3] rfl)
      · have h := ms_ifn h k
        refine lv_aload_n hx hb dX10_put_97 rfl (lv_at hl 1 rfl) ?_
        refine ms_get ff_X10_7 hX hW 0 rfl rfl dX10_put_98 ?_
        refine lv_aload_n hx hb dX10_put_101 rfl (lv_at hl 1 rfl) ?_
        refine ms_get ff_X10_96 hX hW 0 rfl rfl dX10_put_102 ?_
        refine lv_iload hx hb dX10_put_105 (lv_at hl 0 rfl) ?_
        obtain ⟨k, h⟩ := ms_gi_some h
        refine ms_iast hX hW 1 rfl k dX10_put_107 (fun H locs hW => ?_)
        have hW : ms_W G A s H locs [ob_X10 a_this rr x_inputSize x_outputSize x_made x_schemes x_n x_written x_tree x_pos x_raw x_opened x_whole x_name x_code, (rr 0, .inl (G.2.1 1, 200, .inl (upd x_input x_inputSize.toNatClampNeg q87)))] := hW
        refine lv_aload_n hx hb dX10_put_108 rfl (lv_at hl 1 rfl) ?_
        refine lv_dup hx hb dX10_put_109 rfl ?_
        refine ms_get ff_X10_96 hX hW 0 rfl rfl dX10_put_110 ?_
        refine lv_iconst (v := 1) hx hb dX10_put_113 (by decide) ?_
        refine lv_iadd hx hb dX10_put_114 ?_
        refine ms_put ff_X10_96 fp_X10_0 rfl hX hW 0 rfl rfl rfl (Nat.le_of_ble_eq_true rfl) dX10_put_115 (fun H locs hW => ?_)
        have hW : ms_W G A s H locs [ob_X10 a_this rr (x_inputSize + 1) x_outputSize x_made x_schemes x_n x_written x_tree x_pos x_raw x_opened x_whole x_name x_code, (rr 0, .inl (G.2.1 1, 200, .inl (upd x_input x_inputSize.toNatClampNeg q87)))] := hW
        exact wb_X10_put_L118 hX hq (ih) h hW (lv_sub hl [1, 2, 3] rfl)
def f_X10_put_L52 (v1 : Int64) (kk : Int32 → (Nat → Int32) → Int32 → Int32 → Option (Int32 × (Nat → Int32) × Int32)) (x_inputSize : Int32) (x_input : Nat → Int32) (v4 : Int32) (z0 : Int32) (z1 : Int32) : Option (Int32 × (Nat → Int32) × Int32) := kk x_inputSize x_input (z0 + z1) (v4 + 1)
set_option maxHeartbeats 4000000 in
set_option maxRecDepth 100000 in
theorem wb_X10_put_L52 {p : Program} {l : Launch} {e : Env} {s : State} {m : MethodId} {args : Array Value} {below : List Frame} {meth : Method} {c : Code} {G : Gc} {A : Nat → Prop} {H : Heap} {locs : List Loc} {ls : Array Slot} {a_this : Nat} {rr : Nat → Nat} {x_outputSize : Int32} {x_made : Int32} {x_schemes : Int32} {x_n : Int32} {x_written : Int32} {x_tree : Int32} {x_pos : Int32} {x_raw : Int32} {x_opened : Int32} {x_whole : Int32} {x_name : Int32} {x_code : Int32} {v1 : Int64} {kk : Int32 → (Nat → Int32) → Int32 → Int32 → Option (Int32 × (Nat → Int32) × Int32)} {x_inputSize : Int32} {x_input : Nat → Int32} {v4 : Int32} {z0 : Int32} {z1 : Int32} {o : Int32 × (Nat → Int32) × Int32} (hX : ms_CX p s m args meth c cX10_put 6 RX10 (some .boolean) G A)  (ih : ∀ (x_inputSize : Int32) (x_input : Nat → Int32) (v3 : Int32) (v4 : Int32) (H : Heap) (locs : List Loc) (ls : Array Slot), kk x_inputSize x_input v3 v4 = some o → ms_W G A s H locs [ob_X10 a_this rr x_inputSize x_outputSize x_made x_schemes x_n x_written x_tree x_pos x_raw x_opened x_whole x_name x_code, (rr 0, .inl (G.2.1 1, 200, .inl x_input))] → lv_has ls 6 [(0, .ref a_this), (1, .long v1), (3, .int v3), (4, .int v4)] → W p l e rm_X10_put s m args below meth c H locs 0 0 (ms_Q G A below args s [ob_X10 a_this rr o.1 x_outputSize x_made x_schemes x_n x_written x_tree x_pos x_raw x_opened x_whole x_name x_code, (rr 0, .inl (G.2.1 1, 200, .inl o.2.1))] (some (.int o.2.2))) (F0 m 5 ls [])) (h : f_X10_put_L52 v1 kk x_inputSize x_input v4 z0 z1 = some o) (hW : ms_W G A s H locs [ob_X10 a_this rr x_inputSize x_outputSize x_made x_schemes x_n x_written x_tree x_pos x_raw x_opened x_whole x_name x_code, (rr 0, .inl (G.2.1 1, 200, .inl x_input))]) (hl : lv_has ls 6 [(0, .ref a_this), (1, .long v1), (4, .int v4)]) : W p l e rm_X10_put s m args below meth c H locs 0 0 (ms_Q G A below args s [ob_X10 a_this rr o.1 x_outputSize x_made x_schemes x_n x_written x_tree x_pos x_raw x_opened x_whole x_name x_code, (rr 0, .inl (G.2.1 1, 200, .inl o.2.1))] (some (.int o.2.2))) (F0 m 52 ls [.int z1, .int z0]) := by
  have hx := hX.1.1
  have hb := hX.1.2.1
  unfold f_X10_put_L52 at h
  refine lv_iadd hx hb dX10_put_52 ?_
  refine lv_istore_n (lv' := [(3, .int (z0 + z1)), (0, .ref a_this), (1, .long v1), (4, .int v4)]) hx hb dX10_put_53 rfl hl (by decide) rfl (fun ls hl => ?_)
  refine lv_iinc (v := v4 + 1) (lv' := [(4, .int (v4 + 1)), (3, .int (z0 + z1)), (0, .ref a_this), (1, .long v1)]) hx hb dX10_put_54 hl (k := 3) rfl rfl (by decide) rfl (fun ls hl => ?_)
  refine lv_goto (tgt := 5) hx hb dX10_put_57 (by decide) ?_
  exact ih _ _ _ _ _ _ _ h hW (lv_sub hl [2, 3, 1, 0] rfl)
def f_X10_put_L41 (v1 : Int64) (kk : Int32 → (Nat → Int32) → Int32 → Int32 → Option (Int32 × (Nat → Int32) × Int32)) (x_inputSize : Int32) (x_input : Nat → Int32) (v3 : Int32) (v4 : Int32) (v5 : Int32) : Option (Int32 × (Nat → Int32) × Int32) := (if v5 = 0 then f_X10_put_L52 v1 (kk) x_inputSize x_input v4 v3 0 else f_X10_put_L52 v1 (kk) x_inputSize x_input v4 v3 1)
set_option maxHeartbeats 4000000 in
set_option maxRecDepth 100000 in
theorem wb_X10_put_L41 {p : Program} {l : Launch} {e : Env} {s : State} {m : MethodId} {args : Array Value} {below : List Frame} {meth : Method} {c : Code} {G : Gc} {A : Nat → Prop} {H : Heap} {locs : List Loc} {ls : Array Slot} {a_this : Nat} {rr : Nat → Nat} {x_outputSize : Int32} {x_made : Int32} {x_schemes : Int32} {x_n : Int32} {x_written : Int32} {x_tree : Int32} {x_pos : Int32} {x_raw : Int32} {x_opened : Int32} {x_whole : Int32} {x_name : Int32} {x_code : Int32} {v1 : Int64} {kk : Int32 → (Nat → Int32) → Int32 → Int32 → Option (Int32 × (Nat → Int32) × Int32)} {x_inputSize : Int32} {x_input : Nat → Int32} {v3 : Int32} {v4 : Int32} {v5 : Int32} {o : Int32 × (Nat → Int32) × Int32} (hX : ms_CX p s m args meth c cX10_put 6 RX10 (some .boolean) G A)  (ih : ∀ (x_inputSize : Int32) (x_input : Nat → Int32) (v3 : Int32) (v4 : Int32) (H : Heap) (locs : List Loc) (ls : Array Slot), kk x_inputSize x_input v3 v4 = some o → ms_W G A s H locs [ob_X10 a_this rr x_inputSize x_outputSize x_made x_schemes x_n x_written x_tree x_pos x_raw x_opened x_whole x_name x_code, (rr 0, .inl (G.2.1 1, 200, .inl x_input))] → lv_has ls 6 [(0, .ref a_this), (1, .long v1), (3, .int v3), (4, .int v4)] → W p l e rm_X10_put s m args below meth c H locs 0 0 (ms_Q G A below args s [ob_X10 a_this rr o.1 x_outputSize x_made x_schemes x_n x_written x_tree x_pos x_raw x_opened x_whole x_name x_code, (rr 0, .inl (G.2.1 1, 200, .inl o.2.1))] (some (.int o.2.2))) (F0 m 5 ls [])) (h : f_X10_put_L41 v1 kk x_inputSize x_input v3 v4 v5 = some o) (hW : ms_W G A s H locs [ob_X10 a_this rr x_inputSize x_outputSize x_made x_schemes x_n x_written x_tree x_pos x_raw x_opened x_whole x_name x_code, (rr 0, .inl (G.2.1 1, 200, .inl x_input))]) (hl : lv_has ls 6 [(0, .ref a_this), (1, .long v1), (3, .int v3), (4, .int v4), (5, .int v5)]) : W p l e rm_X10_put s m args below meth c H locs 0 0 (ms_Q G A below args s [ob_X10 a_this rr o.1 x_outputSize x_made x_schemes x_n x_written x_tree x_pos x_raw x_opened x_whole x_name x_code, (rr 0, .inl (G.2.1 1, 200, .inl o.2.1))] (some (.int o.2.2))) (F0 m 41 ls []) := by
  have hx := hX.1.1
  have hb := hX.1.2.1
  unfold f_X10_put_L41 at h
  refine lv_iload_n hx hb dX10_put_41 rfl (lv_at hl 2 rfl) ?_
  refine lv_iload hx hb dX10_put_42 (lv_at hl 4 rfl) ?_
  refine lv_if_ne (tgt := 51) hx hb dX10_put_44 (by decide) (fun k => ?_) (fun k => ?_)
  · have h := ms_ifn h k
    refine lv_iconst (v := 1) hx hb dX10_put_51 (by decide) ?_
    exact wb_X10_put_L52 hX (ih) h hW (lv_sub hl [0, 1, 3] rfl)
  · have h := ms_ifp h k
    refine lv_iconst (v := 0) hx hb dX10_put_47 (by decide) ?_
    refine lv_goto (tgt := 52) hx hb dX10_put_48 (by decide) ?_
    exact wb_X10_put_L52 hX (ih) h hW (lv_sub hl [0, 1, 3] rfl)
def f_X10_put_L5 (v1 : Int64) : Nat → Int32 → (Nat → Int32) → Int32 → Int32 → Option (Int32 × (Nat → Int32) × Int32)
  | 0, _, _, _, _ => none
  | n + 1, x_inputSize, x_input, v3, v4 => (if 8 ≤ v4 then (if (x_inputSize + v3) ≤ 200 then (f_X10_put_L77 v1 1000 x_inputSize x_input 0).bind (fun w77 => some (w77.1, w77.2, 1)) else some (x_inputSize, x_input, 0)) else (f_X10_byteOf v1 v4).bind (fun q15 => (if q15 = 0 then f_X10_put_L41 v1 (f_X10_put_L5 v1 n) x_inputSize x_input v3 v4 q15 else (if q15 < 32 then some (x_inputSize, x_input, 0) else (if q15 ≤ 126 then f_X10_put_L41 v1 (f_X10_put_L5 v1 n) x_inputSize x_input v3 v4 q15 else some (x_inputSize, x_input, 0))))))
set_option maxHeartbeats 4000000 in
set_option maxRecDepth 100000 in
theorem wb_X10_put_L5 {p : Program} {l : Launch} {e : Env} {s : State} {m : MethodId} {args : Array Value} {below : List Frame} {meth : Method} {c : Code} {G : Gc} {A : Nat → Prop} {a_this : Nat} {rr : Nat → Nat} {x_outputSize : Int32} {x_made : Int32} {x_schemes : Int32} {x_n : Int32} {x_written : Int32} {x_tree : Int32} {x_pos : Int32} {x_raw : Int32} {x_opened : Int32} {x_whole : Int32} {x_name : Int32} {x_code : Int32} {v1 : Int64} {o : Int32 × (Nat → Int32) × Int32} (hX : ms_CX p s m args meth c cX10_put 6 RX10 (some .boolean) G A)  : ∀ (n : Nat) (x_inputSize : Int32) (x_input : Nat → Int32) (v3 : Int32) (v4 : Int32) (H : Heap) (locs : List Loc) (ls : Array Slot), f_X10_put_L5 v1 n x_inputSize x_input v3 v4 = some o → ms_W G A s H locs [ob_X10 a_this rr x_inputSize x_outputSize x_made x_schemes x_n x_written x_tree x_pos x_raw x_opened x_whole x_name x_code, (rr 0, .inl (G.2.1 1, 200, .inl x_input))] → lv_has ls 6 [(0, .ref a_this), (1, .long v1), (3, .int v3), (4, .int v4)] → W p l e rm_X10_put s m args below meth c H locs 0 0 (ms_Q G A below args s [ob_X10 a_this rr o.1 x_outputSize x_made x_schemes x_n x_written x_tree x_pos x_raw x_opened x_whole x_name x_code, (rr 0, .inl (G.2.1 1, 200, .inl o.2.1))] (some (.int o.2.2))) (F0 m 5 ls []) := by
  have hx := hX.1.1
  have hb := hX.1.2.1
  intro n
  induction n with
  | zero => intro x_inputSize x_input v3 v4 H locs ls h; rw [f_X10_put_L5] at h; cases h
  | succ n ih =>
    intro x_inputSize x_input v3 v4 H locs ls h hW hl
    rw [f_X10_put_L5] at h
    refine lv_iload hx hb dX10_put_5 (lv_at hl 3 rfl) ?_
    refine lv_bipush (v := 8) hx hb dX10_put_7 (by decide) ?_
    refine lv_icmp_ge (tgt := 60) hx hb dX10_put_9 (by decide) (fun k => ?_) (fun k => ?_)
    · have h := ms_ifp h k
      refine lv_aload_n hx hb dX10_put_60 rfl (lv_at hl 0 rfl) ?_
      refine ms_get ff_X10_96 hX hW 0 rfl rfl dX10_put_61 ?_
      refine lv_iload_n hx hb dX10_put_64 rfl (lv_at hl 2 rfl) ?_
      refine lv_iadd hx hb dX10_put_65 ?_
      refine lv_sipush (v := 200) hx hb dX10_put_66 (by decide) ?_
      refine lv_icmp_le (tgt := 74) hx hb dX10_put_69 (by decide) (fun k => ?_) (fun k => ?_)
      · have h := ms_ifp h k
        refine lv_iconst (v := 0) hx hb dX10_put_74 (by decide) ?_
        refine lv_istore (lv' := [(4, .int 0), (0, .ref a_this), (1, .long v1), (3, .int v3)]) hx hb dX10_put_75 hl (by decide) rfl (fun ls hl => ?_)
        obtain ⟨w77, hqw77, h⟩ := ms_bd h
        refine wb_X10_put_L77 hX (o := w77) (fun H locs ls hW hl => ?_) _ _ _ _ _ _ _ hqw77 hW (lv_sub hl [1, 2, 0] rfl)
        refine lv_iconst (v := 1) hx hb dX10_put_124 (by decide) ?_
        obtain rfl := Option.some.inj h
        exact ms_zret hX (ms_nz (Or.inr rfl)) hW dX10_put_125
      · have h := ms_ifn h k
        refine lv_iconst (v := 0) hx hb dX10_put_72 (by decide) ?_
        obtain rfl := Option.some.inj h
        exact ms_zret hX (ms_nz (Or.inl rfl)) hW dX10_put_73
    · have h := ms_ifn h k
      refine lv_lload_n hx hb dX10_put_12 rfl (lv_at hl 1 rfl) ?_
      refine lv_iload hx hb dX10_put_13 (lv_at hl 3 rfl) ?_
      obtain ⟨q15, hq15, h⟩ := ms_bd h
      refine ms_callS (fn_X10_byteOf l G v1 v4 hq15) wm_X10_byteOf wz_X10_92 hX hW [] rfl rfl rfl ⟨Nat.le_of_ble_eq_true rfl, Nat.le_of_ble_eq_true rfl, rfl, rfl, Nat.zero_le _, Nat.zero_le _⟩ rfl hl.1 [] rfl (Nat.le_of_ble_eq_true rfl) dX10_put_15 (fun H locs hW => ?_)
      have hW : ms_W G A s H locs [ob_X10 a_this rr x_inputSize x_outputSize x_made x_schemes x_n x_written x_tree x_pos x_raw x_opened x_whole x_name x_code, (rr 0, .inl (G.2.1 1, 200, .inl x_input))] := hW
      refine W.eq (g2 := F0 m 18 ls [.int q15]) rfl ?_
      refine lv_istore (lv' := [(5, .int q15), (0, .ref a_this), (1, .long v1), (3, .int v3), (4, .int v4)]) hx hb dX10_put_18 hl (by decide) rfl (fun ls hl => ?_)
      refine lv_iload hx hb dX10_put_20 (lv_at hl 0 rfl) ?_
      refine lv_if_eq (tgt := 41) hx hb dX10_put_22 (by decide) (fun k => ?_) (fun k => ?_)
      · have h := ms_ifp h k
        exact wb_X10_put_L41 hX (ih) h hW (lv_sub hl [1, 2, 3, 4, 0] rfl)
      · have h := ms_ifn h k
        refine lv_iload hx hb dX10_put_25 (lv_at hl 0 rfl) ?_
        refine lv_bipush (v := 32) hx hb dX10_put_27 (by decide) ?_
        refine lv_icmp_lt (tgt := 39) hx hb dX10_put_29 (by decide) (fun k => ?_) (fun k => ?_)
        · have h := ms_ifp h k
          refine lv_iconst (v := 0) hx hb dX10_put_39 (by decide) ?_
          obtain rfl := Option.some.inj h
          exact ms_zret hX (ms_nz (Or.inl rfl)) hW dX10_put_40
        · have h := ms_ifn h k
          refine lv_iload hx hb dX10_put_32 (lv_at hl 0 rfl) ?_
          refine lv_bipush (v := 126) hx hb dX10_put_34 (by decide) ?_
          refine lv_icmp_le (tgt := 41) hx hb dX10_put_36 (by decide) (fun k => ?_) (fun k => ?_)
          · have h := ms_ifp h k
            exact wb_X10_put_L41 hX (ih) h hW (lv_sub hl [1, 2, 3, 4, 0] rfl)
          · have h := ms_ifn h k
            refine lv_iconst (v := 0) hx hb dX10_put_39 (by decide) ?_
            obtain rfl := Option.some.inj h
            exact ms_zret hX (ms_nz (Or.inl rfl)) hW dX10_put_40
def f_X10_put (x_inputSize : Int32) (x_input : Nat → Int32) (v1 : Int64) : Option (Int32 × (Nat → Int32) × Int32) := f_X10_put_L5 v1 1000 x_inputSize x_input 0 0
set_option maxHeartbeats 4000000 in
set_option maxRecDepth 100000 in
theorem fn_X10_put (l : Launch) (G : Gc) (a_this : Nat) (rr : Nat → Nat) (x_inputSize : Int32) (x_outputSize : Int32) (x_made : Int32) (x_schemes : Int32) (x_n : Int32) (x_written : Int32) (x_tree : Int32) (x_pos : Int32) (x_raw : Int32) (x_opened : Int32) (x_whole : Int32) (x_name : Int32) (x_code : Int32) (x_input : Nat → Int32) (v1 : Int64)  {o : Int32 × (Nat → Int32) × Int32} (h : f_X10_put x_inputSize x_input v1 = some o) : ms_Fn l G yX10_put cX10_put 6 (some .boolean) rm_X10_put [.ref a_this, .long v1] [ob_X10 a_this rr x_inputSize x_outputSize x_made x_schemes x_n x_written x_tree x_pos x_raw x_opened x_whole x_name x_code, (rr 0, .inl (G.2.1 1, 200, .inl x_input))] [ob_X10 a_this rr o.1 x_outputSize x_made x_schemes x_n x_written x_tree x_pos x_raw x_opened x_whole x_name x_code, (rr 0, .inl (G.2.1 1, 200, .inl o.2.1))] (some (.int o.2.2)) := by
  refine ms_start RX10 (by decide +kernel) rfl (Nat.le_of_ble_eq_true rfl) (fun p e s m below meth c A ls hX hW hl => ?_)
  have hx := hX.1.1
  have hb := hX.1.2.1
  have hl : lv_has ls 6 [(0, .ref a_this), (1, .long v1)] := hl
  unfold f_X10_put at h
  refine lv_iconst (v := 0) hx hb dX10_put_0 (by decide) ?_
  refine lv_istore_n (lv' := [(3, .int 0), (0, .ref a_this), (1, .long v1)]) hx hb dX10_put_1 rfl hl (by decide) rfl (fun ls hl => ?_)
  refine lv_iconst (v := 0) hx hb dX10_put_2 (by decide) ?_
  refine lv_istore (lv' := [(4, .int 0), (3, .int 0), (0, .ref a_this), (1, .long v1)]) hx hb dX10_put_3 hl (by decide) rfl (fun ls hl => ?_)
  exact wb_X10_put_L5 hX _ _ _ _ _ _ _ _ h hW (lv_sub hl [2, 3, 1, 0] rfl)
def rm_X10_wipe : Room := { frames := 0, cells := 0, slots := 0, locals := 0 }
def f_X10_wipe (x_inputSize : Int32)  : Option (Int32) := some 0
set_option maxHeartbeats 4000000 in
set_option maxRecDepth 100000 in
theorem fn_X10_wipe (l : Launch) (G : Gc) (a_this : Nat) (rr : Nat → Nat) (x_inputSize : Int32) (x_outputSize : Int32) (x_made : Int32) (x_schemes : Int32) (x_n : Int32) (x_written : Int32) (x_tree : Int32) (x_pos : Int32) (x_raw : Int32) (x_opened : Int32) (x_whole : Int32) (x_name : Int32) (x_code : Int32)   {o : Int32} (h : f_X10_wipe x_inputSize = some o) : ms_Fn l G yX10_wipe cX10_wipe 1 none rm_X10_wipe [.ref a_this] [ob_X10 a_this rr x_inputSize x_outputSize x_made x_schemes x_n x_written x_tree x_pos x_raw x_opened x_whole x_name x_code] [ob_X10 a_this rr o x_outputSize x_made x_schemes x_n x_written x_tree x_pos x_raw x_opened x_whole x_name x_code] none := by
  refine ms_start RX10 (by decide +kernel) rfl (Nat.le_of_ble_eq_true rfl) (fun p e s m below meth c A ls hX hW hl => ?_)
  have hx := hX.1.1
  have hb := hX.1.2.1
  have hl : lv_has ls 1 [(0, .ref a_this)] := hl
  unfold f_X10_wipe at h
  refine lv_aload_n hx hb dX10_wipe_0 rfl (lv_at hl 0 rfl) ?_
  refine lv_iconst (v := 0) hx hb dX10_wipe_1 (by decide) ?_
  refine ms_put ff_X10_96 fp_X10_0 rfl hX hW 0 rfl rfl rfl (Nat.le_of_ble_eq_true rfl) dX10_wipe_2 (fun H locs hW => ?_)
  have hW : ms_W G A s H locs [ob_X10 a_this rr 0 x_outputSize x_made x_schemes x_n x_written x_tree x_pos x_raw x_opened x_whole x_name x_code] := hW
  obtain rfl := Option.some.inj h
  exact ms_vret hX hW dX10_wipe_5
def rm_X10_action : Room := { frames := 0, cells := 0, slots := 0, locals := 0 }
def f_X10_action_L31 (v1 : Int32) (v2 : Int32) (x_actions : Nat → Int32) : Option ((Nat → Int32) × Int32) := ms_gi v1 26 (some (upd x_actions v1.toNatClampNeg v2, 1))
set_option maxHeartbeats 4000000 in
set_option maxRecDepth 100000 in
theorem wb_X10_action_L31 {p : Program} {l : Launch} {e : Env} {s : State} {m : MethodId} {args : Array Value} {below : List Frame} {meth : Method} {c : Code} {G : Gc} {A : Nat → Prop} {H : Heap} {locs : List Loc} {ls : Array Slot} {a_this : Nat} {rr : Nat → Nat} {x_inputSize : Int32} {x_outputSize : Int32} {x_made : Int32} {x_schemes : Int32} {x_n : Int32} {x_written : Int32} {x_tree : Int32} {x_pos : Int32} {x_raw : Int32} {x_opened : Int32} {x_whole : Int32} {x_name : Int32} {x_code : Int32} {v1 : Int32} {v2 : Int32} {x_actions : Nat → Int32} {o : (Nat → Int32) × Int32} (hX : ms_CX p s m args meth c cX10_action 3 RX10 (some .boolean) G A)   (h : f_X10_action_L31 v1 v2 x_actions = some o) (hW : ms_W G A s H locs [ob_X10 a_this rr x_inputSize x_outputSize x_made x_schemes x_n x_written x_tree x_pos x_raw x_opened x_whole x_name x_code, (rr 2, .inl (G.2.1 1, 26, .inl x_actions))]) (hl : lv_has ls 3 [(0, .ref a_this), (1, .int v1), (2, .int v2)]) : W p l e rm_X10_action s m args below meth c H locs 0 0 (ms_Q G A below args s [ob_X10 a_this rr x_inputSize x_outputSize x_made x_schemes x_n x_written x_tree x_pos x_raw x_opened x_whole x_name x_code, (rr 2, .inl (G.2.1 1, 26, .inl o.1))] (some (.int o.2))) (F0 m 31 ls []) := by
  have hx := hX.1.1
  have hb := hX.1.2.1
  unfold f_X10_action_L31 at h
  refine lv_aload_n hx hb dX10_action_31 rfl (lv_at hl 0 rfl) ?_
  refine ms_get ff_X10_16 hX hW 0 rfl rfl dX10_action_32 ?_
  refine lv_iload_n hx hb dX10_action_35 rfl (lv_at hl 1 rfl) ?_
  refine lv_iload_n hx hb dX10_action_36 rfl (lv_at hl 2 rfl) ?_
  obtain ⟨k, h⟩ := ms_gi_some h
  refine ms_iast hX hW 1 rfl k dX10_action_37 (fun H locs hW => ?_)
  have hW : ms_W G A s H locs [ob_X10 a_this rr x_inputSize x_outputSize x_made x_schemes x_n x_written x_tree x_pos x_raw x_opened x_whole x_name x_code, (rr 2, .inl (G.2.1 1, 26, .inl (upd x_actions v1.toNatClampNeg v2)))] := hW
  refine lv_iconst (v := 1) hx hb dX10_action_38 (by decide) ?_
  obtain rfl := Option.some.inj h
  exact ms_zret hX (ms_nz (Or.inr rfl)) hW dX10_action_39
def f_X10_action (x_actions : Nat → Int32) (v1 : Int32) (v2 : Int32) : Option ((Nat → Int32) × Int32) := (if v1 < 0 then some (x_actions, 0) else (if 25 < v1 then some (x_actions, 0) else (if v2 < 0 then some (x_actions, 0) else (if 2 < v2 then some (x_actions, 0) else (if v1 = 18 then (if v2 = 0 then some (x_actions, 0) else f_X10_action_L31 v1 v2 x_actions) else f_X10_action_L31 v1 v2 x_actions)))))
set_option maxHeartbeats 4000000 in
set_option maxRecDepth 100000 in
theorem fn_X10_action (l : Launch) (G : Gc) (a_this : Nat) (rr : Nat → Nat) (x_inputSize : Int32) (x_outputSize : Int32) (x_made : Int32) (x_schemes : Int32) (x_n : Int32) (x_written : Int32) (x_tree : Int32) (x_pos : Int32) (x_raw : Int32) (x_opened : Int32) (x_whole : Int32) (x_name : Int32) (x_code : Int32) (x_actions : Nat → Int32) (v1 : Int32) (v2 : Int32)  {o : (Nat → Int32) × Int32} (h : f_X10_action x_actions v1 v2 = some o) : ms_Fn l G yX10_action cX10_action 3 (some .boolean) rm_X10_action [.ref a_this, .int v1, .int v2] [ob_X10 a_this rr x_inputSize x_outputSize x_made x_schemes x_n x_written x_tree x_pos x_raw x_opened x_whole x_name x_code, (rr 2, .inl (G.2.1 1, 26, .inl x_actions))] [ob_X10 a_this rr x_inputSize x_outputSize x_made x_schemes x_n x_written x_tree x_pos x_raw x_opened x_whole x_name x_code, (rr 2, .inl (G.2.1 1, 26, .inl o.1))] (some (.int o.2)) := by
  refine ms_start RX10 (by decide +kernel) rfl (Nat.le_of_ble_eq_true rfl) (fun p e s m below meth c A ls hX hW hl => ?_)
  have hx := hX.1.1
  have hb := hX.1.2.1
  have hl : lv_has ls 3 [(0, .ref a_this), (1, .int v1), (2, .int v2)] := hl
  unfold f_X10_action at h
  refine lv_iload_n hx hb dX10_action_0 rfl (lv_at hl 1 rfl) ?_
  refine lv_if_lt (tgt := 29) hx hb dX10_action_1 (by decide) (fun k => ?_) (fun k => ?_)
  · have h := ms_ifp h k
    refine lv_iconst (v := 0) hx hb dX10_action_29 (by decide) ?_
    obtain rfl := Option.some.inj h
    exact ms_zret hX (ms_nz (Or.inl rfl)) hW dX10_action_30
  · have h := ms_ifn h k
    refine lv_iload_n hx hb dX10_action_4 rfl (lv_at hl 1 rfl) ?_
    refine lv_bipush (v := 25) hx hb dX10_action_5 (by decide) ?_
    refine lv_icmp_gt (tgt := 29) hx hb dX10_action_7 (by decide) (fun k => ?_) (fun k => ?_)
    · have h := ms_ifp h k
      refine lv_iconst (v := 0) hx hb dX10_action_29 (by decide) ?_
      obtain rfl := Option.some.inj h
      exact ms_zret hX (ms_nz (Or.inl rfl)) hW dX10_action_30
    · have h := ms_ifn h k
      refine lv_iload_n hx hb dX10_action_10 rfl (lv_at hl 2 rfl) ?_
      refine lv_if_lt (tgt := 29) hx hb dX10_action_11 (by decide) (fun k => ?_) (fun k => ?_)
      · have h := ms_ifp h k
        refine lv_iconst (v := 0) hx hb dX10_action_29 (by decide) ?_
        obtain rfl := Option.some.inj h
        exact ms_zret hX (ms_nz (Or.inl rfl)) hW dX10_action_30
      · have h := ms_ifn h k
        refine lv_iload_n hx hb dX10_action_14 rfl (lv_at hl 2 rfl) ?_
        refine lv_iconst (v := 2) hx hb dX10_action_15 (by decide) ?_
        refine lv_icmp_gt (tgt := 29) hx hb dX10_action_16 (by decide) (fun k => ?_) (fun k => ?_)
        · have h := ms_ifp h k
          refine lv_iconst (v := 0) hx hb dX10_action_29 (by decide) ?_
          obtain rfl := Option.some.inj h
          exact ms_zret hX (ms_nz (Or.inl rfl)) hW dX10_action_30
        · have h := ms_ifn h k
          refine lv_iload_n hx hb dX10_action_19 rfl (lv_at hl 1 rfl) ?_
          refine lv_bipush (v := 18) hx hb dX10_action_20 (by decide) ?_
          refine lv_icmp_ne (tgt := 31) hx hb dX10_action_22 (by decide) (fun k => ?_) (fun k => ?_)
          · have h := ms_ifn h k
            exact wb_X10_action_L31 hX h hW (lv_sub hl [0, 1, 2] rfl)
          · have h := ms_ifp h k
            refine lv_iload_n hx hb dX10_action_25 rfl (lv_at hl 2 rfl) ?_
            refine lv_if_ne (tgt := 31) hx hb dX10_action_26 (by decide) (fun k => ?_) (fun k => ?_)
            · have h := ms_ifn h k
              exact wb_X10_action_L31 hX h hW (lv_sub hl [0, 1, 2] rfl)
            · have h := ms_ifp h k
              refine lv_iconst (v := 0) hx hb dX10_action_29 (by decide) ?_
              obtain rfl := Option.some.inj h
              exact ms_zret hX (ms_nz (Or.inl rfl)) hW dX10_action_30
def rm_X10_attribute : Room := { frames := 0, cells := 0, slots := 0, locals := 0 }
def f_X10_attribute_L43 (v1 : Int32) (v2 : Int32) (v3 : Int32) (x_allowed : Nat → Int32) (z0 : Int32) : Option ((Nat → Int32) × Int32) := ms_gi ((26 * z0) + v2) 702 (some (upd x_allowed ((26 * z0) + v2).toNatClampNeg (vp_nar .boolean v3), 1))
set_option maxHeartbeats 4000000 in
set_option maxRecDepth 100000 in
theorem wb_X10_attribute_L43 {p : Program} {l : Launch} {e : Env} {s : State} {m : MethodId} {args : Array Value} {below : List Frame} {meth : Method} {c : Code} {G : Gc} {A : Nat → Prop} {H : Heap} {locs : List Loc} {ls : Array Slot} {a_this : Nat} {rr : Nat → Nat} {x_inputSize : Int32} {x_outputSize : Int32} {x_made : Int32} {x_schemes : Int32} {x_n : Int32} {x_written : Int32} {x_tree : Int32} {x_pos : Int32} {x_raw : Int32} {x_opened : Int32} {x_whole : Int32} {x_name : Int32} {x_code : Int32} {v1 : Int32} {v2 : Int32} {v3 : Int32} {x_allowed : Nat → Int32} {z0 : Int32} {o : (Nat → Int32) × Int32} (hX : ms_CX p s m args meth c cX10_attribute 5 RX10 (some .boolean) G A)   (h : f_X10_attribute_L43 v1 v2 v3 x_allowed z0 = some o) (hW : ms_W G A s H locs [ob_X10 a_this rr x_inputSize x_outputSize x_made x_schemes x_n x_written x_tree x_pos x_raw x_opened x_whole x_name x_code, (rr 3, .inl (G.2.1 3, 702, .inl x_allowed))]) (hl : lv_has ls 5 [(0, .ref a_this), (2, .int v2), (3, .int v3)]) : W p l e rm_X10_attribute s m args below meth c H locs 0 0 (ms_Q G A below args s [ob_X10 a_this rr x_inputSize x_outputSize x_made x_schemes x_n x_written x_tree x_pos x_raw x_opened x_whole x_name x_code, (rr 3, .inl (G.2.1 3, 702, .inl o.1))] (some (.int o.2))) (F0 m 43 ls [.int z0]) := by
  have hx := hX.1.1
  have hb := hX.1.2.1
  unfold f_X10_attribute_L43 at h
  refine lv_istore (lv' := [(4, .int z0), (0, .ref a_this), (2, .int v2), (3, .int v3)]) hx hb dX10_attribute_43 hl (by decide) rfl (fun ls hl => ?_)
  refine lv_aload_n hx hb dX10_attribute_45 rfl (lv_at hl 1 rfl) ?_
  refine ms_get ff_X10_19 hX hW 0 rfl rfl dX10_attribute_46 ?_
  refine lv_bipush (v := 26) hx hb dX10_attribute_49 (by decide) ?_
  refine lv_iload hx hb dX10_attribute_51 (lv_at hl 0 rfl) ?_
  refine lv_imul hx hb dX10_attribute_53 ?_
  refine lv_iload_n hx hb dX10_attribute_54 rfl (lv_at hl 2 rfl) ?_
  refine lv_iadd hx hb dX10_attribute_55 ?_
  refine lv_iload_n hx hb dX10_attribute_56 rfl (lv_at hl 3 rfl) ?_
  obtain ⟨k, h⟩ := ms_gi_some h
  refine ms_zast hX hW 1 rfl k dX10_attribute_57 (fun H locs hW => ?_)
  have hW : ms_W G A s H locs [ob_X10 a_this rr x_inputSize x_outputSize x_made x_schemes x_n x_written x_tree x_pos x_raw x_opened x_whole x_name x_code, (rr 3, .inl (G.2.1 3, 702, .inl (upd x_allowed ((26 * z0) + v2).toNatClampNeg (vp_nar .boolean v3))))] := hW
  refine lv_iconst (v := 1) hx hb dX10_attribute_58 (by decide) ?_
  obtain rfl := Option.some.inj h
  exact ms_zret hX (ms_nz (Or.inr rfl)) hW dX10_attribute_59
def f_X10_attribute_L33 (v1 : Int32) (v2 : Int32) (v3 : Int32) (x_allowed : Nat → Int32) : Option ((Nat → Int32) × Int32) := (if 0 ≤ v1 then f_X10_attribute_L43 v1 v2 v3 x_allowed v1 else f_X10_attribute_L43 v1 v2 v3 x_allowed 26)
set_option maxHeartbeats 4000000 in
set_option maxRecDepth 100000 in
theorem wb_X10_attribute_L33 {p : Program} {l : Launch} {e : Env} {s : State} {m : MethodId} {args : Array Value} {below : List Frame} {meth : Method} {c : Code} {G : Gc} {A : Nat → Prop} {H : Heap} {locs : List Loc} {ls : Array Slot} {a_this : Nat} {rr : Nat → Nat} {x_inputSize : Int32} {x_outputSize : Int32} {x_made : Int32} {x_schemes : Int32} {x_n : Int32} {x_written : Int32} {x_tree : Int32} {x_pos : Int32} {x_raw : Int32} {x_opened : Int32} {x_whole : Int32} {x_name : Int32} {x_code : Int32} {v1 : Int32} {v2 : Int32} {v3 : Int32} {x_allowed : Nat → Int32} {o : (Nat → Int32) × Int32} (hX : ms_CX p s m args meth c cX10_attribute 5 RX10 (some .boolean) G A)   (h : f_X10_attribute_L33 v1 v2 v3 x_allowed = some o) (hW : ms_W G A s H locs [ob_X10 a_this rr x_inputSize x_outputSize x_made x_schemes x_n x_written x_tree x_pos x_raw x_opened x_whole x_name x_code, (rr 3, .inl (G.2.1 3, 702, .inl x_allowed))]) (hl : lv_has ls 5 [(0, .ref a_this), (1, .int v1), (2, .int v2), (3, .int v3)]) : W p l e rm_X10_attribute s m args below meth c H locs 0 0 (ms_Q G A below args s [ob_X10 a_this rr x_inputSize x_outputSize x_made x_schemes x_n x_written x_tree x_pos x_raw x_opened x_whole x_name x_code, (rr 3, .inl (G.2.1 3, 702, .inl o.1))] (some (.int o.2))) (F0 m 33 ls []) := by
  have hx := hX.1.1
  have hb := hX.1.2.1
  unfold f_X10_attribute_L33 at h
  refine lv_iload_n hx hb dX10_attribute_33 rfl (lv_at hl 1 rfl) ?_
  refine lv_if_ge (tgt := 42) hx hb dX10_attribute_34 (by decide) (fun k => ?_) (fun k => ?_)
  · have h := ms_ifp h k
    refine lv_iload_n hx hb dX10_attribute_42 rfl (lv_at hl 1 rfl) ?_
    exact wb_X10_attribute_L43 hX h hW (lv_sub hl [0, 2, 3] rfl)
  · have h := ms_ifn h k
    refine lv_bipush (v := 26) hx hb dX10_attribute_37 (by decide) ?_
    refine lv_goto (tgt := 43) hx hb dX10_attribute_39 (by decide) ?_
    exact wb_X10_attribute_L43 hX h hW (lv_sub hl [0, 2, 3] rfl)
def f_X10_attribute (x_allowed : Nat → Int32) (v1 : Int32) (v2 : Int32) (v3 : Int32) : Option ((Nat → Int32) × Int32) := (if v1 < (-1) then some (x_allowed, 0) else (if 25 < v1 then some (x_allowed, 0) else (if v2 < 0 then some (x_allowed, 0) else (if 25 < v2 then some (x_allowed, 0) else (if v2 = 14 then (if v3 = 0 then f_X10_attribute_L33 v1 v2 v3 x_allowed else some (x_allowed, 0)) else f_X10_attribute_L33 v1 v2 v3 x_allowed)))))
set_option maxHeartbeats 4000000 in
set_option maxRecDepth 100000 in
theorem fn_X10_attribute (l : Launch) (G : Gc) (a_this : Nat) (rr : Nat → Nat) (x_inputSize : Int32) (x_outputSize : Int32) (x_made : Int32) (x_schemes : Int32) (x_n : Int32) (x_written : Int32) (x_tree : Int32) (x_pos : Int32) (x_raw : Int32) (x_opened : Int32) (x_whole : Int32) (x_name : Int32) (x_code : Int32) (x_allowed : Nat → Int32) (v1 : Int32) (v2 : Int32) (v3 : Int32)  {o : (Nat → Int32) × Int32} (h : f_X10_attribute x_allowed v1 v2 v3 = some o) : ms_Fn l G yX10_attribute cX10_attribute 5 (some .boolean) rm_X10_attribute [.ref a_this, .int v1, .int v2, .int v3] [ob_X10 a_this rr x_inputSize x_outputSize x_made x_schemes x_n x_written x_tree x_pos x_raw x_opened x_whole x_name x_code, (rr 3, .inl (G.2.1 3, 702, .inl x_allowed))] [ob_X10 a_this rr x_inputSize x_outputSize x_made x_schemes x_n x_written x_tree x_pos x_raw x_opened x_whole x_name x_code, (rr 3, .inl (G.2.1 3, 702, .inl o.1))] (some (.int o.2)) := by
  refine ms_start RX10 (by decide +kernel) rfl (Nat.le_of_ble_eq_true rfl) (fun p e s m below meth c A ls hX hW hl => ?_)
  have hx := hX.1.1
  have hb := hX.1.2.1
  have hl : lv_has ls 5 [(0, .ref a_this), (1, .int v1), (2, .int v2), (3, .int v3)] := hl
  unfold f_X10_attribute at h
  refine lv_iload_n hx hb dX10_attribute_0 rfl (lv_at hl 1 rfl) ?_
  refine lv_iconst (v := (-1)) hx hb dX10_attribute_1 (by decide) ?_
  refine lv_icmp_lt (tgt := 31) hx hb dX10_attribute_2 (by decide) (fun k => ?_) (fun k => ?_)
  · have h := ms_ifp h k
    refine lv_iconst (v := 0) hx hb dX10_attribute_31 (by decide) ?_
    obtain rfl := Option.some.inj h
    exact ms_zret hX (ms_nz (Or.inl rfl)) hW dX10_attribute_32
  · have h := ms_ifn h k
    refine lv_iload_n hx hb dX10_attribute_5 rfl (lv_at hl 1 rfl) ?_
    refine lv_bipush (v := 25) hx hb dX10_attribute_6 (by decide) ?_
    refine lv_icmp_gt (tgt := 31) hx hb dX10_attribute_8 (by decide) (fun k => ?_) (fun k => ?_)
    · have h := ms_ifp h k
      refine lv_iconst (v := 0) hx hb dX10_attribute_31 (by decide) ?_
      obtain rfl := Option.some.inj h
      exact ms_zret hX (ms_nz (Or.inl rfl)) hW dX10_attribute_32
    · have h := ms_ifn h k
      refine lv_iload_n hx hb dX10_attribute_11 rfl (lv_at hl 2 rfl) ?_
      refine lv_if_lt (tgt := 31) hx hb dX10_attribute_12 (by decide) (fun k => ?_) (fun k => ?_)
      · have h := ms_ifp h k
        refine lv_iconst (v := 0) hx hb dX10_attribute_31 (by decide) ?_
        obtain rfl := Option.some.inj h
        exact ms_zret hX (ms_nz (Or.inl rfl)) hW dX10_attribute_32
      · have h := ms_ifn h k
        refine lv_iload_n hx hb dX10_attribute_15 rfl (lv_at hl 2 rfl) ?_
        refine lv_bipush (v := 25) hx hb dX10_attribute_16 (by decide) ?_
        refine lv_icmp_gt (tgt := 31) hx hb dX10_attribute_18 (by decide) (fun k => ?_) (fun k => ?_)
        · have h := ms_ifp h k
          refine lv_iconst (v := 0) hx hb dX10_attribute_31 (by decide) ?_
          obtain rfl := Option.some.inj h
          exact ms_zret hX (ms_nz (Or.inl rfl)) hW dX10_attribute_32
        · have h := ms_ifn h k
          refine lv_iload_n hx hb dX10_attribute_21 rfl (lv_at hl 2 rfl) ?_
          refine lv_bipush (v := 14) hx hb dX10_attribute_22 (by decide) ?_
          refine lv_icmp_ne (tgt := 33) hx hb dX10_attribute_24 (by decide) (fun k => ?_) (fun k => ?_)
          · have h := ms_ifn h k
            exact wb_X10_attribute_L33 hX h hW (lv_sub hl [0, 1, 2, 3] rfl)
          · have h := ms_ifp h k
            refine lv_iload_n hx hb dX10_attribute_27 rfl (lv_at hl 3 rfl) ?_
            refine lv_if_eq (tgt := 33) hx hb dX10_attribute_28 (by decide) (fun k => ?_) (fun k => ?_)
            · have h := ms_ifp h k
              exact wb_X10_attribute_L33 hX h hW (lv_sub hl [0, 1, 2, 3] rfl)
            · have h := ms_ifn h k
              refine lv_iconst (v := 0) hx hb dX10_attribute_31 (by decide) ?_
              obtain rfl := Option.some.inj h
              exact ms_zret hX (ms_nz (Or.inl rfl)) hW dX10_attribute_32
def rm_X10_isAllowed : Room := { frames := 0, cells := 0, slots := 0, locals := 0 }
def f_X10_isAllowed_L35 (x_schemes : Int32) (x_schemeOf : Nat → Int64) (v1 : Int64) (kk : Int32 → Int32 → Option (Int32)) (v4 : Int32) (z0 : Int32) : Option (Int32) := kk z0 (v4 + 1)
set_option maxHeartbeats 4000000 in
set_option maxRecDepth 100000 in
theorem wb_X10_isAllowed_L35 {p : Program} {l : Launch} {e : Env} {s : State} {m : MethodId} {args : Array Value} {below : List Frame} {meth : Method} {c : Code} {G : Gc} {A : Nat → Prop} {H : Heap} {locs : List Loc} {ls : Array Slot} {a_this : Nat} {rr : Nat → Nat} {x_inputSize : Int32} {x_outputSize : Int32} {x_made : Int32} {x_schemes : Int32} {x_n : Int32} {x_written : Int32} {x_tree : Int32} {x_pos : Int32} {x_raw : Int32} {x_opened : Int32} {x_whole : Int32} {x_name : Int32} {x_code : Int32} {x_schemeOf : Nat → Int64} {v1 : Int64} {kk : Int32 → Int32 → Option (Int32)} {Q : State → Prop} {v4 : Int32} {z0 : Int32} {o : Int32} (hX : ms_CX p s m args meth c cX10_isAllowed 5 RX10 (some .boolean) G A) (hq : ∀ (H : Heap) (locs : List Loc) (ls : Array Slot), ms_W G A s H locs [ob_X10 a_this rr x_inputSize x_outputSize x_made x_schemes x_n x_written x_tree x_pos x_raw x_opened x_whole x_name x_code, (rr 4, .inl (G.2.1 2, 4, .inr (.inl x_schemeOf)))] → lv_has ls 5 [(3, .int o)] → W p l e rm_X10_isAllowed s m args below meth c H locs 0 0 Q (F0 m 42 ls [])) (ih : ∀ (v3 : Int32) (v4 : Int32) (H : Heap) (locs : List Loc) (ls : Array Slot), kk v3 v4 = some o → ms_W G A s H locs [ob_X10 a_this rr x_inputSize x_outputSize x_made x_schemes x_n x_written x_tree x_pos x_raw x_opened x_whole x_name x_code, (rr 4, .inl (G.2.1 2, 4, .inr (.inl x_schemeOf)))] → lv_has ls 5 [(0, .ref a_this), (1, .long v1), (3, .int v3), (4, .int v4)] → W p l e rm_X10_isAllowed s m args below meth c H locs 0 0 Q (F0 m 5 ls [])) (h : f_X10_isAllowed_L35 x_schemes x_schemeOf v1 kk v4 z0 = some o) (hW : ms_W G A s H locs [ob_X10 a_this rr x_inputSize x_outputSize x_made x_schemes x_n x_written x_tree x_pos x_raw x_opened x_whole x_name x_code, (rr 4, .inl (G.2.1 2, 4, .inr (.inl x_schemeOf)))]) (hl : lv_has ls 5 [(0, .ref a_this), (1, .long v1), (4, .int v4)]) : W p l e rm_X10_isAllowed s m args below meth c H locs 0 0 Q (F0 m 35 ls [.int z0]) := by
  have hx := hX.1.1
  have hb := hX.1.2.1
  unfold f_X10_isAllowed_L35 at h
  refine lv_istore_n (lv' := [(3, .int z0), (0, .ref a_this), (1, .long v1), (4, .int v4)]) hx hb dX10_isAllowed_35 rfl hl (by decide) rfl (fun ls hl => ?_)
  refine lv_iinc (v := v4 + 1) (lv' := [(4, .int (v4 + 1)), (3, .int z0), (0, .ref a_this), (1, .long v1)]) hx hb dX10_isAllowed_36 hl (k := 3) rfl rfl (by decide) rfl (fun ls hl => ?_)
  refine lv_goto (tgt := 5) hx hb dX10_isAllowed_39 (by decide) ?_
  exact ih _ _ _ _ _ h hW (lv_sub hl [2, 3, 1, 0] rfl)
def f_X10_isAllowed_L30 (x_schemes : Int32) (x_schemeOf : Nat → Int64) (v1 : Int64) (kk : Int32 → Int32 → Option (Int32)) (v4 : Int32) : Option (Int32) := f_X10_isAllowed_L35 x_schemes x_schemeOf v1 (kk) v4 1
set_option maxHeartbeats 4000000 in
set_option maxRecDepth 100000 in
theorem wb_X10_isAllowed_L30 {p : Program} {l : Launch} {e : Env} {s : State} {m : MethodId} {args : Array Value} {below : List Frame} {meth : Method} {c : Code} {G : Gc} {A : Nat → Prop} {H : Heap} {locs : List Loc} {ls : Array Slot} {a_this : Nat} {rr : Nat → Nat} {x_inputSize : Int32} {x_outputSize : Int32} {x_made : Int32} {x_schemes : Int32} {x_n : Int32} {x_written : Int32} {x_tree : Int32} {x_pos : Int32} {x_raw : Int32} {x_opened : Int32} {x_whole : Int32} {x_name : Int32} {x_code : Int32} {x_schemeOf : Nat → Int64} {v1 : Int64} {kk : Int32 → Int32 → Option (Int32)} {Q : State → Prop} {v4 : Int32} {o : Int32} (hX : ms_CX p s m args meth c cX10_isAllowed 5 RX10 (some .boolean) G A) (hq : ∀ (H : Heap) (locs : List Loc) (ls : Array Slot), ms_W G A s H locs [ob_X10 a_this rr x_inputSize x_outputSize x_made x_schemes x_n x_written x_tree x_pos x_raw x_opened x_whole x_name x_code, (rr 4, .inl (G.2.1 2, 4, .inr (.inl x_schemeOf)))] → lv_has ls 5 [(3, .int o)] → W p l e rm_X10_isAllowed s m args below meth c H locs 0 0 Q (F0 m 42 ls [])) (ih : ∀ (v3 : Int32) (v4 : Int32) (H : Heap) (locs : List Loc) (ls : Array Slot), kk v3 v4 = some o → ms_W G A s H locs [ob_X10 a_this rr x_inputSize x_outputSize x_made x_schemes x_n x_written x_tree x_pos x_raw x_opened x_whole x_name x_code, (rr 4, .inl (G.2.1 2, 4, .inr (.inl x_schemeOf)))] → lv_has ls 5 [(0, .ref a_this), (1, .long v1), (3, .int v3), (4, .int v4)] → W p l e rm_X10_isAllowed s m args below meth c H locs 0 0 Q (F0 m 5 ls [])) (h : f_X10_isAllowed_L30 x_schemes x_schemeOf v1 kk v4 = some o) (hW : ms_W G A s H locs [ob_X10 a_this rr x_inputSize x_outputSize x_made x_schemes x_n x_written x_tree x_pos x_raw x_opened x_whole x_name x_code, (rr 4, .inl (G.2.1 2, 4, .inr (.inl x_schemeOf)))]) (hl : lv_has ls 5 [(0, .ref a_this), (1, .long v1), (4, .int v4)]) : W p l e rm_X10_isAllowed s m args below meth c H locs 0 0 Q (F0 m 30 ls []) := by
  have hx := hX.1.1
  have hb := hX.1.2.1
  unfold f_X10_isAllowed_L30 at h
  refine lv_iconst (v := 1) hx hb dX10_isAllowed_30 (by decide) ?_
  refine lv_goto (tgt := 35) hx hb dX10_isAllowed_31 (by decide) ?_
  exact wb_X10_isAllowed_L35 hX hq (ih) h hW (lv_sub hl [0, 1, 2] rfl)
def f_X10_isAllowed_L5 (x_schemes : Int32) (x_schemeOf : Nat → Int64) (v1 : Int64) : Nat → Int32 → Int32 → Option (Int32)
  | 0, _, _ => none
  | n + 1, v3, v4 => (if x_schemes ≤ v4 then some v3 else (if v3 = 0 then ms_gi v4 4 ((if (lg_cmp (x_schemeOf v4.toNatClampNeg) v1) = 0 then f_X10_isAllowed_L30 x_schemes x_schemeOf v1 (f_X10_isAllowed_L5 x_schemes x_schemeOf v1 n) v4 else f_X10_isAllowed_L35 x_schemes x_schemeOf v1 (f_X10_isAllowed_L5 x_schemes x_schemeOf v1 n) v4 0)) else f_X10_isAllowed_L30 x_schemes x_schemeOf v1 (f_X10_isAllowed_L5 x_schemes x_schemeOf v1 n) v4))
set_option maxHeartbeats 4000000 in
set_option maxRecDepth 100000 in
theorem wb_X10_isAllowed_L5 {p : Program} {l : Launch} {e : Env} {s : State} {m : MethodId} {args : Array Value} {below : List Frame} {meth : Method} {c : Code} {G : Gc} {A : Nat → Prop} {a_this : Nat} {rr : Nat → Nat} {x_inputSize : Int32} {x_outputSize : Int32} {x_made : Int32} {x_schemes : Int32} {x_n : Int32} {x_written : Int32} {x_tree : Int32} {x_pos : Int32} {x_raw : Int32} {x_opened : Int32} {x_whole : Int32} {x_name : Int32} {x_code : Int32} {x_schemeOf : Nat → Int64} {v1 : Int64} {Q : State → Prop} {o : Int32} (hX : ms_CX p s m args meth c cX10_isAllowed 5 RX10 (some .boolean) G A) (hq : ∀ (H : Heap) (locs : List Loc) (ls : Array Slot), ms_W G A s H locs [ob_X10 a_this rr x_inputSize x_outputSize x_made x_schemes x_n x_written x_tree x_pos x_raw x_opened x_whole x_name x_code, (rr 4, .inl (G.2.1 2, 4, .inr (.inl x_schemeOf)))] → lv_has ls 5 [(3, .int o)] → W p l e rm_X10_isAllowed s m args below meth c H locs 0 0 Q (F0 m 42 ls [])) : ∀ (n : Nat) (v3 : Int32) (v4 : Int32) (H : Heap) (locs : List Loc) (ls : Array Slot), f_X10_isAllowed_L5 x_schemes x_schemeOf v1 n v3 v4 = some o → ms_W G A s H locs [ob_X10 a_this rr x_inputSize x_outputSize x_made x_schemes x_n x_written x_tree x_pos x_raw x_opened x_whole x_name x_code, (rr 4, .inl (G.2.1 2, 4, .inr (.inl x_schemeOf)))] → lv_has ls 5 [(0, .ref a_this), (1, .long v1), (3, .int v3), (4, .int v4)] → W p l e rm_X10_isAllowed s m args below meth c H locs 0 0 Q (F0 m 5 ls []) := by
  have hx := hX.1.1
  have hb := hX.1.2.1
  intro n
  induction n with
  | zero => intro v3 v4 H locs ls h; rw [f_X10_isAllowed_L5] at h; cases h
  | succ n ih =>
    intro v3 v4 H locs ls h hW hl
    rw [f_X10_isAllowed_L5] at h
    refine lv_iload hx hb dX10_isAllowed_5 (lv_at hl 3 rfl) ?_
    refine lv_aload_n hx hb dX10_isAllowed_7 rfl (lv_at hl 0 rfl) ?_
    refine ms_get ff_X10_100 hX hW 0 rfl rfl dX10_isAllowed_8 ?_
    refine lv_icmp_ge (tgt := 42) hx hb dX10_isAllowed_11 (by decide) (fun k => ?_) (fun k => ?_)
    · have h := ms_ifp h k
      obtain rfl := Option.some.inj h
      exact hq _ _ _ hW (lv_sub hl [2] rfl)
    · have h := ms_ifn h k
      refine lv_iload_n hx hb dX10_isAllowed_14 rfl (lv_at hl 2 rfl) ?_
      refine lv_if_ne (tgt := 30) hx hb dX10_isAllowed_15 (by decide) (fun k => ?_) (fun k => ?_)
      · have h := ms_ifn h k
        exact wb_X10_isAllowed_L30 hX hq (ih) h hW (lv_sub hl [0, 1, 3] rfl)
      · have h := ms_ifp h k
        refine lv_aload_n hx hb dX10_isAllowed_18 rfl (lv_at hl 0 rfl) ?_
        refine ms_get ff_X10_23 hX hW 0 rfl rfl dX10_isAllowed_19 ?_
        refine lv_iload hx hb dX10_isAllowed_22 (lv_at hl 3 rfl) ?_
        obtain ⟨k, h⟩ := ms_gi_some h
        refine ms_lald hX hW 1 rfl k dX10_isAllowed_24 ?_
        refine lv_lload_n hx hb dX10_isAllowed_25 rfl (lv_at hl 1 rfl) ?_
        refine W.lcmp hx hb dX10_isAllowed_26 ?_
        refine lv_if_ne (tgt := 34) hx hb dX10_isAllowed_27 (by decide) (fun k => ?_) (fun k => ?_)
        · have h := ms_ifn h k
          refine lv_iconst (v := 0) hx hb dX10_isAllowed_34 (by decide) ?_
          exact wb_X10_isAllowed_L35 hX hq (ih) h hW (lv_sub hl [0, 1, 3] rfl)
        · have h := ms_ifp h k
          exact wb_X10_isAllowed_L30 hX hq (ih) h hW (lv_sub hl [0, 1, 3] rfl)
def f_X10_isAllowed (x_schemes : Int32) (x_schemeOf : Nat → Int64) (v1 : Int64) : Option (Int32) := (f_X10_isAllowed_L5 x_schemes x_schemeOf v1 1000 0 0).bind (fun w5 => ms_gz w5 (some w5))
set_option maxHeartbeats 4000000 in
set_option maxRecDepth 100000 in
theorem fn_X10_isAllowed (l : Launch) (G : Gc) (a_this : Nat) (rr : Nat → Nat) (x_inputSize : Int32) (x_outputSize : Int32) (x_made : Int32) (x_schemes : Int32) (x_n : Int32) (x_written : Int32) (x_tree : Int32) (x_pos : Int32) (x_raw : Int32) (x_opened : Int32) (x_whole : Int32) (x_name : Int32) (x_code : Int32) (x_schemeOf : Nat → Int64) (v1 : Int64)  {o : Int32} (h : f_X10_isAllowed x_schemes x_schemeOf v1 = some o) : ms_Fn l G yX10_isAllowed cX10_isAllowed 5 (some .boolean) rm_X10_isAllowed [.ref a_this, .long v1] [ob_X10 a_this rr x_inputSize x_outputSize x_made x_schemes x_n x_written x_tree x_pos x_raw x_opened x_whole x_name x_code, (rr 4, .inl (G.2.1 2, 4, .inr (.inl x_schemeOf)))] [ob_X10 a_this rr x_inputSize x_outputSize x_made x_schemes x_n x_written x_tree x_pos x_raw x_opened x_whole x_name x_code, (rr 4, .inl (G.2.1 2, 4, .inr (.inl x_schemeOf)))] (some (.int o)) := by
  refine ms_start RX10 (by decide +kernel) rfl (Nat.le_of_ble_eq_true rfl) (fun p e s m below meth c A ls hX hW hl => ?_)
  have hx := hX.1.1
  have hb := hX.1.2.1
  have hl : lv_has ls 5 [(0, .ref a_this), (1, .long v1)] := hl
  unfold f_X10_isAllowed at h
  refine lv_iconst (v := 0) hx hb dX10_isAllowed_0 (by decide) ?_
  refine lv_istore_n (lv' := [(3, .int 0), (0, .ref a_this), (1, .long v1)]) hx hb dX10_isAllowed_1 rfl hl (by decide) rfl (fun ls hl => ?_)
  refine lv_iconst (v := 0) hx hb dX10_isAllowed_2 (by decide) ?_
  refine lv_istore (lv' := [(4, .int 0), (3, .int 0), (0, .ref a_this), (1, .long v1)]) hx hb dX10_isAllowed_3 hl (by decide) rfl (fun ls hl => ?_)
  obtain ⟨w5, hqw5, h⟩ := ms_bd h
  refine wb_X10_isAllowed_L5 hX (o := w5) (fun H locs ls hW hl => ?_) _ _ _ _ _ _ hqw5 hW (lv_sub hl [2, 3, 1, 0] rfl)
  refine lv_iload_n hx hb dX10_isAllowed_42 rfl (lv_at hl 0 rfl) ?_
  obtain ⟨k, h⟩ := ms_gz_some h
  obtain rfl := Option.some.inj h
  exact ms_zret hX (ms_nz k) hW dX10_isAllowed_43
def rm_X10_scheme : Room := { frames := 1, cells := 0, slots := 0, locals := 24 }
def f_X10_scheme_L82 (v1 : Int64) (kk : Int32 → (Nat → Int64) → Int32 → Int32 → Option (Int32 × (Nat → Int64) × Int32)) (x_schemes : Int32) (x_schemeOf : Nat → Int64) (v5 : Int32) (z0 : Int32) : Option (Int32 × (Nat → Int64) × Int32) := kk x_schemes x_schemeOf z0 (v5 + 1)
set_option maxHeartbeats 4000000 in
set_option maxRecDepth 100000 in
theorem wb_X10_scheme_L82 {p : Program} {l : Launch} {e : Env} {s : State} {m : MethodId} {args : Array Value} {below : List Frame} {meth : Method} {c : Code} {G : Gc} {A : Nat → Prop} {H : Heap} {locs : List Loc} {ls : Array Slot} {a_this : Nat} {rr : Nat → Nat} {x_inputSize : Int32} {x_outputSize : Int32} {x_made : Int32} {x_n : Int32} {x_written : Int32} {x_tree : Int32} {x_pos : Int32} {x_raw : Int32} {x_opened : Int32} {x_whole : Int32} {x_name : Int32} {x_code : Int32} {v1 : Int64} {kk : Int32 → (Nat → Int64) → Int32 → Int32 → Option (Int32 × (Nat → Int64) × Int32)} {Q : State → Prop} {x_schemes : Int32} {x_schemeOf : Nat → Int64} {v5 : Int32} {z0 : Int32} {o : Int32 × (Nat → Int64) × Int32} (hX : ms_CX p s m args meth c cX10_scheme 6 RX10 (some .boolean) G A) (hq : ∀ (H : Heap) (locs : List Loc) (ls : Array Slot), ms_W G A s H locs [ob_X10 a_this rr x_inputSize x_outputSize x_made o.1 x_n x_written x_tree x_pos x_raw x_opened x_whole x_name x_code, (rr 4, .inl (G.2.1 2, 4, .inr (.inl o.2.1)))] → lv_has ls 6 [(0, .ref a_this), (1, .long v1), (4, .int o.2.2)] → W p l e rm_X10_scheme s m args below meth c H locs 0 0 Q (F0 m 90 ls [])) (ih : ∀ (x_schemes : Int32) (x_schemeOf : Nat → Int64) (v4 : Int32) (v5 : Int32) (H : Heap) (locs : List Loc) (ls : Array Slot), kk x_schemes x_schemeOf v4 v5 = some o → ms_W G A s H locs [ob_X10 a_this rr x_inputSize x_outputSize x_made x_schemes x_n x_written x_tree x_pos x_raw x_opened x_whole x_name x_code, (rr 4, .inl (G.2.1 2, 4, .inr (.inl x_schemeOf)))] → lv_has ls 6 [(0, .ref a_this), (1, .long v1), (4, .int v4), (5, .int v5)] → W p l e rm_X10_scheme s m args below meth c H locs 0 0 Q (F0 m 56 ls [])) (h : f_X10_scheme_L82 v1 kk x_schemes x_schemeOf v5 z0 = some o) (hW : ms_W G A s H locs [ob_X10 a_this rr x_inputSize x_outputSize x_made x_schemes x_n x_written x_tree x_pos x_raw x_opened x_whole x_name x_code, (rr 4, .inl (G.2.1 2, 4, .inr (.inl x_schemeOf)))]) (hl : lv_has ls 6 [(0, .ref a_this), (1, .long v1), (5, .int v5)]) : W p l e rm_X10_scheme s m args below meth c H locs 0 0 Q (F0 m 82 ls [.int z0]) := by
  have hx := hX.1.1
  have hb := hX.1.2.1
  unfold f_X10_scheme_L82 at h
  refine lv_istore (lv' := [(4, .int z0), (0, .ref a_this), (1, .long v1), (5, .int v5)]) hx hb dX10_scheme_82 hl (by decide) rfl (fun ls hl => ?_)
  refine lv_iinc (v := v5 + 1) (lv' := [(5, .int (v5 + 1)), (4, .int z0), (0, .ref a_this), (1, .long v1)]) hx hb dX10_scheme_84 hl (k := 3) rfl rfl (by decide) rfl (fun ls hl => ?_)
  refine lv_goto (tgt := 56) hx hb dX10_scheme_87 (by decide) ?_
  exact ih _ _ _ _ _ _ _ h hW (lv_sub hl [2, 3, 1, 0] rfl)
def f_X10_scheme_L81 (v1 : Int64) (kk : Int32 → (Nat → Int64) → Int32 → Int32 → Option (Int32 × (Nat → Int64) × Int32)) (x_schemes : Int32) (x_schemeOf : Nat → Int64) (v5 : Int32) : Option (Int32 × (Nat → Int64) × Int32) := f_X10_scheme_L82 v1 (kk) x_schemes x_schemeOf v5 0
set_option maxHeartbeats 4000000 in
set_option maxRecDepth 100000 in
theorem wb_X10_scheme_L81 {p : Program} {l : Launch} {e : Env} {s : State} {m : MethodId} {args : Array Value} {below : List Frame} {meth : Method} {c : Code} {G : Gc} {A : Nat → Prop} {H : Heap} {locs : List Loc} {ls : Array Slot} {a_this : Nat} {rr : Nat → Nat} {x_inputSize : Int32} {x_outputSize : Int32} {x_made : Int32} {x_n : Int32} {x_written : Int32} {x_tree : Int32} {x_pos : Int32} {x_raw : Int32} {x_opened : Int32} {x_whole : Int32} {x_name : Int32} {x_code : Int32} {v1 : Int64} {kk : Int32 → (Nat → Int64) → Int32 → Int32 → Option (Int32 × (Nat → Int64) × Int32)} {Q : State → Prop} {x_schemes : Int32} {x_schemeOf : Nat → Int64} {v5 : Int32} {o : Int32 × (Nat → Int64) × Int32} (hX : ms_CX p s m args meth c cX10_scheme 6 RX10 (some .boolean) G A) (hq : ∀ (H : Heap) (locs : List Loc) (ls : Array Slot), ms_W G A s H locs [ob_X10 a_this rr x_inputSize x_outputSize x_made o.1 x_n x_written x_tree x_pos x_raw x_opened x_whole x_name x_code, (rr 4, .inl (G.2.1 2, 4, .inr (.inl o.2.1)))] → lv_has ls 6 [(0, .ref a_this), (1, .long v1), (4, .int o.2.2)] → W p l e rm_X10_scheme s m args below meth c H locs 0 0 Q (F0 m 90 ls [])) (ih : ∀ (x_schemes : Int32) (x_schemeOf : Nat → Int64) (v4 : Int32) (v5 : Int32) (H : Heap) (locs : List Loc) (ls : Array Slot), kk x_schemes x_schemeOf v4 v5 = some o → ms_W G A s H locs [ob_X10 a_this rr x_inputSize x_outputSize x_made x_schemes x_n x_written x_tree x_pos x_raw x_opened x_whole x_name x_code, (rr 4, .inl (G.2.1 2, 4, .inr (.inl x_schemeOf)))] → lv_has ls 6 [(0, .ref a_this), (1, .long v1), (4, .int v4), (5, .int v5)] → W p l e rm_X10_scheme s m args below meth c H locs 0 0 Q (F0 m 56 ls [])) (h : f_X10_scheme_L81 v1 kk x_schemes x_schemeOf v5 = some o) (hW : ms_W G A s H locs [ob_X10 a_this rr x_inputSize x_outputSize x_made x_schemes x_n x_written x_tree x_pos x_raw x_opened x_whole x_name x_code, (rr 4, .inl (G.2.1 2, 4, .inr (.inl x_schemeOf)))]) (hl : lv_has ls 6 [(0, .ref a_this), (1, .long v1), (5, .int v5)]) : W p l e rm_X10_scheme s m args below meth c H locs 0 0 Q (F0 m 81 ls []) := by
  have hx := hX.1.1
  have hb := hX.1.2.1
  unfold f_X10_scheme_L81 at h
  refine lv_iconst (v := 0) hx hb dX10_scheme_81 (by decide) ?_
  exact wb_X10_scheme_L82 hX hq (ih) h hW (lv_sub hl [0, 1, 2] rfl)
def f_X10_scheme_L56 (v1 : Int64) : Nat → Int32 → (Nat → Int64) → Int32 → Int32 → Option (Int32 × (Nat → Int64) × Int32)
  | 0, _, _, _, _ => none
  | n + 1, x_schemes, x_schemeOf, v4, v5 => (if 8 ≤ v5 then some (x_schemes, x_schemeOf, v4) else (if v4 = 0 then f_X10_scheme_L81 v1 (f_X10_scheme_L56 v1 n) x_schemes x_schemeOf v5 else (f_X10_byteOf v1 v5).bind (fun q71 => (if q71 = 0 then f_X10_scheme_L82 v1 (f_X10_scheme_L56 v1 n) x_schemes x_schemeOf v5 1 else f_X10_scheme_L81 v1 (f_X10_scheme_L56 v1 n) x_schemes x_schemeOf v5))))
set_option maxHeartbeats 4000000 in
set_option maxRecDepth 100000 in
theorem wb_X10_scheme_L56 {p : Program} {l : Launch} {e : Env} {s : State} {m : MethodId} {args : Array Value} {below : List Frame} {meth : Method} {c : Code} {G : Gc} {A : Nat → Prop} {a_this : Nat} {rr : Nat → Nat} {x_inputSize : Int32} {x_outputSize : Int32} {x_made : Int32} {x_n : Int32} {x_written : Int32} {x_tree : Int32} {x_pos : Int32} {x_raw : Int32} {x_opened : Int32} {x_whole : Int32} {x_name : Int32} {x_code : Int32} {v1 : Int64} {Q : State → Prop} {o : Int32 × (Nat → Int64) × Int32} (hX : ms_CX p s m args meth c cX10_scheme 6 RX10 (some .boolean) G A) (hq : ∀ (H : Heap) (locs : List Loc) (ls : Array Slot), ms_W G A s H locs [ob_X10 a_this rr x_inputSize x_outputSize x_made o.1 x_n x_written x_tree x_pos x_raw x_opened x_whole x_name x_code, (rr 4, .inl (G.2.1 2, 4, .inr (.inl o.2.1)))] → lv_has ls 6 [(0, .ref a_this), (1, .long v1), (4, .int o.2.2)] → W p l e rm_X10_scheme s m args below meth c H locs 0 0 Q (F0 m 90 ls [])) : ∀ (n : Nat) (x_schemes : Int32) (x_schemeOf : Nat → Int64) (v4 : Int32) (v5 : Int32) (H : Heap) (locs : List Loc) (ls : Array Slot), f_X10_scheme_L56 v1 n x_schemes x_schemeOf v4 v5 = some o → ms_W G A s H locs [ob_X10 a_this rr x_inputSize x_outputSize x_made x_schemes x_n x_written x_tree x_pos x_raw x_opened x_whole x_name x_code, (rr 4, .inl (G.2.1 2, 4, .inr (.inl x_schemeOf)))] → lv_has ls 6 [(0, .ref a_this), (1, .long v1), (4, .int v4), (5, .int v5)] → W p l e rm_X10_scheme s m args below meth c H locs 0 0 Q (F0 m 56 ls []) := by
  have hx := hX.1.1
  have hb := hX.1.2.1
  intro n
  induction n with
  | zero => intro x_schemes x_schemeOf v4 v5 H locs ls h; rw [f_X10_scheme_L56] at h; cases h
  | succ n ih =>
    intro x_schemes x_schemeOf v4 v5 H locs ls h hW hl
    rw [f_X10_scheme_L56] at h
    refine lv_iload hx hb dX10_scheme_56 (lv_at hl 3 rfl) ?_
    refine lv_bipush (v := 8) hx hb dX10_scheme_58 (by decide) ?_
    refine lv_icmp_ge (tgt := 90) hx hb dX10_scheme_60 (by decide) (fun k => ?_) (fun k => ?_)
    · have h := ms_ifp h k
      obtain rfl := Option.some.inj h
      exact hq _ _ _ hW (lv_sub hl [0, 1, 2] rfl)
    · have h := ms_ifn h k
      refine lv_iload hx hb dX10_scheme_63 (lv_at hl 2 rfl) ?_
      refine lv_if_eq (tgt := 81) hx hb dX10_scheme_65 (by decide) (fun k => ?_) (fun k => ?_)
      · have h := ms_ifp h k
        exact wb_X10_scheme_L81 hX hq (ih) h hW (lv_sub hl [0, 1, 3] rfl)
      · have h := ms_ifn h k
        refine lv_lload_n hx hb dX10_scheme_68 rfl (lv_at hl 1 rfl) ?_
        refine lv_iload hx hb dX10_scheme_69 (lv_at hl 3 rfl) ?_
        obtain ⟨q71, hq71, h⟩ := ms_bd h
        refine ms_callS (fn_X10_byteOf l G v1 v5 hq71) wm_X10_byteOf wz_X10_92 hX hW [] rfl rfl rfl ⟨Nat.le_of_ble_eq_true rfl, Nat.le_of_ble_eq_true rfl, rfl, rfl, Nat.zero_le _, Nat.zero_le _⟩ rfl hl.1 [] rfl (Nat.le_of_ble_eq_true rfl) dX10_scheme_71 (fun H locs hW => ?_)
        have hW : ms_W G A s H locs [ob_X10 a_this rr x_inputSize x_outputSize x_made x_schemes x_n x_written x_tree x_pos x_raw x_opened x_whole x_name x_code, (rr 4, .inl (G.2.1 2, 4, .inr (.inl x_schemeOf)))] := hW
        refine W.eq (g2 := F0 m 74 ls [.int q71]) rfl ?_
        refine lv_if_ne (tgt := 81) hx hb dX10_scheme_74 (by decide) (fun k => ?_) (fun k => ?_)
        · have h := ms_ifn h k
          exact wb_X10_scheme_L81 hX hq (ih) h hW (lv_sub hl [0, 1, 3] rfl)
        · have h := ms_ifp h k
          refine lv_iconst (v := 1) hx hb dX10_scheme_77 (by decide) ?_
          refine lv_goto (tgt := 82) hx hb dX10_scheme_78 (by decide) ?_
          exact wb_X10_scheme_L82 hX hq (ih) h hW (lv_sub hl [0, 1, 3] rfl)
def f_X10_scheme_L51 (v1 : Int64) (x_schemes : Int32) (x_schemeOf : Nat → Int64) (v3 : Int32) (z0 : Int32) : Option (Int32 × (Nat → Int64) × Int32) := (f_X10_scheme_L56 v1 1000 x_schemes x_schemeOf z0 v3).bind (fun w56 => (if w56.2.2 = 0 then some (w56.1, w56.2.1, 0) else (f_X10_isAllowed w56.1 w56.2.1 v1).bind (fun q97 => (if q97 = 0 then ms_gi w56.1 4 (some (w56.1 + 1, vp_updL w56.2.1 w56.1.toNatClampNeg v1, 1)) else some (w56.1, w56.2.1, 0)))))
set_option maxHeartbeats 4000000 in
set_option maxRecDepth 100000 in
theorem wb_X10_scheme_L51 {p : Program} {l : Launch} {e : Env} {s : State} {m : MethodId} {args : Array Value} {below : List Frame} {meth : Method} {c : Code} {G : Gc} {A : Nat → Prop} {H : Heap} {locs : List Loc} {ls : Array Slot} {a_this : Nat} {rr : Nat → Nat} {x_inputSize : Int32} {x_outputSize : Int32} {x_made : Int32} {x_n : Int32} {x_written : Int32} {x_tree : Int32} {x_pos : Int32} {x_raw : Int32} {x_opened : Int32} {x_whole : Int32} {x_name : Int32} {x_code : Int32} {v1 : Int64} {x_schemes : Int32} {x_schemeOf : Nat → Int64} {v3 : Int32} {z0 : Int32} {o : Int32 × (Nat → Int64) × Int32} (hX : ms_CX p s m args meth c cX10_scheme 6 RX10 (some .boolean) G A)   (h : f_X10_scheme_L51 v1 x_schemes x_schemeOf v3 z0 = some o) (hW : ms_W G A s H locs [ob_X10 a_this rr x_inputSize x_outputSize x_made x_schemes x_n x_written x_tree x_pos x_raw x_opened x_whole x_name x_code, (rr 4, .inl (G.2.1 2, 4, .inr (.inl x_schemeOf)))]) (hl : lv_has ls 6 [(0, .ref a_this), (1, .long v1), (3, .int v3)]) : W p l e rm_X10_scheme s m args below meth c H locs 0 0 (ms_Q G A below args s [ob_X10 a_this rr x_inputSize x_outputSize x_made o.1 x_n x_written x_tree x_pos x_raw x_opened x_whole x_name x_code, (rr 4, .inl (G.2.1 2, 4, .inr (.inl o.2.1)))] (some (.int o.2.2))) (F0 m 51 ls [.int z0]) := by
  have hx := hX.1.1
  have hb := hX.1.2.1
  unfold f_X10_scheme_L51 at h
  refine lv_istore (lv' := [(4, .int z0), (0, .ref a_this), (1, .long v1), (3, .int v3)]) hx hb dX10_scheme_51 hl (by decide) rfl (fun ls hl => ?_)
  refine lv_iload_n hx hb dX10_scheme_53 rfl (lv_at hl 3 rfl) ?_
  refine lv_istore (lv' := [(5, .int v3), (4, .int z0), (0, .ref a_this), (1, .long v1), (3, .int v3)]) hx hb dX10_scheme_54 hl (by decide) rfl (fun ls hl => ?_)
  obtain ⟨w56, hqw56, h⟩ := ms_bd h
  refine wb_X10_scheme_L56 hX (o := w56) (fun H locs ls hW hl => ?_) _ _ _ _ _ _ _ _ hqw56 hW (lv_sub hl [2, 3, 1, 0] rfl)
  refine lv_iload hx hb dX10_scheme_90 (lv_at hl 2 rfl) ?_
  refine lv_if_eq (tgt := 103) hx hb dX10_scheme_92 (by decide) (fun k => ?_) (fun k => ?_)
  · have h := ms_ifp h k
    refine lv_iconst (v := 0) hx hb dX10_scheme_103 (by decide) ?_
    obtain rfl := Option.some.inj h
    exact ms_zret hX (ms_nz (Or.inl rfl)) hW dX10_scheme_104
  · have h := ms_ifn h k
    refine lv_aload_n hx hb dX10_scheme_95 rfl (lv_at hl 0 rfl) ?_
    refine lv_lload_n hx hb dX10_scheme_96 rfl (lv_at hl 1 rfl) ?_
    obtain ⟨q97, hq97, h⟩ := ms_bd h
    refine ms_callV (fn_X10_isAllowed l G a_this rr x_inputSize x_outputSize x_made w56.1 x_n x_written x_tree x_pos x_raw x_opened x_whole x_name x_code w56.2.1 v1 hq97) wm_X10_isAllowed wv_X10_103 hX hW [0, 1] rfl rfl rfl rfl rfl ⟨Nat.le_of_ble_eq_true rfl, Nat.le_of_ble_eq_true rfl, rfl, rfl, Nat.zero_le _, Nat.zero_le _⟩ rfl hl.1 [] rfl (Nat.le_of_ble_eq_true rfl) dX10_scheme_97 (fun H locs hW => ?_)
    have hW : ms_W G A s H locs [ob_X10 a_this rr x_inputSize x_outputSize x_made w56.1 x_n x_written x_tree x_pos x_raw x_opened x_whole x_name x_code, (rr 4, .inl (G.2.1 2, 4, .inr (.inl w56.2.1)))] := hW
    refine W.eq (g2 := F0 m 100 ls [.int q97]) rfl ?_
    refine lv_if_eq (tgt := 105) hx hb dX10_scheme_100 (by decide) (fun k => ?_) (fun k => ?_)
    · have h := ms_ifp h k
      refine lv_aload_n hx hb dX10_scheme_105 rfl (lv_at hl 0 rfl) ?_
      refine ms_get ff_X10_23 hX hW 0 rfl rfl dX10_scheme_106 ?_
      refine lv_aload_n hx hb dX10_scheme_109 rfl (lv_at hl 0 rfl) ?_
      refine ms_get ff_X10_100 hX hW 0 rfl rfl dX10_scheme_110 ?_
      refine lv_lload_n hx hb dX10_scheme_113 rfl (lv_at hl 1 rfl) ?_
      obtain ⟨k, h⟩ := ms_gi_some h
      refine ms_last hX hW 1 rfl k dX10_scheme_114 (fun H locs hW => ?_)
      have hW : ms_W G A s H locs [ob_X10 a_this rr x_inputSize x_outputSize x_made w56.1 x_n x_written x_tree x_pos x_raw x_opened x_whole x_name x_code, (rr 4, .inl (G.2.1 2, 4, .inr (.inl (vp_updL w56.2.1 w56.1.toNatClampNeg v1))))] := hW
      refine lv_aload_n hx hb dX10_scheme_115 rfl (lv_at hl 0 rfl) ?_
      refine lv_dup hx hb dX10_scheme_116 rfl ?_
      refine ms_get ff_X10_100 hX hW 0 rfl rfl dX10_scheme_117 ?_
      refine lv_iconst (v := 1) hx hb dX10_scheme_120 (by decide) ?_
      refine lv_iadd hx hb dX10_scheme_121 ?_
      refine ms_put ff_X10_100 fp_X10_7 rfl hX hW 0 rfl rfl rfl (Nat.le_of_ble_eq_true rfl) dX10_scheme_122 (fun H locs hW => ?_)
      have hW : ms_W G A s H locs [ob_X10 a_this rr x_inputSize x_outputSize x_made (w56.1 + 1) x_n x_written x_tree x_pos x_raw x_opened x_whole x_name x_code, (rr 4, .inl (G.2.1 2, 4, .inr (.inl (vp_updL w56.2.1 w56.1.toNatClampNeg v1))))] := hW
      refine lv_iconst (v := 1) hx hb dX10_scheme_125 (by decide) ?_
      obtain rfl := Option.some.inj h
      exact ms_zret hX (ms_nz (Or.inr rfl)) hW dX10_scheme_126
    · have h := ms_ifn h k
      refine lv_iconst (v := 0) hx hb dX10_scheme_103 (by decide) ?_
      obtain rfl := Option.some.inj h
      exact ms_zret hX (ms_nz (Or.inl rfl)) hW dX10_scheme_104
def f_X10_scheme_L50 (v1 : Int64) (x_schemes : Int32) (x_schemeOf : Nat → Int64) (v3 : Int32) : Option (Int32 × (Nat → Int64) × Int32) := f_X10_scheme_L51 v1 x_schemes x_schemeOf v3 0
set_option maxHeartbeats 4000000 in
set_option maxRecDepth 100000 in
theorem wb_X10_scheme_L50 {p : Program} {l : Launch} {e : Env} {s : State} {m : MethodId} {args : Array Value} {below : List Frame} {meth : Method} {c : Code} {G : Gc} {A : Nat → Prop} {H : Heap} {locs : List Loc} {ls : Array Slot} {a_this : Nat} {rr : Nat → Nat} {x_inputSize : Int32} {x_outputSize : Int32} {x_made : Int32} {x_n : Int32} {x_written : Int32} {x_tree : Int32} {x_pos : Int32} {x_raw : Int32} {x_opened : Int32} {x_whole : Int32} {x_name : Int32} {x_code : Int32} {v1 : Int64} {x_schemes : Int32} {x_schemeOf : Nat → Int64} {v3 : Int32} {o : Int32 × (Nat → Int64) × Int32} (hX : ms_CX p s m args meth c cX10_scheme 6 RX10 (some .boolean) G A)   (h : f_X10_scheme_L50 v1 x_schemes x_schemeOf v3 = some o) (hW : ms_W G A s H locs [ob_X10 a_this rr x_inputSize x_outputSize x_made x_schemes x_n x_written x_tree x_pos x_raw x_opened x_whole x_name x_code, (rr 4, .inl (G.2.1 2, 4, .inr (.inl x_schemeOf)))]) (hl : lv_has ls 6 [(0, .ref a_this), (1, .long v1), (3, .int v3)]) : W p l e rm_X10_scheme s m args below meth c H locs 0 0 (ms_Q G A below args s [ob_X10 a_this rr x_inputSize x_outputSize x_made o.1 x_n x_written x_tree x_pos x_raw x_opened x_whole x_name x_code, (rr 4, .inl (G.2.1 2, 4, .inr (.inl o.2.1)))] (some (.int o.2.2))) (F0 m 50 ls []) := by
  have hx := hX.1.1
  have hb := hX.1.2.1
  unfold f_X10_scheme_L50 at h
  refine lv_iconst (v := 0) hx hb dX10_scheme_50 (by decide) ?_
  exact wb_X10_scheme_L51 hX h hW (lv_sub hl [0, 1, 2] rfl)
def f_X10_scheme_L2 (v1 : Int64) : Nat → Int32 → (Nat → Int64) → Int32 → Option (Int32 × (Nat → Int64) × Int32)
  | 0, _, _, _ => none
  | n + 1, x_schemes, x_schemeOf, v3 => (if 8 ≤ v3 then some (x_schemes, x_schemeOf, v3) else (f_X10_byteOf v1 v3).bind (fun q10 => (if q10 < 97 then some (x_schemes, x_schemeOf, v3) else (f_X10_byteOf v1 v3).bind (fun q20 => (if 122 < q20 then some (x_schemes, x_schemeOf, v3) else f_X10_scheme_L2 v1 n x_schemes x_schemeOf (v3 + 1))))))
set_option maxHeartbeats 4000000 in
set_option maxRecDepth 100000 in
theorem wb_X10_scheme_L2 {p : Program} {l : Launch} {e : Env} {s : State} {m : MethodId} {args : Array Value} {below : List Frame} {meth : Method} {c : Code} {G : Gc} {A : Nat → Prop} {a_this : Nat} {rr : Nat → Nat} {x_inputSize : Int32} {x_outputSize : Int32} {x_made : Int32} {x_n : Int32} {x_written : Int32} {x_tree : Int32} {x_pos : Int32} {x_raw : Int32} {x_opened : Int32} {x_whole : Int32} {x_name : Int32} {x_code : Int32} {v1 : Int64} {Q : State → Prop} {o : Int32 × (Nat → Int64) × Int32} (hX : ms_CX p s m args meth c cX10_scheme 6 RX10 (some .boolean) G A) (hq : ∀ (H : Heap) (locs : List Loc) (ls : Array Slot), ms_W G A s H locs [ob_X10 a_this rr x_inputSize x_outputSize x_made o.1 x_n x_written x_tree x_pos x_raw x_opened x_whole x_name x_code, (rr 4, .inl (G.2.1 2, 4, .inr (.inl o.2.1)))] → lv_has ls 6 [(0, .ref a_this), (1, .long v1), (3, .int o.2.2)] → W p l e rm_X10_scheme s m args below meth c H locs 0 0 Q (F0 m 34 ls [])) : ∀ (n : Nat) (x_schemes : Int32) (x_schemeOf : Nat → Int64) (v3 : Int32) (H : Heap) (locs : List Loc) (ls : Array Slot), f_X10_scheme_L2 v1 n x_schemes x_schemeOf v3 = some o → ms_W G A s H locs [ob_X10 a_this rr x_inputSize x_outputSize x_made x_schemes x_n x_written x_tree x_pos x_raw x_opened x_whole x_name x_code, (rr 4, .inl (G.2.1 2, 4, .inr (.inl x_schemeOf)))] → lv_has ls 6 [(0, .ref a_this), (1, .long v1), (3, .int v3)] → W p l e rm_X10_scheme s m args below meth c H locs 0 0 Q (F0 m 2 ls []) := by
  have hx := hX.1.1
  have hb := hX.1.2.1
  intro n
  induction n with
  | zero => intro x_schemes x_schemeOf v3 H locs ls h; rw [f_X10_scheme_L2] at h; cases h
  | succ n ih =>
    intro x_schemes x_schemeOf v3 H locs ls h hW hl
    rw [f_X10_scheme_L2] at h
    refine lv_iload_n hx hb dX10_scheme_2 rfl (lv_at hl 2 rfl) ?_
    refine lv_bipush (v := 8) hx hb dX10_scheme_3 (by decide) ?_
    refine lv_icmp_ge (tgt := 34) hx hb dX10_scheme_5 (by decide) (fun k => ?_) (fun k => ?_)
    · have h := ms_ifp h k
      obtain rfl := Option.some.inj h
      exact hq _ _ _ hW (lv_sub hl [0, 1, 2] rfl)
    · have h := ms_ifn h k
      refine lv_lload_n hx hb dX10_scheme_8 rfl (lv_at hl 1 rfl) ?_
      refine lv_iload_n hx hb dX10_scheme_9 rfl (lv_at hl 2 rfl) ?_
      obtain ⟨q10, hq10, h⟩ := ms_bd h
      refine ms_callS (fn_X10_byteOf l G v1 v3 hq10) wm_X10_byteOf wz_X10_92 hX hW [] rfl rfl rfl ⟨Nat.le_of_ble_eq_true rfl, Nat.le_of_ble_eq_true rfl, rfl, rfl, Nat.zero_le _, Nat.zero_le _⟩ rfl hl.1 [] rfl (Nat.le_of_ble_eq_true rfl) dX10_scheme_10 (fun H locs hW => ?_)
      have hW : ms_W G A s H locs [ob_X10 a_this rr x_inputSize x_outputSize x_made x_schemes x_n x_written x_tree x_pos x_raw x_opened x_whole x_name x_code, (rr 4, .inl (G.2.1 2, 4, .inr (.inl x_schemeOf)))] := hW
      refine W.eq (g2 := F0 m 13 ls [.int q10]) rfl ?_
      refine lv_bipush (v := 97) hx hb dX10_scheme_13 (by decide) ?_
      refine lv_icmp_lt (tgt := 34) hx hb dX10_scheme_15 (by decide) (fun k => ?_) (fun k => ?_)
      · have h := ms_ifp h k
        obtain rfl := Option.some.inj h
        exact hq _ _ _ hW (lv_sub hl [0, 1, 2] rfl)
      · have h := ms_ifn h k
        refine lv_lload_n hx hb dX10_scheme_18 rfl (lv_at hl 1 rfl) ?_
        refine lv_iload_n hx hb dX10_scheme_19 rfl (lv_at hl 2 rfl) ?_
        obtain ⟨q20, hq20, h⟩ := ms_bd h
        refine ms_callS (fn_X10_byteOf l G v1 v3 hq20) wm_X10_byteOf wz_X10_92 hX hW [] rfl rfl rfl ⟨Nat.le_of_ble_eq_true rfl, Nat.le_of_ble_eq_true rfl, rfl, rfl, Nat.zero_le _, Nat.zero_le _⟩ rfl hl.1 [] rfl (Nat.le_of_ble_eq_true rfl) dX10_scheme_20 (fun H locs hW => ?_)
        have hW : ms_W G A s H locs [ob_X10 a_this rr x_inputSize x_outputSize x_made x_schemes x_n x_written x_tree x_pos x_raw x_opened x_whole x_name x_code, (rr 4, .inl (G.2.1 2, 4, .inr (.inl x_schemeOf)))] := hW
        refine W.eq (g2 := F0 m 23 ls [.int q20]) rfl ?_
        refine lv_bipush (v := 122) hx hb dX10_scheme_23 (by decide) ?_
        refine lv_icmp_gt (tgt := 34) hx hb dX10_scheme_25 (by decide) (fun k => ?_) (fun k => ?_)
        · have h := ms_ifp h k
          obtain rfl := Option.some.inj h
          exact hq _ _ _ hW (lv_sub hl [0, 1, 2] rfl)
        · have h := ms_ifn h k
          refine lv_iinc (v := v3 + 1) (lv' := [(3, .int (v3 + 1)), (0, .ref a_this), (1, .long v1)]) hx hb dX10_scheme_28 hl (k := 2) rfl rfl (by decide) rfl (fun ls hl => ?_)
          refine lv_goto (tgt := 2) hx hb dX10_scheme_31 (by decide) ?_
          exact ih _ _ _ _ _ _ h hW (lv_sub hl [1, 2, 0] rfl)
def f_X10_scheme (x_schemes : Int32) (x_schemeOf : Nat → Int64) (v1 : Int64) : Option (Int32 × (Nat → Int64) × Int32) := (f_X10_scheme_L2 v1 1000 x_schemes x_schemeOf 0).bind (fun w2 => (if w2.2.2 ≤ 0 then f_X10_scheme_L50 v1 w2.1 w2.2.1 w2.2.2 else (if 4 ≤ w2.1 then f_X10_scheme_L50 v1 w2.1 w2.2.1 w2.2.2 else f_X10_scheme_L51 v1 w2.1 w2.2.1 w2.2.2 1)))
set_option maxHeartbeats 4000000 in
set_option maxRecDepth 100000 in
theorem fn_X10_scheme (l : Launch) (G : Gc) (a_this : Nat) (rr : Nat → Nat) (x_inputSize : Int32) (x_outputSize : Int32) (x_made : Int32) (x_schemes : Int32) (x_n : Int32) (x_written : Int32) (x_tree : Int32) (x_pos : Int32) (x_raw : Int32) (x_opened : Int32) (x_whole : Int32) (x_name : Int32) (x_code : Int32) (x_schemeOf : Nat → Int64) (v1 : Int64)  {o : Int32 × (Nat → Int64) × Int32} (h : f_X10_scheme x_schemes x_schemeOf v1 = some o) : ms_Fn l G yX10_scheme cX10_scheme 6 (some .boolean) rm_X10_scheme [.ref a_this, .long v1] [ob_X10 a_this rr x_inputSize x_outputSize x_made x_schemes x_n x_written x_tree x_pos x_raw x_opened x_whole x_name x_code, (rr 4, .inl (G.2.1 2, 4, .inr (.inl x_schemeOf)))] [ob_X10 a_this rr x_inputSize x_outputSize x_made o.1 x_n x_written x_tree x_pos x_raw x_opened x_whole x_name x_code, (rr 4, .inl (G.2.1 2, 4, .inr (.inl o.2.1)))] (some (.int o.2.2)) := by
  refine ms_start RX10 (by decide +kernel) rfl (Nat.le_of_ble_eq_true rfl) (fun p e s m below meth c A ls hX hW hl => ?_)
  have hx := hX.1.1
  have hb := hX.1.2.1
  have hl : lv_has ls 6 [(0, .ref a_this), (1, .long v1)] := hl
  unfold f_X10_scheme at h
  refine lv_iconst (v := 0) hx hb dX10_scheme_0 (by decide) ?_
  refine lv_istore_n (lv' := [(3, .int 0), (0, .ref a_this), (1, .long v1)]) hx hb dX10_scheme_1 rfl hl (by decide) rfl (fun ls hl => ?_)
  obtain ⟨w2, hqw2, h⟩ := ms_bd h
  refine wb_X10_scheme_L2 hX (o := w2) (fun H locs ls hW hl => ?_) _ _ _ _ _ _ _ hqw2 hW (lv_sub hl [1, 2, 0] rfl)
  refine lv_iload_n hx hb dX10_scheme_34 rfl (lv_at hl 2 rfl) ?_
  refine lv_if_le (tgt := 50) hx hb dX10_scheme_35 (by decide) (fun k => ?_) (fun k => ?_)
  · have h := ms_ifp h k
    exact wb_X10_scheme_L50 hX h hW (lv_sub hl [0, 1, 2] rfl)
  · have h := ms_ifn h k
    refine lv_aload_n hx hb dX10_scheme_38 rfl (lv_at hl 0 rfl) ?_
    refine ms_get ff_X10_100 hX hW 0 rfl rfl dX10_scheme_39 ?_
    refine lv_iconst (v := 4) hx hb dX10_scheme_42 (by decide) ?_
    refine lv_icmp_ge (tgt := 50) hx hb dX10_scheme_43 (by decide) (fun k => ?_) (fun k => ?_)
    · have h := ms_ifp h k
      exact wb_X10_scheme_L50 hX h hW (lv_sub hl [0, 1, 2] rfl)
    · have h := ms_ifn h k
      refine lv_iconst (v := 1) hx hb dX10_scheme_46 (by decide) ?_
      refine lv_goto (tgt := 51) hx hb dX10_scheme_47 (by decide) ?_
      exact wb_X10_scheme_L51 hX h hW (lv_sub hl [0, 1, 2] rfl)
def rm_X10_reset : Room := { frames := 0, cells := 0, slots := 0, locals := 0 }
def f_X10_reset_L33  : Nat → Int32 → (Nat → Int32) → (Nat → Int32) → Int32 → Option (Int32 × (Nat → Int32) × (Nat → Int32))
  | 0, _, _, _, _ => none
  | n + 1, x_schemes, x_actions, x_allowed, v1 => (if 702 ≤ v1 then some (x_schemes, x_actions, x_allowed) else ms_gi v1 702 (f_X10_reset_L33 n x_schemes x_actions (upd x_allowed v1.toNatClampNeg (vp_nar .boolean 0)) (v1 + 1)))
set_option maxHeartbeats 4000000 in
set_option maxRecDepth 100000 in
theorem wb_X10_reset_L33 {p : Program} {l : Launch} {e : Env} {s : State} {m : MethodId} {args : Array Value} {below : List Frame} {meth : Method} {c : Code} {G : Gc} {A : Nat → Prop} {a_this : Nat} {rr : Nat → Nat} {x_inputSize : Int32} {x_outputSize : Int32} {x_made : Int32} {x_n : Int32} {x_written : Int32} {x_tree : Int32} {x_pos : Int32} {x_raw : Int32} {x_opened : Int32} {x_whole : Int32} {x_name : Int32} {x_code : Int32}  {Q : State → Prop} {o : Int32 × (Nat → Int32) × (Nat → Int32)} (hX : ms_CX p s m args meth c cX10_reset 2 RX10 none G A) (hq : ∀ (H : Heap) (locs : List Loc) (ls : Array Slot), ms_W G A s H locs [ob_X10 a_this rr x_inputSize x_outputSize x_made o.1 x_n x_written x_tree x_pos x_raw x_opened x_whole x_name x_code, (rr 2, .inl (G.2.1 1, 26, .inl o.2.1)), (rr 3, .inl (G.2.1 3, 702, .inl o.2.2))] → lv_has ls 2 [(0, .ref a_this)] → W p l e rm_X10_reset s m args below meth c H locs 0 0 Q (F0 m 53 ls [])) : ∀ (n : Nat) (x_schemes : Int32) (x_actions : Nat → Int32) (x_allowed : Nat → Int32) (v1 : Int32) (H : Heap) (locs : List Loc) (ls : Array Slot), f_X10_reset_L33  n x_schemes x_actions x_allowed v1 = some o → ms_W G A s H locs [ob_X10 a_this rr x_inputSize x_outputSize x_made x_schemes x_n x_written x_tree x_pos x_raw x_opened x_whole x_name x_code, (rr 2, .inl (G.2.1 1, 26, .inl x_actions)), (rr 3, .inl (G.2.1 3, 702, .inl x_allowed))] → lv_has ls 2 [(0, .ref a_this), (1, .int v1)] → W p l e rm_X10_reset s m args below meth c H locs 0 0 Q (F0 m 33 ls []) := by
  have hx := hX.1.1
  have hb := hX.1.2.1
  intro n
  induction n with
  | zero => intro x_schemes x_actions x_allowed v1 H locs ls h; rw [f_X10_reset_L33] at h; cases h
  | succ n ih =>
    intro x_schemes x_actions x_allowed v1 H locs ls h hW hl
    rw [f_X10_reset_L33] at h
    refine lv_iload_n hx hb dX10_reset_33 rfl (lv_at hl 1 rfl) ?_
    refine lv_sipush (v := 702) hx hb dX10_reset_34 (by decide) ?_
    refine lv_icmp_ge (tgt := 53) hx hb dX10_reset_37 (by decide) (fun k => ?_) (fun k => ?_)
    · have h := ms_ifp h k
      obtain rfl := Option.some.inj h
      exact hq _ _ _ hW (lv_sub hl [0] rfl)
    · have h := ms_ifn h k
      refine lv_aload_n hx hb dX10_reset_40 rfl (lv_at hl 0 rfl) ?_
      refine ms_get ff_X10_19 hX hW 0 rfl rfl dX10_reset_41 ?_
      refine lv_iload_n hx hb dX10_reset_44 rfl (lv_at hl 1 rfl) ?_
      refine lv_iconst (v := 0) hx hb dX10_reset_45 (by decide) ?_
      obtain ⟨k, h⟩ := ms_gi_some h
      refine ms_zast hX hW 2 rfl k dX10_reset_46 (fun H locs hW => ?_)
      have hW : ms_W G A s H locs [ob_X10 a_this rr x_inputSize x_outputSize x_made x_schemes x_n x_written x_tree x_pos x_raw x_opened x_whole x_name x_code, (rr 2, .inl (G.2.1 1, 26, .inl x_actions)), (rr 3, .inl (G.2.1 3, 702, .inl (upd x_allowed v1.toNatClampNeg (vp_nar .boolean 0))))] := hW
      refine lv_iinc (v := v1 + 1) (lv' := [(1, .int (v1 + 1)), (0, .ref a_this)]) hx hb dX10_reset_47 hl (k := 1) rfl rfl (by decide) rfl (fun ls hl => ?_)
      refine lv_goto (tgt := 33) hx hb dX10_reset_50 (by decide) ?_
      exact ih _ _ _ _ _ _ _ h hW (lv_sub hl [1, 0] rfl)
def f_X10_reset_L24  (kk : Int32 → (Nat → Int32) → (Nat → Int32) → Int32 → Option (Int32 × (Nat → Int32) × (Nat → Int32))) (x_schemes : Int32) (x_actions : Nat → Int32) (x_allowed : Nat → Int32) (v1 : Int32) (z1 : Int32) (z2 : Int32) : Option (Int32 × (Nat → Int32) × (Nat → Int32)) := ms_gi z1 26 (kk x_schemes (upd x_actions z1.toNatClampNeg z2) x_allowed (v1 + 1))
set_option maxHeartbeats 4000000 in
set_option maxRecDepth 100000 in
theorem wb_X10_reset_L24 {p : Program} {l : Launch} {e : Env} {s : State} {m : MethodId} {args : Array Value} {below : List Frame} {meth : Method} {c : Code} {G : Gc} {A : Nat → Prop} {H : Heap} {locs : List Loc} {ls : Array Slot} {a_this : Nat} {rr : Nat → Nat} {x_inputSize : Int32} {x_outputSize : Int32} {x_made : Int32} {x_n : Int32} {x_written : Int32} {x_tree : Int32} {x_pos : Int32} {x_raw : Int32} {x_opened : Int32} {x_whole : Int32} {x_name : Int32} {x_code : Int32}  {kk : Int32 → (Nat → Int32) → (Nat → Int32) → Int32 → Option (Int32 × (Nat → Int32) × (Nat → Int32))} {Q : State → Prop} {x_schemes : Int32} {x_actions : Nat → Int32} {x_allowed : Nat → Int32} {v1 : Int32} {z1 : Int32} {z2 : Int32} {o : Int32 × (Nat → Int32) × (Nat → Int32)} (hX : ms_CX p s m args meth c cX10_reset 2 RX10 none G A) (hq : ∀ (H : Heap) (locs : List Loc) (ls : Array Slot), ms_W G A s H locs [ob_X10 a_this rr x_inputSize x_outputSize x_made o.1 x_n x_written x_tree x_pos x_raw x_opened x_whole x_name x_code, (rr 2, .inl (G.2.1 1, 26, .inl o.2.1)), (rr 3, .inl (G.2.1 3, 702, .inl o.2.2))] → lv_has ls 2 [(0, .ref a_this)] → W p l e rm_X10_reset s m args below meth c H locs 0 0 Q (F0 m 31 ls [])) (ih : ∀ (x_schemes : Int32) (x_actions : Nat → Int32) (x_allowed : Nat → Int32) (v1 : Int32) (H : Heap) (locs : List Loc) (ls : Array Slot), kk x_schemes x_actions x_allowed v1 = some o → ms_W G A s H locs [ob_X10 a_this rr x_inputSize x_outputSize x_made x_schemes x_n x_written x_tree x_pos x_raw x_opened x_whole x_name x_code, (rr 2, .inl (G.2.1 1, 26, .inl x_actions)), (rr 3, .inl (G.2.1 3, 702, .inl x_allowed))] → lv_has ls 2 [(0, .ref a_this), (1, .int v1)] → W p l e rm_X10_reset s m args below meth c H locs 0 0 Q (F0 m 2 ls [])) (h : f_X10_reset_L24  kk x_schemes x_actions x_allowed v1 z1 z2 = some o) (hW : ms_W G A s H locs [ob_X10 a_this rr x_inputSize x_outputSize x_made x_schemes x_n x_written x_tree x_pos x_raw x_opened x_whole x_name x_code, (rr 2, .inl (G.2.1 1, 26, .inl x_actions)), (rr 3, .inl (G.2.1 3, 702, .inl x_allowed))]) (hl : lv_has ls 2 [(0, .ref a_this), (1, .int v1)]) : W p l e rm_X10_reset s m args below meth c H locs 0 0 Q (F0 m 24 ls [.int z2, .int z1, .ref (rr 2)]) := by
  have hx := hX.1.1
  have hb := hX.1.2.1
  unfold f_X10_reset_L24 at h
  obtain ⟨k, h⟩ := ms_gi_some h
  refine ms_iast hX hW 1 rfl k dX10_reset_24 (fun H locs hW => ?_)
  have hW : ms_W G A s H locs [ob_X10 a_this rr x_inputSize x_outputSize x_made x_schemes x_n x_written x_tree x_pos x_raw x_opened x_whole x_name x_code, (rr 2, .inl (G.2.1 1, 26, .inl (upd x_actions z1.toNatClampNeg z2))), (rr 3, .inl (G.2.1 3, 702, .inl x_allowed))] := hW
  refine lv_iinc (v := v1 + 1) (lv' := [(1, .int (v1 + 1)), (0, .ref a_this)]) hx hb dX10_reset_25 hl (k := 1) rfl rfl (by decide) rfl (fun ls hl => ?_)
  refine lv_goto (tgt := 2) hx hb dX10_reset_28 (by decide) ?_
  exact ih _ _ _ _ _ _ _ h hW (lv_sub hl [1, 0] rfl)
def f_X10_reset_L2  : Nat → Int32 → (Nat → Int32) → (Nat → Int32) → Int32 → Option (Int32 × (Nat → Int32) × (Nat → Int32))
  | 0, _, _, _, _ => none
  | n + 1, x_schemes, x_actions, x_allowed, v1 => (if 26 ≤ v1 then some (x_schemes, x_actions, x_allowed) else (if v1 = 18 then f_X10_reset_L24 (f_X10_reset_L2 n) x_schemes x_actions x_allowed v1 v1 2 else f_X10_reset_L24 (f_X10_reset_L2 n) x_schemes x_actions x_allowed v1 v1 1))
set_option maxHeartbeats 4000000 in
set_option maxRecDepth 100000 in
theorem wb_X10_reset_L2 {p : Program} {l : Launch} {e : Env} {s : State} {m : MethodId} {args : Array Value} {below : List Frame} {meth : Method} {c : Code} {G : Gc} {A : Nat → Prop} {a_this : Nat} {rr : Nat → Nat} {x_inputSize : Int32} {x_outputSize : Int32} {x_made : Int32} {x_n : Int32} {x_written : Int32} {x_tree : Int32} {x_pos : Int32} {x_raw : Int32} {x_opened : Int32} {x_whole : Int32} {x_name : Int32} {x_code : Int32}  {Q : State → Prop} {o : Int32 × (Nat → Int32) × (Nat → Int32)} (hX : ms_CX p s m args meth c cX10_reset 2 RX10 none G A) (hq : ∀ (H : Heap) (locs : List Loc) (ls : Array Slot), ms_W G A s H locs [ob_X10 a_this rr x_inputSize x_outputSize x_made o.1 x_n x_written x_tree x_pos x_raw x_opened x_whole x_name x_code, (rr 2, .inl (G.2.1 1, 26, .inl o.2.1)), (rr 3, .inl (G.2.1 3, 702, .inl o.2.2))] → lv_has ls 2 [(0, .ref a_this)] → W p l e rm_X10_reset s m args below meth c H locs 0 0 Q (F0 m 31 ls [])) : ∀ (n : Nat) (x_schemes : Int32) (x_actions : Nat → Int32) (x_allowed : Nat → Int32) (v1 : Int32) (H : Heap) (locs : List Loc) (ls : Array Slot), f_X10_reset_L2  n x_schemes x_actions x_allowed v1 = some o → ms_W G A s H locs [ob_X10 a_this rr x_inputSize x_outputSize x_made x_schemes x_n x_written x_tree x_pos x_raw x_opened x_whole x_name x_code, (rr 2, .inl (G.2.1 1, 26, .inl x_actions)), (rr 3, .inl (G.2.1 3, 702, .inl x_allowed))] → lv_has ls 2 [(0, .ref a_this), (1, .int v1)] → W p l e rm_X10_reset s m args below meth c H locs 0 0 Q (F0 m 2 ls []) := by
  have hx := hX.1.1
  have hb := hX.1.2.1
  intro n
  induction n with
  | zero => intro x_schemes x_actions x_allowed v1 H locs ls h; rw [f_X10_reset_L2] at h; cases h
  | succ n ih =>
    intro x_schemes x_actions x_allowed v1 H locs ls h hW hl
    rw [f_X10_reset_L2] at h
    refine lv_iload_n hx hb dX10_reset_2 rfl (lv_at hl 1 rfl) ?_
    refine lv_bipush (v := 26) hx hb dX10_reset_3 (by decide) ?_
    refine lv_icmp_ge (tgt := 31) hx hb dX10_reset_5 (by decide) (fun k => ?_) (fun k => ?_)
    · have h := ms_ifp h k
      obtain rfl := Option.some.inj h
      exact hq _ _ _ hW (lv_sub hl [0] rfl)
    · have h := ms_ifn h k
      refine lv_aload_n hx hb dX10_reset_8 rfl (lv_at hl 0 rfl) ?_
      refine ms_get ff_X10_16 hX hW 0 rfl rfl dX10_reset_9 ?_
      refine lv_iload_n hx hb dX10_reset_12 rfl (lv_at hl 1 rfl) ?_
      refine lv_iload_n hx hb dX10_reset_13 rfl (lv_at hl 1 rfl) ?_
      refine lv_bipush (v := 18) hx hb dX10_reset_14 (by decide) ?_
      refine lv_icmp_ne (tgt := 23) hx hb dX10_reset_16 (by decide) (fun k => ?_) (fun k => ?_)
      · have h := ms_ifn h k
        refine lv_iconst (v := 1) hx hb dX10_reset_23 (by decide) ?_
        exact wb_X10_reset_L24 hX hq (ih) h hW (lv_sub hl [0, 1] rfl)
      · have h := ms_ifp h k
        refine lv_iconst (v := 2) hx hb dX10_reset_19 (by decide) ?_
        refine lv_goto (tgt := 24) hx hb dX10_reset_20 (by decide) ?_
        exact wb_X10_reset_L24 hX hq (ih) h hW (lv_sub hl [0, 1] rfl)
def f_X10_reset (x_schemes : Int32) (x_actions : Nat → Int32) (x_allowed : Nat → Int32)  : Option (Int32 × (Nat → Int32) × (Nat → Int32)) := (f_X10_reset_L2 1000 x_schemes x_actions x_allowed 0).bind (fun w2 => (f_X10_reset_L33 1000 w2.1 w2.2.1 w2.2.2 0).bind (fun w33 => some (0, w33.2.1, w33.2.2)))
set_option maxHeartbeats 4000000 in
set_option maxRecDepth 100000 in
theorem fn_X10_reset (l : Launch) (G : Gc) (a_this : Nat) (rr : Nat → Nat) (x_inputSize : Int32) (x_outputSize : Int32) (x_made : Int32) (x_schemes : Int32) (x_n : Int32) (x_written : Int32) (x_tree : Int32) (x_pos : Int32) (x_raw : Int32) (x_opened : Int32) (x_whole : Int32) (x_name : Int32) (x_code : Int32) (x_actions : Nat → Int32) (x_allowed : Nat → Int32)   {o : Int32 × (Nat → Int32) × (Nat → Int32)} (h : f_X10_reset x_schemes x_actions x_allowed = some o) : ms_Fn l G yX10_reset cX10_reset 2 none rm_X10_reset [.ref a_this] [ob_X10 a_this rr x_inputSize x_outputSize x_made x_schemes x_n x_written x_tree x_pos x_raw x_opened x_whole x_name x_code, (rr 2, .inl (G.2.1 1, 26, .inl x_actions)), (rr 3, .inl (G.2.1 3, 702, .inl x_allowed))] [ob_X10 a_this rr x_inputSize x_outputSize x_made o.1 x_n x_written x_tree x_pos x_raw x_opened x_whole x_name x_code, (rr 2, .inl (G.2.1 1, 26, .inl o.2.1)), (rr 3, .inl (G.2.1 3, 702, .inl o.2.2))] none := by
  refine ms_start RX10 (by decide +kernel) rfl (Nat.le_of_ble_eq_true rfl) (fun p e s m below meth c A ls hX hW hl => ?_)
  have hx := hX.1.1
  have hb := hX.1.2.1
  have hl : lv_has ls 2 [(0, .ref a_this)] := hl
  unfold f_X10_reset at h
  refine lv_iconst (v := 0) hx hb dX10_reset_0 (by decide) ?_
  refine lv_istore_n (lv' := [(1, .int 0), (0, .ref a_this)]) hx hb dX10_reset_1 rfl hl (by decide) rfl (fun ls hl => ?_)
  obtain ⟨w2, hqw2, h⟩ := ms_bd h
  refine wb_X10_reset_L2 hX (o := w2) (fun H locs ls hW hl => ?_) _ _ _ _ _ _ _ _ hqw2 hW (lv_sub hl [1, 0] rfl)
  refine lv_iconst (v := 0) hx hb dX10_reset_31 (by decide) ?_
  refine lv_istore_n (lv' := [(1, .int 0), (0, .ref a_this)]) hx hb dX10_reset_32 rfl hl (by decide) rfl (fun ls hl => ?_)
  obtain ⟨w33, hqw33, h⟩ := ms_bd h
  refine wb_X10_reset_L33 hX (o := w33) (fun H locs ls hW hl => ?_) _ _ _ _ _ _ _ _ hqw33 hW (lv_sub hl [1, 0] rfl)
  refine lv_aload_n hx hb dX10_reset_53 rfl (lv_at hl 0 rfl) ?_
  refine lv_iconst (v := 0) hx hb dX10_reset_54 (by decide) ?_
  refine ms_put ff_X10_100 fp_X10_7 rfl hX hW 0 rfl rfl rfl (Nat.le_of_ble_eq_true rfl) dX10_reset_55 (fun H locs hW => ?_)
  have hW : ms_W G A s H locs [ob_X10 a_this rr x_inputSize x_outputSize x_made 0 x_n x_written x_tree x_pos x_raw x_opened x_whole x_name x_code, (rr 2, .inl (G.2.1 1, 26, .inl w33.2.1)), (rr 3, .inl (G.2.1 3, 702, .inl w33.2.2))] := hW
  obtain rfl := Option.some.inj h
  exact ms_vret hX hW dX10_reset_58
def rm_X10_isLetter : Room := { frames := 0, cells := 0, slots := 0, locals := 0 }
def f_X10_isLetter_L12 (v0 : Int32)  : Option (Int32) := (if v0 < 65 then some 0 else (if 90 < v0 then some 0 else some 1))
set_option maxHeartbeats 4000000 in
set_option maxRecDepth 100000 in
theorem wb_X10_isLetter_L12 {p : Program} {l : Launch} {e : Env} {s : State} {m : MethodId} {args : Array Value} {below : List Frame} {meth : Method} {c : Code} {G : Gc} {A : Nat → Prop} {H : Heap} {locs : List Loc} {ls : Array Slot}   {v0 : Int32}  {o : Int32} (hX : ms_CX p s m args meth c cX10_isLetter 1 RX10 (some .boolean) G A)   (h : f_X10_isLetter_L12 v0 = some o) (hW : ms_W G A s H locs []) (hl : lv_has ls 1 [(0, .int v0)]) : W p l e rm_X10_isLetter s m args below meth c H locs 0 0 (ms_Q G A below args s [] (some (.int o))) (F0 m 12 ls []) := by
  have hx := hX.1.1
  have hb := hX.1.2.1
  unfold f_X10_isLetter_L12 at h
  refine lv_iload_n hx hb dX10_isLetter_12 rfl (lv_at hl 0 rfl) ?_
  refine lv_bipush (v := 65) hx hb dX10_isLetter_13 (by decide) ?_
  refine lv_icmp_lt (tgt := 28) hx hb dX10_isLetter_15 (by decide) (fun k => ?_) (fun k => ?_)
  · have h := ms_ifp h k
    refine lv_iconst (v := 0) hx hb dX10_isLetter_28 (by decide) ?_
    obtain rfl := Option.some.inj h
    exact ms_zret hX (ms_nz (Or.inl rfl)) hW dX10_isLetter_29
  · have h := ms_ifn h k
    refine lv_iload_n hx hb dX10_isLetter_18 rfl (lv_at hl 0 rfl) ?_
    refine lv_bipush (v := 90) hx hb dX10_isLetter_19 (by decide) ?_
    refine lv_icmp_gt (tgt := 28) hx hb dX10_isLetter_21 (by decide) (fun k => ?_) (fun k => ?_)
    · have h := ms_ifp h k
      refine lv_iconst (v := 0) hx hb dX10_isLetter_28 (by decide) ?_
      obtain rfl := Option.some.inj h
      exact ms_zret hX (ms_nz (Or.inl rfl)) hW dX10_isLetter_29
    · have h := ms_ifn h k
      refine lv_iconst (v := 1) hx hb dX10_isLetter_24 (by decide) ?_
      refine lv_goto (tgt := 29) hx hb dX10_isLetter_25 (by decide) ?_
      obtain rfl := Option.some.inj h
      exact ms_zret hX (ms_nz (Or.inr rfl)) hW dX10_isLetter_29
def f_X10_isLetter  (v0 : Int32) : Option (Int32) := (if v0 < 97 then f_X10_isLetter_L12 v0 else (if v0 ≤ 122 then some 1 else f_X10_isLetter_L12 v0))
set_option maxHeartbeats 4000000 in
set_option maxRecDepth 100000 in
theorem fn_X10_isLetter (l : Launch) (G : Gc)   (v0 : Int32)  {o : Int32} (h : f_X10_isLetter v0 = some o) : ms_Fn l G yX10_isLetter cX10_isLetter 1 (some .boolean) rm_X10_isLetter [.int v0] [] [] (some (.int o)) := by
  refine ms_start RX10 (by decide +kernel) rfl (Nat.le_of_ble_eq_true rfl) (fun p e s m below meth c A ls hX hW hl => ?_)
  have hx := hX.1.1
  have hb := hX.1.2.1
  have hl : lv_has ls 1 [(0, .int v0)] := hl
  unfold f_X10_isLetter at h
  refine lv_iload_n hx hb dX10_isLetter_0 rfl (lv_at hl 0 rfl) ?_
  refine lv_bipush (v := 97) hx hb dX10_isLetter_1 (by decide) ?_
  refine lv_icmp_lt (tgt := 12) hx hb dX10_isLetter_3 (by decide) (fun k => ?_) (fun k => ?_)
  · have h := ms_ifp h k
    exact wb_X10_isLetter_L12 hX h hW (lv_sub hl [0] rfl)
  · have h := ms_ifn h k
    refine lv_iload_n hx hb dX10_isLetter_6 rfl (lv_at hl 0 rfl) ?_
    refine lv_bipush (v := 122) hx hb dX10_isLetter_7 (by decide) ?_
    refine lv_icmp_le (tgt := 24) hx hb dX10_isLetter_9 (by decide) (fun k => ?_) (fun k => ?_)
    · have h := ms_ifp h k
      refine lv_iconst (v := 1) hx hb dX10_isLetter_24 (by decide) ?_
      refine lv_goto (tgt := 29) hx hb dX10_isLetter_25 (by decide) ?_
      obtain rfl := Option.some.inj h
      exact ms_zret hX (ms_nz (Or.inr rfl)) hW dX10_isLetter_29
    · have h := ms_ifn h k
      exact wb_X10_isLetter_L12 hX h hW (lv_sub hl [0] rfl)
def rm_X10_isDigit : Room := { frames := 0, cells := 0, slots := 0, locals := 0 }
def f_X10_isDigit  (v0 : Int32) : Option (Int32) := (if v0 < 48 then some 0 else (if 57 < v0 then some 0 else some 1))
set_option maxHeartbeats 4000000 in
set_option maxRecDepth 100000 in
theorem fn_X10_isDigit (l : Launch) (G : Gc)   (v0 : Int32)  {o : Int32} (h : f_X10_isDigit v0 = some o) : ms_Fn l G yX10_isDigit cX10_isDigit 1 (some .boolean) rm_X10_isDigit [.int v0] [] [] (some (.int o)) := by
  refine ms_start RX10 (by decide +kernel) rfl (Nat.le_of_ble_eq_true rfl) (fun p e s m below meth c A ls hX hW hl => ?_)
  have hx := hX.1.1
  have hb := hX.1.2.1
  have hl : lv_has ls 1 [(0, .int v0)] := hl
  unfold f_X10_isDigit at h
  refine lv_iload_n hx hb dX10_isDigit_0 rfl (lv_at hl 0 rfl) ?_
  refine lv_bipush (v := 48) hx hb dX10_isDigit_1 (by decide) ?_
  refine lv_icmp_lt (tgt := 16) hx hb dX10_isDigit_3 (by decide) (fun k => ?_) (fun k => ?_)
  · have h := ms_ifp h k
    refine lv_iconst (v := 0) hx hb dX10_isDigit_16 (by decide) ?_
    obtain rfl := Option.some.inj h
    exact ms_zret hX (ms_nz (Or.inl rfl)) hW dX10_isDigit_17
  · have h := ms_ifn h k
    refine lv_iload_n hx hb dX10_isDigit_6 rfl (lv_at hl 0 rfl) ?_
    refine lv_bipush (v := 57) hx hb dX10_isDigit_7 (by decide) ?_
    refine lv_icmp_gt (tgt := 16) hx hb dX10_isDigit_9 (by decide) (fun k => ?_) (fun k => ?_)
    · have h := ms_ifp h k
      refine lv_iconst (v := 0) hx hb dX10_isDigit_16 (by decide) ?_
      obtain rfl := Option.some.inj h
      exact ms_zret hX (ms_nz (Or.inl rfl)) hW dX10_isDigit_17
    · have h := ms_ifn h k
      refine lv_iconst (v := 1) hx hb dX10_isDigit_12 (by decide) ?_
      refine lv_goto (tgt := 17) hx hb dX10_isDigit_13 (by decide) ?_
      obtain rfl := Option.some.inj h
      exact ms_zret hX (ms_nz (Or.inr rfl)) hW dX10_isDigit_17
def rm_X10_small : Room := { frames := 0, cells := 0, slots := 0, locals := 0 }
def f_X10_small  (v0 : Int32) : Option (Int32) := (if v0 < 65 then some v0 else (if 90 < v0 then some v0 else some (v0 + 32)))
set_option maxHeartbeats 4000000 in
set_option maxRecDepth 100000 in
theorem fn_X10_small (l : Launch) (G : Gc)   (v0 : Int32)  {o : Int32} (h : f_X10_small v0 = some o) : ms_Fn l G yX10_small cX10_small 1 (some .int) rm_X10_small [.int v0] [] [] (some (.int o)) := by
  refine ms_start RX10 (by decide +kernel) rfl (Nat.le_of_ble_eq_true rfl) (fun p e s m below meth c A ls hX hW hl => ?_)
  have hx := hX.1.1
  have hb := hX.1.2.1
  have hl : lv_has ls 1 [(0, .int v0)] := hl
  unfold f_X10_small at h
  refine lv_iload_n hx hb dX10_small_0 rfl (lv_at hl 0 rfl) ?_
  refine lv_bipush (v := 65) hx hb dX10_small_1 (by decide) ?_
  refine lv_icmp_lt (tgt := 19) hx hb dX10_small_3 (by decide) (fun k => ?_) (fun k => ?_)
  · have h := ms_ifp h k
    refine lv_iload_n hx hb dX10_small_19 rfl (lv_at hl 0 rfl) ?_
    obtain rfl := Option.some.inj h
    exact ms_iret hX hW dX10_small_20
  · have h := ms_ifn h k
    refine lv_iload_n hx hb dX10_small_6 rfl (lv_at hl 0 rfl) ?_
    refine lv_bipush (v := 90) hx hb dX10_small_7 (by decide) ?_
    refine lv_icmp_gt (tgt := 19) hx hb dX10_small_9 (by decide) (fun k => ?_) (fun k => ?_)
    · have h := ms_ifp h k
      refine lv_iload_n hx hb dX10_small_19 rfl (lv_at hl 0 rfl) ?_
      obtain rfl := Option.some.inj h
      exact ms_iret hX hW dX10_small_20
    · have h := ms_ifn h k
      refine lv_iload_n hx hb dX10_small_12 rfl (lv_at hl 0 rfl) ?_
      refine lv_bipush (v := 32) hx hb dX10_small_13 (by decide) ?_
      refine lv_iadd hx hb dX10_small_15 ?_
      refine lv_goto (tgt := 20) hx hb dX10_small_16 (by decide) ?_
      obtain rfl := Option.some.inj h
      exact ms_iret hX hW dX10_small_20
def rm_X10_at : Room := { frames := 0, cells := 0, slots := 0, locals := 0 }
def f_X10_at (x_n : Int32) (x_src : Nat → Int32) (v1 : Int32) : Option (Int32) := (if x_n ≤ v1 then some 0 else ms_gi v1 200 (some (x_src v1.toNatClampNeg)))
set_option maxHeartbeats 4000000 in
set_option maxRecDepth 100000 in
theorem fn_X10_at (l : Launch) (G : Gc) (a_this : Nat) (rr : Nat → Nat) (x_inputSize : Int32) (x_outputSize : Int32) (x_made : Int32) (x_schemes : Int32) (x_n : Int32) (x_written : Int32) (x_tree : Int32) (x_pos : Int32) (x_raw : Int32) (x_opened : Int32) (x_whole : Int32) (x_name : Int32) (x_code : Int32) (x_src : Nat → Int32) (v1 : Int32)  {o : Int32} (h : f_X10_at x_n x_src v1 = some o) : ms_Fn l G yX10_at cX10_at 2 (some .int) rm_X10_at [.ref a_this, .int v1] [ob_X10 a_this rr x_inputSize x_outputSize x_made x_schemes x_n x_written x_tree x_pos x_raw x_opened x_whole x_name x_code, (rr 5, .inl (G.2.1 1, 200, .inl x_src))] [ob_X10 a_this rr x_inputSize x_outputSize x_made x_schemes x_n x_written x_tree x_pos x_raw x_opened x_whole x_name x_code, (rr 5, .inl (G.2.1 1, 200, .inl x_src))] (some (.int o)) := by
  refine ms_start RX10 (by decide +kernel) rfl (Nat.le_of_ble_eq_true rfl) (fun p e s m below meth c A ls hX hW hl => ?_)
  have hx := hX.1.1
  have hb := hX.1.2.1
  have hl : lv_has ls 2 [(0, .ref a_this), (1, .int v1)] := hl
  unfold f_X10_at at h
  refine lv_iload_n hx hb dX10_at_0 rfl (lv_at hl 1 rfl) ?_
  refine lv_aload_n hx hb dX10_at_1 rfl (lv_at hl 0 rfl) ?_
  refine ms_get ff_X10_107 hX hW 0 rfl rfl dX10_at_2 ?_
  refine lv_icmp_ge (tgt := 17) hx hb dX10_at_5 (by decide) (fun k => ?_) (fun k => ?_)
  · have h := ms_ifp h k
    refine lv_iconst (v := 0) hx hb dX10_at_17 (by decide) ?_
    obtain rfl := Option.some.inj h
    exact ms_iret hX hW dX10_at_18
  · have h := ms_ifn h k
    refine lv_aload_n hx hb dX10_at_8 rfl (lv_at hl 0 rfl) ?_
    refine ms_get ff_X10_27 hX hW 0 rfl rfl dX10_at_9 ?_
    refine lv_iload_n hx hb dX10_at_12 rfl (lv_at hl 1 rfl) ?_
    obtain ⟨k, h⟩ := ms_gi_some h
    refine ms_iald hX hW 1 rfl k dX10_at_13 ?_
    refine lv_goto (tgt := 18) hx hb dX10_at_14 (by decide) ?_
    obtain rfl := Option.some.inj h
    exact ms_iret hX hW dX10_at_18
def rm_X10_seek : Room := { frames := 0, cells := 0, slots := 0, locals := 0 }
def f_X10_seek_L2 (x_n : Int32) (x_src : Nat → Int32) (v1 : Int32) (v2 : Int32) : Nat → Int32 → Option (Int32)
  | 0, _ => none
  | n + 1, v3 => (if x_n ≤ v3 then some v3 else ms_gi v3 200 ((if (x_src v3.toNatClampNeg) = v2 then some v3 else f_X10_seek_L2 x_n x_src v1 v2 n (v3 + 1))))
set_option maxHeartbeats 4000000 in
set_option maxRecDepth 100000 in
theorem wb_X10_seek_L2 {p : Program} {l : Launch} {e : Env} {s : State} {m : MethodId} {args : Array Value} {below : List Frame} {meth : Method} {c : Code} {G : Gc} {A : Nat → Prop} {a_this : Nat} {rr : Nat → Nat} {x_inputSize : Int32} {x_outputSize : Int32} {x_made : Int32} {x_schemes : Int32} {x_n : Int32} {x_written : Int32} {x_tree : Int32} {x_pos : Int32} {x_raw : Int32} {x_opened : Int32} {x_whole : Int32} {x_name : Int32} {x_code : Int32} {x_src : Nat → Int32} {v1 : Int32} {v2 : Int32} {Q : State → Prop} {o : Int32} (hX : ms_CX p s m args meth c cX10_seek 4 RX10 (some .int) G A) (hq : ∀ (H : Heap) (locs : List Loc) (ls : Array Slot), ms_W G A s H locs [ob_X10 a_this rr x_inputSize x_outputSize x_made x_schemes x_n x_written x_tree x_pos x_raw x_opened x_whole x_name x_code, (rr 5, .inl (G.2.1 1, 200, .inl x_src))] → lv_has ls 4 [(3, .int o)] → W p l e rm_X10_seek s m args below meth c H locs 0 0 Q (F0 m 26 ls [])) : ∀ (n : Nat) (v3 : Int32) (H : Heap) (locs : List Loc) (ls : Array Slot), f_X10_seek_L2 x_n x_src v1 v2 n v3 = some o → ms_W G A s H locs [ob_X10 a_this rr x_inputSize x_outputSize x_made x_schemes x_n x_written x_tree x_pos x_raw x_opened x_whole x_name x_code, (rr 5, .inl (G.2.1 1, 200, .inl x_src))] → lv_has ls 4 [(0, .ref a_this), (2, .int v2), (3, .int v3)] → W p l e rm_X10_seek s m args below meth c H locs 0 0 Q (F0 m 2 ls []) := by
  have hx := hX.1.1
  have hb := hX.1.2.1
  intro n
  induction n with
  | zero => intro v3 H locs ls h; rw [f_X10_seek_L2] at h; cases h
  | succ n ih =>
    intro v3 H locs ls h hW hl
    rw [f_X10_seek_L2] at h
    refine lv_iload_n hx hb dX10_seek_2 rfl (lv_at hl 2 rfl) ?_
    refine lv_aload_n hx hb dX10_seek_3 rfl (lv_at hl 0 rfl) ?_
    refine ms_get ff_X10_107 hX hW 0 rfl rfl dX10_seek_4 ?_
    refine lv_icmp_ge (tgt := 26) hx hb dX10_seek_7 (by decide) (fun k => ?_) (fun k => ?_)
    · have h := ms_ifp h k
      obtain rfl := Option.some.inj h
      exact hq _ _ _ hW (lv_sub hl [2] rfl)
    · have h := ms_ifn h k
      refine lv_aload_n hx hb dX10_seek_10 rfl (lv_at hl 0 rfl) ?_
      refine ms_get ff_X10_27 hX hW 0 rfl rfl dX10_seek_11 ?_
      refine lv_iload_n hx hb dX10_seek_14 rfl (lv_at hl 2 rfl) ?_
      obtain ⟨k, h⟩ := ms_gi_some h
      refine ms_iald hX hW 1 rfl k dX10_seek_15 ?_
      refine lv_iload_n hx hb dX10_seek_16 rfl (lv_at hl 1 rfl) ?_
      refine lv_icmp_eq (tgt := 26) hx hb dX10_seek_17 (by decide) (fun k => ?_) (fun k => ?_)
      · have h := ms_ifp h k
        obtain rfl := Option.some.inj h
        exact hq _ _ _ hW (lv_sub hl [2] rfl)
      · have h := ms_ifn h k
        refine lv_iinc (v := v3 + 1) (lv' := [(3, .int (v3 + 1)), (0, .ref a_this), (2, .int v2)]) hx hb dX10_seek_20 hl (k := 2) rfl rfl (by decide) rfl (fun ls hl => ?_)
        refine lv_goto (tgt := 2) hx hb dX10_seek_23 (by decide) ?_
        exact ih _ _ _ _ h hW (lv_sub hl [1, 2, 0] rfl)
def f_X10_seek (x_n : Int32) (x_src : Nat → Int32) (v1 : Int32) (v2 : Int32) : Option (Int32) := (f_X10_seek_L2 x_n x_src v1 v2 1000 v1).bind (fun w2 => some w2)
set_option maxHeartbeats 4000000 in
set_option maxRecDepth 100000 in
theorem fn_X10_seek (l : Launch) (G : Gc) (a_this : Nat) (rr : Nat → Nat) (x_inputSize : Int32) (x_outputSize : Int32) (x_made : Int32) (x_schemes : Int32) (x_n : Int32) (x_written : Int32) (x_tree : Int32) (x_pos : Int32) (x_raw : Int32) (x_opened : Int32) (x_whole : Int32) (x_name : Int32) (x_code : Int32) (x_src : Nat → Int32) (v1 : Int32) (v2 : Int32)  {o : Int32} (h : f_X10_seek x_n x_src v1 v2 = some o) : ms_Fn l G yX10_seek cX10_seek 4 (some .int) rm_X10_seek [.ref a_this, .int v1, .int v2] [ob_X10 a_this rr x_inputSize x_outputSize x_made x_schemes x_n x_written x_tree x_pos x_raw x_opened x_whole x_name x_code, (rr 5, .inl (G.2.1 1, 200, .inl x_src))] [ob_X10 a_this rr x_inputSize x_outputSize x_made x_schemes x_n x_written x_tree x_pos x_raw x_opened x_whole x_name x_code, (rr 5, .inl (G.2.1 1, 200, .inl x_src))] (some (.int o)) := by
  refine ms_start RX10 (by decide +kernel) rfl (Nat.le_of_ble_eq_true rfl) (fun p e s m below meth c A ls hX hW hl => ?_)
  have hx := hX.1.1
  have hb := hX.1.2.1
  have hl : lv_has ls 4 [(0, .ref a_this), (1, .int v1), (2, .int v2)] := hl
  unfold f_X10_seek at h
  refine lv_iload_n hx hb dX10_seek_0 rfl (lv_at hl 1 rfl) ?_
  refine lv_istore_n (lv' := [(3, .int v1), (0, .ref a_this), (1, .int v1), (2, .int v2)]) hx hb dX10_seek_1 rfl hl (by decide) rfl (fun ls hl => ?_)
  obtain ⟨w2, hqw2, h⟩ := ms_bd h
  refine wb_X10_seek_L2 hX (o := w2) (fun H locs ls hW hl => ?_) _ _ _ _ _ hqw2 hW (lv_sub hl [1, 3, 0] rfl)
  refine lv_iload_n hx hb dX10_seek_26 rfl (lv_at hl 0 rfl) ?_
  obtain rfl := Option.some.inj h
  exact ms_iret hX hW dX10_seek_27
def rm_X10_number : Room := { frames := 1, cells := 0, slots := 0, locals := 21 }
def f_X10_number_L4 (x_n : Int32) (x_src : Nat → Int32) (v1 : Int32) : Nat → Int32 → Int32 → Int32 → Option (Int32 × Int32 × Int32)
  | 0, _, _, _ => none
  | n + 1, x_code, v2, v3 => (if (v1 + 3) ≤ v2 then some (x_code, v2, v3) else (f_X10_at x_n x_src v2).bind (fun q13 => (f_X10_isDigit q13).bind (fun q16 => (if q16 = 0 then some (x_code, v2, v3) else (f_X10_at x_n x_src v2).bind (fun q28 => f_X10_number_L4 x_n x_src v1 n x_code (v2 + 1) (((10 * v3) + q28) - 48))))))
set_option maxHeartbeats 4000000 in
set_option maxRecDepth 100000 in
theorem wb_X10_number_L4 {p : Program} {l : Launch} {e : Env} {s : State} {m : MethodId} {args : Array Value} {below : List Frame} {meth : Method} {c : Code} {G : Gc} {A : Nat → Prop} {a_this : Nat} {rr : Nat → Nat} {x_inputSize : Int32} {x_outputSize : Int32} {x_made : Int32} {x_schemes : Int32} {x_n : Int32} {x_written : Int32} {x_tree : Int32} {x_pos : Int32} {x_raw : Int32} {x_opened : Int32} {x_whole : Int32} {x_name : Int32} {x_src : Nat → Int32} {v1 : Int32} {Q : State → Prop} {o : Int32 × Int32 × Int32} (hX : ms_CX p s m args meth c cX10_number 4 RX10 (some .int) G A) (hq : ∀ (H : Heap) (locs : List Loc) (ls : Array Slot), ms_W G A s H locs [ob_X10 a_this rr x_inputSize x_outputSize x_made x_schemes x_n x_written x_tree x_pos x_raw x_opened x_whole x_name o.1, (rr 5, .inl (G.2.1 1, 200, .inl x_src))] → lv_has ls 4 [(0, .ref a_this), (1, .int v1), (2, .int o.2.1), (3, .int o.2.2)] → W p l e rm_X10_number s m args below meth c H locs 0 0 Q (F0 m 42 ls [])) : ∀ (n : Nat) (x_code : Int32) (v2 : Int32) (v3 : Int32) (H : Heap) (locs : List Loc) (ls : Array Slot), f_X10_number_L4 x_n x_src v1 n x_code v2 v3 = some o → ms_W G A s H locs [ob_X10 a_this rr x_inputSize x_outputSize x_made x_schemes x_n x_written x_tree x_pos x_raw x_opened x_whole x_name x_code, (rr 5, .inl (G.2.1 1, 200, .inl x_src))] → lv_has ls 4 [(0, .ref a_this), (1, .int v1), (2, .int v2), (3, .int v3)] → W p l e rm_X10_number s m args below meth c H locs 0 0 Q (F0 m 4 ls []) := by
  have hx := hX.1.1
  have hb := hX.1.2.1
  intro n
  induction n with
  | zero => intro x_code v2 v3 H locs ls h; rw [f_X10_number_L4] at h; cases h
  | succ n ih =>
    intro x_code v2 v3 H locs ls h hW hl
    rw [f_X10_number_L4] at h
    refine lv_iload_n hx hb dX10_number_4 rfl (lv_at hl 2 rfl) ?_
    refine lv_iload_n hx hb dX10_number_5 rfl (lv_at hl 1 rfl) ?_
    refine lv_iconst (v := 3) hx hb dX10_number_6 (by decide) ?_
    refine lv_iadd hx hb dX10_number_7 ?_
    refine lv_icmp_ge (tgt := 42) hx hb dX10_number_8 (by decide) (fun k => ?_) (fun k => ?_)
    · have h := ms_ifp h k
      obtain rfl := Option.some.inj h
      exact hq _ _ _ hW (lv_sub hl [0, 1, 2, 3] rfl)
    · have h := ms_ifn h k
      refine lv_aload_n hx hb dX10_number_11 rfl (lv_at hl 0 rfl) ?_
      refine lv_iload_n hx hb dX10_number_12 rfl (lv_at hl 2 rfl) ?_
      obtain ⟨q13, hq13, h⟩ := ms_bd h
      refine ms_callV (fn_X10_at l G a_this rr x_inputSize x_outputSize x_made x_schemes x_n x_written x_tree x_pos x_raw x_opened x_whole x_name x_code x_src v2 hq13) wm_X10_at wv_X10_110 hX hW [0, 1] rfl rfl rfl rfl rfl ⟨Nat.le_of_ble_eq_true rfl, Nat.le_of_ble_eq_true rfl, rfl, rfl, Nat.zero_le _, Nat.zero_le _⟩ rfl hl.1 [] rfl (Nat.le_of_ble_eq_true rfl) dX10_number_13 (fun H locs hW => ?_)
      have hW : ms_W G A s H locs [ob_X10 a_this rr x_inputSize x_outputSize x_made x_schemes x_n x_written x_tree x_pos x_raw x_opened x_whole x_name x_code, (rr 5, .inl (G.2.1 1, 200, .inl x_src))] := hW
      refine W.eq (g2 := F0 m 16 ls [.int q13]) rfl ?_
      obtain ⟨q16, hq16, h⟩ := ms_bd h
      refine ms_callS (fn_X10_isDigit l G q13 hq16) wm_X10_isDigit wz_X10_120 hX hW [] rfl rfl rfl ⟨Nat.le_of_ble_eq_true rfl, Nat.le_of_ble_eq_true rfl, rfl, rfl, Nat.zero_le _, Nat.zero_le _⟩ rfl hl.1 [] rfl (Nat.le_of_ble_eq_true rfl) dX10_number_16 (fun H locs hW => ?_)
      have hW : ms_W G A s H locs [ob_X10 a_this rr x_inputSize x_outputSize x_made x_schemes x_n x_written x_tree x_pos x_raw x_opened x_whole x_name x_code, (rr 5, .inl (G.2.1 1, 200, .inl x_src))] := hW
      refine W.eq (g2 := F0 m 19 ls [.int q16]) rfl ?_
      refine lv_if_eq (tgt := 42) hx hb dX10_number_19 (by decide) (fun k => ?_) (fun k => ?_)
      · have h := ms_ifp h k
        obtain rfl := Option.some.inj h
        exact hq _ _ _ hW (lv_sub hl [0, 1, 2, 3] rfl)
      · have h := ms_ifn h k
        refine lv_bipush (v := 10) hx hb dX10_number_22 (by decide) ?_
        refine lv_iload_n hx hb dX10_number_24 rfl (lv_at hl 3 rfl) ?_
        refine lv_imul hx hb dX10_number_25 ?_
        refine lv_aload_n hx hb dX10_number_26 rfl (lv_at hl 0 rfl) ?_
        refine lv_iload_n hx hb dX10_number_27 rfl (lv_at hl 2 rfl) ?_
        obtain ⟨q28, hq28, h⟩ := ms_bd h
        refine ms_callV (fn_X10_at l G a_this rr x_inputSize x_outputSize x_made x_schemes x_n x_written x_tree x_pos x_raw x_opened x_whole x_name x_code x_src v2 hq28) wm_X10_at wv_X10_110 hX hW [0, 1] rfl rfl rfl rfl rfl ⟨Nat.le_of_ble_eq_true rfl, Nat.le_of_ble_eq_true rfl, rfl, rfl, Nat.zero_le _, Nat.zero_le _⟩ rfl hl.1 [.int (10 * v3)] rfl (Nat.le_of_ble_eq_true rfl) dX10_number_28 (fun H locs hW => ?_)
        have hW : ms_W G A s H locs [ob_X10 a_this rr x_inputSize x_outputSize x_made x_schemes x_n x_written x_tree x_pos x_raw x_opened x_whole x_name x_code, (rr 5, .inl (G.2.1 1, 200, .inl x_src))] := hW
        refine W.eq (g2 := F0 m 31 ls [.int q28, .int (10 * v3)]) rfl ?_
        refine lv_iadd hx hb dX10_number_31 ?_
        refine lv_bipush (v := 48) hx hb dX10_number_32 (by decide) ?_
        refine lv_isub hx hb dX10_number_34 ?_
        refine lv_istore_n (lv' := [(3, .int (((10 * v3) + q28) - 48)), (0, .ref a_this), (1, .int v1), (2, .int v2)]) hx hb dX10_number_35 rfl hl (by decide) rfl (fun ls hl => ?_)
        refine lv_iinc (v := v2 + 1) (lv' := [(2, .int (v2 + 1)), (3, .int (((10 * v3) + q28) - 48)), (0, .ref a_this), (1, .int v1)]) hx hb dX10_number_36 hl (k := 3) rfl rfl (by decide) rfl (fun ls hl => ?_)
        refine lv_goto (tgt := 4) hx hb dX10_number_39 (by decide) ?_
        exact ih _ _ _ _ _ _ h hW (lv_sub hl [2, 3, 0, 1] rfl)
def f_X10_number (x_n : Int32) (x_code : Int32) (x_src : Nat → Int32) (v1 : Int32) : Option (Int32 × Int32) := (f_X10_number_L4 x_n x_src v1 1000 x_code v1 0).bind (fun w4 => (if w4.2.1 = v1 then some (w4.1, 0) else (f_X10_at x_n x_src w4.2.1).bind (fun q49 => (if q49 = 59 then (if w4.2.2 < 32 then some (w4.1, 0) else (if w4.2.2 ≤ 126 then some (w4.2.2, ((w4.2.1 + 1) - v1) + 2) else some (w4.1, 0))) else some (w4.1, 0)))))
set_option maxHeartbeats 4000000 in
set_option maxRecDepth 100000 in
theorem fn_X10_number (l : Launch) (G : Gc) (a_this : Nat) (rr : Nat → Nat) (x_inputSize : Int32) (x_outputSize : Int32) (x_made : Int32) (x_schemes : Int32) (x_n : Int32) (x_written : Int32) (x_tree : Int32) (x_pos : Int32) (x_raw : Int32) (x_opened : Int32) (x_whole : Int32) (x_name : Int32) (x_code : Int32) (x_src : Nat → Int32) (v1 : Int32)  {o : Int32 × Int32} (h : f_X10_number x_n x_code x_src v1 = some o) : ms_Fn l G yX10_number cX10_number 4 (some .int) rm_X10_number [.ref a_this, .int v1] [ob_X10 a_this rr x_inputSize x_outputSize x_made x_schemes x_n x_written x_tree x_pos x_raw x_opened x_whole x_name x_code, (rr 5, .inl (G.2.1 1, 200, .inl x_src))] [ob_X10 a_this rr x_inputSize x_outputSize x_made x_schemes x_n x_written x_tree x_pos x_raw x_opened x_whole x_name o.1, (rr 5, .inl (G.2.1 1, 200, .inl x_src))] (some (.int o.2)) := by
  refine ms_start RX10 (by decide +kernel) rfl (Nat.le_of_ble_eq_true rfl) (fun p e s m below meth c A ls hX hW hl => ?_)
  have hx := hX.1.1
  have hb := hX.1.2.1
  have hl : lv_has ls 4 [(0, .ref a_this), (1, .int v1)] := hl
  unfold f_X10_number at h
  refine lv_iload_n hx hb dX10_number_0 rfl (lv_at hl 1 rfl) ?_
  refine lv_istore_n (lv' := [(2, .int v1), (0, .ref a_this), (1, .int v1)]) hx hb dX10_number_1 rfl hl (by decide) rfl (fun ls hl => ?_)
  refine lv_iconst (v := 0) hx hb dX10_number_2 (by decide) ?_
  refine lv_istore_n (lv' := [(3, .int 0), (2, .int v1), (0, .ref a_this), (1, .int v1)]) hx hb dX10_number_3 rfl hl (by decide) rfl (fun ls hl => ?_)
  obtain ⟨w4, hqw4, h⟩ := ms_bd h
  refine wb_X10_number_L4 hX (o := w4) (fun H locs ls hW hl => ?_) _ _ _ _ _ _ _ hqw4 hW (lv_sub hl [2, 3, 1, 0] rfl)
  refine lv_iload_n hx hb dX10_number_42 rfl (lv_at hl 2 rfl) ?_
  refine lv_iload_n hx hb dX10_number_43 rfl (lv_at hl 1 rfl) ?_
  refine lv_icmp_eq (tgt := 69) hx hb dX10_number_44 (by decide) (fun k => ?_) (fun k => ?_)
  · have h := ms_ifp h k
    refine lv_iconst (v := 0) hx hb dX10_number_69 (by decide) ?_
    obtain rfl := Option.some.inj h
    exact ms_iret hX hW dX10_number_70
  · have h := ms_ifn h k
    refine lv_aload_n hx hb dX10_number_47 rfl (lv_at hl 0 rfl) ?_
    refine lv_iload_n hx hb dX10_number_48 rfl (lv_at hl 2 rfl) ?_
    obtain ⟨q49, hq49, h⟩ := ms_bd h
    refine ms_callV (fn_X10_at l G a_this rr x_inputSize x_outputSize x_made x_schemes x_n x_written x_tree x_pos x_raw x_opened x_whole x_name w4.1 x_src w4.2.1 hq49) wm_X10_at wv_X10_110 hX hW [0, 1] rfl rfl rfl rfl rfl ⟨Nat.le_of_ble_eq_true rfl, Nat.le_of_ble_eq_true rfl, rfl, rfl, Nat.zero_le _, Nat.zero_le _⟩ rfl hl.1 [] rfl (Nat.le_of_ble_eq_true rfl) dX10_number_49 (fun H locs hW => ?_)
    have hW : ms_W G A s H locs [ob_X10 a_this rr x_inputSize x_outputSize x_made x_schemes x_n x_written x_tree x_pos x_raw x_opened x_whole x_name w4.1, (rr 5, .inl (G.2.1 1, 200, .inl x_src))] := hW
    refine W.eq (g2 := F0 m 52 ls [.int q49]) rfl ?_
    refine lv_bipush (v := 59) hx hb dX10_number_52 (by decide) ?_
    refine lv_icmp_ne (tgt := 69) hx hb dX10_number_54 (by decide) (fun k => ?_) (fun k => ?_)
    · have h := ms_ifn h k
      refine lv_iconst (v := 0) hx hb dX10_number_69 (by decide) ?_
      obtain rfl := Option.some.inj h
      exact ms_iret hX hW dX10_number_70
    · have h := ms_ifp h k
      refine lv_iload_n hx hb dX10_number_57 rfl (lv_at hl 3 rfl) ?_
      refine lv_bipush (v := 32) hx hb dX10_number_58 (by decide) ?_
      refine lv_icmp_lt (tgt := 69) hx hb dX10_number_60 (by decide) (fun k => ?_) (fun k => ?_)
      · have h := ms_ifp h k
        refine lv_iconst (v := 0) hx hb dX10_number_69 (by decide) ?_
        obtain rfl := Option.some.inj h
        exact ms_iret hX hW dX10_number_70
      · have h := ms_ifn h k
        refine lv_iload_n hx hb dX10_number_63 rfl (lv_at hl 3 rfl) ?_
        refine lv_bipush (v := 126) hx hb dX10_number_64 (by decide) ?_
        refine lv_icmp_le (tgt := 71) hx hb dX10_number_66 (by decide) (fun k => ?_) (fun k => ?_)
        · have h := ms_ifp h k
          refine lv_aload_n hx hb dX10_number_71 rfl (lv_at hl 0 rfl) ?_
          refine lv_iload_n hx hb dX10_number_72 rfl (lv_at hl 3 rfl) ?_
          refine ms_put ff_X10_114 fp_X10_36 rfl hX hW 0 rfl rfl rfl (Nat.le_of_ble_eq_true rfl) dX10_number_73 (fun H locs hW => ?_)
          have hW : ms_W G A s H locs [ob_X10 a_this rr x_inputSize x_outputSize x_made x_schemes x_n x_written x_tree x_pos x_raw x_opened x_whole x_name w4.2.2, (rr 5, .inl (G.2.1 1, 200, .inl x_src))] := hW
          refine lv_iload_n hx hb dX10_number_76 rfl (lv_at hl 2 rfl) ?_
          refine lv_iconst (v := 1) hx hb dX10_number_77 (by decide) ?_
          refine lv_iadd hx hb dX10_number_78 ?_
          refine lv_iload_n hx hb dX10_number_79 rfl (lv_at hl 1 rfl) ?_
          refine lv_isub hx hb dX10_number_80 ?_
          refine lv_iconst (v := 2) hx hb dX10_number_81 (by decide) ?_
          refine lv_iadd hx hb dX10_number_82 ?_
          obtain rfl := Option.some.inj h
          exact ms_iret hX hW dX10_number_83
        · have h := ms_ifn h k
          refine lv_iconst (v := 0) hx hb dX10_number_69 (by decide) ?_
          obtain rfl := Option.some.inj h
          exact ms_iret hX hW dX10_number_70
def rm_X10_reference : Room := { frames := 2, cells := 0, slots := 0, locals := 44 }
def f_X10_reference_L241 (x_n : Int32) (x_src : Nat → Int32) (v1 : Int32) (v2 : Int32) (x_code : Int32) (v3 : Int32) : Option (Int32 × Int32) := (if v2 < (v1 + v3) then some (x_code, 0) else some (x_code, v3))
set_option maxHeartbeats 4000000 in
set_option maxRecDepth 100000 in
theorem wb_X10_reference_L241 {p : Program} {l : Launch} {e : Env} {s : State} {m : MethodId} {args : Array Value} {below : List Frame} {meth : Method} {c : Code} {G : Gc} {A : Nat → Prop} {H : Heap} {locs : List Loc} {ls : Array Slot} {a_this : Nat} {rr : Nat → Nat} {x_inputSize : Int32} {x_outputSize : Int32} {x_made : Int32} {x_schemes : Int32} {x_n : Int32} {x_written : Int32} {x_tree : Int32} {x_pos : Int32} {x_raw : Int32} {x_opened : Int32} {x_whole : Int32} {x_name : Int32} {x_src : Nat → Int32} {v1 : Int32} {v2 : Int32} {x_code : Int32} {v3 : Int32} {o : Int32 × Int32} (hX : ms_CX p s m args meth c cX10_reference 4 RX10 (some .int) G A)   (h : f_X10_reference_L241 x_n x_src v1 v2 x_code v3 = some o) (hW : ms_W G A s H locs [ob_X10 a_this rr x_inputSize x_outputSize x_made x_schemes x_n x_written x_tree x_pos x_raw x_opened x_whole x_name x_code, (rr 5, .inl (G.2.1 1, 200, .inl x_src))]) (hl : lv_has ls 4 [(1, .int v1), (2, .int v2), (3, .int v3)]) : W p l e rm_X10_reference s m args below meth c H locs 0 0 (ms_Q G A below args s [ob_X10 a_this rr x_inputSize x_outputSize x_made x_schemes x_n x_written x_tree x_pos x_raw x_opened x_whole x_name o.1, (rr 5, .inl (G.2.1 1, 200, .inl x_src))] (some (.int o.2))) (F0 m 241 ls []) := by
  have hx := hX.1.1
  have hb := hX.1.2.1
  unfold f_X10_reference_L241 at h
  refine lv_iload_n hx hb dX10_reference_241 rfl (lv_at hl 0 rfl) ?_
  refine lv_iload_n hx hb dX10_reference_242 rfl (lv_at hl 2 rfl) ?_
  refine lv_iadd hx hb dX10_reference_243 ?_
  refine lv_iload_n hx hb dX10_reference_244 rfl (lv_at hl 1 rfl) ?_
  refine lv_icmp_gt (tgt := 252) hx hb dX10_reference_245 (by decide) (fun k => ?_) (fun k => ?_)
  · have h := ms_ifp h k
    refine lv_iconst (v := 0) hx hb dX10_reference_252 (by decide) ?_
    obtain rfl := Option.some.inj h
    exact ms_iret hX hW dX10_reference_253
  · have h := ms_ifn h k
    refine lv_iload_n hx hb dX10_reference_248 rfl (lv_at hl 2 rfl) ?_
    refine lv_goto (tgt := 253) hx hb dX10_reference_249 (by decide) ?_
    obtain rfl := Option.some.inj h
    exact ms_iret hX hW dX10_reference_253
def f_X10_reference_L221 (x_n : Int32) (x_src : Nat → Int32) (v1 : Int32) (v2 : Int32) (x_code : Int32) (v3 : Int32) : Option (Int32 × Int32) := (f_X10_at x_n x_src (v1 + 1)).bind (fun q225 => (if q225 = 35 then (f_X10_number x_n x_code x_src (v1 + 2)).bind (fun q237 => f_X10_reference_L241 x_n x_src v1 v2 q237.1 q237.2) else f_X10_reference_L241 x_n x_src v1 v2 x_code v3))
set_option maxHeartbeats 4000000 in
set_option maxRecDepth 100000 in
theorem wb_X10_reference_L221 {p : Program} {l : Launch} {e : Env} {s : State} {m : MethodId} {args : Array Value} {below : List Frame} {meth : Method} {c : Code} {G : Gc} {A : Nat → Prop} {H : Heap} {locs : List Loc} {ls : Array Slot} {a_this : Nat} {rr : Nat → Nat} {x_inputSize : Int32} {x_outputSize : Int32} {x_made : Int32} {x_schemes : Int32} {x_n : Int32} {x_written : Int32} {x_tree : Int32} {x_pos : Int32} {x_raw : Int32} {x_opened : Int32} {x_whole : Int32} {x_name : Int32} {x_src : Nat → Int32} {v1 : Int32} {v2 : Int32} {x_code : Int32} {v3 : Int32} {o : Int32 × Int32} (hX : ms_CX p s m args meth c cX10_reference 4 RX10 (some .int) G A)   (h : f_X10_reference_L221 x_n x_src v1 v2 x_code v3 = some o) (hW : ms_W G A s H locs [ob_X10 a_this rr x_inputSize x_outputSize x_made x_schemes x_n x_written x_tree x_pos x_raw x_opened x_whole x_name x_code, (rr 5, .inl (G.2.1 1, 200, .inl x_src))]) (hl : lv_has ls 4 [(0, .ref a_this), (1, .int v1), (2, .int v2), (3, .int v3)]) : W p l e rm_X10_reference s m args below meth c H locs 0 0 (ms_Q G A below args s [ob_X10 a_this rr x_inputSize x_outputSize x_made x_schemes x_n x_written x_tree x_pos x_raw x_opened x_whole x_name o.1, (rr 5, .inl (G.2.1 1, 200, .inl x_src))] (some (.int o.2))) (F0 m 221 ls []) := by
  have hx := hX.1.1
  have hb := hX.1.2.1
  unfold f_X10_reference_L221 at h
  refine lv_aload_n hx hb dX10_reference_221 rfl (lv_at hl 0 rfl) ?_
  refine lv_iload_n hx hb dX10_reference_222 rfl (lv_at hl 1 rfl) ?_
  refine lv_iconst (v := 1) hx hb dX10_reference_223 (by decide) ?_
  refine lv_iadd hx hb dX10_reference_224 ?_
  obtain ⟨q225, hq225, h⟩ := ms_bd h
  refine ms_callV (fn_X10_at l G a_this rr x_inputSize x_outputSize x_made x_schemes x_n x_written x_tree x_pos x_raw x_opened x_whole x_name x_code x_src (v1 + 1) hq225) wm_X10_at wv_X10_110 hX hW [0, 1] rfl rfl rfl rfl rfl ⟨Nat.le_of_ble_eq_true rfl, Nat.le_of_ble_eq_true rfl, rfl, rfl, Nat.zero_le _, Nat.zero_le _⟩ rfl hl.1 [] rfl (Nat.le_of_ble_eq_true rfl) dX10_reference_225 (fun H locs hW => ?_)
  have hW : ms_W G A s H locs [ob_X10 a_this rr x_inputSize x_outputSize x_made x_schemes x_n x_written x_tree x_pos x_raw x_opened x_whole x_name x_code, (rr 5, .inl (G.2.1 1, 200, .inl x_src))] := hW
  refine W.eq (g2 := F0 m 228 ls [.int q225]) rfl ?_
  refine lv_bipush (v := 35) hx hb dX10_reference_228 (by decide) ?_
  refine lv_icmp_ne (tgt := 241) hx hb dX10_reference_230 (by decide) (fun k => ?_) (fun k => ?_)
  · have h := ms_ifn h k
    exact wb_X10_reference_L241 hX h hW (lv_sub hl [1, 2, 3] rfl)
  · have h := ms_ifp h k
    refine lv_aload_n hx hb dX10_reference_233 rfl (lv_at hl 0 rfl) ?_
    refine lv_iload_n hx hb dX10_reference_234 rfl (lv_at hl 1 rfl) ?_
    refine lv_iconst (v := 2) hx hb dX10_reference_235 (by decide) ?_
    refine lv_iadd hx hb dX10_reference_236 ?_
    obtain ⟨q237, hq237, h⟩ := ms_bd h
    refine ms_callV (fn_X10_number l G a_this rr x_inputSize x_outputSize x_made x_schemes x_n x_written x_tree x_pos x_raw x_opened x_whole x_name x_code x_src (v1 + 2) hq237) wm_X10_number wv_X10_117 hX hW [0, 1] rfl rfl rfl rfl rfl ⟨Nat.le_of_ble_eq_true rfl, Nat.le_of_ble_eq_true rfl, rfl, rfl, Nat.zero_le _, Nat.zero_le _⟩ rfl hl.1 [] rfl (Nat.le_of_ble_eq_true rfl) dX10_reference_237 (fun H locs hW => ?_)
    have hW : ms_W G A s H locs [ob_X10 a_this rr x_inputSize x_outputSize x_made x_schemes x_n x_written x_tree x_pos x_raw x_opened x_whole x_name q237.1, (rr 5, .inl (G.2.1 1, 200, .inl x_src))] := hW
    refine W.eq (g2 := F0 m 240 ls [.int q237.2]) rfl ?_
    refine lv_istore_n (lv' := [(3, .int q237.2), (0, .ref a_this), (1, .int v1), (2, .int v2)]) hx hb dX10_reference_240 rfl hl (by decide) rfl (fun ls hl => ?_)
    exact wb_X10_reference_L241 hX h hW (lv_sub hl [2, 3, 0] rfl)
def f_X10_reference_L149 (x_n : Int32) (x_src : Nat → Int32) (v1 : Int32) (v2 : Int32) (x_code : Int32) (v3 : Int32) : Option (Int32 × Int32) := (f_X10_at x_n x_src (v1 + 1)).bind (fun q153 => (if q153 = 113 then (f_X10_at x_n x_src (v1 + 2)).bind (fun q165 => (if q165 = 117 then (f_X10_at x_n x_src (v1 + 3)).bind (fun q177 => (if q177 = 111 then (f_X10_at x_n x_src (v1 + 4)).bind (fun q189 => (if q189 = 116 then (f_X10_at x_n x_src (v1 + 5)).bind (fun q201 => (if q201 = 59 then f_X10_reference_L241 x_n x_src v1 v2 34 6 else f_X10_reference_L221 x_n x_src v1 v2 x_code v3)) else f_X10_reference_L221 x_n x_src v1 v2 x_code v3)) else f_X10_reference_L221 x_n x_src v1 v2 x_code v3)) else f_X10_reference_L221 x_n x_src v1 v2 x_code v3)) else f_X10_reference_L221 x_n x_src v1 v2 x_code v3))
set_option maxHeartbeats 4000000 in
set_option maxRecDepth 100000 in
theorem wb_X10_reference_L149 {p : Program} {l : Launch} {e : Env} {s : State} {m : MethodId} {args : Array Value} {below : List Frame} {meth : Method} {c : Code} {G : Gc} {A : Nat → Prop} {H : Heap} {locs : List Loc} {ls : Array Slot} {a_this : Nat} {rr : Nat → Nat} {x_inputSize : Int32} {x_outputSize : Int32} {x_made : Int32} {x_schemes : Int32} {x_n : Int32} {x_written : Int32} {x_tree : Int32} {x_pos : Int32} {x_raw : Int32} {x_opened : Int32} {x_whole : Int32} {x_name : Int32} {x_src : Nat → Int32} {v1 : Int32} {v2 : Int32} {x_code : Int32} {v3 : Int32} {o : Int32 × Int32} (hX : ms_CX p s m args meth c cX10_reference 4 RX10 (some .int) G A)   (h : f_X10_reference_L149 x_n x_src v1 v2 x_code v3 = some o) (hW : ms_W G A s H locs [ob_X10 a_this rr x_inputSize x_outputSize x_made x_schemes x_n x_written x_tree x_pos x_raw x_opened x_whole x_name x_code, (rr 5, .inl (G.2.1 1, 200, .inl x_src))]) (hl : lv_has ls 4 [(0, .ref a_this), (1, .int v1), (2, .int v2), (3, .int v3)]) : W p l e rm_X10_reference s m args below meth c H locs 0 0 (ms_Q G A below args s [ob_X10 a_this rr x_inputSize x_outputSize x_made x_schemes x_n x_written x_tree x_pos x_raw x_opened x_whole x_name o.1, (rr 5, .inl (G.2.1 1, 200, .inl x_src))] (some (.int o.2))) (F0 m 149 ls []) := by
  have hx := hX.1.1
  have hb := hX.1.2.1
  unfold f_X10_reference_L149 at h
  refine lv_aload_n hx hb dX10_reference_149 rfl (lv_at hl 0 rfl) ?_
  refine lv_iload_n hx hb dX10_reference_150 rfl (lv_at hl 1 rfl) ?_
  refine lv_iconst (v := 1) hx hb dX10_reference_151 (by decide) ?_
  refine lv_iadd hx hb dX10_reference_152 ?_
  obtain ⟨q153, hq153, h⟩ := ms_bd h
  refine ms_callV (fn_X10_at l G a_this rr x_inputSize x_outputSize x_made x_schemes x_n x_written x_tree x_pos x_raw x_opened x_whole x_name x_code x_src (v1 + 1) hq153) wm_X10_at wv_X10_110 hX hW [0, 1] rfl rfl rfl rfl rfl ⟨Nat.le_of_ble_eq_true rfl, Nat.le_of_ble_eq_true rfl, rfl, rfl, Nat.zero_le _, Nat.zero_le _⟩ rfl hl.1 [] rfl (Nat.le_of_ble_eq_true rfl) dX10_reference_153 (fun H locs hW => ?_)
  have hW : ms_W G A s H locs [ob_X10 a_this rr x_inputSize x_outputSize x_made x_schemes x_n x_written x_tree x_pos x_raw x_opened x_whole x_name x_code, (rr 5, .inl (G.2.1 1, 200, .inl x_src))] := hW
  refine W.eq (g2 := F0 m 156 ls [.int q153]) rfl ?_
  refine lv_bipush (v := 113) hx hb dX10_reference_156 (by decide) ?_
  refine lv_icmp_ne (tgt := 221) hx hb dX10_reference_158 (by decide) (fun k => ?_) (fun k => ?_)
  · have h := ms_ifn h k
    exact wb_X10_reference_L221 hX h hW (lv_sub hl [0, 1, 2, 3] rfl)
  · have h := ms_ifp h k
    refine lv_aload_n hx hb dX10_reference_161 rfl (lv_at hl 0 rfl) ?_
    refine lv_iload_n hx hb dX10_reference_162 rfl (lv_at hl 1 rfl) ?_
    refine lv_iconst (v := 2) hx hb dX10_reference_163 (by decide) ?_
    refine lv_iadd hx hb dX10_reference_164 ?_
    obtain ⟨q165, hq165, h⟩ := ms_bd h
    refine ms_callV (fn_X10_at l G a_this rr x_inputSize x_outputSize x_made x_schemes x_n x_written x_tree x_pos x_raw x_opened x_whole x_name x_code x_src (v1 + 2) hq165) wm_X10_at wv_X10_110 hX hW [0, 1] rfl rfl rfl rfl rfl ⟨Nat.le_of_ble_eq_true rfl, Nat.le_of_ble_eq_true rfl, rfl, rfl, Nat.zero_le _, Nat.zero_le _⟩ rfl hl.1 [] rfl (Nat.le_of_ble_eq_true rfl) dX10_reference_165 (fun H locs hW => ?_)
    have hW : ms_W G A s H locs [ob_X10 a_this rr x_inputSize x_outputSize x_made x_schemes x_n x_written x_tree x_pos x_raw x_opened x_whole x_name x_code, (rr 5, .inl (G.2.1 1, 200, .inl x_src))] := hW
    refine W.eq (g2 := F0 m 168 ls [.int q165]) rfl ?_
    refine lv_bipush (v := 117) hx hb dX10_reference_168 (by decide) ?_
    refine lv_icmp_ne (tgt := 221) hx hb dX10_reference_170 (by decide) (fun k => ?_) (fun k => ?_)
    · have h := ms_ifn h k
      exact wb_X10_reference_L221 hX h hW (lv_sub hl [0, 1, 2, 3] rfl)
    · have h := ms_ifp h k
      refine lv_aload_n hx hb dX10_reference_173 rfl (lv_at hl 0 rfl) ?_
      refine lv_iload_n hx hb dX10_reference_174 rfl (lv_at hl 1 rfl) ?_
      refine lv_iconst (v := 3) hx hb dX10_reference_175 (by decide) ?_
      refine lv_iadd hx hb dX10_reference_176 ?_
      obtain ⟨q177, hq177, h⟩ := ms_bd h
      refine ms_callV (fn_X10_at l G a_this rr x_inputSize x_outputSize x_made x_schemes x_n x_written x_tree x_pos x_raw x_opened x_whole x_name x_code x_src (v1 + 3) hq177) wm_X10_at wv_X10_110 hX hW [0, 1] rfl rfl rfl rfl rfl ⟨Nat.le_of_ble_eq_true rfl, Nat.le_of_ble_eq_true rfl, rfl, rfl, Nat.zero_le _, Nat.zero_le _⟩ rfl hl.1 [] rfl (Nat.le_of_ble_eq_true rfl) dX10_reference_177 (fun H locs hW => ?_)
      have hW : ms_W G A s H locs [ob_X10 a_this rr x_inputSize x_outputSize x_made x_schemes x_n x_written x_tree x_pos x_raw x_opened x_whole x_name x_code, (rr 5, .inl (G.2.1 1, 200, .inl x_src))] := hW
      refine W.eq (g2 := F0 m 180 ls [.int q177]) rfl ?_
      refine lv_bipush (v := 111) hx hb dX10_reference_180 (by decide) ?_
      refine lv_icmp_ne (tgt := 221) hx hb dX10_reference_182 (by decide) (fun k => ?_) (fun k => ?_)
      · have h := ms_ifn h k
        exact wb_X10_reference_L221 hX h hW (lv_sub hl [0, 1, 2, 3] rfl)
      · have h := ms_ifp h k
        refine lv_aload_n hx hb dX10_reference_185 rfl (lv_at hl 0 rfl) ?_
        refine lv_iload_n hx hb dX10_reference_186 rfl (lv_at hl 1 rfl) ?_
        refine lv_iconst (v := 4) hx hb dX10_reference_187 (by decide) ?_
        refine lv_iadd hx hb dX10_reference_188 ?_
        obtain ⟨q189, hq189, h⟩ := ms_bd h
        refine ms_callV (fn_X10_at l G a_this rr x_inputSize x_outputSize x_made x_schemes x_n x_written x_tree x_pos x_raw x_opened x_whole x_name x_code x_src (v1 + 4) hq189) wm_X10_at wv_X10_110 hX hW [0, 1] rfl rfl rfl rfl rfl ⟨Nat.le_of_ble_eq_true rfl, Nat.le_of_ble_eq_true rfl, rfl, rfl, Nat.zero_le _, Nat.zero_le _⟩ rfl hl.1 [] rfl (Nat.le_of_ble_eq_true rfl) dX10_reference_189 (fun H locs hW => ?_)
        have hW : ms_W G A s H locs [ob_X10 a_this rr x_inputSize x_outputSize x_made x_schemes x_n x_written x_tree x_pos x_raw x_opened x_whole x_name x_code, (rr 5, .inl (G.2.1 1, 200, .inl x_src))] := hW
        refine W.eq (g2 := F0 m 192 ls [.int q189]) rfl ?_
        refine lv_bipush (v := 116) hx hb dX10_reference_192 (by decide) ?_
        refine lv_icmp_ne (tgt := 221) hx hb dX10_reference_194 (by decide) (fun k => ?_) (fun k => ?_)
        · have h := ms_ifn h k
          exact wb_X10_reference_L221 hX h hW (lv_sub hl [0, 1, 2, 3] rfl)
        · have h := ms_ifp h k
          refine lv_aload_n hx hb dX10_reference_197 rfl (lv_at hl 0 rfl) ?_
          refine lv_iload_n hx hb dX10_reference_198 rfl (lv_at hl 1 rfl) ?_
          refine lv_iconst (v := 5) hx hb dX10_reference_199 (by decide) ?_
          refine lv_iadd hx hb dX10_reference_200 ?_
          obtain ⟨q201, hq201, h⟩ := ms_bd h
          refine ms_callV (fn_X10_at l G a_this rr x_inputSize x_outputSize x_made x_schemes x_n x_written x_tree x_pos x_raw x_opened x_whole x_name x_code x_src (v1 + 5) hq201) wm_X10_at wv_X10_110 hX hW [0, 1] rfl rfl rfl rfl rfl ⟨Nat.le_of_ble_eq_true rfl, Nat.le_of_ble_eq_true rfl, rfl, rfl, Nat.zero_le _, Nat.zero_le _⟩ rfl hl.1 [] rfl (Nat.le_of_ble_eq_true rfl) dX10_reference_201 (fun H locs hW => ?_)
          have hW : ms_W G A s H locs [ob_X10 a_this rr x_inputSize x_outputSize x_made x_schemes x_n x_written x_tree x_pos x_raw x_opened x_whole x_name x_code, (rr 5, .inl (G.2.1 1, 200, .inl x_src))] := hW
          refine W.eq (g2 := F0 m 204 ls [.int q201]) rfl ?_
          refine lv_bipush (v := 59) hx hb dX10_reference_204 (by decide) ?_
          refine lv_icmp_ne (tgt := 221) hx hb dX10_reference_206 (by decide) (fun k => ?_) (fun k => ?_)
          · have h := ms_ifn h k
            exact wb_X10_reference_L221 hX h hW (lv_sub hl [0, 1, 2, 3] rfl)
          · have h := ms_ifp h k
            refine lv_bipush (v := 6) hx hb dX10_reference_209 (by decide) ?_
            refine lv_istore_n (lv' := [(3, .int 6), (0, .ref a_this), (1, .int v1), (2, .int v2)]) hx hb dX10_reference_211 rfl hl (by decide) rfl (fun ls hl => ?_)
            refine lv_aload_n hx hb dX10_reference_212 rfl (lv_at hl 1 rfl) ?_
            refine lv_bipush (v := 34) hx hb dX10_reference_213 (by decide) ?_
            refine ms_put ff_X10_114 fp_X10_36 rfl hX hW 0 rfl rfl rfl (Nat.le_of_ble_eq_true rfl) dX10_reference_215 (fun H locs hW => ?_)
            have hW : ms_W G A s H locs [ob_X10 a_this rr x_inputSize x_outputSize x_made x_schemes x_n x_written x_tree x_pos x_raw x_opened x_whole x_name 34, (rr 5, .inl (G.2.1 1, 200, .inl x_src))] := hW
            refine lv_goto (tgt := 241) hx hb dX10_reference_218 (by decide) ?_
            exact wb_X10_reference_L241 hX h hW (lv_sub hl [2, 3, 0] rfl)
def f_X10_reference_L90 (x_n : Int32) (x_src : Nat → Int32) (v1 : Int32) (v2 : Int32) (x_code : Int32) (v3 : Int32) : Option (Int32 × Int32) := (f_X10_at x_n x_src (v1 + 1)).bind (fun q94 => (if q94 = 97 then (f_X10_at x_n x_src (v1 + 2)).bind (fun q106 => (if q106 = 109 then (f_X10_at x_n x_src (v1 + 3)).bind (fun q118 => (if q118 = 112 then (f_X10_at x_n x_src (v1 + 4)).bind (fun q130 => (if q130 = 59 then f_X10_reference_L241 x_n x_src v1 v2 38 5 else f_X10_reference_L149 x_n x_src v1 v2 x_code v3)) else f_X10_reference_L149 x_n x_src v1 v2 x_code v3)) else f_X10_reference_L149 x_n x_src v1 v2 x_code v3)) else f_X10_reference_L149 x_n x_src v1 v2 x_code v3))
set_option maxHeartbeats 4000000 in
set_option maxRecDepth 100000 in
theorem wb_X10_reference_L90 {p : Program} {l : Launch} {e : Env} {s : State} {m : MethodId} {args : Array Value} {below : List Frame} {meth : Method} {c : Code} {G : Gc} {A : Nat → Prop} {H : Heap} {locs : List Loc} {ls : Array Slot} {a_this : Nat} {rr : Nat → Nat} {x_inputSize : Int32} {x_outputSize : Int32} {x_made : Int32} {x_schemes : Int32} {x_n : Int32} {x_written : Int32} {x_tree : Int32} {x_pos : Int32} {x_raw : Int32} {x_opened : Int32} {x_whole : Int32} {x_name : Int32} {x_src : Nat → Int32} {v1 : Int32} {v2 : Int32} {x_code : Int32} {v3 : Int32} {o : Int32 × Int32} (hX : ms_CX p s m args meth c cX10_reference 4 RX10 (some .int) G A)   (h : f_X10_reference_L90 x_n x_src v1 v2 x_code v3 = some o) (hW : ms_W G A s H locs [ob_X10 a_this rr x_inputSize x_outputSize x_made x_schemes x_n x_written x_tree x_pos x_raw x_opened x_whole x_name x_code, (rr 5, .inl (G.2.1 1, 200, .inl x_src))]) (hl : lv_has ls 4 [(0, .ref a_this), (1, .int v1), (2, .int v2), (3, .int v3)]) : W p l e rm_X10_reference s m args below meth c H locs 0 0 (ms_Q G A below args s [ob_X10 a_this rr x_inputSize x_outputSize x_made x_schemes x_n x_written x_tree x_pos x_raw x_opened x_whole x_name o.1, (rr 5, .inl (G.2.1 1, 200, .inl x_src))] (some (.int o.2))) (F0 m 90 ls []) := by
  have hx := hX.1.1
  have hb := hX.1.2.1
  unfold f_X10_reference_L90 at h
  refine lv_aload_n hx hb dX10_reference_90 rfl (lv_at hl 0 rfl) ?_
  refine lv_iload_n hx hb dX10_reference_91 rfl (lv_at hl 1 rfl) ?_
  refine lv_iconst (v := 1) hx hb dX10_reference_92 (by decide) ?_
  refine lv_iadd hx hb dX10_reference_93 ?_
  obtain ⟨q94, hq94, h⟩ := ms_bd h
  refine ms_callV (fn_X10_at l G a_this rr x_inputSize x_outputSize x_made x_schemes x_n x_written x_tree x_pos x_raw x_opened x_whole x_name x_code x_src (v1 + 1) hq94) wm_X10_at wv_X10_110 hX hW [0, 1] rfl rfl rfl rfl rfl ⟨Nat.le_of_ble_eq_true rfl, Nat.le_of_ble_eq_true rfl, rfl, rfl, Nat.zero_le _, Nat.zero_le _⟩ rfl hl.1 [] rfl (Nat.le_of_ble_eq_true rfl) dX10_reference_94 (fun H locs hW => ?_)
  have hW : ms_W G A s H locs [ob_X10 a_this rr x_inputSize x_outputSize x_made x_schemes x_n x_written x_tree x_pos x_raw x_opened x_whole x_name x_code, (rr 5, .inl (G.2.1 1, 200, .inl x_src))] := hW
  refine W.eq (g2 := F0 m 97 ls [.int q94]) rfl ?_
  refine lv_bipush (v := 97) hx hb dX10_reference_97 (by decide) ?_
  refine lv_icmp_ne (tgt := 149) hx hb dX10_reference_99 (by decide) (fun k => ?_) (fun k => ?_)
  · have h := ms_ifn h k
    exact wb_X10_reference_L149 hX h hW (lv_sub hl [0, 1, 2, 3] rfl)
  · have h := ms_ifp h k
    refine lv_aload_n hx hb dX10_reference_102 rfl (lv_at hl 0 rfl) ?_
    refine lv_iload_n hx hb dX10_reference_103 rfl (lv_at hl 1 rfl) ?_
    refine lv_iconst (v := 2) hx hb dX10_reference_104 (by decide) ?_
    refine lv_iadd hx hb dX10_reference_105 ?_
    obtain ⟨q106, hq106, h⟩ := ms_bd h
    refine ms_callV (fn_X10_at l G a_this rr x_inputSize x_outputSize x_made x_schemes x_n x_written x_tree x_pos x_raw x_opened x_whole x_name x_code x_src (v1 + 2) hq106) wm_X10_at wv_X10_110 hX hW [0, 1] rfl rfl rfl rfl rfl ⟨Nat.le_of_ble_eq_true rfl, Nat.le_of_ble_eq_true rfl, rfl, rfl, Nat.zero_le _, Nat.zero_le _⟩ rfl hl.1 [] rfl (Nat.le_of_ble_eq_true rfl) dX10_reference_106 (fun H locs hW => ?_)
    have hW : ms_W G A s H locs [ob_X10 a_this rr x_inputSize x_outputSize x_made x_schemes x_n x_written x_tree x_pos x_raw x_opened x_whole x_name x_code, (rr 5, .inl (G.2.1 1, 200, .inl x_src))] := hW
    refine W.eq (g2 := F0 m 109 ls [.int q106]) rfl ?_
    refine lv_bipush (v := 109) hx hb dX10_reference_109 (by decide) ?_
    refine lv_icmp_ne (tgt := 149) hx hb dX10_reference_111 (by decide) (fun k => ?_) (fun k => ?_)
    · have h := ms_ifn h k
      exact wb_X10_reference_L149 hX h hW (lv_sub hl [0, 1, 2, 3] rfl)
    · have h := ms_ifp h k
      refine lv_aload_n hx hb dX10_reference_114 rfl (lv_at hl 0 rfl) ?_
      refine lv_iload_n hx hb dX10_reference_115 rfl (lv_at hl 1 rfl) ?_
      refine lv_iconst (v := 3) hx hb dX10_reference_116 (by decide) ?_
      refine lv_iadd hx hb dX10_reference_117 ?_
      obtain ⟨q118, hq118, h⟩ := ms_bd h
      refine ms_callV (fn_X10_at l G a_this rr x_inputSize x_outputSize x_made x_schemes x_n x_written x_tree x_pos x_raw x_opened x_whole x_name x_code x_src (v1 + 3) hq118) wm_X10_at wv_X10_110 hX hW [0, 1] rfl rfl rfl rfl rfl ⟨Nat.le_of_ble_eq_true rfl, Nat.le_of_ble_eq_true rfl, rfl, rfl, Nat.zero_le _, Nat.zero_le _⟩ rfl hl.1 [] rfl (Nat.le_of_ble_eq_true rfl) dX10_reference_118 (fun H locs hW => ?_)
      have hW : ms_W G A s H locs [ob_X10 a_this rr x_inputSize x_outputSize x_made x_schemes x_n x_written x_tree x_pos x_raw x_opened x_whole x_name x_code, (rr 5, .inl (G.2.1 1, 200, .inl x_src))] := hW
      refine W.eq (g2 := F0 m 121 ls [.int q118]) rfl ?_
      refine lv_bipush (v := 112) hx hb dX10_reference_121 (by decide) ?_
      refine lv_icmp_ne (tgt := 149) hx hb dX10_reference_123 (by decide) (fun k => ?_) (fun k => ?_)
      · have h := ms_ifn h k
        exact wb_X10_reference_L149 hX h hW (lv_sub hl [0, 1, 2, 3] rfl)
      · have h := ms_ifp h k
        refine lv_aload_n hx hb dX10_reference_126 rfl (lv_at hl 0 rfl) ?_
        refine lv_iload_n hx hb dX10_reference_127 rfl (lv_at hl 1 rfl) ?_
        refine lv_iconst (v := 4) hx hb dX10_reference_128 (by decide) ?_
        refine lv_iadd hx hb dX10_reference_129 ?_
        obtain ⟨q130, hq130, h⟩ := ms_bd h
        refine ms_callV (fn_X10_at l G a_this rr x_inputSize x_outputSize x_made x_schemes x_n x_written x_tree x_pos x_raw x_opened x_whole x_name x_code x_src (v1 + 4) hq130) wm_X10_at wv_X10_110 hX hW [0, 1] rfl rfl rfl rfl rfl ⟨Nat.le_of_ble_eq_true rfl, Nat.le_of_ble_eq_true rfl, rfl, rfl, Nat.zero_le _, Nat.zero_le _⟩ rfl hl.1 [] rfl (Nat.le_of_ble_eq_true rfl) dX10_reference_130 (fun H locs hW => ?_)
        have hW : ms_W G A s H locs [ob_X10 a_this rr x_inputSize x_outputSize x_made x_schemes x_n x_written x_tree x_pos x_raw x_opened x_whole x_name x_code, (rr 5, .inl (G.2.1 1, 200, .inl x_src))] := hW
        refine W.eq (g2 := F0 m 133 ls [.int q130]) rfl ?_
        refine lv_bipush (v := 59) hx hb dX10_reference_133 (by decide) ?_
        refine lv_icmp_ne (tgt := 149) hx hb dX10_reference_135 (by decide) (fun k => ?_) (fun k => ?_)
        · have h := ms_ifn h k
          exact wb_X10_reference_L149 hX h hW (lv_sub hl [0, 1, 2, 3] rfl)
        · have h := ms_ifp h k
          refine lv_iconst (v := 5) hx hb dX10_reference_138 (by decide) ?_
          refine lv_istore_n (lv' := [(3, .int 5), (0, .ref a_this), (1, .int v1), (2, .int v2)]) hx hb dX10_reference_139 rfl hl (by decide) rfl (fun ls hl => ?_)
          refine lv_aload_n hx hb dX10_reference_140 rfl (lv_at hl 1 rfl) ?_
          refine lv_bipush (v := 38) hx hb dX10_reference_141 (by decide) ?_
          refine ms_put ff_X10_114 fp_X10_36 rfl hX hW 0 rfl rfl rfl (Nat.le_of_ble_eq_true rfl) dX10_reference_143 (fun H locs hW => ?_)
          have hW : ms_W G A s H locs [ob_X10 a_this rr x_inputSize x_outputSize x_made x_schemes x_n x_written x_tree x_pos x_raw x_opened x_whole x_name 38, (rr 5, .inl (G.2.1 1, 200, .inl x_src))] := hW
          refine lv_goto (tgt := 241) hx hb dX10_reference_146 (by decide) ?_
          exact wb_X10_reference_L241 hX h hW (lv_sub hl [2, 3, 0] rfl)
def f_X10_reference_L84 (x_n : Int32) (x_src : Nat → Int32) (v1 : Int32) (v2 : Int32) (x_code : Int32) (v3 : Int32) (z1 : Int32) : Option (Int32 × Int32) := f_X10_reference_L241 x_n x_src v1 v2 z1 v3
set_option maxHeartbeats 4000000 in
set_option maxRecDepth 100000 in
theorem wb_X10_reference_L84 {p : Program} {l : Launch} {e : Env} {s : State} {m : MethodId} {args : Array Value} {below : List Frame} {meth : Method} {c : Code} {G : Gc} {A : Nat → Prop} {H : Heap} {locs : List Loc} {ls : Array Slot} {a_this : Nat} {rr : Nat → Nat} {x_inputSize : Int32} {x_outputSize : Int32} {x_made : Int32} {x_schemes : Int32} {x_n : Int32} {x_written : Int32} {x_tree : Int32} {x_pos : Int32} {x_raw : Int32} {x_opened : Int32} {x_whole : Int32} {x_name : Int32} {x_src : Nat → Int32} {v1 : Int32} {v2 : Int32} {x_code : Int32} {v3 : Int32} {z1 : Int32} {o : Int32 × Int32} (hX : ms_CX p s m args meth c cX10_reference 4 RX10 (some .int) G A)   (h : f_X10_reference_L84 x_n x_src v1 v2 x_code v3 z1 = some o) (hW : ms_W G A s H locs [ob_X10 a_this rr x_inputSize x_outputSize x_made x_schemes x_n x_written x_tree x_pos x_raw x_opened x_whole x_name x_code, (rr 5, .inl (G.2.1 1, 200, .inl x_src))]) (hl : lv_has ls 4 [(1, .int v1), (2, .int v2), (3, .int v3)]) : W p l e rm_X10_reference s m args below meth c H locs 0 0 (ms_Q G A below args s [ob_X10 a_this rr x_inputSize x_outputSize x_made x_schemes x_n x_written x_tree x_pos x_raw x_opened x_whole x_name o.1, (rr 5, .inl (G.2.1 1, 200, .inl x_src))] (some (.int o.2))) (F0 m 84 ls [.int z1, .ref a_this]) := by
  have hx := hX.1.1
  have hb := hX.1.2.1
  unfold f_X10_reference_L84 at h
  refine ms_put ff_X10_114 fp_X10_36 rfl hX hW 0 rfl rfl rfl (Nat.le_of_ble_eq_true rfl) dX10_reference_84 (fun H locs hW => ?_)
  have hW : ms_W G A s H locs [ob_X10 a_this rr x_inputSize x_outputSize x_made x_schemes x_n x_written x_tree x_pos x_raw x_opened x_whole x_name z1, (rr 5, .inl (G.2.1 1, 200, .inl x_src))] := hW
  refine lv_goto (tgt := 241) hx hb dX10_reference_87 (by decide) ?_
  exact wb_X10_reference_L241 hX h hW (lv_sub hl [0, 1, 2] rfl)
def f_X10_reference_L62 (x_n : Int32) (x_src : Nat → Int32) (v1 : Int32) (v2 : Int32) (x_code : Int32) : Option (Int32 × Int32) := (f_X10_at x_n x_src (v1 + 1)).bind (fun q69 => (if q69 = 108 then f_X10_reference_L84 x_n x_src v1 v2 x_code 4 60 else f_X10_reference_L84 x_n x_src v1 v2 x_code 4 62))
set_option maxHeartbeats 4000000 in
set_option maxRecDepth 100000 in
theorem wb_X10_reference_L62 {p : Program} {l : Launch} {e : Env} {s : State} {m : MethodId} {args : Array Value} {below : List Frame} {meth : Method} {c : Code} {G : Gc} {A : Nat → Prop} {H : Heap} {locs : List Loc} {ls : Array Slot} {a_this : Nat} {rr : Nat → Nat} {x_inputSize : Int32} {x_outputSize : Int32} {x_made : Int32} {x_schemes : Int32} {x_n : Int32} {x_written : Int32} {x_tree : Int32} {x_pos : Int32} {x_raw : Int32} {x_opened : Int32} {x_whole : Int32} {x_name : Int32} {x_src : Nat → Int32} {v1 : Int32} {v2 : Int32} {x_code : Int32} {o : Int32 × Int32} (hX : ms_CX p s m args meth c cX10_reference 4 RX10 (some .int) G A)   (h : f_X10_reference_L62 x_n x_src v1 v2 x_code = some o) (hW : ms_W G A s H locs [ob_X10 a_this rr x_inputSize x_outputSize x_made x_schemes x_n x_written x_tree x_pos x_raw x_opened x_whole x_name x_code, (rr 5, .inl (G.2.1 1, 200, .inl x_src))]) (hl : lv_has ls 4 [(0, .ref a_this), (1, .int v1), (2, .int v2)]) : W p l e rm_X10_reference s m args below meth c H locs 0 0 (ms_Q G A below args s [ob_X10 a_this rr x_inputSize x_outputSize x_made x_schemes x_n x_written x_tree x_pos x_raw x_opened x_whole x_name o.1, (rr 5, .inl (G.2.1 1, 200, .inl x_src))] (some (.int o.2))) (F0 m 62 ls []) := by
  have hx := hX.1.1
  have hb := hX.1.2.1
  unfold f_X10_reference_L62 at h
  refine lv_iconst (v := 4) hx hb dX10_reference_62 (by decide) ?_
  refine lv_istore_n (lv' := [(3, .int 4), (0, .ref a_this), (1, .int v1), (2, .int v2)]) hx hb dX10_reference_63 rfl hl (by decide) rfl (fun ls hl => ?_)
  refine lv_aload_n hx hb dX10_reference_64 rfl (lv_at hl 1 rfl) ?_
  refine lv_aload_n hx hb dX10_reference_65 rfl (lv_at hl 1 rfl) ?_
  refine lv_iload_n hx hb dX10_reference_66 rfl (lv_at hl 2 rfl) ?_
  refine lv_iconst (v := 1) hx hb dX10_reference_67 (by decide) ?_
  refine lv_iadd hx hb dX10_reference_68 ?_
  obtain ⟨q69, hq69, h⟩ := ms_bd h
  refine ms_callV (fn_X10_at l G a_this rr x_inputSize x_outputSize x_made x_schemes x_n x_written x_tree x_pos x_raw x_opened x_whole x_name x_code x_src (v1 + 1) hq69) wm_X10_at wv_X10_110 hX hW [0, 1] rfl rfl rfl rfl rfl ⟨Nat.le_of_ble_eq_true rfl, Nat.le_of_ble_eq_true rfl, rfl, rfl, Nat.zero_le _, Nat.zero_le _⟩ rfl hl.1 [.ref a_this] rfl (Nat.le_of_ble_eq_true rfl) dX10_reference_69 (fun H locs hW => ?_)
  have hW : ms_W G A s H locs [ob_X10 a_this rr x_inputSize x_outputSize x_made x_schemes x_n x_written x_tree x_pos x_raw x_opened x_whole x_name x_code, (rr 5, .inl (G.2.1 1, 200, .inl x_src))] := hW
  refine W.eq (g2 := F0 m 72 ls [.int q69, .ref a_this]) rfl ?_
  refine lv_bipush (v := 108) hx hb dX10_reference_72 (by decide) ?_
  refine lv_icmp_ne (tgt := 82) hx hb dX10_reference_74 (by decide) (fun k => ?_) (fun k => ?_)
  · have h := ms_ifn h k
    refine lv_bipush (v := 62) hx hb dX10_reference_82 (by decide) ?_
    exact wb_X10_reference_L84 hX h hW (lv_sub hl [2, 3, 0] rfl)
  · have h := ms_ifp h k
    refine lv_bipush (v := 60) hx hb dX10_reference_77 (by decide) ?_
    refine lv_goto (tgt := 84) hx hb dX10_reference_79 (by decide) ?_
    exact wb_X10_reference_L84 hX h hW (lv_sub hl [2, 3, 0] rfl)
def f_X10_reference (x_n : Int32) (x_code : Int32) (x_src : Nat → Int32) (v1 : Int32) (v2 : Int32) : Option (Int32 × Int32) := (f_X10_at x_n x_src v1).bind (fun q4 => (if q4 = 38 then (f_X10_at x_n x_src (v1 + 2)).bind (fun q18 => (if q18 = 116 then (f_X10_at x_n x_src (v1 + 3)).bind (fun q30 => (if q30 = 59 then (f_X10_at x_n x_src (v1 + 1)).bind (fun q42 => (if q42 = 108 then f_X10_reference_L62 x_n x_src v1 v2 x_code else (f_X10_at x_n x_src (v1 + 1)).bind (fun q54 => (if q54 = 103 then f_X10_reference_L62 x_n x_src v1 v2 x_code else f_X10_reference_L90 x_n x_src v1 v2 x_code 0)))) else f_X10_reference_L90 x_n x_src v1 v2 x_code 0)) else f_X10_reference_L90 x_n x_src v1 v2 x_code 0)) else some (x_code, 0)))
set_option maxHeartbeats 4000000 in
set_option maxRecDepth 100000 in
theorem fn_X10_reference (l : Launch) (G : Gc) (a_this : Nat) (rr : Nat → Nat) (x_inputSize : Int32) (x_outputSize : Int32) (x_made : Int32) (x_schemes : Int32) (x_n : Int32) (x_written : Int32) (x_tree : Int32) (x_pos : Int32) (x_raw : Int32) (x_opened : Int32) (x_whole : Int32) (x_name : Int32) (x_code : Int32) (x_src : Nat → Int32) (v1 : Int32) (v2 : Int32)  {o : Int32 × Int32} (h : f_X10_reference x_n x_code x_src v1 v2 = some o) : ms_Fn l G yX10_reference cX10_reference 4 (some .int) rm_X10_reference [.ref a_this, .int v1, .int v2] [ob_X10 a_this rr x_inputSize x_outputSize x_made x_schemes x_n x_written x_tree x_pos x_raw x_opened x_whole x_name x_code, (rr 5, .inl (G.2.1 1, 200, .inl x_src))] [ob_X10 a_this rr x_inputSize x_outputSize x_made x_schemes x_n x_written x_tree x_pos x_raw x_opened x_whole x_name o.1, (rr 5, .inl (G.2.1 1, 200, .inl x_src))] (some (.int o.2)) := by
  refine ms_start RX10 (by decide +kernel) rfl (Nat.le_of_ble_eq_true rfl) (fun p e s m below meth c A ls hX hW hl => ?_)
  have hx := hX.1.1
  have hb := hX.1.2.1
  have hl : lv_has ls 4 [(0, .ref a_this), (1, .int v1), (2, .int v2)] := hl
  unfold f_X10_reference at h
  refine lv_iconst (v := 0) hx hb dX10_reference_0 (by decide) ?_
  refine lv_istore_n (lv' := [(3, .int 0), (0, .ref a_this), (1, .int v1), (2, .int v2)]) hx hb dX10_reference_1 rfl hl (by decide) rfl (fun ls hl => ?_)
  refine lv_aload_n hx hb dX10_reference_2 rfl (lv_at hl 1 rfl) ?_
  refine lv_iload_n hx hb dX10_reference_3 rfl (lv_at hl 2 rfl) ?_
  obtain ⟨q4, hq4, h⟩ := ms_bd h
  refine ms_callV (fn_X10_at l G a_this rr x_inputSize x_outputSize x_made x_schemes x_n x_written x_tree x_pos x_raw x_opened x_whole x_name x_code x_src v1 hq4) wm_X10_at wv_X10_110 hX hW [0, 1] rfl rfl rfl rfl rfl ⟨Nat.le_of_ble_eq_true rfl, Nat.le_of_ble_eq_true rfl, rfl, rfl, Nat.zero_le _, Nat.zero_le _⟩ rfl hl.1 [] rfl (Nat.le_of_ble_eq_true rfl) dX10_reference_4 (fun H locs hW => ?_)
  have hW : ms_W G A s H locs [ob_X10 a_this rr x_inputSize x_outputSize x_made x_schemes x_n x_written x_tree x_pos x_raw x_opened x_whole x_name x_code, (rr 5, .inl (G.2.1 1, 200, .inl x_src))] := hW
  refine W.eq (g2 := F0 m 7 ls [.int q4]) rfl ?_
  refine lv_bipush (v := 38) hx hb dX10_reference_7 (by decide) ?_
  refine lv_icmp_eq (tgt := 14) hx hb dX10_reference_9 (by decide) (fun k => ?_) (fun k => ?_)
  · have h := ms_ifp h k
    refine lv_aload_n hx hb dX10_reference_14 rfl (lv_at hl 1 rfl) ?_
    refine lv_iload_n hx hb dX10_reference_15 rfl (lv_at hl 2 rfl) ?_
    refine lv_iconst (v := 2) hx hb dX10_reference_16 (by decide) ?_
    refine lv_iadd hx hb dX10_reference_17 ?_
    obtain ⟨q18, hq18, h⟩ := ms_bd h
    refine ms_callV (fn_X10_at l G a_this rr x_inputSize x_outputSize x_made x_schemes x_n x_written x_tree x_pos x_raw x_opened x_whole x_name x_code x_src (v1 + 2) hq18) wm_X10_at wv_X10_110 hX hW [0, 1] rfl rfl rfl rfl rfl ⟨Nat.le_of_ble_eq_true rfl, Nat.le_of_ble_eq_true rfl, rfl, rfl, Nat.zero_le _, Nat.zero_le _⟩ rfl hl.1 [] rfl (Nat.le_of_ble_eq_true rfl) dX10_reference_18 (fun H locs hW => ?_)
    have hW : ms_W G A s H locs [ob_X10 a_this rr x_inputSize x_outputSize x_made x_schemes x_n x_written x_tree x_pos x_raw x_opened x_whole x_name x_code, (rr 5, .inl (G.2.1 1, 200, .inl x_src))] := hW
    refine W.eq (g2 := F0 m 21 ls [.int q18]) rfl ?_
    refine lv_bipush (v := 116) hx hb dX10_reference_21 (by decide) ?_
    refine lv_icmp_ne (tgt := 90) hx hb dX10_reference_23 (by decide) (fun k => ?_) (fun k => ?_)
    · have h := ms_ifn h k
      exact wb_X10_reference_L90 hX h hW (lv_sub hl [1, 2, 3, 0] rfl)
    · have h := ms_ifp h k
      refine lv_aload_n hx hb dX10_reference_26 rfl (lv_at hl 1 rfl) ?_
      refine lv_iload_n hx hb dX10_reference_27 rfl (lv_at hl 2 rfl) ?_
      refine lv_iconst (v := 3) hx hb dX10_reference_28 (by decide) ?_
      refine lv_iadd hx hb dX10_reference_29 ?_
      obtain ⟨q30, hq30, h⟩ := ms_bd h
      refine ms_callV (fn_X10_at l G a_this rr x_inputSize x_outputSize x_made x_schemes x_n x_written x_tree x_pos x_raw x_opened x_whole x_name x_code x_src (v1 + 3) hq30) wm_X10_at wv_X10_110 hX hW [0, 1] rfl rfl rfl rfl rfl ⟨Nat.le_of_ble_eq_true rfl, Nat.le_of_ble_eq_true rfl, rfl, rfl, Nat.zero_le _, Nat.zero_le _⟩ rfl hl.1 [] rfl (Nat.le_of_ble_eq_true rfl) dX10_reference_30 (fun H locs hW => ?_)
      have hW : ms_W G A s H locs [ob_X10 a_this rr x_inputSize x_outputSize x_made x_schemes x_n x_written x_tree x_pos x_raw x_opened x_whole x_name x_code, (rr 5, .inl (G.2.1 1, 200, .inl x_src))] := hW
      refine W.eq (g2 := F0 m 33 ls [.int q30]) rfl ?_
      refine lv_bipush (v := 59) hx hb dX10_reference_33 (by decide) ?_
      refine lv_icmp_ne (tgt := 90) hx hb dX10_reference_35 (by decide) (fun k => ?_) (fun k => ?_)
      · have h := ms_ifn h k
        exact wb_X10_reference_L90 hX h hW (lv_sub hl [1, 2, 3, 0] rfl)
      · have h := ms_ifp h k
        refine lv_aload_n hx hb dX10_reference_38 rfl (lv_at hl 1 rfl) ?_
        refine lv_iload_n hx hb dX10_reference_39 rfl (lv_at hl 2 rfl) ?_
        refine lv_iconst (v := 1) hx hb dX10_reference_40 (by decide) ?_
        refine lv_iadd hx hb dX10_reference_41 ?_
        obtain ⟨q42, hq42, h⟩ := ms_bd h
        refine ms_callV (fn_X10_at l G a_this rr x_inputSize x_outputSize x_made x_schemes x_n x_written x_tree x_pos x_raw x_opened x_whole x_name x_code x_src (v1 + 1) hq42) wm_X10_at wv_X10_110 hX hW [0, 1] rfl rfl rfl rfl rfl ⟨Nat.le_of_ble_eq_true rfl, Nat.le_of_ble_eq_true rfl, rfl, rfl, Nat.zero_le _, Nat.zero_le _⟩ rfl hl.1 [] rfl (Nat.le_of_ble_eq_true rfl) dX10_reference_42 (fun H locs hW => ?_)
        have hW : ms_W G A s H locs [ob_X10 a_this rr x_inputSize x_outputSize x_made x_schemes x_n x_written x_tree x_pos x_raw x_opened x_whole x_name x_code, (rr 5, .inl (G.2.1 1, 200, .inl x_src))] := hW
        refine W.eq (g2 := F0 m 45 ls [.int q42]) rfl ?_
        refine lv_bipush (v := 108) hx hb dX10_reference_45 (by decide) ?_
        refine lv_icmp_eq (tgt := 62) hx hb dX10_reference_47 (by decide) (fun k => ?_) (fun k => ?_)
        · have h := ms_ifp h k
          exact wb_X10_reference_L62 hX h hW (lv_sub hl [1, 2, 3] rfl)
        · have h := ms_ifn h k
          refine lv_aload_n hx hb dX10_reference_50 rfl (lv_at hl 1 rfl) ?_
          refine lv_iload_n hx hb dX10_reference_51 rfl (lv_at hl 2 rfl) ?_
          refine lv_iconst (v := 1) hx hb dX10_reference_52 (by decide) ?_
          refine lv_iadd hx hb dX10_reference_53 ?_
          obtain ⟨q54, hq54, h⟩ := ms_bd h
          refine ms_callV (fn_X10_at l G a_this rr x_inputSize x_outputSize x_made x_schemes x_n x_written x_tree x_pos x_raw x_opened x_whole x_name x_code x_src (v1 + 1) hq54) wm_X10_at wv_X10_110 hX hW [0, 1] rfl rfl rfl rfl rfl ⟨Nat.le_of_ble_eq_true rfl, Nat.le_of_ble_eq_true rfl, rfl, rfl, Nat.zero_le _, Nat.zero_le _⟩ rfl hl.1 [] rfl (Nat.le_of_ble_eq_true rfl) dX10_reference_54 (fun H locs hW => ?_)
          have hW : ms_W G A s H locs [ob_X10 a_this rr x_inputSize x_outputSize x_made x_schemes x_n x_written x_tree x_pos x_raw x_opened x_whole x_name x_code, (rr 5, .inl (G.2.1 1, 200, .inl x_src))] := hW
          refine W.eq (g2 := F0 m 57 ls [.int q54]) rfl ?_
          refine lv_bipush (v := 103) hx hb dX10_reference_57 (by decide) ?_
          refine lv_icmp_ne (tgt := 90) hx hb dX10_reference_59 (by decide) (fun k => ?_) (fun k => ?_)
          · have h := ms_ifn h k
            exact wb_X10_reference_L90 hX h hW (lv_sub hl [1, 2, 3, 0] rfl)
          · have h := ms_ifp h k
            exact wb_X10_reference_L62 hX h hW (lv_sub hl [1, 2, 3] rfl)
  · have h := ms_ifn h k
    refine lv_iconst (v := 0) hx hb dX10_reference_12 (by decide) ?_
    obtain rfl := Option.some.inj h
    exact ms_iret hX hW dX10_reference_13
def rm_X10_keep : Room := { frames := 0, cells := 0, slots := 0, locals := 0 }
def f_X10_keep (x_tree : Int32) (x_stored : Nat → Int32) (x_store : Nat → Int32) (v1 : Int32) : Option ((Nat → Int32) × (Nat → Int32)) := ms_gi x_tree 2 (ms_gi ((256 * x_tree) + (x_stored x_tree.toNatClampNeg)) 512 (ms_gi x_tree 2 (ms_gi x_tree 2 (some (upd x_stored x_tree.toNatClampNeg ((x_stored x_tree.toNatClampNeg) + 1), upd x_store ((256 * x_tree) + (x_stored x_tree.toNatClampNeg)).toNatClampNeg v1)))))
set_option maxHeartbeats 4000000 in
set_option maxRecDepth 100000 in
theorem fn_X10_keep (l : Launch) (G : Gc) (a_this : Nat) (rr : Nat → Nat) (x_inputSize : Int32) (x_outputSize : Int32) (x_made : Int32) (x_schemes : Int32) (x_n : Int32) (x_written : Int32) (x_tree : Int32) (x_pos : Int32) (x_raw : Int32) (x_opened : Int32) (x_whole : Int32) (x_name : Int32) (x_code : Int32) (x_stored : Nat → Int32) (x_store : Nat → Int32) (v1 : Int32)  {o : (Nat → Int32) × (Nat → Int32)} (h : f_X10_keep x_tree x_stored x_store v1 = some o) : ms_Fn l G yX10_keep cX10_keep 2 none rm_X10_keep [.ref a_this, .int v1] [ob_X10 a_this rr x_inputSize x_outputSize x_made x_schemes x_n x_written x_tree x_pos x_raw x_opened x_whole x_name x_code, (rr 21, .inl (G.2.1 1, 2, .inl x_stored)), (rr 22, .inl (G.2.1 1, 512, .inl x_store))] [ob_X10 a_this rr x_inputSize x_outputSize x_made x_schemes x_n x_written x_tree x_pos x_raw x_opened x_whole x_name x_code, (rr 21, .inl (G.2.1 1, 2, .inl o.1)), (rr 22, .inl (G.2.1 1, 512, .inl o.2))] none := by
  refine ms_start RX10 (by decide +kernel) rfl (Nat.le_of_ble_eq_true rfl) (fun p e s m below meth c A ls hX hW hl => ?_)
  have hx := hX.1.1
  have hb := hX.1.2.1
  have hl : lv_has ls 2 [(0, .ref a_this), (1, .int v1)] := hl
  unfold f_X10_keep at h
  refine lv_aload_n hx hb dX10_keep_0 rfl (lv_at hl 0 rfl) ?_
  refine ms_get ff_X10_78 hX hW 0 rfl rfl dX10_keep_1 ?_
  refine lv_sipush (v := 256) hx hb dX10_keep_4 (by decide) ?_
  refine lv_aload_n hx hb dX10_keep_7 rfl (lv_at hl 0 rfl) ?_
  refine ms_get ff_X10_124 hX hW 0 rfl rfl dX10_keep_8 ?_
  refine lv_imul hx hb dX10_keep_11 ?_
  refine lv_aload_n hx hb dX10_keep_12 rfl (lv_at hl 0 rfl) ?_
  refine ms_get ff_X10_75 hX hW 0 rfl rfl dX10_keep_13 ?_
  refine lv_aload_n hx hb dX10_keep_16 rfl (lv_at hl 0 rfl) ?_
  refine ms_get ff_X10_124 hX hW 0 rfl rfl dX10_keep_17 ?_
  obtain ⟨k, h⟩ := ms_gi_some h
  refine ms_iald hX hW 1 rfl k dX10_keep_20 ?_
  refine lv_iadd hx hb dX10_keep_21 ?_
  refine lv_iload_n hx hb dX10_keep_22 rfl (lv_at hl 1 rfl) ?_
  obtain ⟨k, h⟩ := ms_gi_some h
  refine ms_iast hX hW 2 rfl k dX10_keep_23 (fun H locs hW => ?_)
  have hW : ms_W G A s H locs [ob_X10 a_this rr x_inputSize x_outputSize x_made x_schemes x_n x_written x_tree x_pos x_raw x_opened x_whole x_name x_code, (rr 21, .inl (G.2.1 1, 2, .inl x_stored)), (rr 22, .inl (G.2.1 1, 512, .inl (upd x_store ((256 * x_tree) + (x_stored x_tree.toNatClampNeg)).toNatClampNeg v1)))] := hW
  refine lv_aload_n hx hb dX10_keep_24 rfl (lv_at hl 0 rfl) ?_
  refine ms_get ff_X10_75 hX hW 0 rfl rfl dX10_keep_25 ?_
  refine lv_aload_n hx hb dX10_keep_28 rfl (lv_at hl 0 rfl) ?_
  refine ms_get ff_X10_124 hX hW 0 rfl rfl dX10_keep_29 ?_
  refine lv_dup2_11 hx hb dX10_keep_32 rfl rfl ?_
  obtain ⟨k, h⟩ := ms_gi_some h
  refine ms_iald hX hW 1 rfl k dX10_keep_33 ?_
  refine lv_iconst (v := 1) hx hb dX10_keep_34 (by decide) ?_
  refine lv_iadd hx hb dX10_keep_35 ?_
  obtain ⟨k, h⟩ := ms_gi_some h
  refine ms_iast hX hW 1 rfl k dX10_keep_36 (fun H locs hW => ?_)
  have hW : ms_W G A s H locs [ob_X10 a_this rr x_inputSize x_outputSize x_made x_schemes x_n x_written x_tree x_pos x_raw x_opened x_whole x_name x_code, (rr 21, .inl (G.2.1 1, 2, .inl (upd x_stored x_tree.toNatClampNeg ((x_stored x_tree.toNatClampNeg) + 1)))), (rr 22, .inl (G.2.1 1, 512, .inl (upd x_store ((256 * x_tree) + (x_stored x_tree.toNatClampNeg)).toNatClampNeg v1)))] := hW
  obtain rfl := Option.some.inj h
  exact ms_vret hX hW dX10_keep_37
def rm_X10_top : Room := { frames := 0, cells := 0, slots := 0, locals := 0 }
def f_X10_top (x_opened : Int32) (x_open : Nat → Int32)  : Option (Int32) := (if x_opened = 0 then some (-1) else ms_gi (x_opened - 1) 8 (some (x_open (x_opened - 1).toNatClampNeg)))
set_option maxHeartbeats 4000000 in
set_option maxRecDepth 100000 in
theorem fn_X10_top (l : Launch) (G : Gc) (a_this : Nat) (rr : Nat → Nat) (x_inputSize : Int32) (x_outputSize : Int32) (x_made : Int32) (x_schemes : Int32) (x_n : Int32) (x_written : Int32) (x_tree : Int32) (x_pos : Int32) (x_raw : Int32) (x_opened : Int32) (x_whole : Int32) (x_name : Int32) (x_code : Int32) (x_open : Nat → Int32)   {o : Int32} (h : f_X10_top x_opened x_open = some o) : ms_Fn l G yX10_top cX10_top 1 (some .int) rm_X10_top [.ref a_this] [ob_X10 a_this rr x_inputSize x_outputSize x_made x_schemes x_n x_written x_tree x_pos x_raw x_opened x_whole x_name x_code, (rr 23, .inl (G.2.1 1, 8, .inl x_open))] [ob_X10 a_this rr x_inputSize x_outputSize x_made x_schemes x_n x_written x_tree x_pos x_raw x_opened x_whole x_name x_code, (rr 23, .inl (G.2.1 1, 8, .inl x_open))] (some (.int o)) := by
  refine ms_start RX10 (by decide +kernel) rfl (Nat.le_of_ble_eq_true rfl) (fun p e s m below meth c A ls hX hW hl => ?_)
  have hx := hX.1.1
  have hb := hX.1.2.1
  have hl : lv_has ls 1 [(0, .ref a_this)] := hl
  unfold f_X10_top at h
  refine lv_aload_n hx hb dX10_top_0 rfl (lv_at hl 0 rfl) ?_
  refine ms_get ff_X10_127 hX hW 0 rfl rfl dX10_top_1 ?_
  refine lv_if_ne (tgt := 11) hx hb dX10_top_4 (by decide) (fun k => ?_) (fun k => ?_)
  · have h := ms_ifn h k
    refine lv_aload_n hx hb dX10_top_11 rfl (lv_at hl 0 rfl) ?_
    refine ms_get ff_X10_81 hX hW 0 rfl rfl dX10_top_12 ?_
    refine lv_aload_n hx hb dX10_top_15 rfl (lv_at hl 0 rfl) ?_
    refine ms_get ff_X10_127 hX hW 0 rfl rfl dX10_top_16 ?_
    refine lv_iconst (v := 1) hx hb dX10_top_19 (by decide) ?_
    refine lv_isub hx hb dX10_top_20 ?_
    obtain ⟨k, h⟩ := ms_gi_some h
    refine ms_iald hX hW 1 rfl k dX10_top_21 ?_
    obtain rfl := Option.some.inj h
    exact ms_iret hX hW dX10_top_22
  · have h := ms_ifp h k
    refine lv_iconst (v := (-1)) hx hb dX10_top_7 (by decide) ?_
    refine lv_goto (tgt := 22) hx hb dX10_top_8 (by decide) ?_
    obtain rfl := Option.some.inj h
    exact ms_iret hX hW dX10_top_22
