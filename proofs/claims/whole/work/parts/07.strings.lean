/-! String constants: length and charAt, as the JDK's bytecode has them -/
def rm_J0a : Room := { frames := 0, cells := 0, slots := 0, locals := 0 }
def rm_J0_length : Room := { frames := 1, cells := 0, slots := 0, locals := 20 }
def rm_J0b : Room := { frames := 1, cells := 0, slots := 0, locals := 22 }
def rm_J1 : Room := { frames := 2, cells := 0, slots := 0, locals := 43 }
def rm_J0_charAt : Room := { frames := 3, cells := 0, slots := 0, locals := 64 }
def f_J0_length_8abf5 (i : Nat) : Option Int32 := some (nI (ms_len.getD i 0))
def f_J0_charAt_5068e (i : Nat) (j : Int32) : Option Int32 := ms_gi j (ms_len.getD i 0) (some ((ms_byt.getD i []).getD j.toNatClampNeg 0))
set_option maxHeartbeats 4000000 in
theorem fn_J0_coder (l : Launch) (G : Gc) (i : Nat) (hi : i < 14) : ms_Fn l G yJ0_coder_7d493 cJ0_coder_7d493 1 (some .byte) rm_J0a [.ref (G.2.2.1 i)] [] [] (some (.int 0)) := by
  refine ms_start RJ0 (by decide +kernel) rfl (Nat.le_of_ble_eq_true rfl) (fun p e s m below meth c A ls hX hW hl => ?_)
  have hx := hX.1.1
  have hb := hX.1.2.1
  have hl : lv_has ls 1 [(0, .ref (G.2.2.1 i))] := hl
  refine va_gets (ref := "java/lang/String") hx hb hX.2.2.2.2.2.2.1 hW.2.2 hX.1.2.2.2.1 (hX.1.2.2.2.2 (.fieldLink RJ0 38 "java/lang/String" "COMPACT_STRINGS" "Z") (ms_in 416 (by decide +kernel) (by decide +kernel))) (fun _ h => h) dJ0_coder_7d493_0 ?_
  refine lv_if_eq (tgt := 13) hx hb dJ0_coder_7d493_3 (by decide) (fun k => absurd k (by decide)) (fun k => ?_)
  refine lv_aload_n hx hb dJ0_coder_7d493_6 rfl (lv_at hl 0 rfl) ?_
  refine vk_getf (ref := "java/lang/String") hx hb (hX.2.2.2.2.2.1.1 i hi).2.1 hW.2.2 hX.1.2.2.2.1 (hX.1.2.2.2.2 (.fieldLink RJ0 15 "java/lang/String" "coder" "B") (ms_in 1205 (by decide +kernel) (by decide +kernel))) (fun _ h => h) dJ0_coder_7d493_7 ?_
  refine lv_goto (tgt := 14) hx hb dJ0_coder_7d493_10 (by decide) ?_
  exact ms_zret hX (by decide) hW dJ0_coder_7d493_14
set_option maxHeartbeats 4000000 in
theorem fn_J0_isLatin1 (l : Launch) (G : Gc) (i : Nat) (hi : i < 14) : ms_Fn l G yJ0_isLatin1_aae02 cJ0_isLatin1_aae02 1 (some .boolean) rm_J0a [.ref (G.2.2.1 i)] [] [] (some (.int 1)) := by
  refine ms_start RJ0 (by decide +kernel) rfl (Nat.le_of_ble_eq_true rfl) (fun p e s m below meth c A ls hX hW hl => ?_)
  have hx := hX.1.1
  have hb := hX.1.2.1
  have hl : lv_has ls 1 [(0, .ref (G.2.2.1 i))] := hl
  refine va_gets (ref := "java/lang/String") hx hb hX.2.2.2.2.2.2.1 hW.2.2 hX.1.2.2.2.1 (hX.1.2.2.2.2 (.fieldLink RJ0 38 "java/lang/String" "COMPACT_STRINGS" "Z") (ms_in 416 (by decide +kernel) (by decide +kernel))) (fun _ h => h) dJ0_isLatin1_aae02_0 ?_
  refine lv_if_eq (tgt := 17) hx hb dJ0_isLatin1_aae02_3 (by decide) (fun k => absurd k (by decide)) (fun k => ?_)
  refine lv_aload_n hx hb dJ0_isLatin1_aae02_6 rfl (lv_at hl 0 rfl) ?_
  refine vk_getf (ref := "java/lang/String") hx hb (hX.2.2.2.2.2.1.1 i hi).2.1 hW.2.2 hX.1.2.2.2.1 (hX.1.2.2.2.2 (.fieldLink RJ0 15 "java/lang/String" "coder" "B") (ms_in 1205 (by decide +kernel) (by decide +kernel))) (fun _ h => h) dJ0_isLatin1_aae02_7 ?_
  refine lv_if_ne (tgt := 17) hx hb dJ0_isLatin1_aae02_10 (by decide) (fun k => absurd rfl k) (fun k => ?_)
  refine lv_iconst (v := 1) hx hb dJ0_isLatin1_aae02_13 (by decide) ?_
  refine lv_goto (tgt := 18) hx hb dJ0_isLatin1_aae02_14 (by decide) ?_
  exact ms_zret hX (by decide) hW dJ0_isLatin1_aae02_18
set_option maxHeartbeats 4000000 in
theorem fn_J0_length_8abf5 (l : Launch) (G : Gc) (i : Nat) (hi : i < 14) {o : Int32} (h : f_J0_length_8abf5 i = some o) : ms_Fn l G yJ0_length_8abf5 cJ0_length_8abf5 1 (some .int) rm_J0_length [.ref (G.2.2.1 i)] [] [] (some (.int o)) := by
  refine ms_start RJ0 (by decide +kernel) rfl (Nat.le_of_ble_eq_true rfl) (fun p e s m below meth c A ls hX hW hl => ?_)
  have hx := hX.1.1
  have hb := hX.1.2.1
  have hl : lv_has ls 1 [(0, .ref (G.2.2.1 i))] := hl
  obtain rfl := Option.some.inj h
  refine lv_aload_n hx hb dJ0_length_8abf5_0 rfl (lv_at hl 0 rfl) ?_
  refine vk_getf (ref := "java/lang/String") hx hb (hX.2.2.2.2.2.1.1 i hi).2.2.1 hW.2.2 hX.1.2.2.2.1 (hX.1.2.2.2.2 (.fieldLink RJ0 9 "java/lang/String" "value" "[B") (ms_in 1204 (by decide +kernel) (by decide +kernel))) (fun _ h => h) dJ0_length_8abf5_1 ?_
  refine va_tlen (v := nI (ms_len.getD i 0)) hx hb (hX.2.2.2.2.2.1.1 i hi).2.2.2 hW.2.2 rfl dJ0_length_8abf5_4 ?_
  refine lv_aload_n hx hb dJ0_length_8abf5_5 rfl (lv_at hl 0 rfl) ?_
  refine ms_callK (fn_J0_coder l G i hi) hi wm_J0_coder_7d493 wv_J0_335 hX hW ⟨Nat.le_of_ble_eq_true rfl, Nat.le_of_ble_eq_true rfl, rfl, rfl, Nat.zero_le _, Nat.zero_le _⟩ rfl hl.1 [.int (nI (ms_len.getD i 0))] rfl (Nat.le_of_ble_eq_true rfl) dJ0_length_8abf5_6 (fun H locs hW => ?_)
  refine W.eq (g2 := F0 m 9 ls [.int 0, .int (nI (ms_len.getD i 0))]) rfl ?_
  refine lv_ishr hx hb dJ0_length_8abf5_9 ?_
  rw [sb_shr0]
  exact ms_iret hX hW dJ0_length_8abf5_10
set_option maxHeartbeats 4000000 in
theorem fn_J3_checkIndex (l : Launch) (G : Gc) (v : Value) (n : Nat) (hn : n < 2 ^ 31) (j : Int32) (hj : vp_in j n) (hv : v = .null ∨ ∃ t : Nat, v = .ref t) : ms_Fn l G yJ3_checkIndex_8e157 cJ3_checkIndex_8e157 3 (some .int) rm_J0a [.int j, .int (nI n), v] [] [] (some (.int j)) := by
  obtain ⟨q, hq, rfl⟩ := vp_in_of hj hn
  refine ms_start RJ3 (by decide +kernel) rfl (by rcases hv with rfl | ⟨t, rfl⟩ <;> exact Nat.le_of_ble_eq_true rfl) (fun p e s m below meth c A ls hX hW hl => ?_)
  have hx := hX.1.1
  have hb := hX.1.2.1
  have hl : lv_has ls 3 [(0, .int (nI q)), (1, .int (nI n))] := lv_sub hl [0, 1] (by rcases hv with rfl | ⟨t, rfl⟩ <;> rfl)
  refine lv_iload_n hx hb dJ3_checkIndex_8e157_0 rfl (lv_at hl 0 rfl) ?_
  refine lv_if_lt (tgt := 9) hx hb dJ3_checkIndex_8e157_1 (by decide) (fun k => absurd k (nI_pos (by omega))) (fun k => ?_)
  refine lv_iload_n hx hb dJ3_checkIndex_8e157_4 rfl (lv_at hl 0 rfl) ?_
  refine lv_iload_n hx hb dJ3_checkIndex_8e157_5 rfl (lv_at hl 1 rfl) ?_
  refine lv_icmp_lt (tgt := 16) hx hb dJ3_checkIndex_8e157_6 (by decide) (fun k => ?_) (fun k => absurd (nI_lt hq hn) k)
  refine lv_iload_n hx hb dJ3_checkIndex_8e157_16 rfl (lv_at hl 0 rfl) ?_
  exact ms_iret hX hW dJ3_checkIndex_8e157_17
set_option maxHeartbeats 4000000 in
theorem fn_J0_checkIndex (l : Launch) (G : Gc) (n : Nat) (hn : n < 2 ^ 31) (j : Int32) (hj : vp_in j n) : ms_Fn l G yJ0_checkIndex_df160 cJ0_checkIndex_df160 2 none rm_J0b [.int j, .int (nI n)] [] [] none := by
  refine ms_start RJ0 (by decide +kernel) rfl (Nat.le_of_ble_eq_true rfl) (fun p e s m below meth c A ls hX hW hl => ?_)
  have hx := hX.1.1
  have hb := hX.1.2.1
  have hl : lv_has ls 2 [(0, .int j), (1, .int (nI n))] := hl
  refine lv_iload_n hx hb dJ0_checkIndex_df160_0 rfl (lv_at hl 0 rfl) ?_
  refine lv_iload_n hx hb dJ0_checkIndex_df160_1 rfl (lv_at hl 1 rfl) ?_
  obtain ⟨v, hv, hZ⟩ : ∃ v : Value, (v = .null ∨ ∃ t : Nat, v = .ref t) ∧ va_Z "jdk/internal/util/Preconditions" "SIOOBE_FORMATTER" "Ljava/util/function/BiFunction;" v A s s.heap := by
    rcases hX.2.2.2.2.2.2.2.2.2 with h | ⟨t, h⟩
    · exact ⟨_, Or.inl rfl, h⟩
    · exact ⟨_, Or.inr ⟨t, rfl⟩, h⟩
  refine va_gets (ref := "jdk/internal/util/Preconditions") hx hb hZ hW.2.2 hX.1.2.2.2.1 (hX.1.2.2.2.2 (.fieldLink RJ0 1053 "jdk/internal/util/Preconditions" "SIOOBE_FORMATTER" "Ljava/util/function/BiFunction;") (ms_in 432 (by decide +kernel) (by decide +kernel))) (fun _ h => h) dJ0_checkIndex_df160_2 ?_
  refine ms_callS (As := [.int j, .int (nI n), v]) (fn_J3_checkIndex l G v n hn j hj hv) wm_J3_checkIndex_8e157 wz_J0_1059 hX hW [] rfl rfl rfl ⟨Nat.le_of_ble_eq_true rfl, Nat.le_of_ble_eq_true rfl, rfl, rfl, Nat.zero_le _, Nat.zero_le _⟩ rfl hl.1 [] rfl (Nat.le_of_ble_eq_true rfl) dJ0_checkIndex_df160_5 (fun H locs hW => ?_)
  have hW : ms_W G A s H locs [] := hW
  refine W.eq (g2 := F0 m 8 ls [.int j]) rfl ?_
  refine lv_pop hx hb dJ0_checkIndex_df160_8 rfl ?_
  exact ms_vret hX hW dJ0_checkIndex_df160_9
theorem ms_bytes : ∀ i, i < 14 → ∀ j, j < 6 → ((((ms_byt.getD i []).getD j 0) &&& 255).toUInt32 % 65536).toInt32 = (ms_byt.getD i []).getD j 0 := by decide +kernel
theorem ms_chars : ∀ i, i < 14 → ∀ j, j < 6 → narrow .char (.int ((ms_byt.getD i []).getD j 0)) = .int ((ms_byt.getD i []).getD j 0) := by decide +kernel
theorem ms_lens : ∀ i, i < 14 → ms_len.getD i 0 ≤ 6 := by decide +kernel
set_option maxHeartbeats 4000000 in
theorem fn_J1_charAt (l : Launch) (G : Gc) (i : Nat) (hi : i < 14) (j : Int32) (hj : vp_in j (ms_len.getD i 0)) : ms_Fn l G yJ1_charAt_3b067 cJ1_charAt_3b067 2 (some .char) rm_J1 [.ref (G.2.2.2 i), .int j] [] [] (some (.int ((ms_byt.getD i []).getD j.toNatClampNeg 0))) := by
  have hlen := ms_lens i hi
  have hjl : j.toNatClampNeg < 6 := Nat.lt_of_lt_of_le (Nat.not_le.mp fun q => hj (Or.inr q)) hlen
  refine ms_start RJ1 (by decide +kernel) rfl (Nat.le_of_ble_eq_true rfl) (fun p e s m below meth c A ls hX hW hl => ?_)
  have hx := hX.1.1
  have hb := hX.1.2.1
  have hl : lv_has ls 2 [(0, .ref (G.2.2.2 i)), (1, .int j)] := hl
  refine lv_iload_n hx hb dJ1_charAt_3b067_0 rfl (lv_at hl 1 rfl) ?_
  refine lv_aload_n hx hb dJ1_charAt_3b067_1 rfl (lv_at hl 0 rfl) ?_
  refine va_tlen (v := nI (ms_len.getD i 0)) hx hb (hX.2.2.2.2.2.1.1 i hi).2.2.2 hW.2.2 rfl dJ1_charAt_3b067_2 ?_
  refine ms_callS (As := [.int j, .int (nI (ms_len.getD i 0))]) (fn_J0_checkIndex l G _ (by omega) j hj) wm_J0_checkIndex_df160 wz_J1_9 hX hW [] rfl rfl rfl ⟨Nat.le_of_ble_eq_true rfl, Nat.le_of_ble_eq_true rfl, rfl, rfl, Nat.zero_le _, Nat.zero_le _⟩ rfl hl.1 [] rfl (Nat.le_of_ble_eq_true rfl) dJ1_charAt_3b067_3 (fun H locs hW => ?_)
  have hW : ms_W G A s H locs [] := hW
  refine W.eq (g2 := F0 m 6 ls []) rfl ?_
  refine lv_aload_n hx hb dJ1_charAt_3b067_6 rfl (lv_at hl 0 rfl) ?_
  refine lv_iload_n hx hb dJ1_charAt_3b067_7 rfl (lv_at hl 1 rfl) ?_
  refine va_tb hx hb (hX.2.2.2.2.2.1.1 i hi).2.2.2 hW.2.2 hj (v := .int ((ms_byt.getD i []).getD j.toNatClampNeg 0)) rfl dJ1_charAt_3b067_8 ?_
  refine lv_sipush (v := 255) hx hb dJ1_charAt_3b067_9 (by decide) ?_
  refine lv_iand hx hb dJ1_charAt_3b067_12 ?_
  refine lv_i2c (v := (ms_byt.getD i []).getD j.toNatClampNeg 0) hx hb dJ1_charAt_3b067_13 (ms_bytes i hi _ hjl) ?_
  exact ms_zret hX (ms_chars i hi _ hjl) hW dJ1_charAt_3b067_14
set_option maxHeartbeats 4000000 in
theorem fn_J0_charAt_5068e (l : Launch) (G : Gc) (i : Nat) (j : Int32) (hi : i < 14) {o : Int32} (h : f_J0_charAt_5068e i j = some o) : ms_Fn l G yJ0_charAt_5068e cJ0_charAt_5068e 2 (some .char) rm_J0_charAt [.ref (G.2.2.1 i), .int j] [] [] (some (.int o)) := by
  obtain ⟨hj, h⟩ := ms_gi_some h
  obtain rfl := Option.some.inj h
  have hjl : j.toNatClampNeg < 6 := Nat.lt_of_lt_of_le (Nat.not_le.mp fun q => hj (Or.inr q)) (ms_lens i hi)
  refine ms_start RJ0 (by decide +kernel) rfl (Nat.le_of_ble_eq_true rfl) (fun p e s m below meth c A ls hX hW hl => ?_)
  have hx := hX.1.1
  have hb := hX.1.2.1
  have hl : lv_has ls 2 [(0, .ref (G.2.2.1 i)), (1, .int j)] := hl
  refine lv_aload_n hx hb dJ0_charAt_5068e_0 rfl (lv_at hl 0 rfl) ?_
  refine ms_callK (As := []) (fn_J0_isLatin1 l G i hi) hi wm_J0_isLatin1_aae02 wv_J0_492 hX hW ⟨Nat.le_of_ble_eq_true rfl, Nat.le_of_ble_eq_true rfl, rfl, rfl, Nat.zero_le _, Nat.zero_le _⟩ rfl hl.1 [] rfl (Nat.le_of_ble_eq_true rfl) dJ0_charAt_5068e_1 (fun H locs hW => ?_)
  refine W.eq (g2 := F0 m 4 ls [.int 1]) rfl ?_
  refine lv_if_eq (tgt := 16) hx hb dJ0_charAt_5068e_4 (by decide) (fun k => absurd k (by decide)) (fun k => ?_)
  refine lv_aload_n hx hb dJ0_charAt_5068e_7 rfl (lv_at hl 0 rfl) ?_
  refine vk_getf (ref := "java/lang/String") hx hb (hX.2.2.2.2.2.1.1 i hi).2.2.1 hW.2.2 hX.1.2.2.2.1 (hX.1.2.2.2.2 (.fieldLink RJ0 9 "java/lang/String" "value" "[B") (ms_in 1204 (by decide +kernel) (by decide +kernel))) (fun _ h => h) dJ0_charAt_5068e_8 ?_
  refine lv_iload_n hx hb dJ0_charAt_5068e_11 rfl (lv_at hl 1 rfl) ?_
  refine ms_callS (As := [.ref (G.2.2.2 i), .int j]) (fn_J1_charAt l G i hi j hj) wm_J1_charAt_3b067 wz_J0_495 hX hW [] rfl rfl rfl ⟨Nat.le_of_ble_eq_true rfl, Nat.le_of_ble_eq_true rfl, rfl, rfl, Nat.zero_le _, Nat.zero_le _⟩ rfl hl.1 [] rfl (Nat.le_of_ble_eq_true rfl) dJ0_charAt_5068e_12 (fun H locs hW => ?_)
  have hW : ms_W G A s H locs [] := hW
  refine W.eq (g2 := F0 m 15 ls [.int ((ms_byt.getD i []).getD j.toNatClampNeg 0)]) rfl ?_
  exact ms_zret hX (ms_chars i hi _ hjl) hW dJ0_charAt_5068e_15
