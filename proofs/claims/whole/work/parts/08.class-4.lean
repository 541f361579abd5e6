def rm_X7_hasAttribute : Room := { frames := 0, cells := 0, slots := 0, locals := 0 }
def f_X7_hasAttribute (x_attributeCount : Int32) (v1 : Int32) : Option (Int32) := (if v1 < 0 then some 0 else (if x_attributeCount ≤ v1 then some 0 else some 1))
set_option maxHeartbeats 4000000 in
set_option maxRecDepth 100000 in
theorem fn_X7_hasAttribute (l : Launch) (G : Gc) (a_this : Nat) (a_codes : Nat) (a_begins : Nat) (a_ends : Nat) (a_characters : Nat) (a_attributeLetters : Nat) (a_valueBegins : Nat) (a_valueEnds : Nat) (a_values : Nat) (x_count : Int32) (x_attributeCount : Int32) (v1 : Int32)  {o : Int32} (h : f_X7_hasAttribute x_attributeCount v1 = some o) : ms_Fn l G yX7_hasAttribute cX7_hasAttribute 2 (some .boolean) rm_X7_hasAttribute [.ref a_this, .int v1] [ob_X7 a_this a_codes a_begins a_ends x_count a_characters a_attributeLetters a_valueBegins a_valueEnds x_attributeCount a_values] [ob_X7 a_this a_codes a_begins a_ends x_count a_characters a_attributeLetters a_valueBegins a_valueEnds x_attributeCount a_values] (some (.int o)) := by
  refine ms_start RX7 (by decide +kernel) rfl (Nat.le_of_ble_eq_true rfl) (fun p e s m below meth c A ls hX hW hl => ?_)
  have hx := hX.1.1
  have hb := hX.1.2.1
  have hl : lv_has ls 2 [(0, .ref a_this), (1, .int v1)] := hl
  unfold f_X7_hasAttribute at h
  refine lv_iload_n hx hb dX7_hasAttribute_0 rfl (lv_at hl 1 rfl) ?_
  refine lv_if_lt (tgt := 16) hx hb dX7_hasAttribute_1 (by decide) (fun k => ?_) (fun k => ?_)
  · have h := ms_ifp h k
    refine lv_iconst (v := 0) hx hb dX7_hasAttribute_16 (by decide) ?_
    obtain rfl := Option.some.inj h
    exact ms_zret hX (ms_nz (Or.inl rfl)) hW dX7_hasAttribute_17
  · have h := ms_ifn h k
    refine lv_iload_n hx hb dX7_hasAttribute_4 rfl (lv_at hl 1 rfl) ?_
    refine lv_aload_n hx hb dX7_hasAttribute_5 rfl (lv_at hl 0 rfl) ?_
    refine ms_get ff_X7_41 hX hW 0 rfl rfl dX7_hasAttribute_6 ?_
    refine lv_icmp_ge (tgt := 16) hx hb dX7_hasAttribute_9 (by decide) (fun k => ?_) (fun k => ?_)
    · have h := ms_ifp h k
      refine lv_iconst (v := 0) hx hb dX7_hasAttribute_16 (by decide) ?_
      obtain rfl := Option.some.inj h
      exact ms_zret hX (ms_nz (Or.inl rfl)) hW dX7_hasAttribute_17
    · have h := ms_ifn h k
      refine lv_iconst (v := 1) hx hb dX7_hasAttribute_12 (by decide) ?_
      refine lv_goto (tgt := 17) hx hb dX7_hasAttribute_13 (by decide) ?_
      obtain rfl := Option.some.inj h
      exact ms_zret hX (ms_nz (Or.inr rfl)) hW dX7_hasAttribute_17
def rm_X7_findAttribute : Room := { frames := 2, cells := 0, slots := 0, locals := 42 }
def f_X7_findAttribute_L46 (x_count : Int32) (x_attributeCount : Int32) (x_codes : Nat → Int32) (x_begins : Nat → Int32) (x_ends : Nat → Int32) (x_attributeLetters : Nat → Int32) (v1 : Int32) (v2 : Int32) (kk : Int32 → Option (Int32)) (v3 : Int32) : Option (Int32) := kk (v3 + 1)
set_option maxHeartbeats 4000000 in
set_option maxRecDepth 100000 in
theorem wb_X7_findAttribute_L46 {p : Program} {l : Launch} {e : Env} {s : State} {m : MethodId} {args : Array Value} {below : List Frame} {meth : Method} {c : Code} {G : Gc} {A : Nat → Prop} {H : Heap} {locs : List Loc} {ls : Array Slot} {a_this : Nat} {a_codes : Nat} {a_begins : Nat} {a_ends : Nat} {a_characters : Nat} {a_attributeLetters : Nat} {a_valueBegins : Nat} {a_valueEnds : Nat} {a_values : Nat} {x_count : Int32} {x_attributeCount : Int32} {x_codes : Nat → Int32} {x_begins : Nat → Int32} {x_ends : Nat → Int32} {x_attributeLetters : Nat → Int32} {v1 : Int32} {v2 : Int32} {kk : Int32 → Option (Int32)} {v3 : Int32} {o : Int32} (hX : ms_CX p s m args meth c cX7_findAttribute 4 RX7 (some .int) G A)  (ih : ∀ (v3 : Int32) (H : Heap) (locs : List Loc) (ls : Array Slot), kk v3 = some o → ms_W G A s H locs [ob_X7 a_this a_codes a_begins a_ends x_count a_characters a_attributeLetters a_valueBegins a_valueEnds x_attributeCount a_values, (a_codes, .inl (G.2.1 1, 200, .inl x_codes)), (a_begins, .inl (G.2.1 1, 200, .inl x_begins)), (a_ends, .inl (G.2.1 1, 200, .inl x_ends)), (a_attributeLetters, .inl (G.2.1 1, 100, .inl x_attributeLetters))] → lv_has ls 4 [(0, .ref a_this), (1, .int v1), (2, .int v2), (3, .int v3)] → W p l e rm_X7_findAttribute s m args below meth c H locs 0 0 (ms_Q G A below args s [ob_X7 a_this a_codes a_begins a_ends x_count a_characters a_attributeLetters a_valueBegins a_valueEnds x_attributeCount a_values, (a_codes, .inl (G.2.1 1, 200, .inl x_codes)), (a_begins, .inl (G.2.1 1, 200, .inl x_begins)), (a_ends, .inl (G.2.1 1, 200, .inl x_ends)), (a_attributeLetters, .inl (G.2.1 1, 100, .inl x_attributeLetters))] (some (.int o))) (F0 m 17 ls [])) (h : f_X7_findAttribute_L46 x_count x_attributeCount x_codes x_begins x_ends x_attributeLetters v1 v2 kk v3 = some o) (hW : ms_W G A s H locs [ob_X7 a_this a_codes a_begins a_ends x_count a_characters a_attributeLetters a_valueBegins a_valueEnds x_attributeCount a_values, (a_codes, .inl (G.2.1 1, 200, .inl x_codes)), (a_begins, .inl (G.2.1 1, 200, .inl x_begins)), (a_ends, .inl (G.2.1 1, 200, .inl x_ends)), (a_attributeLetters, .inl (G.2.1 1, 100, .inl x_attributeLetters))]) (hl : lv_has ls 4 [(0, .ref a_this), (1, .int v1), (2, .int v2), (3, .int v3)]) : W p l e rm_X7_findAttribute s m args below meth c H locs 0 0 (ms_Q G A below args s [ob_X7 a_this a_codes a_begins a_ends x_count a_characters a_attributeLetters a_valueBegins a_valueEnds x_attributeCount a_values, (a_codes, .inl (G.2.1 1, 200, .inl x_codes)), (a_begins, .inl (G.2.1 1, 200, .inl x_begins)), (a_ends, .inl (G.2.1 1, 200, .inl x_ends)), (a_attributeLetters, .inl (G.2.1 1, 100, .inl x_attributeLetters))] (some (.int o))) (F0 m 46 ls []) := by
  have hx := hX.1.1
  have hb := hX.1.2.1
  unfold f_X7_findAttribute_L46 at h
  refine lv_iinc (v := v3 + 1) (lv' := [(3, .int (v3 + 1)), (0, .ref a_this), (1, .int v1), (2, .int v2)]) hx hb dX7_findAttribute_46 hl (k := 3) rfl rfl (by decide) rfl (fun ls hl => ?_)
  refine lv_goto (tgt := 17) hx hb dX7_findAttribute_49 (by decide) ?_
  exact ih _ _ _ _ h hW (lv_sub hl [1, 2, 3, 0] rfl)
def f_X7_findAttribute_L17 (x_count : Int32) (x_attributeCount : Int32) (x_codes : Nat → Int32) (x_begins : Nat → Int32) (x_ends : Nat → Int32) (x_attributeLetters : Nat → Int32) (v1 : Int32) (v2 : Int32) : Nat → Int32 → Option (Int32)
  | 0, _ => none
  | n + 1, v3 => (f_X7_endOf x_count x_ends v1).bind (fun q20 => (if q20 ≤ v3 then some (-1) else (f_X7_hasAttribute x_attributeCount v3).bind (fun q28 => (if q28 = 0 then f_X7_findAttribute_L46 x_count x_attributeCount x_codes x_begins x_ends x_attributeLetters v1 v2 (f_X7_findAttribute_L17 x_count x_attributeCount x_codes x_begins x_ends x_attributeLetters v1 v2 n) v3 else ms_gi v3 100 ((if (x_attributeLetters v3.toNatClampNeg) = v2 then some v3 else f_X7_findAttribute_L46 x_count x_attributeCount x_codes x_begins x_ends x_attributeLetters v1 v2 (f_X7_findAttribute_L17 x_count x_attributeCount x_codes x_begins x_ends x_attributeLetters v1 v2 n) v3))))))
set_option maxHeartbeats 4000000 in
set_option maxRecDepth 100000 in
theorem wb_X7_findAttribute_L17 {p : Program} {l : Launch} {e : Env} {s : State} {m : MethodId} {args : Array Value} {below : List Frame} {meth : Method} {c : Code} {G : Gc} {A : Nat → Prop} {a_this : Nat} {a_codes : Nat} {a_begins : Nat} {a_ends : Nat} {a_characters : Nat} {a_attributeLetters : Nat} {a_valueBegins : Nat} {a_valueEnds : Nat} {a_values : Nat} {x_count : Int32} {x_attributeCount : Int32} {x_codes : Nat → Int32} {x_begins : Nat → Int32} {x_ends : Nat → Int32} {x_attributeLetters : Nat → Int32} {v1 : Int32} {v2 : Int32} {o : Int32} (hX : ms_CX p s m args meth c cX7_findAttribute 4 RX7 (some .int) G A)  : ∀ (n : Nat) (v3 : Int32) (H : Heap) (locs : List Loc) (ls : Array Slot), f_X7_findAttribute_L17 x_count x_attributeCount x_codes x_begins x_ends x_attributeLetters v1 v2 n v3 = some o → ms_W G A s H locs [ob_X7 a_this a_codes a_begins a_ends x_count a_characters a_attributeLetters a_valueBegins a_valueEnds x_attributeCount a_values, (a_codes, .inl (G.2.1 1, 200, .inl x_codes)), (a_begins, .inl (G.2.1 1, 200, .inl x_begins)), (a_ends, .inl (G.2.1 1, 200, .inl x_ends)), (a_attributeLetters, .inl (G.2.1 1, 100, .inl x_attributeLetters))] → lv_has ls 4 [(0, .ref a_this), (1, .int v1), (2, .int v2), (3, .int v3)] → W p l e rm_X7_findAttribute s m args below meth c H locs 0 0 (ms_Q G A below args s [ob_X7 a_this a_codes a_begins a_ends x_count a_characters a_attributeLetters a_valueBegins a_valueEnds x_attributeCount a_values, (a_codes, .inl (G.2.1 1, 200, .inl x_codes)), (a_begins, .inl (G.2.1 1, 200, .inl x_begins)), (a_ends, .inl (G.2.1 1, 200, .inl x_ends)), (a_attributeLetters, .inl (G.2.1 1, 100, .inl x_attributeLetters))] (some (.int o))) (F0 m 17 ls []) := by
  have hx := hX.1.1
  have hb := hX.1.2.1
  intro n
  induction n with
  | zero => intro v3 H locs ls h; rw [f_X7_findAttribute_L17] at h; cases h
  | succ n ih =>
    intro v3 H locs ls h hW hl
    rw [f_X7_findAttribute_L17] at h
    refine lv_iload_n hx hb dX7_findAttribute_17 rfl (lv_at hl 3 rfl) ?_
    refine lv_aload_n hx hb dX7_findAttribute_18 rfl (lv_at hl 0 rfl) ?_
    refine lv_iload_n hx hb dX7_findAttribute_19 rfl (lv_at hl 1 rfl) ?_
    obtain ⟨q20, hq20, h⟩ := ms_bd h
    refine ms_callV (fn_X7_endOf l G a_this a_codes a_begins a_ends a_characters a_attributeLetters a_valueBegins a_valueEnds a_values x_count x_attributeCount x_ends v1 hq20) wm_X7_endOf wv_X7_65 hX hW [0, 3] rfl rfl rfl rfl rfl ⟨Nat.le_of_ble_eq_true rfl, Nat.le_of_ble_eq_true rfl, rfl, rfl, Nat.zero_le _, Nat.zero_le _⟩ rfl hl.1 [.int v3] rfl (Nat.le_of_ble_eq_true rfl) dX7_findAttribute_20 (fun H locs hW => ?_)
    have hW : ms_W G A s H locs [ob_X7 a_this a_codes a_begins a_ends x_count a_characters a_attributeLetters a_valueBegins a_valueEnds x_attributeCount a_values, (a_codes, .inl (G.2.1 1, 200, .inl x_codes)), (a_begins, .inl (G.2.1 1, 200, .inl x_begins)), (a_ends, .inl (G.2.1 1, 200, .inl x_ends)), (a_attributeLetters, .inl (G.2.1 1, 100, .inl x_attributeLetters))] := hW
    refine W.eq (g2 := F0 m 23 ls [.int q20, .int v3]) rfl ?_
    refine lv_icmp_ge (tgt := 52) hx hb dX7_findAttribute_23 (by decide) (fun k => ?_) (fun k => ?_)
    · have h := ms_ifp h k
      refine lv_iconst (v := (-1)) hx hb dX7_findAttribute_52 (by decide) ?_
      obtain rfl := Option.some.inj h
      exact ms_iret hX hW dX7_findAttribute_53
    · have h := ms_ifn h k
      refine lv_aload_n hx hb dX7_findAttribute_26 rfl (lv_at hl 0 rfl) ?_
      refine lv_iload_n hx hb dX7_findAttribute_27 rfl (lv_at hl 3 rfl) ?_
      obtain ⟨q28, hq28, h⟩ := ms_bd h
      refine ms_callV (fn_X7_hasAttribute l G a_this a_codes a_begins a_ends a_characters a_attributeLetters a_valueBegins a_valueEnds a_values x_count x_attributeCount v3 hq28) wm_X7_hasAttribute wv_X7_68 hX hW [0] rfl rfl rfl rfl rfl ⟨Nat.le_of_ble_eq_true rfl, Nat.le_of_ble_eq_true rfl, rfl, rfl, Nat.zero_le _, Nat.zero_le _⟩ rfl hl.1 [] rfl (Nat.le_of_ble_eq_true rfl) dX7_findAttribute_28 (fun H locs hW => ?_)
      have hW : ms_W G A s H locs [ob_X7 a_this a_codes a_begins a_ends x_count a_characters a_attributeLetters a_valueBegins a_valueEnds x_attributeCount a_values, (a_codes, .inl (G.2.1 1, 200, .inl x_codes)), (a_begins, .inl (G.2.1 1, 200, .inl x_begins)), (a_ends, .inl (G.2.1 1, 200, .inl x_ends)), (a_attributeLetters, .inl (G.2.1 1, 100, .inl x_attributeLetters))] := hW
      refine W.eq (g2 := F0 m 31 ls [.int q28]) rfl ?_
      refine lv_if_eq (tgt := 46) hx hb dX7_findAttribute_31 (by decide) (fun k => ?_) (fun k => ?_)
      · have h := ms_ifp h k
        exact wb_X7_findAttribute_L46 hX (ih) h hW (lv_sub hl [0, 1, 2, 3] rfl)
      · have h := ms_ifn h k
        refine lv_aload_n hx hb dX7_findAttribute_34 rfl (lv_at hl 0 rfl) ?_
        refine ms_get ff_X7_32 hX hW 0 rfl rfl dX7_findAttribute_35 ?_
        refine lv_iload_n hx hb dX7_findAttribute_38 rfl (lv_at hl 3 rfl) ?_
        obtain ⟨k, h⟩ := ms_gi_some h
        refine ms_iald hX hW 4 rfl k dX7_findAttribute_39 ?_
        refine lv_iload_n hx hb dX7_findAttribute_40 rfl (lv_at hl 2 rfl) ?_
        refine lv_icmp_ne (tgt := 46) hx hb dX7_findAttribute_41 (by decide) (fun k => ?_) (fun k => ?_)
        · have h := ms_ifn h k
          exact wb_X7_findAttribute_L46 hX (ih) h hW (lv_sub hl [0, 1, 2, 3] rfl)
        · have h := ms_ifp h k
          refine lv_iload_n hx hb dX7_findAttribute_44 rfl (lv_at hl 3 rfl) ?_
          obtain rfl := Option.some.inj h
          exact ms_iret hX hW dX7_findAttribute_45
def f_X7_findAttribute (x_count : Int32) (x_attributeCount : Int32) (x_codes : Nat → Int32) (x_begins : Nat → Int32) (x_ends : Nat → Int32) (x_attributeLetters : Nat → Int32) (v1 : Int32) (v2 : Int32) : Option (Int32) := (f_X7_kindOf x_count x_codes v1).bind (fun q2 => (if q2 = 3 then (f_X7_beginOf x_count x_begins v1).bind (fun q13 => f_X7_findAttribute_L17 x_count x_attributeCount x_codes x_begins x_ends x_attributeLetters v1 v2 1000 q13) else some (-1)))
set_option maxHeartbeats 4000000 in
set_option maxRecDepth 100000 in
theorem fn_X7_findAttribute (l : Launch) (G : Gc) (a_this : Nat) (a_codes : Nat) (a_begins : Nat) (a_ends : Nat) (a_characters : Nat) (a_attributeLetters : Nat) (a_valueBegins : Nat) (a_valueEnds : Nat) (a_values : Nat) (x_count : Int32) (x_attributeCount : Int32) (x_codes : Nat → Int32) (x_begins : Nat → Int32) (x_ends : Nat → Int32) (x_attributeLetters : Nat → Int32) (v1 : Int32) (v2 : Int32)  {o : Int32} (h : f_X7_findAttribute x_count x_attributeCount x_codes x_begins x_ends x_attributeLetters v1 v2 = some o) : ms_Fn l G yX7_findAttribute cX7_findAttribute 4 (some .int) rm_X7_findAttribute [.ref a_this, .int v1, .int v2] [ob_X7 a_this a_codes a_begins a_ends x_count a_characters a_attributeLetters a_valueBegins a_valueEnds x_attributeCount a_values, (a_codes, .inl (G.2.1 1, 200, .inl x_codes)), (a_begins, .inl (G.2.1 1, 200, .inl x_begins)), (a_ends, .inl (G.2.1 1, 200, .inl x_ends)), (a_attributeLetters, .inl (G.2.1 1, 100, .inl x_attributeLetters))] [ob_X7 a_this a_codes a_begins a_ends x_count a_characters a_attributeLetters a_valueBegins a_valueEnds x_attributeCount a_values, (a_codes, .inl (G.2.1 1, 200, .inl x_codes)), (a_begins, .inl (G.2.1 1, 200, .inl x_begins)), (a_ends, .inl (G.2.1 1, 200, .inl x_ends)), (a_attributeLetters, .inl (G.2.1 1, 100, .inl x_attributeLetters))] (some (.int o)) := by
  refine ms_start RX7 (by decide +kernel) rfl (Nat.le_of_ble_eq_true rfl) (fun p e s m below meth c A ls hX hW hl => ?_)
  have hx := hX.1.1
  have hb := hX.1.2.1
  have hl : lv_has ls 4 [(0, .ref a_this), (1, .int v1), (2, .int v2)] := hl
  unfold f_X7_findAttribute at h
  refine lv_aload_n hx hb dX7_findAttribute_0 rfl (lv_at hl 0 rfl) ?_
  refine lv_iload_n hx hb dX7_findAttribute_1 rfl (lv_at hl 1 rfl) ?_
  obtain ⟨q2, hq2, h⟩ := ms_bd h
  refine ms_callV (fn_X7_kindOf l G a_this a_codes a_begins a_ends a_characters a_attributeLetters a_valueBegins a_valueEnds a_values x_count x_attributeCount x_codes v1 hq2) wm_X7_kindOf wv_X7_54 hX hW [0, 1] rfl rfl rfl rfl rfl ⟨Nat.le_of_ble_eq_true rfl, Nat.le_of_ble_eq_true rfl, rfl, rfl, Nat.zero_le _, Nat.zero_le _⟩ rfl hl.1 [] rfl (Nat.le_of_ble_eq_true rfl) dX7_findAttribute_2 (fun H locs hW => ?_)
  have hW : ms_W G A s H locs [ob_X7 a_this a_codes a_begins a_ends x_count a_characters a_attributeLetters a_valueBegins a_valueEnds x_attributeCount a_values, (a_codes, .inl (G.2.1 1, 200, .inl x_codes)), (a_begins, .inl (G.2.1 1, 200, .inl x_begins)), (a_ends, .inl (G.2.1 1, 200, .inl x_ends)), (a_attributeLetters, .inl (G.2.1 1, 100, .inl x_attributeLetters))] := hW
  refine W.eq (g2 := F0 m 5 ls [.int q2]) rfl ?_
  refine lv_iconst (v := 3) hx hb dX7_findAttribute_5 (by decide) ?_
  refine lv_icmp_eq (tgt := 11) hx hb dX7_findAttribute_6 (by decide) (fun k => ?_) (fun k => ?_)
  · have h := ms_ifp h k
    refine lv_aload_n hx hb dX7_findAttribute_11 rfl (lv_at hl 0 rfl) ?_
    refine lv_iload_n hx hb dX7_findAttribute_12 rfl (lv_at hl 1 rfl) ?_
    obtain ⟨q13, hq13, h⟩ := ms_bd h
    refine ms_callV (fn_X7_beginOf l G a_this a_codes a_begins a_ends a_characters a_attributeLetters a_valueBegins a_valueEnds a_values x_count x_attributeCount x_begins v1 hq13) wm_X7_beginOf wv_X7_62 hX hW [0, 2] rfl rfl rfl rfl rfl ⟨Nat.le_of_ble_eq_true rfl, Nat.le_of_ble_eq_true rfl, rfl, rfl, Nat.zero_le _, Nat.zero_le _⟩ rfl hl.1 [] rfl (Nat.le_of_ble_eq_true rfl) dX7_findAttribute_13 (fun H locs hW => ?_)
    have hW : ms_W G A s H locs [ob_X7 a_this a_codes a_begins a_ends x_count a_characters a_attributeLetters a_valueBegins a_valueEnds x_attributeCount a_values, (a_codes, .inl (G.2.1 1, 200, .inl x_codes)), (a_begins, .inl (G.2.1 1, 200, .inl x_begins)), (a_ends, .inl (G.2.1 1, 200, .inl x_ends)), (a_attributeLetters, .inl (G.2.1 1, 100, .inl x_attributeLetters))] := hW
    refine W.eq (g2 := F0 m 16 ls [.int q13]) rfl ?_
    refine lv_istore_n (lv' := [(3, .int q13), (0, .ref a_this), (1, .int v1), (2, .int v2)]) hx hb dX7_findAttribute_16 rfl hl (by decide) rfl (fun ls hl => ?_)
    exact wb_X7_findAttribute_L17 hX _ _ _ _ _ h hW (lv_sub hl [1, 2, 3, 0] rfl)
  · have h := ms_ifn h k
    refine lv_iconst (v := (-1)) hx hb dX7_findAttribute_9 (by decide) ?_
    obtain rfl := Option.some.inj h
    exact ms_iret hX hW dX7_findAttribute_10
def rm_X7_letterOf : Room := { frames := 1, cells := 0, slots := 0, locals := 21 }
def f_X7_letterOf (x_attributeCount : Int32) (x_attributeLetters : Nat → Int32) (v1 : Int32) : Option (Int32) := (f_X7_hasAttribute x_attributeCount v1).bind (fun q2 => (if q2 = 0 then some (-1) else ms_gi v1 100 (some (x_attributeLetters v1.toNatClampNeg))))
set_option maxHeartbeats 4000000 in
set_option maxRecDepth 100000 in
theorem fn_X7_letterOf (l : Launch) (G : Gc) (a_this : Nat) (a_codes : Nat) (a_begins : Nat) (a_ends : Nat) (a_characters : Nat) (a_attributeLetters : Nat) (a_valueBegins : Nat) (a_valueEnds : Nat) (a_values : Nat) (x_count : Int32) (x_attributeCount : Int32) (x_attributeLetters : Nat → Int32) (v1 : Int32)  {o : Int32} (h : f_X7_letterOf x_attributeCount x_attributeLetters v1 = some o) : ms_Fn l G yX7_letterOf cX7_letterOf 2 (some .int) rm_X7_letterOf [.ref a_this, .int v1] [ob_X7 a_this a_codes a_begins a_ends x_count a_characters a_attributeLetters a_valueBegins a_valueEnds x_attributeCount a_values, (a_attributeLetters, .inl (G.2.1 1, 100, .inl x_attributeLetters))] [ob_X7 a_this a_codes a_begins a_ends x_count a_characters a_attributeLetters a_valueBegins a_valueEnds x_attributeCount a_values, (a_attributeLetters, .inl (G.2.1 1, 100, .inl x_attributeLetters))] (some (.int o)) := by
  refine ms_start RX7 (by decide +kernel) rfl (Nat.le_of_ble_eq_true rfl) (fun p e s m below meth c A ls hX hW hl => ?_)
  have hx := hX.1.1
  have hb := hX.1.2.1
  have hl : lv_has ls 2 [(0, .ref a_this), (1, .int v1)] := hl
  unfold f_X7_letterOf at h
  refine lv_aload_n hx hb dX7_letterOf_0 rfl (lv_at hl 0 rfl) ?_
  refine lv_iload_n hx hb dX7_letterOf_1 rfl (lv_at hl 1 rfl) ?_
  obtain ⟨q2, hq2, h⟩ := ms_bd h
  refine ms_callV (fn_X7_hasAttribute l G a_this a_codes a_begins a_ends a_characters a_attributeLetters a_valueBegins a_valueEnds a_values x_count x_attributeCount v1 hq2) wm_X7_hasAttribute wv_X7_68 hX hW [0] rfl rfl rfl rfl rfl ⟨Nat.le_of_ble_eq_true rfl, Nat.le_of_ble_eq_true rfl, rfl, rfl, Nat.zero_le _, Nat.zero_le _⟩ rfl hl.1 [] rfl (Nat.le_of_ble_eq_true rfl) dX7_letterOf_2 (fun H locs hW => ?_)
  have hW : ms_W G A s H locs [ob_X7 a_this a_codes a_begins a_ends x_count a_characters a_attributeLetters a_valueBegins a_valueEnds x_attributeCount a_values, (a_attributeLetters, .inl (G.2.1 1, 100, .inl x_attributeLetters))] := hW
  refine W.eq (g2 := F0 m 5 ls [.int q2]) rfl ?_
  refine lv_if_eq (tgt := 17) hx hb dX7_letterOf_5 (by decide) (fun k => ?_) (fun k => ?_)
  · have h := ms_ifp h k
    refine lv_iconst (v := (-1)) hx hb dX7_letterOf_17 (by decide) ?_
    obtain rfl := Option.some.inj h
    exact ms_iret hX hW dX7_letterOf_18
  · have h := ms_ifn h k
    refine lv_aload_n hx hb dX7_letterOf_8 rfl (lv_at hl 0 rfl) ?_
    refine ms_get ff_X7_32 hX hW 0 rfl rfl dX7_letterOf_9 ?_
    refine lv_iload_n hx hb dX7_letterOf_12 rfl (lv_at hl 1 rfl) ?_
    obtain ⟨k, h⟩ := ms_gi_some h
    refine ms_iald hX hW 1 rfl k dX7_letterOf_13 ?_
    refine lv_goto (tgt := 18) hx hb dX7_letterOf_14 (by decide) ?_
    obtain rfl := Option.some.inj h
    exact ms_iret hX hW dX7_letterOf_18
def rm_X7_valueBeginOf : Room := { frames := 1, cells := 0, slots := 0, locals := 21 }
def f_X7_valueBeginOf (x_attributeCount : Int32) (x_valueBegins : Nat → Int32) (v1 : Int32) : Option (Int32) := (f_X7_hasAttribute x_attributeCount v1).bind (fun q2 => (if q2 = 0 then some 0 else ms_gi v1 100 (some (x_valueBegins v1.toNatClampNeg))))
set_option maxHeartbeats 4000000 in
set_option maxRecDepth 100000 in
theorem fn_X7_valueBeginOf (l : Launch) (G : Gc) (a_this : Nat) (a_codes : Nat) (a_begins : Nat) (a_ends : Nat) (a_characters : Nat) (a_attributeLetters : Nat) (a_valueBegins : Nat) (a_valueEnds : Nat) (a_values : Nat) (x_count : Int32) (x_attributeCount : Int32) (x_valueBegins : Nat → Int32) (v1 : Int32)  {o : Int32} (h : f_X7_valueBeginOf x_attributeCount x_valueBegins v1 = some o) : ms_Fn l G yX7_valueBeginOf cX7_valueBeginOf 2 (some .int) rm_X7_valueBeginOf [.ref a_this, .int v1] [ob_X7 a_this a_codes a_begins a_ends x_count a_characters a_attributeLetters a_valueBegins a_valueEnds x_attributeCount a_values, (a_valueBegins, .inl (G.2.1 1, 100, .inl x_valueBegins))] [ob_X7 a_this a_codes a_begins a_ends x_count a_characters a_attributeLetters a_valueBegins a_valueEnds x_attributeCount a_values, (a_valueBegins, .inl (G.2.1 1, 100, .inl x_valueBegins))] (some (.int o)) := by
  refine ms_start RX7 (by decide +kernel) rfl (Nat.le_of_ble_eq_true rfl) (fun p e s m below meth c A ls hX hW hl => ?_)
  have hx := hX.1.1
  have hb := hX.1.2.1
  have hl : lv_has ls 2 [(0, .ref a_this), (1, .int v1)] := hl
  unfold f_X7_valueBeginOf at h
  refine lv_aload_n hx hb dX7_valueBeginOf_0 rfl (lv_at hl 0 rfl) ?_
  refine lv_iload_n hx hb dX7_valueBeginOf_1 rfl (lv_at hl 1 rfl) ?_
  obtain ⟨q2, hq2, h⟩ := ms_bd h
  refine ms_callV (fn_X7_hasAttribute l G a_this a_codes a_begins a_ends a_characters a_attributeLetters a_valueBegins a_valueEnds a_values x_count x_attributeCount v1 hq2) wm_X7_hasAttribute wv_X7_68 hX hW [0] rfl rfl rfl rfl rfl ⟨Nat.le_of_ble_eq_true rfl, Nat.le_of_ble_eq_true rfl, rfl, rfl, Nat.zero_le _, Nat.zero_le _⟩ rfl hl.1 [] rfl (Nat.le_of_ble_eq_true rfl) dX7_valueBeginOf_2 (fun H locs hW => ?_)
  have hW : ms_W G A s H locs [ob_X7 a_this a_codes a_begins a_ends x_count a_characters a_attributeLetters a_valueBegins a_valueEnds x_attributeCount a_values, (a_valueBegins, .inl (G.2.1 1, 100, .inl x_valueBegins))] := hW
  refine W.eq (g2 := F0 m 5 ls [.int q2]) rfl ?_
  refine lv_if_eq (tgt := 17) hx hb dX7_valueBeginOf_5 (by decide) (fun k => ?_) (fun k => ?_)
  · have h := ms_ifp h k
    refine lv_iconst (v := 0) hx hb dX7_valueBeginOf_17 (by decide) ?_
    obtain rfl := Option.some.inj h
    exact ms_iret hX hW dX7_valueBeginOf_18
  · have h := ms_ifn h k
    refine lv_aload_n hx hb dX7_valueBeginOf_8 rfl (lv_at hl 0 rfl) ?_
    refine ms_get ff_X7_35 hX hW 0 rfl rfl dX7_valueBeginOf_9 ?_
    refine lv_iload_n hx hb dX7_valueBeginOf_12 rfl (lv_at hl 1 rfl) ?_
    obtain ⟨k, h⟩ := ms_gi_some h
    refine ms_iald hX hW 1 rfl k dX7_valueBeginOf_13 ?_
    refine lv_goto (tgt := 18) hx hb dX7_valueBeginOf_14 (by decide) ?_
    obtain rfl := Option.some.inj h
    exact ms_iret hX hW dX7_valueBeginOf_18
def rm_X7_valueEndOf : Room := { frames := 1, cells := 0, slots := 0, locals := 21 }
def f_X7_valueEndOf (x_attributeCount : Int32) (x_valueEnds : Nat → Int32) (v1 : Int32) : Option (Int32) := (f_X7_hasAttribute x_attributeCount v1).bind (fun q2 => (if q2 = 0 then some 0 else ms_gi v1 100 (some (x_valueEnds v1.toNatClampNeg))))
set_option maxHeartbeats 4000000 in
set_option maxRecDepth 100000 in
theorem fn_X7_valueEndOf (l : Launch) (G : Gc) (a_this : Nat) (a_codes : Nat) (a_begins : Nat) (a_ends : Nat) (a_characters : Nat) (a_attributeLetters : Nat) (a_valueBegins : Nat) (a_valueEnds : Nat) (a_values : Nat) (x_count : Int32) (x_attributeCount : Int32) (x_valueEnds : Nat → Int32) (v1 : Int32)  {o : Int32} (h : f_X7_valueEndOf x_attributeCount x_valueEnds v1 = some o) : ms_Fn l G yX7_valueEndOf cX7_valueEndOf 2 (some .int) rm_X7_valueEndOf [.ref a_this, .int v1] [ob_X7 a_this a_codes a_begins a_ends x_count a_characters a_attributeLetters a_valueBegins a_valueEnds x_attributeCount a_values, (a_valueEnds, .inl (G.2.1 1, 100, .inl x_valueEnds))] [ob_X7 a_this a_codes a_begins a_ends x_count a_characters a_attributeLetters a_valueBegins a_valueEnds x_attributeCount a_values, (a_valueEnds, .inl (G.2.1 1, 100, .inl x_valueEnds))] (some (.int o)) := by
  refine ms_start RX7 (by decide +kernel) rfl (Nat.le_of_ble_eq_true rfl) (fun p e s m below meth c A ls hX hW hl => ?_)
  have hx := hX.1.1
  have hb := hX.1.2.1
  have hl : lv_has ls 2 [(0, .ref a_this), (1, .int v1)] := hl
  unfold f_X7_valueEndOf at h
  refine lv_aload_n hx hb dX7_valueEndOf_0 rfl (lv_at hl 0 rfl) ?_
  refine lv_iload_n hx hb dX7_valueEndOf_1 rfl (lv_at hl 1 rfl) ?_
  obtain ⟨q2, hq2, h⟩ := ms_bd h
  refine ms_callV (fn_X7_hasAttribute l G a_this a_codes a_begins a_ends a_characters a_attributeLetters a_valueBegins a_valueEnds a_values x_count x_attributeCount v1 hq2) wm_X7_hasAttribute wv_X7_68 hX hW [0] rfl rfl rfl rfl rfl ⟨Nat.le_of_ble_eq_true rfl, Nat.le_of_ble_eq_true rfl, rfl, rfl, Nat.zero_le _, Nat.zero_le _⟩ rfl hl.1 [] rfl (Nat.le_of_ble_eq_true rfl) dX7_valueEndOf_2 (fun H locs hW => ?_)
  have hW : ms_W G A s H locs [ob_X7 a_this a_codes a_begins a_ends x_count a_characters a_attributeLetters a_valueBegins a_valueEnds x_attributeCount a_values, (a_valueEnds, .inl (G.2.1 1, 100, .inl x_valueEnds))] := hW
  refine W.eq (g2 := F0 m 5 ls [.int q2]) rfl ?_
  refine lv_if_eq (tgt := 17) hx hb dX7_valueEndOf_5 (by decide) (fun k => ?_) (fun k => ?_)
  · have h := ms_ifp h k
    refine lv_iconst (v := 0) hx hb dX7_valueEndOf_17 (by decide) ?_
    obtain rfl := Option.some.inj h
    exact ms_iret hX hW dX7_valueEndOf_18
  · have h := ms_ifn h k
    refine lv_aload_n hx hb dX7_valueEndOf_8 rfl (lv_at hl 0 rfl) ?_
    refine ms_get ff_X7_38 hX hW 0 rfl rfl dX7_valueEndOf_9 ?_
    refine lv_iload_n hx hb dX7_valueEndOf_12 rfl (lv_at hl 1 rfl) ?_
    obtain ⟨k, h⟩ := ms_gi_some h
    refine ms_iald hX hW 1 rfl k dX7_valueEndOf_13 ?_
    refine lv_goto (tgt := 18) hx hb dX7_valueEndOf_14 (by decide) ?_
    obtain rfl := Option.some.inj h
    exact ms_iret hX hW dX7_valueEndOf_18
def rm_X7_sizeOfValue : Room := { frames := 1, cells := 0, slots := 0, locals := 21 }
def f_X7_sizeOfValue (x_attributeCount : Int32) (x_valueBegins : Nat → Int32) (x_valueEnds : Nat → Int32) (v1 : Int32) : Option (Int32) := (f_X7_hasAttribute x_attributeCount v1).bind (fun q2 => (if q2 = 0 then some (-1) else ms_gi v1 100 (ms_gi v1 100 (some ((x_valueEnds v1.toNatClampNeg) - (x_valueBegins v1.toNatClampNeg))))))
set_option maxHeartbeats 4000000 in
set_option maxRecDepth 100000 in
theorem fn_X7_sizeOfValue (l : Launch) (G : Gc) (a_this : Nat) (a_codes : Nat) (a_begins : Nat) (a_ends : Nat) (a_characters : Nat) (a_attributeLetters : Nat) (a_valueBegins : Nat) (a_valueEnds : Nat) (a_values : Nat) (x_count : Int32) (x_attributeCount : Int32) (x_valueBegins : Nat → Int32) (x_valueEnds : Nat → Int32) (v1 : Int32)  {o : Int32} (h : f_X7_sizeOfValue x_attributeCount x_valueBegins x_valueEnds v1 = some o) : ms_Fn l G yX7_sizeOfValue cX7_sizeOfValue 2 (some .int) rm_X7_sizeOfValue [.ref a_this, .int v1] [ob_X7 a_this a_codes a_begins a_ends x_count a_characters a_attributeLetters a_valueBegins a_valueEnds x_attributeCount a_values, (a_valueBegins, .inl (G.2.1 1, 100, .inl x_valueBegins)), (a_valueEnds, .inl (G.2.1 1, 100, .inl x_valueEnds))] [ob_X7 a_this a_codes a_begins a_ends x_count a_characters a_attributeLetters a_valueBegins a_valueEnds x_attributeCount a_values, (a_valueBegins, .inl (G.2.1 1, 100, .inl x_valueBegins)), (a_valueEnds, .inl (G.2.1 1, 100, .inl x_valueEnds))] (some (.int o)) := by
  refine ms_start RX7 (by decide +kernel) rfl (Nat.le_of_ble_eq_true rfl) (fun p e s m below meth c A ls hX hW hl => ?_)
  have hx := hX.1.1
  have hb := hX.1.2.1
  have hl : lv_has ls 2 [(0, .ref a_this), (1, .int v1)] := hl
  unfold f_X7_sizeOfValue at h
  refine lv_aload_n hx hb dX7_sizeOfValue_0 rfl (lv_at hl 0 rfl) ?_
  refine lv_iload_n hx hb dX7_sizeOfValue_1 rfl (lv_at hl 1 rfl) ?_
  obtain ⟨q2, hq2, h⟩ := ms_bd h
  refine ms_callV (fn_X7_hasAttribute l G a_this a_codes a_begins a_ends a_characters a_attributeLetters a_valueBegins a_valueEnds a_values x_count x_attributeCount v1 hq2) wm_X7_hasAttribute wv_X7_68 hX hW [0] rfl rfl rfl rfl rfl ⟨Nat.le_of_ble_eq_true rfl, Nat.le_of_ble_eq_true rfl, rfl, rfl, Nat.zero_le _, Nat.zero_le _⟩ rfl hl.1 [] rfl (Nat.le_of_ble_eq_true rfl) dX7_sizeOfValue_2 (fun H locs hW => ?_)
  have hW : ms_W G A s H locs [ob_X7 a_this a_codes a_begins a_ends x_count a_characters a_attributeLetters a_valueBegins a_valueEnds x_attributeCount a_values, (a_valueBegins, .inl (G.2.1 1, 100, .inl x_valueBegins)), (a_valueEnds, .inl (G.2.1 1, 100, .inl x_valueEnds))] := hW
  refine W.eq (g2 := F0 m 5 ls [.int q2]) rfl ?_
  refine lv_if_eq (tgt := 24) hx hb dX7_sizeOfValue_5 (by decide) (fun k => ?_) (fun k => ?_)
  · have h := ms_ifp h k
    refine lv_iconst (v := (-1)) hx hb dX7_sizeOfValue_24 (by decide) ?_
    obtain rfl := Option.some.inj h
    exact ms_iret hX hW dX7_sizeOfValue_25
  · have h := ms_ifn h k
    refine lv_aload_n hx hb dX7_sizeOfValue_8 rfl (lv_at hl 0 rfl) ?_
    refine ms_get ff_X7_38 hX hW 0 rfl rfl dX7_sizeOfValue_9 ?_
    refine lv_iload_n hx hb dX7_sizeOfValue_12 rfl (lv_at hl 1 rfl) ?_
    obtain ⟨k, h⟩ := ms_gi_some h
    refine ms_iald hX hW 2 rfl k dX7_sizeOfValue_13 ?_
    refine lv_aload_n hx hb dX7_sizeOfValue_14 rfl (lv_at hl 0 rfl) ?_
    refine ms_get ff_X7_35 hX hW 0 rfl rfl dX7_sizeOfValue_15 ?_
    refine lv_iload_n hx hb dX7_sizeOfValue_18 rfl (lv_at hl 1 rfl) ?_
    obtain ⟨k, h⟩ := ms_gi_some h
    refine ms_iald hX hW 1 rfl k dX7_sizeOfValue_19 ?_
    refine lv_isub hx hb dX7_sizeOfValue_20 ?_
    refine lv_goto (tgt := 25) hx hb dX7_sizeOfValue_21 (by decide) ?_
    obtain rfl := Option.some.inj h
    exact ms_iret hX hW dX7_sizeOfValue_25
def rm_X7_eightOfValue : Room := { frames := 2, cells := 0, slots := 0, locals := 48 }
def f_X7_eightOfValue (x_attributeCount : Int32) (x_valueBegins : Nat → Int32) (x_valueEnds : Nat → Int32) (x_values_size : Int32) (x_values_row : Nat → Int32) (v1 : Int32) (v2 : Int32) : Option (Int64) := (f_X7_valueBeginOf x_attributeCount x_valueBegins v1).bind (fun q6 => (f_X7_valueEndOf x_attributeCount x_valueEnds v1).bind (fun q11 => (f_X1_eight x_values_size x_values_row q6 q11 v2).bind (fun q15 => some q15)))
set_option maxHeartbeats 4000000 in
set_option maxRecDepth 100000 in
theorem fn_X7_eightOfValue (l : Launch) (G : Gc) (a_this : Nat) (a_codes : Nat) (a_begins : Nat) (a_ends : Nat) (a_characters : Nat) (a_attributeLetters : Nat) (a_valueBegins : Nat) (a_valueEnds : Nat) (a_values : Nat) (a_values_row : Nat) (x_count : Int32) (x_attributeCount : Int32) (x_valueBegins : Nat → Int32) (x_valueEnds : Nat → Int32) (x_values_size : Int32) (x_values_overflowed : Int32) (x_values_row : Nat → Int32) (v1 : Int32) (v2 : Int32)  {o : Int64} (h : f_X7_eightOfValue x_attributeCount x_valueBegins x_valueEnds x_values_size x_values_row v1 v2 = some o) : ms_Fn l G yX7_eightOfValue cX7_eightOfValue 3 (some .long) rm_X7_eightOfValue [.ref a_this, .int v1, .int v2] [ob_X7 a_this a_codes a_begins a_ends x_count a_characters a_attributeLetters a_valueBegins a_valueEnds x_attributeCount a_values, (a_valueBegins, .inl (G.2.1 1, 100, .inl x_valueBegins)), (a_valueEnds, .inl (G.2.1 1, 100, .inl x_valueEnds)), ob_X1 a_values a_values_row x_values_size x_values_overflowed, (a_values_row, .inl (G.2.1 0, 200, .inl x_values_row))] [ob_X7 a_this a_codes a_begins a_ends x_count a_characters a_attributeLetters a_valueBegins a_valueEnds x_attributeCount a_values, (a_valueBegins, .inl (G.2.1 1, 100, .inl x_valueBegins)), (a_valueEnds, .inl (G.2.1 1, 100, .inl x_valueEnds)), ob_X1 a_values a_values_row x_values_size x_values_overflowed, (a_values_row, .inl (G.2.1 0, 200, .inl x_values_row))] (some (.long o)) := by
  refine ms_start RX7 (by decide +kernel) rfl (Nat.le_of_ble_eq_true rfl) (fun p e s m below meth c A ls hX hW hl => ?_)
  have hx := hX.1.1
  have hb := hX.1.2.1
  have hl : lv_has ls 3 [(0, .ref a_this), (1, .int v1), (2, .int v2)] := hl
  unfold f_X7_eightOfValue at h
  refine lv_aload_n hx hb dX7_eightOfValue_0 rfl (lv_at hl 0 rfl) ?_
  refine ms_get ff_X7_44 hX hW 0 rfl rfl dX7_eightOfValue_1 ?_
  refine lv_aload_n hx hb dX7_eightOfValue_4 rfl (lv_at hl 0 rfl) ?_
  refine lv_iload_n hx hb dX7_eightOfValue_5 rfl (lv_at hl 1 rfl) ?_
  obtain ⟨q6, hq6, h⟩ := ms_bd h
  refine ms_callV (fn_X7_valueBeginOf l G a_this a_codes a_begins a_ends a_characters a_attributeLetters a_valueBegins a_valueEnds a_values x_count x_attributeCount x_valueBegins v1 hq6) wm_X7_valueBeginOf wv_X7_71 hX hW [0, 1] rfl rfl rfl rfl rfl ⟨Nat.le_of_ble_eq_true rfl, Nat.le_of_ble_eq_true rfl, rfl, rfl, Nat.zero_le _, Nat.zero_le _⟩ rfl hl.1 [.ref a_values] rfl (Nat.le_of_ble_eq_true rfl) dX7_eightOfValue_6 (fun H locs hW => ?_)
  have hW : ms_W G A s H locs [ob_X7 a_this a_codes a_begins a_ends x_count a_characters a_attributeLetters a_valueBegins a_valueEnds x_attributeCount a_values, (a_valueBegins, .inl (G.2.1 1, 100, .inl x_valueBegins)), (a_valueEnds, .inl (G.2.1 1, 100, .inl x_valueEnds)), ob_X1 a_values a_values_row x_values_size x_values_overflowed, (a_values_row, .inl (G.2.1 0, 200, .inl x_values_row))] := hW
  refine W.eq (g2 := F0 m 9 ls [.int q6, .ref a_values]) rfl ?_
  refine lv_aload_n hx hb dX7_eightOfValue_9 rfl (lv_at hl 0 rfl) ?_
  refine lv_iload_n hx hb dX7_eightOfValue_10 rfl (lv_at hl 1 rfl) ?_
  obtain ⟨q11, hq11, h⟩ := ms_bd h
  refine ms_callV (fn_X7_valueEndOf l G a_this a_codes a_begins a_ends a_characters a_attributeLetters a_valueBegins a_valueEnds a_values x_count x_attributeCount x_valueEnds v1 hq11) wm_X7_valueEndOf wv_X7_74 hX hW [0, 2] rfl rfl rfl rfl rfl ⟨Nat.le_of_ble_eq_true rfl, Nat.le_of_ble_eq_true rfl, rfl, rfl, Nat.zero_le _, Nat.zero_le _⟩ rfl hl.1 [.int q6, .ref a_values] rfl (Nat.le_of_ble_eq_true rfl) dX7_eightOfValue_11 (fun H locs hW => ?_)
  have hW : ms_W G A s H locs [ob_X7 a_this a_codes a_begins a_ends x_count a_characters a_attributeLetters a_valueBegins a_valueEnds x_attributeCount a_values, (a_valueBegins, .inl (G.2.1 1, 100, .inl x_valueBegins)), (a_valueEnds, .inl (G.2.1 1, 100, .inl x_valueEnds)), ob_X1 a_values a_values_row x_values_size x_values_overflowed, (a_values_row, .inl (G.2.1 0, 200, .inl x_values_row))] := hW
  refine W.eq (g2 := F0 m 14 ls [.int q11, .int q6, .ref a_values]) rfl ?_
  refine lv_iload_n hx hb dX7_eightOfValue_14 rfl (lv_at hl 2 rfl) ?_
  obtain ⟨q15, hq15, h⟩ := ms_bd h
  refine ms_callV (fn_X1_eight l G a_values a_values_row x_values_size x_values_overflowed x_values_row q6 q11 v2 hq15) wm_X1_eight wv_X7_58 hX hW [3, 4] rfl rfl rfl rfl rfl ⟨Nat.le_of_ble_eq_true rfl, Nat.le_of_ble_eq_true rfl, rfl, rfl, Nat.zero_le _, Nat.zero_le _⟩ rfl hl.1 [] rfl (Nat.le_of_ble_eq_true rfl) dX7_eightOfValue_15 (fun H locs hW => ?_)
  have hW : ms_W G A s H locs [ob_X7 a_this a_codes a_begins a_ends x_count a_characters a_attributeLetters a_valueBegins a_valueEnds x_attributeCount a_values, (a_valueBegins, .inl (G.2.1 1, 100, .inl x_valueBegins)), (a_valueEnds, .inl (G.2.1 1, 100, .inl x_valueEnds)), ob_X1 a_values a_values_row x_values_size x_values_overflowed, (a_values_row, .inl (G.2.1 0, 200, .inl x_values_row))] := hW
  refine W.eq (g2 := F0 m 18 ls [.long q15]) rfl ?_
  obtain rfl := Option.some.inj h
  exact ms_lret hX hW dX7_eightOfValue_18
def rm_X8_writeLetter : Room := { frames := 1, cells := 0, slots := 0, locals := 21 }
def f_X8_writeLetter (x_target_size : Int32) (x_target_overflowed : Int32) (x_target_row : Nat → Int32) (v1 : Int32) : Option (Int32 × Int32 × (Nat → Int32)) := (f_X1_add x_target_size x_target_overflowed x_target_row (((97 + v1).toUInt32 % 65536).toInt32)).bind (fun q9 => some (q9.1, q9.2.1, q9.2.2))
set_option maxHeartbeats 4000000 in
set_option maxRecDepth 100000 in
theorem fn_X8_writeLetter (l : Launch) (G : Gc) (a_this : Nat) (a_policy : Nat) (a_target : Nat) (a_unended : Nat) (a_target_row : Nat) (x_unendedCount : Int32) (x_target_size : Int32) (x_target_overflowed : Int32) (x_target_row : Nat → Int32) (v1 : Int32)  {o : Int32 × Int32 × (Nat → Int32)} (h : f_X8_writeLetter x_target_size x_target_overflowed x_target_row v1 = some o) : ms_Fn l G yX8_writeLetter cX8_writeLetter 2 none rm_X8_writeLetter [.ref a_this, .int v1] [ob_X8 a_this a_policy a_target a_unended x_unendedCount, ob_X1 a_target a_target_row x_target_size x_target_overflowed, (a_target_row, .inl (G.2.1 0, 200, .inl x_target_row))] [ob_X8 a_this a_policy a_target a_unended x_unendedCount, ob_X1 a_target a_target_row o.1 o.2.1, (a_target_row, .inl (G.2.1 0, 200, .inl o.2.2))] none := by
  refine ms_start RX8 (by decide +kernel) rfl (Nat.le_of_ble_eq_true rfl) (fun p e s m below meth c A ls hX hW hl => ?_)
  have hx := hX.1.1
  have hb := hX.1.2.1
  have hl : lv_has ls 2 [(0, .ref a_this), (1, .int v1)] := hl
  unfold f_X8_writeLetter at h
  refine lv_aload_n hx hb dX8_writeLetter_0 rfl (lv_at hl 0 rfl) ?_
  refine ms_get ff_X8_15 hX hW 0 rfl rfl dX8_writeLetter_1 ?_
  refine lv_bipush (v := 97) hx hb dX8_writeLetter_4 (by decide) ?_
  refine lv_iload_n hx hb dX8_writeLetter_6 rfl (lv_at hl 1 rfl) ?_
  refine lv_iadd hx hb dX8_writeLetter_7 ?_
  refine lv_i2c (v := ((97 + v1).toUInt32 % 65536).toInt32) hx hb dX8_writeLetter_8 rfl ?_
  obtain ⟨q9, hq9, h⟩ := ms_bd h
  refine ms_callV (fn_X1_add l G a_target a_target_row x_target_size x_target_overflowed x_target_row (((97 + v1).toUInt32 % 65536).toInt32) hq9) wm_X1_add wv_X8_149 hX hW [1, 2] rfl rfl rfl rfl rfl ⟨Nat.le_of_ble_eq_true rfl, Nat.le_of_ble_eq_true rfl, rfl, rfl, Nat.zero_le _, Nat.zero_le _⟩ rfl hl.1 [] rfl (Nat.le_of_ble_eq_true rfl) dX8_writeLetter_9 (fun H locs hW => ?_)
  have hW : ms_W G A s H locs [ob_X8 a_this a_policy a_target a_unended x_unendedCount, ob_X1 a_target a_target_row q9.1 q9.2.1, (a_target_row, .inl (G.2.1 0, 200, .inl q9.2.2))] := hW
  refine W.eq (g2 := F0 m 12 ls []) rfl ?_
  obtain rfl := Option.some.inj h
  exact ms_vret hX hW dX8_writeLetter_12
def rm_X8_writeEnds : Room := { frames := 5, cells := 0, slots := 0, locals := 107 }
def f_X8_writeEnds_L0 (x_unended : Nat → Int32) (x_a1_count : Int32) (x_a1_codes : Nat → Int32) (v2 : Int32) : Nat → Int32 → Int32 → Int32 → (Nat → Int32) → Option (Int32 × Int32 × Int32 × (Nat → Int32))
  | 0, _, _, _, _ => none
  | n + 1, x_unendedCount, x_target_size, x_target_overflowed, x_target_row => (if x_unendedCount ≤ 0 then some (x_unendedCount, x_target_size, x_target_overflowed, x_target_row) else ms_gi (x_unendedCount - 1) 8 ((f_X7_depthOf x_a1_count x_a1_codes (x_unended (x_unendedCount - 1).toNatClampNeg)).bind (fun q19 => (if q19 < v2 then some (x_unendedCount, x_target_size, x_target_overflowed, x_target_row) else (f_X1_addWord x_target_size x_target_overflowed x_target_row 9).bind (fun q42 => ms_gi (x_unendedCount - 1) 8 ((f_X7_nameOf x_a1_count x_a1_codes (x_unended (x_unendedCount - 1).toNatClampNeg)).bind (fun q56 => (f_X8_writeLetter q42.1 q42.2.1 q42.2.2 q56).bind (fun q59 => (f_X1_addWord q59.1 q59.2.1 q59.2.2 8).bind (fun q68 => f_X8_writeEnds_L0 x_unended x_a1_count x_a1_codes v2 n (x_unendedCount - 1) q68.1 q68.2.1 q68.2.2)))))))))
set_option maxHeartbeats 4000000 in
set_option maxRecDepth 100000 in
theorem wb_X8_writeEnds_L0 {p : Program} {l : Launch} {e : Env} {s : State} {m : MethodId} {args : Array Value} {below : List Frame} {meth : Method} {c : Code} {G : Gc} {A : Nat → Prop} {a_this : Nat} {a_policy : Nat} {a_target : Nat} {a_unended : Nat} {a_target_row : Nat} {a_a1 : Nat} {a_a1_codes : Nat} {a_a1_begins : Nat} {a_a1_ends : Nat} {a_a1_characters : Nat} {a_a1_attributeLetters : Nat} {a_a1_valueBegins : Nat} {a_a1_valueEnds : Nat} {a_a1_values : Nat} {x_unended : Nat → Int32} {x_a1_count : Int32} {x_a1_attributeCount : Int32} {x_a1_codes : Nat → Int32} {v2 : Int32} {Q : State → Prop} {o : Int32 × Int32 × Int32 × (Nat → Int32)} (hX : ms_CX p s m args meth c cX8_writeEnds 3 RX8 none G A) (hq : ∀ (H : Heap) (locs : List Loc) (ls : Array Slot), ms_W G A s H locs [ob_X8 a_this a_policy a_target a_unended o.1, ob_X1 a_target a_target_row o.2.1 o.2.2.1, (a_target_row, .inl (G.2.1 0, 200, .inl o.2.2.2)), (a_unended, .inl (G.2.1 1, 8, .inl x_unended)), ob_X7 a_a1 a_a1_codes a_a1_begins a_a1_ends x_a1_count a_a1_characters a_a1_attributeLetters a_a1_valueBegins a_a1_valueEnds x_a1_attributeCount a_a1_values, (a_a1_codes, .inl (G.2.1 1, 200, .inl x_a1_codes))] → lv_has ls 3 [] → W p l e rm_X8_writeEnds s m args below meth c H locs 0 0 Q (F0 m 74 ls [])) : ∀ (n : Nat) (x_unendedCount : Int32) (x_target_size : Int32) (x_target_overflowed : Int32) (x_target_row : Nat → Int32) (H : Heap) (locs : List Loc) (ls : Array Slot), f_X8_writeEnds_L0 x_unended x_a1_count x_a1_codes v2 n x_unendedCount x_target_size x_target_overflowed x_target_row = some o → ms_W G A s H locs [ob_X8 a_this a_policy a_target a_unended x_unendedCount, ob_X1 a_target a_target_row x_target_size x_target_overflowed, (a_target_row, .inl (G.2.1 0, 200, .inl x_target_row)), (a_unended, .inl (G.2.1 1, 8, .inl x_unended)), ob_X7 a_a1 a_a1_codes a_a1_begins a_a1_ends x_a1_count a_a1_characters a_a1_attributeLetters a_a1_valueBegins a_a1_valueEnds x_a1_attributeCount a_a1_values, (a_a1_codes, .inl (G.2.1 1, 200, .inl x_a1_codes))] → lv_has ls 3 [(0, .ref a_this), (1, .ref a_a1), (2, .int v2)] → W p l e rm_X8_writeEnds s m args below meth c H locs 0 0 Q (F0 m 0 ls []) := by
  have hx := hX.1.1
  have hb := hX.1.2.1
  intro n
  induction n with
  | zero => intro x_unendedCount x_target_size x_target_overflowed x_target_row H locs ls h; rw [f_X8_writeEnds_L0] at h; cases h
  | succ n ih =>
    intro x_unendedCount x_target_size x_target_overflowed x_target_row H locs ls h hW hl
    rw [f_X8_writeEnds_L0] at h
    refine lv_aload_n hx hb dX8_writeEnds_0 rfl (lv_at hl 0 rfl) ?_
    refine ms_get ff_X8_23 hX hW 0 rfl rfl dX8_writeEnds_1 ?_
    refine lv_if_le (tgt := 74) hx hb dX8_writeEnds_4 (by decide) (fun k => ?_) (fun k => ?_)
    · have h := ms_ifp h k
      obtain rfl := Option.some.inj h
      exact hq _ _ _ hW (lv_sub hl [] rfl)
    · have h := ms_ifn h k
      refine lv_aload_n hx hb dX8_writeEnds_7 rfl (lv_at hl 1 rfl) ?_
      refine lv_aload_n hx hb dX8_writeEnds_8 rfl (lv_at hl 0 rfl) ?_
      refine ms_get ff_X8_19 hX hW 0 rfl rfl dX8_writeEnds_9 ?_
      refine lv_aload_n hx hb dX8_writeEnds_12 rfl (lv_at hl 0 rfl) ?_
      refine ms_get ff_X8_23 hX hW 0 rfl rfl dX8_writeEnds_13 ?_
      refine lv_iconst (v := 1) hx hb dX8_writeEnds_16 (by decide) ?_
      refine lv_isub hx hb dX8_writeEnds_17 ?_
      obtain ⟨k, h⟩ := ms_gi_some h
      refine ms_iald hX hW 3 rfl k dX8_writeEnds_18 ?_
      obtain ⟨q19, hq19, h⟩ := ms_bd h
      refine ms_callV (fn_X7_depthOf l G a_a1 a_a1_codes a_a1_begins a_a1_ends a_a1_characters a_a1_attributeLetters a_a1_valueBegins a_a1_valueEnds a_a1_values x_a1_count x_a1_attributeCount x_a1_codes (x_unended (x_unendedCount - 1).toNatClampNeg) hq19) wm_X7_depthOf wv_X8_38 hX hW [4, 5] rfl rfl rfl rfl rfl ⟨Nat.le_of_ble_eq_true rfl, Nat.le_of_ble_eq_true rfl, rfl, rfl, Nat.zero_le _, Nat.zero_le _⟩ rfl hl.1 [] rfl (Nat.le_of_ble_eq_true rfl) dX8_writeEnds_19 (fun H locs hW => ?_)
      have hW : ms_W G A s H locs [ob_X8 a_this a_policy a_target a_unended x_unendedCount, ob_X1 a_target a_target_row x_target_size x_target_overflowed, (a_target_row, .inl (G.2.1 0, 200, .inl x_target_row)), (a_unended, .inl (G.2.1 1, 8, .inl x_unended)), ob_X7 a_a1 a_a1_codes a_a1_begins a_a1_ends x_a1_count a_a1_characters a_a1_attributeLetters a_a1_valueBegins a_a1_valueEnds x_a1_attributeCount a_a1_values, (a_a1_codes, .inl (G.2.1 1, 200, .inl x_a1_codes))] := hW
      refine W.eq (g2 := F0 m 22 ls [.int q19]) rfl ?_
      refine lv_iload_n hx hb dX8_writeEnds_22 rfl (lv_at hl 2 rfl) ?_
      refine lv_icmp_lt (tgt := 74) hx hb dX8_writeEnds_23 (by decide) (fun k => ?_) (fun k => ?_)
      · have h := ms_ifp h k
        obtain rfl := Option.some.inj h
        exact hq _ _ _ hW (lv_sub hl [] rfl)
      · have h := ms_ifn h k
        refine lv_aload_n hx hb dX8_writeEnds_26 rfl (lv_at hl 0 rfl) ?_
        refine lv_dup hx hb dX8_writeEnds_27 rfl ?_
        refine ms_get ff_X8_23 hX hW 0 rfl rfl dX8_writeEnds_28 ?_
        refine lv_iconst (v := 1) hx hb dX8_writeEnds_31 (by decide) ?_
        refine lv_isub hx hb dX8_writeEnds_32 ?_
        refine ms_put ff_X8_23 fp_X8_3 rfl hX hW 0 rfl rfl rfl (Nat.le_of_ble_eq_true rfl) dX8_writeEnds_33 (fun H locs hW => ?_)
        have hW : ms_W G A s H locs [ob_X8 a_this a_policy a_target a_unended (x_unendedCount - 1), ob_X1 a_target a_target_row x_target_size x_target_overflowed, (a_target_row, .inl (G.2.1 0, 200, .inl x_target_row)), (a_unended, .inl (G.2.1 1, 8, .inl x_unended)), ob_X7 a_a1 a_a1_codes a_a1_begins a_a1_ends x_a1_count a_a1_characters a_a1_attributeLetters a_a1_valueBegins a_a1_valueEnds x_a1_attributeCount a_a1_values, (a_a1_codes, .inl (G.2.1 1, 200, .inl x_a1_codes))] := hW
        refine lv_aload_n hx hb dX8_writeEnds_36 rfl (lv_at hl 0 rfl) ?_
        refine ms_get ff_X8_15 hX hW 0 rfl rfl dX8_writeEnds_37 ?_
        refine ms_ldcS hX (tx := "</") (i := 9) (List.mem_of_getElem? (i := 9) rfl) dX8_writeEnds_40 ?_
        obtain ⟨q42, hq42, h⟩ := ms_bd h
        refine ms_callV (fn_X1_addWord l G a_target a_target_row x_target_size x_target_overflowed x_target_row 9 (by decide) hq42) wm_X1_addWord wv_X8_56 hX hW [1, 2] rfl rfl rfl rfl rfl ⟨Nat.le_of_ble_eq_true rfl, Nat.le_of_ble_eq_true rfl, rfl, rfl, Nat.zero_le _, Nat.zero_le _⟩ rfl hl.1 [] rfl (Nat.le_of_ble_eq_true rfl) dX8_writeEnds_42 (fun H locs hW => ?_)
        have hW : ms_W G A s H locs [ob_X8 a_this a_policy a_target a_unended (x_unendedCount - 1), ob_X1 a_target a_target_row q42.1 q42.2.1, (a_target_row, .inl (G.2.1 0, 200, .inl q42.2.2)), (a_unended, .inl (G.2.1 1, 8, .inl x_unended)), ob_X7 a_a1 a_a1_codes a_a1_begins a_a1_ends x_a1_count a_a1_characters a_a1_attributeLetters a_a1_valueBegins a_a1_valueEnds x_a1_attributeCount a_a1_values, (a_a1_codes, .inl (G.2.1 1, 200, .inl x_a1_codes))] := hW
        refine W.eq (g2 := F0 m 45 ls []) rfl ?_
        refine lv_aload_n hx hb dX8_writeEnds_45 rfl (lv_at hl 0 rfl) ?_
        refine lv_aload_n hx hb dX8_writeEnds_46 rfl (lv_at hl 1 rfl) ?_
        refine lv_aload_n hx hb dX8_writeEnds_47 rfl (lv_at hl 0 rfl) ?_
        refine ms_get ff_X8_19 hX hW 0 rfl rfl dX8_writeEnds_48 ?_
        refine lv_aload_n hx hb dX8_writeEnds_51 rfl (lv_at hl 0 rfl) ?_
        refine ms_get ff_X8_23 hX hW 0 rfl rfl dX8_writeEnds_52 ?_
        obtain ⟨k, h⟩ := ms_gi_some h
        refine ms_iald hX hW 3 rfl k dX8_writeEnds_55 ?_
        obtain ⟨q56, hq56, h⟩ := ms_bd h
        refine ms_callV (fn_X7_nameOf l G a_a1 a_a1_codes a_a1_begins a_a1_ends a_a1_characters a_a1_attributeLetters a_a1_valueBegins a_a1_valueEnds a_a1_values x_a1_count x_a1_attributeCount x_a1_codes (x_unended (x_unendedCount - 1).toNatClampNeg) hq56) wm_X7_nameOf wv_X8_60 hX hW [4, 5] rfl rfl rfl rfl rfl ⟨Nat.le_of_ble_eq_true rfl, Nat.le_of_ble_eq_true rfl, rfl, rfl, Nat.zero_le _, Nat.zero_le _⟩ rfl hl.1 [.ref a_this] rfl (Nat.le_of_ble_eq_true rfl) dX8_writeEnds_56 (fun H locs hW => ?_)
        have hW : ms_W G A s H locs [ob_X8 a_this a_policy a_target a_unended (x_unendedCount - 1), ob_X1 a_target a_target_row q42.1 q42.2.1, (a_target_row, .inl (G.2.1 0, 200, .inl q42.2.2)), (a_unended, .inl (G.2.1 1, 8, .inl x_unended)), ob_X7 a_a1 a_a1_codes a_a1_begins a_a1_ends x_a1_count a_a1_characters a_a1_attributeLetters a_a1_valueBegins a_a1_valueEnds x_a1_attributeCount a_a1_values, (a_a1_codes, .inl (G.2.1 1, 200, .inl x_a1_codes))] := hW
        refine W.eq (g2 := F0 m 59 ls [.int q56, .ref a_this]) rfl ?_
        obtain ⟨q59, hq59, h⟩ := ms_bd h
        refine ms_callV (fn_X8_writeLetter l G a_this a_policy a_target a_unended a_target_row (x_unendedCount - 1) q42.1 q42.2.1 q42.2.2 q56 hq59) wm_X8_writeLetter wv_X8_63 hX hW [0, 1, 2] rfl rfl rfl rfl rfl ⟨Nat.le_of_ble_eq_true rfl, Nat.le_of_ble_eq_true rfl, rfl, rfl, Nat.zero_le _, Nat.zero_le _⟩ rfl hl.1 [] rfl (Nat.le_of_ble_eq_true rfl) dX8_writeEnds_59 (fun H locs hW => ?_)
        have hW : ms_W G A s H locs [ob_X8 a_this a_policy a_target a_unended (x_unendedCount - 1), ob_X1 a_target a_target_row q59.1 q59.2.1, (a_target_row, .inl (G.2.1 0, 200, .inl q59.2.2)), (a_unended, .inl (G.2.1 1, 8, .inl x_unended)), ob_X7 a_a1 a_a1_codes a_a1_begins a_a1_ends x_a1_count a_a1_characters a_a1_attributeLetters a_a1_valueBegins a_a1_valueEnds x_a1_attributeCount a_a1_values, (a_a1_codes, .inl (G.2.1 1, 200, .inl x_a1_codes))] := hW
        refine W.eq (g2 := F0 m 62 ls []) rfl ?_
        refine lv_aload_n hx hb dX8_writeEnds_62 rfl (lv_at hl 0 rfl) ?_
        refine ms_get ff_X8_15 hX hW 0 rfl rfl dX8_writeEnds_63 ?_
        refine ms_ldcS hX (tx := ">") (i := 8) (List.mem_of_getElem? (i := 10) rfl) dX8_writeEnds_66 ?_
        obtain ⟨q68, hq68, h⟩ := ms_bd h
        refine ms_callV (fn_X1_addWord l G a_target a_target_row q59.1 q59.2.1 q59.2.2 8 (by decide) hq68) wm_X1_addWord wv_X8_56 hX hW [1, 2] rfl rfl rfl rfl rfl ⟨Nat.le_of_ble_eq_true rfl, Nat.le_of_ble_eq_true rfl, rfl, rfl, Nat.zero_le _, Nat.zero_le _⟩ rfl hl.1 [] rfl (Nat.le_of_ble_eq_true rfl) dX8_writeEnds_68 (fun H locs hW => ?_)
        have hW : ms_W G A s H locs [ob_X8 a_this a_policy a_target a_unended (x_unendedCount - 1), ob_X1 a_target a_target_row q68.1 q68.2.1, (a_target_row, .inl (G.2.1 0, 200, .inl q68.2.2)), (a_unended, .inl (G.2.1 1, 8, .inl x_unended)), ob_X7 a_a1 a_a1_codes a_a1_begins a_a1_ends x_a1_count a_a1_characters a_a1_attributeLetters a_a1_valueBegins a_a1_valueEnds x_a1_attributeCount a_a1_values, (a_a1_codes, .inl (G.2.1 1, 200, .inl x_a1_codes))] := hW
        refine W.eq (g2 := F0 m 71 ls []) rfl ?_
        refine lv_goto (tgt := 0) hx hb dX8_writeEnds_71 (by decide) ?_
        exact ih _ _ _ _ _ _ _ h hW (lv_sub hl [0, 1, 2] rfl)
def f_X8_writeEnds (x_unendedCount : Int32) (x_target_size : Int32) (x_target_overflowed : Int32) (x_target_row : Nat → Int32) (x_unended : Nat → Int32) (x_a1_count : Int32) (x_a1_codes : Nat → Int32) (v2 : Int32) : Option (Int32 × Int32 × Int32 × (Nat → Int32)) := (f_X8_writeEnds_L0 x_unended x_a1_count x_a1_codes v2 1000 x_unendedCount x_target_size x_target_overflowed x_target_row).bind (fun w0 => some (w0.1, w0.2.1, w0.2.2.1, w0.2.2.2))
set_option maxHeartbeats 4000000 in
set_option maxRecDepth 100000 in
theorem fn_X8_writeEnds (l : Launch) (G : Gc) (a_this : Nat) (a_policy : Nat) (a_target : Nat) (a_unended : Nat) (a_target_row : Nat) (a_a1 : Nat) (a_a1_codes : Nat) (a_a1_begins : Nat) (a_a1_ends : Nat) (a_a1_characters : Nat) (a_a1_attributeLetters : Nat) (a_a1_valueBegins : Nat) (a_a1_valueEnds : Nat) (a_a1_values : Nat) (x_unendedCount : Int32) (x_target_size : Int32) (x_target_overflowed : Int32) (x_target_row : Nat → Int32) (x_unended : Nat → Int32) (x_a1_count : Int32) (x_a1_attributeCount : Int32) (x_a1_codes : Nat → Int32) (v2 : Int32)  {o : Int32 × Int32 × Int32 × (Nat → Int32)} (h : f_X8_writeEnds x_unendedCount x_target_size x_target_overflowed x_target_row x_unended x_a1_count x_a1_codes v2 = some o) : ms_Fn l G yX8_writeEnds cX8_writeEnds 3 none rm_X8_writeEnds [.ref a_this, .ref a_a1, .int v2] [ob_X8 a_this a_policy a_target a_unended x_unendedCount, ob_X1 a_target a_target_row x_target_size x_target_overflowed, (a_target_row, .inl (G.2.1 0, 200, .inl x_target_row)), (a_unended, .inl (G.2.1 1, 8, .inl x_unended)), ob_X7 a_a1 a_a1_codes a_a1_begins a_a1_ends x_a1_count a_a1_characters a_a1_attributeLetters a_a1_valueBegins a_a1_valueEnds x_a1_attributeCount a_a1_values, (a_a1_codes, .inl (G.2.1 1, 200, .inl x_a1_codes))] [ob_X8 a_this a_policy a_target a_unended o.1, ob_X1 a_target a_target_row o.2.1 o.2.2.1, (a_target_row, .inl (G.2.1 0, 200, .inl o.2.2.2)), (a_unended, .inl (G.2.1 1, 8, .inl x_unended)), ob_X7 a_a1 a_a1_codes a_a1_begins a_a1_ends x_a1_count a_a1_characters a_a1_attributeLetters a_a1_valueBegins a_a1_valueEnds x_a1_attributeCount a_a1_values, (a_a1_codes, .inl (G.2.1 1, 200, .inl x_a1_codes))] none := by
  refine ms_start RX8 (by decide +kernel) rfl (Nat.le_of_ble_eq_true rfl) (fun p e s m below meth c A ls hX hW hl => ?_)
  have hx := hX.1.1
  have hb := hX.1.2.1
  have hl : lv_has ls 3 [(0, .ref a_this), (1, .ref a_a1), (2, .int v2)] := hl
  unfold f_X8_writeEnds at h
  obtain ⟨w0, hqw0, h⟩ := ms_bd h
  refine wb_X8_writeEnds_L0 hX (o := w0) (fun H locs ls hW hl => ?_) _ _ _ _ _ _ _ _ hqw0 hW (lv_sub hl [0, 1, 2] rfl)
  obtain rfl := Option.some.inj h
  exact ms_vret hX hW dX8_writeEnds_74
def rm_X8_writeText : Room := { frames := 5, cells := 0, slots := 0, locals := 107 }
def f_X8_writeText_L83 (x_a1_size : Int32) (x_a1_row : Nat → Int32) (v2 : Int32) (v3 : Int32) (kk : Int32 → Int32 → (Nat → Int32) → Int32 → Option (Int32 × Int32 × (Nat → Int32))) (x_target_size : Int32) (x_target_overflowed : Int32) (x_target_row : Nat → Int32) (v4 : Int32) : Option (Int32 × Int32 × (Nat → Int32)) := kk x_target_size x_target_overflowed x_target_row (v4 + 1)
set_option maxHeartbeats 4000000 in
set_option maxRecDepth 100000 in
theorem wb_X8_writeText_L83 {p : Program} {l : Launch} {e : Env} {s : State} {m : MethodId} {args : Array Value} {below : List Frame} {meth : Method} {c : Code} {G : Gc} {A : Nat → Prop} {H : Heap} {locs : List Loc} {ls : Array Slot} {a_this : Nat} {a_policy : Nat} {a_target : Nat} {a_unended : Nat} {a_target_row : Nat} {a_a1 : Nat} {a_a1_row : Nat} {x_unendedCount : Int32} {x_a1_size : Int32} {x_a1_overflowed : Int32} {x_a1_row : Nat → Int32} {v2 : Int32} {v3 : Int32} {kk : Int32 → Int32 → (Nat → Int32) → Int32 → Option (Int32 × Int32 × (Nat → Int32))} {Q : State → Prop} {x_target_size : Int32} {x_target_overflowed : Int32} {x_target_row : Nat → Int32} {v4 : Int32} {o : Int32 × Int32 × (Nat → Int32)} (hX : ms_CX p s m args meth c cX8_writeText 6 RX8 none G A) (hq : ∀ (H : Heap) (locs : List Loc) (ls : Array Slot), ms_W G A s H locs [ob_X8 a_this a_policy a_target a_unended x_unendedCount, ob_X1 a_target a_target_row o.1 o.2.1, (a_target_row, .inl (G.2.1 0, 200, .inl o.2.2)), ob_X1 a_a1 a_a1_row x_a1_size x_a1_overflowed, (a_a1_row, .inl (G.2.1 0, 200, .inl x_a1_row))] → lv_has ls 6 [] → W p l e rm_X8_writeText s m args below meth c H locs 0 0 Q (F0 m 89 ls [])) (ih : ∀ (x_target_size : Int32) (x_target_overflowed : Int32) (x_target_row : Nat → Int32) (v4 : Int32) (H : Heap) (locs : List Loc) (ls : Array Slot), kk x_target_size x_target_overflowed x_target_row v4 = some o → ms_W G A s H locs [ob_X8 a_this a_policy a_target a_unended x_unendedCount, ob_X1 a_target a_target_row x_target_size x_target_overflowed, (a_target_row, .inl (G.2.1 0, 200, .inl x_target_row)), ob_X1 a_a1 a_a1_row x_a1_size x_a1_overflowed, (a_a1_row, .inl (G.2.1 0, 200, .inl x_a1_row))] → lv_has ls 6 [(0, .ref a_this), (1, .ref a_a1), (3, .int v3), (4, .int v4)] → W p l e rm_X8_writeText s m args below meth c H locs 0 0 Q (F0 m 3 ls [])) (h : f_X8_writeText_L83 x_a1_size x_a1_row v2 v3 kk x_target_size x_target_overflowed x_target_row v4 = some o) (hW : ms_W G A s H locs [ob_X8 a_this a_policy a_target a_unended x_unendedCount, ob_X1 a_target a_target_row x_target_size x_target_overflowed, (a_target_row, .inl (G.2.1 0, 200, .inl x_target_row)), ob_X1 a_a1 a_a1_row x_a1_size x_a1_overflowed, (a_a1_row, .inl (G.2.1 0, 200, .inl x_a1_row))]) (hl : lv_has ls 6 [(0, .ref a_this), (1, .ref a_a1), (3, .int v3), (4, .int v4)]) : W p l e rm_X8_writeText s m args below meth c H locs 0 0 Q (F0 m 83 ls []) := by
  have hx := hX.1.1
  have hb := hX.1.2.1
  unfold f_X8_writeText_L83 at h
  refine lv_iinc (v := v4 + 1) (lv' := [(4, .int (v4 + 1)), (0, .ref a_this), (1, .ref a_a1), (3, .int v3)]) hx hb dX8_writeText_83 hl (k := 3) rfl rfl (by decide) rfl (fun ls hl => ?_)
  refine lv_goto (tgt := 3) hx hb dX8_writeText_86 (by decide) ?_
  exact ih _ _ _ _ _ _ _ h hW (lv_sub hl [1, 2, 3, 0] rfl)
def f_X8_writeText_L3 (x_a1_size : Int32) (x_a1_row : Nat → Int32) (v2 : Int32) (v3 : Int32) : Nat → Int32 → Int32 → (Nat → Int32) → Int32 → Option (Int32 × Int32 × (Nat → Int32))
  | 0, _, _, _, _ => none
  | n + 1, x_target_size, x_target_overflowed, x_target_row, v4 => (if v3 ≤ v4 then some (x_target_size, x_target_overflowed, x_target_row) else (f_X1_at x_a1_size x_a1_row v4).bind (fun q12 => (if q12 = 38 then (f_X1_addWord x_target_size x_target_overflowed x_target_row 4).bind (fun q30 => f_X8_writeText_L83 x_a1_size x_a1_row v2 v3 (f_X8_writeText_L3 x_a1_size x_a1_row v2 v3 n) q30.1 q30.2.1 q30.2.2 v4) else (if q12 = 60 then (f_X1_addWord x_target_size x_target_overflowed x_target_row 2).bind (fun q49 => f_X8_writeText_L83 x_a1_size x_a1_row v2 v3 (f_X8_writeText_L3 x_a1_size x_a1_row v2 v3 n) q49.1 q49.2.1 q49.2.2 v4) else (if q12 = 62 then (f_X1_addWord x_target_size x_target_overflowed x_target_row 3).bind (fun q68 => f_X8_writeText_L83 x_a1_size x_a1_row v2 v3 (f_X8_writeText_L3 x_a1_size x_a1_row v2 v3 n) q68.1 q68.2.1 q68.2.2 v4) else (f_X1_add x_target_size x_target_overflowed x_target_row q12).bind (fun q80 => f_X8_writeText_L83 x_a1_size x_a1_row v2 v3 (f_X8_writeText_L3 x_a1_size x_a1_row v2 v3 n) q80.1 q80.2.1 q80.2.2 v4))))))
set_option maxHeartbeats 4000000 in
set_option maxRecDepth 100000 in
theorem wb_X8_writeText_L3 {p : Program} {l : Launch} {e : Env} {s : State} {m : MethodId} {args : Array Value} {below : List Frame} {meth : Method} {c : Code} {G : Gc} {A : Nat → Prop} {a_this : Nat} {a_policy : Nat} {a_target : Nat} {a_unended : Nat} {a_target_row : Nat} {a_a1 : Nat} {a_a1_row : Nat} {x_unendedCount : Int32} {x_a1_size : Int32} {x_a1_overflowed : Int32} {x_a1_row : Nat → Int32} {v2 : Int32} {v3 : Int32} {Q : State → Prop} {o : Int32 × Int32 × (Nat → Int32)} (hX : ms_CX p s m args meth c cX8_writeText 6 RX8 none G A) (hq : ∀ (H : Heap) (locs : List Loc) (ls : Array Slot), ms_W G A s H locs [ob_X8 a_this a_policy a_target a_unended x_unendedCount, ob_X1 a_target a_target_row o.1 o.2.1, (a_target_row, .inl (G.2.1 0, 200, .inl o.2.2)), ob_X1 a_a1 a_a1_row x_a1_size x_a1_overflowed, (a_a1_row, .inl (G.2.1 0, 200, .inl x_a1_row))] → lv_has ls 6 [] → W p l e rm_X8_writeText s m args below meth c H locs 0 0 Q (F0 m 89 ls [])) : ∀ (n : Nat) (x_target_size : Int32) (x_target_overflowed : Int32) (x_target_row : Nat → Int32) (v4 : Int32) (H : Heap) (locs : List Loc) (ls : Array Slot), f_X8_writeText_L3 x_a1_size x_a1_row v2 v3 n x_target_size x_target_overflowed x_target_row v4 = some o → ms_W G A s H locs [ob_X8 a_this a_policy a_target a_unended x_unendedCount, ob_X1 a_target a_target_row x_target_size x_target_overflowed, (a_target_row, .inl (G.2.1 0, 200, .inl x_target_row)), ob_X1 a_a1 a_a1_row x_a1_size x_a1_overflowed, (a_a1_row, .inl (G.2.1 0, 200, .inl x_a1_row))] → lv_has ls 6 [(0, .ref a_this), (1, .ref a_a1), (3, .int v3), (4, .int v4)] → W p l e rm_X8_writeText s m args below meth c H locs 0 0 Q (F0 m 3 ls []) := by
  have hx := hX.1.1
  have hb := hX.1.2.1
  intro n
  induction n with
  | zero => intro x_target_size x_target_overflowed x_target_row v4 H locs ls h; rw [f_X8_writeText_L3] at h; cases h
  | succ n ih =>
    intro x_target_size x_target_overflowed x_target_row v4 H locs ls h hW hl
    rw [f_X8_writeText_L3] at h
    refine lv_iload hx hb dX8_writeText_3 (lv_at hl 3 rfl) ?_
    refine lv_iload_n hx hb dX8_writeText_5 rfl (lv_at hl 2 rfl) ?_
    refine lv_icmp_ge (tgt := 89) hx hb dX8_writeText_6 (by decide) (fun k => ?_) (fun k => ?_)
    · have h := ms_ifp h k
      obtain rfl := Option.some.inj h
      exact hq _ _ _ hW (lv_sub hl [] rfl)
    · have h := ms_ifn h k
      refine lv_aload_n hx hb dX8_writeText_9 rfl (lv_at hl 1 rfl) ?_
      refine lv_iload hx hb dX8_writeText_10 (lv_at hl 3 rfl) ?_
      obtain ⟨q12, hq12, h⟩ := ms_bd h
      refine ms_callV (fn_X1_at l G a_a1 a_a1_row x_a1_size x_a1_overflowed x_a1_row v4 hq12) wm_X1_at wv_X8_139 hX hW [3, 4] rfl rfl rfl rfl rfl ⟨Nat.le_of_ble_eq_true rfl, Nat.le_of_ble_eq_true rfl, rfl, rfl, Nat.zero_le _, Nat.zero_le _⟩ rfl hl.1 [] rfl (Nat.le_of_ble_eq_true rfl) dX8_writeText_12 (fun H locs hW => ?_)
      have hW : ms_W G A s H locs [ob_X8 a_this a_policy a_target a_unended x_unendedCount, ob_X1 a_target a_target_row x_target_size x_target_overflowed, (a_target_row, .inl (G.2.1 0, 200, .inl x_target_row)), ob_X1 a_a1 a_a1_row x_a1_size x_a1_overflowed, (a_a1_row, .inl (G.2.1 0, 200, .inl x_a1_row))] := hW
      refine W.eq (g2 := F0 m 15 ls [.int q12]) rfl ?_
      refine lv_istore (lv' := [(5, .int q12), (0, .ref a_this), (1, .ref a_a1), (3, .int v3), (4, .int v4)]) hx hb dX8_writeText_15 hl (by decide) rfl (fun ls hl => ?_)
      refine lv_iload hx hb dX8_writeText_17 (lv_at hl 0 rfl) ?_
      refine lv_bipush (v := 38) hx hb dX8_writeText_19 (by decide) ?_
      refine lv_icmp_ne (tgt := 36) hx hb dX8_writeText_21 (by decide) (fun k => ?_) (fun k => ?_)
      · have h := ms_ifn h k
        refine lv_iload hx hb dX8_writeText_36 (lv_at hl 0 rfl) ?_
        refine lv_bipush (v := 60) hx hb dX8_writeText_38 (by decide) ?_
        refine lv_icmp_ne (tgt := 55) hx hb dX8_writeText_40 (by decide) (fun k => ?_) (fun k => ?_)
        · have h := ms_ifn h k
          refine lv_iload hx hb dX8_writeText_55 (lv_at hl 0 rfl) ?_
          refine lv_bipush (v := 62) hx hb dX8_writeText_57 (by decide) ?_
          refine lv_icmp_ne (tgt := 74) hx hb dX8_writeText_59 (by decide) (fun k => ?_) (fun k => ?_)
          · have h := ms_ifn h k
            refine lv_aload_n hx hb dX8_writeText_74 rfl (lv_at hl 1 rfl) ?_
            refine ms_get ff_X8_15 hX hW 0 rfl rfl dX8_writeText_75 ?_
            refine lv_iload hx hb dX8_writeText_78 (lv_at hl 0 rfl) ?_
            obtain ⟨q80, hq80, h⟩ := ms_bd h
            refine ms_callV (fn_X1_add l G a_target a_target_row x_target_size x_target_overflowed x_target_row q12 hq80) wm_X1_add wv_X8_149 hX hW [1, 2] rfl rfl rfl rfl rfl ⟨Nat.le_of_ble_eq_true rfl, Nat.le_of_ble_eq_true rfl, rfl, rfl, Nat.zero_le _, Nat.zero_le _⟩ rfl hl.1 [] rfl (Nat.le_of_ble_eq_true rfl) dX8_writeText_80 (fun H locs hW => ?_)
            have hW : ms_W G A s H locs [ob_X8 a_this a_policy a_target a_unended x_unendedCount, ob_X1 a_target a_target_row q80.1 q80.2.1, (a_target_row, .inl (G.2.1 0, 200, .inl q80.2.2)), ob_X1 a_a1 a_a1_row x_a1_size x_a1_overflowed, (a_a1_row, .inl (G.2.1 0, 200, .inl x_a1_row))] := hW
            refine W.eq (g2 := F0 m 83 ls []) rfl ?_
            exact wb_X8_writeText_L83 hX hq (ih) h hW (lv_sub hl [1, 2, 3, 4] rfl)
          · have h := ms_ifp h k
            refine lv_aload_n hx hb dX8_writeText_62 rfl (lv_at hl 1 rfl) ?_
            refine ms_get ff_X8_15 hX hW 0 rfl rfl dX8_writeText_63 ?_
            refine ms_ldcS hX (tx := "&gt;") (i := 3) (List.mem_of_getElem? (i := 13) rfl) dX8_writeText_66 ?_
            obtain ⟨q68, hq68, h⟩ := ms_bd h
            refine ms_callV (fn_X1_addWord l G a_target a_target_row x_target_size x_target_overflowed x_target_row 3 (by decide) hq68) wm_X1_addWord wv_X8_56 hX hW [1, 2] rfl rfl rfl rfl rfl ⟨Nat.le_of_ble_eq_true rfl, Nat.le_of_ble_eq_true rfl, rfl, rfl, Nat.zero_le _, Nat.zero_le _⟩ rfl hl.1 [] rfl (Nat.le_of_ble_eq_true rfl) dX8_writeText_68 (fun H locs hW => ?_)
            have hW : ms_W G A s H locs [ob_X8 a_this a_policy a_target a_unended x_unendedCount, ob_X1 a_target a_target_row q68.1 q68.2.1, (a_target_row, .inl (G.2.1 0, 200, .inl q68.2.2)), ob_X1 a_a1 a_a1_row x_a1_size x_a1_overflowed, (a_a1_row, .inl (G.2.1 0, 200, .inl x_a1_row))] := hW
            refine W.eq (g2 := F0 m 71 ls []) rfl ?_
            refine lv_goto (tgt := 83) hx hb dX8_writeText_71 (by decide) ?_
            exact wb_X8_writeText_L83 hX hq (ih) h hW (lv_sub hl [1, 2, 3, 4] rfl)
        · have h := ms_ifp h k
          refine lv_aload_n hx hb dX8_writeText_43 rfl (lv_at hl 1 rfl) ?_
          refine ms_get ff_X8_15 hX hW 0 rfl rfl dX8_writeText_44 ?_
          refine ms_ldcS hX (tx := "&lt;") (i := 2) (List.mem_of_getElem? (i := 12) rfl) dX8_writeText_47 ?_
          obtain ⟨q49, hq49, h⟩ := ms_bd h
          refine ms_callV (fn_X1_addWord l G a_target a_target_row x_target_size x_target_overflowed x_target_row 2 (by decide) hq49) wm_X1_addWord wv_X8_56 hX hW [1, 2] rfl rfl rfl rfl rfl ⟨Nat.le_of_ble_eq_true rfl, Nat.le_of_ble_eq_true rfl, rfl, rfl, Nat.zero_le _, Nat.zero_le _⟩ rfl hl.1 [] rfl (Nat.le_of_ble_eq_true rfl) dX8_writeText_49 (fun H locs hW => ?_)
          have hW : ms_W G A s H locs [ob_X8 a_this a_policy a_target a_unended x_unendedCount, ob_X1 a_target a_target_row q49.1 q49.2.1, (a_target_row, .inl (G.2.1 0, 200, .inl q49.2.2)), ob_X1 a_a1 a_a1_row x_a1_size x_a1_overflowed, (a_a1_row, .inl (G.2.1 0, 200, .inl x_a1_row))] := hW
          refine W.eq (g2 := F0 m 52 ls []) rfl ?_
          refine lv_goto (tgt := 83) hx hb dX8_writeText_52 (by decide) ?_
          exact wb_X8_writeText_L83 hX hq (ih) h hW (lv_sub hl [1, 2, 3, 4] rfl)
      · have h := ms_ifp h k
        refine lv_aload_n hx hb dX8_writeText_24 rfl (lv_at hl 1 rfl) ?_
        refine ms_get ff_X8_15 hX hW 0 rfl rfl dX8_writeText_25 ?_
        refine ms_ldcS hX (tx := "&amp;") (i := 4) (List.mem_of_getElem? (i := 11) rfl) dX8_writeText_28 ?_
        obtain ⟨q30, hq30, h⟩ := ms_bd h
        refine ms_callV (fn_X1_addWord l G a_target a_target_row x_target_size x_target_overflowed x_target_row 4 (by decide) hq30) wm_X1_addWord wv_X8_56 hX hW [1, 2] rfl rfl rfl rfl rfl ⟨Nat.le_of_ble_eq_true rfl, Nat.le_of_ble_eq_true rfl, rfl, rfl, Nat.zero_le _, Nat.zero_le _⟩ rfl hl.1 [] rfl (Nat.le_of_ble_eq_true rfl) dX8_writeText_30 (fun H locs hW => ?_)
        have hW : ms_W G A s H locs [ob_X8 a_this a_policy a_target a_unended x_unendedCount, ob_X1 a_target a_target_row q30.1 q30.2.1, (a_target_row, .inl (G.2.1 0, 200, .inl q30.2.2)), ob_X1 a_a1 a_a1_row x_a1_size x_a1_overflowed, (a_a1_row, .inl (G.2.1 0, 200, .inl x_a1_row))] := hW
        refine W.eq (g2 := F0 m 33 ls []) rfl ?_
        refine lv_goto (tgt := 83) hx hb dX8_writeText_33 (by decide) ?_
        exact wb_X8_writeText_L83 hX hq (ih) h hW (lv_sub hl [1, 2, 3, 4] rfl)
def f_X8_writeText (x_target_size : Int32) (x_target_overflowed : Int32) (x_target_row : Nat → Int32) (x_a1_size : Int32) (x_a1_row : Nat → Int32) (v2 : Int32) (v3 : Int32) : Option (Int32 × Int32 × (Nat → Int32)) := (f_X8_writeText_L3 x_a1_size x_a1_row v2 v3 1000 x_target_size x_target_overflowed x_target_row v2).bind (fun w3 => some (w3.1, w3.2.1, w3.2.2))
set_option maxHeartbeats 4000000 in
set_option maxRecDepth 100000 in
theorem fn_X8_writeText (l : Launch) (G : Gc) (a_this : Nat) (a_policy : Nat) (a_target : Nat) (a_unended : Nat) (a_target_row : Nat) (a_a1 : Nat) (a_a1_row : Nat) (x_unendedCount : Int32) (x_target_size : Int32) (x_target_overflowed : Int32) (x_target_row : Nat → Int32) (x_a1_size : Int32) (x_a1_overflowed : Int32) (x_a1_row : Nat → Int32) (v2 : Int32) (v3 : Int32)  {o : Int32 × Int32 × (Nat → Int32)} (h : f_X8_writeText x_target_size x_target_overflowed x_target_row x_a1_size x_a1_row v2 v3 = some o) : ms_Fn l G yX8_writeText cX8_writeText 6 none rm_X8_writeText [.ref a_this, .ref a_a1, .int v2, .int v3] [ob_X8 a_this a_policy a_target a_unended x_unendedCount, ob_X1 a_target a_target_row x_target_size x_target_overflowed, (a_target_row, .inl (G.2.1 0, 200, .inl x_target_row)), ob_X1 a_a1 a_a1_row x_a1_size x_a1_overflowed, (a_a1_row, .inl (G.2.1 0, 200, .inl x_a1_row))] [ob_X8 a_this a_policy a_target a_unended x_unendedCount, ob_X1 a_target a_target_row o.1 o.2.1, (a_target_row, .inl (G.2.1 0, 200, .inl o.2.2)), ob_X1 a_a1 a_a1_row x_a1_size x_a1_overflowed, (a_a1_row, .inl (G.2.1 0, 200, .inl x_a1_row))] none := by
  refine ms_start RX8 (by decide +kernel) rfl (Nat.le_of_ble_eq_true rfl) (fun p e s m below meth c A ls hX hW hl => ?_)
  have hx := hX.1.1
  have hb := hX.1.2.1
  have hl : lv_has ls 6 [(0, .ref a_this), (1, .ref a_a1), (2, .int v2), (3, .int v3)] := hl
  unfold f_X8_writeText at h
  refine lv_iload_n hx hb dX8_writeText_0 rfl (lv_at hl 2 rfl) ?_
  refine lv_istore (lv' := [(4, .int v2), (0, .ref a_this), (1, .ref a_a1), (2, .int v2), (3, .int v3)]) hx hb dX8_writeText_1 hl (by decide) rfl (fun ls hl => ?_)
  obtain ⟨w3, hqw3, h⟩ := ms_bd h
  refine wb_X8_writeText_L3 hX (o := w3) (fun H locs ls hW hl => ?_) _ _ _ _ _ _ _ _ hqw3 hW (lv_sub hl [1, 2, 4, 0] rfl)
  obtain rfl := Option.some.inj h
  exact ms_vret hX hW dX8_writeText_89
def rm_X8_allows : Room := { frames := 3, cells := 0, slots := 0, locals := 76 }
def f_X8_allows_L36 (x_policy_schemeCount : Int32) (x_policy_attributes : Nat → Int32) (x_policy_schemes : Nat → Int64) (x_a1_attributeCount : Int32) (x_a1_attributeLetters : Nat → Int32) (x_a1_valueBegins : Nat → Int32) (x_a1_valueEnds : Nat → Int32) (x_a1_values_size : Int32) (x_a1_values_row : Nat → Int32) (v2 : Int32) (v3 : Int32)  : Option (Int32) := (f_X7_valueLine).bind (fun q41 => (f_X7_valueBeginOf x_a1_attributeCount x_a1_valueBegins v3).bind (fun q46 => (f_X7_valueEndOf x_a1_attributeCount x_a1_valueEnds v3).bind (fun q51 => (f_X3_allowsAddress x_policy_schemeCount x_policy_schemes x_a1_values_size x_a1_values_row q46 q51).bind (fun q54 => (if q54 = 0 then some 0 else some 1)))))
set_option maxHeartbeats 4000000 in
set_option maxRecDepth 100000 in
theorem wb_X8_allows_L36 {p : Program} {l : Launch} {e : Env} {s : State} {m : MethodId} {args : Array Value} {below : List Frame} {meth : Method} {c : Code} {G : Gc} {A : Nat → Prop} {H : Heap} {locs : List Loc} {ls : Array Slot} {a_this : Nat} {a_policy : Nat} {a_target : Nat} {a_unended : Nat} {a_policy_actions : Nat} {a_policy_attributes : Nat} {a_policy_schemes : Nat} {a_a1 : Nat} {a_a1_codes : Nat} {a_a1_begins : Nat} {a_a1_ends : Nat} {a_a1_characters : Nat} {a_a1_attributeLetters : Nat} {a_a1_valueBegins : Nat} {a_a1_valueEnds : Nat} {a_a1_values : Nat} {a_a1_values_row : Nat} {x_unendedCount : Int32} {x_policy_schemeCount : Int32} {x_policy_attributes : Nat → Int32} {x_policy_schemes : Nat → Int64} {x_a1_count : Int32} {x_a1_attributeCount : Int32} {x_a1_attributeLetters : Nat → Int32} {x_a1_valueBegins : Nat → Int32} {x_a1_valueEnds : Nat → Int32} {x_a1_values_size : Int32} {x_a1_values_overflowed : Int32} {x_a1_values_row : Nat → Int32} {v2 : Int32} {v3 : Int32}  {o : Int32} (hX : ms_CX p s m args meth c cX8_allows 5 RX8 (some .boolean) G A)   (h : f_X8_allows_L36 x_policy_schemeCount x_policy_attributes x_policy_schemes x_a1_attributeCount x_a1_attributeLetters x_a1_valueBegins x_a1_valueEnds x_a1_values_size x_a1_values_row v2 v3 = some o) (hW : ms_W G A s H locs [ob_X8 a_this a_policy a_target a_unended x_unendedCount, ob_X3 a_policy a_policy_actions a_policy_attributes a_policy_schemes x_policy_schemeCount, (a_policy_attributes, .inl (G.2.1 1, 27, .inl x_policy_attributes)), (a_policy_schemes, .inl (G.2.1 2, 4, .inr (.inl x_policy_schemes))), ob_X7 a_a1 a_a1_codes a_a1_begins a_a1_ends x_a1_count a_a1_characters a_a1_attributeLetters a_a1_valueBegins a_a1_valueEnds x_a1_attributeCount a_a1_values, (a_a1_attributeLetters, .inl (G.2.1 1, 100, .inl x_a1_attributeLetters)), (a_a1_valueBegins, .inl (G.2.1 1, 100, .inl x_a1_valueBegins)), (a_a1_valueEnds, .inl (G.2.1 1, 100, .inl x_a1_valueEnds)), ob_X1 a_a1_values a_a1_values_row x_a1_values_size x_a1_values_overflowed, (a_a1_values_row, .inl (G.2.1 0, 200, .inl x_a1_values_row))]) (hl : lv_has ls 5 [(0, .ref a_this), (1, .ref a_a1), (3, .int v3)]) : W p l e rm_X8_allows s m args below meth c H locs 0 0 (ms_Q G A below args s [ob_X8 a_this a_policy a_target a_unended x_unendedCount, ob_X3 a_policy a_policy_actions a_policy_attributes a_policy_schemes x_policy_schemeCount, (a_policy_attributes, .inl (G.2.1 1, 27, .inl x_policy_attributes)), (a_policy_schemes, .inl (G.2.1 2, 4, .inr (.inl x_policy_schemes))), ob_X7 a_a1 a_a1_codes a_a1_begins a_a1_ends x_a1_count a_a1_characters a_a1_attributeLetters a_a1_valueBegins a_a1_valueEnds x_a1_attributeCount a_a1_values, (a_a1_attributeLetters, .inl (G.2.1 1, 100, .inl x_a1_attributeLetters)), (a_a1_valueBegins, .inl (G.2.1 1, 100, .inl x_a1_valueBegins)), (a_a1_valueEnds, .inl (G.2.1 1, 100, .inl x_a1_valueEnds)), ob_X1 a_a1_values a_a1_values_row x_a1_values_size x_a1_values_overflowed, (a_a1_values_row, .inl (G.2.1 0, 200, .inl x_a1_values_row))] (some (.int o))) (F0 m 36 ls []) := by
  have hx := hX.1.1
  have hb := hX.1.2.1
  unfold f_X8_allows_L36 at h
  refine lv_aload_n hx hb dX8_allows_36 rfl (lv_at hl 0 rfl) ?_
  refine ms_get ff_X8_9 hX hW 0 rfl rfl dX8_allows_37 ?_
  refine lv_aload_n hx hb dX8_allows_40 rfl (lv_at hl 1 rfl) ?_
  obtain ⟨q41, hq41, h⟩ := ms_bd h
  refine ms_callV (fn_X7_valueLine l G a_a1 a_a1_codes a_a1_begins a_a1_ends a_a1_characters a_a1_attributeLetters a_a1_valueBegins a_a1_valueEnds a_a1_values x_a1_count x_a1_attributeCount hq41) wm_X7_valueLine wv_X8_117 hX hW [4] rfl rfl rfl rfl rfl ⟨Nat.le_of_ble_eq_true rfl, Nat.le_of_ble_eq_true rfl, rfl, rfl, Nat.zero_le _, Nat.zero_le _⟩ rfl hl.1 [.ref a_policy] rfl (Nat.le_of_ble_eq_true rfl) dX8_allows_41 (fun H locs hW => ?_)
  have hW : ms_W G A s H locs [ob_X8 a_this a_policy a_target a_unended x_unendedCount, ob_X3 a_policy a_policy_actions a_policy_attributes a_policy_schemes x_policy_schemeCount, (a_policy_attributes, .inl (G.2.1 1, 27, .inl x_policy_attributes)), (a_policy_schemes, .inl (G.2.1 2, 4, .inr (.inl x_policy_schemes))), ob_X7 a_a1 a_a1_codes a_a1_begins a_a1_ends x_a1_count a_a1_characters a_a1_attributeLetters a_a1_valueBegins a_a1_valueEnds x_a1_attributeCount a_a1_values, (a_a1_attributeLetters, .inl (G.2.1 1, 100, .inl x_a1_attributeLetters)), (a_a1_valueBegins, .inl (G.2.1 1, 100, .inl x_a1_valueBegins)), (a_a1_valueEnds, .inl (G.2.1 1, 100, .inl x_a1_valueEnds)), ob_X1 a_a1_values a_a1_values_row x_a1_values_size x_a1_values_overflowed, (a_a1_values_row, .inl (G.2.1 0, 200, .inl x_a1_values_row))] := hW
  refine W.eq (g2 := F0 m 44 ls [.ref a_a1_values, .ref a_policy]) rfl ?_
  refine lv_aload_n hx hb dX8_allows_44 rfl (lv_at hl 1 rfl) ?_
  refine lv_iload_n hx hb dX8_allows_45 rfl (lv_at hl 2 rfl) ?_
  obtain ⟨q46, hq46, h⟩ := ms_bd h
  refine ms_callV (fn_X7_valueBeginOf l G a_a1 a_a1_codes a_a1_begins a_a1_ends a_a1_characters a_a1_attributeLetters a_a1_valueBegins a_a1_valueEnds a_a1_values x_a1_count x_a1_attributeCount x_a1_valueBegins v3 hq46) wm_X7_valueBeginOf wv_X8_120 hX hW [4, 6] rfl rfl rfl rfl rfl ⟨Nat.le_of_ble_eq_true rfl, Nat.le_of_ble_eq_true rfl, rfl, rfl, Nat.zero_le _, Nat.zero_le _⟩ rfl hl.1 [.ref a_a1_values, .ref a_policy] rfl (Nat.le_of_ble_eq_true rfl) dX8_allows_46 (fun H locs hW => ?_)
  have hW : ms_W G A s H locs [ob_X8 a_this a_policy a_target a_unended x_unendedCount, ob_X3 a_policy a_policy_actions a_policy_attributes a_policy_schemes x_policy_schemeCount, (a_policy_attributes, .inl (G.2.1 1, 27, .inl x_policy_attributes)), (a_policy_schemes, .inl (G.2.1 2, 4, .inr (.inl x_policy_schemes))), ob_X7 a_a1 a_a1_codes a_a1_begins a_a1_ends x_a1_count a_a1_characters a_a1_attributeLetters a_a1_valueBegins a_a1_valueEnds x_a1_attributeCount a_a1_values, (a_a1_attributeLetters, .inl (G.2.1 1, 100, .inl x_a1_attributeLetters)), (a_a1_valueBegins, .inl (G.2.1 1, 100, .inl x_a1_valueBegins)), (a_a1_valueEnds, .inl (G.2.1 1, 100, .inl x_a1_valueEnds)), ob_X1 a_a1_values a_a1_values_row x_a1_values_size x_a1_values_overflowed, (a_a1_values_row, .inl (G.2.1 0, 200, .inl x_a1_values_row))] := hW
  refine W.eq (g2 := F0 m 49 ls [.int q46, .ref a_a1_values, .ref a_policy]) rfl ?_
  refine lv_aload_n hx hb dX8_allows_49 rfl (lv_at hl 1 rfl) ?_
  refine lv_iload_n hx hb dX8_allows_50 rfl (lv_at hl 2 rfl) ?_
  obtain ⟨q51, hq51, h⟩ := ms_bd h
  refine ms_callV (fn_X7_valueEndOf l G a_a1 a_a1_codes a_a1_begins a_a1_ends a_a1_characters a_a1_attributeLetters a_a1_valueBegins a_a1_valueEnds a_a1_values x_a1_count x_a1_attributeCount x_a1_valueEnds v3 hq51) wm_X7_valueEndOf wv_X8_123 hX hW [4, 7] rfl rfl rfl rfl rfl ⟨Nat.le_of_ble_eq_true rfl, Nat.le_of_ble_eq_true rfl, rfl, rfl, Nat.zero_le _, Nat.zero_le _⟩ rfl hl.1 [.int q46, .ref a_a1_values, .ref a_policy] rfl (Nat.le_of_ble_eq_true rfl) dX8_allows_51 (fun H locs hW => ?_)
  have hW : ms_W G A s H locs [ob_X8 a_this a_policy a_target a_unended x_unendedCount, ob_X3 a_policy a_policy_actions a_policy_attributes a_policy_schemes x_policy_schemeCount, (a_policy_attributes, .inl (G.2.1 1, 27, .inl x_policy_attributes)), (a_policy_schemes, .inl (G.2.1 2, 4, .inr (.inl x_policy_schemes))), ob_X7 a_a1 a_a1_codes a_a1_begins a_a1_ends x_a1_count a_a1_characters a_a1_attributeLetters a_a1_valueBegins a_a1_valueEnds x_a1_attributeCount a_a1_values, (a_a1_attributeLetters, .inl (G.2.1 1, 100, .inl x_a1_attributeLetters)), (a_a1_valueBegins, .inl (G.2.1 1, 100, .inl x_a1_valueBegins)), (a_a1_valueEnds, .inl (G.2.1 1, 100, .inl x_a1_valueEnds)), ob_X1 a_a1_values a_a1_values_row x_a1_values_size x_a1_values_overflowed, (a_a1_values_row, .inl (G.2.1 0, 200, .inl x_a1_values_row))] := hW
  refine W.eq (g2 := F0 m 54 ls [.int q51, .int q46, .ref a_a1_values, .ref a_policy]) rfl ?_
  obtain ⟨q54, hq54, h⟩ := ms_bd h
  refine ms_callV (fn_X3_allowsAddress l G a_policy a_policy_actions a_policy_attributes a_policy_schemes a_a1_values a_a1_values_row x_policy_schemeCount x_policy_schemes x_a1_values_size x_a1_values_overflowed x_a1_values_row q46 q51 hq54) wm_X3_allowsAddress wv_X8_126 hX hW [1, 3, 8, 9] rfl rfl rfl rfl rfl ⟨Nat.le_of_ble_eq_true rfl, Nat.le_of_ble_eq_true rfl, rfl, rfl, Nat.zero_le _, Nat.zero_le _⟩ rfl hl.1 [] rfl (Nat.le_of_ble_eq_true rfl) dX8_allows_54 (fun H locs hW => ?_)
  have hW : ms_W G A s H locs [ob_X8 a_this a_policy a_target a_unended x_unendedCount, ob_X3 a_policy a_policy_actions a_policy_attributes a_policy_schemes x_policy_schemeCount, (a_policy_attributes, .inl (G.2.1 1, 27, .inl x_policy_attributes)), (a_policy_schemes, .inl (G.2.1 2, 4, .inr (.inl x_policy_schemes))), ob_X7 a_a1 a_a1_codes a_a1_begins a_a1_ends x_a1_count a_a1_characters a_a1_attributeLetters a_a1_valueBegins a_a1_valueEnds x_a1_attributeCount a_a1_values, (a_a1_attributeLetters, .inl (G.2.1 1, 100, .inl x_a1_attributeLetters)), (a_a1_valueBegins, .inl (G.2.1 1, 100, .inl x_a1_valueBegins)), (a_a1_valueEnds, .inl (G.2.1 1, 100, .inl x_a1_valueEnds)), ob_X1 a_a1_values a_a1_values_row x_a1_values_size x_a1_values_overflowed, (a_a1_values_row, .inl (G.2.1 0, 200, .inl x_a1_values_row))] := hW
  refine W.eq (g2 := F0 m 57 ls [.int q54]) rfl ?_
  refine lv_if_eq (tgt := 64) hx hb dX8_allows_57 (by decide) (fun k => ?_) (fun k => ?_)
  · have h := ms_ifp h k
    refine lv_iconst (v := 0) hx hb dX8_allows_64 (by decide) ?_
    obtain rfl := Option.some.inj h
    exact ms_zret hX (ms_nz (Or.inl rfl)) hW dX8_allows_65
  · have h := ms_ifn h k
    refine lv_iconst (v := 1) hx hb dX8_allows_60 (by decide) ?_
    refine lv_goto (tgt := 65) hx hb dX8_allows_61 (by decide) ?_
    obtain rfl := Option.some.inj h
    exact ms_zret hX (ms_nz (Or.inr rfl)) hW dX8_allows_65
def f_X8_allows (x_policy_schemeCount : Int32) (x_policy_attributes : Nat → Int32) (x_policy_schemes : Nat → Int64) (x_a1_attributeCount : Int32) (x_a1_attributeLetters : Nat → Int32) (x_a1_valueBegins : Nat → Int32) (x_a1_valueEnds : Nat → Int32) (x_a1_values_size : Int32) (x_a1_values_row : Nat → Int32) (v2 : Int32) (v3 : Int32) : Option (Int32) := (f_X7_letterOf x_a1_attributeCount x_a1_attributeLetters v3).bind (fun q2 => (f_X3_allowsAttribute x_policy_attributes v2 q2).bind (fun q14 => (if q14 = 0 then some 0 else (if q2 = 7 then f_X8_allows_L36 x_policy_schemeCount x_policy_attributes x_policy_schemes x_a1_attributeCount x_a1_attributeLetters x_a1_valueBegins x_a1_valueEnds x_a1_values_size x_a1_values_row v2 v3 else (if q2 = 17 then f_X8_allows_L36 x_policy_schemeCount x_policy_attributes x_policy_schemes x_a1_attributeCount x_a1_attributeLetters x_a1_valueBegins x_a1_valueEnds x_a1_values_size x_a1_values_row v2 v3 else some 1)))))
set_option maxHeartbeats 4000000 in
set_option maxRecDepth 100000 in
theorem fn_X8_allows (l : Launch) (G : Gc) (a_this : Nat) (a_policy : Nat) (a_target : Nat) (a_unended : Nat) (a_policy_actions : Nat) (a_policy_attributes : Nat) (a_policy_schemes : Nat) (a_a1 : Nat) (a_a1_codes : Nat) (a_a1_begins : Nat) (a_a1_ends : Nat) (a_a1_characters : Nat) (a_a1_attributeLetters : Nat) (a_a1_valueBegins : Nat) (a_a1_valueEnds : Nat) (a_a1_values : Nat) (a_a1_values_row : Nat) (x_unendedCount : Int32) (x_policy_schemeCount : Int32) (x_policy_attributes : Nat → Int32) (x_policy_schemes : Nat → Int64) (x_a1_count : Int32) (x_a1_attributeCount : Int32) (x_a1_attributeLetters : Nat → Int32) (x_a1_valueBegins : Nat → Int32) (x_a1_valueEnds : Nat → Int32) (x_a1_values_size : Int32) (x_a1_values_overflowed : Int32) (x_a1_values_row : Nat → Int32) (v2 : Int32) (v3 : Int32)  {o : Int32} (h : f_X8_allows x_policy_schemeCount x_policy_attributes x_policy_schemes x_a1_attributeCount x_a1_attributeLetters x_a1_valueBegins x_a1_valueEnds x_a1_values_size x_a1_values_row v2 v3 = some o) : ms_Fn l G yX8_allows cX8_allows 5 (some .boolean) rm_X8_allows [.ref a_this, .ref a_a1, .int v2, .int v3] [ob_X8 a_this a_policy a_target a_unended x_unendedCount, ob_X3 a_policy a_policy_actions a_policy_attributes a_policy_schemes x_policy_schemeCount, (a_policy_attributes, .inl (G.2.1 1, 27, .inl x_policy_attributes)), (a_policy_schemes, .inl (G.2.1 2, 4, .inr (.inl x_policy_schemes))), ob_X7 a_a1 a_a1_codes a_a1_begins a_a1_ends x_a1_count a_a1_characters a_a1_attributeLetters a_a1_valueBegins a_a1_valueEnds x_a1_attributeCount a_a1_values, (a_a1_attributeLetters, .inl (G.2.1 1, 100, .inl x_a1_attributeLetters)), (a_a1_valueBegins, .inl (G.2.1 1, 100, .inl x_a1_valueBegins)), (a_a1_valueEnds, .inl (G.2.1 1, 100, .inl x_a1_valueEnds)), ob_X1 a_a1_values a_a1_values_row x_a1_values_size x_a1_values_overflowed, (a_a1_values_row, .inl (G.2.1 0, 200, .inl x_a1_values_row))] [ob_X8 a_this a_policy a_target a_unended x_unendedCount, ob_X3 a_policy a_policy_actions a_policy_attributes a_policy_schemes x_policy_schemeCount, (a_policy_attributes, .inl (G.2.1 1, 27, .inl x_policy_attributes)), (a_policy_schemes, .inl (G.2.1 2, 4, .inr (.inl x_policy_schemes))), ob_X7 a_a1 a_a1_codes a_a1_begins a_a1_ends x_a1_count a_a1_characters a_a1_attributeLetters a_a1_valueBegins a_a1_valueEnds x_a1_attributeCount a_a1_values, (a_a1_attributeLetters, .inl (G.2.1 1, 100, .inl x_a1_attributeLetters)), (a_a1_valueBegins, .inl (G.2.1 1, 100, .inl x_a1_valueBegins)), (a_a1_valueEnds, .inl (G.2.1 1, 100, .inl x_a1_valueEnds)), ob_X1 a_a1_values a_a1_values_row x_a1_values_size x_a1_values_overflowed, (a_a1_values_row, .inl (G.2.1 0, 200, .inl x_a1_values_row))] (some (.int o)) := by
  refine ms_start RX8 (by decide +kernel) rfl (Nat.le_of_ble_eq_true rfl) (fun p e s m below meth c A ls hX hW hl => ?_)
  have hx := hX.1.1
  have hb := hX.1.2.1
  have hl : lv_has ls 5 [(0, .ref a_this), (1, .ref a_a1), (2, .int v2), (3, .int v3)] := hl
  unfold f_X8_allows at h
  refine lv_aload_n hx hb dX8_allows_0 rfl (lv_at hl 1 rfl) ?_
  refine lv_iload_n hx hb dX8_allows_1 rfl (lv_at hl 3 rfl) ?_
  obtain ⟨q2, hq2, h⟩ := ms_bd h
  refine ms_callV (fn_X7_letterOf l G a_a1 a_a1_codes a_a1_begins a_a1_ends a_a1_characters a_a1_attributeLetters a_a1_valueBegins a_a1_valueEnds a_a1_values x_a1_count x_a1_attributeCount x_a1_attributeLetters v3 hq2) wm_X7_letterOf wv_X8_110 hX hW [4, 5] rfl rfl rfl rfl rfl ⟨Nat.le_of_ble_eq_true rfl, Nat.le_of_ble_eq_true rfl, rfl, rfl, Nat.zero_le _, Nat.zero_le _⟩ rfl hl.1 [] rfl (Nat.le_of_ble_eq_true rfl) dX8_allows_2 (fun H locs hW => ?_)
  have hW : ms_W G A s H locs [ob_X8 a_this a_policy a_target a_unended x_unendedCount, ob_X3 a_policy a_policy_actions a_policy_attributes a_policy_schemes x_policy_schemeCount, (a_policy_attributes, .inl (G.2.1 1, 27, .inl x_policy_attributes)), (a_policy_schemes, .inl (G.2.1 2, 4, .inr (.inl x_policy_schemes))), ob_X7 a_a1 a_a1_codes a_a1_begins a_a1_ends x_a1_count a_a1_characters a_a1_attributeLetters a_a1_valueBegins a_a1_valueEnds x_a1_attributeCount a_a1_values, (a_a1_attributeLetters, .inl (G.2.1 1, 100, .inl x_a1_attributeLetters)), (a_a1_valueBegins, .inl (G.2.1 1, 100, .inl x_a1_valueBegins)), (a_a1_valueEnds, .inl (G.2.1 1, 100, .inl x_a1_valueEnds)), ob_X1 a_a1_values a_a1_values_row x_a1_values_size x_a1_values_overflowed, (a_a1_values_row, .inl (G.2.1 0, 200, .inl x_a1_values_row))] := hW
  refine W.eq (g2 := F0 m 5 ls [.int q2]) rfl ?_
  refine lv_istore (lv' := [(4, .int q2), (0, .ref a_this), (1, .ref a_a1), (2, .int v2), (3, .int v3)]) hx hb dX8_allows_5 hl (by decide) rfl (fun ls hl => ?_)
  refine lv_aload_n hx hb dX8_allows_7 rfl (lv_at hl 1 rfl) ?_
  refine ms_get ff_X8_9 hX hW 0 rfl rfl dX8_allows_8 ?_
  refine lv_iload_n hx hb dX8_allows_11 rfl (lv_at hl 3 rfl) ?_
  refine lv_iload hx hb dX8_allows_12 (lv_at hl 0 rfl) ?_
  obtain ⟨q14, hq14, h⟩ := ms_bd h
  refine ms_callV (fn_X3_allowsAttribute l G a_policy a_policy_actions a_policy_attributes a_policy_schemes x_policy_schemeCount x_policy_attributes v2 q2 hq14) wm_X3_allowsAttribute wv_X8_113 hX hW [1, 2] rfl rfl rfl rfl rfl ⟨Nat.le_of_ble_eq_true rfl, Nat.le_of_ble_eq_true rfl, rfl, rfl, Nat.zero_le _, Nat.zero_le _⟩ rfl hl.1 [] rfl (Nat.le_of_ble_eq_true rfl) dX8_allows_14 (fun H locs hW => ?_)
  have hW : ms_W G A s H locs [ob_X8 a_this a_policy a_target a_unended x_unendedCount, ob_X3 a_policy a_policy_actions a_policy_attributes a_policy_schemes x_policy_schemeCount, (a_policy_attributes, .inl (G.2.1 1, 27, .inl x_policy_attributes)), (a_policy_schemes, .inl (G.2.1 2, 4, .inr (.inl x_policy_schemes))), ob_X7 a_a1 a_a1_codes a_a1_begins a_a1_ends x_a1_count a_a1_characters a_a1_attributeLetters a_a1_valueBegins a_a1_valueEnds x_a1_attributeCount a_a1_values, (a_a1_attributeLetters, .inl (G.2.1 1, 100, .inl x_a1_attributeLetters)), (a_a1_valueBegins, .inl (G.2.1 1, 100, .inl x_a1_valueBegins)), (a_a1_valueEnds, .inl (G.2.1 1, 100, .inl x_a1_valueEnds)), ob_X1 a_a1_values a_a1_values_row x_a1_values_size x_a1_values_overflowed, (a_a1_values_row, .inl (G.2.1 0, 200, .inl x_a1_values_row))] := hW
  refine W.eq (g2 := F0 m 17 ls [.int q14]) rfl ?_
  refine lv_if_ne (tgt := 22) hx hb dX8_allows_17 (by decide) (fun k => ?_) (fun k => ?_)
  · have h := ms_ifn h k
    refine lv_iload hx hb dX8_allows_22 (lv_at hl 0 rfl) ?_
    refine lv_bipush (v := 7) hx hb dX8_allows_24 (by decide) ?_
    refine lv_icmp_eq (tgt := 36) hx hb dX8_allows_26 (by decide) (fun k => ?_) (fun k => ?_)
    · have h := ms_ifp h k
      exact wb_X8_allows_L36 hX h hW (lv_sub hl [1, 2, 4] rfl)
    · have h := ms_ifn h k
      refine lv_iload hx hb dX8_allows_29 (lv_at hl 0 rfl) ?_
      refine lv_bipush (v := 17) hx hb dX8_allows_31 (by decide) ?_
      refine lv_icmp_ne (tgt := 60) hx hb dX8_allows_33 (by decide) (fun k => ?_) (fun k => ?_)
      · have h := ms_ifn h k
        refine lv_iconst (v := 1) hx hb dX8_allows_60 (by decide) ?_
        refine lv_goto (tgt := 65) hx hb dX8_allows_61 (by decide) ?_
        obtain rfl := Option.some.inj h
        exact ms_zret hX (ms_nz (Or.inr rfl)) hW dX8_allows_65
      · have h := ms_ifp h k
        exact wb_X8_allows_L36 hX h hW (lv_sub hl [1, 2, 4] rfl)
  · have h := ms_ifp h k
    refine lv_iconst (v := 0) hx hb dX8_allows_20 (by decide) ?_
    obtain rfl := Option.some.inj h
    exact ms_zret hX (ms_nz (Or.inl rfl)) hW dX8_allows_21
def rm_X8_writeValue : Room := { frames := 5, cells := 0, slots := 0, locals := 107 }
def f_X8_writeValue_L64 (x_a1_size : Int32) (x_a1_row : Nat → Int32) (v2 : Int32) (v3 : Int32) (kk : Int32 → Int32 → (Nat → Int32) → Int32 → Option (Int32 × Int32 × (Nat → Int32))) (x_target_size : Int32) (x_target_overflowed : Int32) (x_target_row : Nat → Int32) (v4 : Int32) : Option (Int32 × Int32 × (Nat → Int32)) := kk x_target_size x_target_overflowed x_target_row (v4 + 1)
set_option maxHeartbeats 4000000 in
set_option maxRecDepth 100000 in
theorem wb_X8_writeValue_L64 {p : Program} {l : Launch} {e : Env} {s : State} {m : MethodId} {args : Array Value} {below : List Frame} {meth : Method} {c : Code} {G : Gc} {A : Nat → Prop} {H : Heap} {locs : List Loc} {ls : Array Slot} {a_this : Nat} {a_policy : Nat} {a_target : Nat} {a_unended : Nat} {a_target_row : Nat} {a_a1 : Nat} {a_a1_row : Nat} {x_unendedCount : Int32} {x_a1_size : Int32} {x_a1_overflowed : Int32} {x_a1_row : Nat → Int32} {v2 : Int32} {v3 : Int32} {kk : Int32 → Int32 → (Nat → Int32) → Int32 → Option (Int32 × Int32 × (Nat → Int32))} {Q : State → Prop} {x_target_size : Int32} {x_target_overflowed : Int32} {x_target_row : Nat → Int32} {v4 : Int32} {o : Int32 × Int32 × (Nat → Int32)} (hX : ms_CX p s m args meth c cX8_writeValue 6 RX8 none G A) (hq : ∀ (H : Heap) (locs : List Loc) (ls : Array Slot), ms_W G A s H locs [ob_X8 a_this a_policy a_target a_unended x_unendedCount, ob_X1 a_target a_target_row o.1 o.2.1, (a_target_row, .inl (G.2.1 0, 200, .inl o.2.2)), ob_X1 a_a1 a_a1_row x_a1_size x_a1_overflowed, (a_a1_row, .inl (G.2.1 0, 200, .inl x_a1_row))] → lv_has ls 6 [] → W p l e rm_X8_writeValue s m args below meth c H locs 0 0 Q (F0 m 70 ls [])) (ih : ∀ (x_target_size : Int32) (x_target_overflowed : Int32) (x_target_row : Nat → Int32) (v4 : Int32) (H : Heap) (locs : List Loc) (ls : Array Slot), kk x_target_size x_target_overflowed x_target_row v4 = some o → ms_W G A s H locs [ob_X8 a_this a_policy a_target a_unended x_unendedCount, ob_X1 a_target a_target_row x_target_size x_target_overflowed, (a_target_row, .inl (G.2.1 0, 200, .inl x_target_row)), ob_X1 a_a1 a_a1_row x_a1_size x_a1_overflowed, (a_a1_row, .inl (G.2.1 0, 200, .inl x_a1_row))] → lv_has ls 6 [(0, .ref a_this), (1, .ref a_a1), (3, .int v3), (4, .int v4)] → W p l e rm_X8_writeValue s m args below meth c H locs 0 0 Q (F0 m 3 ls [])) (h : f_X8_writeValue_L64 x_a1_size x_a1_row v2 v3 kk x_target_size x_target_overflowed x_target_row v4 = some o) (hW : ms_W G A s H locs [ob_X8 a_this a_policy a_target a_unended x_unendedCount, ob_X1 a_target a_target_row x_target_size x_target_overflowed, (a_target_row, .inl (G.2.1 0, 200, .inl x_target_row)), ob_X1 a_a1 a_a1_row x_a1_size x_a1_overflowed, (a_a1_row, .inl (G.2.1 0, 200, .inl x_a1_row))]) (hl : lv_has ls 6 [(0, .ref a_this), (1, .ref a_a1), (3, .int v3), (4, .int v4)]) : W p l e rm_X8_writeValue s m args below meth c H locs 0 0 Q (F0 m 64 ls []) := by
  have hx := hX.1.1
  have hb := hX.1.2.1
  unfold f_X8_writeValue_L64 at h
  refine lv_iinc (v := v4 + 1) (lv' := [(4, .int (v4 + 1)), (0, .ref a_this), (1, .ref a_a1), (3, .int v3)]) hx hb dX8_writeValue_64 hl (k := 3) rfl rfl (by decide) rfl (fun ls hl => ?_)
  refine lv_goto (tgt := 3) hx hb dX8_writeValue_67 (by decide) ?_
  exact ih _ _ _ _ _ _ _ h hW (lv_sub hl [1, 2, 3, 0] rfl)
def f_X8_writeValue_L3 (x_a1_size : Int32) (x_a1_row : Nat → Int32) (v2 : Int32) (v3 : Int32) : Nat → Int32 → Int32 → (Nat → Int32) → Int32 → Option (Int32 × Int32 × (Nat → Int32))
  | 0, _, _, _, _ => none
  | n + 1, x_target_size, x_target_overflowed, x_target_row, v4 => (if v3 ≤ v4 then some (x_target_size, x_target_overflowed, x_target_row) else (f_X1_at x_a1_size x_a1_row v4).bind (fun q12 => (if q12 = 38 then (f_X1_addWord x_target_size x_target_overflowed x_target_row 4).bind (fun q30 => f_X8_writeValue_L64 x_a1_size x_a1_row v2 v3 (f_X8_writeValue_L3 x_a1_size x_a1_row v2 v3 n) q30.1 q30.2.1 q30.2.2 v4) else (if q12 = 34 then (f_X1_addWord x_target_size x_target_overflowed x_target_row 5).bind (fun q49 => f_X8_writeValue_L64 x_a1_size x_a1_row v2 v3 (f_X8_writeValue_L3 x_a1_size x_a1_row v2 v3 n) q49.1 q49.2.1 q49.2.2 v4) else (f_X1_add x_target_size x_target_overflowed x_target_row q12).bind (fun q61 => f_X8_writeValue_L64 x_a1_size x_a1_row v2 v3 (f_X8_writeValue_L3 x_a1_size x_a1_row v2 v3 n) q61.1 q61.2.1 q61.2.2 v4)))))
set_option maxHeartbeats 4000000 in
set_option maxRecDepth 100000 in
theorem wb_X8_writeValue_L3 {p : Program} {l : Launch} {e : Env} {s : State} {m : MethodId} {args : Array Value} {below : List Frame} {meth : Method} {c : Code} {G : Gc} {A : Nat → Prop} {a_this : Nat} {a_policy : Nat} {a_target : Nat} {a_unended : Nat} {a_target_row : Nat} {a_a1 : Nat} {a_a1_row : Nat} {x_unendedCount : Int32} {x_a1_size : Int32} {x_a1_overflowed : Int32} {x_a1_row : Nat → Int32} {v2 : Int32} {v3 : Int32} {Q : State → Prop} {o : Int32 × Int32 × (Nat → Int32)} (hX : ms_CX p s m args meth c cX8_writeValue 6 RX8 none G A) (hq : ∀ (H : Heap) (locs : List Loc) (ls : Array Slot), ms_W G A s H locs [ob_X8 a_this a_policy a_target a_unended x_unendedCount, ob_X1 a_target a_target_row o.1 o.2.1, (a_target_row, .inl (G.2.1 0, 200, .inl o.2.2)), ob_X1 a_a1 a_a1_row x_a1_size x_a1_overflowed, (a_a1_row, .inl (G.2.1 0, 200, .inl x_a1_row))] → lv_has ls 6 [] → W p l e rm_X8_writeValue s m args below meth c H locs 0 0 Q (F0 m 70 ls [])) : ∀ (n : Nat) (x_target_size : Int32) (x_target_overflowed : Int32) (x_target_row : Nat → Int32) (v4 : Int32) (H : Heap) (locs : List Loc) (ls : Array Slot), f_X8_writeValue_L3 x_a1_size x_a1_row v2 v3 n x_target_size x_target_overflowed x_target_row v4 = some o → ms_W G A s H locs [ob_X8 a_this a_policy a_target a_unended x_unendedCount, ob_X1 a_target a_target_row x_target_size x_target_overflowed, (a_target_row, .inl (G.2.1 0, 200, .inl x_target_row)), ob_X1 a_a1 a_a1_row x_a1_size x_a1_overflowed, (a_a1_row, .inl (G.2.1 0, 200, .inl x_a1_row))] → lv_has ls 6 [(0, .ref a_this), (1, .ref a_a1), (3, .int v3), (4, .int v4)] → W p l e rm_X8_writeValue s m args below meth c H locs 0 0 Q (F0 m 3 ls []) := by
  have hx := hX.1.1
  have hb := hX.1.2.1
  intro n
  induction n with
  | zero => intro x_target_size x_target_overflowed x_target_row v4 H locs ls h; rw [f_X8_writeValue_L3] at h; cases h
  | succ n ih =>
    intro x_target_size x_target_overflowed x_target_row v4 H locs ls h hW hl
    rw [f_X8_writeValue_L3] at h
    refine lv_iload hx hb dX8_writeValue_3 (lv_at hl 3 rfl) ?_
    refine lv_iload_n hx hb dX8_writeValue_5 rfl (lv_at hl 2 rfl) ?_
    refine lv_icmp_ge (tgt := 70) hx hb dX8_writeValue_6 (by decide) (fun k => ?_) (fun k => ?_)
    · have h := ms_ifp h k
      obtain rfl := Option.some.inj h
      exact hq _ _ _ hW (lv_sub hl [] rfl)
    · have h := ms_ifn h k
      refine lv_aload_n hx hb dX8_writeValue_9 rfl (lv_at hl 1 rfl) ?_
      refine lv_iload hx hb dX8_writeValue_10 (lv_at hl 3 rfl) ?_
      obtain ⟨q12, hq12, h⟩ := ms_bd h
      refine ms_callV (fn_X1_at l G a_a1 a_a1_row x_a1_size x_a1_overflowed x_a1_row v4 hq12) wm_X1_at wv_X8_139 hX hW [3, 4] rfl rfl rfl rfl rfl ⟨Nat.le_of_ble_eq_true rfl, Nat.le_of_ble_eq_true rfl, rfl, rfl, Nat.zero_le _, Nat.zero_le _⟩ rfl hl.1 [] rfl (Nat.le_of_ble_eq_true rfl) dX8_writeValue_12 (fun H locs hW => ?_)
      have hW : ms_W G A s H locs [ob_X8 a_this a_policy a_target a_unended x_unendedCount, ob_X1 a_target a_target_row x_target_size x_target_overflowed, (a_target_row, .inl (G.2.1 0, 200, .inl x_target_row)), ob_X1 a_a1 a_a1_row x_a1_size x_a1_overflowed, (a_a1_row, .inl (G.2.1 0, 200, .inl x_a1_row))] := hW
      refine W.eq (g2 := F0 m 15 ls [.int q12]) rfl ?_
      refine lv_istore (lv' := [(5, .int q12), (0, .ref a_this), (1, .ref a_a1), (3, .int v3), (4, .int v4)]) hx hb dX8_writeValue_15 hl (by decide) rfl (fun ls hl => ?_)
      refine lv_iload hx hb dX8_writeValue_17 (lv_at hl 0 rfl) ?_
      refine lv_bipush (v := 38) hx hb dX8_writeValue_19 (by decide) ?_
      refine lv_icmp_ne (tgt := 36) hx hb dX8_writeValue_21 (by decide) (fun k => ?_) (fun k => ?_)
      · have h := ms_ifn h k
        refine lv_iload hx hb dX8_writeValue_36 (lv_at hl 0 rfl) ?_
        refine lv_bipush (v := 34) hx hb dX8_writeValue_38 (by decide) ?_
        refine lv_icmp_ne (tgt := 55) hx hb dX8_writeValue_40 (by decide) (fun k => ?_) (fun k => ?_)
        · have h := ms_ifn h k
          refine lv_aload_n hx hb dX8_writeValue_55 rfl (lv_at hl 1 rfl) ?_
          refine ms_get ff_X8_15 hX hW 0 rfl rfl dX8_writeValue_56 ?_
          refine lv_iload hx hb dX8_writeValue_59 (lv_at hl 0 rfl) ?_
          obtain ⟨q61, hq61, h⟩ := ms_bd h
          refine ms_callV (fn_X1_add l G a_target a_target_row x_target_size x_target_overflowed x_target_row q12 hq61) wm_X1_add wv_X8_149 hX hW [1, 2] rfl rfl rfl rfl rfl ⟨Nat.le_of_ble_eq_true rfl, Nat.le_of_ble_eq_true rfl, rfl, rfl, Nat.zero_le _, Nat.zero_le _⟩ rfl hl.1 [] rfl (Nat.le_of_ble_eq_true rfl) dX8_writeValue_61 (fun H locs hW => ?_)
          have hW : ms_W G A s H locs [ob_X8 a_this a_policy a_target a_unended x_unendedCount, ob_X1 a_target a_target_row q61.1 q61.2.1, (a_target_row, .inl (G.2.1 0, 200, .inl q61.2.2)), ob_X1 a_a1 a_a1_row x_a1_size x_a1_overflowed, (a_a1_row, .inl (G.2.1 0, 200, .inl x_a1_row))] := hW
          refine W.eq (g2 := F0 m 64 ls []) rfl ?_
          exact wb_X8_writeValue_L64 hX hq (ih) h hW (lv_sub hl [1, 2, 3, 4] rfl)
        · have h := ms_ifp h k
          refine lv_aload_n hx hb dX8_writeValue_43 rfl (lv_at hl 1 rfl) ?_
          refine ms_get ff_X8_15 hX hW 0 rfl rfl dX8_writeValue_44 ?_
          refine ms_ldcS hX (tx := "&quot;") (i := 5) (List.mem_of_getElem? (i := 17) rfl) dX8_writeValue_47 ?_
          obtain ⟨q49, hq49, h⟩ := ms_bd h
          refine ms_callV (fn_X1_addWord l G a_target a_target_row x_target_size x_target_overflowed x_target_row 5 (by decide) hq49) wm_X1_addWord wv_X8_56 hX hW [1, 2] rfl rfl rfl rfl rfl ⟨Nat.le_of_ble_eq_true rfl, Nat.le_of_ble_eq_true rfl, rfl, rfl, Nat.zero_le _, Nat.zero_le _⟩ rfl hl.1 [] rfl (Nat.le_of_ble_eq_true rfl) dX8_writeValue_49 (fun H locs hW => ?_)
          have hW : ms_W G A s H locs [ob_X8 a_this a_policy a_target a_unended x_unendedCount, ob_X1 a_target a_target_row q49.1 q49.2.1, (a_target_row, .inl (G.2.1 0, 200, .inl q49.2.2)), ob_X1 a_a1 a_a1_row x_a1_size x_a1_overflowed, (a_a1_row, .inl (G.2.1 0, 200, .inl x_a1_row))] := hW
          refine W.eq (g2 := F0 m 52 ls []) rfl ?_
          refine lv_goto (tgt := 64) hx hb dX8_writeValue_52 (by decide) ?_
          exact wb_X8_writeValue_L64 hX hq (ih) h hW (lv_sub hl [1, 2, 3, 4] rfl)
      · have h := ms_ifp h k
        refine lv_aload_n hx hb dX8_writeValue_24 rfl (lv_at hl 1 rfl) ?_
        refine ms_get ff_X8_15 hX hW 0 rfl rfl dX8_writeValue_25 ?_
        refine ms_ldcS hX (tx := "&amp;") (i := 4) (List.mem_of_getElem? (i := 11) rfl) dX8_writeValue_28 ?_
        obtain ⟨q30, hq30, h⟩ := ms_bd h
        refine ms_callV (fn_X1_addWord l G a_target a_target_row x_target_size x_target_overflowed x_target_row 4 (by decide) hq30) wm_X1_addWord wv_X8_56 hX hW [1, 2] rfl rfl rfl rfl rfl ⟨Nat.le_of_ble_eq_true rfl, Nat.le_of_ble_eq_true rfl, rfl, rfl, Nat.zero_le _, Nat.zero_le _⟩ rfl hl.1 [] rfl (Nat.le_of_ble_eq_true rfl) dX8_writeValue_30 (fun H locs hW => ?_)
        have hW : ms_W G A s H locs [ob_X8 a_this a_policy a_target a_unended x_unendedCount, ob_X1 a_target a_target_row q30.1 q30.2.1, (a_target_row, .inl (G.2.1 0, 200, .inl q30.2.2)), ob_X1 a_a1 a_a1_row x_a1_size x_a1_overflowed, (a_a1_row, .inl (G.2.1 0, 200, .inl x_a1_row))] := hW
        refine W.eq (g2 := F0 m 33 ls []) rfl ?_
        refine lv_goto (tgt := 64) hx hb dX8_writeValue_33 (by decide) ?_
        exact wb_X8_writeValue_L64 hX hq (ih) h hW (lv_sub hl [1, 2, 3, 4] rfl)
def f_X8_writeValue (x_target_size : Int32) (x_target_overflowed : Int32) (x_target_row : Nat → Int32) (x_a1_size : Int32) (x_a1_row : Nat → Int32) (v2 : Int32) (v3 : Int32) : Option (Int32 × Int32 × (Nat → Int32)) := (f_X8_writeValue_L3 x_a1_size x_a1_row v2 v3 1000 x_target_size x_target_overflowed x_target_row v2).bind (fun w3 => some (w3.1, w3.2.1, w3.2.2))
set_option maxHeartbeats 4000000 in
set_option maxRecDepth 100000 in
theorem fn_X8_writeValue (l : Launch) (G : Gc) (a_this : Nat) (a_policy : Nat) (a_target : Nat) (a_unended : Nat) (a_target_row : Nat) (a_a1 : Nat) (a_a1_row : Nat) (x_unendedCount : Int32) (x_target_size : Int32) (x_target_overflowed : Int32) (x_target_row : Nat → Int32) (x_a1_size : Int32) (x_a1_overflowed : Int32) (x_a1_row : Nat → Int32) (v2 : Int32) (v3 : Int32)  {o : Int32 × Int32 × (Nat → Int32)} (h : f_X8_writeValue x_target_size x_target_overflowed x_target_row x_a1_size x_a1_row v2 v3 = some o) : ms_Fn l G yX8_writeValue cX8_writeValue 6 none rm_X8_writeValue [.ref a_this, .ref a_a1, .int v2, .int v3] [ob_X8 a_this a_policy a_target a_unended x_unendedCount, ob_X1 a_target a_target_row x_target_size x_target_overflowed, (a_target_row, .inl (G.2.1 0, 200, .inl x_target_row)), ob_X1 a_a1 a_a1_row x_a1_size x_a1_overflowed, (a_a1_row, .inl (G.2.1 0, 200, .inl x_a1_row))] [ob_X8 a_this a_policy a_target a_unended x_unendedCount, ob_X1 a_target a_target_row o.1 o.2.1, (a_target_row, .inl (G.2.1 0, 200, .inl o.2.2)), ob_X1 a_a1 a_a1_row x_a1_size x_a1_overflowed, (a_a1_row, .inl (G.2.1 0, 200, .inl x_a1_row))] none := by
  refine ms_start RX8 (by decide +kernel) rfl (Nat.le_of_ble_eq_true rfl) (fun p e s m below meth c A ls hX hW hl => ?_)
  have hx := hX.1.1
  have hb := hX.1.2.1
  have hl : lv_has ls 6 [(0, .ref a_this), (1, .ref a_a1), (2, .int v2), (3, .int v3)] := hl
  unfold f_X8_writeValue at h
  refine lv_iload_n hx hb dX8_writeValue_0 rfl (lv_at hl 2 rfl) ?_
  refine lv_istore (lv' := [(4, .int v2), (0, .ref a_this), (1, .ref a_a1), (2, .int v2), (3, .int v3)]) hx hb dX8_writeValue_1 hl (by decide) rfl (fun ls hl => ?_)
  obtain ⟨w3, hqw3, h⟩ := ms_bd h
  refine wb_X8_writeValue_L3 hX (o := w3) (fun H locs ls hW hl => ?_) _ _ _ _ _ _ _ _ hqw3 hW (lv_sub hl [1, 2, 4, 0] rfl)
  obtain rfl := Option.some.inj h
  exact ms_vret hX hW dX8_writeValue_70
def rm_X8_writeAttribute : Room := { frames := 6, cells := 0, slots := 0, locals := 132 }
def f_X8_writeAttribute (x_target_size : Int32) (x_target_overflowed : Int32) (x_target_row : Nat → Int32) (x_a1_attributeCount : Int32) (x_a1_attributeLetters : Nat → Int32) (x_a1_valueBegins : Nat → Int32) (x_a1_valueEnds : Nat → Int32) (x_a1_values_size : Int32) (x_a1_values_row : Nat → Int32) (v2 : Int32) : Option (Int32 × Int32 × (Nat → Int32)) := (f_X1_addWord x_target_size x_target_overflowed x_target_row 11).bind (fun q6 => (f_X7_letterOf x_a1_attributeCount x_a1_attributeLetters v2).bind (fun q12 => (f_X8_writeLetter q6.1 q6.2.1 q6.2.2 q12).bind (fun q15 => (f_X1_addWord q15.1 q15.2.1 q15.2.2 12).bind (fun q24 => (f_X7_valueLine).bind (fun q29 => (f_X7_valueBeginOf x_a1_attributeCount x_a1_valueBegins v2).bind (fun q34 => (f_X7_valueEndOf x_a1_attributeCount x_a1_valueEnds v2).bind (fun q39 => (f_X8_writeValue q24.1 q24.2.1 q24.2.2 x_a1_values_size x_a1_values_row q34 q39).bind (fun q42 => (f_X1_addWord q42.1 q42.2.1 q42.2.2 13).bind (fun q51 => some (q51.1, q51.2.1, q51.2.2))))))))))
set_option maxHeartbeats 4000000 in
set_option maxRecDepth 100000 in
theorem fn_X8_writeAttribute (l : Launch) (G : Gc) (a_this : Nat) (a_policy : Nat) (a_target : Nat) (a_unended : Nat) (a_target_row : Nat) (a_a1 : Nat) (a_a1_codes : Nat) (a_a1_begins : Nat) (a_a1_ends : Nat) (a_a1_characters : Nat) (a_a1_attributeLetters : Nat) (a_a1_valueBegins : Nat) (a_a1_valueEnds : Nat) (a_a1_values : Nat) (a_a1_values_row : Nat) (x_unendedCount : Int32) (x_target_size : Int32) (x_target_overflowed : Int32) (x_target_row : Nat → Int32) (x_a1_count : Int32) (x_a1_attributeCount : Int32) (x_a1_attributeLetters : Nat → Int32) (x_a1_valueBegins : Nat → Int32) (x_a1_valueEnds : Nat → Int32) (x_a1_values_size : Int32) (x_a1_values_overflowed : Int32) (x_a1_values_row : Nat → Int32) (v2 : Int32)  {o : Int32 × Int32 × (Nat → Int32)} (h : f_X8_writeAttribute x_target_size x_target_overflowed x_target_row x_a1_attributeCount x_a1_attributeLetters x_a1_valueBegins x_a1_valueEnds x_a1_values_size x_a1_values_row v2 = some o) : ms_Fn l G yX8_writeAttribute cX8_writeAttribute 3 none rm_X8_writeAttribute [.ref a_this, .ref a_a1, .int v2] [ob_X8 a_this a_policy a_target a_unended x_unendedCount, ob_X1 a_target a_target_row x_target_size x_target_overflowed, (a_target_row, .inl (G.2.1 0, 200, .inl x_target_row)), ob_X7 a_a1 a_a1_codes a_a1_begins a_a1_ends x_a1_count a_a1_characters a_a1_attributeLetters a_a1_valueBegins a_a1_valueEnds x_a1_attributeCount a_a1_values, (a_a1_attributeLetters, .inl (G.2.1 1, 100, .inl x_a1_attributeLetters)), (a_a1_valueBegins, .inl (G.2.1 1, 100, .inl x_a1_valueBegins)), (a_a1_valueEnds, .inl (G.2.1 1, 100, .inl x_a1_valueEnds)), ob_X1 a_a1_values a_a1_values_row x_a1_values_size x_a1_values_overflowed, (a_a1_values_row, .inl (G.2.1 0, 200, .inl x_a1_values_row))] [ob_X8 a_this a_policy a_target a_unended x_unendedCount, ob_X1 a_target a_target_row o.1 o.2.1, (a_target_row, .inl (G.2.1 0, 200, .inl o.2.2)), ob_X7 a_a1 a_a1_codes a_a1_begins a_a1_ends x_a1_count a_a1_characters a_a1_attributeLetters a_a1_valueBegins a_a1_valueEnds x_a1_attributeCount a_a1_values, (a_a1_attributeLetters, .inl (G.2.1 1, 100, .inl x_a1_attributeLetters)), (a_a1_valueBegins, .inl (G.2.1 1, 100, .inl x_a1_valueBegins)), (a_a1_valueEnds, .inl (G.2.1 1, 100, .inl x_a1_valueEnds)), ob_X1 a_a1_values a_a1_values_row x_a1_values_size x_a1_values_overflowed, (a_a1_values_row, .inl (G.2.1 0, 200, .inl x_a1_values_row))] none := by
  refine ms_start RX8 (by decide +kernel) rfl (Nat.le_of_ble_eq_true rfl) (fun p e s m below meth c A ls hX hW hl => ?_)
  have hx := hX.1.1
  have hb := hX.1.2.1
  have hl : lv_has ls 3 [(0, .ref a_this), (1, .ref a_a1), (2, .int v2)] := hl
  unfold f_X8_writeAttribute at h
  refine lv_aload_n hx hb dX8_writeAttribute_0 rfl (lv_at hl 0 rfl) ?_
  refine ms_get ff_X8_15 hX hW 0 rfl rfl dX8_writeAttribute_1 ?_
  refine ms_ldcS hX (tx := " ") (i := 11) (List.mem_of_getElem? (i := 15) rfl) dX8_writeAttribute_4 ?_
  obtain ⟨q6, hq6, h⟩ := ms_bd h
  refine ms_callV (fn_X1_addWord l G a_target a_target_row x_target_size x_target_overflowed x_target_row 11 (by decide) hq6) wm_X1_addWord wv_X8_56 hX hW [1, 2] rfl rfl rfl rfl rfl ⟨Nat.le_of_ble_eq_true rfl, Nat.le_of_ble_eq_true rfl, rfl, rfl, Nat.zero_le _, Nat.zero_le _⟩ rfl hl.1 [] rfl (Nat.le_of_ble_eq_true rfl) dX8_writeAttribute_6 (fun H locs hW => ?_)
  have hW : ms_W G A s H locs [ob_X8 a_this a_policy a_target a_unended x_unendedCount, ob_X1 a_target a_target_row q6.1 q6.2.1, (a_target_row, .inl (G.2.1 0, 200, .inl q6.2.2)), ob_X7 a_a1 a_a1_codes a_a1_begins a_a1_ends x_a1_count a_a1_characters a_a1_attributeLetters a_a1_valueBegins a_a1_valueEnds x_a1_attributeCount a_a1_values, (a_a1_attributeLetters, .inl (G.2.1 1, 100, .inl x_a1_attributeLetters)), (a_a1_valueBegins, .inl (G.2.1 1, 100, .inl x_a1_valueBegins)), (a_a1_valueEnds, .inl (G.2.1 1, 100, .inl x_a1_valueEnds)), ob_X1 a_a1_values a_a1_values_row x_a1_values_size x_a1_values_overflowed, (a_a1_values_row, .inl (G.2.1 0, 200, .inl x_a1_values_row))] := hW
  refine W.eq (g2 := F0 m 9 ls []) rfl ?_
  refine lv_aload_n hx hb dX8_writeAttribute_9 rfl (lv_at hl 0 rfl) ?_
  refine lv_aload_n hx hb dX8_writeAttribute_10 rfl (lv_at hl 1 rfl) ?_
  refine lv_iload_n hx hb dX8_writeAttribute_11 rfl (lv_at hl 2 rfl) ?_
  obtain ⟨q12, hq12, h⟩ := ms_bd h
  refine ms_callV (fn_X7_letterOf l G a_a1 a_a1_codes a_a1_begins a_a1_ends a_a1_characters a_a1_attributeLetters a_a1_valueBegins a_a1_valueEnds a_a1_values x_a1_count x_a1_attributeCount x_a1_attributeLetters v2 hq12) wm_X7_letterOf wv_X8_110 hX hW [3, 4] rfl rfl rfl rfl rfl ⟨Nat.le_of_ble_eq_true rfl, Nat.le_of_ble_eq_true rfl, rfl, rfl, Nat.zero_le _, Nat.zero_le _⟩ rfl hl.1 [.ref a_this] rfl (Nat.le_of_ble_eq_true rfl) dX8_writeAttribute_12 (fun H locs hW => ?_)
  have hW : ms_W G A s H locs [ob_X8 a_this a_policy a_target a_unended x_unendedCount, ob_X1 a_target a_target_row q6.1 q6.2.1, (a_target_row, .inl (G.2.1 0, 200, .inl q6.2.2)), ob_X7 a_a1 a_a1_codes a_a1_begins a_a1_ends x_a1_count a_a1_characters a_a1_attributeLetters a_a1_valueBegins a_a1_valueEnds x_a1_attributeCount a_a1_values, (a_a1_attributeLetters, .inl (G.2.1 1, 100, .inl x_a1_attributeLetters)), (a_a1_valueBegins, .inl (G.2.1 1, 100, .inl x_a1_valueBegins)), (a_a1_valueEnds, .inl (G.2.1 1, 100, .inl x_a1_valueEnds)), ob_X1 a_a1_values a_a1_values_row x_a1_values_size x_a1_values_overflowed, (a_a1_values_row, .inl (G.2.1 0, 200, .inl x_a1_values_row))] := hW
  refine W.eq (g2 := F0 m 15 ls [.int q12, .ref a_this]) rfl ?_
  obtain ⟨q15, hq15, h⟩ := ms_bd h
  refine ms_callV (fn_X8_writeLetter l G a_this a_policy a_target a_unended a_target_row x_unendedCount q6.1 q6.2.1 q6.2.2 q12 hq15) wm_X8_writeLetter wv_X8_63 hX hW [0, 1, 2] rfl rfl rfl rfl rfl ⟨Nat.le_of_ble_eq_true rfl, Nat.le_of_ble_eq_true rfl, rfl, rfl, Nat.zero_le _, Nat.zero_le _⟩ rfl hl.1 [] rfl (Nat.le_of_ble_eq_true rfl) dX8_writeAttribute_15 (fun H locs hW => ?_)
  have hW : ms_W G A s H locs [ob_X8 a_this a_policy a_target a_unended x_unendedCount, ob_X1 a_target a_target_row q15.1 q15.2.1, (a_target_row, .inl (G.2.1 0, 200, .inl q15.2.2)), ob_X7 a_a1 a_a1_codes a_a1_begins a_a1_ends x_a1_count a_a1_characters a_a1_attributeLetters a_a1_valueBegins a_a1_valueEnds x_a1_attributeCount a_a1_values, (a_a1_attributeLetters, .inl (G.2.1 1, 100, .inl x_a1_attributeLetters)), (a_a1_valueBegins, .inl (G.2.1 1, 100, .inl x_a1_valueBegins)), (a_a1_valueEnds, .inl (G.2.1 1, 100, .inl x_a1_valueEnds)), ob_X1 a_a1_values a_a1_values_row x_a1_values_size x_a1_values_overflowed, (a_a1_values_row, .inl (G.2.1 0, 200, .inl x_a1_values_row))] := hW
  refine W.eq (g2 := F0 m 18 ls []) rfl ?_
  refine lv_aload_n hx hb dX8_writeAttribute_18 rfl (lv_at hl 0 rfl) ?_
  refine ms_get ff_X8_15 hX hW 0 rfl rfl dX8_writeAttribute_19 ?_
  refine ms_ldcS hX (tx := "=\"") (i := 12) (List.mem_of_getElem? (i := 16) rfl) dX8_writeAttribute_22 ?_
  obtain ⟨q24, hq24, h⟩ := ms_bd h
  refine ms_callV (fn_X1_addWord l G a_target a_target_row q15.1 q15.2.1 q15.2.2 12 (by decide) hq24) wm_X1_addWord wv_X8_56 hX hW [1, 2] rfl rfl rfl rfl rfl ⟨Nat.le_of_ble_eq_true rfl, Nat.le_of_ble_eq_true rfl, rfl, rfl, Nat.zero_le _, Nat.zero_le _⟩ rfl hl.1 [] rfl (Nat.le_of_ble_eq_true rfl) dX8_writeAttribute_24 (fun H locs hW => ?_)
  have hW : ms_W G A s H locs [ob_X8 a_this a_policy a_target a_unended x_unendedCount, ob_X1 a_target a_target_row q24.1 q24.2.1, (a_target_row, .inl (G.2.1 0, 200, .inl q24.2.2)), ob_X7 a_a1 a_a1_codes a_a1_begins a_a1_ends x_a1_count a_a1_characters a_a1_attributeLetters a_a1_valueBegins a_a1_valueEnds x_a1_attributeCount a_a1_values, (a_a1_attributeLetters, .inl (G.2.1 1, 100, .inl x_a1_attributeLetters)), (a_a1_valueBegins, .inl (G.2.1 1, 100, .inl x_a1_valueBegins)), (a_a1_valueEnds, .inl (G.2.1 1, 100, .inl x_a1_valueEnds)), ob_X1 a_a1_values a_a1_values_row x_a1_values_size x_a1_values_overflowed, (a_a1_values_row, .inl (G.2.1 0, 200, .inl x_a1_values_row))] := hW
  refine W.eq (g2 := F0 m 27 ls []) rfl ?_
  refine lv_aload_n hx hb dX8_writeAttribute_27 rfl (lv_at hl 0 rfl) ?_
  refine lv_aload_n hx hb dX8_writeAttribute_28 rfl (lv_at hl 1 rfl) ?_
  obtain ⟨q29, hq29, h⟩ := ms_bd h
  refine ms_callV (fn_X7_valueLine l G a_a1 a_a1_codes a_a1_begins a_a1_ends a_a1_characters a_a1_attributeLetters a_a1_valueBegins a_a1_valueEnds a_a1_values x_a1_count x_a1_attributeCount hq29) wm_X7_valueLine wv_X8_117 hX hW [3] rfl rfl rfl rfl rfl ⟨Nat.le_of_ble_eq_true rfl, Nat.le_of_ble_eq_true rfl, rfl, rfl, Nat.zero_le _, Nat.zero_le _⟩ rfl hl.1 [.ref a_this] rfl (Nat.le_of_ble_eq_true rfl) dX8_writeAttribute_29 (fun H locs hW => ?_)
  have hW : ms_W G A s H locs [ob_X8 a_this a_policy a_target a_unended x_unendedCount, ob_X1 a_target a_target_row q24.1 q24.2.1, (a_target_row, .inl (G.2.1 0, 200, .inl q24.2.2)), ob_X7 a_a1 a_a1_codes a_a1_begins a_a1_ends x_a1_count a_a1_characters a_a1_attributeLetters a_a1_valueBegins a_a1_valueEnds x_a1_attributeCount a_a1_values, (a_a1_attributeLetters, .inl (G.2.1 1, 100, .inl x_a1_attributeLetters)), (a_a1_valueBegins, .inl (G.2.1 1, 100, .inl x_a1_valueBegins)), (a_a1_valueEnds, .inl (G.2.1 1, 100, .inl x_a1_valueEnds)), ob_X1 a_a1_values a_a1_values_row x_a1_values_size x_a1_values_overflowed, (a_a1_values_row, .inl (G.2.1 0, 200, .inl x_a1_values_row))] := hW
  refine W.eq (g2 := F0 m 32 ls [.ref a_a1_values, .ref a_this]) rfl ?_
  refine lv_aload_n hx hb dX8_writeAttribute_32 rfl (lv_at hl 1 rfl) ?_
  refine lv_iload_n hx hb dX8_writeAttribute_33 rfl (lv_at hl 2 rfl) ?_
  obtain ⟨q34, hq34, h⟩ := ms_bd h
  refine ms_callV (fn_X7_valueBeginOf l G a_a1 a_a1_codes a_a1_begins a_a1_ends a_a1_characters a_a1_attributeLetters a_a1_valueBegins a_a1_valueEnds a_a1_values x_a1_count x_a1_attributeCount x_a1_valueBegins v2 hq34) wm_X7_valueBeginOf wv_X8_120 hX hW [3, 5] rfl rfl rfl rfl rfl ⟨Nat.le_of_ble_eq_true rfl, Nat.le_of_ble_eq_true rfl, rfl, rfl, Nat.zero_le _, Nat.zero_le _⟩ rfl hl.1 [.ref a_a1_values, .ref a_this] rfl (Nat.le_of_ble_eq_true rfl) dX8_writeAttribute_34 (fun H locs hW => ?_)
  have hW : ms_W G A s H locs [ob_X8 a_this a_policy a_target a_unended x_unendedCount, ob_X1 a_target a_target_row q24.1 q24.2.1, (a_target_row, .inl (G.2.1 0, 200, .inl q24.2.2)), ob_X7 a_a1 a_a1_codes a_a1_begins a_a1_ends x_a1_count a_a1_characters a_a1_attributeLetters a_a1_valueBegins a_a1_valueEnds x_a1_attributeCount a_a1_values, (a_a1_attributeLetters, .inl (G.2.1 1, 100, .inl x_a1_attributeLetters)), (a_a1_valueBegins, .inl (G.2.1 1, 100, .inl x_a1_valueBegins)), (a_a1_valueEnds, .inl (G.2.1 1, 100, .inl x_a1_valueEnds)), ob_X1 a_a1_values a_a1_values_row x_a1_values_size x_a1_values_overflowed, (a_a1_values_row, .inl (G.2.1 0, 200, .inl x_a1_values_row))] := hW
  refine W.eq (g2 := F0 m 37 ls [.int q34, .ref a_a1_values, .ref a_this]) rfl ?_
  refine lv_aload_n hx hb dX8_writeAttribute_37 rfl (lv_at hl 1 rfl) ?_
  refine lv_iload_n hx hb dX8_writeAttribute_38 rfl (lv_at hl 2 rfl) ?_
  obtain ⟨q39, hq39, h⟩ := ms_bd h
  refine ms_callV (fn_X7_valueEndOf l G a_a1 a_a1_codes a_a1_begins a_a1_ends a_a1_characters a_a1_attributeLetters a_a1_valueBegins a_a1_valueEnds a_a1_values x_a1_count x_a1_attributeCount x_a1_valueEnds v2 hq39) wm_X7_valueEndOf wv_X8_123 hX hW [3, 6] rfl rfl rfl rfl rfl ⟨Nat.le_of_ble_eq_true rfl, Nat.le_of_ble_eq_true rfl, rfl, rfl, Nat.zero_le _, Nat.zero_le _⟩ rfl hl.1 [.int q34, .ref a_a1_values, .ref a_this] rfl (Nat.le_of_ble_eq_true rfl) dX8_writeAttribute_39 (fun H locs hW => ?_)
  have hW : ms_W G A s H locs [ob_X8 a_this a_policy a_target a_unended x_unendedCount, ob_X1 a_target a_target_row q24.1 q24.2.1, (a_target_row, .inl (G.2.1 0, 200, .inl q24.2.2)), ob_X7 a_a1 a_a1_codes a_a1_begins a_a1_ends x_a1_count a_a1_characters a_a1_attributeLetters a_a1_valueBegins a_a1_valueEnds x_a1_attributeCount a_a1_values, (a_a1_attributeLetters, .inl (G.2.1 1, 100, .inl x_a1_attributeLetters)), (a_a1_valueBegins, .inl (G.2.1 1, 100, .inl x_a1_valueBegins)), (a_a1_valueEnds, .inl (G.2.1 1, 100, .inl x_a1_valueEnds)), ob_X1 a_a1_values a_a1_values_row x_a1_values_size x_a1_values_overflowed, (a_a1_values_row, .inl (G.2.1 0, 200, .inl x_a1_values_row))] := hW
  refine W.eq (g2 := F0 m 42 ls [.int q39, .int q34, .ref a_a1_values, .ref a_this]) rfl ?_
  obtain ⟨q42, hq42, h⟩ := ms_bd h
  refine ms_callV (fn_X8_writeValue l G a_this a_policy a_target a_unended a_target_row a_a1_values a_a1_values_row x_unendedCount q24.1 q24.2.1 q24.2.2 x_a1_values_size x_a1_values_overflowed x_a1_values_row q34 q39 hq42) wm_X8_writeValue wv_X8_134 hX hW [0, 1, 2, 7, 8] rfl rfl rfl rfl rfl ⟨Nat.le_of_ble_eq_true rfl, Nat.le_of_ble_eq_true rfl, rfl, rfl, Nat.zero_le _, Nat.zero_le _⟩ rfl hl.1 [] rfl (Nat.le_of_ble_eq_true rfl) dX8_writeAttribute_42 (fun H locs hW => ?_)
  have hW : ms_W G A s H locs [ob_X8 a_this a_policy a_target a_unended x_unendedCount, ob_X1 a_target a_target_row q42.1 q42.2.1, (a_target_row, .inl (G.2.1 0, 200, .inl q42.2.2)), ob_X7 a_a1 a_a1_codes a_a1_begins a_a1_ends x_a1_count a_a1_characters a_a1_attributeLetters a_a1_valueBegins a_a1_valueEnds x_a1_attributeCount a_a1_values, (a_a1_attributeLetters, .inl (G.2.1 1, 100, .inl x_a1_attributeLetters)), (a_a1_valueBegins, .inl (G.2.1 1, 100, .inl x_a1_valueBegins)), (a_a1_valueEnds, .inl (G.2.1 1, 100, .inl x_a1_valueEnds)), ob_X1 a_a1_values a_a1_values_row x_a1_values_size x_a1_values_overflowed, (a_a1_values_row, .inl (G.2.1 0, 200, .inl x_a1_values_row))] := hW
  refine W.eq (g2 := F0 m 45 ls []) rfl ?_
  refine lv_aload_n hx hb dX8_writeAttribute_45 rfl (lv_at hl 0 rfl) ?_
  refine ms_get ff_X8_15 hX hW 0 rfl rfl dX8_writeAttribute_46 ?_
  refine ms_ldcS hX (tx := "\"") (i := 13) (List.mem_of_getElem? (i := 18) rfl) dX8_writeAttribute_49 ?_
  obtain ⟨q51, hq51, h⟩ := ms_bd h
  refine ms_callV (fn_X1_addWord l G a_target a_target_row q42.1 q42.2.1 q42.2.2 13 (by decide) hq51) wm_X1_addWord wv_X8_56 hX hW [1, 2] rfl rfl rfl rfl rfl ⟨Nat.le_of_ble_eq_true rfl, Nat.le_of_ble_eq_true rfl, rfl, rfl, Nat.zero_le _, Nat.zero_le _⟩ rfl hl.1 [] rfl (Nat.le_of_ble_eq_true rfl) dX8_writeAttribute_51 (fun H locs hW => ?_)
  have hW : ms_W G A s H locs [ob_X8 a_this a_policy a_target a_unended x_unendedCount, ob_X1 a_target a_target_row q51.1 q51.2.1, (a_target_row, .inl (G.2.1 0, 200, .inl q51.2.2)), ob_X7 a_a1 a_a1_codes a_a1_begins a_a1_ends x_a1_count a_a1_characters a_a1_attributeLetters a_a1_valueBegins a_a1_valueEnds x_a1_attributeCount a_a1_values, (a_a1_attributeLetters, .inl (G.2.1 1, 100, .inl x_a1_attributeLetters)), (a_a1_valueBegins, .inl (G.2.1 1, 100, .inl x_a1_valueBegins)), (a_a1_valueEnds, .inl (G.2.1 1, 100, .inl x_a1_valueEnds)), ob_X1 a_a1_values a_a1_values_row x_a1_values_size x_a1_values_overflowed, (a_a1_values_row, .inl (G.2.1 0, 200, .inl x_a1_values_row))] := hW
  refine W.eq (g2 := F0 m 54 ls []) rfl ?_
  obtain rfl := Option.some.inj h
  exact ms_vret hX hW dX8_writeAttribute_54
def rm_X8_writeStart : Room := { frames := 7, cells := 0, slots := 0, locals := 154 }
def f_X8_writeStart_L90 (x_policy_schemeCount : Int32) (x_policy_attributes : Nat → Int32) (x_policy_schemes : Nat → Int64) (x_a1_count : Int32) (x_a1_attributeCount : Int32) (x_a1_codes : Nat → Int32) (x_a1_begins : Nat → Int32) (x_a1_ends : Nat → Int32) (x_a1_attributeLetters : Nat → Int32) (x_a1_valueBegins : Nat → Int32) (x_a1_valueEnds : Nat → Int32) (x_a1_values_size : Int32) (x_a1_values_row : Nat → Int32) (v2 : Int32) (x_unendedCount : Int32) (x_target_size : Int32) (x_target_overflowed : Int32) (x_target_row : Nat → Int32) (x_unended : Nat → Int32) (z0 : Int32) : Option (Int32 × Int32 × Int32 × (Nat → Int32) × (Nat → Int32)) := (if z0 = 0 then some (x_unendedCount, x_target_size, x_target_overflowed, x_target_row, x_unended) else (if 8 ≤ x_unendedCount then some (x_unendedCount, x_target_size, x_target_overflowed, x_target_row, x_unended) else ms_gi x_unendedCount 8 (some (x_unendedCount + 1, x_target_size, x_target_overflowed, x_target_row, upd x_unended x_unendedCount.toNatClampNeg v2))))
set_option maxHeartbeats 4000000 in
set_option maxRecDepth 100000 in
theorem wb_X8_writeStart_L90 {p : Program} {l : Launch} {e : Env} {s : State} {m : MethodId} {args : Array Value} {below : List Frame} {meth : Method} {c : Code} {G : Gc} {A : Nat → Prop} {H : Heap} {locs : List Loc} {ls : Array Slot} {a_this : Nat} {a_policy : Nat} {a_target : Nat} {a_unended : Nat} {a_policy_actions : Nat} {a_policy_attributes : Nat} {a_policy_schemes : Nat} {a_target_row : Nat} {a_a1 : Nat} {a_a1_codes : Nat} {a_a1_begins : Nat} {a_a1_ends : Nat} {a_a1_characters : Nat} {a_a1_attributeLetters : Nat} {a_a1_valueBegins : Nat} {a_a1_valueEnds : Nat} {a_a1_values : Nat} {a_a1_values_row : Nat} {x_policy_schemeCount : Int32} {x_policy_attributes : Nat → Int32} {x_policy_schemes : Nat → Int64} {x_a1_count : Int32} {x_a1_attributeCount : Int32} {x_a1_codes : Nat → Int32} {x_a1_begins : Nat → Int32} {x_a1_ends : Nat → Int32} {x_a1_attributeLetters : Nat → Int32} {x_a1_valueBegins : Nat → Int32} {x_a1_valueEnds : Nat → Int32} {x_a1_values_size : Int32} {x_a1_values_overflowed : Int32} {x_a1_values_row : Nat → Int32} {v2 : Int32} {x_unendedCount : Int32} {x_target_size : Int32} {x_target_overflowed : Int32} {x_target_row : Nat → Int32} {x_unended : Nat → Int32} {z0 : Int32} {o : Int32 × Int32 × Int32 × (Nat → Int32) × (Nat → Int32)} (hX : ms_CX p s m args meth c cX8_writeStart 5 RX8 none G A)   (h : f_X8_writeStart_L90 x_policy_schemeCount x_policy_attributes x_policy_schemes x_a1_count x_a1_attributeCount x_a1_codes x_a1_begins x_a1_ends x_a1_attributeLetters x_a1_valueBegins x_a1_valueEnds x_a1_values_size x_a1_values_row v2 x_unendedCount x_target_size x_target_overflowed x_target_row x_unended z0 = some o) (hW : ms_W G A s H locs [ob_X8 a_this a_policy a_target a_unended x_unendedCount, ob_X3 a_policy a_policy_actions a_policy_attributes a_policy_schemes x_policy_schemeCount, (a_policy_attributes, .inl (G.2.1 1, 27, .inl x_policy_attributes)), (a_policy_schemes, .inl (G.2.1 2, 4, .inr (.inl x_policy_schemes))), ob_X1 a_target a_target_row x_target_size x_target_overflowed, (a_target_row, .inl (G.2.1 0, 200, .inl x_target_row)), (a_unended, .inl (G.2.1 1, 8, .inl x_unended)), ob_X7 a_a1 a_a1_codes a_a1_begins a_a1_ends x_a1_count a_a1_characters a_a1_attributeLetters a_a1_valueBegins a_a1_valueEnds x_a1_attributeCount a_a1_values, (a_a1_codes, .inl (G.2.1 1, 200, .inl x_a1_codes)), (a_a1_begins, .inl (G.2.1 1, 200, .inl x_a1_begins)), (a_a1_ends, .inl (G.2.1 1, 200, .inl x_a1_ends)), (a_a1_attributeLetters, .inl (G.2.1 1, 100, .inl x_a1_attributeLetters)), (a_a1_valueBegins, .inl (G.2.1 1, 100, .inl x_a1_valueBegins)), (a_a1_valueEnds, .inl (G.2.1 1, 100, .inl x_a1_valueEnds)), ob_X1 a_a1_values a_a1_values_row x_a1_values_size x_a1_values_overflowed, (a_a1_values_row, .inl (G.2.1 0, 200, .inl x_a1_values_row))]) (hl : lv_has ls 5 [(0, .ref a_this), (2, .int v2)]) : W p l e rm_X8_writeStart s m args below meth c H locs 0 0 (ms_Q G A below args s [ob_X8 a_this a_policy a_target a_unended o.1, ob_X3 a_policy a_policy_actions a_policy_attributes a_policy_schemes x_policy_schemeCount, (a_policy_attributes, .inl (G.2.1 1, 27, .inl x_policy_attributes)), (a_policy_schemes, .inl (G.2.1 2, 4, .inr (.inl x_policy_schemes))), ob_X1 a_target a_target_row o.2.1 o.2.2.1, (a_target_row, .inl (G.2.1 0, 200, .inl o.2.2.2.1)), (a_unended, .inl (G.2.1 1, 8, .inl o.2.2.2.2)), ob_X7 a_a1 a_a1_codes a_a1_begins a_a1_ends x_a1_count a_a1_characters a_a1_attributeLetters a_a1_valueBegins a_a1_valueEnds x_a1_attributeCount a_a1_values, (a_a1_codes, .inl (G.2.1 1, 200, .inl x_a1_codes)), (a_a1_begins, .inl (G.2.1 1, 200, .inl x_a1_begins)), (a_a1_ends, .inl (G.2.1 1, 200, .inl x_a1_ends)), (a_a1_attributeLetters, .inl (G.2.1 1, 100, .inl x_a1_attributeLetters)), (a_a1_valueBegins, .inl (G.2.1 1, 100, .inl x_a1_valueBegins)), (a_a1_valueEnds, .inl (G.2.1 1, 100, .inl x_a1_valueEnds)), ob_X1 a_a1_values a_a1_values_row x_a1_values_size x_a1_values_overflowed, (a_a1_values_row, .inl (G.2.1 0, 200, .inl x_a1_values_row))] none) (F0 m 90 ls [.int z0]) := by
  have hx := hX.1.1
  have hb := hX.1.2.1
  unfold f_X8_writeStart_L90 at h
  refine lv_istore (lv' := [(4, .int z0), (0, .ref a_this), (2, .int v2)]) hx hb dX8_writeStart_90 hl (by decide) rfl (fun ls hl => ?_)
  refine lv_iload hx hb dX8_writeStart_92 (lv_at hl 0 rfl) ?_
  refine lv_if_eq (tgt := 126) hx hb dX8_writeStart_94 (by decide) (fun k => ?_) (fun k => ?_)
  · have h := ms_ifp h k
    obtain rfl := Option.some.inj h
    exact ms_vret hX hW dX8_writeStart_126
  · have h := ms_ifn h k
    refine lv_aload_n hx hb dX8_writeStart_97 rfl (lv_at hl 1 rfl) ?_
    refine ms_get ff_X8_23 hX hW 0 rfl rfl dX8_writeStart_98 ?_
    refine lv_bipush (v := 8) hx hb dX8_writeStart_101 (by decide) ?_
    refine lv_icmp_ge (tgt := 126) hx hb dX8_writeStart_103 (by decide) (fun k => ?_) (fun k => ?_)
    · have h := ms_ifp h k
      obtain rfl := Option.some.inj h
      exact ms_vret hX hW dX8_writeStart_126
    · have h := ms_ifn h k
      refine lv_aload_n hx hb dX8_writeStart_106 rfl (lv_at hl 1 rfl) ?_
      refine ms_get ff_X8_19 hX hW 0 rfl rfl dX8_writeStart_107 ?_
      refine lv_aload_n hx hb dX8_writeStart_110 rfl (lv_at hl 1 rfl) ?_
      refine ms_get ff_X8_23 hX hW 0 rfl rfl dX8_writeStart_111 ?_
      refine lv_iload_n hx hb dX8_writeStart_114 rfl (lv_at hl 2 rfl) ?_
      obtain ⟨k, h⟩ := ms_gi_some h
      refine ms_iast hX hW 6 rfl k dX8_writeStart_115 (fun H locs hW => ?_)
      have hW : ms_W G A s H locs [ob_X8 a_this a_policy a_target a_unended x_unendedCount, ob_X3 a_policy a_policy_actions a_policy_attributes a_policy_schemes x_policy_schemeCount, (a_policy_attributes, .inl (G.2.1 1, 27, .inl x_policy_attributes)), (a_policy_schemes, .inl (G.2.1 2, 4, .inr (.inl x_policy_schemes))), ob_X1 a_target a_target_row x_target_size x_target_overflowed, (a_target_row, .inl (G.2.1 0, 200, .inl x_target_row)), (a_unended, .inl (G.2.1 1, 8, .inl (upd x_unended x_unendedCount.toNatClampNeg v2))), ob_X7 a_a1 a_a1_codes a_a1_begins a_a1_ends x_a1_count a_a1_characters a_a1_attributeLetters a_a1_valueBegins a_a1_valueEnds x_a1_attributeCount a_a1_values, (a_a1_codes, .inl (G.2.1 1, 200, .inl x_a1_codes)), (a_a1_begins, .inl (G.2.1 1, 200, .inl x_a1_begins)), (a_a1_ends, .inl (G.2.1 1, 200, .inl x_a1_ends)), (a_a1_attributeLetters, .inl (G.2.1 1, 100, .inl x_a1_attributeLetters)), (a_a1_valueBegins, .inl (G.2.1 1, 100, .inl x_a1_valueBegins)), (a_a1_valueEnds, .inl (G.2.1 1, 100, .inl x_a1_valueEnds)), ob_X1 a_a1_values a_a1_values_row x_a1_values_size x_a1_values_overflowed, (a_a1_values_row, .inl (G.2.1 0, 200, .inl x_a1_values_row))] := hW
      refine lv_aload_n hx hb dX8_writeStart_116 rfl (lv_at hl 1 rfl) ?_
      refine lv_dup hx hb dX8_writeStart_117 rfl ?_
      refine ms_get ff_X8_23 hX hW 0 rfl rfl dX8_writeStart_118 ?_
      refine lv_iconst (v := 1) hx hb dX8_writeStart_121 (by decide) ?_
      refine lv_iadd hx hb dX8_writeStart_122 ?_
      refine ms_put ff_X8_23 fp_X8_3 rfl hX hW 0 rfl rfl rfl (Nat.le_of_ble_eq_true rfl) dX8_writeStart_123 (fun H locs hW => ?_)
      have hW : ms_W G A s H locs [ob_X8 a_this a_policy a_target a_unended (x_unendedCount + 1), ob_X3 a_policy a_policy_actions a_policy_attributes a_policy_schemes x_policy_schemeCount, (a_policy_attributes, .inl (G.2.1 1, 27, .inl x_policy_attributes)), (a_policy_schemes, .inl (G.2.1 2, 4, .inr (.inl x_policy_schemes))), ob_X1 a_target a_target_row x_target_size x_target_overflowed, (a_target_row, .inl (G.2.1 0, 200, .inl x_target_row)), (a_unended, .inl (G.2.1 1, 8, .inl (upd x_unended x_unendedCount.toNatClampNeg v2))), ob_X7 a_a1 a_a1_codes a_a1_begins a_a1_ends x_a1_count a_a1_characters a_a1_attributeLetters a_a1_valueBegins a_a1_valueEnds x_a1_attributeCount a_a1_values, (a_a1_codes, .inl (G.2.1 1, 200, .inl x_a1_codes)), (a_a1_begins, .inl (G.2.1 1, 200, .inl x_a1_begins)), (a_a1_ends, .inl (G.2.1 1, 200, .inl x_a1_ends)), (a_a1_attributeLetters, .inl (G.2.1 1, 100, .inl x_a1_attributeLetters)), (a_a1_valueBegins, .inl (G.2.1 1, 100, .inl x_a1_valueBegins)), (a_a1_valueEnds, .inl (G.2.1 1, 100, .inl x_a1_valueEnds)), ob_X1 a_a1_values a_a1_values_row x_a1_values_size x_a1_values_overflowed, (a_a1_values_row, .inl (G.2.1 0, 200, .inl x_a1_values_row))] := hW
      obtain rfl := Option.some.inj h
      exact ms_vret hX hW dX8_writeStart_126
def f_X8_writeStart_L85 (x_policy_schemeCount : Int32) (x_policy_attributes : Nat → Int32) (x_policy_schemes : Nat → Int64) (x_a1_count : Int32) (x_a1_attributeCount : Int32) (x_a1_codes : Nat → Int32) (x_a1_begins : Nat → Int32) (x_a1_ends : Nat → Int32) (x_a1_attributeLetters : Nat → Int32) (x_a1_valueBegins : Nat → Int32) (x_a1_valueEnds : Nat → Int32) (x_a1_values_size : Int32) (x_a1_values_row : Nat → Int32) (v2 : Int32) (x_unendedCount : Int32) (x_target_size : Int32) (x_target_overflowed : Int32) (x_target_row : Nat → Int32) (x_unended : Nat → Int32) : Option (Int32 × Int32 × Int32 × (Nat → Int32) × (Nat → Int32)) := f_X8_writeStart_L90 x_policy_schemeCount x_policy_attributes x_policy_schemes x_a1_count x_a1_attributeCount x_a1_codes x_a1_begins x_a1_ends x_a1_attributeLetters x_a1_valueBegins x_a1_valueEnds x_a1_values_size x_a1_values_row v2 x_unendedCount x_target_size x_target_overflowed x_target_row x_unended 1
set_option maxHeartbeats 4000000 in
set_option maxRecDepth 100000 in
theorem wb_X8_writeStart_L85 {p : Program} {l : Launch} {e : Env} {s : State} {m : MethodId} {args : Array Value} {below : List Frame} {meth : Method} {c : Code} {G : Gc} {A : Nat → Prop} {H : Heap} {locs : List Loc} {ls : Array Slot} {a_this : Nat} {a_policy : Nat} {a_target : Nat} {a_unended : Nat} {a_policy_actions : Nat} {a_policy_attributes : Nat} {a_policy_schemes : Nat} {a_target_row : Nat} {a_a1 : Nat} {a_a1_codes : Nat} {a_a1_begins : Nat} {a_a1_ends : Nat} {a_a1_characters : Nat} {a_a1_attributeLetters : Nat} {a_a1_valueBegins : Nat} {a_a1_valueEnds : Nat} {a_a1_values : Nat} {a_a1_values_row : Nat} {x_policy_schemeCount : Int32} {x_policy_attributes : Nat → Int32} {x_policy_schemes : Nat → Int64} {x_a1_count : Int32} {x_a1_attributeCount : Int32} {x_a1_codes : Nat → Int32} {x_a1_begins : Nat → Int32} {x_a1_ends : Nat → Int32} {x_a1_attributeLetters : Nat → Int32} {x_a1_valueBegins : Nat → Int32} {x_a1_valueEnds : Nat → Int32} {x_a1_values_size : Int32} {x_a1_values_overflowed : Int32} {x_a1_values_row : Nat → Int32} {v2 : Int32} {x_unendedCount : Int32} {x_target_size : Int32} {x_target_overflowed : Int32} {x_target_row : Nat → Int32} {x_unended : Nat → Int32} {o : Int32 × Int32 × Int32 × (Nat → Int32) × (Nat → Int32)} (hX : ms_CX p s m args meth c cX8_writeStart 5 RX8 none G A)   (h : f_X8_writeStart_L85 x_policy_schemeCount x_policy_attributes x_policy_schemes x_a1_count x_a1_attributeCount x_a1_codes x_a1_begins x_a1_ends x_a1_attributeLetters x_a1_valueBegins x_a1_valueEnds x_a1_values_size x_a1_values_row v2 x_unendedCount x_target_size x_target_overflowed x_target_row x_unended = some o) (hW : ms_W G A s H locs [ob_X8 a_this a_policy a_target a_unended x_unendedCount, ob_X3 a_policy a_policy_actions a_policy_attributes a_policy_schemes x_policy_schemeCount, (a_policy_attributes, .inl (G.2.1 1, 27, .inl x_policy_attributes)), (a_policy_schemes, .inl (G.2.1 2, 4, .inr (.inl x_policy_schemes))), ob_X1 a_target a_target_row x_target_size x_target_overflowed, (a_target_row, .inl (G.2.1 0, 200, .inl x_target_row)), (a_unended, .inl (G.2.1 1, 8, .inl x_unended)), ob_X7 a_a1 a_a1_codes a_a1_begins a_a1_ends x_a1_count a_a1_characters a_a1_attributeLetters a_a1_valueBegins a_a1_valueEnds x_a1_attributeCount a_a1_values, (a_a1_codes, .inl (G.2.1 1, 200, .inl x_a1_codes)), (a_a1_begins, .inl (G.2.1 1, 200, .inl x_a1_begins)), (a_a1_ends, .inl (G.2.1 1, 200, .inl x_a1_ends)), (a_a1_attributeLetters, .inl (G.2.1 1, 100, .inl x_a1_attributeLetters)), (a_a1_valueBegins, .inl (G.2.1 1, 100, .inl x_a1_valueBegins)), (a_a1_valueEnds, .inl (G.2.1 1, 100, .inl x_a1_valueEnds)), ob_X1 a_a1_values a_a1_values_row x_a1_values_size x_a1_values_overflowed, (a_a1_values_row, .inl (G.2.1 0, 200, .inl x_a1_values_row))]) (hl : lv_has ls 5 [(0, .ref a_this), (2, .int v2)]) : W p l e rm_X8_writeStart s m args below meth c H locs 0 0 (ms_Q G A below args s [ob_X8 a_this a_policy a_target a_unended o.1, ob_X3 a_policy a_policy_actions a_policy_attributes a_policy_schemes x_policy_schemeCount, (a_policy_attributes, .inl (G.2.1 1, 27, .inl x_policy_attributes)), (a_policy_schemes, .inl (G.2.1 2, 4, .inr (.inl x_policy_schemes))), ob_X1 a_target a_target_row o.2.1 o.2.2.1, (a_target_row, .inl (G.2.1 0, 200, .inl o.2.2.2.1)), (a_unended, .inl (G.2.1 1, 8, .inl o.2.2.2.2)), ob_X7 a_a1 a_a1_codes a_a1_begins a_a1_ends x_a1_count a_a1_characters a_a1_attributeLetters a_a1_valueBegins a_a1_valueEnds x_a1_attributeCount a_a1_values, (a_a1_codes, .inl (G.2.1 1, 200, .inl x_a1_codes)), (a_a1_begins, .inl (G.2.1 1, 200, .inl x_a1_begins)), (a_a1_ends, .inl (G.2.1 1, 200, .inl x_a1_ends)), (a_a1_attributeLetters, .inl (G.2.1 1, 100, .inl x_a1_attributeLetters)), (a_a1_valueBegins, .inl (G.2.1 1, 100, .inl x_a1_valueBegins)), (a_a1_valueEnds, .inl (G.2.1 1, 100, .inl x_a1_valueEnds)), ob_X1 a_a1_values a_a1_values_row x_a1_values_size x_a1_values_overflowed, (a_a1_values_row, .inl (G.2.1 0, 200, .inl x_a1_values_row))] none) (F0 m 85 ls []) := by
  have hx := hX.1.1
  have hb := hX.1.2.1
  unfold f_X8_writeStart_L85 at h
  refine lv_iconst (v := 1) hx hb dX8_writeStart_85 (by decide) ?_
  refine lv_goto (tgt := 90) hx hb dX8_writeStart_86 (by decide) ?_
  exact wb_X8_writeStart_L90 hX h hW (lv_sub hl [0, 1] rfl)
def f_X8_writeStart_L55 (x_policy_schemeCount : Int32) (x_policy_attributes : Nat → Int32) (x_policy_schemes : Nat → Int64) (x_a1_count : Int32) (x_a1_attributeCount : Int32) (x_a1_codes : Nat → Int32) (x_a1_begins : Nat → Int32) (x_a1_ends : Nat → Int32) (x_a1_attributeLetters : Nat → Int32) (x_a1_valueBegins : Nat → Int32) (x_a1_valueEnds : Nat → Int32) (x_a1_values_size : Int32) (x_a1_values_row : Nat → Int32) (v2 : Int32) (kk : Int32 → Int32 → Int32 → (Nat → Int32) → (Nat → Int32) → Int32 → Int32 → Option (Int32 × Int32 × Int32 × (Nat → Int32) × (Nat → Int32) × Int32)) (x_unendedCount : Int32) (x_target_size : Int32) (x_target_overflowed : Int32) (x_target_row : Nat → Int32) (x_unended : Nat → Int32) (v3 : Int32) (v4 : Int32) : Option (Int32 × Int32 × Int32 × (Nat → Int32) × (Nat → Int32) × Int32) := kk x_unendedCount x_target_size x_target_overflowed x_target_row x_unended v3 (v4 + 1)
set_option maxHeartbeats 4000000 in
set_option maxRecDepth 100000 in
theorem wb_X8_writeStart_L55 {p : Program} {l : Launch} {e : Env} {s : State} {m : MethodId} {args : Array Value} {below : List Frame} {meth : Method} {c : Code} {G : Gc} {A : Nat → Prop} {H : Heap} {locs : List Loc} {ls : Array Slot} {a_this : Nat} {a_policy : Nat} {a_target : Nat} {a_unended : Nat} {a_policy_actions : Nat} {a_policy_attributes : Nat} {a_policy_schemes : Nat} {a_target_row : Nat} {a_a1 : Nat} {a_a1_codes : Nat} {a_a1_begins : Nat} {a_a1_ends : Nat} {a_a1_characters : Nat} {a_a1_attributeLetters : Nat} {a_a1_valueBegins : Nat} {a_a1_valueEnds : Nat} {a_a1_values : Nat} {a_a1_values_row : Nat} {x_policy_schemeCount : Int32} {x_policy_attributes : Nat → Int32} {x_policy_schemes : Nat → Int64} {x_a1_count : Int32} {x_a1_attributeCount : Int32} {x_a1_codes : Nat → Int32} {x_a1_begins : Nat → Int32} {x_a1_ends : Nat → Int32} {x_a1_attributeLetters : Nat → Int32} {x_a1_valueBegins : Nat → Int32} {x_a1_valueEnds : Nat → Int32} {x_a1_values_size : Int32} {x_a1_values_overflowed : Int32} {x_a1_values_row : Nat → Int32} {v2 : Int32} {kk : Int32 → Int32 → Int32 → (Nat → Int32) → (Nat → Int32) → Int32 → Int32 → Option (Int32 × Int32 × Int32 × (Nat → Int32) × (Nat → Int32) × Int32)} {Q : State → Prop} {x_unendedCount : Int32} {x_target_size : Int32} {x_target_overflowed : Int32} {x_target_row : Nat → Int32} {x_unended : Nat → Int32} {v3 : Int32} {v4 : Int32} {o : Int32 × Int32 × Int32 × (Nat → Int32) × (Nat → Int32) × Int32} (hX : ms_CX p s m args meth c cX8_writeStart 5 RX8 none G A) (hq : ∀ (H : Heap) (locs : List Loc) (ls : Array Slot), ms_W G A s H locs [ob_X8 a_this a_policy a_target a_unended o.1, ob_X3 a_policy a_policy_actions a_policy_attributes a_policy_schemes x_policy_schemeCount, (a_policy_attributes, .inl (G.2.1 1, 27, .inl x_policy_attributes)), (a_policy_schemes, .inl (G.2.1 2, 4, .inr (.inl x_policy_schemes))), ob_X1 a_target a_target_row o.2.1 o.2.2.1, (a_target_row, .inl (G.2.1 0, 200, .inl o.2.2.2.1)), (a_unended, .inl (G.2.1 1, 8, .inl o.2.2.2.2.1)), ob_X7 a_a1 a_a1_codes a_a1_begins a_a1_ends x_a1_count a_a1_characters a_a1_attributeLetters a_a1_valueBegins a_a1_valueEnds x_a1_attributeCount a_a1_values, (a_a1_codes, .inl (G.2.1 1, 200, .inl x_a1_codes)), (a_a1_begins, .inl (G.2.1 1, 200, .inl x_a1_begins)), (a_a1_ends, .inl (G.2.1 1, 200, .inl x_a1_ends)), (a_a1_attributeLetters, .inl (G.2.1 1, 100, .inl x_a1_attributeLetters)), (a_a1_valueBegins, .inl (G.2.1 1, 100, .inl x_a1_valueBegins)), (a_a1_valueEnds, .inl (G.2.1 1, 100, .inl x_a1_valueEnds)), ob_X1 a_a1_values a_a1_values_row x_a1_values_size x_a1_values_overflowed, (a_a1_values_row, .inl (G.2.1 0, 200, .inl x_a1_values_row))] → lv_has ls 5 [(0, .ref a_this), (1, .ref a_a1), (2, .int v2), (3, .int o.2.2.2.2.2)] → W p l e rm_X8_writeStart s m args below meth c H locs 0 0 Q (F0 m 61 ls [])) (ih : ∀ (x_unendedCount : Int32) (x_target_size : Int32) (x_target_overflowed : Int32) (x_target_row : Nat → Int32) (x_unended : Nat → Int32) (v3 : Int32) (v4 : Int32) (H : Heap) (locs : List Loc) (ls : Array Slot), kk x_unendedCount x_target_size x_target_overflowed x_target_row x_unended v3 v4 = some o → ms_W G A s H locs [ob_X8 a_this a_policy a_target a_unended x_unendedCount, ob_X3 a_policy a_policy_actions a_policy_attributes a_policy_schemes x_policy_schemeCount, (a_policy_attributes, .inl (G.2.1 1, 27, .inl x_policy_attributes)), (a_policy_schemes, .inl (G.2.1 2, 4, .inr (.inl x_policy_schemes))), ob_X1 a_target a_target_row x_target_size x_target_overflowed, (a_target_row, .inl (G.2.1 0, 200, .inl x_target_row)), (a_unended, .inl (G.2.1 1, 8, .inl x_unended)), ob_X7 a_a1 a_a1_codes a_a1_begins a_a1_ends x_a1_count a_a1_characters a_a1_attributeLetters a_a1_valueBegins a_a1_valueEnds x_a1_attributeCount a_a1_values, (a_a1_codes, .inl (G.2.1 1, 200, .inl x_a1_codes)), (a_a1_begins, .inl (G.2.1 1, 200, .inl x_a1_begins)), (a_a1_ends, .inl (G.2.1 1, 200, .inl x_a1_ends)), (a_a1_attributeLetters, .inl (G.2.1 1, 100, .inl x_a1_attributeLetters)), (a_a1_valueBegins, .inl (G.2.1 1, 100, .inl x_a1_valueBegins)), (a_a1_valueEnds, .inl (G.2.1 1, 100, .inl x_a1_valueEnds)), ob_X1 a_a1_values a_a1_values_row x_a1_values_size x_a1_values_overflowed, (a_a1_values_row, .inl (G.2.1 0, 200, .inl x_a1_values_row))] → lv_has ls 5 [(0, .ref a_this), (1, .ref a_a1), (2, .int v2), (3, .int v3), (4, .int v4)] → W p l e rm_X8_writeStart s m args below meth c H locs 0 0 Q (F0 m 27 ls [])) (h : f_X8_writeStart_L55 x_policy_schemeCount x_policy_attributes x_policy_schemes x_a1_count x_a1_attributeCount x_a1_codes x_a1_begins x_a1_ends x_a1_attributeLetters x_a1_valueBegins x_a1_valueEnds x_a1_values_size x_a1_values_row v2 kk x_unendedCount x_target_size x_target_overflowed x_target_row x_unended v3 v4 = some o) (hW : ms_W G A s H locs [ob_X8 a_this a_policy a_target a_unended x_unendedCount, ob_X3 a_policy a_policy_actions a_policy_attributes a_policy_schemes x_policy_schemeCount, (a_policy_attributes, .inl (G.2.1 1, 27, .inl x_policy_attributes)), (a_policy_schemes, .inl (G.2.1 2, 4, .inr (.inl x_policy_schemes))), ob_X1 a_target a_target_row x_target_size x_target_overflowed, (a_target_row, .inl (G.2.1 0, 200, .inl x_target_row)), (a_unended, .inl (G.2.1 1, 8, .inl x_unended)), ob_X7 a_a1 a_a1_codes a_a1_begins a_a1_ends x_a1_count a_a1_characters a_a1_attributeLetters a_a1_valueBegins a_a1_valueEnds x_a1_attributeCount a_a1_values, (a_a1_codes, .inl (G.2.1 1, 200, .inl x_a1_codes)), (a_a1_begins, .inl (G.2.1 1, 200, .inl x_a1_begins)), (a_a1_ends, .inl (G.2.1 1, 200, .inl x_a1_ends)), (a_a1_attributeLetters, .inl (G.2.1 1, 100, .inl x_a1_attributeLetters)), (a_a1_valueBegins, .inl (G.2.1 1, 100, .inl x_a1_valueBegins)), (a_a1_valueEnds, .inl (G.2.1 1, 100, .inl x_a1_valueEnds)), ob_X1 a_a1_values a_a1_values_row x_a1_values_size x_a1_values_overflowed, (a_a1_values_row, .inl (G.2.1 0, 200, .inl x_a1_values_row))]) (hl : lv_has ls 5 [(0, .ref a_this), (1, .ref a_a1), (2, .int v2), (3, .int v3), (4, .int v4)]) : W p l e rm_X8_writeStart s m args below meth c H locs 0 0 Q (F0 m 55 ls []) := by
  have hx := hX.1.1
  have hb := hX.1.2.1
  unfold f_X8_writeStart_L55 at h
  refine lv_iinc (v := v4 + 1) (lv' := [(4, .int (v4 + 1)), (0, .ref a_this), (1, .ref a_a1), (2, .int v2), (3, .int v3)]) hx hb dX8_writeStart_55 hl (k := 4) rfl rfl (by decide) rfl (fun ls hl => ?_)
  refine lv_goto (tgt := 27) hx hb dX8_writeStart_58 (by decide) ?_
  exact ih _ _ _ _ _ _ _ _ _ _ h hW (lv_sub hl [1, 2, 3, 4, 0] rfl)
def f_X8_writeStart_L27 (x_policy_schemeCount : Int32) (x_policy_attributes : Nat → Int32) (x_policy_schemes : Nat → Int64) (x_a1_count : Int32) (x_a1_attributeCount : Int32) (x_a1_codes : Nat → Int32) (x_a1_begins : Nat → Int32) (x_a1_ends : Nat → Int32) (x_a1_attributeLetters : Nat → Int32) (x_a1_valueBegins : Nat → Int32) (x_a1_valueEnds : Nat → Int32) (x_a1_values_size : Int32) (x_a1_values_row : Nat → Int32) (v2 : Int32) : Nat → Int32 → Int32 → Int32 → (Nat → Int32) → (Nat → Int32) → Int32 → Int32 → Option (Int32 × Int32 × Int32 × (Nat → Int32) × (Nat → Int32) × Int32)
  | 0, _, _, _, _, _, _, _ => none
  | n + 1, x_unendedCount, x_target_size, x_target_overflowed, x_target_row, x_unended, v3, v4 => (f_X7_endOf x_a1_count x_a1_ends v2).bind (fun q31 => (if q31 ≤ v4 then some (x_unendedCount, x_target_size, x_target_overflowed, x_target_row, x_unended, v3) else (f_X8_allows x_policy_schemeCount x_policy_attributes x_policy_schemes x_a1_attributeCount x_a1_attributeLetters x_a1_valueBegins x_a1_valueEnds x_a1_values_size x_a1_values_row v3 v4).bind (fun q42 => (if q42 = 0 then f_X8_writeStart_L55 x_policy_schemeCount x_policy_attributes x_policy_schemes x_a1_count x_a1_attributeCount x_a1_codes x_a1_begins x_a1_ends x_a1_attributeLetters x_a1_valueBegins x_a1_valueEnds x_a1_values_size x_a1_values_row v2 (f_X8_writeStart_L27 x_policy_schemeCount x_policy_attributes x_policy_schemes x_a1_count x_a1_attributeCount x_a1_codes x_a1_begins x_a1_ends x_a1_attributeLetters x_a1_valueBegins x_a1_valueEnds x_a1_values_size x_a1_values_row v2 n) x_unendedCount x_target_size x_target_overflowed x_target_row x_unended v3 v4 else (f_X8_writeAttribute x_target_size x_target_overflowed x_target_row x_a1_attributeCount x_a1_attributeLetters x_a1_valueBegins x_a1_valueEnds x_a1_values_size x_a1_values_row v4).bind (fun q52 => f_X8_writeStart_L55 x_policy_schemeCount x_policy_attributes x_policy_schemes x_a1_count x_a1_attributeCount x_a1_codes x_a1_begins x_a1_ends x_a1_attributeLetters x_a1_valueBegins x_a1_valueEnds x_a1_values_size x_a1_values_row v2 (f_X8_writeStart_L27 x_policy_schemeCount x_policy_attributes x_policy_schemes x_a1_count x_a1_attributeCount x_a1_codes x_a1_begins x_a1_ends x_a1_attributeLetters x_a1_valueBegins x_a1_valueEnds x_a1_values_size x_a1_values_row v2 n) x_unendedCount q52.1 q52.2.1 q52.2.2 x_unended v3 v4)))))
set_option maxHeartbeats 4000000 in
set_option maxRecDepth 100000 in
theorem wb_X8_writeStart_L27 {p : Program} {l : Launch} {e : Env} {s : State} {m : MethodId} {args : Array Value} {below : List Frame} {meth : Method} {c : Code} {G : Gc} {A : Nat → Prop} {a_this : Nat} {a_policy : Nat} {a_target : Nat} {a_unended : Nat} {a_policy_actions : Nat} {a_policy_attributes : Nat} {a_policy_schemes : Nat} {a_target_row : Nat} {a_a1 : Nat} {a_a1_codes : Nat} {a_a1_begins : Nat} {a_a1_ends : Nat} {a_a1_characters : Nat} {a_a1_attributeLetters : Nat} {a_a1_valueBegins : Nat} {a_a1_valueEnds : Nat} {a_a1_values : Nat} {a_a1_values_row : Nat} {x_policy_schemeCount : Int32} {x_policy_attributes : Nat → Int32} {x_policy_schemes : Nat → Int64} {x_a1_count : Int32} {x_a1_attributeCount : Int32} {x_a1_codes : Nat → Int32} {x_a1_begins : Nat → Int32} {x_a1_ends : Nat → Int32} {x_a1_attributeLetters : Nat → Int32} {x_a1_valueBegins : Nat → Int32} {x_a1_valueEnds : Nat → Int32} {x_a1_values_size : Int32} {x_a1_values_overflowed : Int32} {x_a1_values_row : Nat → Int32} {v2 : Int32} {Q : State → Prop} {o : Int32 × Int32 × Int32 × (Nat → Int32) × (Nat → Int32) × Int32} (hX : ms_CX p s m args meth c cX8_writeStart 5 RX8 none G A) (hq : ∀ (H : Heap) (locs : List Loc) (ls : Array Slot), ms_W G A s H locs [ob_X8 a_this a_policy a_target a_unended o.1, ob_X3 a_policy a_policy_actions a_policy_attributes a_policy_schemes x_policy_schemeCount, (a_policy_attributes, .inl (G.2.1 1, 27, .inl x_policy_attributes)), (a_policy_schemes, .inl (G.2.1 2, 4, .inr (.inl x_policy_schemes))), ob_X1 a_target a_target_row o.2.1 o.2.2.1, (a_target_row, .inl (G.2.1 0, 200, .inl o.2.2.2.1)), (a_unended, .inl (G.2.1 1, 8, .inl o.2.2.2.2.1)), ob_X7 a_a1 a_a1_codes a_a1_begins a_a1_ends x_a1_count a_a1_characters a_a1_attributeLetters a_a1_valueBegins a_a1_valueEnds x_a1_attributeCount a_a1_values, (a_a1_codes, .inl (G.2.1 1, 200, .inl x_a1_codes)), (a_a1_begins, .inl (G.2.1 1, 200, .inl x_a1_begins)), (a_a1_ends, .inl (G.2.1 1, 200, .inl x_a1_ends)), (a_a1_attributeLetters, .inl (G.2.1 1, 100, .inl x_a1_attributeLetters)), (a_a1_valueBegins, .inl (G.2.1 1, 100, .inl x_a1_valueBegins)), (a_a1_valueEnds, .inl (G.2.1 1, 100, .inl x_a1_valueEnds)), ob_X1 a_a1_values a_a1_values_row x_a1_values_size x_a1_values_overflowed, (a_a1_values_row, .inl (G.2.1 0, 200, .inl x_a1_values_row))] → lv_has ls 5 [(0, .ref a_this), (1, .ref a_a1), (2, .int v2), (3, .int o.2.2.2.2.2)] → W p l e rm_X8_writeStart s m args below meth c H locs 0 0 Q (F0 m 61 ls [])) : ∀ (n : Nat) (x_unendedCount : Int32) (x_target_size : Int32) (x_target_overflowed : Int32) (x_target_row : Nat → Int32) (x_unended : Nat → Int32) (v3 : Int32) (v4 : Int32) (H : Heap) (locs : List Loc) (ls : Array Slot), f_X8_writeStart_L27 x_policy_schemeCount x_policy_attributes x_policy_schemes x_a1_count x_a1_attributeCount x_a1_codes x_a1_begins x_a1_ends x_a1_attributeLetters x_a1_valueBegins x_a1_valueEnds x_a1_values_size x_a1_values_row v2 n x_unendedCount x_target_size x_target_overflowed x_target_row x_unended v3 v4 = some o → ms_W G A s H locs [ob_X8 a_this a_policy a_target a_unended x_unendedCount, ob_X3 a_policy a_policy_actions a_policy_attributes a_policy_schemes x_policy_schemeCount, (a_policy_attributes, .inl (G.2.1 1, 27, .inl x_policy_attributes)), (a_policy_schemes, .inl (G.2.1 2, 4, .inr (.inl x_policy_schemes))), ob_X1 a_target a_target_row x_target_size x_target_overflowed, (a_target_row, .inl (G.2.1 0, 200, .inl x_target_row)), (a_unended, .inl (G.2.1 1, 8, .inl x_unended)), ob_X7 a_a1 a_a1_codes a_a1_begins a_a1_ends x_a1_count a_a1_characters a_a1_attributeLetters a_a1_valueBegins a_a1_valueEnds x_a1_attributeCount a_a1_values, (a_a1_codes, .inl (G.2.1 1, 200, .inl x_a1_codes)), (a_a1_begins, .inl (G.2.1 1, 200, .inl x_a1_begins)), (a_a1_ends, .inl (G.2.1 1, 200, .inl x_a1_ends)), (a_a1_attributeLetters, .inl (G.2.1 1, 100, .inl x_a1_attributeLetters)), (a_a1_valueBegins, .inl (G.2.1 1, 100, .inl x_a1_valueBegins)), (a_a1_valueEnds, .inl (G.2.1 1, 100, .inl x_a1_valueEnds)), ob_X1 a_a1_values a_a1_values_row x_a1_values_size x_a1_values_overflowed, (a_a1_values_row, .inl (G.2.1 0, 200, .inl x_a1_values_row))] → lv_has ls 5 [(0, .ref a_this), (1, .ref a_a1), (2, .int v2), (3, .int v3), (4, .int v4)] → W p l e rm_X8_writeStart s m args below meth c H locs 0 0 Q (F0 m 27 ls []) := by
  have hx := hX.1.1
  have hb := hX.1.2.1
  intro n
  induction n with
  | zero => intro x_unendedCount x_target_size x_target_overflowed x_target_row x_unended v3 v4 H locs ls h; rw [f_X8_writeStart_L27] at h; cases h
  | succ n ih =>
    intro x_unendedCount x_target_size x_target_overflowed x_target_row x_unended v3 v4 H locs ls h hW hl
    rw [f_X8_writeStart_L27] at h
    refine lv_iload hx hb dX8_writeStart_27 (lv_at hl 4 rfl) ?_
    refine lv_aload_n hx hb dX8_writeStart_29 rfl (lv_at hl 1 rfl) ?_
    refine lv_iload_n hx hb dX8_writeStart_30 rfl (lv_at hl 2 rfl) ?_
    obtain ⟨q31, hq31, h⟩ := ms_bd h
    refine ms_callV (fn_X7_endOf l G a_a1 a_a1_codes a_a1_begins a_a1_ends a_a1_characters a_a1_attributeLetters a_a1_valueBegins a_a1_valueEnds a_a1_values x_a1_count x_a1_attributeCount x_a1_ends v2 hq31) wm_X7_endOf wv_X8_79 hX hW [7, 10] rfl rfl rfl rfl rfl ⟨Nat.le_of_ble_eq_true rfl, Nat.le_of_ble_eq_true rfl, rfl, rfl, Nat.zero_le _, Nat.zero_le _⟩ rfl hl.1 [.int v4] rfl (Nat.le_of_ble_eq_true rfl) dX8_writeStart_31 (fun H locs hW => ?_)
    have hW : ms_W G A s H locs [ob_X8 a_this a_policy a_target a_unended x_unendedCount, ob_X3 a_policy a_policy_actions a_policy_attributes a_policy_schemes x_policy_schemeCount, (a_policy_attributes, .inl (G.2.1 1, 27, .inl x_policy_attributes)), (a_policy_schemes, .inl (G.2.1 2, 4, .inr (.inl x_policy_schemes))), ob_X1 a_target a_target_row x_target_size x_target_overflowed, (a_target_row, .inl (G.2.1 0, 200, .inl x_target_row)), (a_unended, .inl (G.2.1 1, 8, .inl x_unended)), ob_X7 a_a1 a_a1_codes a_a1_begins a_a1_ends x_a1_count a_a1_characters a_a1_attributeLetters a_a1_valueBegins a_a1_valueEnds x_a1_attributeCount a_a1_values, (a_a1_codes, .inl (G.2.1 1, 200, .inl x_a1_codes)), (a_a1_begins, .inl (G.2.1 1, 200, .inl x_a1_begins)), (a_a1_ends, .inl (G.2.1 1, 200, .inl x_a1_ends)), (a_a1_attributeLetters, .inl (G.2.1 1, 100, .inl x_a1_attributeLetters)), (a_a1_valueBegins, .inl (G.2.1 1, 100, .inl x_a1_valueBegins)), (a_a1_valueEnds, .inl (G.2.1 1, 100, .inl x_a1_valueEnds)), ob_X1 a_a1_values a_a1_values_row x_a1_values_size x_a1_values_overflowed, (a_a1_values_row, .inl (G.2.1 0, 200, .inl x_a1_values_row))] := hW
    refine W.eq (g2 := F0 m 34 ls [.int q31, .int v4]) rfl ?_
    refine lv_icmp_ge (tgt := 61) hx hb dX8_writeStart_34 (by decide) (fun k => ?_) (fun k => ?_)
    · have h := ms_ifp h k
      obtain rfl := Option.some.inj h
      exact hq _ _ _ hW (lv_sub hl [0, 1, 2, 3] rfl)
    · have h := ms_ifn h k
      refine lv_aload_n hx hb dX8_writeStart_37 rfl (lv_at hl 0 rfl) ?_
      refine lv_aload_n hx hb dX8_writeStart_38 rfl (lv_at hl 1 rfl) ?_
      refine lv_iload_n hx hb dX8_writeStart_39 rfl (lv_at hl 3 rfl) ?_
      refine lv_iload hx hb dX8_writeStart_40 (lv_at hl 4 rfl) ?_
      obtain ⟨q42, hq42, h⟩ := ms_bd h
      refine ms_callV (fn_X8_allows l G a_this a_policy a_target a_unended a_policy_actions a_policy_attributes a_policy_schemes a_a1 a_a1_codes a_a1_begins a_a1_ends a_a1_characters a_a1_attributeLetters a_a1_valueBegins a_a1_valueEnds a_a1_values a_a1_values_row x_unendedCount x_policy_schemeCount x_policy_attributes x_policy_schemes x_a1_count x_a1_attributeCount x_a1_attributeLetters x_a1_valueBegins x_a1_valueEnds x_a1_values_size x_a1_values_overflowed x_a1_values_row v3 v4 hq42) wm_X8_allows wv_X8_96 hX hW [0, 1, 2, 3, 7, 11, 12, 13, 14, 15] rfl rfl rfl rfl rfl ⟨Nat.le_of_ble_eq_true rfl, Nat.le_of_ble_eq_true rfl, rfl, rfl, Nat.zero_le _, Nat.zero_le _⟩ rfl hl.1 [] rfl (Nat.le_of_ble_eq_true rfl) dX8_writeStart_42 (fun H locs hW => ?_)
      have hW : ms_W G A s H locs [ob_X8 a_this a_policy a_target a_unended x_unendedCount, ob_X3 a_policy a_policy_actions a_policy_attributes a_policy_schemes x_policy_schemeCount, (a_policy_attributes, .inl (G.2.1 1, 27, .inl x_policy_attributes)), (a_policy_schemes, .inl (G.2.1 2, 4, .inr (.inl x_policy_schemes))), ob_X1 a_target a_target_row x_target_size x_target_overflowed, (a_target_row, .inl (G.2.1 0, 200, .inl x_target_row)), (a_unended, .inl (G.2.1 1, 8, .inl x_unended)), ob_X7 a_a1 a_a1_codes a_a1_begins a_a1_ends x_a1_count a_a1_characters a_a1_attributeLetters a_a1_valueBegins a_a1_valueEnds x_a1_attributeCount a_a1_values, (a_a1_codes, .inl (G.2.1 1, 200, .inl x_a1_codes)), (a_a1_begins, .inl (G.2.1 1, 200, .inl x_a1_begins)), (a_a1_ends, .inl (G.2.1 1, 200, .inl x_a1_ends)), (a_a1_attributeLetters, .inl (G.2.1 1, 100, .inl x_a1_attributeLetters)), (a_a1_valueBegins, .inl (G.2.1 1, 100, .inl x_a1_valueBegins)), (a_a1_valueEnds, .inl (G.2.1 1, 100, .inl x_a1_valueEnds)), ob_X1 a_a1_values a_a1_values_row x_a1_values_size x_a1_values_overflowed, (a_a1_values_row, .inl (G.2.1 0, 200, .inl x_a1_values_row))] := hW
      refine W.eq (g2 := F0 m 45 ls [.int q42]) rfl ?_
      refine lv_if_eq (tgt := 55) hx hb dX8_writeStart_45 (by decide) (fun k => ?_) (fun k => ?_)
      · have h := ms_ifp h k
        exact wb_X8_writeStart_L55 hX hq (ih) h hW (lv_sub hl [0, 1, 2, 3, 4] rfl)
      · have h := ms_ifn h k
        refine lv_aload_n hx hb dX8_writeStart_48 rfl (lv_at hl 0 rfl) ?_
        refine lv_aload_n hx hb dX8_writeStart_49 rfl (lv_at hl 1 rfl) ?_
        refine lv_iload hx hb dX8_writeStart_50 (lv_at hl 4 rfl) ?_
        obtain ⟨q52, hq52, h⟩ := ms_bd h
        refine ms_callV (fn_X8_writeAttribute l G a_this a_policy a_target a_unended a_target_row a_a1 a_a1_codes a_a1_begins a_a1_ends a_a1_characters a_a1_attributeLetters a_a1_valueBegins a_a1_valueEnds a_a1_values a_a1_values_row x_unendedCount x_target_size x_target_overflowed x_target_row x_a1_count x_a1_attributeCount x_a1_attributeLetters x_a1_valueBegins x_a1_valueEnds x_a1_values_size x_a1_values_overflowed x_a1_values_row v4 hq52) wm_X8_writeAttribute wv_X8_100 hX hW [0, 4, 5, 7, 11, 12, 13, 14, 15] rfl rfl rfl rfl rfl ⟨Nat.le_of_ble_eq_true rfl, Nat.le_of_ble_eq_true rfl, rfl, rfl, Nat.zero_le _, Nat.zero_le _⟩ rfl hl.1 [] rfl (Nat.le_of_ble_eq_true rfl) dX8_writeStart_52 (fun H locs hW => ?_)
        have hW : ms_W G A s H locs [ob_X8 a_this a_policy a_target a_unended x_unendedCount, ob_X3 a_policy a_policy_actions a_policy_attributes a_policy_schemes x_policy_schemeCount, (a_policy_attributes, .inl (G.2.1 1, 27, .inl x_policy_attributes)), (a_policy_schemes, .inl (G.2.1 2, 4, .inr (.inl x_policy_schemes))), ob_X1 a_target a_target_row q52.1 q52.2.1, (a_target_row, .inl (G.2.1 0, 200, .inl q52.2.2)), (a_unended, .inl (G.2.1 1, 8, .inl x_unended)), ob_X7 a_a1 a_a1_codes a_a1_begins a_a1_ends x_a1_count a_a1_characters a_a1_attributeLetters a_a1_valueBegins a_a1_valueEnds x_a1_attributeCount a_a1_values, (a_a1_codes, .inl (G.2.1 1, 200, .inl x_a1_codes)), (a_a1_begins, .inl (G.2.1 1, 200, .inl x_a1_begins)), (a_a1_ends, .inl (G.2.1 1, 200, .inl x_a1_ends)), (a_a1_attributeLetters, .inl (G.2.1 1, 100, .inl x_a1_attributeLetters)), (a_a1_valueBegins, .inl (G.2.1 1, 100, .inl x_a1_valueBegins)), (a_a1_valueEnds, .inl (G.2.1 1, 100, .inl x_a1_valueEnds)), ob_X1 a_a1_values a_a1_values_row x_a1_values_size x_a1_values_overflowed, (a_a1_values_row, .inl (G.2.1 0, 200, .inl x_a1_values_row))] := hW
        refine W.eq (g2 := F0 m 55 ls []) rfl ?_
        exact wb_X8_writeStart_L55 hX hq (ih) h hW (lv_sub hl [0, 1, 2, 3, 4] rfl)
def f_X8_writeStart (x_unendedCount : Int32) (x_policy_schemeCount : Int32) (x_policy_attributes : Nat → Int32) (x_policy_schemes : Nat → Int64) (x_target_size : Int32) (x_target_overflowed : Int32) (x_target_row : Nat → Int32) (x_unended : Nat → Int32) (x_a1_count : Int32) (x_a1_attributeCount : Int32) (x_a1_codes : Nat → Int32) (x_a1_begins : Nat → Int32) (x_a1_ends : Nat → Int32) (x_a1_attributeLetters : Nat → Int32) (x_a1_valueBegins : Nat → Int32) (x_a1_valueEnds : Nat → Int32) (x_a1_values_size : Int32) (x_a1_values_row : Nat → Int32) (v2 : Int32) : Option (Int32 × Int32 × Int32 × (Nat → Int32) × (Nat → Int32)) := (f_X7_nameOf x_a1_count x_a1_codes v2).bind (fun q2 => (f_X1_addWord x_target_size x_target_overflowed x_target_row 10).bind (fun q12 => (f_X8_writeLetter q12.1 q12.2.1 q12.2.2 q2).bind (fun q17 => (f_X7_beginOf x_a1_count x_a1_begins v2).bind (fun q22 => (f_X8_writeStart_L27 x_policy_schemeCount x_policy_attributes x_policy_schemes x_a1_count x_a1_attributeCount x_a1_codes x_a1_begins x_a1_ends x_a1_attributeLetters x_a1_valueBegins x_a1_valueEnds x_a1_values_size x_a1_values_row v2 1000 x_unendedCount q17.1 q17.2.1 q17.2.2 x_unended q2 q22).bind (fun w27 => (f_X1_addWord w27.2.1 w27.2.2.1 w27.2.2.2.1 8).bind (fun q67 => (f_X7_isForeign x_a1_count x_a1_codes v2).bind (fun q72 => (if q72 = 0 then (f_X9_isEmptyName w27.2.2.2.2.2).bind (fun q79 => (if q79 = 0 then f_X8_writeStart_L85 x_policy_schemeCount x_policy_attributes x_policy_schemes x_a1_count x_a1_attributeCount x_a1_codes x_a1_begins x_a1_ends x_a1_attributeLetters x_a1_valueBegins x_a1_valueEnds x_a1_values_size x_a1_values_row v2 w27.1 q67.1 q67.2.1 q67.2.2 w27.2.2.2.2.1 else f_X8_writeStart_L90 x_policy_schemeCount x_policy_attributes x_policy_schemes x_a1_count x_a1_attributeCount x_a1_codes x_a1_begins x_a1_ends x_a1_attributeLetters x_a1_valueBegins x_a1_valueEnds x_a1_values_size x_a1_values_row v2 w27.1 q67.1 q67.2.1 q67.2.2 w27.2.2.2.2.1 0)) else f_X8_writeStart_L85 x_policy_schemeCount x_policy_attributes x_policy_schemes x_a1_count x_a1_attributeCount x_a1_codes x_a1_begins x_a1_ends x_a1_attributeLetters x_a1_valueBegins x_a1_valueEnds x_a1_values_size x_a1_values_row v2 w27.1 q67.1 q67.2.1 q67.2.2 w27.2.2.2.2.1))))))))
set_option maxHeartbeats 4000000 in
set_option maxRecDepth 100000 in
theorem fn_X8_writeStart (l : Launch) (G : Gc) (a_this : Nat) (a_policy : Nat) (a_target : Nat) (a_unended : Nat) (a_policy_actions : Nat) (a_policy_attributes : Nat) (a_policy_schemes : Nat) (a_target_row : Nat) (a_a1 : Nat) (a_a1_codes : Nat) (a_a1_begins : Nat) (a_a1_ends : Nat) (a_a1_characters : Nat) (a_a1_attributeLetters : Nat) (a_a1_valueBegins : Nat) (a_a1_valueEnds : Nat) (a_a1_values : Nat) (a_a1_values_row : Nat) (x_unendedCount : Int32) (x_policy_schemeCount : Int32) (x_policy_attributes : Nat → Int32) (x_policy_schemes : Nat → Int64) (x_target_size : Int32) (x_target_overflowed : Int32) (x_target_row : Nat → Int32) (x_unended : Nat → Int32) (x_a1_count : Int32) (x_a1_attributeCount : Int32) (x_a1_codes : Nat → Int32) (x_a1_begins : Nat → Int32) (x_a1_ends : Nat → Int32) (x_a1_attributeLetters : Nat → Int32) (x_a1_valueBegins : Nat → Int32) (x_a1_valueEnds : Nat → Int32) (x_a1_values_size : Int32) (x_a1_values_overflowed : Int32) (x_a1_values_row : Nat → Int32) (v2 : Int32)  {o : Int32 × Int32 × Int32 × (Nat → Int32) × (Nat → Int32)} (h : f_X8_writeStart x_unendedCount x_policy_schemeCount x_policy_attributes x_policy_schemes x_target_size x_target_overflowed x_target_row x_unended x_a1_count x_a1_attributeCount x_a1_codes x_a1_begins x_a1_ends x_a1_attributeLetters x_a1_valueBegins x_a1_valueEnds x_a1_values_size x_a1_values_row v2 = some o) : ms_Fn l G yX8_writeStart cX8_writeStart 5 none rm_X8_writeStart [.ref a_this, .ref a_a1, .int v2] [ob_X8 a_this a_policy a_target a_unended x_unendedCount, ob_X3 a_policy a_policy_actions a_policy_attributes a_policy_schemes x_policy_schemeCount, (a_policy_attributes, .inl (G.2.1 1, 27, .inl x_policy_attributes)), (a_policy_schemes, .inl (G.2.1 2, 4, .inr (.inl x_policy_schemes))), ob_X1 a_target a_target_row x_target_size x_target_overflowed, (a_target_row, .inl (G.2.1 0, 200, .inl x_target_row)), (a_unended, .inl (G.2.1 1, 8, .inl x_unended)), ob_X7 a_a1 a_a1_codes a_a1_begins a_a1_ends x_a1_count a_a1_characters a_a1_attributeLetters a_a1_valueBegins a_a1_valueEnds x_a1_attributeCount a_a1_values, (a_a1_codes, .inl (G.2.1 1, 200, .inl x_a1_codes)), (a_a1_begins, .inl (G.2.1 1, 200, .inl x_a1_begins)), (a_a1_ends, .inl (G.2.1 1, 200, .inl x_a1_ends)), (a_a1_attributeLetters, .inl (G.2.1 1, 100, .inl x_a1_attributeLetters)), (a_a1_valueBegins, .inl (G.2.1 1, 100, .inl x_a1_valueBegins)), (a_a1_valueEnds, .inl (G.2.1 1, 100, .inl x_a1_valueEnds)), ob_X1 a_a1_values a_a1_values_row x_a1_values_size x_a1_values_overflowed, (a_a1_values_row, .inl (G.2.1 0, 200, .inl x_a1_values_row))] [ob_X8 a_this a_policy a_target a_unended o.1, ob_X3 a_policy a_policy_actions a_policy_attributes a_policy_schemes x_policy_schemeCount, (a_policy_attributes, .inl (G.2.1 1, 27, .inl x_policy_attributes)), (a_policy_schemes, .inl (G.2.1 2, 4, .inr (.inl x_policy_schemes))), ob_X1 a_target a_target_row o.2.1 o.2.2.1, (a_target_row, .inl (G.2.1 0, 200, .inl o.2.2.2.1)), (a_unended, .inl (G.2.1 1, 8, .inl o.2.2.2.2)), ob_X7 a_a1 a_a1_codes a_a1_begins a_a1_ends x_a1_count a_a1_characters a_a1_attributeLetters a_a1_valueBegins a_a1_valueEnds x_a1_attributeCount a_a1_values, (a_a1_codes, .inl (G.2.1 1, 200, .inl x_a1_codes)), (a_a1_begins, .inl (G.2.1 1, 200, .inl x_a1_begins)), (a_a1_ends, .inl (G.2.1 1, 200, .inl x_a1_ends)), (a_a1_attributeLetters, .inl (G.2.1 1, 100, .inl x_a1_attributeLetters)), (a_a1_valueBegins, .inl (G.2.1 1, 100, .inl x_a1_valueBegins)), (a_a1_valueEnds, .inl (G.2.1 1, 100, .inl x_a1_valueEnds)), ob_X1 a_a1_values a_a1_values_row x_a1_values_size x_a1_values_overflowed, (a_a1_values_row, .inl (G.2.1 0, 200, .inl x_a1_values_row))] none := by
  refine ms_start RX8 (by decide +kernel) rfl (Nat.le_of_ble_eq_true rfl) (fun p e s m below meth c A ls hX hW hl => ?_)
  have hx := hX.1.1
  have hb := hX.1.2.1
  have hl : lv_has ls 5 [(0, .ref a_this), (1, .ref a_a1), (2, .int v2)] := hl
  unfold f_X8_writeStart at h
  refine lv_aload_n hx hb dX8_writeStart_0 rfl (lv_at hl 1 rfl) ?_
  refine lv_iload_n hx hb dX8_writeStart_1 rfl (lv_at hl 2 rfl) ?_
  obtain ⟨q2, hq2, h⟩ := ms_bd h
  refine ms_callV (fn_X7_nameOf l G a_a1 a_a1_codes a_a1_begins a_a1_ends a_a1_characters a_a1_attributeLetters a_a1_valueBegins a_a1_valueEnds a_a1_values x_a1_count x_a1_attributeCount x_a1_codes v2 hq2) wm_X7_nameOf wv_X8_60 hX hW [7, 8] rfl rfl rfl rfl rfl ⟨Nat.le_of_ble_eq_true rfl, Nat.le_of_ble_eq_true rfl, rfl, rfl, Nat.zero_le _, Nat.zero_le _⟩ rfl hl.1 [] rfl (Nat.le_of_ble_eq_true rfl) dX8_writeStart_2 (fun H locs hW => ?_)
  have hW : ms_W G A s H locs [ob_X8 a_this a_policy a_target a_unended x_unendedCount, ob_X3 a_policy a_policy_actions a_policy_attributes a_policy_schemes x_policy_schemeCount, (a_policy_attributes, .inl (G.2.1 1, 27, .inl x_policy_attributes)), (a_policy_schemes, .inl (G.2.1 2, 4, .inr (.inl x_policy_schemes))), ob_X1 a_target a_target_row x_target_size x_target_overflowed, (a_target_row, .inl (G.2.1 0, 200, .inl x_target_row)), (a_unended, .inl (G.2.1 1, 8, .inl x_unended)), ob_X7 a_a1 a_a1_codes a_a1_begins a_a1_ends x_a1_count a_a1_characters a_a1_attributeLetters a_a1_valueBegins a_a1_valueEnds x_a1_attributeCount a_a1_values, (a_a1_codes, .inl (G.2.1 1, 200, .inl x_a1_codes)), (a_a1_begins, .inl (G.2.1 1, 200, .inl x_a1_begins)), (a_a1_ends, .inl (G.2.1 1, 200, .inl x_a1_ends)), (a_a1_attributeLetters, .inl (G.2.1 1, 100, .inl x_a1_attributeLetters)), (a_a1_valueBegins, .inl (G.2.1 1, 100, .inl x_a1_valueBegins)), (a_a1_valueEnds, .inl (G.2.1 1, 100, .inl x_a1_valueEnds)), ob_X1 a_a1_values a_a1_values_row x_a1_values_size x_a1_values_overflowed, (a_a1_values_row, .inl (G.2.1 0, 200, .inl x_a1_values_row))] := hW
  refine W.eq (g2 := F0 m 5 ls [.int q2]) rfl ?_
  refine lv_istore_n (lv' := [(3, .int q2), (0, .ref a_this), (1, .ref a_a1), (2, .int v2)]) hx hb dX8_writeStart_5 rfl hl (by decide) rfl (fun ls hl => ?_)
  refine lv_aload_n hx hb dX8_writeStart_6 rfl (lv_at hl 1 rfl) ?_
  refine ms_get ff_X8_15 hX hW 0 rfl rfl dX8_writeStart_7 ?_
  refine ms_ldcS hX (tx := "<") (i := 10) (List.mem_of_getElem? (i := 14) rfl) dX8_writeStart_10 ?_
  obtain ⟨q12, hq12, h⟩ := ms_bd h
  refine ms_callV (fn_X1_addWord l G a_target a_target_row x_target_size x_target_overflowed x_target_row 10 (by decide) hq12) wm_X1_addWord wv_X8_56 hX hW [4, 5] rfl rfl rfl rfl rfl ⟨Nat.le_of_ble_eq_true rfl, Nat.le_of_ble_eq_true rfl, rfl, rfl, Nat.zero_le _, Nat.zero_le _⟩ rfl hl.1 [] rfl (Nat.le_of_ble_eq_true rfl) dX8_writeStart_12 (fun H locs hW => ?_)
  have hW : ms_W G A s H locs [ob_X8 a_this a_policy a_target a_unended x_unendedCount, ob_X3 a_policy a_policy_actions a_policy_attributes a_policy_schemes x_policy_schemeCount, (a_policy_attributes, .inl (G.2.1 1, 27, .inl x_policy_attributes)), (a_policy_schemes, .inl (G.2.1 2, 4, .inr (.inl x_policy_schemes))), ob_X1 a_target a_target_row q12.1 q12.2.1, (a_target_row, .inl (G.2.1 0, 200, .inl q12.2.2)), (a_unended, .inl (G.2.1 1, 8, .inl x_unended)), ob_X7 a_a1 a_a1_codes a_a1_begins a_a1_ends x_a1_count a_a1_characters a_a1_attributeLetters a_a1_valueBegins a_a1_valueEnds x_a1_attributeCount a_a1_values, (a_a1_codes, .inl (G.2.1 1, 200, .inl x_a1_codes)), (a_a1_begins, .inl (G.2.1 1, 200, .inl x_a1_begins)), (a_a1_ends, .inl (G.2.1 1, 200, .inl x_a1_ends)), (a_a1_attributeLetters, .inl (G.2.1 1, 100, .inl x_a1_attributeLetters)), (a_a1_valueBegins, .inl (G.2.1 1, 100, .inl x_a1_valueBegins)), (a_a1_valueEnds, .inl (G.2.1 1, 100, .inl x_a1_valueEnds)), ob_X1 a_a1_values a_a1_values_row x_a1_values_size x_a1_values_overflowed, (a_a1_values_row, .inl (G.2.1 0, 200, .inl x_a1_values_row))] := hW
  refine W.eq (g2 := F0 m 15 ls []) rfl ?_
  refine lv_aload_n hx hb dX8_writeStart_15 rfl (lv_at hl 1 rfl) ?_
  refine lv_iload_n hx hb dX8_writeStart_16 rfl (lv_at hl 0 rfl) ?_
  obtain ⟨q17, hq17, h⟩ := ms_bd h
  refine ms_callV (fn_X8_writeLetter l G a_this a_policy a_target a_unended a_target_row x_unendedCount q12.1 q12.2.1 q12.2.2 q2 hq17) wm_X8_writeLetter wv_X8_63 hX hW [0, 4, 5] rfl rfl rfl rfl rfl ⟨Nat.le_of_ble_eq_true rfl, Nat.le_of_ble_eq_true rfl, rfl, rfl, Nat.zero_le _, Nat.zero_le _⟩ rfl hl.1 [] rfl (Nat.le_of_ble_eq_true rfl) dX8_writeStart_17 (fun H locs hW => ?_)
  have hW : ms_W G A s H locs [ob_X8 a_this a_policy a_target a_unended x_unendedCount, ob_X3 a_policy a_policy_actions a_policy_attributes a_policy_schemes x_policy_schemeCount, (a_policy_attributes, .inl (G.2.1 1, 27, .inl x_policy_attributes)), (a_policy_schemes, .inl (G.2.1 2, 4, .inr (.inl x_policy_schemes))), ob_X1 a_target a_target_row q17.1 q17.2.1, (a_target_row, .inl (G.2.1 0, 200, .inl q17.2.2)), (a_unended, .inl (G.2.1 1, 8, .inl x_unended)), ob_X7 a_a1 a_a1_codes a_a1_begins a_a1_ends x_a1_count a_a1_characters a_a1_attributeLetters a_a1_valueBegins a_a1_valueEnds x_a1_attributeCount a_a1_values, (a_a1_codes, .inl (G.2.1 1, 200, .inl x_a1_codes)), (a_a1_begins, .inl (G.2.1 1, 200, .inl x_a1_begins)), (a_a1_ends, .inl (G.2.1 1, 200, .inl x_a1_ends)), (a_a1_attributeLetters, .inl (G.2.1 1, 100, .inl x_a1_attributeLetters)), (a_a1_valueBegins, .inl (G.2.1 1, 100, .inl x_a1_valueBegins)), (a_a1_valueEnds, .inl (G.2.1 1, 100, .inl x_a1_valueEnds)), ob_X1 a_a1_values a_a1_values_row x_a1_values_size x_a1_values_overflowed, (a_a1_values_row, .inl (G.2.1 0, 200, .inl x_a1_values_row))] := hW
  refine W.eq (g2 := F0 m 20 ls []) rfl ?_
  refine lv_aload_n hx hb dX8_writeStart_20 rfl (lv_at hl 2 rfl) ?_
  refine lv_iload_n hx hb dX8_writeStart_21 rfl (lv_at hl 3 rfl) ?_
  obtain ⟨q22, hq22, h⟩ := ms_bd h
  refine ms_callV (fn_X7_beginOf l G a_a1 a_a1_codes a_a1_begins a_a1_ends a_a1_characters a_a1_attributeLetters a_a1_valueBegins a_a1_valueEnds a_a1_values x_a1_count x_a1_attributeCount x_a1_begins v2 hq22) wm_X7_beginOf wv_X8_76 hX hW [7, 9] rfl rfl rfl rfl rfl ⟨Nat.le_of_ble_eq_true rfl, Nat.le_of_ble_eq_true rfl, rfl, rfl, Nat.zero_le _, Nat.zero_le _⟩ rfl hl.1 [] rfl (Nat.le_of_ble_eq_true rfl) dX8_writeStart_22 (fun H locs hW => ?_)
  have hW : ms_W G A s H locs [ob_X8 a_this a_policy a_target a_unended x_unendedCount, ob_X3 a_policy a_policy_actions a_policy_attributes a_policy_schemes x_policy_schemeCount, (a_policy_attributes, .inl (G.2.1 1, 27, .inl x_policy_attributes)), (a_policy_schemes, .inl (G.2.1 2, 4, .inr (.inl x_policy_schemes))), ob_X1 a_target a_target_row q17.1 q17.2.1, (a_target_row, .inl (G.2.1 0, 200, .inl q17.2.2)), (a_unended, .inl (G.2.1 1, 8, .inl x_unended)), ob_X7 a_a1 a_a1_codes a_a1_begins a_a1_ends x_a1_count a_a1_characters a_a1_attributeLetters a_a1_valueBegins a_a1_valueEnds x_a1_attributeCount a_a1_values, (a_a1_codes, .inl (G.2.1 1, 200, .inl x_a1_codes)), (a_a1_begins, .inl (G.2.1 1, 200, .inl x_a1_begins)), (a_a1_ends, .inl (G.2.1 1, 200, .inl x_a1_ends)), (a_a1_attributeLetters, .inl (G.2.1 1, 100, .inl x_a1_attributeLetters)), (a_a1_valueBegins, .inl (G.2.1 1, 100, .inl x_a1_valueBegins)), (a_a1_valueEnds, .inl (G.2.1 1, 100, .inl x_a1_valueEnds)), ob_X1 a_a1_values a_a1_values_row x_a1_values_size x_a1_values_overflowed, (a_a1_values_row, .inl (G.2.1 0, 200, .inl x_a1_values_row))] := hW
  refine W.eq (g2 := F0 m 25 ls [.int q22]) rfl ?_
  refine lv_istore (lv' := [(4, .int q22), (3, .int q2), (0, .ref a_this), (1, .ref a_a1), (2, .int v2)]) hx hb dX8_writeStart_25 hl (by decide) rfl (fun ls hl => ?_)
  obtain ⟨w27, hqw27, h⟩ := ms_bd h
  refine wb_X8_writeStart_L27 hX (o := w27) (fun H locs ls hW hl => ?_) _ _ _ _ _ _ _ _ _ _ _ hqw27 hW (lv_sub hl [2, 3, 4, 1, 0] rfl)
  refine lv_aload_n hx hb dX8_writeStart_61 rfl (lv_at hl 0 rfl) ?_
  refine ms_get ff_X8_15 hX hW 0 rfl rfl dX8_writeStart_62 ?_
  refine ms_ldcS hX (tx := ">") (i := 8) (List.mem_of_getElem? (i := 10) rfl) dX8_writeStart_65 ?_
  obtain ⟨q67, hq67, h⟩ := ms_bd h
  refine ms_callV (fn_X1_addWord l G a_target a_target_row w27.2.1 w27.2.2.1 w27.2.2.2.1 8 (by decide) hq67) wm_X1_addWord wv_X8_56 hX hW [4, 5] rfl rfl rfl rfl rfl ⟨Nat.le_of_ble_eq_true rfl, Nat.le_of_ble_eq_true rfl, rfl, rfl, Nat.zero_le _, Nat.zero_le _⟩ rfl hl.1 [] rfl (Nat.le_of_ble_eq_true rfl) dX8_writeStart_67 (fun H locs hW => ?_)
  have hW : ms_W G A s H locs [ob_X8 a_this a_policy a_target a_unended w27.1, ob_X3 a_policy a_policy_actions a_policy_attributes a_policy_schemes x_policy_schemeCount, (a_policy_attributes, .inl (G.2.1 1, 27, .inl x_policy_attributes)), (a_policy_schemes, .inl (G.2.1 2, 4, .inr (.inl x_policy_schemes))), ob_X1 a_target a_target_row q67.1 q67.2.1, (a_target_row, .inl (G.2.1 0, 200, .inl q67.2.2)), (a_unended, .inl (G.2.1 1, 8, .inl w27.2.2.2.2.1)), ob_X7 a_a1 a_a1_codes a_a1_begins a_a1_ends x_a1_count a_a1_characters a_a1_attributeLetters a_a1_valueBegins a_a1_valueEnds x_a1_attributeCount a_a1_values, (a_a1_codes, .inl (G.2.1 1, 200, .inl x_a1_codes)), (a_a1_begins, .inl (G.2.1 1, 200, .inl x_a1_begins)), (a_a1_ends, .inl (G.2.1 1, 200, .inl x_a1_ends)), (a_a1_attributeLetters, .inl (G.2.1 1, 100, .inl x_a1_attributeLetters)), (a_a1_valueBegins, .inl (G.2.1 1, 100, .inl x_a1_valueBegins)), (a_a1_valueEnds, .inl (G.2.1 1, 100, .inl x_a1_valueEnds)), ob_X1 a_a1_values a_a1_values_row x_a1_values_size x_a1_values_overflowed, (a_a1_values_row, .inl (G.2.1 0, 200, .inl x_a1_values_row))] := hW
  refine W.eq (g2 := F0 m 70 ls []) rfl ?_
  refine lv_aload_n hx hb dX8_writeStart_70 rfl (lv_at hl 1 rfl) ?_
  refine lv_iload_n hx hb dX8_writeStart_71 rfl (lv_at hl 2 rfl) ?_
  obtain ⟨q72, hq72, h⟩ := ms_bd h
  refine ms_callV (fn_X7_isForeign l G a_a1 a_a1_codes a_a1_begins a_a1_ends a_a1_characters a_a1_attributeLetters a_a1_valueBegins a_a1_valueEnds a_a1_values x_a1_count x_a1_attributeCount x_a1_codes v2 hq72) wm_X7_isForeign wv_X8_103 hX hW [7, 8] rfl rfl rfl rfl rfl ⟨Nat.le_of_ble_eq_true rfl, Nat.le_of_ble_eq_true rfl, rfl, rfl, Nat.zero_le _, Nat.zero_le _⟩ rfl hl.1 [] rfl (Nat.le_of_ble_eq_true rfl) dX8_writeStart_72 (fun H locs hW => ?_)
  have hW : ms_W G A s H locs [ob_X8 a_this a_policy a_target a_unended w27.1, ob_X3 a_policy a_policy_actions a_policy_attributes a_policy_schemes x_policy_schemeCount, (a_policy_attributes, .inl (G.2.1 1, 27, .inl x_policy_attributes)), (a_policy_schemes, .inl (G.2.1 2, 4, .inr (.inl x_policy_schemes))), ob_X1 a_target a_target_row q67.1 q67.2.1, (a_target_row, .inl (G.2.1 0, 200, .inl q67.2.2)), (a_unended, .inl (G.2.1 1, 8, .inl w27.2.2.2.2.1)), ob_X7 a_a1 a_a1_codes a_a1_begins a_a1_ends x_a1_count a_a1_characters a_a1_attributeLetters a_a1_valueBegins a_a1_valueEnds x_a1_attributeCount a_a1_values, (a_a1_codes, .inl (G.2.1 1, 200, .inl x_a1_codes)), (a_a1_begins, .inl (G.2.1 1, 200, .inl x_a1_begins)), (a_a1_ends, .inl (G.2.1 1, 200, .inl x_a1_ends)), (a_a1_attributeLetters, .inl (G.2.1 1, 100, .inl x_a1_attributeLetters)), (a_a1_valueBegins, .inl (G.2.1 1, 100, .inl x_a1_valueBegins)), (a_a1_valueEnds, .inl (G.2.1 1, 100, .inl x_a1_valueEnds)), ob_X1 a_a1_values a_a1_values_row x_a1_values_size x_a1_values_overflowed, (a_a1_values_row, .inl (G.2.1 0, 200, .inl x_a1_values_row))] := hW
  refine W.eq (g2 := F0 m 75 ls [.int q72]) rfl ?_
  refine lv_if_ne (tgt := 85) hx hb dX8_writeStart_75 (by decide) (fun k => ?_) (fun k => ?_)
  · have h := ms_ifn h k
    exact wb_X8_writeStart_L85 hX h hW (lv_sub hl [0, 2] rfl)
  · have h := ms_ifp h k
    refine lv_iload_n hx hb dX8_writeStart_78 rfl (lv_at hl 3 rfl) ?_
    obtain ⟨q79, hq79, h⟩ := ms_bd h
    refine ms_callN (host := RX9) (fn_X9_isEmptyName l G w27.2.2.2.2.2 hq79) wm_X9_isEmptyName (List.mem_of_getElem? (i := 11) rfl) wt_X9_isEmptyName hX hW [] rfl rfl rfl ⟨Nat.le_of_ble_eq_true rfl, Nat.le_of_ble_eq_true rfl, rfl, rfl, Nat.zero_le _, Nat.zero_le _⟩ rfl hl.1 [] rfl (Nat.le_of_ble_eq_true rfl) dX8_writeStart_79 (fun H locs hW => ?_)
    have hW : ms_W G A s H locs [ob_X8 a_this a_policy a_target a_unended w27.1, ob_X3 a_policy a_policy_actions a_policy_attributes a_policy_schemes x_policy_schemeCount, (a_policy_attributes, .inl (G.2.1 1, 27, .inl x_policy_attributes)), (a_policy_schemes, .inl (G.2.1 2, 4, .inr (.inl x_policy_schemes))), ob_X1 a_target a_target_row q67.1 q67.2.1, (a_target_row, .inl (G.2.1 0, 200, .inl q67.2.2)), (a_unended, .inl (G.2.1 1, 8, .inl w27.2.2.2.2.1)), ob_X7 a_a1 a_a1_codes a_a1_begins a_a1_ends x_a1_count a_a1_characters a_a1_attributeLetters a_a1_valueBegins a_a1_valueEnds x_a1_attributeCount a_a1_values, (a_a1_codes, .inl (G.2.1 1, 200, .inl x_a1_codes)), (a_a1_begins, .inl (G.2.1 1, 200, .inl x_a1_begins)), (a_a1_ends, .inl (G.2.1 1, 200, .inl x_a1_ends)), (a_a1_attributeLetters, .inl (G.2.1 1, 100, .inl x_a1_attributeLetters)), (a_a1_valueBegins, .inl (G.2.1 1, 100, .inl x_a1_valueBegins)), (a_a1_valueEnds, .inl (G.2.1 1, 100, .inl x_a1_valueEnds)), ob_X1 a_a1_values a_a1_values_row x_a1_values_size x_a1_values_overflowed, (a_a1_values_row, .inl (G.2.1 0, 200, .inl x_a1_values_row))] := hW
    refine W.eq (g2 := F0 m 82 ls [.int q79]) rfl ?_
    refine lv_if_ne (tgt := 89) hx hb dX8_writeStart_82 (by decide) (fun k => ?_) (fun k => ?_)
    · have h := ms_ifn h k
      refine lv_iconst (v := 0) hx hb dX8_writeStart_89 (by decide) ?_
      exact wb_X8_writeStart_L90 hX h hW (lv_sub hl [0, 2] rfl)
    · have h := ms_ifp h k
      exact wb_X8_writeStart_L85 hX h hW (lv_sub hl [0, 2] rfl)
def rm_X8_writeNode : Room := { frames := 8, cells := 0, slots := 0, locals := 178 }
def f_X8_writeNode_L61 (x_policy_schemeCount : Int32) (x_policy_actions : Nat → Int32) (x_policy_attributes : Nat → Int32) (x_policy_schemes : Nat → Int64) (x_a1_count : Int32) (x_a1_attributeCount : Int32) (x_a1_codes : Nat → Int32) (x_a1_begins : Nat → Int32) (x_a1_ends : Nat → Int32) (x_a1_characters_size : Int32) (x_a1_characters_row : Nat → Int32) (x_a1_attributeLetters : Nat → Int32) (x_a1_valueBegins : Nat → Int32) (x_a1_valueEnds : Nat → Int32) (x_a1_values_size : Int32) (x_a1_values_row : Nat → Int32) (v2 : Int32) (x_unendedCount : Int32) (x_target_size : Int32) (x_target_overflowed : Int32) (x_target_row : Nat → Int32) (x_unended : Nat → Int32) (v3 : Int32) : Option (Int32 × Int32 × Int32 × (Nat → Int32) × (Nat → Int32) × Int32) := (if v3 = 2 then some (x_unendedCount, x_target_size, x_target_overflowed, x_target_row, x_unended, 0) else some (x_unendedCount, x_target_size, x_target_overflowed, x_target_row, x_unended, 1))
set_option maxHeartbeats 4000000 in
set_option maxRecDepth 100000 in
theorem wb_X8_writeNode_L61 {p : Program} {l : Launch} {e : Env} {s : State} {m : MethodId} {args : Array Value} {below : List Frame} {meth : Method} {c : Code} {G : Gc} {A : Nat → Prop} {H : Heap} {locs : List Loc} {ls : Array Slot} {a_this : Nat} {a_policy : Nat} {a_target : Nat} {a_unended : Nat} {a_policy_actions : Nat} {a_policy_attributes : Nat} {a_policy_schemes : Nat} {a_target_row : Nat} {a_a1 : Nat} {a_a1_codes : Nat} {a_a1_begins : Nat} {a_a1_ends : Nat} {a_a1_characters : Nat} {a_a1_attributeLetters : Nat} {a_a1_valueBegins : Nat} {a_a1_valueEnds : Nat} {a_a1_values : Nat} {a_a1_characters_row : Nat} {a_a1_values_row : Nat} {x_policy_schemeCount : Int32} {x_policy_actions : Nat → Int32} {x_policy_attributes : Nat → Int32} {x_policy_schemes : Nat → Int64} {x_a1_count : Int32} {x_a1_attributeCount : Int32} {x_a1_codes : Nat → Int32} {x_a1_begins : Nat → Int32} {x_a1_ends : Nat → Int32} {x_a1_characters_size : Int32} {x_a1_characters_overflowed : Int32} {x_a1_characters_row : Nat → Int32} {x_a1_attributeLetters : Nat → Int32} {x_a1_valueBegins : Nat → Int32} {x_a1_valueEnds : Nat → Int32} {x_a1_values_size : Int32} {x_a1_values_overflowed : Int32} {x_a1_values_row : Nat → Int32} {v2 : Int32} {x_unendedCount : Int32} {x_target_size : Int32} {x_target_overflowed : Int32} {x_target_row : Nat → Int32} {x_unended : Nat → Int32} {v3 : Int32} {o : Int32 × Int32 × Int32 × (Nat → Int32) × (Nat → Int32) × Int32} (hX : ms_CX p s m args meth c cX8_writeNode 4 RX8 (some .boolean) G A)   (h : f_X8_writeNode_L61 x_policy_schemeCount x_policy_actions x_policy_attributes x_policy_schemes x_a1_count x_a1_attributeCount x_a1_codes x_a1_begins x_a1_ends x_a1_characters_size x_a1_characters_row x_a1_attributeLetters x_a1_valueBegins x_a1_valueEnds x_a1_values_size x_a1_values_row v2 x_unendedCount x_target_size x_target_overflowed x_target_row x_unended v3 = some o) (hW : ms_W G A s H locs [ob_X8 a_this a_policy a_target a_unended x_unendedCount, ob_X3 a_policy a_policy_actions a_policy_attributes a_policy_schemes x_policy_schemeCount, (a_policy_actions, .inl (G.2.1 1, 26, .inl x_policy_actions)), (a_policy_attributes, .inl (G.2.1 1, 27, .inl x_policy_attributes)), (a_policy_schemes, .inl (G.2.1 2, 4, .inr (.inl x_policy_schemes))), ob_X1 a_target a_target_row x_target_size x_target_overflowed, (a_target_row, .inl (G.2.1 0, 200, .inl x_target_row)), (a_unended, .inl (G.2.1 1, 8, .inl x_unended)), ob_X7 a_a1 a_a1_codes a_a1_begins a_a1_ends x_a1_count a_a1_characters a_a1_attributeLetters a_a1_valueBegins a_a1_valueEnds x_a1_attributeCount a_a1_values, (a_a1_codes, .inl (G.2.1 1, 200, .inl x_a1_codes)), (a_a1_begins, .inl (G.2.1 1, 200, .inl x_a1_begins)), (a_a1_ends, .inl (G.2.1 1, 200, .inl x_a1_ends)), ob_X1 a_a1_characters a_a1_characters_row x_a1_characters_size x_a1_characters_overflowed, (a_a1_characters_row, .inl (G.2.1 0, 200, .inl x_a1_characters_row)), (a_a1_attributeLetters, .inl (G.2.1 1, 100, .inl x_a1_attributeLetters)), (a_a1_valueBegins, .inl (G.2.1 1, 100, .inl x_a1_valueBegins)), (a_a1_valueEnds, .inl (G.2.1 1, 100, .inl x_a1_valueEnds)), ob_X1 a_a1_values a_a1_values_row x_a1_values_size x_a1_values_overflowed, (a_a1_values_row, .inl (G.2.1 0, 200, .inl x_a1_values_row))]) (hl : lv_has ls 4 [(3, .int v3)]) : W p l e rm_X8_writeNode s m args below meth c H locs 0 0 (ms_Q G A below args s [ob_X8 a_this a_policy a_target a_unended o.1, ob_X3 a_policy a_policy_actions a_policy_attributes a_policy_schemes x_policy_schemeCount, (a_policy_actions, .inl (G.2.1 1, 26, .inl x_policy_actions)), (a_policy_attributes, .inl (G.2.1 1, 27, .inl x_policy_attributes)), (a_policy_schemes, .inl (G.2.1 2, 4, .inr (.inl x_policy_schemes))), ob_X1 a_target a_target_row o.2.1 o.2.2.1, (a_target_row, .inl (G.2.1 0, 200, .inl o.2.2.2.1)), (a_unended, .inl (G.2.1 1, 8, .inl o.2.2.2.2.1)), ob_X7 a_a1 a_a1_codes a_a1_begins a_a1_ends x_a1_count a_a1_characters a_a1_attributeLetters a_a1_valueBegins a_a1_valueEnds x_a1_attributeCount a_a1_values, (a_a1_codes, .inl (G.2.1 1, 200, .inl x_a1_codes)), (a_a1_begins, .inl (G.2.1 1, 200, .inl x_a1_begins)), (a_a1_ends, .inl (G.2.1 1, 200, .inl x_a1_ends)), ob_X1 a_a1_characters a_a1_characters_row x_a1_characters_size x_a1_characters_overflowed, (a_a1_characters_row, .inl (G.2.1 0, 200, .inl x_a1_characters_row)), (a_a1_attributeLetters, .inl (G.2.1 1, 100, .inl x_a1_attributeLetters)), (a_a1_valueBegins, .inl (G.2.1 1, 100, .inl x_a1_valueBegins)), (a_a1_valueEnds, .inl (G.2.1 1, 100, .inl x_a1_valueEnds)), ob_X1 a_a1_values a_a1_values_row x_a1_values_size x_a1_values_overflowed, (a_a1_values_row, .inl (G.2.1 0, 200, .inl x_a1_values_row))] (some (.int o.2.2.2.2.2))) (F0 m 61 ls []) := by
  have hx := hX.1.1
  have hb := hX.1.2.1
  unfold f_X8_writeNode_L61 at h
  refine lv_iload_n hx hb dX8_writeNode_61 rfl (lv_at hl 0 rfl) ?_
  refine lv_iconst (v := 2) hx hb dX8_writeNode_62 (by decide) ?_
  refine lv_icmp_eq (tgt := 70) hx hb dX8_writeNode_63 (by decide) (fun k => ?_) (fun k => ?_)
  · have h := ms_ifp h k
    refine lv_iconst (v := 0) hx hb dX8_writeNode_70 (by decide) ?_
    obtain rfl := Option.some.inj h
    exact ms_zret hX (ms_nz (Or.inl rfl)) hW dX8_writeNode_71
  · have h := ms_ifn h k
    refine lv_iconst (v := 1) hx hb dX8_writeNode_66 (by decide) ?_
    refine lv_goto (tgt := 71) hx hb dX8_writeNode_67 (by decide) ?_
    obtain rfl := Option.some.inj h
    exact ms_zret hX (ms_nz (Or.inr rfl)) hW dX8_writeNode_71
def f_X8_writeNode_L27 (x_policy_schemeCount : Int32) (x_policy_actions : Nat → Int32) (x_policy_attributes : Nat → Int32) (x_policy_schemes : Nat → Int64) (x_a1_count : Int32) (x_a1_attributeCount : Int32) (x_a1_codes : Nat → Int32) (x_a1_begins : Nat → Int32) (x_a1_ends : Nat → Int32) (x_a1_characters_size : Int32) (x_a1_characters_row : Nat → Int32) (x_a1_attributeLetters : Nat → Int32) (x_a1_valueBegins : Nat → Int32) (x_a1_valueEnds : Nat → Int32) (x_a1_values_size : Int32) (x_a1_values_row : Nat → Int32) (v2 : Int32) (x_unendedCount : Int32) (x_target_size : Int32) (x_target_overflowed : Int32) (x_target_row : Nat → Int32) (x_unended : Nat → Int32) : Option (Int32 × Int32 × Int32 × (Nat → Int32) × (Nat → Int32) × Int32) := (f_X7_kindOf x_a1_count x_a1_codes v2).bind (fun q29 => (if q29 = 3 then (f_X7_nameOf x_a1_count x_a1_codes v2).bind (fun q44 => (f_X3_actionOf x_policy_actions q44).bind (fun q47 => (if q47 = 0 then (f_X8_writeStart x_unendedCount x_policy_schemeCount x_policy_attributes x_policy_schemes x_target_size x_target_overflowed x_target_row x_unended x_a1_count x_a1_attributeCount x_a1_codes x_a1_begins x_a1_ends x_a1_attributeLetters x_a1_valueBegins x_a1_valueEnds x_a1_values_size x_a1_values_row v2).bind (fun q58 => f_X8_writeNode_L61 x_policy_schemeCount x_policy_actions x_policy_attributes x_policy_schemes x_a1_count x_a1_attributeCount x_a1_codes x_a1_begins x_a1_ends x_a1_characters_size x_a1_characters_row x_a1_attributeLetters x_a1_valueBegins x_a1_valueEnds x_a1_values_size x_a1_values_row v2 q58.1 q58.2.1 q58.2.2.1 q58.2.2.2.1 q58.2.2.2.2 q47) else f_X8_writeNode_L61 x_policy_schemeCount x_policy_actions x_policy_attributes x_policy_schemes x_a1_count x_a1_attributeCount x_a1_codes x_a1_begins x_a1_ends x_a1_characters_size x_a1_characters_row x_a1_attributeLetters x_a1_valueBegins x_a1_valueEnds x_a1_values_size x_a1_values_row v2 x_unendedCount x_target_size x_target_overflowed x_target_row x_unended q47))) else some (x_unendedCount, x_target_size, x_target_overflowed, x_target_row, x_unended, 1)))
set_option maxHeartbeats 4000000 in
set_option maxRecDepth 100000 in
theorem wb_X8_writeNode_L27 {p : Program} {l : Launch} {e : Env} {s : State} {m : MethodId} {args : Array Value} {below : List Frame} {meth : Method} {c : Code} {G : Gc} {A : Nat → Prop} {H : Heap} {locs : List Loc} {ls : Array Slot} {a_this : Nat} {a_policy : Nat} {a_target : Nat} {a_unended : Nat} {a_policy_actions : Nat} {a_policy_attributes : Nat} {a_policy_schemes : Nat} {a_target_row : Nat} {a_a1 : Nat} {a_a1_codes : Nat} {a_a1_begins : Nat} {a_a1_ends : Nat} {a_a1_characters : Nat} {a_a1_attributeLetters : Nat} {a_a1_valueBegins : Nat} {a_a1_valueEnds : Nat} {a_a1_values : Nat} {a_a1_characters_row : Nat} {a_a1_values_row : Nat} {x_policy_schemeCount : Int32} {x_policy_actions : Nat → Int32} {x_policy_attributes : Nat → Int32} {x_policy_schemes : Nat → Int64} {x_a1_count : Int32} {x_a1_attributeCount : Int32} {x_a1_codes : Nat → Int32} {x_a1_begins : Nat → Int32} {x_a1_ends : Nat → Int32} {x_a1_characters_size : Int32} {x_a1_characters_overflowed : Int32} {x_a1_characters_row : Nat → Int32} {x_a1_attributeLetters : Nat → Int32} {x_a1_valueBegins : Nat → Int32} {x_a1_valueEnds : Nat → Int32} {x_a1_values_size : Int32} {x_a1_values_overflowed : Int32} {x_a1_values_row : Nat → Int32} {v2 : Int32} {x_unendedCount : Int32} {x_target_size : Int32} {x_target_overflowed : Int32} {x_target_row : Nat → Int32} {x_unended : Nat → Int32} {o : Int32 × Int32 × Int32 × (Nat → Int32) × (Nat → Int32) × Int32} (hX : ms_CX p s m args meth c cX8_writeNode 4 RX8 (some .boolean) G A)   (h : f_X8_writeNode_L27 x_policy_schemeCount x_policy_actions x_policy_attributes x_policy_schemes x_a1_count x_a1_attributeCount x_a1_codes x_a1_begins x_a1_ends x_a1_characters_size x_a1_characters_row x_a1_attributeLetters x_a1_valueBegins x_a1_valueEnds x_a1_values_size x_a1_values_row v2 x_unendedCount x_target_size x_target_overflowed x_target_row x_unended = some o) (hW : ms_W G A s H locs [ob_X8 a_this a_policy a_target a_unended x_unendedCount, ob_X3 a_policy a_policy_actions a_policy_attributes a_policy_schemes x_policy_schemeCount, (a_policy_actions, .inl (G.2.1 1, 26, .inl x_policy_actions)), (a_policy_attributes, .inl (G.2.1 1, 27, .inl x_policy_attributes)), (a_policy_schemes, .inl (G.2.1 2, 4, .inr (.inl x_policy_schemes))), ob_X1 a_target a_target_row x_target_size x_target_overflowed, (a_target_row, .inl (G.2.1 0, 200, .inl x_target_row)), (a_unended, .inl (G.2.1 1, 8, .inl x_unended)), ob_X7 a_a1 a_a1_codes a_a1_begins a_a1_ends x_a1_count a_a1_characters a_a1_attributeLetters a_a1_valueBegins a_a1_valueEnds x_a1_attributeCount a_a1_values, (a_a1_codes, .inl (G.2.1 1, 200, .inl x_a1_codes)), (a_a1_begins, .inl (G.2.1 1, 200, .inl x_a1_begins)), (a_a1_ends, .inl (G.2.1 1, 200, .inl x_a1_ends)), ob_X1 a_a1_characters a_a1_characters_row x_a1_characters_size x_a1_characters_overflowed, (a_a1_characters_row, .inl (G.2.1 0, 200, .inl x_a1_characters_row)), (a_a1_attributeLetters, .inl (G.2.1 1, 100, .inl x_a1_attributeLetters)), (a_a1_valueBegins, .inl (G.2.1 1, 100, .inl x_a1_valueBegins)), (a_a1_valueEnds, .inl (G.2.1 1, 100, .inl x_a1_valueEnds)), ob_X1 a_a1_values a_a1_values_row x_a1_values_size x_a1_values_overflowed, (a_a1_values_row, .inl (G.2.1 0, 200, .inl x_a1_values_row))]) (hl : lv_has ls 4 [(0, .ref a_this), (1, .ref a_a1), (2, .int v2)]) : W p l e rm_X8_writeNode s m args below meth c H locs 0 0 (ms_Q G A below args s [ob_X8 a_this a_policy a_target a_unended o.1, ob_X3 a_policy a_policy_actions a_policy_attributes a_policy_schemes x_policy_schemeCount, (a_policy_actions, .inl (G.2.1 1, 26, .inl x_policy_actions)), (a_policy_attributes, .inl (G.2.1 1, 27, .inl x_policy_attributes)), (a_policy_schemes, .inl (G.2.1 2, 4, .inr (.inl x_policy_schemes))), ob_X1 a_target a_target_row o.2.1 o.2.2.1, (a_target_row, .inl (G.2.1 0, 200, .inl o.2.2.2.1)), (a_unended, .inl (G.2.1 1, 8, .inl o.2.2.2.2.1)), ob_X7 a_a1 a_a1_codes a_a1_begins a_a1_ends x_a1_count a_a1_characters a_a1_attributeLetters a_a1_valueBegins a_a1_valueEnds x_a1_attributeCount a_a1_values, (a_a1_codes, .inl (G.2.1 1, 200, .inl x_a1_codes)), (a_a1_begins, .inl (G.2.1 1, 200, .inl x_a1_begins)), (a_a1_ends, .inl (G.2.1 1, 200, .inl x_a1_ends)), ob_X1 a_a1_characters a_a1_characters_row x_a1_characters_size x_a1_characters_overflowed, (a_a1_characters_row, .inl (G.2.1 0, 200, .inl x_a1_characters_row)), (a_a1_attributeLetters, .inl (G.2.1 1, 100, .inl x_a1_attributeLetters)), (a_a1_valueBegins, .inl (G.2.1 1, 100, .inl x_a1_valueBegins)), (a_a1_valueEnds, .inl (G.2.1 1, 100, .inl x_a1_valueEnds)), ob_X1 a_a1_values a_a1_values_row x_a1_values_size x_a1_values_overflowed, (a_a1_values_row, .inl (G.2.1 0, 200, .inl x_a1_values_row))] (some (.int o.2.2.2.2.2))) (F0 m 27 ls []) := by
  have hx := hX.1.1
  have hb := hX.1.2.1
  unfold f_X8_writeNode_L27 at h
  refine lv_aload_n hx hb dX8_writeNode_27 rfl (lv_at hl 1 rfl) ?_
  refine lv_iload_n hx hb dX8_writeNode_28 rfl (lv_at hl 2 rfl) ?_
  obtain ⟨q29, hq29, h⟩ := ms_bd h
  refine ms_callV (fn_X7_kindOf l G a_a1 a_a1_codes a_a1_begins a_a1_ends a_a1_characters a_a1_attributeLetters a_a1_valueBegins a_a1_valueEnds a_a1_values x_a1_count x_a1_attributeCount x_a1_codes v2 hq29) wm_X7_kindOf wv_X8_69 hX hW [8, 9] rfl rfl rfl rfl rfl ⟨Nat.le_of_ble_eq_true rfl, Nat.le_of_ble_eq_true rfl, rfl, rfl, Nat.zero_le _, Nat.zero_le _⟩ rfl hl.1 [] rfl (Nat.le_of_ble_eq_true rfl) dX8_writeNode_29 (fun H locs hW => ?_)
  have hW : ms_W G A s H locs [ob_X8 a_this a_policy a_target a_unended x_unendedCount, ob_X3 a_policy a_policy_actions a_policy_attributes a_policy_schemes x_policy_schemeCount, (a_policy_actions, .inl (G.2.1 1, 26, .inl x_policy_actions)), (a_policy_attributes, .inl (G.2.1 1, 27, .inl x_policy_attributes)), (a_policy_schemes, .inl (G.2.1 2, 4, .inr (.inl x_policy_schemes))), ob_X1 a_target a_target_row x_target_size x_target_overflowed, (a_target_row, .inl (G.2.1 0, 200, .inl x_target_row)), (a_unended, .inl (G.2.1 1, 8, .inl x_unended)), ob_X7 a_a1 a_a1_codes a_a1_begins a_a1_ends x_a1_count a_a1_characters a_a1_attributeLetters a_a1_valueBegins a_a1_valueEnds x_a1_attributeCount a_a1_values, (a_a1_codes, .inl (G.2.1 1, 200, .inl x_a1_codes)), (a_a1_begins, .inl (G.2.1 1, 200, .inl x_a1_begins)), (a_a1_ends, .inl (G.2.1 1, 200, .inl x_a1_ends)), ob_X1 a_a1_characters a_a1_characters_row x_a1_characters_size x_a1_characters_overflowed, (a_a1_characters_row, .inl (G.2.1 0, 200, .inl x_a1_characters_row)), (a_a1_attributeLetters, .inl (G.2.1 1, 100, .inl x_a1_attributeLetters)), (a_a1_valueBegins, .inl (G.2.1 1, 100, .inl x_a1_valueBegins)), (a_a1_valueEnds, .inl (G.2.1 1, 100, .inl x_a1_valueEnds)), ob_X1 a_a1_values a_a1_values_row x_a1_values_size x_a1_values_overflowed, (a_a1_values_row, .inl (G.2.1 0, 200, .inl x_a1_values_row))] := hW
  refine W.eq (g2 := F0 m 32 ls [.int q29]) rfl ?_
  refine lv_iconst (v := 3) hx hb dX8_writeNode_32 (by decide) ?_
  refine lv_icmp_eq (tgt := 38) hx hb dX8_writeNode_33 (by decide) (fun k => ?_) (fun k => ?_)
  · have h := ms_ifp h k
    refine lv_aload_n hx hb dX8_writeNode_38 rfl (lv_at hl 0 rfl) ?_
    refine ms_get ff_X8_9 hX hW 0 rfl rfl dX8_writeNode_39 ?_
    refine lv_aload_n hx hb dX8_writeNode_42 rfl (lv_at hl 1 rfl) ?_
    refine lv_iload_n hx hb dX8_writeNode_43 rfl (lv_at hl 2 rfl) ?_
    obtain ⟨q44, hq44, h⟩ := ms_bd h
    refine ms_callV (fn_X7_nameOf l G a_a1 a_a1_codes a_a1_begins a_a1_ends a_a1_characters a_a1_attributeLetters a_a1_valueBegins a_a1_valueEnds a_a1_values x_a1_count x_a1_attributeCount x_a1_codes v2 hq44) wm_X7_nameOf wv_X8_60 hX hW [8, 9] rfl rfl rfl rfl rfl ⟨Nat.le_of_ble_eq_true rfl, Nat.le_of_ble_eq_true rfl, rfl, rfl, Nat.zero_le _, Nat.zero_le _⟩ rfl hl.1 [.ref a_policy] rfl (Nat.le_of_ble_eq_true rfl) dX8_writeNode_44 (fun H locs hW => ?_)
    have hW : ms_W G A s H locs [ob_X8 a_this a_policy a_target a_unended x_unendedCount, ob_X3 a_policy a_policy_actions a_policy_attributes a_policy_schemes x_policy_schemeCount, (a_policy_actions, .inl (G.2.1 1, 26, .inl x_policy_actions)), (a_policy_attributes, .inl (G.2.1 1, 27, .inl x_policy_attributes)), (a_policy_schemes, .inl (G.2.1 2, 4, .inr (.inl x_policy_schemes))), ob_X1 a_target a_target_row x_target_size x_target_overflowed, (a_target_row, .inl (G.2.1 0, 200, .inl x_target_row)), (a_unended, .inl (G.2.1 1, 8, .inl x_unended)), ob_X7 a_a1 a_a1_codes a_a1_begins a_a1_ends x_a1_count a_a1_characters a_a1_attributeLetters a_a1_valueBegins a_a1_valueEnds x_a1_attributeCount a_a1_values, (a_a1_codes, .inl (G.2.1 1, 200, .inl x_a1_codes)), (a_a1_begins, .inl (G.2.1 1, 200, .inl x_a1_begins)), (a_a1_ends, .inl (G.2.1 1, 200, .inl x_a1_ends)), ob_X1 a_a1_characters a_a1_characters_row x_a1_characters_size x_a1_characters_overflowed, (a_a1_characters_row, .inl (G.2.1 0, 200, .inl x_a1_characters_row)), (a_a1_attributeLetters, .inl (G.2.1 1, 100, .inl x_a1_attributeLetters)), (a_a1_valueBegins, .inl (G.2.1 1, 100, .inl x_a1_valueBegins)), (a_a1_valueEnds, .inl (G.2.1 1, 100, .inl x_a1_valueEnds)), ob_X1 a_a1_values a_a1_values_row x_a1_values_size x_a1_values_overflowed, (a_a1_values_row, .inl (G.2.1 0, 200, .inl x_a1_values_row))] := hW
    refine W.eq (g2 := F0 m 47 ls [.int q44, .ref a_policy]) rfl ?_
    obtain ⟨q47, hq47, h⟩ := ms_bd h
    refine ms_callV (fn_X3_actionOf l G a_policy a_policy_actions a_policy_attributes a_policy_schemes x_policy_schemeCount x_policy_actions q44 hq47) wm_X3_actionOf wv_X8_86 hX hW [1, 2] rfl rfl rfl rfl rfl ⟨Nat.le_of_ble_eq_true rfl, Nat.le_of_ble_eq_true rfl, rfl, rfl, Nat.zero_le _, Nat.zero_le _⟩ rfl hl.1 [] rfl (Nat.le_of_ble_eq_true rfl) dX8_writeNode_47 (fun H locs hW => ?_)
    have hW : ms_W G A s H locs [ob_X8 a_this a_policy a_target a_unended x_unendedCount, ob_X3 a_policy a_policy_actions a_policy_attributes a_policy_schemes x_policy_schemeCount, (a_policy_actions, .inl (G.2.1 1, 26, .inl x_policy_actions)), (a_policy_attributes, .inl (G.2.1 1, 27, .inl x_policy_attributes)), (a_policy_schemes, .inl (G.2.1 2, 4, .inr (.inl x_policy_schemes))), ob_X1 a_target a_target_row x_target_size x_target_overflowed, (a_target_row, .inl (G.2.1 0, 200, .inl x_target_row)), (a_unended, .inl (G.2.1 1, 8, .inl x_unended)), ob_X7 a_a1 a_a1_codes a_a1_begins a_a1_ends x_a1_count a_a1_characters a_a1_attributeLetters a_a1_valueBegins a_a1_valueEnds x_a1_attributeCount a_a1_values, (a_a1_codes, .inl (G.2.1 1, 200, .inl x_a1_codes)), (a_a1_begins, .inl (G.2.1 1, 200, .inl x_a1_begins)), (a_a1_ends, .inl (G.2.1 1, 200, .inl x_a1_ends)), ob_X1 a_a1_characters a_a1_characters_row x_a1_characters_size x_a1_characters_overflowed, (a_a1_characters_row, .inl (G.2.1 0, 200, .inl x_a1_characters_row)), (a_a1_attributeLetters, .inl (G.2.1 1, 100, .inl x_a1_attributeLetters)), (a_a1_valueBegins, .inl (G.2.1 1, 100, .inl x_a1_valueBegins)), (a_a1_valueEnds, .inl (G.2.1 1, 100, .inl x_a1_valueEnds)), ob_X1 a_a1_values a_a1_values_row x_a1_values_size x_a1_values_overflowed, (a_a1_values_row, .inl (G.2.1 0, 200, .inl x_a1_values_row))] := hW
    refine W.eq (g2 := F0 m 50 ls [.int q47]) rfl ?_
    refine lv_istore_n (lv' := [(3, .int q47), (0, .ref a_this), (1, .ref a_a1), (2, .int v2)]) hx hb dX8_writeNode_50 rfl hl (by decide) rfl (fun ls hl => ?_)
    refine lv_iload_n hx hb dX8_writeNode_51 rfl (lv_at hl 0 rfl) ?_
    refine lv_if_ne (tgt := 61) hx hb dX8_writeNode_52 (by decide) (fun k => ?_) (fun k => ?_)
    · have h := ms_ifn h k
      exact wb_X8_writeNode_L61 hX h hW (lv_sub hl [0] rfl)
    · have h := ms_ifp h k
      refine lv_aload_n hx hb dX8_writeNode_55 rfl (lv_at hl 1 rfl) ?_
      refine lv_aload_n hx hb dX8_writeNode_56 rfl (lv_at hl 2 rfl) ?_
      refine lv_iload_n hx hb dX8_writeNode_57 rfl (lv_at hl 3 rfl) ?_
      obtain ⟨q58, hq58, h⟩ := ms_bd h
      refine ms_callV (fn_X8_writeStart l G a_this a_policy a_target a_unended a_policy_actions a_policy_attributes a_policy_schemes a_target_row a_a1 a_a1_codes a_a1_begins a_a1_ends a_a1_characters a_a1_attributeLetters a_a1_valueBegins a_a1_valueEnds a_a1_values a_a1_values_row x_unendedCount x_policy_schemeCount x_policy_attributes x_policy_schemes x_target_size x_target_overflowed x_target_row x_unended x_a1_count x_a1_attributeCount x_a1_codes x_a1_begins x_a1_ends x_a1_attributeLetters x_a1_valueBegins x_a1_valueEnds x_a1_values_size x_a1_values_overflowed x_a1_values_row v2 hq58) wm_X8_writeStart wv_X8_91 hX hW [0, 1, 3, 4, 5, 6, 7, 8, 9, 10, 11, 14, 15, 16, 17, 18] rfl rfl rfl rfl rfl ⟨Nat.le_of_ble_eq_true rfl, Nat.le_of_ble_eq_true rfl, rfl, rfl, Nat.zero_le _, Nat.zero_le _⟩ rfl hl.1 [] rfl (Nat.le_of_ble_eq_true rfl) dX8_writeNode_58 (fun H locs hW => ?_)
      have hW : ms_W G A s H locs [ob_X8 a_this a_policy a_target a_unended q58.1, ob_X3 a_policy a_policy_actions a_policy_attributes a_policy_schemes x_policy_schemeCount, (a_policy_actions, .inl (G.2.1 1, 26, .inl x_policy_actions)), (a_policy_attributes, .inl (G.2.1 1, 27, .inl x_policy_attributes)), (a_policy_schemes, .inl (G.2.1 2, 4, .inr (.inl x_policy_schemes))), ob_X1 a_target a_target_row q58.2.1 q58.2.2.1, (a_target_row, .inl (G.2.1 0, 200, .inl q58.2.2.2.1)), (a_unended, .inl (G.2.1 1, 8, .inl q58.2.2.2.2)), ob_X7 a_a1 a_a1_codes a_a1_begins a_a1_ends x_a1_count a_a1_characters a_a1_attributeLetters a_a1_valueBegins a_a1_valueEnds x_a1_attributeCount a_a1_values, (a_a1_codes, .inl (G.2.1 1, 200, .inl x_a1_codes)), (a_a1_begins, .inl (G.2.1 1, 200, .inl x_a1_begins)), (a_a1_ends, .inl (G.2.1 1, 200, .inl x_a1_ends)), ob_X1 a_a1_characters a_a1_characters_row x_a1_characters_size x_a1_characters_overflowed, (a_a1_characters_row, .inl (G.2.1 0, 200, .inl x_a1_characters_row)), (a_a1_attributeLetters, .inl (G.2.1 1, 100, .inl x_a1_attributeLetters)), (a_a1_valueBegins, .inl (G.2.1 1, 100, .inl x_a1_valueBegins)), (a_a1_valueEnds, .inl (G.2.1 1, 100, .inl x_a1_valueEnds)), ob_X1 a_a1_values a_a1_values_row x_a1_values_size x_a1_values_overflowed, (a_a1_values_row, .inl (G.2.1 0, 200, .inl x_a1_values_row))] := hW
      refine W.eq (g2 := F0 m 61 ls []) rfl ?_
      exact wb_X8_writeNode_L61 hX h hW (lv_sub hl [0] rfl)
  · have h := ms_ifn h k
    refine lv_iconst (v := 1) hx hb dX8_writeNode_36 (by decide) ?_
    obtain rfl := Option.some.inj h
    exact ms_zret hX (ms_nz (Or.inr rfl)) hW dX8_writeNode_37
def f_X8_writeNode (x_unendedCount : Int32) (x_policy_schemeCount : Int32) (x_policy_actions : Nat → Int32) (x_policy_attributes : Nat → Int32) (x_policy_schemes : Nat → Int64) (x_target_size : Int32) (x_target_overflowed : Int32) (x_target_row : Nat → Int32) (x_unended : Nat → Int32) (x_a1_count : Int32) (x_a1_attributeCount : Int32) (x_a1_codes : Nat → Int32) (x_a1_begins : Nat → Int32) (x_a1_ends : Nat → Int32) (x_a1_characters_size : Int32) (x_a1_characters_row : Nat → Int32) (x_a1_attributeLetters : Nat → Int32) (x_a1_valueBegins : Nat → Int32) (x_a1_valueEnds : Nat → Int32) (x_a1_values_size : Int32) (x_a1_values_row : Nat → Int32) (v2 : Int32) : Option (Int32 × Int32 × Int32 × (Nat → Int32) × (Nat → Int32) × Int32) := (f_X7_kindOf x_a1_count x_a1_codes v2).bind (fun q2 => (if q2 = 1 then (f_X7_textLine).bind (fun q11 => (f_X7_beginOf x_a1_count x_a1_begins v2).bind (fun q16 => (f_X7_endOf x_a1_count x_a1_ends v2).bind (fun q21 => (f_X8_writeText x_target_size x_target_overflowed x_target_row x_a1_characters_size x_a1_characters_row q16 q21).bind (fun q24 => f_X8_writeNode_L27 x_policy_schemeCount x_policy_actions x_policy_attributes x_policy_schemes x_a1_count x_a1_attributeCount x_a1_codes x_a1_begins x_a1_ends x_a1_characters_size x_a1_characters_row x_a1_attributeLetters x_a1_valueBegins x_a1_valueEnds x_a1_values_size x_a1_values_row v2 x_unendedCount q24.1 q24.2.1 q24.2.2 x_unended)))) else f_X8_writeNode_L27 x_policy_schemeCount x_policy_actions x_policy_attributes x_policy_schemes x_a1_count x_a1_attributeCount x_a1_codes x_a1_begins x_a1_ends x_a1_characters_size x_a1_characters_row x_a1_attributeLetters x_a1_valueBegins x_a1_valueEnds x_a1_values_size x_a1_values_row v2 x_unendedCount x_target_size x_target_overflowed x_target_row x_unended))
set_option maxHeartbeats 4000000 in
set_option maxRecDepth 100000 in
theorem fn_X8_writeNode (l : Launch) (G : Gc) (a_this : Nat) (a_policy : Nat) (a_target : Nat) (a_unended : Nat) (a_policy_actions : Nat) (a_policy_attributes : Nat) (a_policy_schemes : Nat) (a_target_row : Nat) (a_a1 : Nat) (a_a1_codes : Nat) (a_a1_begins : Nat) (a_a1_ends : Nat) (a_a1_characters : Nat) (a_a1_attributeLetters : Nat) (a_a1_valueBegins : Nat) (a_a1_valueEnds : Nat) (a_a1_values : Nat) (a_a1_characters_row : Nat) (a_a1_values_row : Nat) (x_unendedCount : Int32) (x_policy_schemeCount : Int32) (x_policy_actions : Nat → Int32) (x_policy_attributes : Nat → Int32) (x_policy_schemes : Nat → Int64) (x_target_size : Int32) (x_target_overflowed : Int32) (x_target_row : Nat → Int32) (x_unended : Nat → Int32) (x_a1_count : Int32) (x_a1_attributeCount : Int32) (x_a1_codes : Nat → Int32) (x_a1_begins : Nat → Int32) (x_a1_ends : Nat → Int32) (x_a1_characters_size : Int32) (x_a1_characters_overflowed : Int32) (x_a1_characters_row : Nat → Int32) (x_a1_attributeLetters : Nat → Int32) (x_a1_valueBegins : Nat → Int32) (x_a1_valueEnds : Nat → Int32) (x_a1_values_size : Int32) (x_a1_values_overflowed : Int32) (x_a1_values_row : Nat → Int32) (v2 : Int32)  {o : Int32 × Int32 × Int32 × (Nat → Int32) × (Nat → Int32) × Int32} (h : f_X8_writeNode x_unendedCount x_policy_schemeCount x_policy_actions x_policy_attributes x_policy_schemes x_target_size x_target_overflowed x_target_row x_unended x_a1_count x_a1_attributeCount x_a1_codes x_a1_begins x_a1_ends x_a1_characters_size x_a1_characters_row x_a1_attributeLetters x_a1_valueBegins x_a1_valueEnds x_a1_values_size x_a1_values_row v2 = some o) : ms_Fn l G yX8_writeNode cX8_writeNode 4 (some .boolean) rm_X8_writeNode [.ref a_this, .ref a_a1, .int v2] [ob_X8 a_this a_policy a_target a_unended x_unendedCount, ob_X3 a_policy a_policy_actions a_policy_attributes a_policy_schemes x_policy_schemeCount, (a_policy_actions, .inl (G.2.1 1, 26, .inl x_policy_actions)), (a_policy_attributes, .inl (G.2.1 1, 27, .inl x_policy_attributes)), (a_policy_schemes, .inl (G.2.1 2, 4, .inr (.inl x_policy_schemes))), ob_X1 a_target a_target_row x_target_size x_target_overflowed, (a_target_row, .inl (G.2.1 0, 200, .inl x_target_row)), (a_unended, .inl (G.2.1 1, 8, .inl x_unended)), ob_X7 a_a1 a_a1_codes a_a1_begins a_a1_ends x_a1_count a_a1_characters a_a1_attributeLetters a_a1_valueBegins a_a1_valueEnds x_a1_attributeCount a_a1_values, (a_a1_codes, .inl (G.2.1 1, 200, .inl x_a1_codes)), (a_a1_begins, .inl (G.2.1 1, 200, .inl x_a1_begins)), (a_a1_ends, .inl (G.2.1 1, 200, .inl x_a1_ends)), ob_X1 a_a1_characters a_a1_characters_row x_a1_characters_size x_a1_characters_overflowed, (a_a1_characters_row, .inl (G.2.1 0, 200, .inl x_a1_characters_row)), (a_a1_attributeLetters, .inl (G.2.1 1, 100, .inl x_a1_attributeLetters)), (a_a1_valueBegins, .inl (G.2.1 1, 100, .inl x_a1_valueBegins)), (a_a1_valueEnds, .inl (G.2.1 1, 100, .inl x_a1_valueEnds)), ob_X1 a_a1_values a_a1_values_row x_a1_values_size x_a1_values_overflowed, (a_a1_values_row, .inl (G.2.1 0, 200, .inl x_a1_values_row))] [ob_X8 a_this a_policy a_target a_unended o.1, ob_X3 a_policy a_policy_actions a_policy_attributes a_policy_schemes x_policy_schemeCount, (a_policy_actions, .inl (G.2.1 1, 26, .inl x_policy_actions)), (a_policy_attributes, .inl (G.2.1 1, 27, .inl x_policy_attributes)), (a_policy_schemes, .inl (G.2.1 2, 4, .inr (.inl x_policy_schemes))), ob_X1 a_target a_target_row o.2.1 o.2.2.1, (a_target_row, .inl (G.2.1 0, 200, .inl o.2.2.2.1)), (a_unended, .inl (G.2.1 1, 8, .inl o.2.2.2.2.1)), ob_X7 a_a1 a_a1_codes a_a1_begins a_a1_ends x_a1_count a_a1_characters a_a1_attributeLetters a_a1_valueBegins a_a1_valueEnds x_a1_attributeCount a_a1_values, (a_a1_codes, .inl (G.2.1 1, 200, .inl x_a1_codes)), (a_a1_begins, .inl (G.2.1 1, 200, .inl x_a1_begins)), (a_a1_ends, .inl (G.2.1 1, 200, .inl x_a1_ends)), ob_X1 a_a1_characters a_a1_characters_row x_a1_characters_size x_a1_characters_overflowed, (a_a1_characters_row, .inl (G.2.1 0, 200, .inl x_a1_characters_row)), (a_a1_attributeLetters, .inl (G.2.1 1, 100, .inl x_a1_attributeLetters)), (a_a1_valueBegins, .inl (G.2.1 1, 100, .inl x_a1_valueBegins)), (a_a1_valueEnds, .inl (G.2.1 1, 100, .inl x_a1_valueEnds)), ob_X1 a_a1_values a_a1_values_row x_a1_values_size x_a1_values_overflowed, (a_a1_values_row, .inl (G.2.1 0, 200, .inl x_a1_values_row))] (some (.int o.2.2.2.2.2)) := by
  refine ms_start RX8 (by decide +kernel) rfl (Nat.le_of_ble_eq_true rfl) (fun p e s m below meth c A ls hX hW hl => ?_)
  have hx := hX.1.1
  have hb := hX.1.2.1
  have hl : lv_has ls 4 [(0, .ref a_this), (1, .ref a_a1), (2, .int v2)] := hl
  unfold f_X8_writeNode at h
  refine lv_aload_n hx hb dX8_writeNode_0 rfl (lv_at hl 1 rfl) ?_
  refine lv_iload_n hx hb dX8_writeNode_1 rfl (lv_at hl 2 rfl) ?_
  obtain ⟨q2, hq2, h⟩ := ms_bd h
  refine ms_callV (fn_X7_kindOf l G a_a1 a_a1_codes a_a1_begins a_a1_ends a_a1_characters a_a1_attributeLetters a_a1_valueBegins a_a1_valueEnds a_a1_values x_a1_count x_a1_attributeCount x_a1_codes v2 hq2) wm_X7_kindOf wv_X8_69 hX hW [8, 9] rfl rfl rfl rfl rfl ⟨Nat.le_of_ble_eq_true rfl, Nat.le_of_ble_eq_true rfl, rfl, rfl, Nat.zero_le _, Nat.zero_le _⟩ rfl hl.1 [] rfl (Nat.le_of_ble_eq_true rfl) dX8_writeNode_2 (fun H locs hW => ?_)
  have hW : ms_W G A s H locs [ob_X8 a_this a_policy a_target a_unended x_unendedCount, ob_X3 a_policy a_policy_actions a_policy_attributes a_policy_schemes x_policy_schemeCount, (a_policy_actions, .inl (G.2.1 1, 26, .inl x_policy_actions)), (a_policy_attributes, .inl (G.2.1 1, 27, .inl x_policy_attributes)), (a_policy_schemes, .inl (G.2.1 2, 4, .inr (.inl x_policy_schemes))), ob_X1 a_target a_target_row x_target_size x_target_overflowed, (a_target_row, .inl (G.2.1 0, 200, .inl x_target_row)), (a_unended, .inl (G.2.1 1, 8, .inl x_unended)), ob_X7 a_a1 a_a1_codes a_a1_begins a_a1_ends x_a1_count a_a1_characters a_a1_attributeLetters a_a1_valueBegins a_a1_valueEnds x_a1_attributeCount a_a1_values, (a_a1_codes, .inl (G.2.1 1, 200, .inl x_a1_codes)), (a_a1_begins, .inl (G.2.1 1, 200, .inl x_a1_begins)), (a_a1_ends, .inl (G.2.1 1, 200, .inl x_a1_ends)), ob_X1 a_a1_characters a_a1_characters_row x_a1_characters_size x_a1_characters_overflowed, (a_a1_characters_row, .inl (G.2.1 0, 200, .inl x_a1_characters_row)), (a_a1_attributeLetters, .inl (G.2.1 1, 100, .inl x_a1_attributeLetters)), (a_a1_valueBegins, .inl (G.2.1 1, 100, .inl x_a1_valueBegins)), (a_a1_valueEnds, .inl (G.2.1 1, 100, .inl x_a1_valueEnds)), ob_X1 a_a1_values a_a1_values_row x_a1_values_size x_a1_values_overflowed, (a_a1_values_row, .inl (G.2.1 0, 200, .inl x_a1_values_row))] := hW
  refine W.eq (g2 := F0 m 5 ls [.int q2]) rfl ?_
  refine lv_iconst (v := 1) hx hb dX8_writeNode_5 (by decide) ?_
  refine lv_icmp_ne (tgt := 27) hx hb dX8_writeNode_6 (by decide) (fun k => ?_) (fun k => ?_)
  · have h := ms_ifn h k
    exact wb_X8_writeNode_L27 hX h hW (lv_sub hl [0, 1, 2] rfl)
  · have h := ms_ifp h k
    refine lv_aload_n hx hb dX8_writeNode_9 rfl (lv_at hl 0 rfl) ?_
    refine lv_aload_n hx hb dX8_writeNode_10 rfl (lv_at hl 1 rfl) ?_
    obtain ⟨q11, hq11, h⟩ := ms_bd h
    refine ms_callV (fn_X7_textLine l G a_a1 a_a1_codes a_a1_begins a_a1_ends a_a1_characters a_a1_attributeLetters a_a1_valueBegins a_a1_valueEnds a_a1_values x_a1_count x_a1_attributeCount hq11) wm_X7_textLine wv_X8_72 hX hW [8] rfl rfl rfl rfl rfl ⟨Nat.le_of_ble_eq_true rfl, Nat.le_of_ble_eq_true rfl, rfl, rfl, Nat.zero_le _, Nat.zero_le _⟩ rfl hl.1 [.ref a_this] rfl (Nat.le_of_ble_eq_true rfl) dX8_writeNode_11 (fun H locs hW => ?_)
    have hW : ms_W G A s H locs [ob_X8 a_this a_policy a_target a_unended x_unendedCount, ob_X3 a_policy a_policy_actions a_policy_attributes a_policy_schemes x_policy_schemeCount, (a_policy_actions, .inl (G.2.1 1, 26, .inl x_policy_actions)), (a_policy_attributes, .inl (G.2.1 1, 27, .inl x_policy_attributes)), (a_policy_schemes, .inl (G.2.1 2, 4, .inr (.inl x_policy_schemes))), ob_X1 a_target a_target_row x_target_size x_target_overflowed, (a_target_row, .inl (G.2.1 0, 200, .inl x_target_row)), (a_unended, .inl (G.2.1 1, 8, .inl x_unended)), ob_X7 a_a1 a_a1_codes a_a1_begins a_a1_ends x_a1_count a_a1_characters a_a1_attributeLetters a_a1_valueBegins a_a1_valueEnds x_a1_attributeCount a_a1_values, (a_a1_codes, .inl (G.2.1 1, 200, .inl x_a1_codes)), (a_a1_begins, .inl (G.2.1 1, 200, .inl x_a1_begins)), (a_a1_ends, .inl (G.2.1 1, 200, .inl x_a1_ends)), ob_X1 a_a1_characters a_a1_characters_row x_a1_characters_size x_a1_characters_overflowed, (a_a1_characters_row, .inl (G.2.1 0, 200, .inl x_a1_characters_row)), (a_a1_attributeLetters, .inl (G.2.1 1, 100, .inl x_a1_attributeLetters)), (a_a1_valueBegins, .inl (G.2.1 1, 100, .inl x_a1_valueBegins)), (a_a1_valueEnds, .inl (G.2.1 1, 100, .inl x_a1_valueEnds)), ob_X1 a_a1_values a_a1_values_row x_a1_values_size x_a1_values_overflowed, (a_a1_values_row, .inl (G.2.1 0, 200, .inl x_a1_values_row))] := hW
    refine W.eq (g2 := F0 m 14 ls [.ref a_a1_characters, .ref a_this]) rfl ?_
    refine lv_aload_n hx hb dX8_writeNode_14 rfl (lv_at hl 1 rfl) ?_
    refine lv_iload_n hx hb dX8_writeNode_15 rfl (lv_at hl 2 rfl) ?_
    obtain ⟨q16, hq16, h⟩ := ms_bd h
    refine ms_callV (fn_X7_beginOf l G a_a1 a_a1_codes a_a1_begins a_a1_ends a_a1_characters a_a1_attributeLetters a_a1_valueBegins a_a1_valueEnds a_a1_values x_a1_count x_a1_attributeCount x_a1_begins v2 hq16) wm_X7_beginOf wv_X8_76 hX hW [8, 10] rfl rfl rfl rfl rfl ⟨Nat.le_of_ble_eq_true rfl, Nat.le_of_ble_eq_true rfl, rfl, rfl, Nat.zero_le _, Nat.zero_le _⟩ rfl hl.1 [.ref a_a1_characters, .ref a_this] rfl (Nat.le_of_ble_eq_true rfl) dX8_writeNode_16 (fun H locs hW => ?_)
    have hW : ms_W G A s H locs [ob_X8 a_this a_policy a_target a_unended x_unendedCount, ob_X3 a_policy a_policy_actions a_policy_attributes a_policy_schemes x_policy_schemeCount, (a_policy_actions, .inl (G.2.1 1, 26, .inl x_policy_actions)), (a_policy_attributes, .inl (G.2.1 1, 27, .inl x_policy_attributes)), (a_policy_schemes, .inl (G.2.1 2, 4, .inr (.inl x_policy_schemes))), ob_X1 a_target a_target_row x_target_size x_target_overflowed, (a_target_row, .inl (G.2.1 0, 200, .inl x_target_row)), (a_unended, .inl (G.2.1 1, 8, .inl x_unended)), ob_X7 a_a1 a_a1_codes a_a1_begins a_a1_ends x_a1_count a_a1_characters a_a1_attributeLetters a_a1_valueBegins a_a1_valueEnds x_a1_attributeCount a_a1_values, (a_a1_codes, .inl (G.2.1 1, 200, .inl x_a1_codes)), (a_a1_begins, .inl (G.2.1 1, 200, .inl x_a1_begins)), (a_a1_ends, .inl (G.2.1 1, 200, .inl x_a1_ends)), ob_X1 a_a1_characters a_a1_characters_row x_a1_characters_size x_a1_characters_overflowed, (a_a1_characters_row, .inl (G.2.1 0, 200, .inl x_a1_characters_row)), (a_a1_attributeLetters, .inl (G.2.1 1, 100, .inl x_a1_attributeLetters)), (a_a1_valueBegins, .inl (G.2.1 1, 100, .inl x_a1_valueBegins)), (a_a1_valueEnds, .inl (G.2.1 1, 100, .inl x_a1_valueEnds)), ob_X1 a_a1_values a_a1_values_row x_a1_values_size x_a1_values_overflowed, (a_a1_values_row, .inl (G.2.1 0, 200, .inl x_a1_values_row))] := hW
    refine W.eq (g2 := F0 m 19 ls [.int q16, .ref a_a1_characters, .ref a_this]) rfl ?_
    refine lv_aload_n hx hb dX8_writeNode_19 rfl (lv_at hl 1 rfl) ?_
    refine lv_iload_n hx hb dX8_writeNode_20 rfl (lv_at hl 2 rfl) ?_
    obtain ⟨q21, hq21, h⟩ := ms_bd h
    refine ms_callV (fn_X7_endOf l G a_a1 a_a1_codes a_a1_begins a_a1_ends a_a1_characters a_a1_attributeLetters a_a1_valueBegins a_a1_valueEnds a_a1_values x_a1_count x_a1_attributeCount x_a1_ends v2 hq21) wm_X7_endOf wv_X8_79 hX hW [8, 11] rfl rfl rfl rfl rfl ⟨Nat.le_of_ble_eq_true rfl, Nat.le_of_ble_eq_true rfl, rfl, rfl, Nat.zero_le _, Nat.zero_le _⟩ rfl hl.1 [.int q16, .ref a_a1_characters, .ref a_this] rfl (Nat.le_of_ble_eq_true rfl) dX8_writeNode_21 (fun H locs hW => ?_)
    have hW : ms_W G A s H locs [ob_X8 a_this a_policy a_target a_unended x_unendedCount, ob_X3 a_policy a_policy_actions a_policy_attributes a_policy_schemes x_policy_schemeCount, (a_policy_actions, .inl (G.2.1 1, 26, .inl x_policy_actions)), (a_policy_attributes, .inl (G.2.1 1, 27, .inl x_policy_attributes)), (a_policy_schemes, .inl (G.2.1 2, 4, .inr (.inl x_policy_schemes))), ob_X1 a_target a_target_row x_target_size x_target_overflowed, (a_target_row, .inl (G.2.1 0, 200, .inl x_target_row)), (a_unended, .inl (G.2.1 1, 8, .inl x_unended)), ob_X7 a_a1 a_a1_codes a_a1_begins a_a1_ends x_a1_count a_a1_characters a_a1_attributeLetters a_a1_valueBegins a_a1_valueEnds x_a1_attributeCount a_a1_values, (a_a1_codes, .inl (G.2.1 1, 200, .inl x_a1_codes)), (a_a1_begins, .inl (G.2.1 1, 200, .inl x_a1_begins)), (a_a1_ends, .inl (G.2.1 1, 200, .inl x_a1_ends)), ob_X1 a_a1_characters a_a1_characters_row x_a1_characters_size x_a1_characters_overflowed, (a_a1_characters_row, .inl (G.2.1 0, 200, .inl x_a1_characters_row)), (a_a1_attributeLetters, .inl (G.2.1 1, 100, .inl x_a1_attributeLetters)), (a_a1_valueBegins, .inl (G.2.1 1, 100, .inl x_a1_valueBegins)), (a_a1_valueEnds, .inl (G.2.1 1, 100, .inl x_a1_valueEnds)), ob_X1 a_a1_values a_a1_values_row x_a1_values_size x_a1_values_overflowed, (a_a1_values_row, .inl (G.2.1 0, 200, .inl x_a1_values_row))] := hW
    refine W.eq (g2 := F0 m 24 ls [.int q21, .int q16, .ref a_a1_characters, .ref a_this]) rfl ?_
    obtain ⟨q24, hq24, h⟩ := ms_bd h
    refine ms_callV (fn_X8_writeText l G a_this a_policy a_target a_unended a_target_row a_a1_characters a_a1_characters_row x_unendedCount x_target_size x_target_overflowed x_target_row x_a1_characters_size x_a1_characters_overflowed x_a1_characters_row q16 q21 hq24) wm_X8_writeText wv_X8_82 hX hW [0, 5, 6, 12, 13] rfl rfl rfl rfl rfl ⟨Nat.le_of_ble_eq_true rfl, Nat.le_of_ble_eq_true rfl, rfl, rfl, Nat.zero_le _, Nat.zero_le _⟩ rfl hl.1 [] rfl (Nat.le_of_ble_eq_true rfl) dX8_writeNode_24 (fun H locs hW => ?_)
    have hW : ms_W G A s H locs [ob_X8 a_this a_policy a_target a_unended x_unendedCount, ob_X3 a_policy a_policy_actions a_policy_attributes a_policy_schemes x_policy_schemeCount, (a_policy_actions, .inl (G.2.1 1, 26, .inl x_policy_actions)), (a_policy_attributes, .inl (G.2.1 1, 27, .inl x_policy_attributes)), (a_policy_schemes, .inl (G.2.1 2, 4, .inr (.inl x_policy_schemes))), ob_X1 a_target a_target_row q24.1 q24.2.1, (a_target_row, .inl (G.2.1 0, 200, .inl q24.2.2)), (a_unended, .inl (G.2.1 1, 8, .inl x_unended)), ob_X7 a_a1 a_a1_codes a_a1_begins a_a1_ends x_a1_count a_a1_characters a_a1_attributeLetters a_a1_valueBegins a_a1_valueEnds x_a1_attributeCount a_a1_values, (a_a1_codes, .inl (G.2.1 1, 200, .inl x_a1_codes)), (a_a1_begins, .inl (G.2.1 1, 200, .inl x_a1_begins)), (a_a1_ends, .inl (G.2.1 1, 200, .inl x_a1_ends)), ob_X1 a_a1_characters a_a1_characters_row x_a1_characters_size x_a1_characters_overflowed, (a_a1_characters_row, .inl (G.2.1 0, 200, .inl x_a1_characters_row)), (a_a1_attributeLetters, .inl (G.2.1 1, 100, .inl x_a1_attributeLetters)), (a_a1_valueBegins, .inl (G.2.1 1, 100, .inl x_a1_valueBegins)), (a_a1_valueEnds, .inl (G.2.1 1, 100, .inl x_a1_valueEnds)), ob_X1 a_a1_values a_a1_values_row x_a1_values_size x_a1_values_overflowed, (a_a1_values_row, .inl (G.2.1 0, 200, .inl x_a1_values_row))] := hW
    refine W.eq (g2 := F0 m 27 ls []) rfl ?_
    exact wb_X8_writeNode_L27 hX h hW (lv_sub hl [0, 1, 2] rfl)
def rm_X8_writeAll : Room := { frames := 9, cells := 0, slots := 0, locals := 201 }
def f_X8_writeAll_L62 (x_policy_schemeCount : Int32) (x_policy_actions : Nat → Int32) (x_policy_attributes : Nat → Int32) (x_policy_schemes : Nat → Int64) (x_a1_count : Int32) (x_a1_attributeCount : Int32) (x_a1_codes : Nat → Int32) (x_a1_begins : Nat → Int32) (x_a1_ends : Nat → Int32) (x_a1_characters_size : Int32) (x_a1_characters_row : Nat → Int32) (x_a1_attributeLetters : Nat → Int32) (x_a1_valueBegins : Nat → Int32) (x_a1_valueEnds : Nat → Int32) (x_a1_values_size : Int32) (x_a1_values_row : Nat → Int32) (kk : Int32 → Int32 → Int32 → (Nat → Int32) → (Nat → Int32) → Int32 → Int32 → Option (Int32 × Int32 × Int32 × (Nat → Int32) × (Nat → Int32))) (x_unendedCount : Int32) (x_target_size : Int32) (x_target_overflowed : Int32) (x_target_row : Nat → Int32) (x_unended : Nat → Int32) (v2 : Int32) (v3 : Int32) : Option (Int32 × Int32 × Int32 × (Nat → Int32) × (Nat → Int32)) := kk x_unendedCount x_target_size x_target_overflowed x_target_row x_unended v2 (v3 + 1)
set_option maxHeartbeats 4000000 in
set_option maxRecDepth 100000 in
theorem wb_X8_writeAll_L62 {p : Program} {l : Launch} {e : Env} {s : State} {m : MethodId} {args : Array Value} {below : List Frame} {meth : Method} {c : Code} {G : Gc} {A : Nat → Prop} {H : Heap} {locs : List Loc} {ls : Array Slot} {a_this : Nat} {a_policy : Nat} {a_target : Nat} {a_unended : Nat} {a_policy_actions : Nat} {a_policy_attributes : Nat} {a_policy_schemes : Nat} {a_target_row : Nat} {a_a1 : Nat} {a_a1_codes : Nat} {a_a1_begins : Nat} {a_a1_ends : Nat} {a_a1_characters : Nat} {a_a1_attributeLetters : Nat} {a_a1_valueBegins : Nat} {a_a1_valueEnds : Nat} {a_a1_values : Nat} {a_a1_characters_row : Nat} {a_a1_values_row : Nat} {x_policy_schemeCount : Int32} {x_policy_actions : Nat → Int32} {x_policy_attributes : Nat → Int32} {x_policy_schemes : Nat → Int64} {x_a1_count : Int32} {x_a1_attributeCount : Int32} {x_a1_codes : Nat → Int32} {x_a1_begins : Nat → Int32} {x_a1_ends : Nat → Int32} {x_a1_characters_size : Int32} {x_a1_characters_overflowed : Int32} {x_a1_characters_row : Nat → Int32} {x_a1_attributeLetters : Nat → Int32} {x_a1_valueBegins : Nat → Int32} {x_a1_valueEnds : Nat → Int32} {x_a1_values_size : Int32} {x_a1_values_overflowed : Int32} {x_a1_values_row : Nat → Int32}  {kk : Int32 → Int32 → Int32 → (Nat → Int32) → (Nat → Int32) → Int32 → Int32 → Option (Int32 × Int32 × Int32 × (Nat → Int32) × (Nat → Int32))} {Q : State → Prop} {x_unendedCount : Int32} {x_target_size : Int32} {x_target_overflowed : Int32} {x_target_row : Nat → Int32} {x_unended : Nat → Int32} {v2 : Int32} {v3 : Int32} {o : Int32 × Int32 × Int32 × (Nat → Int32) × (Nat → Int32)} (hX : ms_CX p s m args meth c cX8_writeAll 5 RX8 (some .boolean) G A) (hq : ∀ (H : Heap) (locs : List Loc) (ls : Array Slot), ms_W G A s H locs [ob_X8 a_this a_policy a_target a_unended o.1, ob_X3 a_policy a_policy_actions a_policy_attributes a_policy_schemes x_policy_schemeCount, (a_policy_actions, .inl (G.2.1 1, 26, .inl x_policy_actions)), (a_policy_attributes, .inl (G.2.1 1, 27, .inl x_policy_attributes)), (a_policy_schemes, .inl (G.2.1 2, 4, .inr (.inl x_policy_schemes))), ob_X1 a_target a_target_row o.2.1 o.2.2.1, (a_target_row, .inl (G.2.1 0, 200, .inl o.2.2.2.1)), (a_unended, .inl (G.2.1 1, 8, .inl o.2.2.2.2)), ob_X7 a_a1 a_a1_codes a_a1_begins a_a1_ends x_a1_count a_a1_characters a_a1_attributeLetters a_a1_valueBegins a_a1_valueEnds x_a1_attributeCount a_a1_values, (a_a1_codes, .inl (G.2.1 1, 200, .inl x_a1_codes)), (a_a1_begins, .inl (G.2.1 1, 200, .inl x_a1_begins)), (a_a1_ends, .inl (G.2.1 1, 200, .inl x_a1_ends)), ob_X1 a_a1_characters a_a1_characters_row x_a1_characters_size x_a1_characters_overflowed, (a_a1_characters_row, .inl (G.2.1 0, 200, .inl x_a1_characters_row)), (a_a1_attributeLetters, .inl (G.2.1 1, 100, .inl x_a1_attributeLetters)), (a_a1_valueBegins, .inl (G.2.1 1, 100, .inl x_a1_valueBegins)), (a_a1_valueEnds, .inl (G.2.1 1, 100, .inl x_a1_valueEnds)), ob_X1 a_a1_values a_a1_values_row x_a1_values_size x_a1_values_overflowed, (a_a1_values_row, .inl (G.2.1 0, 200, .inl x_a1_values_row))] → lv_has ls 5 [(0, .ref a_this), (1, .ref a_a1)] → W p l e rm_X8_writeAll s m args below meth c H locs 0 0 Q (F0 m 68 ls [])) (ih : ∀ (x_unendedCount : Int32) (x_target_size : Int32) (x_target_overflowed : Int32) (x_target_row : Nat → Int32) (x_unended : Nat → Int32) (v2 : Int32) (v3 : Int32) (H : Heap) (locs : List Loc) (ls : Array Slot), kk x_unendedCount x_target_size x_target_overflowed x_target_row x_unended v2 v3 = some o → ms_W G A s H locs [ob_X8 a_this a_policy a_target a_unended x_unendedCount, ob_X3 a_policy a_policy_actions a_policy_attributes a_policy_schemes x_policy_schemeCount, (a_policy_actions, .inl (G.2.1 1, 26, .inl x_policy_actions)), (a_policy_attributes, .inl (G.2.1 1, 27, .inl x_policy_attributes)), (a_policy_schemes, .inl (G.2.1 2, 4, .inr (.inl x_policy_schemes))), ob_X1 a_target a_target_row x_target_size x_target_overflowed, (a_target_row, .inl (G.2.1 0, 200, .inl x_target_row)), (a_unended, .inl (G.2.1 1, 8, .inl x_unended)), ob_X7 a_a1 a_a1_codes a_a1_begins a_a1_ends x_a1_count a_a1_characters a_a1_attributeLetters a_a1_valueBegins a_a1_valueEnds x_a1_attributeCount a_a1_values, (a_a1_codes, .inl (G.2.1 1, 200, .inl x_a1_codes)), (a_a1_begins, .inl (G.2.1 1, 200, .inl x_a1_begins)), (a_a1_ends, .inl (G.2.1 1, 200, .inl x_a1_ends)), ob_X1 a_a1_characters a_a1_characters_row x_a1_characters_size x_a1_characters_overflowed, (a_a1_characters_row, .inl (G.2.1 0, 200, .inl x_a1_characters_row)), (a_a1_attributeLetters, .inl (G.2.1 1, 100, .inl x_a1_attributeLetters)), (a_a1_valueBegins, .inl (G.2.1 1, 100, .inl x_a1_valueBegins)), (a_a1_valueEnds, .inl (G.2.1 1, 100, .inl x_a1_valueEnds)), ob_X1 a_a1_values a_a1_values_row x_a1_values_size x_a1_values_overflowed, (a_a1_values_row, .inl (G.2.1 0, 200, .inl x_a1_values_row))] → lv_has ls 5 [(0, .ref a_this), (1, .ref a_a1), (2, .int v2), (3, .int v3)] → W p l e rm_X8_writeAll s m args below meth c H locs 0 0 Q (F0 m 17 ls [])) (h : f_X8_writeAll_L62 x_policy_schemeCount x_policy_actions x_policy_attributes x_policy_schemes x_a1_count x_a1_attributeCount x_a1_codes x_a1_begins x_a1_ends x_a1_characters_size x_a1_characters_row x_a1_attributeLetters x_a1_valueBegins x_a1_valueEnds x_a1_values_size x_a1_values_row kk x_unendedCount x_target_size x_target_overflowed x_target_row x_unended v2 v3 = some o) (hW : ms_W G A s H locs [ob_X8 a_this a_policy a_target a_unended x_unendedCount, ob_X3 a_policy a_policy_actions a_policy_attributes a_policy_schemes x_policy_schemeCount, (a_policy_actions, .inl (G.2.1 1, 26, .inl x_policy_actions)), (a_policy_attributes, .inl (G.2.1 1, 27, .inl x_policy_attributes)), (a_policy_schemes, .inl (G.2.1 2, 4, .inr (.inl x_policy_schemes))), ob_X1 a_target a_target_row x_target_size x_target_overflowed, (a_target_row, .inl (G.2.1 0, 200, .inl x_target_row)), (a_unended, .inl (G.2.1 1, 8, .inl x_unended)), ob_X7 a_a1 a_a1_codes a_a1_begins a_a1_ends x_a1_count a_a1_characters a_a1_attributeLetters a_a1_valueBegins a_a1_valueEnds x_a1_attributeCount a_a1_values, (a_a1_codes, .inl (G.2.1 1, 200, .inl x_a1_codes)), (a_a1_begins, .inl (G.2.1 1, 200, .inl x_a1_begins)), (a_a1_ends, .inl (G.2.1 1, 200, .inl x_a1_ends)), ob_X1 a_a1_characters a_a1_characters_row x_a1_characters_size x_a1_characters_overflowed, (a_a1_characters_row, .inl (G.2.1 0, 200, .inl x_a1_characters_row)), (a_a1_attributeLetters, .inl (G.2.1 1, 100, .inl x_a1_attributeLetters)), (a_a1_valueBegins, .inl (G.2.1 1, 100, .inl x_a1_valueBegins)), (a_a1_valueEnds, .inl (G.2.1 1, 100, .inl x_a1_valueEnds)), ob_X1 a_a1_values a_a1_values_row x_a1_values_size x_a1_values_overflowed, (a_a1_values_row, .inl (G.2.1 0, 200, .inl x_a1_values_row))]) (hl : lv_has ls 5 [(0, .ref a_this), (1, .ref a_a1), (2, .int v2), (3, .int v3)]) : W p l e rm_X8_writeAll s m args below meth c H locs 0 0 Q (F0 m 62 ls []) := by
  have hx := hX.1.1
  have hb := hX.1.2.1
  unfold f_X8_writeAll_L62 at h
  refine lv_iinc (v := v3 + 1) (lv' := [(3, .int (v3 + 1)), (0, .ref a_this), (1, .ref a_a1), (2, .int v2)]) hx hb dX8_writeAll_62 hl (k := 3) rfl rfl (by decide) rfl (fun ls hl => ?_)
  refine lv_goto (tgt := 17) hx hb dX8_writeAll_65 (by decide) ?_
  exact ih _ _ _ _ _ _ _ _ _ _ h hW (lv_sub hl [1, 2, 3, 0] rfl)
def f_X8_writeAll_L61 (x_policy_schemeCount : Int32) (x_policy_actions : Nat → Int32) (x_policy_attributes : Nat → Int32) (x_policy_schemes : Nat → Int64) (x_a1_count : Int32) (x_a1_attributeCount : Int32) (x_a1_codes : Nat → Int32) (x_a1_begins : Nat → Int32) (x_a1_ends : Nat → Int32) (x_a1_characters_size : Int32) (x_a1_characters_row : Nat → Int32) (x_a1_attributeLetters : Nat → Int32) (x_a1_valueBegins : Nat → Int32) (x_a1_valueEnds : Nat → Int32) (x_a1_values_size : Int32) (x_a1_values_row : Nat → Int32) (kk : Int32 → Int32 → Int32 → (Nat → Int32) → (Nat → Int32) → Int32 → Int32 → Option (Int32 × Int32 × Int32 × (Nat → Int32) × (Nat → Int32))) (x_unendedCount : Int32) (x_target_size : Int32) (x_target_overflowed : Int32) (x_target_row : Nat → Int32) (x_unended : Nat → Int32) (v3 : Int32) (z0 : Int32) : Option (Int32 × Int32 × Int32 × (Nat → Int32) × (Nat → Int32)) := f_X8_writeAll_L62 x_policy_schemeCount x_policy_actions x_policy_attributes x_policy_schemes x_a1_count x_a1_attributeCount x_a1_codes x_a1_begins x_a1_ends x_a1_characters_size x_a1_characters_row x_a1_attributeLetters x_a1_valueBegins x_a1_valueEnds x_a1_values_size x_a1_values_row (kk) x_unendedCount x_target_size x_target_overflowed x_target_row x_unended z0 v3
set_option maxHeartbeats 4000000 in
set_option maxRecDepth 100000 in
theorem wb_X8_writeAll_L61 {p : Program} {l : Launch} {e : Env} {s : State} {m : MethodId} {args : Array Value} {below : List Frame} {meth : Method} {c : Code} {G : Gc} {A : Nat → Prop} {H : Heap} {locs : List Loc} {ls : Array Slot} {a_this : Nat} {a_policy : Nat} {a_target : Nat} {a_unended : Nat} {a_policy_actions : Nat} {a_policy_attributes : Nat} {a_policy_schemes : Nat} {a_target_row : Nat} {a_a1 : Nat} {a_a1_codes : Nat} {a_a1_begins : Nat} {a_a1_ends : Nat} {a_a1_characters : Nat} {a_a1_attributeLetters : Nat} {a_a1_valueBegins : Nat} {a_a1_valueEnds : Nat} {a_a1_values : Nat} {a_a1_characters_row : Nat} {a_a1_values_row : Nat} {x_policy_schemeCount : Int32} {x_policy_actions : Nat → Int32} {x_policy_attributes : Nat → Int32} {x_policy_schemes : Nat → Int64} {x_a1_count : Int32} {x_a1_attributeCount : Int32} {x_a1_codes : Nat → Int32} {x_a1_begins : Nat → Int32} {x_a1_ends : Nat → Int32} {x_a1_characters_size : Int32} {x_a1_characters_overflowed : Int32} {x_a1_characters_row : Nat → Int32} {x_a1_attributeLetters : Nat → Int32} {x_a1_valueBegins : Nat → Int32} {x_a1_valueEnds : Nat → Int32} {x_a1_values_size : Int32} {x_a1_values_overflowed : Int32} {x_a1_values_row : Nat → Int32}  {kk : Int32 → Int32 → Int32 → (Nat → Int32) → (Nat → Int32) → Int32 → Int32 → Option (Int32 × Int32 × Int32 × (Nat → Int32) × (Nat → Int32))} {Q : State → Prop} {x_unendedCount : Int32} {x_target_size : Int32} {x_target_overflowed : Int32} {x_target_row : Nat → Int32} {x_unended : Nat → Int32} {v3 : Int32} {z0 : Int32} {o : Int32 × Int32 × Int32 × (Nat → Int32) × (Nat → Int32)} (hX : ms_CX p s m args meth c cX8_writeAll 5 RX8 (some .boolean) G A) (hq : ∀ (H : Heap) (locs : List Loc) (ls : Array Slot), ms_W G A s H locs [ob_X8 a_this a_policy a_target a_unended o.1, ob_X3 a_policy a_policy_actions a_policy_attributes a_policy_schemes x_policy_schemeCount, (a_policy_actions, .inl (G.2.1 1, 26, .inl x_policy_actions)), (a_policy_attributes, .inl (G.2.1 1, 27, .inl x_policy_attributes)), (a_policy_schemes, .inl (G.2.1 2, 4, .inr (.inl x_policy_schemes))), ob_X1 a_target a_target_row o.2.1 o.2.2.1, (a_target_row, .inl (G.2.1 0, 200, .inl o.2.2.2.1)), (a_unended, .inl (G.2.1 1, 8, .inl o.2.2.2.2)), ob_X7 a_a1 a_a1_codes a_a1_begins a_a1_ends x_a1_count a_a1_characters a_a1_attributeLetters a_a1_valueBegins a_a1_valueEnds x_a1_attributeCount a_a1_values, (a_a1_codes, .inl (G.2.1 1, 200, .inl x_a1_codes)), (a_a1_begins, .inl (G.2.1 1, 200, .inl x_a1_begins)), (a_a1_ends, .inl (G.2.1 1, 200, .inl x_a1_ends)), ob_X1 a_a1_characters a_a1_characters_row x_a1_characters_size x_a1_characters_overflowed, (a_a1_characters_row, .inl (G.2.1 0, 200, .inl x_a1_characters_row)), (a_a1_attributeLetters, .inl (G.2.1 1, 100, .inl x_a1_attributeLetters)), (a_a1_valueBegins, .inl (G.2.1 1, 100, .inl x_a1_valueBegins)), (a_a1_valueEnds, .inl (G.2.1 1, 100, .inl x_a1_valueEnds)), ob_X1 a_a1_values a_a1_values_row x_a1_values_size x_a1_values_overflowed, (a_a1_values_row, .inl (G.2.1 0, 200, .inl x_a1_values_row))] → lv_has ls 5 [(0, .ref a_this), (1, .ref a_a1)] → W p l e rm_X8_writeAll s m args below meth c H locs 0 0 Q (F0 m 68 ls [])) (ih : ∀ (x_unendedCount : Int32) (x_target_size : Int32) (x_target_overflowed : Int32) (x_target_row : Nat → Int32) (x_unended : Nat → Int32) (v2 : Int32) (v3 : Int32) (H : Heap) (locs : List Loc) (ls : Array Slot), kk x_unendedCount x_target_size x_target_overflowed x_target_row x_unended v2 v3 = some o → ms_W G A s H locs [ob_X8 a_this a_policy a_target a_unended x_unendedCount, ob_X3 a_policy a_policy_actions a_policy_attributes a_policy_schemes x_policy_schemeCount, (a_policy_actions, .inl (G.2.1 1, 26, .inl x_policy_actions)), (a_policy_attributes, .inl (G.2.1 1, 27, .inl x_policy_attributes)), (a_policy_schemes, .inl (G.2.1 2, 4, .inr (.inl x_policy_schemes))), ob_X1 a_target a_target_row x_target_size x_target_overflowed, (a_target_row, .inl (G.2.1 0, 200, .inl x_target_row)), (a_unended, .inl (G.2.1 1, 8, .inl x_unended)), ob_X7 a_a1 a_a1_codes a_a1_begins a_a1_ends x_a1_count a_a1_characters a_a1_attributeLetters a_a1_valueBegins a_a1_valueEnds x_a1_attributeCount a_a1_values, (a_a1_codes, .inl (G.2.1 1, 200, .inl x_a1_codes)), (a_a1_begins, .inl (G.2.1 1, 200, .inl x_a1_begins)), (a_a1_ends, .inl (G.2.1 1, 200, .inl x_a1_ends)), ob_X1 a_a1_characters a_a1_characters_row x_a1_characters_size x_a1_characters_overflowed, (a_a1_characters_row, .inl (G.2.1 0, 200, .inl x_a1_characters_row)), (a_a1_attributeLetters, .inl (G.2.1 1, 100, .inl x_a1_attributeLetters)), (a_a1_valueBegins, .inl (G.2.1 1, 100, .inl x_a1_valueBegins)), (a_a1_valueEnds, .inl (G.2.1 1, 100, .inl x_a1_valueEnds)), ob_X1 a_a1_values a_a1_values_row x_a1_values_size x_a1_values_overflowed, (a_a1_values_row, .inl (G.2.1 0, 200, .inl x_a1_values_row))] → lv_has ls 5 [(0, .ref a_this), (1, .ref a_a1), (2, .int v2), (3, .int v3)] → W p l e rm_X8_writeAll s m args below meth c H locs 0 0 Q (F0 m 17 ls [])) (h : f_X8_writeAll_L61 x_policy_schemeCount x_policy_actions x_policy_attributes x_policy_schemes x_a1_count x_a1_attributeCount x_a1_codes x_a1_begins x_a1_ends x_a1_characters_size x_a1_characters_row x_a1_attributeLetters x_a1_valueBegins x_a1_valueEnds x_a1_values_size x_a1_values_row kk x_unendedCount x_target_size x_target_overflowed x_target_row x_unended v3 z0 = some o) (hW : ms_W G A s H locs [ob_X8 a_this a_policy a_target a_unended x_unendedCount, ob_X3 a_policy a_policy_actions a_policy_attributes a_policy_schemes x_policy_schemeCount, (a_policy_actions, .inl (G.2.1 1, 26, .inl x_policy_actions)), (a_policy_attributes, .inl (G.2.1 1, 27, .inl x_policy_attributes)), (a_policy_schemes, .inl (G.2.1 2, 4, .inr (.inl x_policy_schemes))), ob_X1 a_target a_target_row x_target_size x_target_overflowed, (a_target_row, .inl (G.2.1 0, 200, .inl x_target_row)), (a_unended, .inl (G.2.1 1, 8, .inl x_unended)), ob_X7 a_a1 a_a1_codes a_a1_begins a_a1_ends x_a1_count a_a1_characters a_a1_attributeLetters a_a1_valueBegins a_a1_valueEnds x_a1_attributeCount a_a1_values, (a_a1_codes, .inl (G.2.1 1, 200, .inl x_a1_codes)), (a_a1_begins, .inl (G.2.1 1, 200, .inl x_a1_begins)), (a_a1_ends, .inl (G.2.1 1, 200, .inl x_a1_ends)), ob_X1 a_a1_characters a_a1_characters_row x_a1_characters_size x_a1_characters_overflowed, (a_a1_characters_row, .inl (G.2.1 0, 200, .inl x_a1_characters_row)), (a_a1_attributeLetters, .inl (G.2.1 1, 100, .inl x_a1_attributeLetters)), (a_a1_valueBegins, .inl (G.2.1 1, 100, .inl x_a1_valueBegins)), (a_a1_valueEnds, .inl (G.2.1 1, 100, .inl x_a1_valueEnds)), ob_X1 a_a1_values a_a1_values_row x_a1_values_size x_a1_values_overflowed, (a_a1_values_row, .inl (G.2.1 0, 200, .inl x_a1_values_row))]) (hl : lv_has ls 5 [(0, .ref a_this), (1, .ref a_a1), (3, .int v3)]) : W p l e rm_X8_writeAll s m args below meth c H locs 0 0 Q (F0 m 61 ls [.int z0]) := by
  have hx := hX.1.1
  have hb := hX.1.2.1
  unfold f_X8_writeAll_L61 at h
  refine lv_istore_n (lv' := [(2, .int z0), (0, .ref a_this), (1, .ref a_a1), (3, .int v3)]) hx hb dX8_writeAll_61 rfl hl (by decide) rfl (fun ls hl => ?_)
  exact wb_X8_writeAll_L62 hX hq (ih) h hW (lv_sub hl [1, 2, 0, 3] rfl)
def f_X8_writeAll_L17 (x_policy_schemeCount : Int32) (x_policy_actions : Nat → Int32) (x_policy_attributes : Nat → Int32) (x_policy_schemes : Nat → Int64) (x_a1_count : Int32) (x_a1_attributeCount : Int32) (x_a1_codes : Nat → Int32) (x_a1_begins : Nat → Int32) (x_a1_ends : Nat → Int32) (x_a1_characters_size : Int32) (x_a1_characters_row : Nat → Int32) (x_a1_attributeLetters : Nat → Int32) (x_a1_valueBegins : Nat → Int32) (x_a1_valueEnds : Nat → Int32) (x_a1_values_size : Int32) (x_a1_values_row : Nat → Int32) : Nat → Int32 → Int32 → Int32 → (Nat → Int32) → (Nat → Int32) → Int32 → Int32 → Option (Int32 × Int32 × Int32 × (Nat → Int32) × (Nat → Int32))
  | 0, _, _, _, _, _, _, _ => none
  | n + 1, x_unendedCount, x_target_size, x_target_overflowed, x_target_row, x_unended, v2, v3 => (f_X7_size x_a1_count).bind (fun q19 => (if q19 ≤ v3 then some (x_unendedCount, x_target_size, x_target_overflowed, x_target_row, x_unended) else (f_X7_depthOf x_a1_count x_a1_codes v3).bind (fun q27 => (if v2 < q27 then f_X8_writeAll_L62 x_policy_schemeCount x_policy_actions x_policy_attributes x_policy_schemes x_a1_count x_a1_attributeCount x_a1_codes x_a1_begins x_a1_ends x_a1_characters_size x_a1_characters_row x_a1_attributeLetters x_a1_valueBegins x_a1_valueEnds x_a1_values_size x_a1_values_row (f_X8_writeAll_L17 x_policy_schemeCount x_policy_actions x_policy_attributes x_policy_schemes x_a1_count x_a1_attributeCount x_a1_codes x_a1_begins x_a1_ends x_a1_characters_size x_a1_characters_row x_a1_attributeLetters x_a1_valueBegins x_a1_valueEnds x_a1_values_size x_a1_values_row n) x_unendedCount x_target_size x_target_overflowed x_target_row x_unended v2 v3 else (f_X8_writeEnds x_unendedCount x_target_size x_target_overflowed x_target_row x_unended x_a1_count x_a1_codes q27).bind (fun q42 => (f_X8_writeNode q42.1 x_policy_schemeCount x_policy_actions x_policy_attributes x_policy_schemes q42.2.1 q42.2.2.1 q42.2.2.2 x_unended x_a1_count x_a1_attributeCount x_a1_codes x_a1_begins x_a1_ends x_a1_characters_size x_a1_characters_row x_a1_attributeLetters x_a1_valueBegins x_a1_valueEnds x_a1_values_size x_a1_values_row v3).bind (fun q48 => (if q48.2.2.2.2.2 = 0 then f_X8_writeAll_L61 x_policy_schemeCount x_policy_actions x_policy_attributes x_policy_schemes x_a1_count x_a1_attributeCount x_a1_codes x_a1_begins x_a1_ends x_a1_characters_size x_a1_characters_row x_a1_attributeLetters x_a1_valueBegins x_a1_valueEnds x_a1_values_size x_a1_values_row (f_X8_writeAll_L17 x_policy_schemeCount x_policy_actions x_policy_attributes x_policy_schemes x_a1_count x_a1_attributeCount x_a1_codes x_a1_begins x_a1_ends x_a1_characters_size x_a1_characters_row x_a1_attributeLetters x_a1_valueBegins x_a1_valueEnds x_a1_values_size x_a1_values_row n) q48.1 q48.2.1 q48.2.2.1 q48.2.2.2.1 q48.2.2.2.2.1 v3 q27 else f_X8_writeAll_L61 x_policy_schemeCount x_policy_actions x_policy_attributes x_policy_schemes x_a1_count x_a1_attributeCount x_a1_codes x_a1_begins x_a1_ends x_a1_characters_size x_a1_characters_row x_a1_attributeLetters x_a1_valueBegins x_a1_valueEnds x_a1_values_size x_a1_values_row (f_X8_writeAll_L17 x_policy_schemeCount x_policy_actions x_policy_attributes x_policy_schemes x_a1_count x_a1_attributeCount x_a1_codes x_a1_begins x_a1_ends x_a1_characters_size x_a1_characters_row x_a1_attributeLetters x_a1_valueBegins x_a1_valueEnds x_a1_values_size x_a1_values_row n) q48.1 q48.2.1 q48.2.2.1 q48.2.2.2.1 q48.2.2.2.2.1 v3 9)))))))
set_option maxHeartbeats 4000000 in
set_option maxRecDepth 100000 in
theorem wb_X8_writeAll_L17 {p : Program} {l : Launch} {e : Env} {s : State} {m : MethodId} {args : Array Value} {below : List Frame} {meth : Method} {c : Code} {G : Gc} {A : Nat → Prop} {a_this : Nat} {a_policy : Nat} {a_target : Nat} {a_unended : Nat} {a_policy_actions : Nat} {a_policy_attributes : Nat} {a_policy_schemes : Nat} {a_target_row : Nat} {a_a1 : Nat} {a_a1_codes : Nat} {a_a1_begins : Nat} {a_a1_ends : Nat} {a_a1_characters : Nat} {a_a1_attributeLetters : Nat} {a_a1_valueBegins : Nat} {a_a1_valueEnds : Nat} {a_a1_values : Nat} {a_a1_characters_row : Nat} {a_a1_values_row : Nat} {x_policy_schemeCount : Int32} {x_policy_actions : Nat → Int32} {x_policy_attributes : Nat → Int32} {x_policy_schemes : Nat → Int64} {x_a1_count : Int32} {x_a1_attributeCount : Int32} {x_a1_codes : Nat → Int32} {x_a1_begins : Nat → Int32} {x_a1_ends : Nat → Int32} {x_a1_characters_size : Int32} {x_a1_characters_overflowed : Int32} {x_a1_characters_row : Nat → Int32} {x_a1_attributeLetters : Nat → Int32} {x_a1_valueBegins : Nat → Int32} {x_a1_valueEnds : Nat → Int32} {x_a1_values_size : Int32} {x_a1_values_overflowed : Int32} {x_a1_values_row : Nat → Int32}  {Q : State → Prop} {o : Int32 × Int32 × Int32 × (Nat → Int32) × (Nat → Int32)} (hX : ms_CX p s m args meth c cX8_writeAll 5 RX8 (some .boolean) G A) (hq : ∀ (H : Heap) (locs : List Loc) (ls : Array Slot), ms_W G A s H locs [ob_X8 a_this a_policy a_target a_unended o.1, ob_X3 a_policy a_policy_actions a_policy_attributes a_policy_schemes x_policy_schemeCount, (a_policy_actions, .inl (G.2.1 1, 26, .inl x_policy_actions)), (a_policy_attributes, .inl (G.2.1 1, 27, .inl x_policy_attributes)), (a_policy_schemes, .inl (G.2.1 2, 4, .inr (.inl x_policy_schemes))), ob_X1 a_target a_target_row o.2.1 o.2.2.1, (a_target_row, .inl (G.2.1 0, 200, .inl o.2.2.2.1)), (a_unended, .inl (G.2.1 1, 8, .inl o.2.2.2.2)), ob_X7 a_a1 a_a1_codes a_a1_begins a_a1_ends x_a1_count a_a1_characters a_a1_attributeLetters a_a1_valueBegins a_a1_valueEnds x_a1_attributeCount a_a1_values, (a_a1_codes, .inl (G.2.1 1, 200, .inl x_a1_codes)), (a_a1_begins, .inl (G.2.1 1, 200, .inl x_a1_begins)), (a_a1_ends, .inl (G.2.1 1, 200, .inl x_a1_ends)), ob_X1 a_a1_characters a_a1_characters_row x_a1_characters_size x_a1_characters_overflowed, (a_a1_characters_row, .inl (G.2.1 0, 200, .inl x_a1_characters_row)), (a_a1_attributeLetters, .inl (G.2.1 1, 100, .inl x_a1_attributeLetters)), (a_a1_valueBegins, .inl (G.2.1 1, 100, .inl x_a1_valueBegins)), (a_a1_valueEnds, .inl (G.2.1 1, 100, .inl x_a1_valueEnds)), ob_X1 a_a1_values a_a1_values_row x_a1_values_size x_a1_values_overflowed, (a_a1_values_row, .inl (G.2.1 0, 200, .inl x_a1_values_row))] → lv_has ls 5 [(0, .ref a_this), (1, .ref a_a1)] → W p l e rm_X8_writeAll s m args below meth c H locs 0 0 Q (F0 m 68 ls [])) : ∀ (n : Nat) (x_unendedCount : Int32) (x_target_size : Int32) (x_target_overflowed : Int32) (x_target_row : Nat → Int32) (x_unended : Nat → Int32) (v2 : Int32) (v3 : Int32) (H : Heap) (locs : List Loc) (ls : Array Slot), f_X8_writeAll_L17 x_policy_schemeCount x_policy_actions x_policy_attributes x_policy_schemes x_a1_count x_a1_attributeCount x_a1_codes x_a1_begins x_a1_ends x_a1_characters_size x_a1_characters_row x_a1_attributeLetters x_a1_valueBegins x_a1_valueEnds x_a1_values_size x_a1_values_row n x_unendedCount x_target_size x_target_overflowed x_target_row x_unended v2 v3 = some o → ms_W G A s H locs [ob_X8 a_this a_policy a_target a_unended x_unendedCount, ob_X3 a_policy a_policy_actions a_policy_attributes a_policy_schemes x_policy_schemeCount, (a_policy_actions, .inl (G.2.1 1, 26, .inl x_policy_actions)), (a_policy_attributes, .inl (G.2.1 1, 27, .inl x_policy_attributes)), (a_policy_schemes, .inl (G.2.1 2, 4, .inr (.inl x_policy_schemes))), ob_X1 a_target a_target_row x_target_size x_target_overflowed, (a_target_row, .inl (G.2.1 0, 200, .inl x_target_row)), (a_unended, .inl (G.2.1 1, 8, .inl x_unended)), ob_X7 a_a1 a_a1_codes a_a1_begins a_a1_ends x_a1_count a_a1_characters a_a1_attributeLetters a_a1_valueBegins a_a1_valueEnds x_a1_attributeCount a_a1_values, (a_a1_codes, .inl (G.2.1 1, 200, .inl x_a1_codes)), (a_a1_begins, .inl (G.2.1 1, 200, .inl x_a1_begins)), (a_a1_ends, .inl (G.2.1 1, 200, .inl x_a1_ends)), ob_X1 a_a1_characters a_a1_characters_row x_a1_characters_size x_a1_characters_overflowed, (a_a1_characters_row, .inl (G.2.1 0, 200, .inl x_a1_characters_row)), (a_a1_attributeLetters, .inl (G.2.1 1, 100, .inl x_a1_attributeLetters)), (a_a1_valueBegins, .inl (G.2.1 1, 100, .inl x_a1_valueBegins)), (a_a1_valueEnds, .inl (G.2.1 1, 100, .inl x_a1_valueEnds)), ob_X1 a_a1_values a_a1_values_row x_a1_values_size x_a1_values_overflowed, (a_a1_values_row, .inl (G.2.1 0, 200, .inl x_a1_values_row))] → lv_has ls 5 [(0, .ref a_this), (1, .ref a_a1), (2, .int v2), (3, .int v3)] → W p l e rm_X8_writeAll s m args below meth c H locs 0 0 Q (F0 m 17 ls []) := by
  have hx := hX.1.1
  have hb := hX.1.2.1
  intro n
  induction n with
  | zero => intro x_unendedCount x_target_size x_target_overflowed x_target_row x_unended v2 v3 H locs ls h; rw [f_X8_writeAll_L17] at h; cases h
  | succ n ih =>
    intro x_unendedCount x_target_size x_target_overflowed x_target_row x_unended v2 v3 H locs ls h hW hl
    rw [f_X8_writeAll_L17] at h
    refine lv_iload_n hx hb dX8_writeAll_17 rfl (lv_at hl 3 rfl) ?_
    refine lv_aload_n hx hb dX8_writeAll_18 rfl (lv_at hl 1 rfl) ?_
    obtain ⟨q19, hq19, h⟩ := ms_bd h
    refine ms_callV (fn_X7_size l G a_a1 a_a1_codes a_a1_begins a_a1_ends a_a1_characters a_a1_attributeLetters a_a1_valueBegins a_a1_valueEnds a_a1_values x_a1_count x_a1_attributeCount hq19) wm_X7_size wv_X8_32 hX hW [8] rfl rfl rfl rfl rfl ⟨Nat.le_of_ble_eq_true rfl, Nat.le_of_ble_eq_true rfl, rfl, rfl, Nat.zero_le _, Nat.zero_le _⟩ rfl hl.1 [.int v3] rfl (Nat.le_of_ble_eq_true rfl) dX8_writeAll_19 (fun H locs hW => ?_)
    have hW : ms_W G A s H locs [ob_X8 a_this a_policy a_target a_unended x_unendedCount, ob_X3 a_policy a_policy_actions a_policy_attributes a_policy_schemes x_policy_schemeCount, (a_policy_actions, .inl (G.2.1 1, 26, .inl x_policy_actions)), (a_policy_attributes, .inl (G.2.1 1, 27, .inl x_policy_attributes)), (a_policy_schemes, .inl (G.2.1 2, 4, .inr (.inl x_policy_schemes))), ob_X1 a_target a_target_row x_target_size x_target_overflowed, (a_target_row, .inl (G.2.1 0, 200, .inl x_target_row)), (a_unended, .inl (G.2.1 1, 8, .inl x_unended)), ob_X7 a_a1 a_a1_codes a_a1_begins a_a1_ends x_a1_count a_a1_characters a_a1_attributeLetters a_a1_valueBegins a_a1_valueEnds x_a1_attributeCount a_a1_values, (a_a1_codes, .inl (G.2.1 1, 200, .inl x_a1_codes)), (a_a1_begins, .inl (G.2.1 1, 200, .inl x_a1_begins)), (a_a1_ends, .inl (G.2.1 1, 200, .inl x_a1_ends)), ob_X1 a_a1_characters a_a1_characters_row x_a1_characters_size x_a1_characters_overflowed, (a_a1_characters_row, .inl (G.2.1 0, 200, .inl x_a1_characters_row)), (a_a1_attributeLetters, .inl (G.2.1 1, 100, .inl x_a1_attributeLetters)), (a_a1_valueBegins, .inl (G.2.1 1, 100, .inl x_a1_valueBegins)), (a_a1_valueEnds, .inl (G.2.1 1, 100, .inl x_a1_valueEnds)), ob_X1 a_a1_values a_a1_values_row x_a1_values_size x_a1_values_overflowed, (a_a1_values_row, .inl (G.2.1 0, 200, .inl x_a1_values_row))] := hW
    refine W.eq (g2 := F0 m 22 ls [.int q19, .int v3]) rfl ?_
    refine lv_icmp_ge (tgt := 68) hx hb dX8_writeAll_22 (by decide) (fun k => ?_) (fun k => ?_)
    · have h := ms_ifp h k
      obtain rfl := Option.some.inj h
      exact hq _ _ _ hW (lv_sub hl [0, 1] rfl)
    · have h := ms_ifn h k
      refine lv_aload_n hx hb dX8_writeAll_25 rfl (lv_at hl 1 rfl) ?_
      refine lv_iload_n hx hb dX8_writeAll_26 rfl (lv_at hl 3 rfl) ?_
      obtain ⟨q27, hq27, h⟩ := ms_bd h
      refine ms_callV (fn_X7_depthOf l G a_a1 a_a1_codes a_a1_begins a_a1_ends a_a1_characters a_a1_attributeLetters a_a1_valueBegins a_a1_valueEnds a_a1_values x_a1_count x_a1_attributeCount x_a1_codes v3 hq27) wm_X7_depthOf wv_X8_38 hX hW [8, 9] rfl rfl rfl rfl rfl ⟨Nat.le_of_ble_eq_true rfl, Nat.le_of_ble_eq_true rfl, rfl, rfl, Nat.zero_le _, Nat.zero_le _⟩ rfl hl.1 [] rfl (Nat.le_of_ble_eq_true rfl) dX8_writeAll_27 (fun H locs hW => ?_)
      have hW : ms_W G A s H locs [ob_X8 a_this a_policy a_target a_unended x_unendedCount, ob_X3 a_policy a_policy_actions a_policy_attributes a_policy_schemes x_policy_schemeCount, (a_policy_actions, .inl (G.2.1 1, 26, .inl x_policy_actions)), (a_policy_attributes, .inl (G.2.1 1, 27, .inl x_policy_attributes)), (a_policy_schemes, .inl (G.2.1 2, 4, .inr (.inl x_policy_schemes))), ob_X1 a_target a_target_row x_target_size x_target_overflowed, (a_target_row, .inl (G.2.1 0, 200, .inl x_target_row)), (a_unended, .inl (G.2.1 1, 8, .inl x_unended)), ob_X7 a_a1 a_a1_codes a_a1_begins a_a1_ends x_a1_count a_a1_characters a_a1_attributeLetters a_a1_valueBegins a_a1_valueEnds x_a1_attributeCount a_a1_values, (a_a1_codes, .inl (G.2.1 1, 200, .inl x_a1_codes)), (a_a1_begins, .inl (G.2.1 1, 200, .inl x_a1_begins)), (a_a1_ends, .inl (G.2.1 1, 200, .inl x_a1_ends)), ob_X1 a_a1_characters a_a1_characters_row x_a1_characters_size x_a1_characters_overflowed, (a_a1_characters_row, .inl (G.2.1 0, 200, .inl x_a1_characters_row)), (a_a1_attributeLetters, .inl (G.2.1 1, 100, .inl x_a1_attributeLetters)), (a_a1_valueBegins, .inl (G.2.1 1, 100, .inl x_a1_valueBegins)), (a_a1_valueEnds, .inl (G.2.1 1, 100, .inl x_a1_valueEnds)), ob_X1 a_a1_values a_a1_values_row x_a1_values_size x_a1_values_overflowed, (a_a1_values_row, .inl (G.2.1 0, 200, .inl x_a1_values_row))] := hW
      refine W.eq (g2 := F0 m 30 ls [.int q27]) rfl ?_
      refine lv_istore (lv' := [(4, .int q27), (0, .ref a_this), (1, .ref a_a1), (2, .int v2), (3, .int v3)]) hx hb dX8_writeAll_30 hl (by decide) rfl (fun ls hl => ?_)
      refine lv_iload hx hb dX8_writeAll_32 (lv_at hl 0 rfl) ?_
      refine lv_iload_n hx hb dX8_writeAll_34 rfl (lv_at hl 3 rfl) ?_
      refine lv_icmp_gt (tgt := 62) hx hb dX8_writeAll_35 (by decide) (fun k => ?_) (fun k => ?_)
      · have h := ms_ifp h k
        exact wb_X8_writeAll_L62 hX hq (ih) h hW (lv_sub hl [1, 2, 3, 4] rfl)
      · have h := ms_ifn h k
        refine lv_aload_n hx hb dX8_writeAll_38 rfl (lv_at hl 1 rfl) ?_
        refine lv_aload_n hx hb dX8_writeAll_39 rfl (lv_at hl 2 rfl) ?_
        refine lv_iload hx hb dX8_writeAll_40 (lv_at hl 0 rfl) ?_
        obtain ⟨q42, hq42, h⟩ := ms_bd h
        refine ms_callV (fn_X8_writeEnds l G a_this a_policy a_target a_unended a_target_row a_a1 a_a1_codes a_a1_begins a_a1_ends a_a1_characters a_a1_attributeLetters a_a1_valueBegins a_a1_valueEnds a_a1_values x_unendedCount x_target_size x_target_overflowed x_target_row x_unended x_a1_count x_a1_attributeCount x_a1_codes q27 hq42) wm_X8_writeEnds wv_X8_42 hX hW [0, 5, 6, 7, 8, 9] rfl rfl rfl rfl rfl ⟨Nat.le_of_ble_eq_true rfl, Nat.le_of_ble_eq_true rfl, rfl, rfl, Nat.zero_le _, Nat.zero_le _⟩ rfl hl.1 [] rfl (Nat.le_of_ble_eq_true rfl) dX8_writeAll_42 (fun H locs hW => ?_)
        have hW : ms_W G A s H locs [ob_X8 a_this a_policy a_target a_unended q42.1, ob_X3 a_policy a_policy_actions a_policy_attributes a_policy_schemes x_policy_schemeCount, (a_policy_actions, .inl (G.2.1 1, 26, .inl x_policy_actions)), (a_policy_attributes, .inl (G.2.1 1, 27, .inl x_policy_attributes)), (a_policy_schemes, .inl (G.2.1 2, 4, .inr (.inl x_policy_schemes))), ob_X1 a_target a_target_row q42.2.1 q42.2.2.1, (a_target_row, .inl (G.2.1 0, 200, .inl q42.2.2.2)), (a_unended, .inl (G.2.1 1, 8, .inl x_unended)), ob_X7 a_a1 a_a1_codes a_a1_begins a_a1_ends x_a1_count a_a1_characters a_a1_attributeLetters a_a1_valueBegins a_a1_valueEnds x_a1_attributeCount a_a1_values, (a_a1_codes, .inl (G.2.1 1, 200, .inl x_a1_codes)), (a_a1_begins, .inl (G.2.1 1, 200, .inl x_a1_begins)), (a_a1_ends, .inl (G.2.1 1, 200, .inl x_a1_ends)), ob_X1 a_a1_characters a_a1_characters_row x_a1_characters_size x_a1_characters_overflowed, (a_a1_characters_row, .inl (G.2.1 0, 200, .inl x_a1_characters_row)), (a_a1_attributeLetters, .inl (G.2.1 1, 100, .inl x_a1_attributeLetters)), (a_a1_valueBegins, .inl (G.2.1 1, 100, .inl x_a1_valueBegins)), (a_a1_valueEnds, .inl (G.2.1 1, 100, .inl x_a1_valueEnds)), ob_X1 a_a1_values a_a1_values_row x_a1_values_size x_a1_values_overflowed, (a_a1_values_row, .inl (G.2.1 0, 200, .inl x_a1_values_row))] := hW
        refine W.eq (g2 := F0 m 45 ls []) rfl ?_
        refine lv_aload_n hx hb dX8_writeAll_45 rfl (lv_at hl 1 rfl) ?_
        refine lv_aload_n hx hb dX8_writeAll_46 rfl (lv_at hl 2 rfl) ?_
        refine lv_iload_n hx hb dX8_writeAll_47 rfl (lv_at hl 4 rfl) ?_
        obtain ⟨q48, hq48, h⟩ := ms_bd h
        refine ms_callV (fn_X8_writeNode l G a_this a_policy a_target a_unended a_policy_actions a_policy_attributes a_policy_schemes a_target_row a_a1 a_a1_codes a_a1_begins a_a1_ends a_a1_characters a_a1_attributeLetters a_a1_valueBegins a_a1_valueEnds a_a1_values a_a1_characters_row a_a1_values_row q42.1 x_policy_schemeCount x_policy_actions x_policy_attributes x_policy_schemes q42.2.1 q42.2.2.1 q42.2.2.2 x_unended x_a1_count x_a1_attributeCount x_a1_codes x_a1_begins x_a1_ends x_a1_characters_size x_a1_characters_overflowed x_a1_characters_row x_a1_attributeLetters x_a1_valueBegins x_a1_valueEnds x_a1_values_size x_a1_values_overflowed x_a1_values_row v3 hq48) wm_X8_writeNode wv_X8_46 hX hW [0, 1, 2, 3, 4, 5, 6, 7, 8, 9, 10, 11, 12, 13, 14, 15, 16, 17, 18] rfl rfl rfl rfl rfl ⟨Nat.le_of_ble_eq_true rfl, Nat.le_of_ble_eq_true rfl, rfl, rfl, Nat.zero_le _, Nat.zero_le _⟩ rfl hl.1 [] rfl (Nat.le_of_ble_eq_true rfl) dX8_writeAll_48 (fun H locs hW => ?_)
        have hW : ms_W G A s H locs [ob_X8 a_this a_policy a_target a_unended q48.1, ob_X3 a_policy a_policy_actions a_policy_attributes a_policy_schemes x_policy_schemeCount, (a_policy_actions, .inl (G.2.1 1, 26, .inl x_policy_actions)), (a_policy_attributes, .inl (G.2.1 1, 27, .inl x_policy_attributes)), (a_policy_schemes, .inl (G.2.1 2, 4, .inr (.inl x_policy_schemes))), ob_X1 a_target a_target_row q48.2.1 q48.2.2.1, (a_target_row, .inl (G.2.1 0, 200, .inl q48.2.2.2.1)), (a_unended, .inl (G.2.1 1, 8, .inl q48.2.2.2.2.1)), ob_X7 a_a1 a_a1_codes a_a1_begins a_a1_ends x_a1_count a_a1_characters a_a1_attributeLetters a_a1_valueBegins a_a1_valueEnds x_a1_attributeCount a_a1_values, (a_a1_codes, .inl (G.2.1 1, 200, .inl x_a1_codes)), (a_a1_begins, .inl (G.2.1 1, 200, .inl x_a1_begins)), (a_a1_ends, .inl (G.2.1 1, 200, .inl x_a1_ends)), ob_X1 a_a1_characters a_a1_characters_row x_a1_characters_size x_a1_characters_overflowed, (a_a1_characters_row, .inl (G.2.1 0, 200, .inl x_a1_characters_row)), (a_a1_attributeLetters, .inl (G.2.1 1, 100, .inl x_a1_attributeLetters)), (a_a1_valueBegins, .inl (G.2.1 1, 100, .inl x_a1_valueBegins)), (a_a1_valueEnds, .inl (G.2.1 1, 100, .inl x_a1_valueEnds)), ob_X1 a_a1_values a_a1_values_row x_a1_values_size x_a1_values_overflowed, (a_a1_values_row, .inl (G.2.1 0, 200, .inl x_a1_values_row))] := hW
        refine W.eq (g2 := F0 m 51 ls [.int q48.2.2.2.2.2]) rfl ?_
        refine lv_if_eq (tgt := 59) hx hb dX8_writeAll_51 (by decide) (fun k => ?_) (fun k => ?_)
        · have h := ms_ifp h k
          refine lv_iload hx hb dX8_writeAll_59 (lv_at hl 0 rfl) ?_
          exact wb_X8_writeAll_L61 hX hq (ih) h hW (lv_sub hl [1, 2, 4] rfl)
        · have h := ms_ifn h k
          refine lv_bipush (v := 9) hx hb dX8_writeAll_54 (by decide) ?_
          refine lv_goto (tgt := 61) hx hb dX8_writeAll_56 (by decide) ?_
          exact wb_X8_writeAll_L61 hX hq (ih) h hW (lv_sub hl [1, 2, 4] rfl)
def f_X8_writeAll (x_unendedCount : Int32) (x_policy_schemeCount : Int32) (x_policy_actions : Nat → Int32) (x_policy_attributes : Nat → Int32) (x_policy_schemes : Nat → Int64) (x_target_size : Int32) (x_target_overflowed : Int32) (x_target_row : Nat → Int32) (x_unended : Nat → Int32) (x_a1_count : Int32) (x_a1_attributeCount : Int32) (x_a1_codes : Nat → Int32) (x_a1_begins : Nat → Int32) (x_a1_ends : Nat → Int32) (x_a1_characters_size : Int32) (x_a1_characters_row : Nat → Int32) (x_a1_attributeLetters : Nat → Int32) (x_a1_valueBegins : Nat → Int32) (x_a1_valueEnds : Nat → Int32) (x_a1_values_size : Int32) (x_a1_values_row : Nat → Int32)  : Option (Int32 × Int32 × Int32 × (Nat → Int32) × (Nat → Int32) × Int32) := (f_X1_empty x_target_size x_target_overflowed).bind (fun q4 => (f_X8_writeAll_L17 x_policy_schemeCount x_policy_actions x_policy_attributes x_policy_schemes x_a1_count x_a1_attributeCount x_a1_codes x_a1_begins x_a1_ends x_a1_characters_size x_a1_characters_row x_a1_attributeLetters x_a1_valueBegins x_a1_valueEnds x_a1_values_size x_a1_values_row 1000 0 q4.1 q4.2 x_target_row x_unended 9 0).bind (fun w17 => (f_X8_writeEnds w17.1 w17.2.1 w17.2.2.1 w17.2.2.2.1 w17.2.2.2.2 x_a1_count x_a1_codes 0).bind (fun q71 => (f_X1_isOverflowed q71.2.2.1).bind (fun q78 => (if q78 = 0 then some (q71.1, q71.2.1, q71.2.2.1, q71.2.2.2, w17.2.2.2.2, 1) else some (q71.1, q71.2.1, q71.2.2.1, q71.2.2.2, w17.2.2.2.2, 0))))))
set_option maxHeartbeats 4000000 in
set_option maxRecDepth 100000 in
theorem fn_X8_writeAll (l : Launch) (G : Gc) (a_this : Nat) (a_policy : Nat) (a_target : Nat) (a_unended : Nat) (a_policy_actions : Nat) (a_policy_attributes : Nat) (a_policy_schemes : Nat) (a_target_row : Nat) (a_a1 : Nat) (a_a1_codes : Nat) (a_a1_begins : Nat) (a_a1_ends : Nat) (a_a1_characters : Nat) (a_a1_attributeLetters : Nat) (a_a1_valueBegins : Nat) (a_a1_valueEnds : Nat) (a_a1_values : Nat) (a_a1_characters_row : Nat) (a_a1_values_row : Nat) (x_unendedCount : Int32) (x_policy_schemeCount : Int32) (x_policy_actions : Nat → Int32) (x_policy_attributes : Nat → Int32) (x_policy_schemes : Nat → Int64) (x_target_size : Int32) (x_target_overflowed : Int32) (x_target_row : Nat → Int32) (x_unended : Nat → Int32) (x_a1_count : Int32) (x_a1_attributeCount : Int32) (x_a1_codes : Nat → Int32) (x_a1_begins : Nat → Int32) (x_a1_ends : Nat → Int32) (x_a1_characters_size : Int32) (x_a1_characters_overflowed : Int32) (x_a1_characters_row : Nat → Int32) (x_a1_attributeLetters : Nat → Int32) (x_a1_valueBegins : Nat → Int32) (x_a1_valueEnds : Nat → Int32) (x_a1_values_size : Int32) (x_a1_values_overflowed : Int32) (x_a1_values_row : Nat → Int32)   {o : Int32 × Int32 × Int32 × (Nat → Int32) × (Nat → Int32) × Int32} (h : f_X8_writeAll x_unendedCount x_policy_schemeCount x_policy_actions x_policy_attributes x_policy_schemes x_target_size x_target_overflowed x_target_row x_unended x_a1_count x_a1_attributeCount x_a1_codes x_a1_begins x_a1_ends x_a1_characters_size x_a1_characters_row x_a1_attributeLetters x_a1_valueBegins x_a1_valueEnds x_a1_values_size x_a1_values_row = some o) : ms_Fn l G yX8_writeAll cX8_writeAll 5 (some .boolean) rm_X8_writeAll [.ref a_this, .ref a_a1] [ob_X8 a_this a_policy a_target a_unended x_unendedCount, ob_X3 a_policy a_policy_actions a_policy_attributes a_policy_schemes x_policy_schemeCount, (a_policy_actions, .inl (G.2.1 1, 26, .inl x_policy_actions)), (a_policy_attributes, .inl (G.2.1 1, 27, .inl x_policy_attributes)), (a_policy_schemes, .inl (G.2.1 2, 4, .inr (.inl x_policy_schemes))), ob_X1 a_target a_target_row x_target_size x_target_overflowed, (a_target_row, .inl (G.2.1 0, 200, .inl x_target_row)), (a_unended, .inl (G.2.1 1, 8, .inl x_unended)), ob_X7 a_a1 a_a1_codes a_a1_begins a_a1_ends x_a1_count a_a1_characters a_a1_attributeLetters a_a1_valueBegins a_a1_valueEnds x_a1_attributeCount a_a1_values, (a_a1_codes, .inl (G.2.1 1, 200, .inl x_a1_codes)), (a_a1_begins, .inl (G.2.1 1, 200, .inl x_a1_begins)), (a_a1_ends, .inl (G.2.1 1, 200, .inl x_a1_ends)), ob_X1 a_a1_characters a_a1_characters_row x_a1_characters_size x_a1_characters_overflowed, (a_a1_characters_row, .inl (G.2.1 0, 200, .inl x_a1_characters_row)), (a_a1_attributeLetters, .inl (G.2.1 1, 100, .inl x_a1_attributeLetters)), (a_a1_valueBegins, .inl (G.2.1 1, 100, .inl x_a1_valueBegins)), (a_a1_valueEnds, .inl (G.2.1 1, 100, .inl x_a1_valueEnds)), ob_X1 a_a1_values a_a1_values_row x_a1_values_size x_a1_values_overflowed, (a_a1_values_row, .inl (G.2.1 0, 200, .inl x_a1_values_row))] [ob_X8 a_this a_policy a_target a_unended o.1, ob_X3 a_policy a_policy_actions a_policy_attributes a_policy_schemes x_policy_schemeCount, (a_policy_actions, .inl (G.2.1 1, 26, .inl x_policy_actions)), (a_policy_attributes, .inl (G.2.1 1, 27, .inl x_policy_attributes)), (a_policy_schemes, .inl (G.2.1 2, 4, .inr (.inl x_policy_schemes))), ob_X1 a_target a_target_row o.2.1 o.2.2.1, (a_target_row, .inl (G.2.1 0, 200, .inl o.2.2.2.1)), (a_unended, .inl (G.2.1 1, 8, .inl o.2.2.2.2.1)), ob_X7 a_a1 a_a1_codes a_a1_begins a_a1_ends x_a1_count a_a1_characters a_a1_attributeLetters a_a1_valueBegins a_a1_valueEnds x_a1_attributeCount a_a1_values, (a_a1_codes, .inl (G.2.1 1, 200, .inl x_a1_codes)), (a_a1_begins, .inl (G.2.1 1, 200, .inl x_a1_begins)), (a_a1_ends, .inl (G.2.1 1, 200, .inl x_a1_ends)), ob_X1 a_a1_characters a_a1_characters_row x_a1_characters_size x_a1_characters_overflowed, (a_a1_characters_row, .inl (G.2.1 0, 200, .inl x_a1_characters_row)), (a_a1_attributeLetters, .inl (G.2.1 1, 100, .inl x_a1_attributeLetters)), (a_a1_valueBegins, .inl (G.2.1 1, 100, .inl x_a1_valueBegins)), (a_a1_valueEnds, .inl (G.2.1 1, 100, .inl x_a1_valueEnds)), ob_X1 a_a1_values a_a1_values_row x_a1_values_size x_a1_values_overflowed, (a_a1_values_row, .inl (G.2.1 0, 200, .inl x_a1_values_row))] (some (.int o.2.2.2.2.2)) := by
  refine ms_start RX8 (by decide +kernel) rfl (Nat.le_of_ble_eq_true rfl) (fun p e s m below meth c A ls hX hW hl => ?_)
  have hx := hX.1.1
  have hb := hX.1.2.1
  have hl : lv_has ls 5 [(0, .ref a_this), (1, .ref a_a1)] := hl
  unfold f_X8_writeAll at h
  refine lv_aload_n hx hb dX8_writeAll_0 rfl (lv_at hl 0 rfl) ?_
  refine ms_get ff_X8_15 hX hW 0 rfl rfl dX8_writeAll_1 ?_
  obtain ⟨q4, hq4, h⟩ := ms_bd h
  refine ms_callV (fn_X1_empty l G a_target a_target_row x_target_size x_target_overflowed hq4) wm_X1_empty wv_X8_27 hX hW [5] rfl rfl rfl rfl rfl ⟨Nat.le_of_ble_eq_true rfl, Nat.le_of_ble_eq_true rfl, rfl, rfl, Nat.zero_le _, Nat.zero_le _⟩ rfl hl.1 [] rfl (Nat.le_of_ble_eq_true rfl) dX8_writeAll_4 (fun H locs hW => ?_)
  have hW : ms_W G A s H locs [ob_X8 a_this a_policy a_target a_unended x_unendedCount, ob_X3 a_policy a_policy_actions a_policy_attributes a_policy_schemes x_policy_schemeCount, (a_policy_actions, .inl (G.2.1 1, 26, .inl x_policy_actions)), (a_policy_attributes, .inl (G.2.1 1, 27, .inl x_policy_attributes)), (a_policy_schemes, .inl (G.2.1 2, 4, .inr (.inl x_policy_schemes))), ob_X1 a_target a_target_row q4.1 q4.2, (a_target_row, .inl (G.2.1 0, 200, .inl x_target_row)), (a_unended, .inl (G.2.1 1, 8, .inl x_unended)), ob_X7 a_a1 a_a1_codes a_a1_begins a_a1_ends x_a1_count a_a1_characters a_a1_attributeLetters a_a1_valueBegins a_a1_valueEnds x_a1_attributeCount a_a1_values, (a_a1_codes, .inl (G.2.1 1, 200, .inl x_a1_codes)), (a_a1_begins, .inl (G.2.1 1, 200, .inl x_a1_begins)), (a_a1_ends, .inl (G.2.1 1, 200, .inl x_a1_ends)), ob_X1 a_a1_characters a_a1_characters_row x_a1_characters_size x_a1_characters_overflowed, (a_a1_characters_row, .inl (G.2.1 0, 200, .inl x_a1_characters_row)), (a_a1_attributeLetters, .inl (G.2.1 1, 100, .inl x_a1_attributeLetters)), (a_a1_valueBegins, .inl (G.2.1 1, 100, .inl x_a1_valueBegins)), (a_a1_valueEnds, .inl (G.2.1 1, 100, .inl x_a1_valueEnds)), ob_X1 a_a1_values a_a1_values_row x_a1_values_size x_a1_values_overflowed, (a_a1_values_row, .inl (G.2.1 0, 200, .inl x_a1_values_row))] := hW
  refine W.eq (g2 := F0 m 7 ls []) rfl ?_
  refine lv_aload_n hx hb dX8_writeAll_7 rfl (lv_at hl 0 rfl) ?_
  refine lv_iconst (v := 0) hx hb dX8_writeAll_8 (by decide) ?_
  refine ms_put ff_X8_23 fp_X8_3 rfl hX hW 0 rfl rfl rfl (Nat.le_of_ble_eq_true rfl) dX8_writeAll_9 (fun H locs hW => ?_)
  have hW : ms_W G A s H locs [ob_X8 a_this a_policy a_target a_unended 0, ob_X3 a_policy a_policy_actions a_policy_attributes a_policy_schemes x_policy_schemeCount, (a_policy_actions, .inl (G.2.1 1, 26, .inl x_policy_actions)), (a_policy_attributes, .inl (G.2.1 1, 27, .inl x_policy_attributes)), (a_policy_schemes, .inl (G.2.1 2, 4, .inr (.inl x_policy_schemes))), ob_X1 a_target a_target_row q4.1 q4.2, (a_target_row, .inl (G.2.1 0, 200, .inl x_target_row)), (a_unended, .inl (G.2.1 1, 8, .inl x_unended)), ob_X7 a_a1 a_a1_codes a_a1_begins a_a1_ends x_a1_count a_a1_characters a_a1_attributeLetters a_a1_valueBegins a_a1_valueEnds x_a1_attributeCount a_a1_values, (a_a1_codes, .inl (G.2.1 1, 200, .inl x_a1_codes)), (a_a1_begins, .inl (G.2.1 1, 200, .inl x_a1_begins)), (a_a1_ends, .inl (G.2.1 1, 200, .inl x_a1_ends)), ob_X1 a_a1_characters a_a1_characters_row x_a1_characters_size x_a1_characters_overflowed, (a_a1_characters_row, .inl (G.2.1 0, 200, .inl x_a1_characters_row)), (a_a1_attributeLetters, .inl (G.2.1 1, 100, .inl x_a1_attributeLetters)), (a_a1_valueBegins, .inl (G.2.1 1, 100, .inl x_a1_valueBegins)), (a_a1_valueEnds, .inl (G.2.1 1, 100, .inl x_a1_valueEnds)), ob_X1 a_a1_values a_a1_values_row x_a1_values_size x_a1_values_overflowed, (a_a1_values_row, .inl (G.2.1 0, 200, .inl x_a1_values_row))] := hW
  refine lv_bipush (v := 9) hx hb dX8_writeAll_12 (by decide) ?_
  refine lv_istore_n (lv' := [(2, .int 9), (0, .ref a_this), (1, .ref a_a1)]) hx hb dX8_writeAll_14 rfl hl (by decide) rfl (fun ls hl => ?_)
  refine lv_iconst (v := 0) hx hb dX8_writeAll_15 (by decide) ?_
  refine lv_istore_n (lv' := [(3, .int 0), (2, .int 9), (0, .ref a_this), (1, .ref a_a1)]) hx hb dX8_writeAll_16 rfl hl (by decide) rfl (fun ls hl => ?_)
  obtain ⟨w17, hqw17, h⟩ := ms_bd h
  refine wb_X8_writeAll_L17 hX (o := w17) (fun H locs ls hW hl => ?_) _ _ _ _ _ _ _ _ _ _ _ hqw17 hW (lv_sub hl [2, 3, 1, 0] rfl)
  refine lv_aload_n hx hb dX8_writeAll_68 rfl (lv_at hl 0 rfl) ?_
  refine lv_aload_n hx hb dX8_writeAll_69 rfl (lv_at hl 1 rfl) ?_
  refine lv_iconst (v := 0) hx hb dX8_writeAll_70 (by decide) ?_
  obtain ⟨q71, hq71, h⟩ := ms_bd h
  refine ms_callV (fn_X8_writeEnds l G a_this a_policy a_target a_unended a_target_row a_a1 a_a1_codes a_a1_begins a_a1_ends a_a1_characters a_a1_attributeLetters a_a1_valueBegins a_a1_valueEnds a_a1_values w17.1 w17.2.1 w17.2.2.1 w17.2.2.2.1 w17.2.2.2.2 x_a1_count x_a1_attributeCount x_a1_codes 0 hq71) wm_X8_writeEnds wv_X8_42 hX hW [0, 5, 6, 7, 8, 9] rfl rfl rfl rfl rfl ⟨Nat.le_of_ble_eq_true rfl, Nat.le_of_ble_eq_true rfl, rfl, rfl, Nat.zero_le _, Nat.zero_le _⟩ rfl hl.1 [] rfl (Nat.le_of_ble_eq_true rfl) dX8_writeAll_71 (fun H locs hW => ?_)
  have hW : ms_W G A s H locs [ob_X8 a_this a_policy a_target a_unended q71.1, ob_X3 a_policy a_policy_actions a_policy_attributes a_policy_schemes x_policy_schemeCount, (a_policy_actions, .inl (G.2.1 1, 26, .inl x_policy_actions)), (a_policy_attributes, .inl (G.2.1 1, 27, .inl x_policy_attributes)), (a_policy_schemes, .inl (G.2.1 2, 4, .inr (.inl x_policy_schemes))), ob_X1 a_target a_target_row q71.2.1 q71.2.2.1, (a_target_row, .inl (G.2.1 0, 200, .inl q71.2.2.2)), (a_unended, .inl (G.2.1 1, 8, .inl w17.2.2.2.2)), ob_X7 a_a1 a_a1_codes a_a1_begins a_a1_ends x_a1_count a_a1_characters a_a1_attributeLetters a_a1_valueBegins a_a1_valueEnds x_a1_attributeCount a_a1_values, (a_a1_codes, .inl (G.2.1 1, 200, .inl x_a1_codes)), (a_a1_begins, .inl (G.2.1 1, 200, .inl x_a1_begins)), (a_a1_ends, .inl (G.2.1 1, 200, .inl x_a1_ends)), ob_X1 a_a1_characters a_a1_characters_row x_a1_characters_size x_a1_characters_overflowed, (a_a1_characters_row, .inl (G.2.1 0, 200, .inl x_a1_characters_row)), (a_a1_attributeLetters, .inl (G.2.1 1, 100, .inl x_a1_attributeLetters)), (a_a1_valueBegins, .inl (G.2.1 1, 100, .inl x_a1_valueBegins)), (a_a1_valueEnds, .inl (G.2.1 1, 100, .inl x_a1_valueEnds)), ob_X1 a_a1_values a_a1_values_row x_a1_values_size x_a1_values_overflowed, (a_a1_values_row, .inl (G.2.1 0, 200, .inl x_a1_values_row))] := hW
  refine W.eq (g2 := F0 m 74 ls []) rfl ?_
  refine lv_aload_n hx hb dX8_writeAll_74 rfl (lv_at hl 0 rfl) ?_
  refine ms_get ff_X8_15 hX hW 0 rfl rfl dX8_writeAll_75 ?_
  obtain ⟨q78, hq78, h⟩ := ms_bd h
  refine ms_callV (fn_X1_isOverflowed l G a_target a_target_row q71.2.1 q71.2.2.1 hq78) wm_X1_isOverflowed wv_X8_50 hX hW [5] rfl rfl rfl rfl rfl ⟨Nat.le_of_ble_eq_true rfl, Nat.le_of_ble_eq_true rfl, rfl, rfl, Nat.zero_le _, Nat.zero_le _⟩ rfl hl.1 [] rfl (Nat.le_of_ble_eq_true rfl) dX8_writeAll_78 (fun H locs hW => ?_)
  have hW : ms_W G A s H locs [ob_X8 a_this a_policy a_target a_unended q71.1, ob_X3 a_policy a_policy_actions a_policy_attributes a_policy_schemes x_policy_schemeCount, (a_policy_actions, .inl (G.2.1 1, 26, .inl x_policy_actions)), (a_policy_attributes, .inl (G.2.1 1, 27, .inl x_policy_attributes)), (a_policy_schemes, .inl (G.2.1 2, 4, .inr (.inl x_policy_schemes))), ob_X1 a_target a_target_row q71.2.1 q71.2.2.1, (a_target_row, .inl (G.2.1 0, 200, .inl q71.2.2.2)), (a_unended, .inl (G.2.1 1, 8, .inl w17.2.2.2.2)), ob_X7 a_a1 a_a1_codes a_a1_begins a_a1_ends x_a1_count a_a1_characters a_a1_attributeLetters a_a1_valueBegins a_a1_valueEnds x_a1_attributeCount a_a1_values, (a_a1_codes, .inl (G.2.1 1, 200, .inl x_a1_codes)), (a_a1_begins, .inl (G.2.1 1, 200, .inl x_a1_begins)), (a_a1_ends, .inl (G.2.1 1, 200, .inl x_a1_ends)), ob_X1 a_a1_characters a_a1_characters_row x_a1_characters_size x_a1_characters_overflowed, (a_a1_characters_row, .inl (G.2.1 0, 200, .inl x_a1_characters_row)), (a_a1_attributeLetters, .inl (G.2.1 1, 100, .inl x_a1_attributeLetters)), (a_a1_valueBegins, .inl (G.2.1 1, 100, .inl x_a1_valueBegins)), (a_a1_valueEnds, .inl (G.2.1 1, 100, .inl x_a1_valueEnds)), ob_X1 a_a1_values a_a1_values_row x_a1_values_size x_a1_values_overflowed, (a_a1_values_row, .inl (G.2.1 0, 200, .inl x_a1_values_row))] := hW
  refine W.eq (g2 := F0 m 81 ls [.int q78]) rfl ?_
  refine lv_if_ne (tgt := 88) hx hb dX8_writeAll_81 (by decide) (fun k => ?_) (fun k => ?_)
  · have h := ms_ifn h k
    refine lv_iconst (v := 0) hx hb dX8_writeAll_88 (by decide) ?_
    obtain rfl := Option.some.inj h
    exact ms_zret hX (ms_nz (Or.inl rfl)) hW dX8_writeAll_89
  · have h := ms_ifp h k
    refine lv_iconst (v := 1) hx hb dX8_writeAll_84 (by decide) ?_
    refine lv_goto (tgt := 89) hx hb dX8_writeAll_85 (by decide) ?_
    obtain rfl := Option.some.inj h
    exact ms_zret hX (ms_nz (Or.inr rfl)) hW dX8_writeAll_89
def rm_X9_byteAt : Room := { frames := 0, cells := 0, slots := 0, locals := 0 }
def f_X9_byteAt  (v0 : Int64) (v2 : Int32) : Option (Int32) := some ((((v0.toUInt64 >>> ((8 * v2).toInt64.toUInt64 &&& Int64.toUInt64 63)).toInt64).toInt32) &&& (255 : Int32))
set_option maxHeartbeats 4000000 in
set_option maxRecDepth 100000 in
theorem fn_X9_byteAt (l : Launch) (G : Gc)   (v0 : Int64) (v2 : Int32)  {o : Int32} (h : f_X9_byteAt v0 v2 = some o) : ms_Fn l G yX9_byteAt cX9_byteAt 3 (some .int) rm_X9_byteAt [.long v0, .int v2] [] [] (some (.int o)) := by
  refine ms_start RX9 (by decide +kernel) rfl (Nat.le_of_ble_eq_true rfl) (fun p e s m below meth c A ls hX hW hl => ?_)
  have hx := hX.1.1
  have hb := hX.1.2.1
  have hl : lv_has ls 3 [(0, .long v0), (2, .int v2)] := hl
  unfold f_X9_byteAt at h
  refine lv_lload_n hx hb dX9_byteAt_0 rfl (lv_at hl 0 rfl) ?_
  refine lv_bipush (v := 8) hx hb dX9_byteAt_1 (by decide) ?_
  refine lv_iload_n hx hb dX9_byteAt_3 rfl (lv_at hl 1 rfl) ?_
  refine lv_imul hx hb dX9_byteAt_4 ?_
  refine lv_lushr (v := (v0.toUInt64 >>> ((8 * v2).toInt64.toUInt64 &&& Int64.toUInt64 63)).toInt64) hx hb dX9_byteAt_5 rfl ?_
  refine lv_l2i (v := ((v0.toUInt64 >>> ((8 * v2).toInt64.toUInt64 &&& Int64.toUInt64 63)).toInt64).toInt32) hx hb dX9_byteAt_6 rfl ?_
  refine lv_sipush (v := 255) hx hb dX9_byteAt_7 (by decide) ?_
  refine lv_iand hx hb dX9_byteAt_10 ?_
  obtain rfl := Option.some.inj h
  exact ms_iret hX hW dX9_byteAt_11
def rm_X9_put : Room := { frames := 1, cells := 0, slots := 0, locals := 22 }
def f_X9_put_L104 (v1 : Int64) (kk : Int32 → Int32 → (Nat → Int32) → Int32 → Option (Int32 × Int32 × (Nat → Int32))) (x_input_size : Int32) (x_input_overflowed : Int32) (x_input_row : Nat → Int32) (v4 : Int32) : Option (Int32 × Int32 × (Nat → Int32)) := kk x_input_size x_input_overflowed x_input_row (v4 + 1)
set_option maxHeartbeats 4000000 in
set_option maxRecDepth 100000 in
theorem wb_X9_put_L104 {p : Program} {l : Launch} {e : Env} {s : State} {m : MethodId} {args : Array Value} {below : List Frame} {meth : Method} {c : Code} {G : Gc} {A : Nat → Prop} {H : Heap} {locs : List Loc} {ls : Array Slot} {a_this : Nat} {a_input : Nat} {a_source : Nat} {a_written : Nat} {a_policy : Nat} {a_firstTree : Nat} {a_firstReader : Nat} {a_laterReader : Nat} {a_writer : Nat} {a_input_row : Nat} {x_roundsMade : Int32} {v1 : Int64} {kk : Int32 → Int32 → (Nat → Int32) → Int32 → Option (Int32 × Int32 × (Nat → Int32))} {Q : State → Prop} {x_input_size : Int32} {x_input_overflowed : Int32} {x_input_row : Nat → Int32} {v4 : Int32} {o : Int32 × Int32 × (Nat → Int32)} (hX : ms_CX p s m args meth c cX9_put 6 RX9 (some .boolean) G A) (hq : ∀ (H : Heap) (locs : List Loc) (ls : Array Slot), ms_W G A s H locs [ob_X9 a_this a_input a_source a_written a_policy a_firstTree a_firstReader a_laterReader a_writer x_roundsMade, ob_X1 a_input a_input_row o.1 o.2.1, (a_input_row, .inl (G.2.1 0, 200, .inl o.2.2))] → lv_has ls 6 [] → W p l e rm_X9_put s m args below meth c H locs 0 0 Q (F0 m 110 ls [])) (ih : ∀ (x_input_size : Int32) (x_input_overflowed : Int32) (x_input_row : Nat → Int32) (v4 : Int32) (H : Heap) (locs : List Loc) (ls : Array Slot), kk x_input_size x_input_overflowed x_input_row v4 = some o → ms_W G A s H locs [ob_X9 a_this a_input a_source a_written a_policy a_firstTree a_firstReader a_laterReader a_writer x_roundsMade, ob_X1 a_input a_input_row x_input_size x_input_overflowed, (a_input_row, .inl (G.2.1 0, 200, .inl x_input_row))] → lv_has ls 6 [(0, .ref a_this), (1, .long v1), (4, .int v4)] → W p l e rm_X9_put s m args below meth c H locs 0 0 Q (F0 m 74 ls [])) (h : f_X9_put_L104 v1 kk x_input_size x_input_overflowed x_input_row v4 = some o) (hW : ms_W G A s H locs [ob_X9 a_this a_input a_source a_written a_policy a_firstTree a_firstReader a_laterReader a_writer x_roundsMade, ob_X1 a_input a_input_row x_input_size x_input_overflowed, (a_input_row, .inl (G.2.1 0, 200, .inl x_input_row))]) (hl : lv_has ls 6 [(0, .ref a_this), (1, .long v1), (4, .int v4)]) : W p l e rm_X9_put s m args below meth c H locs 0 0 Q (F0 m 104 ls []) := by
  have hx := hX.1.1
  have hb := hX.1.2.1
  unfold f_X9_put_L104 at h
  refine lv_iinc (v := v4 + 1) (lv' := [(4, .int (v4 + 1)), (0, .ref a_this), (1, .long v1)]) hx hb dX9_put_104 hl (k := 2) rfl rfl (by decide) rfl (fun ls hl => ?_)
  refine lv_goto (tgt := 74) hx hb dX9_put_107 (by decide) ?_
  exact ih _ _ _ _ _ _ _ h hW (lv_sub hl [1, 2, 0] rfl)
def f_X9_put_L74 (v1 : Int64) : Nat → Int32 → Int32 → (Nat → Int32) → Int32 → Option (Int32 × Int32 × (Nat → Int32))
  | 0, _, _, _, _ => none
  | n + 1, x_input_size, x_input_overflowed, x_input_row, v4 => (if 8 ≤ v4 then some (x_input_size, x_input_overflowed, x_input_row) else (f_X9_byteAt v1 v4).bind (fun q84 => (if q84 = 0 then f_X9_put_L104 v1 (f_X9_put_L74 v1 n) x_input_size x_input_overflowed x_input_row v4 else (f_X1_add x_input_size x_input_overflowed x_input_row ((q84.toUInt32 % 65536).toInt32)).bind (fun q101 => f_X9_put_L104 v1 (f_X9_put_L74 v1 n) q101.1 q101.2.1 q101.2.2 v4))))
set_option maxHeartbeats 4000000 in
set_option maxRecDepth 100000 in
theorem wb_X9_put_L74 {p : Program} {l : Launch} {e : Env} {s : State} {m : MethodId} {args : Array Value} {below : List Frame} {meth : Method} {c : Code} {G : Gc} {A : Nat → Prop} {a_this : Nat} {a_input : Nat} {a_source : Nat} {a_written : Nat} {a_policy : Nat} {a_firstTree : Nat} {a_firstReader : Nat} {a_laterReader : Nat} {a_writer : Nat} {a_input_row : Nat} {x_roundsMade : Int32} {v1 : Int64} {Q : State → Prop} {o : Int32 × Int32 × (Nat → Int32)} (hX : ms_CX p s m args meth c cX9_put 6 RX9 (some .boolean) G A) (hq : ∀ (H : Heap) (locs : List Loc) (ls : Array Slot), ms_W G A s H locs [ob_X9 a_this a_input a_source a_written a_policy a_firstTree a_firstReader a_laterReader a_writer x_roundsMade, ob_X1 a_input a_input_row o.1 o.2.1, (a_input_row, .inl (G.2.1 0, 200, .inl o.2.2))] → lv_has ls 6 [] → W p l e rm_X9_put s m args below meth c H locs 0 0 Q (F0 m 110 ls [])) : ∀ (n : Nat) (x_input_size : Int32) (x_input_overflowed : Int32) (x_input_row : Nat → Int32) (v4 : Int32) (H : Heap) (locs : List Loc) (ls : Array Slot), f_X9_put_L74 v1 n x_input_size x_input_overflowed x_input_row v4 = some o → ms_W G A s H locs [ob_X9 a_this a_input a_source a_written a_policy a_firstTree a_firstReader a_laterReader a_writer x_roundsMade, ob_X1 a_input a_input_row x_input_size x_input_overflowed, (a_input_row, .inl (G.2.1 0, 200, .inl x_input_row))] → lv_has ls 6 [(0, .ref a_this), (1, .long v1), (4, .int v4)] → W p l e rm_X9_put s m args below meth c H locs 0 0 Q (F0 m 74 ls []) := by
  have hx := hX.1.1
  have hb := hX.1.2.1
  intro n
  induction n with
  | zero => intro x_input_size x_input_overflowed x_input_row v4 H locs ls h; rw [f_X9_put_L74] at h; cases h
  | succ n ih =>
    intro x_input_size x_input_overflowed x_input_row v4 H locs ls h hW hl
    rw [f_X9_put_L74] at h
    refine lv_iload hx hb dX9_put_74 (lv_at hl 2 rfl) ?_
    refine lv_bipush (v := 8) hx hb dX9_put_76 (by decide) ?_
    refine lv_icmp_ge (tgt := 110) hx hb dX9_put_78 (by decide) (fun k => ?_) (fun k => ?_)
    · have h := ms_ifp h k
      obtain rfl := Option.some.inj h
      exact hq _ _ _ hW (lv_sub hl [] rfl)
    · have h := ms_ifn h k
      refine lv_lload_n hx hb dX9_put_81 rfl (lv_at hl 1 rfl) ?_
      refine lv_iload hx hb dX9_put_82 (lv_at hl 2 rfl) ?_
      obtain ⟨q84, hq84, h⟩ := ms_bd h
      refine ms_callS (fn_X9_byteAt l G v1 v4 hq84) wm_X9_byteAt wz_X9_61 hX hW [] rfl rfl rfl ⟨Nat.le_of_ble_eq_true rfl, Nat.le_of_ble_eq_true rfl, rfl, rfl, Nat.zero_le _, Nat.zero_le _⟩ rfl hl.1 [] rfl (Nat.le_of_ble_eq_true rfl) dX9_put_84 (fun H locs hW => ?_)
      have hW : ms_W G A s H locs [ob_X9 a_this a_input a_source a_written a_policy a_firstTree a_firstReader a_laterReader a_writer x_roundsMade, ob_X1 a_input a_input_row x_input_size x_input_overflowed, (a_input_row, .inl (G.2.1 0, 200, .inl x_input_row))] := hW
      refine W.eq (g2 := F0 m 87 ls [.int q84]) rfl ?_
      refine lv_istore (lv' := [(5, .int q84), (0, .ref a_this), (1, .long v1), (4, .int v4)]) hx hb dX9_put_87 hl (by decide) rfl (fun ls hl => ?_)
      refine lv_iload hx hb dX9_put_89 (lv_at hl 0 rfl) ?_
      refine lv_if_eq (tgt := 104) hx hb dX9_put_91 (by decide) (fun k => ?_) (fun k => ?_)
      · have h := ms_ifp h k
        exact wb_X9_put_L104 hX hq (ih) h hW (lv_sub hl [1, 2, 3] rfl)
      · have h := ms_ifn h k
        refine lv_aload_n hx hb dX9_put_94 rfl (lv_at hl 1 rfl) ?_
        refine ms_get ff_X9_10 hX hW 0 rfl rfl dX9_put_95 ?_
        refine lv_iload hx hb dX9_put_98 (lv_at hl 0 rfl) ?_
        refine lv_i2c (v := (q84.toUInt32 % 65536).toInt32) hx hb dX9_put_100 rfl ?_
        obtain ⟨q101, hq101, h⟩ := ms_bd h
        refine ms_callV (fn_X1_add l G a_input a_input_row x_input_size x_input_overflowed x_input_row ((q84.toUInt32 % 65536).toInt32) hq101) wm_X1_add wv_X9_73 hX hW [1, 2] rfl rfl rfl rfl rfl ⟨Nat.le_of_ble_eq_true rfl, Nat.le_of_ble_eq_true rfl, rfl, rfl, Nat.zero_le _, Nat.zero_le _⟩ rfl hl.1 [] rfl (Nat.le_of_ble_eq_true rfl) dX9_put_101 (fun H locs hW => ?_)
        have hW : ms_W G A s H locs [ob_X9 a_this a_input a_source a_written a_policy a_firstTree a_firstReader a_laterReader a_writer x_roundsMade, ob_X1 a_input a_input_row q101.1 q101.2.1, (a_input_row, .inl (G.2.1 0, 200, .inl q101.2.2))] := hW
        refine W.eq (g2 := F0 m 104 ls []) rfl ?_
        exact wb_X9_put_L104 hX hq (ih) h hW (lv_sub hl [1, 2, 3] rfl)
def f_X9_put_L46 (v1 : Int64) (kk : Int32 → Int32 → (Nat → Int32) → Int32 → Int32 → Option (Int32 × Int32 × (Nat → Int32) × Int32)) (x_input_size : Int32) (x_input_overflowed : Int32) (x_input_row : Nat → Int32) (v4 : Int32) (z0 : Int32) (z1 : Int32) : Option (Int32 × Int32 × (Nat → Int32) × Int32) := kk x_input_size x_input_overflowed x_input_row (z0 + z1) (v4 + 1)
set_option maxHeartbeats 4000000 in
set_option maxRecDepth 100000 in
theorem wb_X9_put_L46 {p : Program} {l : Launch} {e : Env} {s : State} {m : MethodId} {args : Array Value} {below : List Frame} {meth : Method} {c : Code} {G : Gc} {A : Nat → Prop} {H : Heap} {locs : List Loc} {ls : Array Slot} {a_this : Nat} {a_input : Nat} {a_source : Nat} {a_written : Nat} {a_policy : Nat} {a_firstTree : Nat} {a_firstReader : Nat} {a_laterReader : Nat} {a_writer : Nat} {a_input_row : Nat} {x_roundsMade : Int32} {v1 : Int64} {kk : Int32 → Int32 → (Nat → Int32) → Int32 → Int32 → Option (Int32 × Int32 × (Nat → Int32) × Int32)} {x_input_size : Int32} {x_input_overflowed : Int32} {x_input_row : Nat → Int32} {v4 : Int32} {z0 : Int32} {z1 : Int32} {o : Int32 × Int32 × (Nat → Int32) × Int32} (hX : ms_CX p s m args meth c cX9_put 6 RX9 (some .boolean) G A)  (ih : ∀ (x_input_size : Int32) (x_input_overflowed : Int32) (x_input_row : Nat → Int32) (v3 : Int32) (v4 : Int32) (H : Heap) (locs : List Loc) (ls : Array Slot), kk x_input_size x_input_overflowed x_input_row v3 v4 = some o → ms_W G A s H locs [ob_X9 a_this a_input a_source a_written a_policy a_firstTree a_firstReader a_laterReader a_writer x_roundsMade, ob_X1 a_input a_input_row x_input_size x_input_overflowed, (a_input_row, .inl (G.2.1 0, 200, .inl x_input_row))] → lv_has ls 6 [(0, .ref a_this), (1, .long v1), (3, .int v3), (4, .int v4)] → W p l e rm_X9_put s m args below meth c H locs 0 0 (ms_Q G A below args s [ob_X9 a_this a_input a_source a_written a_policy a_firstTree a_firstReader a_laterReader a_writer x_roundsMade, ob_X1 a_input a_input_row o.1 o.2.1, (a_input_row, .inl (G.2.1 0, 200, .inl o.2.2.1))] (some (.int o.2.2.2))) (F0 m 5 ls [])) (h : f_X9_put_L46 v1 kk x_input_size x_input_overflowed x_input_row v4 z0 z1 = some o) (hW : ms_W G A s H locs [ob_X9 a_this a_input a_source a_written a_policy a_firstTree a_firstReader a_laterReader a_writer x_roundsMade, ob_X1 a_input a_input_row x_input_size x_input_overflowed, (a_input_row, .inl (G.2.1 0, 200, .inl x_input_row))]) (hl : lv_has ls 6 [(0, .ref a_this), (1, .long v1), (4, .int v4)]) : W p l e rm_X9_put s m args below meth c H locs 0 0 (ms_Q G A below args s [ob_X9 a_this a_input a_source a_written a_policy a_firstTree a_firstReader a_laterReader a_writer x_roundsMade, ob_X1 a_input a_input_row o.1 o.2.1, (a_input_row, .inl (G.2.1 0, 200, .inl o.2.2.1))] (some (.int o.2.2.2))) (F0 m 46 ls [.int z1, .int z0]) := by
  have hx := hX.1.1
  have hb := hX.1.2.1
  unfold f_X9_put_L46 at h
  refine lv_iadd hx hb dX9_put_46 ?_
  refine lv_istore_n (lv' := [(3, .int (z0 + z1)), (0, .ref a_this), (1, .long v1), (4, .int v4)]) hx hb dX9_put_47 rfl hl (by decide) rfl (fun ls hl => ?_)
  refine lv_iinc (v := v4 + 1) (lv' := [(4, .int (v4 + 1)), (3, .int (z0 + z1)), (0, .ref a_this), (1, .long v1)]) hx hb dX9_put_48 hl (k := 3) rfl rfl (by decide) rfl (fun ls hl => ?_)
  refine lv_goto (tgt := 5) hx hb dX9_put_51 (by decide) ?_
  exact ih _ _ _ _ _ _ _ _ h hW (lv_sub hl [2, 3, 1, 0] rfl)
def f_X9_put_L35 (v1 : Int64) (kk : Int32 → Int32 → (Nat → Int32) → Int32 → Int32 → Option (Int32 × Int32 × (Nat → Int32) × Int32)) (x_input_size : Int32) (x_input_overflowed : Int32) (x_input_row : Nat → Int32) (v3 : Int32) (v4 : Int32) (v5 : Int32) : Option (Int32 × Int32 × (Nat → Int32) × Int32) := (if v5 = 0 then f_X9_put_L46 v1 (kk) x_input_size x_input_overflowed x_input_row v4 v3 0 else f_X9_put_L46 v1 (kk) x_input_size x_input_overflowed x_input_row v4 v3 1)
set_option maxHeartbeats 4000000 in
set_option maxRecDepth 100000 in
theorem wb_X9_put_L35 {p : Program} {l : Launch} {e : Env} {s : State} {m : MethodId} {args : Array Value} {below : List Frame} {meth : Method} {c : Code} {G : Gc} {A : Nat → Prop} {H : Heap} {locs : List Loc} {ls : Array Slot} {a_this : Nat} {a_input : Nat} {a_source : Nat} {a_written : Nat} {a_policy : Nat} {a_firstTree : Nat} {a_firstReader : Nat} {a_laterReader : Nat} {a_writer : Nat} {a_input_row : Nat} {x_roundsMade : Int32} {v1 : Int64} {kk : Int32 → Int32 → (Nat → Int32) → Int32 → Int32 → Option (Int32 × Int32 × (Nat → Int32) × Int32)} {x_input_size : Int32} {x_input_overflowed : Int32} {x_input_row : Nat → Int32} {v3 : Int32} {v4 : Int32} {v5 : Int32} {o : Int32 × Int32 × (Nat → Int32) × Int32} (hX : ms_CX p s m args meth c cX9_put 6 RX9 (some .boolean) G A)  (ih : ∀ (x_input_size : Int32) (x_input_overflowed : Int32) (x_input_row : Nat → Int32) (v3 : Int32) (v4 : Int32) (H : Heap) (locs : List Loc) (ls : Array Slot), kk x_input_size x_input_overflowed x_input_row v3 v4 = some o → ms_W G A s H locs [ob_X9 a_this a_input a_source a_written a_policy a_firstTree a_firstReader a_laterReader a_writer x_roundsMade, ob_X1 a_input a_input_row x_input_size x_input_overflowed, (a_input_row, .inl (G.2.1 0, 200, .inl x_input_row))] → lv_has ls 6 [(0, .ref a_this), (1, .long v1), (3, .int v3), (4, .int v4)] → W p l e rm_X9_put s m args below meth c H locs 0 0 (ms_Q G A below args s [ob_X9 a_this a_input a_source a_written a_policy a_firstTree a_firstReader a_laterReader a_writer x_roundsMade, ob_X1 a_input a_input_row o.1 o.2.1, (a_input_row, .inl (G.2.1 0, 200, .inl o.2.2.1))] (some (.int o.2.2.2))) (F0 m 5 ls [])) (h : f_X9_put_L35 v1 kk x_input_size x_input_overflowed x_input_row v3 v4 v5 = some o) (hW : ms_W G A s H locs [ob_X9 a_this a_input a_source a_written a_policy a_firstTree a_firstReader a_laterReader a_writer x_roundsMade, ob_X1 a_input a_input_row x_input_size x_input_overflowed, (a_input_row, .inl (G.2.1 0, 200, .inl x_input_row))]) (hl : lv_has ls 6 [(0, .ref a_this), (1, .long v1), (3, .int v3), (4, .int v4), (5, .int v5)]) : W p l e rm_X9_put s m args below meth c H locs 0 0 (ms_Q G A below args s [ob_X9 a_this a_input a_source a_written a_policy a_firstTree a_firstReader a_laterReader a_writer x_roundsMade, ob_X1 a_input a_input_row o.1 o.2.1, (a_input_row, .inl (G.2.1 0, 200, .inl o.2.2.1))] (some (.int o.2.2.2))) (F0 m 35 ls []) := by
  have hx := hX.1.1
  have hb := hX.1.2.1
  unfold f_X9_put_L35 at h
  refine lv_iload_n hx hb dX9_put_35 rfl (lv_at hl 2 rfl) ?_
  refine lv_iload hx hb dX9_put_36 (lv_at hl 4 rfl) ?_
  refine lv_if_ne (tgt := 45) hx hb dX9_put_38 (by decide) (fun k => ?_) (fun k => ?_)
  · have h := ms_ifn h k
    refine lv_iconst (v := 1) hx hb dX9_put_45 (by decide) ?_
    exact wb_X9_put_L46 hX (ih) h hW (lv_sub hl [0, 1, 3] rfl)
  · have h := ms_ifp h k
    refine lv_iconst (v := 0) hx hb dX9_put_41 (by decide) ?_
    refine lv_goto (tgt := 46) hx hb dX9_put_42 (by decide) ?_
    exact wb_X9_put_L46 hX (ih) h hW (lv_sub hl [0, 1, 3] rfl)
def f_X9_put_L5 (v1 : Int64) : Nat → Int32 → Int32 → (Nat → Int32) → Int32 → Int32 → Option (Int32 × Int32 × (Nat → Int32) × Int32)
  | 0, _, _, _, _, _ => none
  | n + 1, x_input_size, x_input_overflowed, x_input_row, v3, v4 => (if 8 ≤ v4 then (f_X1_size x_input_size).bind (fun q58 => (if (q58 + v3) ≤ 200 then (f_X9_put_L74 v1 1000 x_input_size x_input_overflowed x_input_row 0).bind (fun w74 => some (w74.1, w74.2.1, w74.2.2, 1)) else some (x_input_size, x_input_overflowed, x_input_row, 0))) else (f_X9_byteAt v1 v4).bind (fun q15 => (if q15 = 0 then f_X9_put_L35 v1 (f_X9_put_L5 v1 n) x_input_size x_input_overflowed x_input_row v3 v4 q15 else (f_X9_isPlain q15).bind (fun q27 => (if q27 = 0 then some (x_input_size, x_input_overflowed, x_input_row, 0) else f_X9_put_L35 v1 (f_X9_put_L5 v1 n) x_input_size x_input_overflowed x_input_row v3 v4 q15)))))
set_option maxHeartbeats 4000000 in
set_option maxRecDepth 100000 in
theorem wb_X9_put_L5 {p : Program} {l : Launch} {e : Env} {s : State} {m : MethodId} {args : Array Value} {below : List Frame} {meth : Method} {c : Code} {G : Gc} {A : Nat → Prop} {a_this : Nat} {a_input : Nat} {a_source : Nat} {a_written : Nat} {a_policy : Nat} {a_firstTree : Nat} {a_firstReader : Nat} {a_laterReader : Nat} {a_writer : Nat} {a_input_row : Nat} {x_roundsMade : Int32} {v1 : Int64} {o : Int32 × Int32 × (Nat → Int32) × Int32} (hX : ms_CX p s m args meth c cX9_put 6 RX9 (some .boolean) G A)  : ∀ (n : Nat) (x_input_size : Int32) (x_input_overflowed : Int32) (x_input_row : Nat → Int32) (v3 : Int32) (v4 : Int32) (H : Heap) (locs : List Loc) (ls : Array Slot), f_X9_put_L5 v1 n x_input_size x_input_overflowed x_input_row v3 v4 = some o → ms_W G A s H locs [ob_X9 a_this a_input a_source a_written a_policy a_firstTree a_firstReader a_laterReader a_writer x_roundsMade, ob_X1 a_input a_input_row x_input_size x_input_overflowed, (a_input_row, .inl (G.2.1 0, 200, .inl x_input_row))] → lv_has ls 6 [(0, .ref a_this), (1, .long v1), (3, .int v3), (4, .int v4)] → W p l e rm_X9_put s m args below meth c H locs 0 0 (ms_Q G A below args s [ob_X9 a_this a_input a_source a_written a_policy a_firstTree a_firstReader a_laterReader a_writer x_roundsMade, ob_X1 a_input a_input_row o.1 o.2.1, (a_input_row, .inl (G.2.1 0, 200, .inl o.2.2.1))] (some (.int o.2.2.2))) (F0 m 5 ls []) := by
  have hx := hX.1.1
  have hb := hX.1.2.1
  intro n
  induction n with
  | zero => intro x_input_size x_input_overflowed x_input_row v3 v4 H locs ls h; rw [f_X9_put_L5] at h; cases h
  | succ n ih =>
    intro x_input_size x_input_overflowed x_input_row v3 v4 H locs ls h hW hl
    rw [f_X9_put_L5] at h
    refine lv_iload hx hb dX9_put_5 (lv_at hl 3 rfl) ?_
    refine lv_bipush (v := 8) hx hb dX9_put_7 (by decide) ?_
    refine lv_icmp_ge (tgt := 54) hx hb dX9_put_9 (by decide) (fun k => ?_) (fun k => ?_)
    · have h := ms_ifp h k
      refine lv_aload_n hx hb dX9_put_54 rfl (lv_at hl 0 rfl) ?_
      refine ms_get ff_X9_10 hX hW 0 rfl rfl dX9_put_55 ?_
      obtain ⟨q58, hq58, h⟩ := ms_bd h
      refine ms_callV (fn_X1_size l G a_input a_input_row x_input_size x_input_overflowed hq58) wm_X1_size wv_X9_69 hX hW [1] rfl rfl rfl rfl rfl ⟨Nat.le_of_ble_eq_true rfl, Nat.le_of_ble_eq_true rfl, rfl, rfl, Nat.zero_le _, Nat.zero_le _⟩ rfl hl.1 [] rfl (Nat.le_of_ble_eq_true rfl) dX9_put_58 (fun H locs hW => ?_)
      have hW : ms_W G A s H locs [ob_X9 a_this a_input a_source a_written a_policy a_firstTree a_firstReader a_laterReader a_writer x_roundsMade, ob_X1 a_input a_input_row x_input_size x_input_overflowed, (a_input_row, .inl (G.2.1 0, 200, .inl x_input_row))] := hW
      refine W.eq (g2 := F0 m 61 ls [.int q58]) rfl ?_
      refine lv_iload_n hx hb dX9_put_61 rfl (lv_at hl 2 rfl) ?_
      refine lv_iadd hx hb dX9_put_62 ?_
      refine lv_sipush (v := 200) hx hb dX9_put_63 (by decide) ?_
      refine lv_icmp_le (tgt := 71) hx hb dX9_put_66 (by decide) (fun k => ?_) (fun k => ?_)
      · have h := ms_ifp h k
        refine lv_iconst (v := 0) hx hb dX9_put_71 (by decide) ?_
        refine lv_istore (lv' := [(4, .int 0), (0, .ref a_this), (1, .long v1), (3, .int v3)]) hx hb dX9_put_72 hl (by decide) rfl (fun ls hl => ?_)
        obtain ⟨w74, hqw74, h⟩ := ms_bd h
        refine wb_X9_put_L74 hX (o := w74) (fun H locs ls hW hl => ?_) _ _ _ _ _ _ _ _ hqw74 hW (lv_sub hl [1, 2, 0] rfl)
        refine lv_iconst (v := 1) hx hb dX9_put_110 (by decide) ?_
        obtain rfl := Option.some.inj h
        exact ms_zret hX (ms_nz (Or.inr rfl)) hW dX9_put_111
      · have h := ms_ifn h k
        refine lv_iconst (v := 0) hx hb dX9_put_69 (by decide) ?_
        obtain rfl := Option.some.inj h
        exact ms_zret hX (ms_nz (Or.inl rfl)) hW dX9_put_70
    · have h := ms_ifn h k
      refine lv_lload_n hx hb dX9_put_12 rfl (lv_at hl 1 rfl) ?_
      refine lv_iload hx hb dX9_put_13 (lv_at hl 3 rfl) ?_
      obtain ⟨q15, hq15, h⟩ := ms_bd h
      refine ms_callS (fn_X9_byteAt l G v1 v4 hq15) wm_X9_byteAt wz_X9_61 hX hW [] rfl rfl rfl ⟨Nat.le_of_ble_eq_true rfl, Nat.le_of_ble_eq_true rfl, rfl, rfl, Nat.zero_le _, Nat.zero_le _⟩ rfl hl.1 [] rfl (Nat.le_of_ble_eq_true rfl) dX9_put_15 (fun H locs hW => ?_)
      have hW : ms_W G A s H locs [ob_X9 a_this a_input a_source a_written a_policy a_firstTree a_firstReader a_laterReader a_writer x_roundsMade, ob_X1 a_input a_input_row x_input_size x_input_overflowed, (a_input_row, .inl (G.2.1 0, 200, .inl x_input_row))] := hW
      refine W.eq (g2 := F0 m 18 ls [.int q15]) rfl ?_
      refine lv_istore (lv' := [(5, .int q15), (0, .ref a_this), (1, .long v1), (3, .int v3), (4, .int v4)]) hx hb dX9_put_18 hl (by decide) rfl (fun ls hl => ?_)
      refine lv_iload hx hb dX9_put_20 (lv_at hl 0 rfl) ?_
      refine lv_if_eq (tgt := 35) hx hb dX9_put_22 (by decide) (fun k => ?_) (fun k => ?_)
      · have h := ms_ifp h k
        exact wb_X9_put_L35 hX (ih) h hW (lv_sub hl [1, 2, 3, 4, 0] rfl)
      · have h := ms_ifn h k
        refine lv_iload hx hb dX9_put_25 (lv_at hl 0 rfl) ?_
        obtain ⟨q27, hq27, h⟩ := ms_bd h
        refine ms_callS (fn_X9_isPlain l G q15 hq27) wm_X9_isPlain wz_X9_65 hX hW [] rfl rfl rfl ⟨Nat.le_of_ble_eq_true rfl, Nat.le_of_ble_eq_true rfl, rfl, rfl, Nat.zero_le _, Nat.zero_le _⟩ rfl hl.1 [] rfl (Nat.le_of_ble_eq_true rfl) dX9_put_27 (fun H locs hW => ?_)
        have hW : ms_W G A s H locs [ob_X9 a_this a_input a_source a_written a_policy a_firstTree a_firstReader a_laterReader a_writer x_roundsMade, ob_X1 a_input a_input_row x_input_size x_input_overflowed, (a_input_row, .inl (G.2.1 0, 200, .inl x_input_row))] := hW
        refine W.eq (g2 := F0 m 30 ls [.int q27]) rfl ?_
        refine lv_if_ne (tgt := 35) hx hb dX9_put_30 (by decide) (fun k => ?_) (fun k => ?_)
        · have h := ms_ifn h k
          exact wb_X9_put_L35 hX (ih) h hW (lv_sub hl [1, 2, 3, 4, 0] rfl)
        · have h := ms_ifp h k
          refine lv_iconst (v := 0) hx hb dX9_put_33 (by decide) ?_
          obtain rfl := Option.some.inj h
          exact ms_zret hX (ms_nz (Or.inl rfl)) hW dX9_put_34
def f_X9_put (x_input_size : Int32) (x_input_overflowed : Int32) (x_input_row : Nat → Int32) (v1 : Int64) : Option (Int32 × Int32 × (Nat → Int32) × Int32) := f_X9_put_L5 v1 1000 x_input_size x_input_overflowed x_input_row 0 0
set_option maxHeartbeats 4000000 in
set_option maxRecDepth 100000 in
theorem fn_X9_put (l : Launch) (G : Gc) (a_this : Nat) (a_input : Nat) (a_source : Nat) (a_written : Nat) (a_policy : Nat) (a_firstTree : Nat) (a_firstReader : Nat) (a_laterReader : Nat) (a_writer : Nat) (a_input_row : Nat) (x_roundsMade : Int32) (x_input_size : Int32) (x_input_overflowed : Int32) (x_input_row : Nat → Int32) (v1 : Int64)  {o : Int32 × Int32 × (Nat → Int32) × Int32} (h : f_X9_put x_input_size x_input_overflowed x_input_row v1 = some o) : ms_Fn l G yX9_put cX9_put 6 (some .boolean) rm_X9_put [.ref a_this, .long v1] [ob_X9 a_this a_input a_source a_written a_policy a_firstTree a_firstReader a_laterReader a_writer x_roundsMade, ob_X1 a_input a_input_row x_input_size x_input_overflowed, (a_input_row, .inl (G.2.1 0, 200, .inl x_input_row))] [ob_X9 a_this a_input a_source a_written a_policy a_firstTree a_firstReader a_laterReader a_writer x_roundsMade, ob_X1 a_input a_input_row o.1 o.2.1, (a_input_row, .inl (G.2.1 0, 200, .inl o.2.2.1))] (some (.int o.2.2.2)) := by
  refine ms_start RX9 (by decide +kernel) rfl (Nat.le_of_ble_eq_true rfl) (fun p e s m below meth c A ls hX hW hl => ?_)
  have hx := hX.1.1
  have hb := hX.1.2.1
  have hl : lv_has ls 6 [(0, .ref a_this), (1, .long v1)] := hl
  unfold f_X9_put at h
  refine lv_iconst (v := 0) hx hb dX9_put_0 (by decide) ?_
  refine lv_istore_n (lv' := [(3, .int 0), (0, .ref a_this), (1, .long v1)]) hx hb dX9_put_1 rfl hl (by decide) rfl (fun ls hl => ?_)
  refine lv_iconst (v := 0) hx hb dX9_put_2 (by decide) ?_
  refine lv_istore (lv' := [(4, .int 0), (3, .int 0), (0, .ref a_this), (1, .long v1)]) hx hb dX9_put_3 hl (by decide) rfl (fun ls hl => ?_)
  exact wb_X9_put_L5 hX _ _ _ _ _ _ _ _ _ h hW (lv_sub hl [2, 3, 1, 0] rfl)
def rm_X9_wipe : Room := { frames := 1, cells := 0, slots := 0, locals := 20 }
def f_X9_wipe (x_input_size : Int32) (x_input_overflowed : Int32)  : Option (Int32 × Int32) := (f_X1_empty x_input_size x_input_overflowed).bind (fun q4 => some (q4.1, q4.2))
set_option maxHeartbeats 4000000 in
set_option maxRecDepth 100000 in
theorem fn_X9_wipe (l : Launch) (G : Gc) (a_this : Nat) (a_input : Nat) (a_source : Nat) (a_written : Nat) (a_policy : Nat) (a_firstTree : Nat) (a_firstReader : Nat) (a_laterReader : Nat) (a_writer : Nat) (a_input_row : Nat) (x_roundsMade : Int32) (x_input_size : Int32) (x_input_overflowed : Int32)   {o : Int32 × Int32} (h : f_X9_wipe x_input_size x_input_overflowed = some o) : ms_Fn l G yX9_wipe cX9_wipe 1 none rm_X9_wipe [.ref a_this] [ob_X9 a_this a_input a_source a_written a_policy a_firstTree a_firstReader a_laterReader a_writer x_roundsMade, ob_X1 a_input a_input_row x_input_size x_input_overflowed] [ob_X9 a_this a_input a_source a_written a_policy a_firstTree a_firstReader a_laterReader a_writer x_roundsMade, ob_X1 a_input a_input_row o.1 o.2] none := by
  refine ms_start RX9 (by decide +kernel) rfl (Nat.le_of_ble_eq_true rfl) (fun p e s m below meth c A ls hX hW hl => ?_)
  have hx := hX.1.1
  have hb := hX.1.2.1
  have hl : lv_has ls 1 [(0, .ref a_this)] := hl
  unfold f_X9_wipe at h
  refine lv_aload_n hx hb dX9_wipe_0 rfl (lv_at hl 0 rfl) ?_
  refine ms_get ff_X9_10 hX hW 0 rfl rfl dX9_wipe_1 ?_
  obtain ⟨q4, hq4, h⟩ := ms_bd h
  refine ms_callV (fn_X1_empty l G a_input a_input_row x_input_size x_input_overflowed hq4) wm_X1_empty wv_X9_77 hX hW [1] rfl rfl rfl rfl rfl ⟨Nat.le_of_ble_eq_true rfl, Nat.le_of_ble_eq_true rfl, rfl, rfl, Nat.zero_le _, Nat.zero_le _⟩ rfl hl.1 [] rfl (Nat.le_of_ble_eq_true rfl) dX9_wipe_4 (fun H locs hW => ?_)
  have hW : ms_W G A s H locs [ob_X9 a_this a_input a_source a_written a_policy a_firstTree a_firstReader a_laterReader a_writer x_roundsMade, ob_X1 a_input a_input_row q4.1 q4.2] := hW
  refine W.eq (g2 := F0 m 7 ls []) rfl ?_
  obtain rfl := Option.some.inj h
  exact ms_vret hX hW dX9_wipe_7
def rm_X9_action : Room := { frames := 2, cells := 0, slots := 0, locals := 42 }
def f_X9_action_L28 (v1 : Int32) (v2 : Int32) (x_policy_actions : Nat → Int32) : Option ((Nat → Int32) × Int32) := (f_X3_setAction x_policy_actions v1 v2).bind (fun q34 => some (q34, 1))
set_option maxHeartbeats 4000000 in
set_option maxRecDepth 100000 in
theorem wb_X9_action_L28 {p : Program} {l : Launch} {e : Env} {s : State} {m : MethodId} {args : Array Value} {below : List Frame} {meth : Method} {c : Code} {G : Gc} {A : Nat → Prop} {H : Heap} {locs : List Loc} {ls : Array Slot} {a_this : Nat} {a_input : Nat} {a_source : Nat} {a_written : Nat} {a_policy : Nat} {a_firstTree : Nat} {a_firstReader : Nat} {a_laterReader : Nat} {a_writer : Nat} {a_policy_actions : Nat} {a_policy_attributes : Nat} {a_policy_schemes : Nat} {x_roundsMade : Int32} {x_policy_schemeCount : Int32} {v1 : Int32} {v2 : Int32} {x_policy_actions : Nat → Int32} {o : (Nat → Int32) × Int32} (hX : ms_CX p s m args meth c cX9_action 3 RX9 (some .boolean) G A)   (h : f_X9_action_L28 v1 v2 x_policy_actions = some o) (hW : ms_W G A s H locs [ob_X9 a_this a_input a_source a_written a_policy a_firstTree a_firstReader a_laterReader a_writer x_roundsMade, ob_X3 a_policy a_policy_actions a_policy_attributes a_policy_schemes x_policy_schemeCount, (a_policy_actions, .inl (G.2.1 1, 26, .inl x_policy_actions))]) (hl : lv_has ls 3 [(0, .ref a_this), (1, .int v1), (2, .int v2)]) : W p l e rm_X9_action s m args below meth c H locs 0 0 (ms_Q G A below args s [ob_X9 a_this a_input a_source a_written a_policy a_firstTree a_firstReader a_laterReader a_writer x_roundsMade, ob_X3 a_policy a_policy_actions a_policy_attributes a_policy_schemes x_policy_schemeCount, (a_policy_actions, .inl (G.2.1 1, 26, .inl o.1))] (some (.int o.2))) (F0 m 28 ls []) := by
  have hx := hX.1.1
  have hb := hX.1.2.1
  unfold f_X9_action_L28 at h
  refine lv_aload_n hx hb dX9_action_28 rfl (lv_at hl 0 rfl) ?_
  refine ms_get ff_X9_25 hX hW 0 rfl rfl dX9_action_29 ?_
  refine lv_iload_n hx hb dX9_action_32 rfl (lv_at hl 1 rfl) ?_
  refine lv_iload_n hx hb dX9_action_33 rfl (lv_at hl 2 rfl) ?_
  obtain ⟨q34, hq34, h⟩ := ms_bd h
  refine ms_callV (fn_X3_setAction l G a_policy a_policy_actions a_policy_attributes a_policy_schemes x_policy_schemeCount x_policy_actions v1 v2 hq34) wm_X3_setAction wv_X9_83 hX hW [1, 2] rfl rfl rfl rfl rfl ⟨Nat.le_of_ble_eq_true rfl, Nat.le_of_ble_eq_true rfl, rfl, rfl, Nat.zero_le _, Nat.zero_le _⟩ rfl hl.1 [] rfl (Nat.le_of_ble_eq_true rfl) dX9_action_34 (fun H locs hW => ?_)
  have hW : ms_W G A s H locs [ob_X9 a_this a_input a_source a_written a_policy a_firstTree a_firstReader a_laterReader a_writer x_roundsMade, ob_X3 a_policy a_policy_actions a_policy_attributes a_policy_schemes x_policy_schemeCount, (a_policy_actions, .inl (G.2.1 1, 26, .inl q34))] := hW
  refine W.eq (g2 := F0 m 37 ls []) rfl ?_
  refine lv_iconst (v := 1) hx hb dX9_action_37 (by decide) ?_
  obtain rfl := Option.some.inj h
  exact ms_zret hX (ms_nz (Or.inr rfl)) hW dX9_action_38
def f_X9_action (x_policy_actions : Nat → Int32) (v1 : Int32) (v2 : Int32) : Option ((Nat → Int32) × Int32) := (f_X9_isLetterNumber v1).bind (fun q1 => (if q1 = 0 then some (x_policy_actions, 0) else (if v2 < 0 then some (x_policy_actions, 0) else (if 2 < v2 then some (x_policy_actions, 0) else (if v1 = 18 then (if v2 = 0 then some (x_policy_actions, 0) else f_X9_action_L28 v1 v2 x_policy_actions) else f_X9_action_L28 v1 v2 x_policy_actions)))))
set_option maxHeartbeats 4000000 in
set_option maxRecDepth 100000 in
theorem fn_X9_action (l : Launch) (G : Gc) (a_this : Nat) (a_input : Nat) (a_source : Nat) (a_written : Nat) (a_policy : Nat) (a_firstTree : Nat) (a_firstReader : Nat) (a_laterReader : Nat) (a_writer : Nat) (a_policy_actions : Nat) (a_policy_attributes : Nat) (a_policy_schemes : Nat) (x_roundsMade : Int32) (x_policy_schemeCount : Int32) (x_policy_actions : Nat → Int32) (v1 : Int32) (v2 : Int32)  {o : (Nat → Int32) × Int32} (h : f_X9_action x_policy_actions v1 v2 = some o) : ms_Fn l G yX9_action cX9_action 3 (some .boolean) rm_X9_action [.ref a_this, .int v1, .int v2] [ob_X9 a_this a_input a_source a_written a_policy a_firstTree a_firstReader a_laterReader a_writer x_roundsMade, ob_X3 a_policy a_policy_actions a_policy_attributes a_policy_schemes x_policy_schemeCount, (a_policy_actions, .inl (G.2.1 1, 26, .inl x_policy_actions))] [ob_X9 a_this a_input a_source a_written a_policy a_firstTree a_firstReader a_laterReader a_writer x_roundsMade, ob_X3 a_policy a_policy_actions a_policy_attributes a_policy_schemes x_policy_schemeCount, (a_policy_actions, .inl (G.2.1 1, 26, .inl o.1))] (some (.int o.2)) := by
  refine ms_start RX9 (by decide +kernel) rfl (Nat.le_of_ble_eq_true rfl) (fun p e s m below meth c A ls hX hW hl => ?_)
  have hx := hX.1.1
  have hb := hX.1.2.1
  have hl : lv_has ls 3 [(0, .ref a_this), (1, .int v1), (2, .int v2)] := hl
  unfold f_X9_action at h
  refine lv_iload_n hx hb dX9_action_0 rfl (lv_at hl 1 rfl) ?_
  obtain ⟨q1, hq1, h⟩ := ms_bd h
  refine ms_callS (fn_X9_isLetterNumber l G v1 hq1) wm_X9_isLetterNumber wz_X9_80 hX hW [] rfl rfl rfl ⟨Nat.le_of_ble_eq_true rfl, Nat.le_of_ble_eq_true rfl, rfl, rfl, Nat.zero_le _, Nat.zero_le _⟩ rfl hl.1 [] rfl (Nat.le_of_ble_eq_true rfl) dX9_action_1 (fun H locs hW => ?_)
  have hW : ms_W G A s H locs [ob_X9 a_this a_input a_source a_written a_policy a_firstTree a_firstReader a_laterReader a_writer x_roundsMade, ob_X3 a_policy a_policy_actions a_policy_attributes a_policy_schemes x_policy_schemeCount, (a_policy_actions, .inl (G.2.1 1, 26, .inl x_policy_actions))] := hW
  refine W.eq (g2 := F0 m 4 ls [.int q1]) rfl ?_
  refine lv_if_eq (tgt := 26) hx hb dX9_action_4 (by decide) (fun k => ?_) (fun k => ?_)
  · have h := ms_ifp h k
    refine lv_iconst (v := 0) hx hb dX9_action_26 (by decide) ?_
    obtain rfl := Option.some.inj h
    exact ms_zret hX (ms_nz (Or.inl rfl)) hW dX9_action_27
  · have h := ms_ifn h k
    refine lv_iload_n hx hb dX9_action_7 rfl (lv_at hl 2 rfl) ?_
    refine lv_if_lt (tgt := 26) hx hb dX9_action_8 (by decide) (fun k => ?_) (fun k => ?_)
    · have h := ms_ifp h k
      refine lv_iconst (v := 0) hx hb dX9_action_26 (by decide) ?_
      obtain rfl := Option.some.inj h
      exact ms_zret hX (ms_nz (Or.inl rfl)) hW dX9_action_27
    · have h := ms_ifn h k
      refine lv_iload_n hx hb dX9_action_11 rfl (lv_at hl 2 rfl) ?_
      refine lv_iconst (v := 2) hx hb dX9_action_12 (by decide) ?_
      refine lv_icmp_gt (tgt := 26) hx hb dX9_action_13 (by decide) (fun k => ?_) (fun k => ?_)
      · have h := ms_ifp h k
        refine lv_iconst (v := 0) hx hb dX9_action_26 (by decide) ?_
        obtain rfl := Option.some.inj h
        exact ms_zret hX (ms_nz (Or.inl rfl)) hW dX9_action_27
      · have h := ms_ifn h k
        refine lv_iload_n hx hb dX9_action_16 rfl (lv_at hl 1 rfl) ?_
        refine lv_bipush (v := 18) hx hb dX9_action_17 (by decide) ?_
        refine lv_icmp_ne (tgt := 28) hx hb dX9_action_19 (by decide) (fun k => ?_) (fun k => ?_)
        · have h := ms_ifn h k
          exact wb_X9_action_L28 hX h hW (lv_sub hl [0, 1, 2] rfl)
        · have h := ms_ifp h k
          refine lv_iload_n hx hb dX9_action_22 rfl (lv_at hl 2 rfl) ?_
          refine lv_if_ne (tgt := 28) hx hb dX9_action_23 (by decide) (fun k => ?_) (fun k => ?_)
          · have h := ms_ifn h k
            exact wb_X9_action_L28 hX h hW (lv_sub hl [0, 1, 2] rfl)
          · have h := ms_ifp h k
            refine lv_iconst (v := 0) hx hb dX9_action_26 (by decide) ?_
            obtain rfl := Option.some.inj h
            exact ms_zret hX (ms_nz (Or.inl rfl)) hW dX9_action_27
def rm_X9_attribute : Room := { frames := 2, cells := 0, slots := 0, locals := 44 }
def f_X9_attribute_L43 (v1 : Int32) (v2 : Int32) (v3 : Int32) (x_policy_attributes : Nat → Int32) : Option ((Nat → Int32) × Int32) := (f_X3_setAttribute x_policy_attributes v1 v2 v3).bind (fun q50 => some (q50, 1))
set_option maxHeartbeats 4000000 in
set_option maxRecDepth 100000 in
theorem wb_X9_attribute_L43 {p : Program} {l : Launch} {e : Env} {s : State} {m : MethodId} {args : Array Value} {below : List Frame} {meth : Method} {c : Code} {G : Gc} {A : Nat → Prop} {H : Heap} {locs : List Loc} {ls : Array Slot} {a_this : Nat} {a_input : Nat} {a_source : Nat} {a_written : Nat} {a_policy : Nat} {a_firstTree : Nat} {a_firstReader : Nat} {a_laterReader : Nat} {a_writer : Nat} {a_policy_actions : Nat} {a_policy_attributes : Nat} {a_policy_schemes : Nat} {x_roundsMade : Int32} {x_policy_schemeCount : Int32} {v1 : Int32} {v2 : Int32} {v3 : Int32} {x_policy_attributes : Nat → Int32} {o : (Nat → Int32) × Int32} (hX : ms_CX p s m args meth c cX9_attribute 5 RX9 (some .boolean) G A)   (h : f_X9_attribute_L43 v1 v2 v3 x_policy_attributes = some o) (hW : ms_W G A s H locs [ob_X9 a_this a_input a_source a_written a_policy a_firstTree a_firstReader a_laterReader a_writer x_roundsMade, ob_X3 a_policy a_policy_actions a_policy_attributes a_policy_schemes x_policy_schemeCount, (a_policy_attributes, .inl (G.2.1 1, 27, .inl x_policy_attributes))]) (hl : lv_has ls 5 [(0, .ref a_this), (1, .int v1), (2, .int v2), (3, .int v3)]) : W p l e rm_X9_attribute s m args below meth c H locs 0 0 (ms_Q G A below args s [ob_X9 a_this a_input a_source a_written a_policy a_firstTree a_firstReader a_laterReader a_writer x_roundsMade, ob_X3 a_policy a_policy_actions a_policy_attributes a_policy_schemes x_policy_schemeCount, (a_policy_attributes, .inl (G.2.1 1, 27, .inl o.1))] (some (.int o.2))) (F0 m 43 ls []) := by
  have hx := hX.1.1
  have hb := hX.1.2.1
  unfold f_X9_attribute_L43 at h
  refine lv_aload_n hx hb dX9_attribute_43 rfl (lv_at hl 0 rfl) ?_
  refine ms_get ff_X9_25 hX hW 0 rfl rfl dX9_attribute_44 ?_
  refine lv_iload_n hx hb dX9_attribute_47 rfl (lv_at hl 1 rfl) ?_
  refine lv_iload_n hx hb dX9_attribute_48 rfl (lv_at hl 2 rfl) ?_
  refine lv_iload_n hx hb dX9_attribute_49 rfl (lv_at hl 3 rfl) ?_
  obtain ⟨q50, hq50, h⟩ := ms_bd h
  refine ms_callV (fn_X3_setAttribute l G a_policy a_policy_actions a_policy_attributes a_policy_schemes x_policy_schemeCount x_policy_attributes v1 v2 v3 hq50) wm_X3_setAttribute wv_X9_87 hX hW [1, 2] rfl rfl rfl rfl rfl ⟨Nat.le_of_ble_eq_true rfl, Nat.le_of_ble_eq_true rfl, rfl, rfl, Nat.zero_le _, Nat.zero_le _⟩ rfl hl.1 [] rfl (Nat.le_of_ble_eq_true rfl) dX9_attribute_50 (fun H locs hW => ?_)
  have hW : ms_W G A s H locs [ob_X9 a_this a_input a_source a_written a_policy a_firstTree a_firstReader a_laterReader a_writer x_roundsMade, ob_X3 a_policy a_policy_actions a_policy_attributes a_policy_schemes x_policy_schemeCount, (a_policy_attributes, .inl (G.2.1 1, 27, .inl q50))] := hW
  refine W.eq (g2 := F0 m 53 ls []) rfl ?_
  refine lv_iconst (v := 1) hx hb dX9_attribute_53 (by decide) ?_
  obtain rfl := Option.some.inj h
  exact ms_zret hX (ms_nz (Or.inr rfl)) hW dX9_attribute_54
def f_X9_attribute_L24 (v1 : Int32) (v2 : Int32) (v3 : Int32) (x_policy_attributes : Nat → Int32) (z0 : Int32) : Option ((Nat → Int32) × Int32) := (if z0 = 0 then some (x_policy_attributes, 0) else (if v2 = 14 then (if v3 = 0 then f_X9_attribute_L43 v1 v2 v3 x_policy_attributes else some (x_policy_attributes, 0)) else f_X9_attribute_L43 v1 v2 v3 x_policy_attributes))
set_option maxHeartbeats 4000000 in
set_option maxRecDepth 100000 in
theorem wb_X9_attribute_L24 {p : Program} {l : Launch} {e : Env} {s : State} {m : MethodId} {args : Array Value} {below : List Frame} {meth : Method} {c : Code} {G : Gc} {A : Nat → Prop} {H : Heap} {locs : List Loc} {ls : Array Slot} {a_this : Nat} {a_input : Nat} {a_source : Nat} {a_written : Nat} {a_policy : Nat} {a_firstTree : Nat} {a_firstReader : Nat} {a_laterReader : Nat} {a_writer : Nat} {a_policy_actions : Nat} {a_policy_attributes : Nat} {a_policy_schemes : Nat} {x_roundsMade : Int32} {x_policy_schemeCount : Int32} {v1 : Int32} {v2 : Int32} {v3 : Int32} {x_policy_attributes : Nat → Int32} {z0 : Int32} {o : (Nat → Int32) × Int32} (hX : ms_CX p s m args meth c cX9_attribute 5 RX9 (some .boolean) G A)   (h : f_X9_attribute_L24 v1 v2 v3 x_policy_attributes z0 = some o) (hW : ms_W G A s H locs [ob_X9 a_this a_input a_source a_written a_policy a_firstTree a_firstReader a_laterReader a_writer x_roundsMade, ob_X3 a_policy a_policy_actions a_policy_attributes a_policy_schemes x_policy_schemeCount, (a_policy_attributes, .inl (G.2.1 1, 27, .inl x_policy_attributes))]) (hl : lv_has ls 5 [(0, .ref a_this), (1, .int v1), (2, .int v2), (3, .int v3)]) : W p l e rm_X9_attribute s m args below meth c H locs 0 0 (ms_Q G A below args s [ob_X9 a_this a_input a_source a_written a_policy a_firstTree a_firstReader a_laterReader a_writer x_roundsMade, ob_X3 a_policy a_policy_actions a_policy_attributes a_policy_schemes x_policy_schemeCount, (a_policy_attributes, .inl (G.2.1 1, 27, .inl o.1))] (some (.int o.2))) (F0 m 24 ls [.int z0]) := by
  have hx := hX.1.1
  have hb := hX.1.2.1
  unfold f_X9_attribute_L24 at h
  refine lv_istore (lv' := [(4, .int z0), (0, .ref a_this), (1, .int v1), (2, .int v2), (3, .int v3)]) hx hb dX9_attribute_24 hl (by decide) rfl (fun ls hl => ?_)
  refine lv_iload hx hb dX9_attribute_26 (lv_at hl 0 rfl) ?_
  refine lv_if_eq (tgt := 41) hx hb dX9_attribute_28 (by decide) (fun k => ?_) (fun k => ?_)
  · have h := ms_ifp h k
    refine lv_iconst (v := 0) hx hb dX9_attribute_41 (by decide) ?_
    obtain rfl := Option.some.inj h
    exact ms_zret hX (ms_nz (Or.inl rfl)) hW dX9_attribute_42
  · have h := ms_ifn h k
    refine lv_iload_n hx hb dX9_attribute_31 rfl (lv_at hl 3 rfl) ?_
    refine lv_bipush (v := 14) hx hb dX9_attribute_32 (by decide) ?_
    refine lv_icmp_ne (tgt := 43) hx hb dX9_attribute_34 (by decide) (fun k => ?_) (fun k => ?_)
    · have h := ms_ifn h k
      exact wb_X9_attribute_L43 hX h hW (lv_sub hl [1, 2, 3, 4] rfl)
    · have h := ms_ifp h k
      refine lv_iload_n hx hb dX9_attribute_37 rfl (lv_at hl 4 rfl) ?_
      refine lv_if_eq (tgt := 43) hx hb dX9_attribute_38 (by decide) (fun k => ?_) (fun k => ?_)
      · have h := ms_ifp h k
        exact wb_X9_attribute_L43 hX h hW (lv_sub hl [1, 2, 3, 4] rfl)
      · have h := ms_ifn h k
        refine lv_iconst (v := 0) hx hb dX9_attribute_41 (by decide) ?_
        obtain rfl := Option.some.inj h
        exact ms_zret hX (ms_nz (Or.inl rfl)) hW dX9_attribute_42
def f_X9_attribute_L23 (v1 : Int32) (v2 : Int32) (v3 : Int32) (x_policy_attributes : Nat → Int32) : Option ((Nat → Int32) × Int32) := f_X9_attribute_L24 v1 v2 v3 x_policy_attributes 0
set_option maxHeartbeats 4000000 in
set_option maxRecDepth 100000 in
theorem wb_X9_attribute_L23 {p : Program} {l : Launch} {e : Env} {s : State} {m : MethodId} {args : Array Value} {below : List Frame} {meth : Method} {c : Code} {G : Gc} {A : Nat → Prop} {H : Heap} {locs : List Loc} {ls : Array Slot} {a_this : Nat} {a_input : Nat} {a_source : Nat} {a_written : Nat} {a_policy : Nat} {a_firstTree : Nat} {a_firstReader : Nat} {a_laterReader : Nat} {a_writer : Nat} {a_policy_actions : Nat} {a_policy_attributes : Nat} {a_policy_schemes : Nat} {x_roundsMade : Int32} {x_policy_schemeCount : Int32} {v1 : Int32} {v2 : Int32} {v3 : Int32} {x_policy_attributes : Nat → Int32} {o : (Nat → Int32) × Int32} (hX : ms_CX p s m args meth c cX9_attribute 5 RX9 (some .boolean) G A)   (h : f_X9_attribute_L23 v1 v2 v3 x_policy_attributes = some o) (hW : ms_W G A s H locs [ob_X9 a_this a_input a_source a_written a_policy a_firstTree a_firstReader a_laterReader a_writer x_roundsMade, ob_X3 a_policy a_policy_actions a_policy_attributes a_policy_schemes x_policy_schemeCount, (a_policy_attributes, .inl (G.2.1 1, 27, .inl x_policy_attributes))]) (hl : lv_has ls 5 [(0, .ref a_this), (1, .int v1), (2, .int v2), (3, .int v3)]) : W p l e rm_X9_attribute s m args below meth c H locs 0 0 (ms_Q G A below args s [ob_X9 a_this a_input a_source a_written a_policy a_firstTree a_firstReader a_laterReader a_writer x_roundsMade, ob_X3 a_policy a_policy_actions a_policy_attributes a_policy_schemes x_policy_schemeCount, (a_policy_attributes, .inl (G.2.1 1, 27, .inl o.1))] (some (.int o.2))) (F0 m 23 ls []) := by
  have hx := hX.1.1
  have hb := hX.1.2.1
  unfold f_X9_attribute_L23 at h
  refine lv_iconst (v := 0) hx hb dX9_attribute_23 (by decide) ?_
  exact wb_X9_attribute_L24 hX h hW (lv_sub hl [0, 1, 2, 3] rfl)
def f_X9_attribute_L12 (v1 : Int32) (v2 : Int32) (v3 : Int32) (x_policy_attributes : Nat → Int32) : Option ((Nat → Int32) × Int32) := (f_X9_isLetterNumber v2).bind (fun q13 => (if q13 = 0 then f_X9_attribute_L23 v1 v2 v3 x_policy_attributes else f_X9_attribute_L24 v1 v2 v3 x_policy_attributes 1))
set_option maxHeartbeats 4000000 in
set_option maxRecDepth 100000 in
theorem wb_X9_attribute_L12 {p : Program} {l : Launch} {e : Env} {s : State} {m : MethodId} {args : Array Value} {below : List Frame} {meth : Method} {c : Code} {G : Gc} {A : Nat → Prop} {H : Heap} {locs : List Loc} {ls : Array Slot} {a_this : Nat} {a_input : Nat} {a_source : Nat} {a_written : Nat} {a_policy : Nat} {a_firstTree : Nat} {a_firstReader : Nat} {a_laterReader : Nat} {a_writer : Nat} {a_policy_actions : Nat} {a_policy_attributes : Nat} {a_policy_schemes : Nat} {x_roundsMade : Int32} {x_policy_schemeCount : Int32} {v1 : Int32} {v2 : Int32} {v3 : Int32} {x_policy_attributes : Nat → Int32} {o : (Nat → Int32) × Int32} (hX : ms_CX p s m args meth c cX9_attribute 5 RX9 (some .boolean) G A)   (h : f_X9_attribute_L12 v1 v2 v3 x_policy_attributes = some o) (hW : ms_W G A s H locs [ob_X9 a_this a_input a_source a_written a_policy a_firstTree a_firstReader a_laterReader a_writer x_roundsMade, ob_X3 a_policy a_policy_actions a_policy_attributes a_policy_schemes x_policy_schemeCount, (a_policy_attributes, .inl (G.2.1 1, 27, .inl x_policy_attributes))]) (hl : lv_has ls 5 [(0, .ref a_this), (1, .int v1), (2, .int v2), (3, .int v3)]) : W p l e rm_X9_attribute s m args below meth c H locs 0 0 (ms_Q G A below args s [ob_X9 a_this a_input a_source a_written a_policy a_firstTree a_firstReader a_laterReader a_writer x_roundsMade, ob_X3 a_policy a_policy_actions a_policy_attributes a_policy_schemes x_policy_schemeCount, (a_policy_attributes, .inl (G.2.1 1, 27, .inl o.1))] (some (.int o.2))) (F0 m 12 ls []) := by
  have hx := hX.1.1
  have hb := hX.1.2.1
  unfold f_X9_attribute_L12 at h
  refine lv_iload_n hx hb dX9_attribute_12 rfl (lv_at hl 2 rfl) ?_
  obtain ⟨q13, hq13, h⟩ := ms_bd h
  refine ms_callS (fn_X9_isLetterNumber l G v2 hq13) wm_X9_isLetterNumber wz_X9_80 hX hW [] rfl rfl rfl ⟨Nat.le_of_ble_eq_true rfl, Nat.le_of_ble_eq_true rfl, rfl, rfl, Nat.zero_le _, Nat.zero_le _⟩ rfl hl.1 [] rfl (Nat.le_of_ble_eq_true rfl) dX9_attribute_13 (fun H locs hW => ?_)
  have hW : ms_W G A s H locs [ob_X9 a_this a_input a_source a_written a_policy a_firstTree a_firstReader a_laterReader a_writer x_roundsMade, ob_X3 a_policy a_policy_actions a_policy_attributes a_policy_schemes x_policy_schemeCount, (a_policy_attributes, .inl (G.2.1 1, 27, .inl x_policy_attributes))] := hW
  refine W.eq (g2 := F0 m 16 ls [.int q13]) rfl ?_
  refine lv_if_eq (tgt := 23) hx hb dX9_attribute_16 (by decide) (fun k => ?_) (fun k => ?_)
  · have h := ms_ifp h k
    exact wb_X9_attribute_L23 hX h hW (lv_sub hl [0, 1, 2, 3] rfl)
  · have h := ms_ifn h k
    refine lv_iconst (v := 1) hx hb dX9_attribute_19 (by decide) ?_
    refine lv_goto (tgt := 24) hx hb dX9_attribute_20 (by decide) ?_
    exact wb_X9_attribute_L24 hX h hW (lv_sub hl [0, 1, 2, 3] rfl)
def f_X9_attribute (x_policy_attributes : Nat → Int32) (v1 : Int32) (v2 : Int32) (v3 : Int32) : Option ((Nat → Int32) × Int32) := (if v1 = (-1) then f_X9_attribute_L12 v1 v2 v3 x_policy_attributes else (f_X9_isLetterNumber v1).bind (fun q6 => (if q6 = 0 then f_X9_attribute_L23 v1 v2 v3 x_policy_attributes else f_X9_attribute_L12 v1 v2 v3 x_policy_attributes)))
set_option maxHeartbeats 4000000 in
set_option maxRecDepth 100000 in
theorem fn_X9_attribute (l : Launch) (G : Gc) (a_this : Nat) (a_input : Nat) (a_source : Nat) (a_written : Nat) (a_policy : Nat) (a_firstTree : Nat) (a_firstReader : Nat) (a_laterReader : Nat) (a_writer : Nat) (a_policy_actions : Nat) (a_policy_attributes : Nat) (a_policy_schemes : Nat) (x_roundsMade : Int32) (x_policy_schemeCount : Int32) (x_policy_attributes : Nat → Int32) (v1 : Int32) (v2 : Int32) (v3 : Int32)  {o : (Nat → Int32) × Int32} (h : f_X9_attribute x_policy_attributes v1 v2 v3 = some o) : ms_Fn l G yX9_attribute cX9_attribute 5 (some .boolean) rm_X9_attribute [.ref a_this, .int v1, .int v2, .int v3] [ob_X9 a_this a_input a_source a_written a_policy a_firstTree a_firstReader a_laterReader a_writer x_roundsMade, ob_X3 a_policy a_policy_actions a_policy_attributes a_policy_schemes x_policy_schemeCount, (a_policy_attributes, .inl (G.2.1 1, 27, .inl x_policy_attributes))] [ob_X9 a_this a_input a_source a_written a_policy a_firstTree a_firstReader a_laterReader a_writer x_roundsMade, ob_X3 a_policy a_policy_actions a_policy_attributes a_policy_schemes x_policy_schemeCount, (a_policy_attributes, .inl (G.2.1 1, 27, .inl o.1))] (some (.int o.2)) := by
  refine ms_start RX9 (by decide +kernel) rfl (Nat.le_of_ble_eq_true rfl) (fun p e s m below meth c A ls hX hW hl => ?_)
  have hx := hX.1.1
  have hb := hX.1.2.1
  have hl : lv_has ls 5 [(0, .ref a_this), (1, .int v1), (2, .int v2), (3, .int v3)] := hl
  unfold f_X9_attribute at h
  refine lv_iload_n hx hb dX9_attribute_0 rfl (lv_at hl 1 rfl) ?_
  refine lv_iconst (v := (-1)) hx hb dX9_attribute_1 (by decide) ?_
  refine lv_icmp_eq (tgt := 12) hx hb dX9_attribute_2 (by decide) (fun k => ?_) (fun k => ?_)
  · have h := ms_ifp h k
    exact wb_X9_attribute_L12 hX h hW (lv_sub hl [0, 1, 2, 3] rfl)
  · have h := ms_ifn h k
    refine lv_iload_n hx hb dX9_attribute_5 rfl (lv_at hl 1 rfl) ?_
    obtain ⟨q6, hq6, h⟩ := ms_bd h
    refine ms_callS (fn_X9_isLetterNumber l G v1 hq6) wm_X9_isLetterNumber wz_X9_80 hX hW [] rfl rfl rfl ⟨Nat.le_of_ble_eq_true rfl, Nat.le_of_ble_eq_true rfl, rfl, rfl, Nat.zero_le _, Nat.zero_le _⟩ rfl hl.1 [] rfl (Nat.le_of_ble_eq_true rfl) dX9_attribute_6 (fun H locs hW => ?_)
    have hW : ms_W G A s H locs [ob_X9 a_this a_input a_source a_written a_policy a_firstTree a_firstReader a_laterReader a_writer x_roundsMade, ob_X3 a_policy a_policy_actions a_policy_attributes a_policy_schemes x_policy_schemeCount, (a_policy_attributes, .inl (G.2.1 1, 27, .inl x_policy_attributes))] := hW
    refine W.eq (g2 := F0 m 9 ls [.int q6]) rfl ?_
    refine lv_if_eq (tgt := 23) hx hb dX9_attribute_9 (by decide) (fun k => ?_) (fun k => ?_)
    · have h := ms_ifp h k
      exact wb_X9_attribute_L23 hX h hW (lv_sub hl [0, 1, 2, 3] rfl)
    · have h := ms_ifn h k
      exact wb_X9_attribute_L12 hX h hW (lv_sub hl [0, 1, 2, 3] rfl)
def rm_X9_isWord : Room := { frames := 1, cells := 0, slots := 0, locals := 22 }
def f_X9_isWord_L66 (v0 : Int64) (kk : Int32 → Int32 → Option (Int32)) (v3 : Int32) (z0 : Int32) (z1 : Int32) : Option (Int32) := kk (z0 + z1) (v3 + 1)
set_option maxHeartbeats 4000000 in
set_option maxRecDepth 100000 in
theorem wb_X9_isWord_L66 {p : Program} {l : Launch} {e : Env} {s : State} {m : MethodId} {args : Array Value} {below : List Frame} {meth : Method} {c : Code} {G : Gc} {A : Nat → Prop} {H : Heap} {locs : List Loc} {ls : Array Slot}   {v0 : Int64} {kk : Int32 → Int32 → Option (Int32)} {v3 : Int32} {z0 : Int32} {z1 : Int32} {o : Int32} (hX : ms_CX p s m args meth c cX9_isWord 6 RX9 (some .boolean) G A)  (ih : ∀ (v2 : Int32) (v3 : Int32) (H : Heap) (locs : List Loc) (ls : Array Slot), kk v2 v3 = some o → ms_W G A s H locs [] → lv_has ls 6 [(0, .long v0), (2, .int v2), (3, .int v3)] → W p l e rm_X9_isWord s m args below meth c H locs 0 0 (ms_Q G A below args s [] (some (.int o))) (F0 m 4 ls [])) (h : f_X9_isWord_L66 v0 kk v3 z0 z1 = some o) (hW : ms_W G A s H locs []) (hl : lv_has ls 6 [(0, .long v0), (3, .int v3)]) : W p l e rm_X9_isWord s m args below meth c H locs 0 0 (ms_Q G A below args s [] (some (.int o))) (F0 m 66 ls [.int z1, .int z0]) := by
  have hx := hX.1.1
  have hb := hX.1.2.1
  unfold f_X9_isWord_L66 at h
  refine lv_iadd hx hb dX9_isWord_66 ?_
  refine lv_istore_n (lv' := [(2, .int (z0 + z1)), (0, .long v0), (3, .int v3)]) hx hb dX9_isWord_67 rfl hl (by decide) rfl (fun ls hl => ?_)
  refine lv_iinc (v := v3 + 1) (lv' := [(3, .int (v3 + 1)), (2, .int (z0 + z1)), (0, .long v0)]) hx hb dX9_isWord_68 hl (k := 2) rfl rfl (by decide) rfl (fun ls hl => ?_)
  refine lv_goto (tgt := 4) hx hb dX9_isWord_71 (by decide) ?_
  exact ih _ _ _ _ _ h hW (lv_sub hl [2, 1, 0] rfl)
def f_X9_isWord_L55 (v0 : Int64) (kk : Int32 → Int32 → Option (Int32)) (v2 : Int32) (v3 : Int32) (v5 : Int32) : Option (Int32) := (if v5 = 0 then f_X9_isWord_L66 v0 (kk) v3 v2 0 else f_X9_isWord_L66 v0 (kk) v3 v2 1)
set_option maxHeartbeats 4000000 in
set_option maxRecDepth 100000 in
theorem wb_X9_isWord_L55 {p : Program} {l : Launch} {e : Env} {s : State} {m : MethodId} {args : Array Value} {below : List Frame} {meth : Method} {c : Code} {G : Gc} {A : Nat → Prop} {H : Heap} {locs : List Loc} {ls : Array Slot}   {v0 : Int64} {kk : Int32 → Int32 → Option (Int32)} {v2 : Int32} {v3 : Int32} {v5 : Int32} {o : Int32} (hX : ms_CX p s m args meth c cX9_isWord 6 RX9 (some .boolean) G A)  (ih : ∀ (v2 : Int32) (v3 : Int32) (H : Heap) (locs : List Loc) (ls : Array Slot), kk v2 v3 = some o → ms_W G A s H locs [] → lv_has ls 6 [(0, .long v0), (2, .int v2), (3, .int v3)] → W p l e rm_X9_isWord s m args below meth c H locs 0 0 (ms_Q G A below args s [] (some (.int o))) (F0 m 4 ls [])) (h : f_X9_isWord_L55 v0 kk v2 v3 v5 = some o) (hW : ms_W G A s H locs []) (hl : lv_has ls 6 [(0, .long v0), (2, .int v2), (3, .int v3), (5, .int v5)]) : W p l e rm_X9_isWord s m args below meth c H locs 0 0 (ms_Q G A below args s [] (some (.int o))) (F0 m 55 ls []) := by
  have hx := hX.1.1
  have hb := hX.1.2.1
  unfold f_X9_isWord_L55 at h
  refine lv_iload_n hx hb dX9_isWord_55 rfl (lv_at hl 1 rfl) ?_
  refine lv_iload hx hb dX9_isWord_56 (lv_at hl 3 rfl) ?_
  refine lv_if_eq (tgt := 65) hx hb dX9_isWord_58 (by decide) (fun k => ?_) (fun k => ?_)
  · have h := ms_ifp h k
    refine lv_iconst (v := 0) hx hb dX9_isWord_65 (by decide) ?_
    exact wb_X9_isWord_L66 hX (ih) h hW (lv_sub hl [0, 2] rfl)
  · have h := ms_ifn h k
    refine lv_iconst (v := 1) hx hb dX9_isWord_61 (by decide) ?_
    refine lv_goto (tgt := 66) hx hb dX9_isWord_62 (by decide) ?_
    exact wb_X9_isWord_L66 hX (ih) h hW (lv_sub hl [0, 2] rfl)
def f_X9_isWord_L36 (v0 : Int64) (kk : Int32 → Int32 → Option (Int32)) (v2 : Int32) (v3 : Int32) (v4 : Int32) (z0 : Int32) : Option (Int32) := (if v4 = 0 then f_X9_isWord_L55 v0 (kk) v2 v3 z0 else (if z0 = 0 then some 0 else (if v3 ≤ v2 then f_X9_isWord_L55 v0 (kk) v2 v3 z0 else some 0)))
set_option maxHeartbeats 4000000 in
set_option maxRecDepth 100000 in
theorem wb_X9_isWord_L36 {p : Program} {l : Launch} {e : Env} {s : State} {m : MethodId} {args : Array Value} {below : List Frame} {meth : Method} {c : Code} {G : Gc} {A : Nat → Prop} {H : Heap} {locs : List Loc} {ls : Array Slot}   {v0 : Int64} {kk : Int32 → Int32 → Option (Int32)} {v2 : Int32} {v3 : Int32} {v4 : Int32} {z0 : Int32} {o : Int32} (hX : ms_CX p s m args meth c cX9_isWord 6 RX9 (some .boolean) G A)  (ih : ∀ (v2 : Int32) (v3 : Int32) (H : Heap) (locs : List Loc) (ls : Array Slot), kk v2 v3 = some o → ms_W G A s H locs [] → lv_has ls 6 [(0, .long v0), (2, .int v2), (3, .int v3)] → W p l e rm_X9_isWord s m args below meth c H locs 0 0 (ms_Q G A below args s [] (some (.int o))) (F0 m 4 ls [])) (h : f_X9_isWord_L36 v0 kk v2 v3 v4 z0 = some o) (hW : ms_W G A s H locs []) (hl : lv_has ls 6 [(0, .long v0), (2, .int v2), (3, .int v3), (4, .int v4)]) : W p l e rm_X9_isWord s m args below meth c H locs 0 0 (ms_Q G A below args s [] (some (.int o))) (F0 m 36 ls [.int z0]) := by
  have hx := hX.1.1
  have hb := hX.1.2.1
  unfold f_X9_isWord_L36 at h
  refine lv_istore (lv' := [(5, .int z0), (0, .long v0), (2, .int v2), (3, .int v3), (4, .int v4)]) hx hb dX9_isWord_36 hl (by decide) rfl (fun ls hl => ?_)
  refine lv_iload hx hb dX9_isWord_38 (lv_at hl 4 rfl) ?_
  refine lv_if_eq (tgt := 55) hx hb dX9_isWord_40 (by decide) (fun k => ?_) (fun k => ?_)
  · have h := ms_ifp h k
    exact wb_X9_isWord_L55 hX (ih) h hW (lv_sub hl [1, 2, 3, 0] rfl)
  · have h := ms_ifn h k
    refine lv_iload hx hb dX9_isWord_43 (lv_at hl 0 rfl) ?_
    refine lv_if_eq (tgt := 53) hx hb dX9_isWord_45 (by decide) (fun k => ?_) (fun k => ?_)
    · have h := ms_ifp h k
      refine lv_iconst (v := 0) hx hb dX9_isWord_53 (by decide) ?_
      obtain rfl := Option.some.inj h
      exact ms_zret hX (ms_nz (Or.inl rfl)) hW dX9_isWord_54
    · have h := ms_ifn h k
      refine lv_iload_n hx hb dX9_isWord_48 rfl (lv_at hl 2 rfl) ?_
      refine lv_iload_n hx hb dX9_isWord_49 rfl (lv_at hl 3 rfl) ?_
      refine lv_icmp_ge (tgt := 55) hx hb dX9_isWord_50 (by decide) (fun k => ?_) (fun k => ?_)
      · have h := ms_ifp h k
        exact wb_X9_isWord_L55 hX (ih) h hW (lv_sub hl [1, 2, 3, 0] rfl)
      · have h := ms_ifn h k
        refine lv_iconst (v := 0) hx hb dX9_isWord_53 (by decide) ?_
        obtain rfl := Option.some.inj h
        exact ms_zret hX (ms_nz (Or.inl rfl)) hW dX9_isWord_54
def f_X9_isWord_L35 (v0 : Int64) (kk : Int32 → Int32 → Option (Int32)) (v2 : Int32) (v3 : Int32) (v4 : Int32) : Option (Int32) := f_X9_isWord_L36 v0 (kk) v2 v3 v4 0
set_option maxHeartbeats 4000000 in
set_option maxRecDepth 100000 in
theorem wb_X9_isWord_L35 {p : Program} {l : Launch} {e : Env} {s : State} {m : MethodId} {args : Array Value} {below : List Frame} {meth : Method} {c : Code} {G : Gc} {A : Nat → Prop} {H : Heap} {locs : List Loc} {ls : Array Slot}   {v0 : Int64} {kk : Int32 → Int32 → Option (Int32)} {v2 : Int32} {v3 : Int32} {v4 : Int32} {o : Int32} (hX : ms_CX p s m args meth c cX9_isWord 6 RX9 (some .boolean) G A)  (ih : ∀ (v2 : Int32) (v3 : Int32) (H : Heap) (locs : List Loc) (ls : Array Slot), kk v2 v3 = some o → ms_W G A s H locs [] → lv_has ls 6 [(0, .long v0), (2, .int v2), (3, .int v3)] → W p l e rm_X9_isWord s m args below meth c H locs 0 0 (ms_Q G A below args s [] (some (.int o))) (F0 m 4 ls [])) (h : f_X9_isWord_L35 v0 kk v2 v3 v4 = some o) (hW : ms_W G A s H locs []) (hl : lv_has ls 6 [(0, .long v0), (2, .int v2), (3, .int v3), (4, .int v4)]) : W p l e rm_X9_isWord s m args below meth c H locs 0 0 (ms_Q G A below args s [] (some (.int o))) (F0 m 35 ls []) := by
  have hx := hX.1.1
  have hb := hX.1.2.1
  unfold f_X9_isWord_L35 at h
  refine lv_iconst (v := 0) hx hb dX9_isWord_35 (by decide) ?_
  exact wb_X9_isWord_L36 hX (ih) h hW (lv_sub hl [0, 1, 2, 3] rfl)
def f_X9_isWord_L4 (v0 : Int64) : Nat → Int32 → Int32 → Option (Int32)
  | 0, _, _ => none
  | n + 1, v2, v3 => (if 8 ≤ v3 then (if v2 ≤ 0 then some 0 else some 1) else (f_X9_byteAt v0 v3).bind (fun q12 => (if q12 < 97 then f_X9_isWord_L35 v0 (f_X9_isWord_L4 v0 n) v2 v3 q12 else (if 122 < q12 then f_X9_isWord_L35 v0 (f_X9_isWord_L4 v0 n) v2 v3 q12 else f_X9_isWord_L36 v0 (f_X9_isWord_L4 v0 n) v2 v3 q12 1))))
set_option maxHeartbeats 4000000 in
set_option maxRecDepth 100000 in
theorem wb_X9_isWord_L4 {p : Program} {l : Launch} {e : Env} {s : State} {m : MethodId} {args : Array Value} {below : List Frame} {meth : Method} {c : Code} {G : Gc} {A : Nat → Prop}   {v0 : Int64} {o : Int32} (hX : ms_CX p s m args meth c cX9_isWord 6 RX9 (some .boolean) G A)  : ∀ (n : Nat) (v2 : Int32) (v3 : Int32) (H : Heap) (locs : List Loc) (ls : Array Slot), f_X9_isWord_L4 v0 n v2 v3 = some o → ms_W G A s H locs [] → lv_has ls 6 [(0, .long v0), (2, .int v2), (3, .int v3)] → W p l e rm_X9_isWord s m args below meth c H locs 0 0 (ms_Q G A below args s [] (some (.int o))) (F0 m 4 ls []) := by
  have hx := hX.1.1
  have hb := hX.1.2.1
  intro n
  induction n with
  | zero => intro v2 v3 H locs ls h; rw [f_X9_isWord_L4] at h; cases h
  | succ n ih =>
    intro v2 v3 H locs ls h hW hl
    rw [f_X9_isWord_L4] at h
    refine lv_iload_n hx hb dX9_isWord_4 rfl (lv_at hl 2 rfl) ?_
    refine lv_bipush (v := 8) hx hb dX9_isWord_5 (by decide) ?_
    refine lv_icmp_ge (tgt := 74) hx hb dX9_isWord_7 (by decide) (fun k => ?_) (fun k => ?_)
    · have h := ms_ifp h k
      refine lv_iload_n hx hb dX9_isWord_74 rfl (lv_at hl 1 rfl) ?_
      refine lv_if_le (tgt := 82) hx hb dX9_isWord_75 (by decide) (fun k => ?_) (fun k => ?_)
      · have h := ms_ifp h k
        refine lv_iconst (v := 0) hx hb dX9_isWord_82 (by decide) ?_
        obtain rfl := Option.some.inj h
        exact ms_zret hX (ms_nz (Or.inl rfl)) hW dX9_isWord_83
      · have h := ms_ifn h k
        refine lv_iconst (v := 1) hx hb dX9_isWord_78 (by decide) ?_
        refine lv_goto (tgt := 83) hx hb dX9_isWord_79 (by decide) ?_
        obtain rfl := Option.some.inj h
        exact ms_zret hX (ms_nz (Or.inr rfl)) hW dX9_isWord_83
    · have h := ms_ifn h k
      refine lv_lload_n hx hb dX9_isWord_10 rfl (lv_at hl 0 rfl) ?_
      refine lv_iload_n hx hb dX9_isWord_11 rfl (lv_at hl 2 rfl) ?_
      obtain ⟨q12, hq12, h⟩ := ms_bd h
      refine ms_callS (fn_X9_byteAt l G v0 v3 hq12) wm_X9_byteAt wz_X9_61 hX hW [] rfl rfl rfl ⟨Nat.le_of_ble_eq_true rfl, Nat.le_of_ble_eq_true rfl, rfl, rfl, Nat.zero_le _, Nat.zero_le _⟩ rfl hl.1 [] rfl (Nat.le_of_ble_eq_true rfl) dX9_isWord_12 (fun H locs hW => ?_)
      have hW : ms_W G A s H locs [] := hW
      refine W.eq (g2 := F0 m 15 ls [.int q12]) rfl ?_
      refine lv_istore (lv' := [(4, .int q12), (0, .long v0), (2, .int v2), (3, .int v3)]) hx hb dX9_isWord_15 hl (by decide) rfl (fun ls hl => ?_)
      refine lv_iload hx hb dX9_isWord_17 (lv_at hl 0 rfl) ?_
      refine lv_bipush (v := 97) hx hb dX9_isWord_19 (by decide) ?_
      refine lv_icmp_lt (tgt := 35) hx hb dX9_isWord_21 (by decide) (fun k => ?_) (fun k => ?_)
      · have h := ms_ifp h k
        exact wb_X9_isWord_L35 hX (ih) h hW (lv_sub hl [1, 2, 3, 0] rfl)
      · have h := ms_ifn h k
        refine lv_iload hx hb dX9_isWord_24 (lv_at hl 0 rfl) ?_
        refine lv_bipush (v := 122) hx hb dX9_isWord_26 (by decide) ?_
        refine lv_icmp_gt (tgt := 35) hx hb dX9_isWord_28 (by decide) (fun k => ?_) (fun k => ?_)
        · have h := ms_ifp h k
          exact wb_X9_isWord_L35 hX (ih) h hW (lv_sub hl [1, 2, 3, 0] rfl)
        · have h := ms_ifn h k
          refine lv_iconst (v := 1) hx hb dX9_isWord_31 (by decide) ?_
          refine lv_goto (tgt := 36) hx hb dX9_isWord_32 (by decide) ?_
          exact wb_X9_isWord_L36 hX (ih) h hW (lv_sub hl [1, 2, 3, 0] rfl)
def f_X9_isWord  (v0 : Int64) : Option (Int32) := f_X9_isWord_L4 v0 1000 0 0
set_option maxHeartbeats 4000000 in
set_option maxRecDepth 100000 in
theorem fn_X9_isWord (l : Launch) (G : Gc)   (v0 : Int64)  {o : Int32} (h : f_X9_isWord v0 = some o) : ms_Fn l G yX9_isWord cX9_isWord 6 (some .boolean) rm_X9_isWord [.long v0] [] [] (some (.int o)) := by
  refine ms_start RX9 (by decide +kernel) rfl (Nat.le_of_ble_eq_true rfl) (fun p e s m below meth c A ls hX hW hl => ?_)
  have hx := hX.1.1
  have hb := hX.1.2.1
  have hl : lv_has ls 6 [(0, .long v0)] := hl
  unfold f_X9_isWord at h
  refine lv_iconst (v := 0) hx hb dX9_isWord_0 (by decide) ?_
  refine lv_istore_n (lv' := [(2, .int 0), (0, .long v0)]) hx hb dX9_isWord_1 rfl hl (by decide) rfl (fun ls hl => ?_)
  refine lv_iconst (v := 0) hx hb dX9_isWord_2 (by decide) ?_
  refine lv_istore_n (lv' := [(3, .int 0), (2, .int 0), (0, .long v0)]) hx hb dX9_isWord_3 rfl hl (by decide) rfl (fun ls hl => ?_)
  exact wb_X9_isWord_L4 hX _ _ _ _ _ _ h hW (lv_sub hl [2, 1, 0] rfl)
def rm_X9_scheme : Room := { frames := 2, cells := 0, slots := 0, locals := 47 }
def f_X9_scheme (x_policy_schemeCount : Int32) (x_policy_schemes : Nat → Int64) (v1 : Int64) : Option (Int32 × (Nat → Int64) × Int32) := (f_X9_isWord v1).bind (fun q1 => (if q1 = 0 then some (x_policy_schemeCount, x_policy_schemes, 0) else (f_X3_addScheme x_policy_schemeCount x_policy_schemes v1).bind (fun q12 => (if q12.2.2 = 0 then some (q12.1, q12.2.1, 0) else some (q12.1, q12.2.1, 1)))))
set_option maxHeartbeats 4000000 in
set_option maxRecDepth 100000 in
theorem fn_X9_scheme (l : Launch) (G : Gc) (a_this : Nat) (a_input : Nat) (a_source : Nat) (a_written : Nat) (a_policy : Nat) (a_firstTree : Nat) (a_firstReader : Nat) (a_laterReader : Nat) (a_writer : Nat) (a_policy_actions : Nat) (a_policy_attributes : Nat) (a_policy_schemes : Nat) (x_roundsMade : Int32) (x_policy_schemeCount : Int32) (x_policy_schemes : Nat → Int64) (v1 : Int64)  {o : Int32 × (Nat → Int64) × Int32} (h : f_X9_scheme x_policy_schemeCount x_policy_schemes v1 = some o) : ms_Fn l G yX9_scheme cX9_scheme 3 (some .boolean) rm_X9_scheme [.ref a_this, .long v1] [ob_X9 a_this a_input a_source a_written a_policy a_firstTree a_firstReader a_laterReader a_writer x_roundsMade, ob_X3 a_policy a_policy_actions a_policy_attributes a_policy_schemes x_policy_schemeCount, (a_policy_schemes, .inl (G.2.1 2, 4, .inr (.inl x_policy_schemes)))] [ob_X9 a_this a_input a_source a_written a_policy a_firstTree a_firstReader a_laterReader a_writer x_roundsMade, ob_X3 a_policy a_policy_actions a_policy_attributes a_policy_schemes o.1, (a_policy_schemes, .inl (G.2.1 2, 4, .inr (.inl o.2.1)))] (some (.int o.2.2)) := by
  refine ms_start RX9 (by decide +kernel) rfl (Nat.le_of_ble_eq_true rfl) (fun p e s m below meth c A ls hX hW hl => ?_)
  have hx := hX.1.1
  have hb := hX.1.2.1
  have hl : lv_has ls 3 [(0, .ref a_this), (1, .long v1)] := hl
  unfold f_X9_scheme at h
  refine lv_lload_n hx hb dX9_scheme_0 rfl (lv_at hl 1 rfl) ?_
  obtain ⟨q1, hq1, h⟩ := ms_bd h
  refine ms_callS (fn_X9_isWord l G v1 hq1) wm_X9_isWord wz_X9_91 hX hW [] rfl rfl rfl ⟨Nat.le_of_ble_eq_true rfl, Nat.le_of_ble_eq_true rfl, rfl, rfl, Nat.zero_le _, Nat.zero_le _⟩ rfl hl.1 [] rfl (Nat.le_of_ble_eq_true rfl) dX9_scheme_1 (fun H locs hW => ?_)
  have hW : ms_W G A s H locs [ob_X9 a_this a_input a_source a_written a_policy a_firstTree a_firstReader a_laterReader a_writer x_roundsMade, ob_X3 a_policy a_policy_actions a_policy_attributes a_policy_schemes x_policy_schemeCount, (a_policy_schemes, .inl (G.2.1 2, 4, .inr (.inl x_policy_schemes)))] := hW
  refine W.eq (g2 := F0 m 4 ls [.int q1]) rfl ?_
  refine lv_if_eq (tgt := 22) hx hb dX9_scheme_4 (by decide) (fun k => ?_) (fun k => ?_)
  · have h := ms_ifp h k
    refine lv_iconst (v := 0) hx hb dX9_scheme_22 (by decide) ?_
    obtain rfl := Option.some.inj h
    exact ms_zret hX (ms_nz (Or.inl rfl)) hW dX9_scheme_23
  · have h := ms_ifn h k
    refine lv_aload_n hx hb dX9_scheme_7 rfl (lv_at hl 0 rfl) ?_
    refine ms_get ff_X9_25 hX hW 0 rfl rfl dX9_scheme_8 ?_
    refine lv_lload_n hx hb dX9_scheme_11 rfl (lv_at hl 1 rfl) ?_
    obtain ⟨q12, hq12, h⟩ := ms_bd h
    refine ms_callV (fn_X3_addScheme l G a_policy a_policy_actions a_policy_attributes a_policy_schemes x_policy_schemeCount x_policy_schemes v1 hq12) wm_X3_addScheme wv_X9_95 hX hW [1, 2] rfl rfl rfl rfl rfl ⟨Nat.le_of_ble_eq_true rfl, Nat.le_of_ble_eq_true rfl, rfl, rfl, Nat.zero_le _, Nat.zero_le _⟩ rfl hl.1 [] rfl (Nat.le_of_ble_eq_true rfl) dX9_scheme_12 (fun H locs hW => ?_)
    have hW : ms_W G A s H locs [ob_X9 a_this a_input a_source a_written a_policy a_firstTree a_firstReader a_laterReader a_writer x_roundsMade, ob_X3 a_policy a_policy_actions a_policy_attributes a_policy_schemes q12.1, (a_policy_schemes, .inl (G.2.1 2, 4, .inr (.inl q12.2.1)))] := hW
    refine W.eq (g2 := F0 m 15 ls [.int q12.2.2]) rfl ?_
    refine lv_if_eq (tgt := 22) hx hb dX9_scheme_15 (by decide) (fun k => ?_) (fun k => ?_)
    · have h := ms_ifp h k
      refine lv_iconst (v := 0) hx hb dX9_scheme_22 (by decide) ?_
      obtain rfl := Option.some.inj h
      exact ms_zret hX (ms_nz (Or.inl rfl)) hW dX9_scheme_23
    · have h := ms_ifn h k
      refine lv_iconst (v := 1) hx hb dX9_scheme_18 (by decide) ?_
      refine lv_goto (tgt := 23) hx hb dX9_scheme_19 (by decide) ?_
      obtain rfl := Option.some.inj h
      exact ms_zret hX (ms_nz (Or.inr rfl)) hW dX9_scheme_23
def rm_X9_reset : Room := { frames := 1, cells := 0, slots := 0, locals := 21 }
def f_X9_reset (x_policy_schemeCount : Int32) (x_policy_actions : Nat → Int32) (x_policy_attributes : Nat → Int32)  : Option (Int32 × (Nat → Int32) × (Nat → Int32)) := (f_X3_restore x_policy_schemeCount x_policy_actions x_policy_attributes).bind (fun q4 => some (q4.1, q4.2.1, q4.2.2))
set_option maxHeartbeats 4000000 in
set_option maxRecDepth 100000 in
theorem fn_X9_reset (l : Launch) (G : Gc) (a_this : Nat) (a_input : Nat) (a_source : Nat) (a_written : Nat) (a_policy : Nat) (a_firstTree : Nat) (a_firstReader : Nat) (a_laterReader : Nat) (a_writer : Nat) (a_policy_actions : Nat) (a_policy_attributes : Nat) (a_policy_schemes : Nat) (x_roundsMade : Int32) (x_policy_schemeCount : Int32) (x_policy_actions : Nat → Int32) (x_policy_attributes : Nat → Int32)   {o : Int32 × (Nat → Int32) × (Nat → Int32)} (h : f_X9_reset x_policy_schemeCount x_policy_actions x_policy_attributes = some o) : ms_Fn l G yX9_reset cX9_reset 1 none rm_X9_reset [.ref a_this] [ob_X9 a_this a_input a_source a_written a_policy a_firstTree a_firstReader a_laterReader a_writer x_roundsMade, ob_X3 a_policy a_policy_actions a_policy_attributes a_policy_schemes x_policy_schemeCount, (a_policy_actions, .inl (G.2.1 1, 26, .inl x_policy_actions)), (a_policy_attributes, .inl (G.2.1 1, 27, .inl x_policy_attributes))] [ob_X9 a_this a_input a_source a_written a_policy a_firstTree a_firstReader a_laterReader a_writer x_roundsMade, ob_X3 a_policy a_policy_actions a_policy_attributes a_policy_schemes o.1, (a_policy_actions, .inl (G.2.1 1, 26, .inl o.2.1)), (a_policy_attributes, .inl (G.2.1 1, 27, .inl o.2.2))] none := by
  refine ms_start RX9 (by decide +kernel) rfl (Nat.le_of_ble_eq_true rfl) (fun p e s m below meth c A ls hX hW hl => ?_)
  have hx := hX.1.1
  have hb := hX.1.2.1
  have hl : lv_has ls 1 [(0, .ref a_this)] := hl
  unfold f_X9_reset at h
  refine lv_aload_n hx hb dX9_reset_0 rfl (lv_at hl 0 rfl) ?_
  refine ms_get ff_X9_25 hX hW 0 rfl rfl dX9_reset_1 ?_
  obtain ⟨q4, hq4, h⟩ := ms_bd h
  refine ms_callV (fn_X3_restore l G a_policy a_policy_actions a_policy_attributes a_policy_schemes x_policy_schemeCount x_policy_actions x_policy_attributes hq4) wm_X3_restore wv_X9_98 hX hW [1, 2, 3] rfl rfl rfl rfl rfl ⟨Nat.le_of_ble_eq_true rfl, Nat.le_of_ble_eq_true rfl, rfl, rfl, Nat.zero_le _, Nat.zero_le _⟩ rfl hl.1 [] rfl (Nat.le_of_ble_eq_true rfl) dX9_reset_4 (fun H locs hW => ?_)
  have hW : ms_W G A s H locs [ob_X9 a_this a_input a_source a_written a_policy a_firstTree a_firstReader a_laterReader a_writer x_roundsMade, ob_X3 a_policy a_policy_actions a_policy_attributes a_policy_schemes q4.1, (a_policy_actions, .inl (G.2.1 1, 26, .inl q4.2.1)), (a_policy_attributes, .inl (G.2.1 1, 27, .inl q4.2.2))] := hW
  refine W.eq (g2 := F0 m 7 ls []) rfl ?_
  obtain rfl := Option.some.inj h
  exact ms_vret hX hW dX9_reset_7
def rm_X9_output : Room := { frames := 2, cells := 0, slots := 0, locals := 48 }
def f_X9_output (x_written_size : Int32) (x_written_row : Nat → Int32) (v1 : Int32) : Option (Int64) := (f_X1_size x_written_size).bind (fun q9 => (f_X1_eight x_written_size x_written_row 0 q9 v1).bind (fun q13 => some q13))
set_option maxHeartbeats 4000000 in
set_option maxRecDepth 100000 in
theorem fn_X9_output (l : Launch) (G : Gc) (a_this : Nat) (a_input : Nat) (a_source : Nat) (a_written : Nat) (a_policy : Nat) (a_firstTree : Nat) (a_firstReader : Nat) (a_laterReader : Nat) (a_writer : Nat) (a_written_row : Nat) (x_roundsMade : Int32) (x_written_size : Int32) (x_written_overflowed : Int32) (x_written_row : Nat → Int32) (v1 : Int32)  {o : Int64} (h : f_X9_output x_written_size x_written_row v1 = some o) : ms_Fn l G yX9_output cX9_output 2 (some .long) rm_X9_output [.ref a_this, .int v1] [ob_X9 a_this a_input a_source a_written a_policy a_firstTree a_firstReader a_laterReader a_writer x_roundsMade, ob_X1 a_written a_written_row x_written_size x_written_overflowed, (a_written_row, .inl (G.2.1 0, 200, .inl x_written_row))] [ob_X9 a_this a_input a_source a_written a_policy a_firstTree a_firstReader a_laterReader a_writer x_roundsMade, ob_X1 a_written a_written_row x_written_size x_written_overflowed, (a_written_row, .inl (G.2.1 0, 200, .inl x_written_row))] (some (.long o)) := by
  refine ms_start RX9 (by decide +kernel) rfl (Nat.le_of_ble_eq_true rfl) (fun p e s m below meth c A ls hX hW hl => ?_)
  have hx := hX.1.1
  have hb := hX.1.2.1
  have hl : lv_has ls 2 [(0, .ref a_this), (1, .int v1)] := hl
  unfold f_X9_output at h
  refine lv_aload_n hx hb dX9_output_0 rfl (lv_at hl 0 rfl) ?_
  refine ms_get ff_X9_19 hX hW 0 rfl rfl dX9_output_1 ?_
  refine lv_iconst (v := 0) hx hb dX9_output_4 (by decide) ?_
  refine lv_aload_n hx hb dX9_output_5 rfl (lv_at hl 0 rfl) ?_
  refine ms_get ff_X9_19 hX hW 0 rfl rfl dX9_output_6 ?_
  obtain ⟨q9, hq9, h⟩ := ms_bd h
  refine ms_callV (fn_X1_size l G a_written a_written_row x_written_size x_written_overflowed hq9) wm_X1_size wv_X9_69 hX hW [1] rfl rfl rfl rfl rfl ⟨Nat.le_of_ble_eq_true rfl, Nat.le_of_ble_eq_true rfl, rfl, rfl, Nat.zero_le _, Nat.zero_le _⟩ rfl hl.1 [.int 0, .ref a_written] rfl (Nat.le_of_ble_eq_true rfl) dX9_output_9 (fun H locs hW => ?_)
  have hW : ms_W G A s H locs [ob_X9 a_this a_input a_source a_written a_policy a_firstTree a_firstReader a_laterReader a_writer x_roundsMade, ob_X1 a_written a_written_row x_written_size x_written_overflowed, (a_written_row, .inl (G.2.1 0, 200, .inl x_written_row))] := hW
  refine W.eq (g2 := F0 m 12 ls [.int q9, .int 0, .ref a_written]) rfl ?_
  refine lv_iload_n hx hb dX9_output_12 rfl (lv_at hl 1 rfl) ?_
  obtain ⟨q13, hq13, h⟩ := ms_bd h
  refine ms_callV (fn_X1_eight l G a_written a_written_row x_written_size x_written_overflowed x_written_row 0 q9 v1 hq13) wm_X1_eight wv_X9_117 hX hW [1, 2] rfl rfl rfl rfl rfl ⟨Nat.le_of_ble_eq_true rfl, Nat.le_of_ble_eq_true rfl, rfl, rfl, Nat.zero_le _, Nat.zero_le _⟩ rfl hl.1 [] rfl (Nat.le_of_ble_eq_true rfl) dX9_output_13 (fun H locs hW => ?_)
  have hW : ms_W G A s H locs [ob_X9 a_this a_input a_source a_written a_policy a_firstTree a_firstReader a_laterReader a_writer x_roundsMade, ob_X1 a_written a_written_row x_written_size x_written_overflowed, (a_written_row, .inl (G.2.1 0, 200, .inl x_written_row))] := hW
  refine W.eq (g2 := F0 m 16 ls [.long q13]) rfl ?_
  obtain rfl := Option.some.inj h
  exact ms_lret hX hW dX9_output_16
def rm_X9_rounds : Room := { frames := 0, cells := 0, slots := 0, locals := 0 }
def f_X9_rounds (x_roundsMade : Int32)  : Option (Int32) := some x_roundsMade
set_option maxHeartbeats 4000000 in
set_option maxRecDepth 100000 in
theorem fn_X9_rounds (l : Launch) (G : Gc) (a_this : Nat) (a_input : Nat) (a_source : Nat) (a_written : Nat) (a_policy : Nat) (a_firstTree : Nat) (a_firstReader : Nat) (a_laterReader : Nat) (a_writer : Nat) (x_roundsMade : Int32)   {o : Int32} (h : f_X9_rounds x_roundsMade = some o) : ms_Fn l G yX9_rounds cX9_rounds 1 (some .int) rm_X9_rounds [.ref a_this] [ob_X9 a_this a_input a_source a_written a_policy a_firstTree a_firstReader a_laterReader a_writer x_roundsMade] [ob_X9 a_this a_input a_source a_written a_policy a_firstTree a_firstReader a_laterReader a_writer x_roundsMade] (some (.int o)) := by
  refine ms_start RX9 (by decide +kernel) rfl (Nat.le_of_ble_eq_true rfl) (fun p e s m below meth c A ls hX hW hl => ?_)
  have hx := hX.1.1
  have hb := hX.1.2.1
  have hl : lv_has ls 1 [(0, .ref a_this)] := hl
  unfold f_X9_rounds at h
  refine lv_aload_n hx hb dX9_rounds_0 rfl (lv_at hl 0 rfl) ?_
  refine ms_get ff_X9_57 hX hW 0 rfl rfl dX9_rounds_1 ?_
  obtain rfl := Option.some.inj h
  exact ms_iret hX hW dX9_rounds_4
def rm_X9_nodes : Room := { frames := 1, cells := 0, slots := 0, locals := 20 }
def f_X9_nodes (x_firstTree_count : Int32)  : Option (Int32) := (f_X7_size x_firstTree_count).bind (fun q4 => some q4)
set_option maxHeartbeats 4000000 in
set_option maxRecDepth 100000 in
theorem fn_X9_nodes (l : Launch) (G : Gc) (a_this : Nat) (a_input : Nat) (a_source : Nat) (a_written : Nat) (a_policy : Nat) (a_firstTree : Nat) (a_firstReader : Nat) (a_laterReader : Nat) (a_writer : Nat) (a_firstTree_codes : Nat) (a_firstTree_begins : Nat) (a_firstTree_ends : Nat) (a_firstTree_characters : Nat) (a_firstTree_attributeLetters : Nat) (a_firstTree_valueBegins : Nat) (a_firstTree_valueEnds : Nat) (a_firstTree_values : Nat) (x_roundsMade : Int32) (x_firstTree_count : Int32) (x_firstTree_attributeCount : Int32)   {o : Int32} (h : f_X9_nodes x_firstTree_count = some o) : ms_Fn l G yX9_nodes cX9_nodes 1 (some .int) rm_X9_nodes [.ref a_this] [ob_X9 a_this a_input a_source a_written a_policy a_firstTree a_firstReader a_laterReader a_writer x_roundsMade, ob_X7 a_firstTree a_firstTree_codes a_firstTree_begins a_firstTree_ends x_firstTree_count a_firstTree_characters a_firstTree_attributeLetters a_firstTree_valueBegins a_firstTree_valueEnds x_firstTree_attributeCount a_firstTree_values] [ob_X9 a_this a_input a_source a_written a_policy a_firstTree a_firstReader a_laterReader a_writer x_roundsMade, ob_X7 a_firstTree a_firstTree_codes a_firstTree_begins a_firstTree_ends x_firstTree_count a_firstTree_characters a_firstTree_attributeLetters a_firstTree_valueBegins a_firstTree_valueEnds x_firstTree_attributeCount a_firstTree_values] (some (.int o)) := by
  refine ms_start RX9 (by decide +kernel) rfl (Nat.le_of_ble_eq_true rfl) (fun p e s m below meth c A ls hX hW hl => ?_)
  have hx := hX.1.1
  have hb := hX.1.2.1
  have hl : lv_has ls 1 [(0, .ref a_this)] := hl
  unfold f_X9_nodes at h
  refine lv_aload_n hx hb dX9_nodes_0 rfl (lv_at hl 0 rfl) ?_
  refine ms_get ff_X9_32 hX hW 0 rfl rfl dX9_nodes_1 ?_
  obtain ⟨q4, hq4, h⟩ := ms_bd h
  refine ms_callV (fn_X7_size l G a_firstTree a_firstTree_codes a_firstTree_begins a_firstTree_ends a_firstTree_characters a_firstTree_attributeLetters a_firstTree_valueBegins a_firstTree_valueEnds a_firstTree_values x_firstTree_count x_firstTree_attributeCount hq4) wm_X7_size wv_X9_121 hX hW [1] rfl rfl rfl rfl rfl ⟨Nat.le_of_ble_eq_true rfl, Nat.le_of_ble_eq_true rfl, rfl, rfl, Nat.zero_le _, Nat.zero_le _⟩ rfl hl.1 [] rfl (Nat.le_of_ble_eq_true rfl) dX9_nodes_4 (fun H locs hW => ?_)
  have hW : ms_W G A s H locs [ob_X9 a_this a_input a_source a_written a_policy a_firstTree a_firstReader a_laterReader a_writer x_roundsMade, ob_X7 a_firstTree a_firstTree_codes a_firstTree_begins a_firstTree_ends x_firstTree_count a_firstTree_characters a_firstTree_attributeLetters a_firstTree_valueBegins a_firstTree_valueEnds x_firstTree_attributeCount a_firstTree_values] := hW
  refine W.eq (g2 := F0 m 7 ls [.int q4]) rfl ?_
  obtain rfl := Option.some.inj h
  exact ms_iret hX hW dX9_nodes_7
def rm_X9_node : Room := { frames := 2, cells := 0, slots := 0, locals := 42 }
def f_X9_node (x_firstTree_count : Int32) (x_firstTree_codes : Nat → Int32) (v1 : Int32) : Option (Int32) := (f_X7_codeOf x_firstTree_count x_firstTree_codes v1).bind (fun q5 => some q5)
set_option maxHeartbeats 4000000 in
set_option maxRecDepth 100000 in
theorem fn_X9_node (l : Launch) (G : Gc) (a_this : Nat) (a_input : Nat) (a_source : Nat) (a_written : Nat) (a_policy : Nat) (a_firstTree : Nat) (a_firstReader : Nat) (a_laterReader : Nat) (a_writer : Nat) (a_firstTree_codes : Nat) (a_firstTree_begins : Nat) (a_firstTree_ends : Nat) (a_firstTree_characters : Nat) (a_firstTree_attributeLetters : Nat) (a_firstTree_valueBegins : Nat) (a_firstTree_valueEnds : Nat) (a_firstTree_values : Nat) (x_roundsMade : Int32) (x_firstTree_count : Int32) (x_firstTree_attributeCount : Int32) (x_firstTree_codes : Nat → Int32) (v1 : Int32)  {o : Int32} (h : f_X9_node x_firstTree_count x_firstTree_codes v1 = some o) : ms_Fn l G yX9_node cX9_node 2 (some .int) rm_X9_node [.ref a_this, .int v1] [ob_X9 a_this a_input a_source a_written a_policy a_firstTree a_firstReader a_laterReader a_writer x_roundsMade, ob_X7 a_firstTree a_firstTree_codes a_firstTree_begins a_firstTree_ends x_firstTree_count a_firstTree_characters a_firstTree_attributeLetters a_firstTree_valueBegins a_firstTree_valueEnds x_firstTree_attributeCount a_firstTree_values, (a_firstTree_codes, .inl (G.2.1 1, 200, .inl x_firstTree_codes))] [ob_X9 a_this a_input a_source a_written a_policy a_firstTree a_firstReader a_laterReader a_writer x_roundsMade, ob_X7 a_firstTree a_firstTree_codes a_firstTree_begins a_firstTree_ends x_firstTree_count a_firstTree_characters a_firstTree_attributeLetters a_firstTree_valueBegins a_firstTree_valueEnds x_firstTree_attributeCount a_firstTree_values, (a_firstTree_codes, .inl (G.2.1 1, 200, .inl x_firstTree_codes))] (some (.int o)) := by
  refine ms_start RX9 (by decide +kernel) rfl (Nat.le_of_ble_eq_true rfl) (fun p e s m below meth c A ls hX hW hl => ?_)
  have hx := hX.1.1
  have hb := hX.1.2.1
  have hl : lv_has ls 2 [(0, .ref a_this), (1, .int v1)] := hl
  unfold f_X9_node at h
  refine lv_aload_n hx hb dX9_node_0 rfl (lv_at hl 0 rfl) ?_
  refine ms_get ff_X9_32 hX hW 0 rfl rfl dX9_node_1 ?_
  refine lv_iload_n hx hb dX9_node_4 rfl (lv_at hl 1 rfl) ?_
  obtain ⟨q5, hq5, h⟩ := ms_bd h
  refine ms_callV (fn_X7_codeOf l G a_firstTree a_firstTree_codes a_firstTree_begins a_firstTree_ends a_firstTree_characters a_firstTree_attributeLetters a_firstTree_valueBegins a_firstTree_valueEnds a_firstTree_values x_firstTree_count x_firstTree_attributeCount x_firstTree_codes v1 hq5) wm_X7_codeOf wv_X9_122 hX hW [1, 2] rfl rfl rfl rfl rfl ⟨Nat.le_of_ble_eq_true rfl, Nat.le_of_ble_eq_true rfl, rfl, rfl, Nat.zero_le _, Nat.zero_le _⟩ rfl hl.1 [] rfl (Nat.le_of_ble_eq_true rfl) dX9_node_5 (fun H locs hW => ?_)
  have hW : ms_W G A s H locs [ob_X9 a_this a_input a_source a_written a_policy a_firstTree a_firstReader a_laterReader a_writer x_roundsMade, ob_X7 a_firstTree a_firstTree_codes a_firstTree_begins a_firstTree_ends x_firstTree_count a_firstTree_characters a_firstTree_attributeLetters a_firstTree_valueBegins a_firstTree_valueEnds x_firstTree_attributeCount a_firstTree_values, (a_firstTree_codes, .inl (G.2.1 1, 200, .inl x_firstTree_codes))] := hW
  refine W.eq (g2 := F0 m 8 ls [.int q5]) rfl ?_
  obtain rfl := Option.some.inj h
  exact ms_iret hX hW dX9_node_8
def rm_X9_text : Room := { frames := 3, cells := 0, slots := 0, locals := 70 }
def f_X9_text (x_firstTree_count : Int32) (x_firstTree_codes : Nat → Int32) (x_firstTree_begins : Nat → Int32) (x_firstTree_ends : Nat → Int32) (x_firstTree_characters_size : Int32) (x_firstTree_characters_row : Nat → Int32) (v1 : Int32) (v2 : Int32) : Option (Int64) := (f_X7_eightOfText x_firstTree_count x_firstTree_codes x_firstTree_begins x_firstTree_ends x_firstTree_characters_size x_firstTree_characters_row v1 v2).bind (fun q6 => some q6)
set_option maxHeartbeats 4000000 in
set_option maxRecDepth 100000 in
theorem fn_X9_text (l : Launch) (G : Gc) (a_this : Nat) (a_input : Nat) (a_source : Nat) (a_written : Nat) (a_policy : Nat) (a_firstTree : Nat) (a_firstReader : Nat) (a_laterReader : Nat) (a_writer : Nat) (a_firstTree_codes : Nat) (a_firstTree_begins : Nat) (a_firstTree_ends : Nat) (a_firstTree_characters : Nat) (a_firstTree_attributeLetters : Nat) (a_firstTree_valueBegins : Nat) (a_firstTree_valueEnds : Nat) (a_firstTree_values : Nat) (a_firstTree_characters_row : Nat) (x_roundsMade : Int32) (x_firstTree_count : Int32) (x_firstTree_attributeCount : Int32) (x_firstTree_codes : Nat → Int32) (x_firstTree_begins : Nat → Int32) (x_firstTree_ends : Nat → Int32) (x_firstTree_characters_size : Int32) (x_firstTree_characters_overflowed : Int32) (x_firstTree_characters_row : Nat → Int32) (v1 : Int32) (v2 : Int32)  {o : Int64} (h : f_X9_text x_firstTree_count x_firstTree_codes x_firstTree_begins x_firstTree_ends x_firstTree_characters_size x_firstTree_characters_row v1 v2 = some o) : ms_Fn l G yX9_text cX9_text 3 (some .long) rm_X9_text [.ref a_this, .int v1, .int v2] [ob_X9 a_this a_input a_source a_written a_policy a_firstTree a_firstReader a_laterReader a_writer x_roundsMade, ob_X7 a_firstTree a_firstTree_codes a_firstTree_begins a_firstTree_ends x_firstTree_count a_firstTree_characters a_firstTree_attributeLetters a_firstTree_valueBegins a_firstTree_valueEnds x_firstTree_attributeCount a_firstTree_values, (a_firstTree_codes, .inl (G.2.1 1, 200, .inl x_firstTree_codes)), (a_firstTree_begins, .inl (G.2.1 1, 200, .inl x_firstTree_begins)), (a_firstTree_ends, .inl (G.2.1 1, 200, .inl x_firstTree_ends)), ob_X1 a_firstTree_characters a_firstTree_characters_row x_firstTree_characters_size x_firstTree_characters_overflowed, (a_firstTree_characters_row, .inl (G.2.1 0, 200, .inl x_firstTree_characters_row))] [ob_X9 a_this a_input a_source a_written a_policy a_firstTree a_firstReader a_laterReader a_writer x_roundsMade, ob_X7 a_firstTree a_firstTree_codes a_firstTree_begins a_firstTree_ends x_firstTree_count a_firstTree_characters a_firstTree_attributeLetters a_firstTree_valueBegins a_firstTree_valueEnds x_firstTree_attributeCount a_firstTree_values, (a_firstTree_codes, .inl (G.2.1 1, 200, .inl x_firstTree_codes)), (a_firstTree_begins, .inl (G.2.1 1, 200, .inl x_firstTree_begins)), (a_firstTree_ends, .inl (G.2.1 1, 200, .inl x_firstTree_ends)), ob_X1 a_firstTree_characters a_firstTree_characters_row x_firstTree_characters_size x_firstTree_characters_overflowed, (a_firstTree_characters_row, .inl (G.2.1 0, 200, .inl x_firstTree_characters_row))] (some (.long o)) := by
  refine ms_start RX9 (by decide +kernel) rfl (Nat.le_of_ble_eq_true rfl) (fun p e s m below meth c A ls hX hW hl => ?_)
  have hx := hX.1.1
  have hb := hX.1.2.1
  have hl : lv_has ls 3 [(0, .ref a_this), (1, .int v1), (2, .int v2)] := hl
  unfold f_X9_text at h
  refine lv_aload_n hx hb dX9_text_0 rfl (lv_at hl 0 rfl) ?_
  refine ms_get ff_X9_32 hX hW 0 rfl rfl dX9_text_1 ?_
  refine lv_iload_n hx hb dX9_text_4 rfl (lv_at hl 1 rfl) ?_
  refine lv_iload_n hx hb dX9_text_5 rfl (lv_at hl 2 rfl) ?_
  obtain ⟨q6, hq6, h⟩ := ms_bd h
  refine ms_callV (fn_X7_eightOfText l G a_firstTree a_firstTree_codes a_firstTree_begins a_firstTree_ends a_firstTree_characters a_firstTree_attributeLetters a_firstTree_valueBegins a_firstTree_valueEnds a_firstTree_values a_firstTree_characters_row x_firstTree_count x_firstTree_attributeCount x_firstTree_codes x_firstTree_begins x_firstTree_ends x_firstTree_characters_size x_firstTree_characters_overflowed x_firstTree_characters_row v1 v2 hq6) wm_X7_eightOfText wv_X9_126 hX hW [1, 2, 3, 4, 5, 6] rfl rfl rfl rfl rfl ⟨Nat.le_of_ble_eq_true rfl, Nat.le_of_ble_eq_true rfl, rfl, rfl, Nat.zero_le _, Nat.zero_le _⟩ rfl hl.1 [] rfl (Nat.le_of_ble_eq_true rfl) dX9_text_6 (fun H locs hW => ?_)
  have hW : ms_W G A s H locs [ob_X9 a_this a_input a_source a_written a_policy a_firstTree a_firstReader a_laterReader a_writer x_roundsMade, ob_X7 a_firstTree a_firstTree_codes a_firstTree_begins a_firstTree_ends x_firstTree_count a_firstTree_characters a_firstTree_attributeLetters a_firstTree_valueBegins a_firstTree_valueEnds x_firstTree_attributeCount a_firstTree_values, (a_firstTree_codes, .inl (G.2.1 1, 200, .inl x_firstTree_codes)), (a_firstTree_begins, .inl (G.2.1 1, 200, .inl x_firstTree_begins)), (a_firstTree_ends, .inl (G.2.1 1, 200, .inl x_firstTree_ends)), ob_X1 a_firstTree_characters a_firstTree_characters_row x_firstTree_characters_size x_firstTree_characters_overflowed, (a_firstTree_characters_row, .inl (G.2.1 0, 200, .inl x_firstTree_characters_row))] := hW
  refine W.eq (g2 := F0 m 9 ls [.long q6]) rfl ?_
  obtain rfl := Option.some.inj h
  exact ms_lret hX hW dX9_text_9
def rm_X9_length : Room := { frames := 3, cells := 0, slots := 0, locals := 65 }
def f_X9_length (x_firstTree_count : Int32) (x_firstTree_attributeCount : Int32) (x_firstTree_codes : Nat → Int32) (x_firstTree_begins : Nat → Int32) (x_firstTree_ends : Nat → Int32) (x_firstTree_attributeLetters : Nat → Int32) (x_firstTree_valueBegins : Nat → Int32) (x_firstTree_valueEnds : Nat → Int32) (v1 : Int32) (v2 : Int32) : Option (Int32) := (f_X7_findAttribute x_firstTree_count x_firstTree_attributeCount x_firstTree_codes x_firstTree_begins x_firstTree_ends x_firstTree_attributeLetters v1 v2).bind (fun q10 => (f_X7_sizeOfValue x_firstTree_attributeCount x_firstTree_valueBegins x_firstTree_valueEnds q10).bind (fun q13 => some q13))
set_option maxHeartbeats 4000000 in
set_option maxRecDepth 100000 in
theorem fn_X9_length (l : Launch) (G : Gc) (a_this : Nat) (a_input : Nat) (a_source : Nat) (a_written : Nat) (a_policy : Nat) (a_firstTree : Nat) (a_firstReader : Nat) (a_laterReader : Nat) (a_writer : Nat) (a_firstTree_codes : Nat) (a_firstTree_begins : Nat) (a_firstTree_ends : Nat) (a_firstTree_characters : Nat) (a_firstTree_attributeLetters : Nat) (a_firstTree_valueBegins : Nat) (a_firstTree_valueEnds : Nat) (a_firstTree_values : Nat) (x_roundsMade : Int32) (x_firstTree_count : Int32) (x_firstTree_attributeCount : Int32) (x_firstTree_codes : Nat → Int32) (x_firstTree_begins : Nat → Int32) (x_firstTree_ends : Nat → Int32) (x_firstTree_attributeLetters : Nat → Int32) (x_firstTree_valueBegins : Nat → Int32) (x_firstTree_valueEnds : Nat → Int32) (v1 : Int32) (v2 : Int32)  {o : Int32} (h : f_X9_length x_firstTree_count x_firstTree_attributeCount x_firstTree_codes x_firstTree_begins x_firstTree_ends x_firstTree_attributeLetters x_firstTree_valueBegins x_firstTree_valueEnds v1 v2 = some o) : ms_Fn l G yX9_length cX9_length 3 (some .int) rm_X9_length [.ref a_this, .int v1, .int v2] [ob_X9 a_this a_input a_source a_written a_policy a_firstTree a_firstReader a_laterReader a_writer x_roundsMade, ob_X7 a_firstTree a_firstTree_codes a_firstTree_begins a_firstTree_ends x_firstTree_count a_firstTree_characters a_firstTree_attributeLetters a_firstTree_valueBegins a_firstTree_valueEnds x_firstTree_attributeCount a_firstTree_values, (a_firstTree_codes, .inl (G.2.1 1, 200, .inl x_firstTree_codes)), (a_firstTree_begins, .inl (G.2.1 1, 200, .inl x_firstTree_begins)), (a_firstTree_ends, .inl (G.2.1 1, 200, .inl x_firstTree_ends)), (a_firstTree_attributeLetters, .inl (G.2.1 1, 100, .inl x_firstTree_attributeLetters)), (a_firstTree_valueBegins, .inl (G.2.1 1, 100, .inl x_firstTree_valueBegins)), (a_firstTree_valueEnds, .inl (G.2.1 1, 100, .inl x_firstTree_valueEnds))] [ob_X9 a_this a_input a_source a_written a_policy a_firstTree a_firstReader a_laterReader a_writer x_roundsMade, ob_X7 a_firstTree a_firstTree_codes a_firstTree_begins a_firstTree_ends x_firstTree_count a_firstTree_characters a_firstTree_attributeLetters a_firstTree_valueBegins a_firstTree_valueEnds x_firstTree_attributeCount a_firstTree_values, (a_firstTree_codes, .inl (G.2.1 1, 200, .inl x_firstTree_codes)), (a_firstTree_begins, .inl (G.2.1 1, 200, .inl x_firstTree_begins)), (a_firstTree_ends, .inl (G.2.1 1, 200, .inl x_firstTree_ends)), (a_firstTree_attributeLetters, .inl (G.2.1 1, 100, .inl x_firstTree_attributeLetters)), (a_firstTree_valueBegins, .inl (G.2.1 1, 100, .inl x_firstTree_valueBegins)), (a_firstTree_valueEnds, .inl (G.2.1 1, 100, .inl x_firstTree_valueEnds))] (some (.int o)) := by
  refine ms_start RX9 (by decide +kernel) rfl (Nat.le_of_ble_eq_true rfl) (fun p e s m below meth c A ls hX hW hl => ?_)
  have hx := hX.1.1
  have hb := hX.1.2.1
  have hl : lv_has ls 3 [(0, .ref a_this), (1, .int v1), (2, .int v2)] := hl
  unfold f_X9_length at h
  refine lv_aload_n hx hb dX9_length_0 rfl (lv_at hl 0 rfl) ?_
  refine ms_get ff_X9_32 hX hW 0 rfl rfl dX9_length_1 ?_
  refine lv_aload_n hx hb dX9_length_4 rfl (lv_at hl 0 rfl) ?_
  refine ms_get ff_X9_32 hX hW 0 rfl rfl dX9_length_5 ?_
  refine lv_iload_n hx hb dX9_length_8 rfl (lv_at hl 1 rfl) ?_
  refine lv_iload_n hx hb dX9_length_9 rfl (lv_at hl 2 rfl) ?_
  obtain ⟨q10, hq10, h⟩ := ms_bd h
  refine ms_callV (fn_X7_findAttribute l G a_firstTree a_firstTree_codes a_firstTree_begins a_firstTree_ends a_firstTree_characters a_firstTree_attributeLetters a_firstTree_valueBegins a_firstTree_valueEnds a_firstTree_values x_firstTree_count x_firstTree_attributeCount x_firstTree_codes x_firstTree_begins x_firstTree_ends x_firstTree_attributeLetters v1 v2 hq10) wm_X7_findAttribute wv_X9_130 hX hW [1, 2, 3, 4, 5] rfl rfl rfl rfl rfl ⟨Nat.le_of_ble_eq_true rfl, Nat.le_of_ble_eq_true rfl, rfl, rfl, Nat.zero_le _, Nat.zero_le _⟩ rfl hl.1 [.ref a_firstTree] rfl (Nat.le_of_ble_eq_true rfl) dX9_length_10 (fun H locs hW => ?_)
  have hW : ms_W G A s H locs [ob_X9 a_this a_input a_source a_written a_policy a_firstTree a_firstReader a_laterReader a_writer x_roundsMade, ob_X7 a_firstTree a_firstTree_codes a_firstTree_begins a_firstTree_ends x_firstTree_count a_firstTree_characters a_firstTree_attributeLetters a_firstTree_valueBegins a_firstTree_valueEnds x_firstTree_attributeCount a_firstTree_values, (a_firstTree_codes, .inl (G.2.1 1, 200, .inl x_firstTree_codes)), (a_firstTree_begins, .inl (G.2.1 1, 200, .inl x_firstTree_begins)), (a_firstTree_ends, .inl (G.2.1 1, 200, .inl x_firstTree_ends)), (a_firstTree_attributeLetters, .inl (G.2.1 1, 100, .inl x_firstTree_attributeLetters)), (a_firstTree_valueBegins, .inl (G.2.1 1, 100, .inl x_firstTree_valueBegins)), (a_firstTree_valueEnds, .inl (G.2.1 1, 100, .inl x_firstTree_valueEnds))] := hW
  refine W.eq (g2 := F0 m 13 ls [.int q10, .ref a_firstTree]) rfl ?_
  obtain ⟨q13, hq13, h⟩ := ms_bd h
  refine ms_callV (fn_X7_sizeOfValue l G a_firstTree a_firstTree_codes a_firstTree_begins a_firstTree_ends a_firstTree_characters a_firstTree_attributeLetters a_firstTree_valueBegins a_firstTree_valueEnds a_firstTree_values x_firstTree_count x_firstTree_attributeCount x_firstTree_valueBegins x_firstTree_valueEnds q10 hq13) wm_X7_sizeOfValue wv_X9_134 hX hW [1, 6, 7] rfl rfl rfl rfl rfl ⟨Nat.le_of_ble_eq_true rfl, Nat.le_of_ble_eq_true rfl, rfl, rfl, Nat.zero_le _, Nat.zero_le _⟩ rfl hl.1 [] rfl (Nat.le_of_ble_eq_true rfl) dX9_length_13 (fun H locs hW => ?_)
  have hW : ms_W G A s H locs [ob_X9 a_this a_input a_source a_written a_policy a_firstTree a_firstReader a_laterReader a_writer x_roundsMade, ob_X7 a_firstTree a_firstTree_codes a_firstTree_begins a_firstTree_ends x_firstTree_count a_firstTree_characters a_firstTree_attributeLetters a_firstTree_valueBegins a_firstTree_valueEnds x_firstTree_attributeCount a_firstTree_values, (a_firstTree_codes, .inl (G.2.1 1, 200, .inl x_firstTree_codes)), (a_firstTree_begins, .inl (G.2.1 1, 200, .inl x_firstTree_begins)), (a_firstTree_ends, .inl (G.2.1 1, 200, .inl x_firstTree_ends)), (a_firstTree_attributeLetters, .inl (G.2.1 1, 100, .inl x_firstTree_attributeLetters)), (a_firstTree_valueBegins, .inl (G.2.1 1, 100, .inl x_firstTree_valueBegins)), (a_firstTree_valueEnds, .inl (G.2.1 1, 100, .inl x_firstTree_valueEnds))] := hW
  refine W.eq (g2 := F0 m 16 ls [.int q13]) rfl ?_
  obtain rfl := Option.some.inj h
  exact ms_iret hX hW dX9_length_16
def rm_X9_value : Room := { frames := 3, cells := 0, slots := 0, locals := 70 }
def f_X9_value (x_firstTree_count : Int32) (x_firstTree_attributeCount : Int32) (x_firstTree_codes : Nat → Int32) (x_firstTree_begins : Nat → Int32) (x_firstTree_ends : Nat → Int32) (x_firstTree_attributeLetters : Nat → Int32) (x_firstTree_valueBegins : Nat → Int32) (x_firstTree_valueEnds : Nat → Int32) (x_firstTree_values_size : Int32) (x_firstTree_values_row : Nat → Int32) (v1 : Int32) (v2 : Int32) (v3 : Int32) : Option (Int64) := (f_X7_findAttribute x_firstTree_count x_firstTree_attributeCount x_firstTree_codes x_firstTree_begins x_firstTree_ends x_firstTree_attributeLetters v1 v2).bind (fun q10 => (f_X7_eightOfValue x_firstTree_attributeCount x_firstTree_valueBegins x_firstTree_valueEnds x_firstTree_values_size x_firstTree_values_row q10 v3).bind (fun q14 => some q14))
set_option maxHeartbeats 4000000 in
set_option maxRecDepth 100000 in
theorem fn_X9_value (l : Launch) (G : Gc) (a_this : Nat) (a_input : Nat) (a_source : Nat) (a_written : Nat) (a_policy : Nat) (a_firstTree : Nat) (a_firstReader : Nat) (a_laterReader : Nat) (a_writer : Nat) (a_firstTree_codes : Nat) (a_firstTree_begins : Nat) (a_firstTree_ends : Nat) (a_firstTree_characters : Nat) (a_firstTree_attributeLetters : Nat) (a_firstTree_valueBegins : Nat) (a_firstTree_valueEnds : Nat) (a_firstTree_values : Nat) (a_firstTree_values_row : Nat) (x_roundsMade : Int32) (x_firstTree_count : Int32) (x_firstTree_attributeCount : Int32) (x_firstTree_codes : Nat → Int32) (x_firstTree_begins : Nat → Int32) (x_firstTree_ends : Nat → Int32) (x_firstTree_attributeLetters : Nat → Int32) (x_firstTree_valueBegins : Nat → Int32) (x_firstTree_valueEnds : Nat → Int32) (x_firstTree_values_size : Int32) (x_firstTree_values_overflowed : Int32) (x_firstTree_values_row : Nat → Int32) (v1 : Int32) (v2 : Int32) (v3 : Int32)  {o : Int64} (h : f_X9_value x_firstTree_count x_firstTree_attributeCount x_firstTree_codes x_firstTree_begins x_firstTree_ends x_firstTree_attributeLetters x_firstTree_valueBegins x_firstTree_valueEnds x_firstTree_values_size x_firstTree_values_row v1 v2 v3 = some o) : ms_Fn l G yX9_value cX9_value 4 (some .long) rm_X9_value [.ref a_this, .int v1, .int v2, .int v3] [ob_X9 a_this a_input a_source a_written a_policy a_firstTree a_firstReader a_laterReader a_writer x_roundsMade, ob_X7 a_firstTree a_firstTree_codes a_firstTree_begins a_firstTree_ends x_firstTree_count a_firstTree_characters a_firstTree_attributeLetters a_firstTree_valueBegins a_firstTree_valueEnds x_firstTree_attributeCount a_firstTree_values, (a_firstTree_codes, .inl (G.2.1 1, 200, .inl x_firstTree_codes)), (a_firstTree_begins, .inl (G.2.1 1, 200, .inl x_firstTree_begins)), (a_firstTree_ends, .inl (G.2.1 1, 200, .inl x_firstTree_ends)), (a_firstTree_attributeLetters, .inl (G.2.1 1, 100, .inl x_firstTree_attributeLetters)), (a_firstTree_valueBegins, .inl (G.2.1 1, 100, .inl x_firstTree_valueBegins)), (a_firstTree_valueEnds, .inl (G.2.1 1, 100, .inl x_firstTree_valueEnds)), ob_X1 a_firstTree_values a_firstTree_values_row x_firstTree_values_size x_firstTree_values_overflowed, (a_firstTree_values_row, .inl (G.2.1 0, 200, .inl x_firstTree_values_row))] [ob_X9 a_this a_input a_source a_written a_policy a_firstTree a_firstReader a_laterReader a_writer x_roundsMade, ob_X7 a_firstTree a_firstTree_codes a_firstTree_begins a_firstTree_ends x_firstTree_count a_firstTree_characters a_firstTree_attributeLetters a_firstTree_valueBegins a_firstTree_valueEnds x_firstTree_attributeCount a_firstTree_values, (a_firstTree_codes, .inl (G.2.1 1, 200, .inl x_firstTree_codes)), (a_firstTree_begins, .inl (G.2.1 1, 200, .inl x_firstTree_begins)), (a_firstTree_ends, .inl (G.2.1 1, 200, .inl x_firstTree_ends)), (a_firstTree_attributeLetters, .inl (G.2.1 1, 100, .inl x_firstTree_attributeLetters)), (a_firstTree_valueBegins, .inl (G.2.1 1, 100, .inl x_firstTree_valueBegins)), (a_firstTree_valueEnds, .inl (G.2.1 1, 100, .inl x_firstTree_valueEnds)), ob_X1 a_firstTree_values a_firstTree_values_row x_firstTree_values_size x_firstTree_values_overflowed, (a_firstTree_values_row, .inl (G.2.1 0, 200, .inl x_firstTree_values_row))] (some (.long o)) := by
  refine ms_start RX9 (by decide +kernel) rfl (Nat.le_of_ble_eq_true rfl) (fun p e s m below meth c A ls hX hW hl => ?_)
  have hx := hX.1.1
  have hb := hX.1.2.1
  have hl : lv_has ls 4 [(0, .ref a_this), (1, .int v1), (2, .int v2), (3, .int v3)] := hl
  unfold f_X9_value at h
  refine lv_aload_n hx hb dX9_value_0 rfl (lv_at hl 0 rfl) ?_
  refine ms_get ff_X9_32 hX hW 0 rfl rfl dX9_value_1 ?_
  refine lv_aload_n hx hb dX9_value_4 rfl (lv_at hl 0 rfl) ?_
  refine ms_get ff_X9_32 hX hW 0 rfl rfl dX9_value_5 ?_
  refine lv_iload_n hx hb dX9_value_8 rfl (lv_at hl 1 rfl) ?_
  refine lv_iload_n hx hb dX9_value_9 rfl (lv_at hl 2 rfl) ?_
  obtain ⟨q10, hq10, h⟩ := ms_bd h
  refine ms_callV (fn_X7_findAttribute l G a_firstTree a_firstTree_codes a_firstTree_begins a_firstTree_ends a_firstTree_characters a_firstTree_attributeLetters a_firstTree_valueBegins a_firstTree_valueEnds a_firstTree_values x_firstTree_count x_firstTree_attributeCount x_firstTree_codes x_firstTree_begins x_firstTree_ends x_firstTree_attributeLetters v1 v2 hq10) wm_X7_findAttribute wv_X9_130 hX hW [1, 2, 3, 4, 5] rfl rfl rfl rfl rfl ⟨Nat.le_of_ble_eq_true rfl, Nat.le_of_ble_eq_true rfl, rfl, rfl, Nat.zero_le _, Nat.zero_le _⟩ rfl hl.1 [.ref a_firstTree] rfl (Nat.le_of_ble_eq_true rfl) dX9_value_10 (fun H locs hW => ?_)
  have hW : ms_W G A s H locs [ob_X9 a_this a_input a_source a_written a_policy a_firstTree a_firstReader a_laterReader a_writer x_roundsMade, ob_X7 a_firstTree a_firstTree_codes a_firstTree_begins a_firstTree_ends x_firstTree_count a_firstTree_characters a_firstTree_attributeLetters a_firstTree_valueBegins a_firstTree_valueEnds x_firstTree_attributeCount a_firstTree_values, (a_firstTree_codes, .inl (G.2.1 1, 200, .inl x_firstTree_codes)), (a_firstTree_begins, .inl (G.2.1 1, 200, .inl x_firstTree_begins)), (a_firstTree_ends, .inl (G.2.1 1, 200, .inl x_firstTree_ends)), (a_firstTree_attributeLetters, .inl (G.2.1 1, 100, .inl x_firstTree_attributeLetters)), (a_firstTree_valueBegins, .inl (G.2.1 1, 100, .inl x_firstTree_valueBegins)), (a_firstTree_valueEnds, .inl (G.2.1 1, 100, .inl x_firstTree_valueEnds)), ob_X1 a_firstTree_values a_firstTree_values_row x_firstTree_values_size x_firstTree_values_overflowed, (a_firstTree_values_row, .inl (G.2.1 0, 200, .inl x_firstTree_values_row))] := hW
  refine W.eq (g2 := F0 m 13 ls [.int q10, .ref a_firstTree]) rfl ?_
  refine lv_iload_n hx hb dX9_value_13 rfl (lv_at hl 3 rfl) ?_
  obtain ⟨q14, hq14, h⟩ := ms_bd h
  refine ms_callV (fn_X7_eightOfValue l G a_firstTree a_firstTree_codes a_firstTree_begins a_firstTree_ends a_firstTree_characters a_firstTree_attributeLetters a_firstTree_valueBegins a_firstTree_valueEnds a_firstTree_values a_firstTree_values_row x_firstTree_count x_firstTree_attributeCount x_firstTree_valueBegins x_firstTree_valueEnds x_firstTree_values_size x_firstTree_values_overflowed x_firstTree_values_row q10 v3 hq14) wm_X7_eightOfValue wv_X9_137 hX hW [1, 6, 7, 8, 9] rfl rfl rfl rfl rfl ⟨Nat.le_of_ble_eq_true rfl, Nat.le_of_ble_eq_true rfl, rfl, rfl, Nat.zero_le _, Nat.zero_le _⟩ rfl hl.1 [] rfl (Nat.le_of_ble_eq_true rfl) dX9_value_14 (fun H locs hW => ?_)
  have hW : ms_W G A s H locs [ob_X9 a_this a_input a_source a_written a_policy a_firstTree a_firstReader a_laterReader a_writer x_roundsMade, ob_X7 a_firstTree a_firstTree_codes a_firstTree_begins a_firstTree_ends x_firstTree_count a_firstTree_characters a_firstTree_attributeLetters a_firstTree_valueBegins a_firstTree_valueEnds x_firstTree_attributeCount a_firstTree_values, (a_firstTree_codes, .inl (G.2.1 1, 200, .inl x_firstTree_codes)), (a_firstTree_begins, .inl (G.2.1 1, 200, .inl x_firstTree_begins)), (a_firstTree_ends, .inl (G.2.1 1, 200, .inl x_firstTree_ends)), (a_firstTree_attributeLetters, .inl (G.2.1 1, 100, .inl x_firstTree_attributeLetters)), (a_firstTree_valueBegins, .inl (G.2.1 1, 100, .inl x_firstTree_valueBegins)), (a_firstTree_valueEnds, .inl (G.2.1 1, 100, .inl x_firstTree_valueEnds)), ob_X1 a_firstTree_values a_firstTree_values_row x_firstTree_values_size x_firstTree_values_overflowed, (a_firstTree_values_row, .inl (G.2.1 0, 200, .inl x_firstTree_values_row))] := hW
  refine W.eq (g2 := F0 m 17 ls [.long q14]) rfl ?_
  obtain rfl := Option.some.inj h
  exact ms_lret hX hW dX9_value_17
