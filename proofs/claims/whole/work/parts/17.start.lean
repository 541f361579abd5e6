/-! what the Statement gives at the law's entry, as the walks want it -/
def ms_tm (i : Nat) : Term := match i with
  | 0 => .string "MarkupSieve$Reader" 105
  | 1 => .string "MarkupSieve$Reader" 111
  | 2 => .string "MarkupSieve$References" 19
  | 3 => .string "MarkupSieve$References" 29
  | 4 => .string "MarkupSieve$References" 31
  | 5 => .string "MarkupSieve$References" 33
  | 6 => .string "MarkupSieve$Reader" 116
  | 7 => .string "MarkupSieve$Reader" 118
  | 8 => .string "MarkupSieve$Reader" 120
  | 9 => .string "MarkupSieve$Writer" 54
  | 10 => .string "MarkupSieve$Writer" 94
  | 11 => .string "MarkupSieve$Writer" 130
  | 12 => .string "MarkupSieve$Writer" 132
  | _ => .string "MarkupSieve$Writer" 137
def ms_fl : List Cond := flatC (Jvm.Cond.and given_1 narrow_1)
theorem fl_ex : ∀ i, i < 14 → Cond.exactly (ms_tm i) "java/lang/String" ∈ ms_fl := by decide +kernel
theorem fl_co : ∀ i, i < 14 → Cond.eq (.field (ms_tm i) "java/lang/String" "coder" "B") (.int 0) ∈ ms_fl := by decide +kernel
theorem fl_ar : ∀ i, i < 14 → Cond.arrayOf (.field (ms_tm i) "java/lang/String" "value" "[B") .byte ∈ ms_fl := by decide +kernel
theorem fl_le : ∀ i, i < 14 → Cond.eq (.length (.field (ms_tm i) "java/lang/String" "value" "[B")) (.int (Int32.ofNat (ms_len.getD i 0))) ∈ ms_fl := by decide +kernel
theorem fl_el : ∀ i, i < 14 → ∀ j, j < ms_len.getD i 0 → Cond.eq (.elem (.field (ms_tm i) "java/lang/String" "value" "[B") (.int (Int32.ofNat j))) (.int ((ms_byt.getD i []).getD j 0)) ∈ ms_fl := by decide +kernel
theorem fl_n0_1 : Cond.not (Cond.eq (ms_tm 0) (ms_tm 1)) ∈ ms_fl := List.mem_of_getElem? (i := 23) (by decide +kernel)
theorem fl_n0_2 : Cond.not (Cond.eq (ms_tm 0) (ms_tm 2)) ∈ ms_fl := List.mem_of_getElem? (i := 32) (by decide +kernel)
theorem fl_n0_3 : Cond.not (Cond.eq (ms_tm 0) (ms_tm 3)) ∈ ms_fl := List.mem_of_getElem? (i := 42) (by decide +kernel)
theorem fl_n0_4 : Cond.not (Cond.eq (ms_tm 0) (ms_tm 4)) ∈ ms_fl := List.mem_of_getElem? (i := 54) (by decide +kernel)
theorem fl_n0_5 : Cond.not (Cond.eq (ms_tm 0) (ms_tm 5)) ∈ ms_fl := List.mem_of_getElem? (i := 68) (by decide +kernel)
theorem fl_n0_6 : Cond.not (Cond.eq (ms_tm 0) (ms_tm 6)) ∈ ms_fl := List.mem_of_getElem? (i := 81) (by decide +kernel)
theorem fl_n0_7 : Cond.not (Cond.eq (ms_tm 0) (ms_tm 7)) ∈ ms_fl := List.mem_of_getElem? (i := 94) (by decide +kernel)
theorem fl_n0_8 : Cond.not (Cond.eq (ms_tm 0) (ms_tm 8)) ∈ ms_fl := List.mem_of_getElem? (i := 106) (by decide +kernel)
theorem fl_n0_9 : Cond.not (Cond.eq (ms_tm 0) (ms_tm 9)) ∈ ms_fl := List.mem_of_getElem? (i := 120) (by decide +kernel)
theorem fl_n0_10 : Cond.not (Cond.eq (ms_tm 0) (ms_tm 10)) ∈ ms_fl := List.mem_of_getElem? (i := 210) (by decide +kernel)
theorem fl_n0_11 : Cond.not (Cond.eq (ms_tm 0) (ms_tm 11)) ∈ ms_fl := List.mem_of_getElem? (i := 229) (by decide +kernel)
theorem fl_n0_12 : Cond.not (Cond.eq (ms_tm 0) (ms_tm 12)) ∈ ms_fl := List.mem_of_getElem? (i := 250) (by decide +kernel)
theorem fl_n0_13 : Cond.not (Cond.eq (ms_tm 0) (ms_tm 13)) ∈ ms_fl := List.mem_of_getElem? (i := 298) (by decide +kernel)
theorem fl_n1_2 : Cond.not (Cond.eq (ms_tm 1) (ms_tm 2)) ∈ ms_fl := List.mem_of_getElem? (i := 33) (by decide +kernel)
theorem fl_n1_3 : Cond.not (Cond.eq (ms_tm 1) (ms_tm 3)) ∈ ms_fl := List.mem_of_getElem? (i := 43) (by decide +kernel)
theorem fl_n1_4 : Cond.not (Cond.eq (ms_tm 1) (ms_tm 4)) ∈ ms_fl := List.mem_of_getElem? (i := 55) (by decide +kernel)
theorem fl_n1_5 : Cond.not (Cond.eq (ms_tm 1) (ms_tm 5)) ∈ ms_fl := List.mem_of_getElem? (i := 69) (by decide +kernel)
theorem fl_n1_6 : Cond.not (Cond.eq (ms_tm 1) (ms_tm 6)) ∈ ms_fl := List.mem_of_getElem? (i := 82) (by decide +kernel)
theorem fl_n1_7 : Cond.not (Cond.eq (ms_tm 1) (ms_tm 7)) ∈ ms_fl := List.mem_of_getElem? (i := 95) (by decide +kernel)
theorem fl_n1_8 : Cond.not (Cond.eq (ms_tm 1) (ms_tm 8)) ∈ ms_fl := List.mem_of_getElem? (i := 107) (by decide +kernel)
theorem fl_n1_9 : Cond.not (Cond.eq (ms_tm 1) (ms_tm 9)) ∈ ms_fl := List.mem_of_getElem? (i := 121) (by decide +kernel)
theorem fl_n1_10 : Cond.not (Cond.eq (ms_tm 1) (ms_tm 10)) ∈ ms_fl := List.mem_of_getElem? (i := 211) (by decide +kernel)
theorem fl_n1_11 : Cond.not (Cond.eq (ms_tm 1) (ms_tm 11)) ∈ ms_fl := List.mem_of_getElem? (i := 230) (by decide +kernel)
theorem fl_n1_12 : Cond.not (Cond.eq (ms_tm 1) (ms_tm 12)) ∈ ms_fl := List.mem_of_getElem? (i := 251) (by decide +kernel)
theorem fl_n1_13 : Cond.not (Cond.eq (ms_tm 1) (ms_tm 13)) ∈ ms_fl := List.mem_of_getElem? (i := 299) (by decide +kernel)
theorem fl_n2_3 : Cond.not (Cond.eq (ms_tm 2) (ms_tm 3)) ∈ ms_fl := List.mem_of_getElem? (i := 44) (by decide +kernel)
theorem fl_n2_4 : Cond.not (Cond.eq (ms_tm 2) (ms_tm 4)) ∈ ms_fl := List.mem_of_getElem? (i := 56) (by decide +kernel)
theorem fl_n2_5 : Cond.not (Cond.eq (ms_tm 2) (ms_tm 5)) ∈ ms_fl := List.mem_of_getElem? (i := 70) (by decide +kernel)
theorem fl_n2_6 : Cond.not (Cond.eq (ms_tm 2) (ms_tm 6)) ∈ ms_fl := List.mem_of_getElem? (i := 83) (by decide +kernel)
theorem fl_n2_7 : Cond.not (Cond.eq (ms_tm 2) (ms_tm 7)) ∈ ms_fl := List.mem_of_getElem? (i := 96) (by decide +kernel)
theorem fl_n2_8 : Cond.not (Cond.eq (ms_tm 2) (ms_tm 8)) ∈ ms_fl := List.mem_of_getElem? (i := 108) (by decide +kernel)
theorem fl_n2_9 : Cond.not (Cond.eq (ms_tm 2) (ms_tm 9)) ∈ ms_fl := List.mem_of_getElem? (i := 122) (by decide +kernel)
theorem fl_n2_10 : Cond.not (Cond.eq (ms_tm 2) (ms_tm 10)) ∈ ms_fl := List.mem_of_getElem? (i := 212) (by decide +kernel)
theorem fl_n2_11 : Cond.not (Cond.eq (ms_tm 2) (ms_tm 11)) ∈ ms_fl := List.mem_of_getElem? (i := 231) (by decide +kernel)
theorem fl_n2_12 : Cond.not (Cond.eq (ms_tm 2) (ms_tm 12)) ∈ ms_fl := List.mem_of_getElem? (i := 252) (by decide +kernel)
theorem fl_n2_13 : Cond.not (Cond.eq (ms_tm 2) (ms_tm 13)) ∈ ms_fl := List.mem_of_getElem? (i := 300) (by decide +kernel)
theorem fl_n3_4 : Cond.not (Cond.eq (ms_tm 3) (ms_tm 4)) ∈ ms_fl := List.mem_of_getElem? (i := 57) (by decide +kernel)
theorem fl_n3_5 : Cond.not (Cond.eq (ms_tm 3) (ms_tm 5)) ∈ ms_fl := List.mem_of_getElem? (i := 71) (by decide +kernel)
theorem fl_n3_6 : Cond.not (Cond.eq (ms_tm 3) (ms_tm 6)) ∈ ms_fl := List.mem_of_getElem? (i := 84) (by decide +kernel)
theorem fl_n3_7 : Cond.not (Cond.eq (ms_tm 3) (ms_tm 7)) ∈ ms_fl := List.mem_of_getElem? (i := 97) (by decide +kernel)
theorem fl_n3_8 : Cond.not (Cond.eq (ms_tm 3) (ms_tm 8)) ∈ ms_fl := List.mem_of_getElem? (i := 109) (by decide +kernel)
theorem fl_n3_9 : Cond.not (Cond.eq (ms_tm 3) (ms_tm 9)) ∈ ms_fl := List.mem_of_getElem? (i := 123) (by decide +kernel)
theorem fl_n3_10 : Cond.not (Cond.eq (ms_tm 3) (ms_tm 10)) ∈ ms_fl := List.mem_of_getElem? (i := 213) (by decide +kernel)
theorem fl_n3_11 : Cond.not (Cond.eq (ms_tm 3) (ms_tm 11)) ∈ ms_fl := List.mem_of_getElem? (i := 232) (by decide +kernel)
theorem fl_n3_12 : Cond.not (Cond.eq (ms_tm 3) (ms_tm 12)) ∈ ms_fl := List.mem_of_getElem? (i := 253) (by decide +kernel)
theorem fl_n3_13 : Cond.not (Cond.eq (ms_tm 3) (ms_tm 13)) ∈ ms_fl := List.mem_of_getElem? (i := 301) (by decide +kernel)
theorem fl_n4_5 : Cond.not (Cond.eq (ms_tm 4) (ms_tm 5)) ∈ ms_fl := List.mem_of_getElem? (i := 72) (by decide +kernel)
theorem fl_n4_6 : Cond.not (Cond.eq (ms_tm 4) (ms_tm 6)) ∈ ms_fl := List.mem_of_getElem? (i := 85) (by decide +kernel)
theorem fl_n4_7 : Cond.not (Cond.eq (ms_tm 4) (ms_tm 7)) ∈ ms_fl := List.mem_of_getElem? (i := 98) (by decide +kernel)
theorem fl_n4_8 : Cond.not (Cond.eq (ms_tm 4) (ms_tm 8)) ∈ ms_fl := List.mem_of_getElem? (i := 110) (by decide +kernel)
theorem fl_n4_9 : Cond.not (Cond.eq (ms_tm 4) (ms_tm 9)) ∈ ms_fl := List.mem_of_getElem? (i := 124) (by decide +kernel)
theorem fl_n4_10 : Cond.not (Cond.eq (ms_tm 4) (ms_tm 10)) ∈ ms_fl := List.mem_of_getElem? (i := 214) (by decide +kernel)
theorem fl_n4_11 : Cond.not (Cond.eq (ms_tm 4) (ms_tm 11)) ∈ ms_fl := List.mem_of_getElem? (i := 233) (by decide +kernel)
theorem fl_n4_12 : Cond.not (Cond.eq (ms_tm 4) (ms_tm 12)) ∈ ms_fl := List.mem_of_getElem? (i := 254) (by decide +kernel)
theorem fl_n4_13 : Cond.not (Cond.eq (ms_tm 4) (ms_tm 13)) ∈ ms_fl := List.mem_of_getElem? (i := 302) (by decide +kernel)
theorem fl_n5_6 : Cond.not (Cond.eq (ms_tm 5) (ms_tm 6)) ∈ ms_fl := List.mem_of_getElem? (i := 86) (by decide +kernel)
theorem fl_n5_7 : Cond.not (Cond.eq (ms_tm 5) (ms_tm 7)) ∈ ms_fl := List.mem_of_getElem? (i := 99) (by decide +kernel)
theorem fl_n5_8 : Cond.not (Cond.eq (ms_tm 5) (ms_tm 8)) ∈ ms_fl := List.mem_of_getElem? (i := 111) (by decide +kernel)
theorem fl_n5_9 : Cond.not (Cond.eq (ms_tm 5) (ms_tm 9)) ∈ ms_fl := List.mem_of_getElem? (i := 125) (by decide +kernel)
theorem fl_n5_10 : Cond.not (Cond.eq (ms_tm 5) (ms_tm 10)) ∈ ms_fl := List.mem_of_getElem? (i := 215) (by decide +kernel)
theorem fl_n5_11 : Cond.not (Cond.eq (ms_tm 5) (ms_tm 11)) ∈ ms_fl := List.mem_of_getElem? (i := 234) (by decide +kernel)
theorem fl_n5_12 : Cond.not (Cond.eq (ms_tm 5) (ms_tm 12)) ∈ ms_fl := List.mem_of_getElem? (i := 255) (by decide +kernel)
theorem fl_n5_13 : Cond.not (Cond.eq (ms_tm 5) (ms_tm 13)) ∈ ms_fl := List.mem_of_getElem? (i := 303) (by decide +kernel)
theorem fl_n6_7 : Cond.not (Cond.eq (ms_tm 6) (ms_tm 7)) ∈ ms_fl := List.mem_of_getElem? (i := 100) (by decide +kernel)
theorem fl_n6_8 : Cond.not (Cond.eq (ms_tm 6) (ms_tm 8)) ∈ ms_fl := List.mem_of_getElem? (i := 112) (by decide +kernel)
theorem fl_n6_9 : Cond.not (Cond.eq (ms_tm 6) (ms_tm 9)) ∈ ms_fl := List.mem_of_getElem? (i := 126) (by decide +kernel)
theorem fl_n6_10 : Cond.not (Cond.eq (ms_tm 6) (ms_tm 10)) ∈ ms_fl := List.mem_of_getElem? (i := 216) (by decide +kernel)
theorem fl_n6_11 : Cond.not (Cond.eq (ms_tm 6) (ms_tm 11)) ∈ ms_fl := List.mem_of_getElem? (i := 235) (by decide +kernel)
theorem fl_n6_12 : Cond.not (Cond.eq (ms_tm 6) (ms_tm 12)) ∈ ms_fl := List.mem_of_getElem? (i := 256) (by decide +kernel)
theorem fl_n6_13 : Cond.not (Cond.eq (ms_tm 6) (ms_tm 13)) ∈ ms_fl := List.mem_of_getElem? (i := 304) (by decide +kernel)
theorem fl_n7_8 : Cond.not (Cond.eq (ms_tm 7) (ms_tm 8)) ∈ ms_fl := List.mem_of_getElem? (i := 113) (by decide +kernel)
theorem fl_n7_9 : Cond.not (Cond.eq (ms_tm 7) (ms_tm 9)) ∈ ms_fl := List.mem_of_getElem? (i := 127) (by decide +kernel)
theorem fl_n7_10 : Cond.not (Cond.eq (ms_tm 7) (ms_tm 10)) ∈ ms_fl := List.mem_of_getElem? (i := 217) (by decide +kernel)
theorem fl_n7_11 : Cond.not (Cond.eq (ms_tm 7) (ms_tm 11)) ∈ ms_fl := List.mem_of_getElem? (i := 236) (by decide +kernel)
theorem fl_n7_12 : Cond.not (Cond.eq (ms_tm 7) (ms_tm 12)) ∈ ms_fl := List.mem_of_getElem? (i := 257) (by decide +kernel)
theorem fl_n7_13 : Cond.not (Cond.eq (ms_tm 7) (ms_tm 13)) ∈ ms_fl := List.mem_of_getElem? (i := 305) (by decide +kernel)
theorem fl_n8_9 : Cond.not (Cond.eq (ms_tm 8) (ms_tm 9)) ∈ ms_fl := List.mem_of_getElem? (i := 128) (by decide +kernel)
theorem fl_n8_10 : Cond.not (Cond.eq (ms_tm 8) (ms_tm 10)) ∈ ms_fl := List.mem_of_getElem? (i := 218) (by decide +kernel)
theorem fl_n8_11 : Cond.not (Cond.eq (ms_tm 8) (ms_tm 11)) ∈ ms_fl := List.mem_of_getElem? (i := 237) (by decide +kernel)
theorem fl_n8_12 : Cond.not (Cond.eq (ms_tm 8) (ms_tm 12)) ∈ ms_fl := List.mem_of_getElem? (i := 258) (by decide +kernel)
theorem fl_n8_13 : Cond.not (Cond.eq (ms_tm 8) (ms_tm 13)) ∈ ms_fl := List.mem_of_getElem? (i := 306) (by decide +kernel)
theorem fl_n9_10 : Cond.not (Cond.eq (ms_tm 9) (ms_tm 10)) ∈ ms_fl := List.mem_of_getElem? (i := 219) (by decide +kernel)
theorem fl_n9_11 : Cond.not (Cond.eq (ms_tm 9) (ms_tm 11)) ∈ ms_fl := List.mem_of_getElem? (i := 238) (by decide +kernel)
theorem fl_n9_12 : Cond.not (Cond.eq (ms_tm 9) (ms_tm 12)) ∈ ms_fl := List.mem_of_getElem? (i := 259) (by decide +kernel)
theorem fl_n9_13 : Cond.not (Cond.eq (ms_tm 9) (ms_tm 13)) ∈ ms_fl := List.mem_of_getElem? (i := 307) (by decide +kernel)
theorem fl_n10_11 : Cond.not (Cond.eq (ms_tm 10) (ms_tm 11)) ∈ ms_fl := List.mem_of_getElem? (i := 243) (by decide +kernel)
theorem fl_n10_12 : Cond.not (Cond.eq (ms_tm 10) (ms_tm 12)) ∈ ms_fl := List.mem_of_getElem? (i := 264) (by decide +kernel)
theorem fl_n10_13 : Cond.not (Cond.eq (ms_tm 10) (ms_tm 13)) ∈ ms_fl := List.mem_of_getElem? (i := 312) (by decide +kernel)
theorem fl_n11_12 : Cond.not (Cond.eq (ms_tm 11) (ms_tm 12)) ∈ ms_fl := List.mem_of_getElem? (i := 265) (by decide +kernel)
theorem fl_n11_13 : Cond.not (Cond.eq (ms_tm 11) (ms_tm 13)) ∈ ms_fl := List.mem_of_getElem? (i := 313) (by decide +kernel)
theorem fl_n12_13 : Cond.not (Cond.eq (ms_tm 12) (ms_tm 13)) ∈ ms_fl := List.mem_of_getElem? (i := 314) (by decide +kernel)
theorem fl_ne : ∀ i, i < 14 → ∀ j, j < 14 → i ≠ j → (Cond.not (Cond.eq (ms_tm i) (ms_tm j)) ∈ ms_fl ∨ Cond.not (Cond.eq (ms_tm j) (ms_tm i)) ∈ ms_fl) := fun i hi j hj => match i, hi, j, hj with
  | 0, _, 0, _ => fun h => absurd rfl h
  | 0, _, 1, _ => fun _ => Or.inl fl_n0_1
  | 0, _, 2, _ => fun _ => Or.inl fl_n0_2
  | 0, _, 3, _ => fun _ => Or.inl fl_n0_3
  | 0, _, 4, _ => fun _ => Or.inl fl_n0_4
  | 0, _, 5, _ => fun _ => Or.inl fl_n0_5
  | 0, _, 6, _ => fun _ => Or.inl fl_n0_6
  | 0, _, 7, _ => fun _ => Or.inl fl_n0_7
  | 0, _, 8, _ => fun _ => Or.inl fl_n0_8
  | 0, _, 9, _ => fun _ => Or.inl fl_n0_9
  | 0, _, 10, _ => fun _ => Or.inl fl_n0_10
  | 0, _, 11, _ => fun _ => Or.inl fl_n0_11
  | 0, _, 12, _ => fun _ => Or.inl fl_n0_12
  | 0, _, 13, _ => fun _ => Or.inl fl_n0_13
  | 1, _, 0, _ => fun _ => Or.inr fl_n0_1
  | 1, _, 1, _ => fun h => absurd rfl h
  | 1, _, 2, _ => fun _ => Or.inl fl_n1_2
  | 1, _, 3, _ => fun _ => Or.inl fl_n1_3
  | 1, _, 4, _ => fun _ => Or.inl fl_n1_4
  | 1, _, 5, _ => fun _ => Or.inl fl_n1_5
  | 1, _, 6, _ => fun _ => Or.inl fl_n1_6
  | 1, _, 7, _ => fun _ => Or.inl fl_n1_7
  | 1, _, 8, _ => fun _ => Or.inl fl_n1_8
  | 1, _, 9, _ => fun _ => Or.inl fl_n1_9
  | 1, _, 10, _ => fun _ => Or.inl fl_n1_10
  | 1, _, 11, _ => fun _ => Or.inl fl_n1_11
  | 1, _, 12, _ => fun _ => Or.inl fl_n1_12
  | 1, _, 13, _ => fun _ => Or.inl fl_n1_13
  | 2, _, 0, _ => fun _ => Or.inr fl_n0_2
  | 2, _, 1, _ => fun _ => Or.inr fl_n1_2
  | 2, _, 2, _ => fun h => absurd rfl h
  | 2, _, 3, _ => fun _ => Or.inl fl_n2_3
  | 2, _, 4, _ => fun _ => Or.inl fl_n2_4
  | 2, _, 5, _ => fun _ => Or.inl fl_n2_5
  | 2, _, 6, _ => fun _ => Or.inl fl_n2_6
  | 2, _, 7, _ => fun _ => Or.inl fl_n2_7
  | 2, _, 8, _ => fun _ => Or.inl fl_n2_8
  | 2, _, 9, _ => fun _ => Or.inl fl_n2_9
  | 2, _, 10, _ => fun _ => Or.inl fl_n2_10
  | 2, _, 11, _ => fun _ => Or.inl fl_n2_11
  | 2, _, 12, _ => fun _ => Or.inl fl_n2_12
  | 2, _, 13, _ => fun _ => Or.inl fl_n2_13
  | 3, _, 0, _ => fun _ => Or.inr fl_n0_3
  | 3, _, 1, _ => fun _ => Or.inr fl_n1_3
  | 3, _, 2, _ => fun _ => Or.inr fl_n2_3
  | 3, _, 3, _ => fun h => absurd rfl h
  | 3, _, 4, _ => fun _ => Or.inl fl_n3_4
  | 3, _, 5, _ => fun _ => Or.inl fl_n3_5
  | 3, _, 6, _ => fun _ => Or.inl fl_n3_6
  | 3, _, 7, _ => fun _ => Or.inl fl_n3_7
  | 3, _, 8, _ => fun _ => Or.inl fl_n3_8
  | 3, _, 9, _ => fun _ => Or.inl fl_n3_9
  | 3, _, 10, _ => fun _ => Or.inl fl_n3_10
  | 3, _, 11, _ => fun _ => Or.inl fl_n3_11
  | 3, _, 12, _ => fun _ => Or.inl fl_n3_12
  | 3, _, 13, _ => fun _ => Or.inl fl_n3_13
  | 4, _, 0, _ => fun _ => Or.inr fl_n0_4
  | 4, _, 1, _ => fun _ => Or.inr fl_n1_4
  | 4, _, 2, _ => fun _ => Or.inr fl_n2_4
  | 4, _, 3, _ => fun _ => Or.inr fl_n3_4
  | 4, _, 4, _ => fun h => absurd rfl h
  | 4, _, 5, _ => fun _ => Or.inl fl_n4_5
  | 4, _, 6, _ => fun _ => Or.inl fl_n4_6
  | 4, _, 7, _ => fun _ => Or.inl fl_n4_7
  | 4, _, 8, _ => fun _ => Or.inl fl_n4_8
  | 4, _, 9, _ => fun _ => Or.inl fl_n4_9
  | 4, _, 10, _ => fun _ => Or.inl fl_n4_10
  | 4, _, 11, _ => fun _ => Or.inl fl_n4_11
  | 4, _, 12, _ => fun _ => Or.inl fl_n4_12
  | 4, _, 13, _ => fun _ => Or.inl fl_n4_13
  | 5, _, 0, _ => fun _ => Or.inr fl_n0_5
  | 5, _, 1, _ => fun _ => Or.inr fl_n1_5
  | 5, _, 2, _ => fun _ => Or.inr fl_n2_5
  | 5, _, 3, _ => fun _ => Or.inr fl_n3_5
  | 5, _, 4, _ => fun _ => Or.inr fl_n4_5
  | 5, _, 5, _ => fun h => absurd rfl h
  | 5, _, 6, _ => fun _ => Or.inl fl_n5_6
  | 5, _, 7, _ => fun _ => Or.inl fl_n5_7
  | 5, _, 8, _ => fun _ => Or.inl fl_n5_8
  | 5, _, 9, _ => fun _ => Or.inl fl_n5_9
  | 5, _, 10, _ => fun _ => Or.inl fl_n5_10
  | 5, _, 11, _ => fun _ => Or.inl fl_n5_11
  | 5, _, 12, _ => fun _ => Or.inl fl_n5_12
  | 5, _, 13, _ => fun _ => Or.inl fl_n5_13
  | 6, _, 0, _ => fun _ => Or.inr fl_n0_6
  | 6, _, 1, _ => fun _ => Or.inr fl_n1_6
  | 6, _, 2, _ => fun _ => Or.inr fl_n2_6
  | 6, _, 3, _ => fun _ => Or.inr fl_n3_6
  | 6, _, 4, _ => fun _ => Or.inr fl_n4_6
  | 6, _, 5, _ => fun _ => Or.inr fl_n5_6
  | 6, _, 6, _ => fun h => absurd rfl h
  | 6, _, 7, _ => fun _ => Or.inl fl_n6_7
  | 6, _, 8, _ => fun _ => Or.inl fl_n6_8
  | 6, _, 9, _ => fun _ => Or.inl fl_n6_9
  | 6, _, 10, _ => fun _ => Or.inl fl_n6_10
  | 6, _, 11, _ => fun _ => Or.inl fl_n6_11
  | 6, _, 12, _ => fun _ => Or.inl fl_n6_12
  | 6, _, 13, _ => fun _ => Or.inl fl_n6_13
  | 7, _, 0, _ => fun _ => Or.inr fl_n0_7
  | 7, _, 1, _ => fun _ => Or.inr fl_n1_7
  | 7, _, 2, _ => fun _ => Or.inr fl_n2_7
  | 7, _, 3, _ => fun _ => Or.inr fl_n3_7
  | 7, _, 4, _ => fun _ => Or.inr fl_n4_7
  | 7, _, 5, _ => fun _ => Or.inr fl_n5_7
  | 7, _, 6, _ => fun _ => Or.inr fl_n6_7
  | 7, _, 7, _ => fun h => absurd rfl h
  | 7, _, 8, _ => fun _ => Or.inl fl_n7_8
  | 7, _, 9, _ => fun _ => Or.inl fl_n7_9
  | 7, _, 10, _ => fun _ => Or.inl fl_n7_10
  | 7, _, 11, _ => fun _ => Or.inl fl_n7_11
  | 7, _, 12, _ => fun _ => Or.inl fl_n7_12
  | 7, _, 13, _ => fun _ => Or.inl fl_n7_13
  | 8, _, 0, _ => fun _ => Or.inr fl_n0_8
  | 8, _, 1, _ => fun _ => Or.inr fl_n1_8
  | 8, _, 2, _ => fun _ => Or.inr fl_n2_8
  | 8, _, 3, _ => fun _ => Or.inr fl_n3_8
  | 8, _, 4, _ => fun _ => Or.inr fl_n4_8
  | 8, _, 5, _ => fun _ => Or.inr fl_n5_8
  | 8, _, 6, _ => fun _ => Or.inr fl_n6_8
  | 8, _, 7, _ => fun _ => Or.inr fl_n7_8
  | 8, _, 8, _ => fun h => absurd rfl h
  | 8, _, 9, _ => fun _ => Or.inl fl_n8_9
  | 8, _, 10, _ => fun _ => Or.inl fl_n8_10
  | 8, _, 11, _ => fun _ => Or.inl fl_n8_11
  | 8, _, 12, _ => fun _ => Or.inl fl_n8_12
  | 8, _, 13, _ => fun _ => Or.inl fl_n8_13
  | 9, _, 0, _ => fun _ => Or.inr fl_n0_9
  | 9, _, 1, _ => fun _ => Or.inr fl_n1_9
  | 9, _, 2, _ => fun _ => Or.inr fl_n2_9
  | 9, _, 3, _ => fun _ => Or.inr fl_n3_9
  | 9, _, 4, _ => fun _ => Or.inr fl_n4_9
  | 9, _, 5, _ => fun _ => Or.inr fl_n5_9
  | 9, _, 6, _ => fun _ => Or.inr fl_n6_9
  | 9, _, 7, _ => fun _ => Or.inr fl_n7_9
  | 9, _, 8, _ => fun _ => Or.inr fl_n8_9
  | 9, _, 9, _ => fun h => absurd rfl h
  | 9, _, 10, _ => fun _ => Or.inl fl_n9_10
  | 9, _, 11, _ => fun _ => Or.inl fl_n9_11
  | 9, _, 12, _ => fun _ => Or.inl fl_n9_12
  | 9, _, 13, _ => fun _ => Or.inl fl_n9_13
  | 10, _, 0, _ => fun _ => Or.inr fl_n0_10
  | 10, _, 1, _ => fun _ => Or.inr fl_n1_10
  | 10, _, 2, _ => fun _ => Or.inr fl_n2_10
  | 10, _, 3, _ => fun _ => Or.inr fl_n3_10
  | 10, _, 4, _ => fun _ => Or.inr fl_n4_10
  | 10, _, 5, _ => fun _ => Or.inr fl_n5_10
  | 10, _, 6, _ => fun _ => Or.inr fl_n6_10
  | 10, _, 7, _ => fun _ => Or.inr fl_n7_10
  | 10, _, 8, _ => fun _ => Or.inr fl_n8_10
  | 10, _, 9, _ => fun _ => Or.inr fl_n9_10
  | 10, _, 10, _ => fun h => absurd rfl h
  | 10, _, 11, _ => fun _ => Or.inl fl_n10_11
  | 10, _, 12, _ => fun _ => Or.inl fl_n10_12
  | 10, _, 13, _ => fun _ => Or.inl fl_n10_13
  | 11, _, 0, _ => fun _ => Or.inr fl_n0_11
  | 11, _, 1, _ => fun _ => Or.inr fl_n1_11
  | 11, _, 2, _ => fun _ => Or.inr fl_n2_11
  | 11, _, 3, _ => fun _ => Or.inr fl_n3_11
  | 11, _, 4, _ => fun _ => Or.inr fl_n4_11
  | 11, _, 5, _ => fun _ => Or.inr fl_n5_11
  | 11, _, 6, _ => fun _ => Or.inr fl_n6_11
  | 11, _, 7, _ => fun _ => Or.inr fl_n7_11
  | 11, _, 8, _ => fun _ => Or.inr fl_n8_11
  | 11, _, 9, _ => fun _ => Or.inr fl_n9_11
  | 11, _, 10, _ => fun _ => Or.inr fl_n10_11
  | 11, _, 11, _ => fun h => absurd rfl h
  | 11, _, 12, _ => fun _ => Or.inl fl_n11_12
  | 11, _, 13, _ => fun _ => Or.inl fl_n11_13
  | 12, _, 0, _ => fun _ => Or.inr fl_n0_12
  | 12, _, 1, _ => fun _ => Or.inr fl_n1_12
  | 12, _, 2, _ => fun _ => Or.inr fl_n2_12
  | 12, _, 3, _ => fun _ => Or.inr fl_n3_12
  | 12, _, 4, _ => fun _ => Or.inr fl_n4_12
  | 12, _, 5, _ => fun _ => Or.inr fl_n5_12
  | 12, _, 6, _ => fun _ => Or.inr fl_n6_12
  | 12, _, 7, _ => fun _ => Or.inr fl_n7_12
  | 12, _, 8, _ => fun _ => Or.inr fl_n8_12
  | 12, _, 9, _ => fun _ => Or.inr fl_n9_12
  | 12, _, 10, _ => fun _ => Or.inr fl_n10_12
  | 12, _, 11, _ => fun _ => Or.inr fl_n11_12
  | 12, _, 12, _ => fun h => absurd rfl h
  | 12, _, 13, _ => fun _ => Or.inl fl_n12_13
  | 13, _, 0, _ => fun _ => Or.inr fl_n0_13
  | 13, _, 1, _ => fun _ => Or.inr fl_n1_13
  | 13, _, 2, _ => fun _ => Or.inr fl_n2_13
  | 13, _, 3, _ => fun _ => Or.inr fl_n3_13
  | 13, _, 4, _ => fun _ => Or.inr fl_n4_13
  | 13, _, 5, _ => fun _ => Or.inr fl_n5_13
  | 13, _, 6, _ => fun _ => Or.inr fl_n6_13
  | 13, _, 7, _ => fun _ => Or.inr fl_n7_13
  | 13, _, 8, _ => fun _ => Or.inr fl_n8_13
  | 13, _, 9, _ => fun _ => Or.inr fl_n9_13
  | 13, _, 10, _ => fun _ => Or.inr fl_n10_13
  | 13, _, 11, _ => fun _ => Or.inr fl_n11_13
  | 13, _, 12, _ => fun _ => Or.inr fl_n12_13
  | 13, _, 13, _ => fun h => absurd rfl h
  | i + 14, h, _, _ => absurd h (by omega)
  | _, _, j + 14, h => absurd h (by omega)
theorem fl_ref : ∀ q ∈ ms_refs, Cond.stringRef q.1 q.2.1 q.2.2.1 ∈ lw_tbl := by decide +kernel
theorem fl_nst : ∀ q ∈ ms_nst, Cond.methodLinkNest q.1 q.2.1 q.2.2.1 q.2.2.2 ∈ lw_tbl := by decide +kernel
theorem fl_same : ∀ q ∈ ms_refs, q.2.2.2 < 14 ∧ (Term.string q.1 q.2.1 = ms_tm q.2.2.2 ∨ Cond.eq (ms_tm q.2.2.2) (.string q.1 q.2.1) ∈ ms_fl) := by decide +kernel
theorem fl_cs : Cond.eq (.static "java/lang/String" "COMPACT_STRINGS" "Z") (.int 1) ∈ ms_fl := by decide +kernel
theorem fl_sf : Cond.isRef (.static "jdk/internal/util/Preconditions" "SIOOBE_FORMATTER" "Ljava/util/function/BiFunction;") ∈ ms_fl := by decide +kernel
theorem fl_l1 : Cond.laysStatic "java/lang/String" "COMPACT_STRINGS" "Z" ∈ lw_tbl := by decide +kernel
theorem fl_l2 : Cond.laysStatic "jdk/internal/util/Preconditions" "SIOOBE_FORMATTER" "Ljava/util/function/BiFunction;" ∈ lw_tbl := by decide +kernel
theorem fl_i1 : Cond.initialized "java/lang/String" ∈ lw_tbl := by decide +kernel
theorem fl_i2 : Cond.initialized "jdk/internal/util/Preconditions" ∈ lw_tbl := by decide +kernel
theorem fl_aC : Cond.arrayClass .char ∈ lw_tbl := by decide +kernel
theorem fl_aI : Cond.arrayClass .int ∈ lw_tbl := by decide +kernel
theorem fl_aJ : Cond.arrayClass .long ∈ lw_tbl := by decide +kernel
theorem fl_aZ : Cond.arrayClass .boolean ∈ lw_tbl := by decide +kernel
theorem ms_arr {args : Array Value} {s : State} {ty : FieldType} (h : (Cond.arrayClass ty).before args s = true) (hty : ∀ C, ty ≠ .object C) : ∃ cA, ArrOfT s cA ty ∧ va_RA s cA ty := by
  obtain ⟨cA, kA, comp, h1, h2, h3⟩ := Cond.arrayClass_spec h
  refine ⟨cA, fun n z => ⟨fun k h => (by cases h), kA, h2, comp, h3⟩, ?_⟩
  cases ty with
  | object C => exact absurd rfl (hty C)
  | _ => exact h1
set_option maxHeartbeats 4000000 in
theorem ms_ready {p : Program} {s : State} {m : MethodId} {meth : Method} {c : Code} {b L : Nat} {xs : Nat → Int32} (C0 : lw_At p s m meth c b L xs) : ∃ G : Gc, ms_CX p s m #[Value.ref b] meth c cL_law 4 RL ret G (fun q => s.heap.size ≤ q) := by
  obtain ⟨hx, hb, hr, hml, hown, hts, hX, hbl, hlocks, hgv⟩ := C0
  have hfl : ∀ w ∈ ms_fl, w.before #[Value.ref b] s = true := flat_of_before _ hgv
  have hout : ∀ a : Nat, a < s.heap.size → ¬ (fun q => s.heap.size ≤ q) a := fun a h => Nat.not_le.mpr h
  have hms : ∀ w ∈ ms_tbl, w.before #[Value.ref b] s = true := fun w hw => hts w (List.mem_filter.mp hw).1
  obtain ⟨c0, i0, k0⟩ := u_known (C := RX0) (T := TX0) (N := 3) (n := 3) hms uw_X0 (hms _ ib_X0)
  obtain ⟨c1, i1, k1⟩ := u_known (C := RX1) (T := TX1) (N := 3) (n := 3) hms uw_X1 (hms _ ib_X1)
  obtain ⟨c2, i2, k2⟩ := u_known (C := RX2) (T := TX2) (N := 3) (n := 3) hms uw_X2 (hms _ ib_X2)
  obtain ⟨c3, i3, k3⟩ := u_known (C := RX3) (T := TX3) (N := 4) (n := 4) hms uw_X3 (hms _ ib_X3)
  obtain ⟨c4, i4, k4⟩ := u_known (C := RX4) (T := TX4) (N := 6) (n := 6) hms uw_X4 (hms _ ib_X4)
  obtain ⟨c6, i6, k6⟩ := u_known (C := RX6) (T := TX6) (N := 5) (n := 5) hms uw_X6 (hms _ ib_X6)
  obtain ⟨c7, i7, k7⟩ := u_known (C := RX7) (T := TX7) (N := 10) (n := 10) hms uw_X7 (hms _ ib_X7)
  obtain ⟨c8, i8, k8⟩ := u_known (C := RX8) (T := TX8) (N := 4) (n := 4) hms uw_X8 (hms _ ib_X8)
  obtain ⟨c9, i9, k9⟩ := u_known (C := RX9) (T := TX9) (N := 9) (n := 9) hms uw_X9 (hms _ ib_X9)
  obtain ⟨c10, i10, k10⟩ := u_known (C := RX10) (T := TX10) (N := 38) (n := 38) hms uw_X10 (hms _ ib_X10)
  obtain ⟨aC, hC1, hC2⟩ := ms_arr (hts _ fl_aC) (fun C h => by cases h)
  obtain ⟨aI, hI1, hI2⟩ := ms_arr (hts _ fl_aI) (fun C h => by cases h)
  obtain ⟨aJ, hJ1, hJ2⟩ := ms_arr (hts _ fl_aJ) (fun C h => by cases h)
  obtain ⟨aZ, hZ1, hZ2⟩ := ms_arr (hts _ fl_aZ) (fun C h => by cases h)
  obtain ⟨adK, adV, hS, hev⟩ := vk_Sof (args := #[Value.ref b]) (s := s) (N := 14) (tm := ms_tm) (len := ms_len) (byt := ms_byt) (A := fun q => s.heap.size ≤ q) (fun i hi => Nat.lt_of_le_of_lt (ms_lens i hi) (by decide)) (fun i hi => hfl _ (fl_ex i hi)) (fun i hi => hfl _ (fl_co i hi)) (fun i hi => hfl _ (fl_ar i hi)) (fun i hi => hfl _ (fl_le i hi)) (fun i hi j hj => hfl _ (fl_el i hi j hj)) (fun i j hi hj hij => (fl_ne i hi j hj hij).elim (fun h => Or.inl (hfl _ h)) (fun h => Or.inr (hfl _ h))) hout
  refine ⟨((fun k => [c0, c1, c2, c3, c4, c6, c7, c8, c9, c10].getD k 0, fun k => [i0, i1, i2, i3, i4, i6, i7, i8, i9, i10].getD k (fun _ => 0)), (fun k => [aC, aI, aJ, aZ].getD k 0), adK, adV), ⟨hx, hb, hml, hown, hms⟩, hr, hlocks, ⟨?_, ?_⟩, fun _ h => h, hS, ?_, ?_, ?_, ?_⟩
  · intro k q hq
    match k, hq with
    | 0, hq => cases hq; exact k0
    | 1, hq => cases hq; exact k1
    | 2, hq => cases hq; exact k2
    | 3, hq => cases hq; exact k3
    | 4, hq => cases hq; exact k4
    | 5, hq => cases hq; exact k6
    | 6, hq => cases hq; exact k7
    | 7, hq => cases hq; exact k8
    | 8, hq => cases hq; exact k9
    | 9, hq => cases hq; exact k10
    | k + 10, hq => cases hq
  · intro k q hq
    match k, hq with
    | 0, hq => cases hq; exact ⟨hC1, hC2⟩
    | 1, hq => cases hq; exact ⟨hI1, hI2⟩
    | 2, hq => cases hq; exact ⟨hJ1, hJ2⟩
    | 3, hq => cases hq; exact ⟨hZ1, hZ2⟩
    | k + 4, hq => cases hq
  · refine va_Zof (hts _ fl_l1) (hts _ fl_i1) ?_ hout
    obtain ⟨y, h1, h2⟩ := Cond.eq_one (hfl _ fl_cs)
    rw [h1]
    exact h2.symm
  · intro q hq
    obtain ⟨h1, h2⟩ := fl_same q hq
    refine vk_R.of (hts _ (fl_ref q hq)) ?_
    rcases h2 with h2 | h2
    · rw [h2]; exact hev _ h1
    · obtain ⟨y, h3, h4⟩ := Cond.eq_one (hfl _ h2)
      rw [h4, ← h3]
      exact hev _ h1
  · exact fun q hq => va_Nw.of rfl (hts _ (fl_nst q hq))
  · exact va_Zqof (hts _ fl_l2) (hts _ fl_i2) (hfl _ fl_sf) hout
