theorem dX10_init_0 : decode cX10_init 0 = .ok (.aload_n 0, 1) := by decide +kernel
theorem dX10_init_1 : decode cX10_init 1 = .ok (.invokespecial 1, 3) := by decide +kernel
theorem dX10_init_4 : decode cX10_init 4 = .ok (.aload_n 0, 1) := by decide +kernel
theorem dX10_init_5 : decode cX10_init 5 = .ok (.sipush 200, 3) := by decide +kernel
theorem dX10_init_8 : decode cX10_init 8 = .ok (.newarray .int, 2) := by decide +kernel
theorem dX10_init_10 : decode cX10_init 10 = .ok (.putfield 7, 3) := by decide +kernel
theorem dX10_init_13 : decode cX10_init 13 = .ok (.aload_n 0, 1) := by decide +kernel
theorem dX10_init_14 : decode cX10_init 14 = .ok (.sipush 200, 3) := by decide +kernel
theorem dX10_init_17 : decode cX10_init 17 = .ok (.newarray .int, 2) := by decide +kernel
theorem dX10_init_19 : decode cX10_init 19 = .ok (.putfield 13, 3) := by decide +kernel
theorem dX10_init_22 : decode cX10_init 22 = .ok (.aload_n 0, 1) := by decide +kernel
theorem dX10_init_23 : decode cX10_init 23 = .ok (.bipush 26, 2) := by decide +kernel
theorem dX10_init_25 : decode cX10_init 25 = .ok (.newarray .int, 2) := by decide +kernel
theorem dX10_init_27 : decode cX10_init 27 = .ok (.putfield 16, 3) := by decide +kernel
theorem dX10_init_30 : decode cX10_init 30 = .ok (.aload_n 0, 1) := by decide +kernel
theorem dX10_init_31 : decode cX10_init 31 = .ok (.sipush 702, 3) := by decide +kernel
theorem dX10_init_34 : decode cX10_init 34 = .ok (.newarray .boolean, 2) := by decide +kernel
theorem dX10_init_36 : decode cX10_init 36 = .ok (.putfield 19, 3) := by decide +kernel
theorem dX10_init_39 : decode cX10_init 39 = .ok (.aload_n 0, 1) := by decide +kernel
theorem dX10_init_40 : decode cX10_init 40 = .ok (.iconst 4, 1) := by decide +kernel
theorem dX10_init_41 : decode cX10_init 41 = .ok (.newarray .long, 2) := by decide +kernel
theorem dX10_init_43 : decode cX10_init 43 = .ok (.putfield 23, 3) := by decide +kernel
theorem dX10_init_46 : decode cX10_init 46 = .ok (.aload_n 0, 1) := by decide +kernel
theorem dX10_init_47 : decode cX10_init 47 = .ok (.sipush 200, 3) := by decide +kernel
theorem dX10_init_50 : decode cX10_init 50 = .ok (.newarray .int, 2) := by decide +kernel
theorem dX10_init_52 : decode cX10_init 52 = .ok (.putfield 27, 3) := by decide +kernel
theorem dX10_init_55 : decode cX10_init 55 = .ok (.aload_n 0, 1) := by decide +kernel
theorem dX10_init_56 : decode cX10_init 56 = .ok (.sipush 200, 3) := by decide +kernel
theorem dX10_init_59 : decode cX10_init 59 = .ok (.newarray .int, 2) := by decide +kernel
theorem dX10_init_61 : decode cX10_init 61 = .ok (.putfield 30, 3) := by decide +kernel
theorem dX10_init_64 : decode cX10_init 64 = .ok (.aload_n 0, 1) := by decide +kernel
theorem dX10_init_65 : decode cX10_init 65 = .ok (.iconst 2, 1) := by decide +kernel
theorem dX10_init_66 : decode cX10_init 66 = .ok (.newarray .int, 2) := by decide +kernel
theorem dX10_init_68 : decode cX10_init 68 = .ok (.putfield 33, 3) := by decide +kernel
theorem dX10_init_71 : decode cX10_init 71 = .ok (.aload_n 0, 1) := by decide +kernel
theorem dX10_init_72 : decode cX10_init 72 = .ok (.sipush 512, 3) := by decide +kernel
theorem dX10_init_75 : decode cX10_init 75 = .ok (.newarray .int, 2) := by decide +kernel
theorem dX10_init_77 : decode cX10_init 77 = .ok (.putfield 36, 3) := by decide +kernel
theorem dX10_init_80 : decode cX10_init 80 = .ok (.aload_n 0, 1) := by decide +kernel
theorem dX10_init_81 : decode cX10_init 81 = .ok (.sipush 512, 3) := by decide +kernel
theorem dX10_init_84 : decode cX10_init 84 = .ok (.newarray .int, 2) := by decide +kernel
theorem dX10_init_86 : decode cX10_init 86 = .ok (.putfield 39, 3) := by decide +kernel
theorem dX10_init_89 : decode cX10_init 89 = .ok (.aload_n 0, 1) := by decide +kernel
theorem dX10_init_90 : decode cX10_init 90 = .ok (.sipush 512, 3) := by decide +kernel
theorem dX10_init_93 : decode cX10_init 93 = .ok (.newarray .int, 2) := by decide +kernel
theorem dX10_init_95 : decode cX10_init 95 = .ok (.putfield 42, 3) := by decide +kernel
theorem dX10_init_98 : decode cX10_init 98 = .ok (.aload_n 0, 1) := by decide +kernel
theorem dX10_init_99 : decode cX10_init 99 = .ok (.sipush 512, 3) := by decide +kernel
theorem dX10_init_102 : decode cX10_init 102 = .ok (.newarray .int, 2) := by decide +kernel
theorem dX10_init_104 : decode cX10_init 104 = .ok (.putfield 45, 3) := by decide +kernel
theorem dX10_init_107 : decode cX10_init 107 = .ok (.aload_n 0, 1) := by decide +kernel
theorem dX10_init_108 : decode cX10_init 108 = .ok (.sipush 512, 3) := by decide +kernel
theorem dX10_init_111 : decode cX10_init 111 = .ok (.newarray .boolean, 2) := by decide +kernel
theorem dX10_init_113 : decode cX10_init 113 = .ok (.putfield 48, 3) := by decide +kernel
theorem dX10_init_116 : decode cX10_init 116 = .ok (.aload_n 0, 1) := by decide +kernel
theorem dX10_init_117 : decode cX10_init 117 = .ok (.sipush 512, 3) := by decide +kernel
theorem dX10_init_120 : decode cX10_init 120 = .ok (.newarray .int, 2) := by decide +kernel
theorem dX10_init_122 : decode cX10_init 122 = .ok (.putfield 51, 3) := by decide +kernel
theorem dX10_init_125 : decode cX10_init 125 = .ok (.aload_n 0, 1) := by decide +kernel
theorem dX10_init_126 : decode cX10_init 126 = .ok (.sipush 512, 3) := by decide +kernel
theorem dX10_init_129 : decode cX10_init 129 = .ok (.newarray .int, 2) := by decide +kernel
theorem dX10_init_131 : decode cX10_init 131 = .ok (.putfield 54, 3) := by decide +kernel
theorem dX10_init_134 : decode cX10_init 134 = .ok (.aload_n 0, 1) := by decide +kernel
theorem dX10_init_135 : decode cX10_init 135 = .ok (.sipush 512, 3) := by decide +kernel
theorem dX10_init_138 : decode cX10_init 138 = .ok (.newarray .boolean, 2) := by decide +kernel
theorem dX10_init_140 : decode cX10_init 140 = .ok (.putfield 57, 3) := by decide +kernel
theorem dX10_init_143 : decode cX10_init 143 = .ok (.aload_n 0, 1) := by decide +kernel
theorem dX10_init_144 : decode cX10_init 144 = .ok (.iconst 2, 1) := by decide +kernel
theorem dX10_init_145 : decode cX10_init 145 = .ok (.newarray .int, 2) := by decide +kernel
theorem dX10_init_147 : decode cX10_init 147 = .ok (.putfield 60, 3) := by decide +kernel
theorem dX10_init_150 : decode cX10_init 150 = .ok (.aload_n 0, 1) := by decide +kernel
theorem dX10_init_151 : decode cX10_init 151 = .ok (.sipush 256, 3) := by decide +kernel
theorem dX10_init_154 : decode cX10_init 154 = .ok (.newarray .int, 2) := by decide +kernel
theorem dX10_init_156 : decode cX10_init 156 = .ok (.putfield 63, 3) := by decide +kernel
theorem dX10_init_159 : decode cX10_init 159 = .ok (.aload_n 0, 1) := by decide +kernel
theorem dX10_init_160 : decode cX10_init 160 = .ok (.sipush 256, 3) := by decide +kernel
theorem dX10_init_163 : decode cX10_init 163 = .ok (.newarray .int, 2) := by decide +kernel
theorem dX10_init_165 : decode cX10_init 165 = .ok (.putfield 66, 3) := by decide +kernel
theorem dX10_init_168 : decode cX10_init 168 = .ok (.aload_n 0, 1) := by decide +kernel
theorem dX10_init_169 : decode cX10_init 169 = .ok (.sipush 256, 3) := by decide +kernel
theorem dX10_init_172 : decode cX10_init 172 = .ok (.newarray .int, 2) := by decide +kernel
theorem dX10_init_174 : decode cX10_init 174 = .ok (.putfield 69, 3) := by decide +kernel
theorem dX10_init_177 : decode cX10_init 177 = .ok (.aload_n 0, 1) := by decide +kernel
theorem dX10_init_178 : decode cX10_init 178 = .ok (.sipush 256, 3) := by decide +kernel
theorem dX10_init_181 : decode cX10_init 181 = .ok (.newarray .int, 2) := by decide +kernel
theorem dX10_init_183 : decode cX10_init 183 = .ok (.putfield 72, 3) := by decide +kernel
theorem dX10_init_186 : decode cX10_init 186 = .ok (.aload_n 0, 1) := by decide +kernel
theorem dX10_init_187 : decode cX10_init 187 = .ok (.iconst 2, 1) := by decide +kernel
theorem dX10_init_188 : decode cX10_init 188 = .ok (.newarray .int, 2) := by decide +kernel
theorem dX10_init_190 : decode cX10_init 190 = .ok (.putfield 75, 3) := by decide +kernel
theorem dX10_init_193 : decode cX10_init 193 = .ok (.aload_n 0, 1) := by decide +kernel
theorem dX10_init_194 : decode cX10_init 194 = .ok (.sipush 512, 3) := by decide +kernel
theorem dX10_init_197 : decode cX10_init 197 = .ok (.newarray .int, 2) := by decide +kernel
theorem dX10_init_199 : decode cX10_init 199 = .ok (.putfield 78, 3) := by decide +kernel
theorem dX10_init_202 : decode cX10_init 202 = .ok (.aload_n 0, 1) := by decide +kernel
theorem dX10_init_203 : decode cX10_init 203 = .ok (.bipush 8, 2) := by decide +kernel
theorem dX10_init_205 : decode cX10_init 205 = .ok (.newarray .int, 2) := by decide +kernel
theorem dX10_init_207 : decode cX10_init 207 = .ok (.putfield 81, 3) := by decide +kernel
theorem dX10_init_210 : decode cX10_init 210 = .ok (.aload_n 0, 1) := by decide +kernel
theorem dX10_init_211 : decode cX10_init 211 = .ok (.bipush 16, 2) := by decide +kernel
theorem dX10_init_213 : decode cX10_init 213 = .ok (.newarray .int, 2) := by decide +kernel
theorem dX10_init_215 : decode cX10_init 215 = .ok (.putfield 84, 3) := by decide +kernel
theorem dX10_init_218 : decode cX10_init 218 = .ok (.aload_n 0, 1) := by decide +kernel
theorem dX10_init_219 : decode cX10_init 219 = .ok (.invokevirtual 87, 3) := by decide +kernel
theorem dX10_init_222 : decode cX10_init 222 = .ok (.return_, 1) := by decide +kernel
theorem dX10_byteOf_0 : decode cX10_byteOf 0 = .ok (.lload_n 0, 1) := by decide +kernel
theorem dX10_byteOf_1 : decode cX10_byteOf 1 = .ok (.bipush 8, 2) := by decide +kernel
theorem dX10_byteOf_3 : decode cX10_byteOf 3 = .ok (.iload_n 2, 1) := by decide +kernel
theorem dX10_byteOf_4 : decode cX10_byteOf 4 = .ok (.imul, 1) := by decide +kernel
theorem dX10_byteOf_5 : decode cX10_byteOf 5 = .ok (.lshr, 1) := by decide +kernel
theorem dX10_byteOf_6 : decode cX10_byteOf 6 = .ok (.ldc2_w 90, 3) := by decide +kernel
theorem dX10_byteOf_9 : decode cX10_byteOf 9 = .ok (.land, 1) := by decide +kernel
theorem dX10_byteOf_10 : decode cX10_byteOf 10 = .ok (.l2i, 1) := by decide +kernel
theorem dX10_byteOf_11 : decode cX10_byteOf 11 = .ok (.ireturn, 1) := by decide +kernel
theorem dX10_put_0 : decode cX10_put 0 = .ok (.iconst 0, 1) := by decide +kernel
theorem dX10_put_1 : decode cX10_put 1 = .ok (.istore_n 3, 1) := by decide +kernel
theorem dX10_put_2 : decode cX10_put 2 = .ok (.iconst 0, 1) := by decide +kernel
theorem dX10_put_3 : decode cX10_put 3 = .ok (.istore 4, 2) := by decide +kernel
theorem dX10_put_5 : decode cX10_put 5 = .ok (.iload 4, 2) := by decide +kernel
theorem dX10_put_7 : decode cX10_put 7 = .ok (.bipush 8, 2) := by decide +kernel
theorem dX10_put_9 : decode cX10_put 9 = .ok (.if_icmp .ge 51, 3) := by decide +kernel
theorem dX10_put_12 : decode cX10_put 12 = .ok (.lload_n 1, 1) := by decide +kernel
theorem dX10_put_13 : decode cX10_put 13 = .ok (.iload 4, 2) := by decide +kernel
theorem dX10_put_15 : decode cX10_put 15 = .ok (.invokestatic 92, 3) := by decide +kernel
theorem dX10_put_18 : decode cX10_put 18 = .ok (.istore 5, 2) := by decide +kernel
theorem dX10_put_20 : decode cX10_put 20 = .ok (.iload 5, 2) := by decide +kernel
theorem dX10_put_22 : decode cX10_put 22 = .ok (.ifCond .eq 19, 3) := by decide +kernel
theorem dX10_put_25 : decode cX10_put 25 = .ok (.iload 5, 2) := by decide +kernel
theorem dX10_put_27 : decode cX10_put 27 = .ok (.bipush 32, 2) := by decide +kernel
theorem dX10_put_29 : decode cX10_put 29 = .ok (.if_icmp .lt 10, 3) := by decide +kernel
theorem dX10_put_32 : decode cX10_put 32 = .ok (.iload 5, 2) := by decide +kernel
theorem dX10_put_34 : decode cX10_put 34 = .ok (.bipush 126, 2) := by decide +kernel
theorem dX10_put_36 : decode cX10_put 36 = .ok (.if_icmp .le 5, 3) := by decide +kernel
theorem dX10_put_39 : decode cX10_put 39 = .ok (.iconst 0, 1) := by decide +kernel
theorem dX10_put_40 : decode cX10_put 40 = .ok (.ireturn, 1) := by decide +kernel
theorem dX10_put_41 : decode cX10_put 41 = .ok (.iload_n 3, 1) := by decide +kernel
theorem dX10_put_42 : decode cX10_put 42 = .ok (.iload 5, 2) := by decide +kernel
theorem dX10_put_44 : decode cX10_put 44 = .ok (.ifCond .ne 7, 3) := by decide +kernel
theorem dX10_put_47 : decode cX10_put 47 = .ok (.iconst 0, 1) := by decide +kernel
theorem dX10_put_48 : decode cX10_put 48 = .ok (.goto 4, 3) := by decide +kernel
theorem dX10_put_51 : decode cX10_put 51 = .ok (.iconst 1, 1) := by decide +kernel
theorem dX10_put_52 : decode cX10_put 52 = .ok (.iadd, 1) := by decide +kernel
theorem dX10_put_53 : decode cX10_put 53 = .ok (.istore_n 3, 1) := by decide +kernel
theorem dX10_put_54 : decode cX10_put 54 = .ok (.iinc 4 1, 3) := by decide +kernel
theorem dX10_put_57 : decode cX10_put 57 = .ok (.goto (-52), 3) := by decide +kernel
theorem dX10_put_60 : decode cX10_put 60 = .ok (.aload_n 0, 1) := by decide +kernel
theorem dX10_put_61 : decode cX10_put 61 = .ok (.getfield 96, 3) := by decide +kernel
theorem dX10_put_64 : decode cX10_put 64 = .ok (.iload_n 3, 1) := by decide +kernel
theorem dX10_put_65 : decode cX10_put 65 = .ok (.iadd, 1) := by decide +kernel
theorem dX10_put_66 : decode cX10_put 66 = .ok (.sipush 200, 3) := by decide +kernel
theorem dX10_put_69 : decode cX10_put 69 = .ok (.if_icmp .le 5, 3) := by decide +kernel
theorem dX10_put_72 : decode cX10_put 72 = .ok (.iconst 0, 1) := by decide +kernel
theorem dX10_put_73 : decode cX10_put 73 = .ok (.ireturn, 1) := by decide +kernel
theorem dX10_put_74 : decode cX10_put 74 = .ok (.iconst 0, 1) := by decide +kernel
theorem dX10_put_75 : decode cX10_put 75 = .ok (.istore 4, 2) := by decide +kernel
theorem dX10_put_77 : decode cX10_put 77 = .ok (.iload 4, 2) := by decide +kernel
theorem dX10_put_79 : decode cX10_put 79 = .ok (.bipush 8, 2) := by decide +kernel
theorem dX10_put_81 : decode cX10_put 81 = .ok (.if_icmp .ge 43, 3) := by decide +kernel
theorem dX10_put_84 : decode cX10_put 84 = .ok (.lload_n 1, 1) := by decide +kernel
theorem dX10_put_85 : decode cX10_put 85 = .ok (.iload 4, 2) := by decide +kernel
theorem dX10_put_87 : decode cX10_put 87 = .ok (.invokestatic 92, 3) := by decide +kernel
theorem dX10_put_90 : decode cX10_put 90 = .ok (.istore 5, 2) := by decide +kernel
theorem dX10_put_92 : decode cX10_put 92 = .ok (.iload 5, 2) := by decide +kernel
theorem dX10_put_94 : decode cX10_put 94 = .ok (.ifCond .eq 24, 3) := by decide +kernel
theorem dX10_put_97 : decode cX10_put 97 = .ok (.aload_n 0, 1) := by decide +kernel
theorem dX10_put_98 : decode cX10_put 98 = .ok (.getfield 7, 3) := by decide +kernel
theorem dX10_put_101 : decode cX10_put 101 = .ok (.aload_n 0, 1) := by decide +kernel
theorem dX10_put_102 : decode cX10_put 102 = .ok (.getfield 96, 3) := by decide +kernel
theorem dX10_put_105 : decode cX10_put 105 = .ok (.iload 5, 2) := by decide +kernel
theorem dX10_put_107 : decode cX10_put 107 = .ok (.iastore, 1) := by decide +kernel
theorem dX10_put_108 : decode cX10_put 108 = .ok (.aload_n 0, 1) := by decide +kernel
theorem dX10_put_109 : decode cX10_put 109 = .ok (.dup, 1) := by decide +kernel
theorem dX10_put_110 : decode cX10_put 110 = .ok (.getfield 96, 3) := by decide +kernel
theorem dX10_put_113 : decode cX10_put 113 = .ok (.iconst 1, 1) := by decide +kernel
theorem dX10_put_114 : decode cX10_put 114 = .ok (.iadd, 1) := by decide +kernel
theorem dX10_put_115 : decode cX10_put 115 = .ok (.putfield 96, 3) := by decide +kernel
theorem dX10_put_118 : decode cX10_put 118 = .ok (.iinc 4 1, 3) := by decide +kernel
theorem dX10_put_121 : decode cX10_put 121 = .ok (.goto (-44), 3) := by decide +kernel
theorem dX10_put_124 : decode cX10_put 124 = .ok (.iconst 1, 1) := by decide +kernel
theorem dX10_put_125 : decode cX10_put 125 = .ok (.ireturn, 1) := by decide +kernel
theorem dX10_wipe_0 : decode cX10_wipe 0 = .ok (.aload_n 0, 1) := by decide +kernel
theorem dX10_wipe_1 : decode cX10_wipe 1 = .ok (.iconst 0, 1) := by decide +kernel
theorem dX10_wipe_2 : decode cX10_wipe 2 = .ok (.putfield 96, 3) := by decide +kernel
theorem dX10_wipe_5 : decode cX10_wipe 5 = .ok (.return_, 1) := by decide +kernel
theorem dX10_action_0 : decode cX10_action 0 = .ok (.iload_n 1, 1) := by decide +kernel
theorem dX10_action_1 : decode cX10_action 1 = .ok (.ifCond .lt 28, 3) := by decide +kernel
theorem dX10_action_4 : decode cX10_action 4 = .ok (.iload_n 1, 1) := by decide +kernel
theorem dX10_action_5 : decode cX10_action 5 = .ok (.bipush 25, 2) := by decide +kernel
theorem dX10_action_7 : decode cX10_action 7 = .ok (.if_icmp .gt 22, 3) := by decide +kernel
theorem dX10_action_10 : decode cX10_action 10 = .ok (.iload_n 2, 1) := by decide +kernel
theorem dX10_action_11 : decode cX10_action 11 = .ok (.ifCond .lt 18, 3) := by decide +kernel
theorem dX10_action_14 : decode cX10_action 14 = .ok (.iload_n 2, 1) := by decide +kernel
theorem dX10_action_15 : decode cX10_action 15 = .ok (.iconst 2, 1) := by decide +kernel
theorem dX10_action_16 : decode cX10_action 16 = .ok (.if_icmp .gt 13, 3) := by decide +kernel
theorem dX10_action_19 : decode cX10_action 19 = .ok (.iload_n 1, 1) := by decide +kernel
theorem dX10_action_20 : decode cX10_action 20 = .ok (.bipush 18, 2) := by decide +kernel
theorem dX10_action_22 : decode cX10_action 22 = .ok (.if_icmp .ne 9, 3) := by decide +kernel
theorem dX10_action_25 : decode cX10_action 25 = .ok (.iload_n 2, 1) := by decide +kernel
theorem dX10_action_26 : decode cX10_action 26 = .ok (.ifCond .ne 5, 3) := by decide +kernel
theorem dX10_action_29 : decode cX10_action 29 = .ok (.iconst 0, 1) := by decide +kernel
theorem dX10_action_30 : decode cX10_action 30 = .ok (.ireturn, 1) := by decide +kernel
theorem dX10_action_31 : decode cX10_action 31 = .ok (.aload_n 0, 1) := by decide +kernel
theorem dX10_action_32 : decode cX10_action 32 = .ok (.getfield 16, 3) := by decide +kernel
theorem dX10_action_35 : decode cX10_action 35 = .ok (.iload_n 1, 1) := by decide +kernel
theorem dX10_action_36 : decode cX10_action 36 = .ok (.iload_n 2, 1) := by decide +kernel
theorem dX10_action_37 : decode cX10_action 37 = .ok (.iastore, 1) := by decide +kernel
theorem dX10_action_38 : decode cX10_action 38 = .ok (.iconst 1, 1) := by decide +kernel
theorem dX10_action_39 : decode cX10_action 39 = .ok (.ireturn, 1) := by decide +kernel
theorem dX10_attribute_0 : decode cX10_attribute 0 = .ok (.iload_n 1, 1) := by decide +kernel
theorem dX10_attribute_1 : decode cX10_attribute 1 = .ok (.iconst (-1), 1) := by decide +kernel
theorem dX10_attribute_2 : decode cX10_attribute 2 = .ok (.if_icmp .lt 29, 3) := by decide +kernel
theorem dX10_attribute_5 : decode cX10_attribute 5 = .ok (.iload_n 1, 1) := by decide +kernel
theorem dX10_attribute_6 : decode cX10_attribute 6 = .ok (.bipush 25, 2) := by decide +kernel
theorem dX10_attribute_8 : decode cX10_attribute 8 = .ok (.if_icmp .gt 23, 3) := by decide +kernel
theorem dX10_attribute_11 : decode cX10_attribute 11 = .ok (.iload_n 2, 1) := by decide +kernel
theorem dX10_attribute_12 : decode cX10_attribute 12 = .ok (.ifCond .lt 19, 3) := by decide +kernel
theorem dX10_attribute_15 : decode cX10_attribute 15 = .ok (.iload_n 2, 1) := by decide +kernel
theorem dX10_attribute_16 : decode cX10_attribute 16 = .ok (.bipush 25, 2) := by decide +kernel
theorem dX10_attribute_18 : decode cX10_attribute 18 = .ok (.if_icmp .gt 13, 3) := by decide +kernel
theorem dX10_attribute_21 : decode cX10_attribute 21 = .ok (.iload_n 2, 1) := by decide +kernel
theorem dX10_attribute_22 : decode cX10_attribute 22 = .ok (.bipush 14, 2) := by decide +kernel
theorem dX10_attribute_24 : decode cX10_attribute 24 = .ok (.if_icmp .ne 9, 3) := by decide +kernel
theorem dX10_attribute_27 : decode cX10_attribute 27 = .ok (.iload_n 3, 1) := by decide +kernel
theorem dX10_attribute_28 : decode cX10_attribute 28 = .ok (.ifCond .eq 5, 3) := by decide +kernel
theorem dX10_attribute_31 : decode cX10_attribute 31 = .ok (.iconst 0, 1) := by decide +kernel
theorem dX10_attribute_32 : decode cX10_attribute 32 = .ok (.ireturn, 1) := by decide +kernel
theorem dX10_attribute_33 : decode cX10_attribute 33 = .ok (.iload_n 1, 1) := by decide +kernel
theorem dX10_attribute_34 : decode cX10_attribute 34 = .ok (.ifCond .ge 8, 3) := by decide +kernel
theorem dX10_attribute_37 : decode cX10_attribute 37 = .ok (.bipush 26, 2) := by decide +kernel
theorem dX10_attribute_39 : decode cX10_attribute 39 = .ok (.goto 4, 3) := by decide +kernel
theorem dX10_attribute_42 : decode cX10_attribute 42 = .ok (.iload_n 1, 1) := by decide +kernel
theorem dX10_attribute_43 : decode cX10_attribute 43 = .ok (.istore 4, 2) := by decide +kernel
theorem dX10_attribute_45 : decode cX10_attribute 45 = .ok (.aload_n 0, 1) := by decide +kernel
theorem dX10_attribute_46 : decode cX10_attribute 46 = .ok (.getfield 19, 3) := by decide +kernel
theorem dX10_attribute_49 : decode cX10_attribute 49 = .ok (.bipush 26, 2) := by decide +kernel
theorem dX10_attribute_51 : decode cX10_attribute 51 = .ok (.iload 4, 2) := by decide +kernel
theorem dX10_attribute_53 : decode cX10_attribute 53 = .ok (.imul, 1) := by decide +kernel
theorem dX10_attribute_54 : decode cX10_attribute 54 = .ok (.iload_n 2, 1) := by decide +kernel
theorem dX10_attribute_55 : decode cX10_attribute 55 = .ok (.iadd, 1) := by decide +kernel
theorem dX10_attribute_56 : decode cX10_attribute 56 = .ok (.iload_n 3, 1) := by decide +kernel
theorem dX10_attribute_57 : decode cX10_attribute 57 = .ok (.bastore, 1) := by decide +kernel
theorem dX10_attribute_58 : decode cX10_attribute 58 = .ok (.iconst 1, 1) := by decide +kernel
theorem dX10_attribute_59 : decode cX10_attribute 59 = .ok (.ireturn, 1) := by decide +kernel
theorem dX10_scheme_0 : decode cX10_scheme 0 = .ok (.iconst 0, 1) := by decide +kernel
theorem dX10_scheme_1 : decode cX10_scheme 1 = .ok (.istore_n 3, 1) := by decide +kernel
theorem dX10_scheme_2 : decode cX10_scheme 2 = .ok (.iload_n 3, 1) := by decide +kernel
theorem dX10_scheme_3 : decode cX10_scheme 3 = .ok (.bipush 8, 2) := by decide +kernel
theorem dX10_scheme_5 : decode cX10_scheme 5 = .ok (.if_icmp .ge 29, 3) := by decide +kernel
theorem dX10_scheme_8 : decode cX10_scheme 8 = .ok (.lload_n 1, 1) := by decide +kernel
theorem dX10_scheme_9 : decode cX10_scheme 9 = .ok (.iload_n 3, 1) := by decide +kernel
theorem dX10_scheme_10 : decode cX10_scheme 10 = .ok (.invokestatic 92, 3) := by decide +kernel
theorem dX10_scheme_13 : decode cX10_scheme 13 = .ok (.bipush 97, 2) := by decide +kernel
theorem dX10_scheme_15 : decode cX10_scheme 15 = .ok (.if_icmp .lt 19, 3) := by decide +kernel
theorem dX10_scheme_18 : decode cX10_scheme 18 = .ok (.lload_n 1, 1) := by decide +kernel
theorem dX10_scheme_19 : decode cX10_scheme 19 = .ok (.iload_n 3, 1) := by decide +kernel
theorem dX10_scheme_20 : decode cX10_scheme 20 = .ok (.invokestatic 92, 3) := by decide +kernel
theorem dX10_scheme_23 : decode cX10_scheme 23 = .ok (.bipush 122, 2) := by decide +kernel
theorem dX10_scheme_25 : decode cX10_scheme 25 = .ok (.if_icmp .gt 9, 3) := by decide +kernel
theorem dX10_scheme_28 : decode cX10_scheme 28 = .ok (.iinc 3 1, 3) := by decide +kernel
theorem dX10_scheme_31 : decode cX10_scheme 31 = .ok (.goto (-29), 3) := by decide +kernel
theorem dX10_scheme_34 : decode cX10_scheme 34 = .ok (.iload_n 3, 1) := by decide +kernel
theorem dX10_scheme_35 : decode cX10_scheme 35 = .ok (.ifCond .le 15, 3) := by decide +kernel
theorem dX10_scheme_38 : decode cX10_scheme 38 = .ok (.aload_n 0, 1) := by decide +kernel
theorem dX10_scheme_39 : decode cX10_scheme 39 = .ok (.getfield 100, 3) := by decide +kernel
theorem dX10_scheme_42 : decode cX10_scheme 42 = .ok (.iconst 4, 1) := by decide +kernel
theorem dX10_scheme_43 : decode cX10_scheme 43 = .ok (.if_icmp .ge 7, 3) := by decide +kernel
theorem dX10_scheme_46 : decode cX10_scheme 46 = .ok (.iconst 1, 1) := by decide +kernel
theorem dX10_scheme_47 : decode cX10_scheme 47 = .ok (.goto 4, 3) := by decide +kernel
theorem dX10_scheme_50 : decode cX10_scheme 50 = .ok (.iconst 0, 1) := by decide +kernel
theorem dX10_scheme_51 : decode cX10_scheme 51 = .ok (.istore 4, 2) := by decide +kernel
theorem dX10_scheme_53 : decode cX10_scheme 53 = .ok (.iload_n 3, 1) := by decide +kernel
theorem dX10_scheme_54 : decode cX10_scheme 54 = .ok (.istore 5, 2) := by decide +kernel
theorem dX10_scheme_56 : decode cX10_scheme 56 = .ok (.iload 5, 2) := by decide +kernel
theorem dX10_scheme_58 : decode cX10_scheme 58 = .ok (.bipush 8, 2) := by decide +kernel
theorem dX10_scheme_60 : decode cX10_scheme 60 = .ok (.if_icmp .ge 30, 3) := by decide +kernel
theorem dX10_scheme_63 : decode cX10_scheme 63 = .ok (.iload 4, 2) := by decide +kernel
theorem dX10_scheme_65 : decode cX10_scheme 65 = .ok (.ifCond .eq 16, 3) := by decide +kernel
theorem dX10_scheme_68 : decode cX10_scheme 68 = .ok (.lload_n 1, 1) := by decide +kernel
theorem dX10_scheme_69 : decode cX10_scheme 69 = .ok (.iload 5, 2) := by decide +kernel
theorem dX10_scheme_71 : decode cX10_scheme 71 = .ok (.invokestatic 92, 3) := by decide +kernel
theorem dX10_scheme_74 : decode cX10_scheme 74 = .ok (.ifCond .ne 7, 3) := by decide +kernel
theorem dX10_scheme_77 : decode cX10_scheme 77 = .ok (.iconst 1, 1) := by decide +kernel
theorem dX10_scheme_78 : decode cX10_scheme 78 = .ok (.goto 4, 3) := by decide +kernel
theorem dX10_scheme_81 : decode cX10_scheme 81 = .ok (.iconst 0, 1) := by decide +kernel
theorem dX10_scheme_82 : decode cX10_scheme 82 = .ok (.istore 4, 2) := by decide +kernel
theorem dX10_scheme_84 : decode cX10_scheme 84 = .ok (.iinc 5 1, 3) := by decide +kernel
theorem dX10_scheme_87 : decode cX10_scheme 87 = .ok (.goto (-31), 3) := by decide +kernel
theorem dX10_scheme_90 : decode cX10_scheme 90 = .ok (.iload 4, 2) := by decide +kernel
theorem dX10_scheme_92 : decode cX10_scheme 92 = .ok (.ifCond .eq 11, 3) := by decide +kernel
theorem dX10_scheme_95 : decode cX10_scheme 95 = .ok (.aload_n 0, 1) := by decide +kernel
theorem dX10_scheme_96 : decode cX10_scheme 96 = .ok (.lload_n 1, 1) := by decide +kernel
theorem dX10_scheme_97 : decode cX10_scheme 97 = .ok (.invokevirtual 103, 3) := by decide +kernel
theorem dX10_scheme_100 : decode cX10_scheme 100 = .ok (.ifCond .eq 5, 3) := by decide +kernel
theorem dX10_scheme_103 : decode cX10_scheme 103 = .ok (.iconst 0, 1) := by decide +kernel
theorem dX10_scheme_104 : decode cX10_scheme 104 = .ok (.ireturn, 1) := by decide +kernel
theorem dX10_scheme_105 : decode cX10_scheme 105 = .ok (.aload_n 0, 1) := by decide +kernel
theorem dX10_scheme_106 : decode cX10_scheme 106 = .ok (.getfield 23, 3) := by decide +kernel
theorem dX10_scheme_109 : decode cX10_scheme 109 = .ok (.aload_n 0, 1) := by decide +kernel
theorem dX10_scheme_110 : decode cX10_scheme 110 = .ok (.getfield 100, 3) := by decide +kernel
theorem dX10_scheme_113 : decode cX10_scheme 113 = .ok (.lload_n 1, 1) := by decide +kernel
theorem dX10_scheme_114 : decode cX10_scheme 114 = .ok (.lastore, 1) := by decide +kernel
theorem dX10_scheme_115 : decode cX10_scheme 115 = .ok (.aload_n 0, 1) := by decide +kernel
theorem dX10_scheme_116 : decode cX10_scheme 116 = .ok (.dup, 1) := by decide +kernel
theorem dX10_scheme_117 : decode cX10_scheme 117 = .ok (.getfield 100, 3) := by decide +kernel
theorem dX10_scheme_120 : decode cX10_scheme 120 = .ok (.iconst 1, 1) := by decide +kernel
theorem dX10_scheme_121 : decode cX10_scheme 121 = .ok (.iadd, 1) := by decide +kernel
theorem dX10_scheme_122 : decode cX10_scheme 122 = .ok (.putfield 100, 3) := by decide +kernel
theorem dX10_scheme_125 : decode cX10_scheme 125 = .ok (.iconst 1, 1) := by decide +kernel
theorem dX10_scheme_126 : decode cX10_scheme 126 = .ok (.ireturn, 1) := by decide +kernel
theorem dX10_isAllowed_0 : decode cX10_isAllowed 0 = .ok (.iconst 0, 1) := by decide +kernel
theorem dX10_isAllowed_1 : decode cX10_isAllowed 1 = .ok (.istore_n 3, 1) := by decide +kernel
theorem dX10_isAllowed_2 : decode cX10_isAllowed 2 = .ok (.iconst 0, 1) := by decide +kernel
theorem dX10_isAllowed_3 : decode cX10_isAllowed 3 = .ok (.istore 4, 2) := by decide +kernel
theorem dX10_isAllowed_5 : decode cX10_isAllowed 5 = .ok (.iload 4, 2) := by decide +kernel
theorem dX10_isAllowed_7 : decode cX10_isAllowed 7 = .ok (.aload_n 0, 1) := by decide +kernel
theorem dX10_isAllowed_8 : decode cX10_isAllowed 8 = .ok (.getfield 100, 3) := by decide +kernel
theorem dX10_isAllowed_11 : decode cX10_isAllowed 11 = .ok (.if_icmp .ge 31, 3) := by decide +kernel
theorem dX10_isAllowed_14 : decode cX10_isAllowed 14 = .ok (.iload_n 3, 1) := by decide +kernel
theorem dX10_isAllowed_15 : decode cX10_isAllowed 15 = .ok (.ifCond .ne 15, 3) := by decide +kernel
theorem dX10_isAllowed_18 : decode cX10_isAllowed 18 = .ok (.aload_n 0, 1) := by decide +kernel
theorem dX10_isAllowed_19 : decode cX10_isAllowed 19 = .ok (.getfield 23, 3) := by decide +kernel
theorem dX10_isAllowed_22 : decode cX10_isAllowed 22 = .ok (.iload 4, 2) := by decide +kernel
theorem dX10_isAllowed_24 : decode cX10_isAllowed 24 = .ok (.laload, 1) := by decide +kernel
theorem dX10_isAllowed_25 : decode cX10_isAllowed 25 = .ok (.lload_n 1, 1) := by decide +kernel
theorem dX10_isAllowed_26 : decode cX10_isAllowed 26 = .ok (.lcmp, 1) := by decide +kernel
theorem dX10_isAllowed_27 : decode cX10_isAllowed 27 = .ok (.ifCond .ne 7, 3) := by decide +kernel
theorem dX10_isAllowed_30 : decode cX10_isAllowed 30 = .ok (.iconst 1, 1) := by decide +kernel
theorem dX10_isAllowed_31 : decode cX10_isAllowed 31 = .ok (.goto 4, 3) := by decide +kernel
theorem dX10_isAllowed_34 : decode cX10_isAllowed 34 = .ok (.iconst 0, 1) := by decide +kernel
theorem dX10_isAllowed_35 : decode cX10_isAllowed 35 = .ok (.istore_n 3, 1) := by decide +kernel
theorem dX10_isAllowed_36 : decode cX10_isAllowed 36 = .ok (.iinc 4 1, 3) := by decide +kernel
theorem dX10_isAllowed_39 : decode cX10_isAllowed 39 = .ok (.goto (-34), 3) := by decide +kernel
theorem dX10_isAllowed_42 : decode cX10_isAllowed 42 = .ok (.iload_n 3, 1) := by decide +kernel
theorem dX10_isAllowed_43 : decode cX10_isAllowed 43 = .ok (.ireturn, 1) := by decide +kernel
theorem dX10_reset_0 : decode cX10_reset 0 = .ok (.iconst 0, 1) := by decide +kernel
theorem dX10_reset_1 : decode cX10_reset 1 = .ok (.istore_n 1, 1) := by decide +kernel
theorem dX10_reset_2 : decode cX10_reset 2 = .ok (.iload_n 1, 1) := by decide +kernel
theorem dX10_reset_3 : decode cX10_reset 3 = .ok (.bipush 26, 2) := by decide +kernel
theorem dX10_reset_5 : decode cX10_reset 5 = .ok (.if_icmp .ge 26, 3) := by decide +kernel
theorem dX10_reset_8 : decode cX10_reset 8 = .ok (.aload_n 0, 1) := by decide +kernel
theorem dX10_reset_9 : decode cX10_reset 9 = .ok (.getfield 16, 3) := by decide +kernel
theorem dX10_reset_12 : decode cX10_reset 12 = .ok (.iload_n 1, 1) := by decide +kernel
theorem dX10_reset_13 : decode cX10_reset 13 = .ok (.iload_n 1, 1) := by decide +kernel
theorem dX10_reset_14 : decode cX10_reset 14 = .ok (.bipush 18, 2) := by decide +kernel
theorem dX10_reset_16 : decode cX10_reset 16 = .ok (.if_icmp .ne 7, 3) := by decide +kernel
theorem dX10_reset_19 : decode cX10_reset 19 = .ok (.iconst 2, 1) := by decide +kernel
theorem dX10_reset_20 : decode cX10_reset 20 = .ok (.goto 4, 3) := by decide +kernel
theorem dX10_reset_23 : decode cX10_reset 23 = .ok (.iconst 1, 1) := by decide +kernel
theorem dX10_reset_24 : decode cX10_reset 24 = .ok (.iastore, 1) := by decide +kernel
theorem dX10_reset_25 : decode cX10_reset 25 = .ok (.iinc 1 1, 3) := by decide +kernel
theorem dX10_reset_28 : decode cX10_reset 28 = .ok (.goto (-26), 3) := by decide +kernel
theorem dX10_reset_31 : decode cX10_reset 31 = .ok (.iconst 0, 1) := by decide +kernel
theorem dX10_reset_32 : decode cX10_reset 32 = .ok (.istore_n 1, 1) := by decide +kernel
theorem dX10_reset_33 : decode cX10_reset 33 = .ok (.iload_n 1, 1) := by decide +kernel
theorem dX10_reset_34 : decode cX10_reset 34 = .ok (.sipush 702, 3) := by decide +kernel
theorem dX10_reset_37 : decode cX10_reset 37 = .ok (.if_icmp .ge 16, 3) := by decide +kernel
theorem dX10_reset_40 : decode cX10_reset 40 = .ok (.aload_n 0, 1) := by decide +kernel
theorem dX10_reset_41 : decode cX10_reset 41 = .ok (.getfield 19, 3) := by decide +kernel
theorem dX10_reset_44 : decode cX10_reset 44 = .ok (.iload_n 1, 1) := by decide +kernel
theorem dX10_reset_45 : decode cX10_reset 45 = .ok (.iconst 0, 1) := by decide +kernel
theorem dX10_reset_46 : decode cX10_reset 46 = .ok (.bastore, 1) := by decide +kernel
theorem dX10_reset_47 : decode cX10_reset 47 = .ok (.iinc 1 1, 3) := by decide +kernel
theorem dX10_reset_50 : decode cX10_reset 50 = .ok (.goto (-17), 3) := by decide +kernel
theorem dX10_reset_53 : decode cX10_reset 53 = .ok (.aload_n 0, 1) := by decide +kernel
theorem dX10_reset_54 : decode cX10_reset 54 = .ok (.iconst 0, 1) := by decide +kernel
theorem dX10_reset_55 : decode cX10_reset 55 = .ok (.putfield 100, 3) := by decide +kernel
theorem dX10_reset_58 : decode cX10_reset 58 = .ok (.return_, 1) := by decide +kernel
theorem dX10_isLetter_0 : decode cX10_isLetter 0 = .ok (.iload_n 0, 1) := by decide +kernel
theorem dX10_isLetter_1 : decode cX10_isLetter 1 = .ok (.bipush 97, 2) := by decide +kernel
theorem dX10_isLetter_3 : decode cX10_isLetter 3 = .ok (.if_icmp .lt 9, 3) := by decide +kernel
theorem dX10_isLetter_6 : decode cX10_isLetter 6 = .ok (.iload_n 0, 1) := by decide +kernel
theorem dX10_isLetter_7 : decode cX10_isLetter 7 = .ok (.bipush 122, 2) := by decide +kernel
theorem dX10_isLetter_9 : decode cX10_isLetter 9 = .ok (.if_icmp .le 15, 3) := by decide +kernel
theorem dX10_isLetter_12 : decode cX10_isLetter 12 = .ok (.iload_n 0, 1) := by decide +kernel
theorem dX10_isLetter_13 : decode cX10_isLetter 13 = .ok (.bipush 65, 2) := by decide +kernel
theorem dX10_isLetter_15 : decode cX10_isLetter 15 = .ok (.if_icmp .lt 13, 3) := by decide +kernel
theorem dX10_isLetter_18 : decode cX10_isLetter 18 = .ok (.iload_n 0, 1) := by decide +kernel
theorem dX10_isLetter_19 : decode cX10_isLetter 19 = .ok (.bipush 90, 2) := by decide +kernel
theorem dX10_isLetter_21 : decode cX10_isLetter 21 = .ok (.if_icmp .gt 7, 3) := by decide +kernel
theorem dX10_isLetter_24 : decode cX10_isLetter 24 = .ok (.iconst 1, 1) := by decide +kernel
theorem dX10_isLetter_25 : decode cX10_isLetter 25 = .ok (.goto 4, 3) := by decide +kernel
theorem dX10_isLetter_28 : decode cX10_isLetter 28 = .ok (.iconst 0, 1) := by decide +kernel
theorem dX10_isLetter_29 : decode cX10_isLetter 29 = .ok (.ireturn, 1) := by decide +kernel
theorem dX10_isDigit_0 : decode cX10_isDigit 0 = .ok (.iload_n 0, 1) := by decide +kernel
theorem dX10_isDigit_1 : decode cX10_isDigit 1 = .ok (.bipush 48, 2) := by decide +kernel
theorem dX10_isDigit_3 : decode cX10_isDigit 3 = .ok (.if_icmp .lt 13, 3) := by decide +kernel
theorem dX10_isDigit_6 : decode cX10_isDigit 6 = .ok (.iload_n 0, 1) := by decide +kernel
theorem dX10_isDigit_7 : decode cX10_isDigit 7 = .ok (.bipush 57, 2) := by decide +kernel
theorem dX10_isDigit_9 : decode cX10_isDigit 9 = .ok (.if_icmp .gt 7, 3) := by decide +kernel
theorem dX10_isDigit_12 : decode cX10_isDigit 12 = .ok (.iconst 1, 1) := by decide +kernel
theorem dX10_isDigit_13 : decode cX10_isDigit 13 = .ok (.goto 4, 3) := by decide +kernel
theorem dX10_isDigit_16 : decode cX10_isDigit 16 = .ok (.iconst 0, 1) := by decide +kernel
theorem dX10_isDigit_17 : decode cX10_isDigit 17 = .ok (.ireturn, 1) := by decide +kernel
theorem dX10_small_0 : decode cX10_small 0 = .ok (.iload_n 0, 1) := by decide +kernel
theorem dX10_small_1 : decode cX10_small 1 = .ok (.bipush 65, 2) := by decide +kernel
theorem dX10_small_3 : decode cX10_small 3 = .ok (.if_icmp .lt 16, 3) := by decide +kernel
theorem dX10_small_6 : decode cX10_small 6 = .ok (.iload_n 0, 1) := by decide +kernel
theorem dX10_small_7 : decode cX10_small 7 = .ok (.bipush 90, 2) := by decide +kernel
theorem dX10_small_9 : decode cX10_small 9 = .ok (.if_icmp .gt 10, 3) := by decide +kernel
theorem dX10_small_12 : decode cX10_small 12 = .ok (.iload_n 0, 1) := by decide +kernel
theorem dX10_small_13 : decode cX10_small 13 = .ok (.bipush 32, 2) := by decide +kernel
theorem dX10_small_15 : decode cX10_small 15 = .ok (.iadd, 1) := by decide +kernel
theorem dX10_small_16 : decode cX10_small 16 = .ok (.goto 4, 3) := by decide +kernel
theorem dX10_small_19 : decode cX10_small 19 = .ok (.iload_n 0, 1) := by decide +kernel
theorem dX10_small_20 : decode cX10_small 20 = .ok (.ireturn, 1) := by decide +kernel
theorem dX10_at_0 : decode cX10_at 0 = .ok (.iload_n 1, 1) := by decide +kernel
theorem dX10_at_1 : decode cX10_at 1 = .ok (.aload_n 0, 1) := by decide +kernel
theorem dX10_at_2 : decode cX10_at 2 = .ok (.getfield 107, 3) := by decide +kernel
theorem dX10_at_5 : decode cX10_at 5 = .ok (.if_icmp .ge 12, 3) := by decide +kernel
theorem dX10_at_8 : decode cX10_at 8 = .ok (.aload_n 0, 1) := by decide +kernel
theorem dX10_at_9 : decode cX10_at 9 = .ok (.getfield 27, 3) := by decide +kernel
theorem dX10_at_12 : decode cX10_at 12 = .ok (.iload_n 1, 1) := by decide +kernel
theorem dX10_at_13 : decode cX10_at 13 = .ok (.iaload, 1) := by decide +kernel
theorem dX10_at_14 : decode cX10_at 14 = .ok (.goto 4, 3) := by decide +kernel
theorem dX10_at_17 : decode cX10_at 17 = .ok (.iconst 0, 1) := by decide +kernel
theorem dX10_at_18 : decode cX10_at 18 = .ok (.ireturn, 1) := by decide +kernel
theorem dX10_seek_0 : decode cX10_seek 0 = .ok (.iload_n 1, 1) := by decide +kernel
theorem dX10_seek_1 : decode cX10_seek 1 = .ok (.istore_n 3, 1) := by decide +kernel
theorem dX10_seek_2 : decode cX10_seek 2 = .ok (.iload_n 3, 1) := by decide +kernel
theorem dX10_seek_3 : decode cX10_seek 3 = .ok (.aload_n 0, 1) := by decide +kernel
theorem dX10_seek_4 : decode cX10_seek 4 = .ok (.getfield 107, 3) := by decide +kernel
theorem dX10_seek_7 : decode cX10_seek 7 = .ok (.if_icmp .ge 19, 3) := by decide +kernel
theorem dX10_seek_10 : decode cX10_seek 10 = .ok (.aload_n 0, 1) := by decide +kernel
theorem dX10_seek_11 : decode cX10_seek 11 = .ok (.getfield 27, 3) := by decide +kernel
theorem dX10_seek_14 : decode cX10_seek 14 = .ok (.iload_n 3, 1) := by decide +kernel
theorem dX10_seek_15 : decode cX10_seek 15 = .ok (.iaload, 1) := by decide +kernel
theorem dX10_seek_16 : decode cX10_seek 16 = .ok (.iload_n 2, 1) := by decide +kernel
theorem dX10_seek_17 : decode cX10_seek 17 = .ok (.if_icmp .eq 9, 3) := by decide +kernel
theorem dX10_seek_20 : decode cX10_seek 20 = .ok (.iinc 3 1, 3) := by decide +kernel
theorem dX10_seek_23 : decode cX10_seek 23 = .ok (.goto (-21), 3) := by decide +kernel
theorem dX10_seek_26 : decode cX10_seek 26 = .ok (.iload_n 3, 1) := by decide +kernel
theorem dX10_seek_27 : decode cX10_seek 27 = .ok (.ireturn, 1) := by decide +kernel
theorem dX10_reference_0 : decode cX10_reference 0 = .ok (.iconst 0, 1) := by decide +kernel
theorem dX10_reference_1 : decode cX10_reference 1 = .ok (.istore_n 3, 1) := by decide +kernel
theorem dX10_reference_2 : decode cX10_reference 2 = .ok (.aload_n 0, 1) := by decide +kernel
theorem dX10_reference_3 : decode cX10_reference 3 = .ok (.iload_n 1, 1) := by decide +kernel
theorem dX10_reference_4 : decode cX10_reference 4 = .ok (.invokevirtual 110, 3) := by decide +kernel
theorem dX10_reference_7 : decode cX10_reference 7 = .ok (.bipush 38, 2) := by decide +kernel
theorem dX10_reference_9 : decode cX10_reference 9 = .ok (.if_icmp .eq 5, 3) := by decide +kernel
theorem dX10_reference_12 : decode cX10_reference 12 = .ok (.iconst 0, 1) := by decide +kernel
theorem dX10_reference_13 : decode cX10_reference 13 = .ok (.ireturn, 1) := by decide +kernel
theorem dX10_reference_14 : decode cX10_reference 14 = .ok (.aload_n 0, 1) := by decide +kernel
theorem dX10_reference_15 : decode cX10_reference 15 = .ok (.iload_n 1, 1) := by decide +kernel
theorem dX10_reference_16 : decode cX10_reference 16 = .ok (.iconst 2, 1) := by decide +kernel
theorem dX10_reference_17 : decode cX10_reference 17 = .ok (.iadd, 1) := by decide +kernel
theorem dX10_reference_18 : decode cX10_reference 18 = .ok (.invokevirtual 110, 3) := by decide +kernel
theorem dX10_reference_21 : decode cX10_reference 21 = .ok (.bipush 116, 2) := by decide +kernel
theorem dX10_reference_23 : decode cX10_reference 23 = .ok (.if_icmp .ne 67, 3) := by decide +kernel
theorem dX10_reference_26 : decode cX10_reference 26 = .ok (.aload_n 0, 1) := by decide +kernel
theorem dX10_reference_27 : decode cX10_reference 27 = .ok (.iload_n 1, 1) := by decide +kernel
theorem dX10_reference_28 : decode cX10_reference 28 = .ok (.iconst 3, 1) := by decide +kernel
theorem dX10_reference_29 : decode cX10_reference 29 = .ok (.iadd, 1) := by decide +kernel
theorem dX10_reference_30 : decode cX10_reference 30 = .ok (.invokevirtual 110, 3) := by decide +kernel
theorem dX10_reference_33 : decode cX10_reference 33 = .ok (.bipush 59, 2) := by decide +kernel
theorem dX10_reference_35 : decode cX10_reference 35 = .ok (.if_icmp .ne 55, 3) := by decide +kernel
theorem dX10_reference_38 : decode cX10_reference 38 = .ok (.aload_n 0, 1) := by decide +kernel
theorem dX10_reference_39 : decode cX10_reference 39 = .ok (.iload_n 1, 1) := by decide +kernel
theorem dX10_reference_40 : decode cX10_reference 40 = .ok (.iconst 1, 1) := by decide +kernel
theorem dX10_reference_41 : decode cX10_reference 41 = .ok (.iadd, 1) := by decide +kernel
theorem dX10_reference_42 : decode cX10_reference 42 = .ok (.invokevirtual 110, 3) := by decide +kernel
theorem dX10_reference_45 : decode cX10_reference 45 = .ok (.bipush 108, 2) := by decide +kernel
theorem dX10_reference_47 : decode cX10_reference 47 = .ok (.if_icmp .eq 15, 3) := by decide +kernel
theorem dX10_reference_50 : decode cX10_reference 50 = .ok (.aload_n 0, 1) := by decide +kernel
theorem dX10_reference_51 : decode cX10_reference 51 = .ok (.iload_n 1, 1) := by decide +kernel
theorem dX10_reference_52 : decode cX10_reference 52 = .ok (.iconst 1, 1) := by decide +kernel
theorem dX10_reference_53 : decode cX10_reference 53 = .ok (.iadd, 1) := by decide +kernel
theorem dX10_reference_54 : decode cX10_reference 54 = .ok (.invokevirtual 110, 3) := by decide +kernel
theorem dX10_reference_57 : decode cX10_reference 57 = .ok (.bipush 103, 2) := by decide +kernel
theorem dX10_reference_59 : decode cX10_reference 59 = .ok (.if_icmp .ne 31, 3) := by decide +kernel
theorem dX10_reference_62 : decode cX10_reference 62 = .ok (.iconst 4, 1) := by decide +kernel
theorem dX10_reference_63 : decode cX10_reference 63 = .ok (.istore_n 3, 1) := by decide +kernel
theorem dX10_reference_64 : decode cX10_reference 64 = .ok (.aload_n 0, 1) := by decide +kernel
theorem dX10_reference_65 : decode cX10_reference 65 = .ok (.aload_n 0, 1) := by decide +kernel
theorem dX10_reference_66 : decode cX10_reference 66 = .ok (.iload_n 1, 1) := by decide +kernel
theorem dX10_reference_67 : decode cX10_reference 67 = .ok (.iconst 1, 1) := by decide +kernel
theorem dX10_reference_68 : decode cX10_reference 68 = .ok (.iadd, 1) := by decide +kernel
theorem dX10_reference_69 : decode cX10_reference 69 = .ok (.invokevirtual 110, 3) := by decide +kernel
theorem dX10_reference_72 : decode cX10_reference 72 = .ok (.bipush 108, 2) := by decide +kernel
theorem dX10_reference_74 : decode cX10_reference 74 = .ok (.if_icmp .ne 8, 3) := by decide +kernel
theorem dX10_reference_77 : decode cX10_reference 77 = .ok (.bipush 60, 2) := by decide +kernel
theorem dX10_reference_79 : decode cX10_reference 79 = .ok (.goto 5, 3) := by decide +kernel
theorem dX10_reference_82 : decode cX10_reference 82 = .ok (.bipush 62, 2) := by decide +kernel
theorem dX10_reference_84 : decode cX10_reference 84 = .ok (.putfield 114, 3) := by decide +kernel
theorem dX10_reference_87 : decode cX10_reference 87 = .ok (.goto 154, 3) := by decide +kernel
theorem dX10_reference_90 : decode cX10_reference 90 = .ok (.aload_n 0, 1) := by decide +kernel
theorem dX10_reference_91 : decode cX10_reference 91 = .ok (.iload_n 1, 1) := by decide +kernel
theorem dX10_reference_92 : decode cX10_reference 92 = .ok (.iconst 1, 1) := by decide +kernel
theorem dX10_reference_93 : decode cX10_reference 93 = .ok (.iadd, 1) := by decide +kernel
theorem dX10_reference_94 : decode cX10_reference 94 = .ok (.invokevirtual 110, 3) := by decide +kernel
theorem dX10_reference_97 : decode cX10_reference 97 = .ok (.bipush 97, 2) := by decide +kernel
theorem dX10_reference_99 : decode cX10_reference 99 = .ok (.if_icmp .ne 50, 3) := by decide +kernel
theorem dX10_reference_102 : decode cX10_reference 102 = .ok (.aload_n 0, 1) := by decide +kernel
theorem dX10_reference_103 : decode cX10_reference 103 = .ok (.iload_n 1, 1) := by decide +kernel
theorem dX10_reference_104 : decode cX10_reference 104 = .ok (.iconst 2, 1) := by decide +kernel
theorem dX10_reference_105 : decode cX10_reference 105 = .ok (.iadd, 1) := by decide +kernel
theorem dX10_reference_106 : decode cX10_reference 106 = .ok (.invokevirtual 110, 3) := by decide +kernel
theorem dX10_reference_109 : decode cX10_reference 109 = .ok (.bipush 109, 2) := by decide +kernel
theorem dX10_reference_111 : decode cX10_reference 111 = .ok (.if_icmp .ne 38, 3) := by decide +kernel
theorem dX10_reference_114 : decode cX10_reference 114 = .ok (.aload_n 0, 1) := by decide +kernel
theorem dX10_reference_115 : decode cX10_reference 115 = .ok (.iload_n 1, 1) := by decide +kernel
theorem dX10_reference_116 : decode cX10_reference 116 = .ok (.iconst 3, 1) := by decide +kernel
theorem dX10_reference_117 : decode cX10_reference 117 = .ok (.iadd, 1) := by decide +kernel
theorem dX10_reference_118 : decode cX10_reference 118 = .ok (.invokevirtual 110, 3) := by decide +kernel
theorem dX10_reference_121 : decode cX10_reference 121 = .ok (.bipush 112, 2) := by decide +kernel
theorem dX10_reference_123 : decode cX10_reference 123 = .ok (.if_icmp .ne 26, 3) := by decide +kernel
theorem dX10_reference_126 : decode cX10_reference 126 = .ok (.aload_n 0, 1) := by decide +kernel
theorem dX10_reference_127 : decode cX10_reference 127 = .ok (.iload_n 1, 1) := by decide +kernel
theorem dX10_reference_128 : decode cX10_reference 128 = .ok (.iconst 4, 1) := by decide +kernel
theorem dX10_reference_129 : decode cX10_reference 129 = .ok (.iadd, 1) := by decide +kernel
theorem dX10_reference_130 : decode cX10_reference 130 = .ok (.invokevirtual 110, 3) := by decide +kernel
theorem dX10_reference_133 : decode cX10_reference 133 = .ok (.bipush 59, 2) := by decide +kernel
theorem dX10_reference_135 : decode cX10_reference 135 = .ok (.if_icmp .ne 14, 3) := by decide +kernel
theorem dX10_reference_138 : decode cX10_reference 138 = .ok (.iconst 5, 1) := by decide +kernel
theorem dX10_reference_139 : decode cX10_reference 139 = .ok (.istore_n 3, 1) := by decide +kernel
theorem dX10_reference_140 : decode cX10_reference 140 = .ok (.aload_n 0, 1) := by decide +kernel
theorem dX10_reference_141 : decode cX10_reference 141 = .ok (.bipush 38, 2) := by decide +kernel
theorem dX10_reference_143 : decode cX10_reference 143 = .ok (.putfield 114, 3) := by decide +kernel
theorem dX10_reference_146 : decode cX10_reference 146 = .ok (.goto 95, 3) := by decide +kernel
theorem dX10_reference_149 : decode cX10_reference 149 = .ok (.aload_n 0, 1) := by decide +kernel
theorem dX10_reference_150 : decode cX10_reference 150 = .ok (.iload_n 1, 1) := by decide +kernel
theorem dX10_reference_151 : decode cX10_reference 151 = .ok (.iconst 1, 1) := by decide +kernel
theorem dX10_reference_152 : decode cX10_reference 152 = .ok (.iadd, 1) := by decide +kernel
theorem dX10_reference_153 : decode cX10_reference 153 = .ok (.invokevirtual 110, 3) := by decide +kernel
theorem dX10_reference_156 : decode cX10_reference 156 = .ok (.bipush 113, 2) := by decide +kernel
theorem dX10_reference_158 : decode cX10_reference 158 = .ok (.if_icmp .ne 63, 3) := by decide +kernel
theorem dX10_reference_161 : decode cX10_reference 161 = .ok (.aload_n 0, 1) := by decide +kernel
theorem dX10_reference_162 : decode cX10_reference 162 = .ok (.iload_n 1, 1) := by decide +kernel
theorem dX10_reference_163 : decode cX10_reference 163 = .ok (.iconst 2, 1) := by decide +kernel
theorem dX10_reference_164 : decode cX10_reference 164 = .ok (.iadd, 1) := by decide +kernel
theorem dX10_reference_165 : decode cX10_reference 165 = .ok (.invokevirtual 110, 3) := by decide +kernel
theorem dX10_reference_168 : decode cX10_reference 168 = .ok (.bipush 117, 2) := by decide +kernel
theorem dX10_reference_170 : decode cX10_reference 170 = .ok (.if_icmp .ne 51, 3) := by decide +kernel
theorem dX10_reference_173 : decode cX10_reference 173 = .ok (.aload_n 0, 1) := by decide +kernel
theorem dX10_reference_174 : decode cX10_reference 174 = .ok (.iload_n 1, 1) := by decide +kernel
theorem dX10_reference_175 : decode cX10_reference 175 = .ok (.iconst 3, 1) := by decide +kernel
theorem dX10_reference_176 : decode cX10_reference 176 = .ok (.iadd, 1) := by decide +kernel
theorem dX10_reference_177 : decode cX10_reference 177 = .ok (.invokevirtual 110, 3) := by decide +kernel
theorem dX10_reference_180 : decode cX10_reference 180 = .ok (.bipush 111, 2) := by decide +kernel
theorem dX10_reference_182 : decode cX10_reference 182 = .ok (.if_icmp .ne 39, 3) := by decide +kernel
theorem dX10_reference_185 : decode cX10_reference 185 = .ok (.aload_n 0, 1) := by decide +kernel
theorem dX10_reference_186 : decode cX10_reference 186 = .ok (.iload_n 1, 1) := by decide +kernel
theorem dX10_reference_187 : decode cX10_reference 187 = .ok (.iconst 4, 1) := by decide +kernel
theorem dX10_reference_188 : decode cX10_reference 188 = .ok (.iadd, 1) := by decide +kernel
theorem dX10_reference_189 : decode cX10_reference 189 = .ok (.invokevirtual 110, 3) := by decide +kernel
theorem dX10_reference_192 : decode cX10_reference 192 = .ok (.bipush 116, 2) := by decide +kernel
theorem dX10_reference_194 : decode cX10_reference 194 = .ok (.if_icmp .ne 27, 3) := by decide +kernel
theorem dX10_reference_197 : decode cX10_reference 197 = .ok (.aload_n 0, 1) := by decide +kernel
theorem dX10_reference_198 : decode cX10_reference 198 = .ok (.iload_n 1, 1) := by decide +kernel
theorem dX10_reference_199 : decode cX10_reference 199 = .ok (.iconst 5, 1) := by decide +kernel
theorem dX10_reference_200 : decode cX10_reference 200 = .ok (.iadd, 1) := by decide +kernel
theorem dX10_reference_201 : decode cX10_reference 201 = .ok (.invokevirtual 110, 3) := by decide +kernel
theorem dX10_reference_204 : decode cX10_reference 204 = .ok (.bipush 59, 2) := by decide +kernel
theorem dX10_reference_206 : decode cX10_reference 206 = .ok (.if_icmp .ne 15, 3) := by decide +kernel
theorem dX10_reference_209 : decode cX10_reference 209 = .ok (.bipush 6, 2) := by decide +kernel
theorem dX10_reference_211 : decode cX10_reference 211 = .ok (.istore_n 3, 1) := by decide +kernel
theorem dX10_reference_212 : decode cX10_reference 212 = .ok (.aload_n 0, 1) := by decide +kernel
theorem dX10_reference_213 : decode cX10_reference 213 = .ok (.bipush 34, 2) := by decide +kernel
theorem dX10_reference_215 : decode cX10_reference 215 = .ok (.putfield 114, 3) := by decide +kernel
theorem dX10_reference_218 : decode cX10_reference 218 = .ok (.goto 23, 3) := by decide +kernel
theorem dX10_reference_221 : decode cX10_reference 221 = .ok (.aload_n 0, 1) := by decide +kernel
theorem dX10_reference_222 : decode cX10_reference 222 = .ok (.iload_n 1, 1) := by decide +kernel
theorem dX10_reference_223 : decode cX10_reference 223 = .ok (.iconst 1, 1) := by decide +kernel
theorem dX10_reference_224 : decode cX10_reference 224 = .ok (.iadd, 1) := by decide +kernel
theorem dX10_reference_225 : decode cX10_reference 225 = .ok (.invokevirtual 110, 3) := by decide +kernel
theorem dX10_reference_228 : decode cX10_reference 228 = .ok (.bipush 35, 2) := by decide +kernel
theorem dX10_reference_230 : decode cX10_reference 230 = .ok (.if_icmp .ne 11, 3) := by decide +kernel
theorem dX10_reference_233 : decode cX10_reference 233 = .ok (.aload_n 0, 1) := by decide +kernel
theorem dX10_reference_234 : decode cX10_reference 234 = .ok (.iload_n 1, 1) := by decide +kernel
theorem dX10_reference_235 : decode cX10_reference 235 = .ok (.iconst 2, 1) := by decide +kernel
theorem dX10_reference_236 : decode cX10_reference 236 = .ok (.iadd, 1) := by decide +kernel
theorem dX10_reference_237 : decode cX10_reference 237 = .ok (.invokevirtual 117, 3) := by decide +kernel
theorem dX10_reference_240 : decode cX10_reference 240 = .ok (.istore_n 3, 1) := by decide +kernel
theorem dX10_reference_241 : decode cX10_reference 241 = .ok (.iload_n 1, 1) := by decide +kernel
theorem dX10_reference_242 : decode cX10_reference 242 = .ok (.iload_n 3, 1) := by decide +kernel
theorem dX10_reference_243 : decode cX10_reference 243 = .ok (.iadd, 1) := by decide +kernel
theorem dX10_reference_244 : decode cX10_reference 244 = .ok (.iload_n 2, 1) := by decide +kernel
theorem dX10_reference_245 : decode cX10_reference 245 = .ok (.if_icmp .gt 7, 3) := by decide +kernel
theorem dX10_reference_248 : decode cX10_reference 248 = .ok (.iload_n 3, 1) := by decide +kernel
theorem dX10_reference_249 : decode cX10_reference 249 = .ok (.goto 4, 3) := by decide +kernel
theorem dX10_reference_252 : decode cX10_reference 252 = .ok (.iconst 0, 1) := by decide +kernel
theorem dX10_reference_253 : decode cX10_reference 253 = .ok (.ireturn, 1) := by decide +kernel
theorem dX10_number_0 : decode cX10_number 0 = .ok (.iload_n 1, 1) := by decide +kernel
theorem dX10_number_1 : decode cX10_number 1 = .ok (.istore_n 2, 1) := by decide +kernel
theorem dX10_number_2 : decode cX10_number 2 = .ok (.iconst 0, 1) := by decide +kernel
theorem dX10_number_3 : decode cX10_number 3 = .ok (.istore_n 3, 1) := by decide +kernel
theorem dX10_number_4 : decode cX10_number 4 = .ok (.iload_n 2, 1) := by decide +kernel
theorem dX10_number_5 : decode cX10_number 5 = .ok (.iload_n 1, 1) := by decide +kernel
theorem dX10_number_6 : decode cX10_number 6 = .ok (.iconst 3, 1) := by decide +kernel
theorem dX10_number_7 : decode cX10_number 7 = .ok (.iadd, 1) := by decide +kernel
theorem dX10_number_8 : decode cX10_number 8 = .ok (.if_icmp .ge 34, 3) := by decide +kernel
theorem dX10_number_11 : decode cX10_number 11 = .ok (.aload_n 0, 1) := by decide +kernel
theorem dX10_number_12 : decode cX10_number 12 = .ok (.iload_n 2, 1) := by decide +kernel
theorem dX10_number_13 : decode cX10_number 13 = .ok (.invokevirtual 110, 3) := by decide +kernel
theorem dX10_number_16 : decode cX10_number 16 = .ok (.invokestatic 120, 3) := by decide +kernel
theorem dX10_number_19 : decode cX10_number 19 = .ok (.ifCond .eq 23, 3) := by decide +kernel
theorem dX10_number_22 : decode cX10_number 22 = .ok (.bipush 10, 2) := by decide +kernel
theorem dX10_number_24 : decode cX10_number 24 = .ok (.iload_n 3, 1) := by decide +kernel
theorem dX10_number_25 : decode cX10_number 25 = .ok (.imul, 1) := by decide +kernel
theorem dX10_number_26 : decode cX10_number 26 = .ok (.aload_n 0, 1) := by decide +kernel
theorem dX10_number_27 : decode cX10_number 27 = .ok (.iload_n 2, 1) := by decide +kernel
theorem dX10_number_28 : decode cX10_number 28 = .ok (.invokevirtual 110, 3) := by decide +kernel
theorem dX10_number_31 : decode cX10_number 31 = .ok (.iadd, 1) := by decide +kernel
theorem dX10_number_32 : decode cX10_number 32 = .ok (.bipush 48, 2) := by decide +kernel
theorem dX10_number_34 : decode cX10_number 34 = .ok (.isub, 1) := by decide +kernel
theorem dX10_number_35 : decode cX10_number 35 = .ok (.istore_n 3, 1) := by decide +kernel
theorem dX10_number_36 : decode cX10_number 36 = .ok (.iinc 2 1, 3) := by decide +kernel
theorem dX10_number_39 : decode cX10_number 39 = .ok (.goto (-35), 3) := by decide +kernel
theorem dX10_number_42 : decode cX10_number 42 = .ok (.iload_n 2, 1) := by decide +kernel
theorem dX10_number_43 : decode cX10_number 43 = .ok (.iload_n 1, 1) := by decide +kernel
theorem dX10_number_44 : decode cX10_number 44 = .ok (.if_icmp .eq 25, 3) := by decide +kernel
theorem dX10_number_47 : decode cX10_number 47 = .ok (.aload_n 0, 1) := by decide +kernel
theorem dX10_number_48 : decode cX10_number 48 = .ok (.iload_n 2, 1) := by decide +kernel
theorem dX10_number_49 : decode cX10_number 49 = .ok (.invokevirtual 110, 3) := by decide +kernel
theorem dX10_number_52 : decode cX10_number 52 = .ok (.bipush 59, 2) := by decide +kernel
theorem dX10_number_54 : decode cX10_number 54 = .ok (.if_icmp .ne 15, 3) := by decide +kernel
theorem dX10_number_57 : decode cX10_number 57 = .ok (.iload_n 3, 1) := by decide +kernel
theorem dX10_number_58 : decode cX10_number 58 = .ok (.bipush 32, 2) := by decide +kernel
theorem dX10_number_60 : decode cX10_number 60 = .ok (.if_icmp .lt 9, 3) := by decide +kernel
theorem dX10_number_63 : decode cX10_number 63 = .ok (.iload_n 3, 1) := by decide +kernel
theorem dX10_number_64 : decode cX10_number 64 = .ok (.bipush 126, 2) := by decide +kernel
theorem dX10_number_66 : decode cX10_number 66 = .ok (.if_icmp .le 5, 3) := by decide +kernel
theorem dX10_number_69 : decode cX10_number 69 = .ok (.iconst 0, 1) := by decide +kernel
theorem dX10_number_70 : decode cX10_number 70 = .ok (.ireturn, 1) := by decide +kernel
theorem dX10_number_71 : decode cX10_number 71 = .ok (.aload_n 0, 1) := by decide +kernel
theorem dX10_number_72 : decode cX10_number 72 = .ok (.iload_n 3, 1) := by decide +kernel
theorem dX10_number_73 : decode cX10_number 73 = .ok (.putfield 114, 3) := by decide +kernel
theorem dX10_number_76 : decode cX10_number 76 = .ok (.iload_n 2, 1) := by decide +kernel
theorem dX10_number_77 : decode cX10_number 77 = .ok (.iconst 1, 1) := by decide +kernel
theorem dX10_number_78 : decode cX10_number 78 = .ok (.iadd, 1) := by decide +kernel
theorem dX10_number_79 : decode cX10_number 79 = .ok (.iload_n 1, 1) := by decide +kernel
theorem dX10_number_80 : decode cX10_number 80 = .ok (.isub, 1) := by decide +kernel
theorem dX10_number_81 : decode cX10_number 81 = .ok (.iconst 2, 1) := by decide +kernel
theorem dX10_number_82 : decode cX10_number 82 = .ok (.iadd, 1) := by decide +kernel
theorem dX10_number_83 : decode cX10_number 83 = .ok (.ireturn, 1) := by decide +kernel
theorem dX10_keep_0 : decode cX10_keep 0 = .ok (.aload_n 0, 1) := by decide +kernel
theorem dX10_keep_1 : decode cX10_keep 1 = .ok (.getfield 78, 3) := by decide +kernel
theorem dX10_keep_4 : decode cX10_keep 4 = .ok (.sipush 256, 3) := by decide +kernel
theorem dX10_keep_7 : decode cX10_keep 7 = .ok (.aload_n 0, 1) := by decide +kernel
theorem dX10_keep_8 : decode cX10_keep 8 = .ok (.getfield 124, 3) := by decide +kernel
theorem dX10_keep_11 : decode cX10_keep 11 = .ok (.imul, 1) := by decide +kernel
theorem dX10_keep_12 : decode cX10_keep 12 = .ok (.aload_n 0, 1) := by decide +kernel
theorem dX10_keep_13 : decode cX10_keep 13 = .ok (.getfield 75, 3) := by decide +kernel
theorem dX10_keep_16 : decode cX10_keep 16 = .ok (.aload_n 0, 1) := by decide +kernel
theorem dX10_keep_17 : decode cX10_keep 17 = .ok (.getfield 124, 3) := by decide +kernel
theorem dX10_keep_20 : decode cX10_keep 20 = .ok (.iaload, 1) := by decide +kernel
theorem dX10_keep_21 : decode cX10_keep 21 = .ok (.iadd, 1) := by decide +kernel
theorem dX10_keep_22 : decode cX10_keep 22 = .ok (.iload_n 1, 1) := by decide +kernel
theorem dX10_keep_23 : decode cX10_keep 23 = .ok (.iastore, 1) := by decide +kernel
theorem dX10_keep_24 : decode cX10_keep 24 = .ok (.aload_n 0, 1) := by decide +kernel
theorem dX10_keep_25 : decode cX10_keep 25 = .ok (.getfield 75, 3) := by decide +kernel
theorem dX10_keep_28 : decode cX10_keep 28 = .ok (.aload_n 0, 1) := by decide +kernel
theorem dX10_keep_29 : decode cX10_keep 29 = .ok (.getfield 124, 3) := by decide +kernel
theorem dX10_keep_32 : decode cX10_keep 32 = .ok (.dup2, 1) := by decide +kernel
theorem dX10_keep_33 : decode cX10_keep 33 = .ok (.iaload, 1) := by decide +kernel
theorem dX10_keep_34 : decode cX10_keep 34 = .ok (.iconst 1, 1) := by decide +kernel
theorem dX10_keep_35 : decode cX10_keep 35 = .ok (.iadd, 1) := by decide +kernel
theorem dX10_keep_36 : decode cX10_keep 36 = .ok (.iastore, 1) := by decide +kernel
theorem dX10_keep_37 : decode cX10_keep 37 = .ok (.return_, 1) := by decide +kernel
theorem dX10_top_0 : decode cX10_top 0 = .ok (.aload_n 0, 1) := by decide +kernel
theorem dX10_top_1 : decode cX10_top 1 = .ok (.getfield 127, 3) := by decide +kernel
theorem dX10_top_4 : decode cX10_top 4 = .ok (.ifCond .ne 7, 3) := by decide +kernel
theorem dX10_top_7 : decode cX10_top 7 = .ok (.iconst (-1), 1) := by decide +kernel
theorem dX10_top_8 : decode cX10_top 8 = .ok (.goto 14, 3) := by decide +kernel
theorem dX10_top_11 : decode cX10_top 11 = .ok (.aload_n 0, 1) := by decide +kernel
theorem dX10_top_12 : decode cX10_top 12 = .ok (.getfield 81, 3) := by decide +kernel
theorem dX10_top_15 : decode cX10_top 15 = .ok (.aload_n 0, 1) := by decide +kernel
theorem dX10_top_16 : decode cX10_top 16 = .ok (.getfield 127, 3) := by decide +kernel
theorem dX10_top_19 : decode cX10_top 19 = .ok (.iconst 1, 1) := by decide +kernel
theorem dX10_top_20 : decode cX10_top 20 = .ok (.isub, 1) := by decide +kernel
theorem dX10_top_21 : decode cX10_top 21 = .ok (.iaload, 1) := by decide +kernel
theorem dX10_top_22 : decode cX10_top 22 = .ok (.ireturn, 1) := by decide +kernel
theorem dX10_alien_0 : decode cX10_alien 0 = .ok (.aload_n 0, 1) := by decide +kernel
theorem dX10_alien_1 : decode cX10_alien 1 = .ok (.getfield 127, 3) := by decide +kernel
theorem dX10_alien_4 : decode cX10_alien 4 = .ok (.ifCond .le 46, 3) := by decide +kernel
theorem dX10_alien_7 : decode cX10_alien 7 = .ok (.aload_n 0, 1) := by decide +kernel
theorem dX10_alien_8 : decode cX10_alien 8 = .ok (.getfield 48, 3) := by decide +kernel
theorem dX10_alien_11 : decode cX10_alien 11 = .ok (.aload_n 0, 1) := by decide +kernel
theorem dX10_alien_12 : decode cX10_alien 12 = .ok (.getfield 81, 3) := by decide +kernel
theorem dX10_alien_15 : decode cX10_alien 15 = .ok (.aload_n 0, 1) := by decide +kernel
theorem dX10_alien_16 : decode cX10_alien 16 = .ok (.getfield 127, 3) := by decide +kernel
theorem dX10_alien_19 : decode cX10_alien 19 = .ok (.iconst 1, 1) := by decide +kernel
theorem dX10_alien_20 : decode cX10_alien 20 = .ok (.isub, 1) := by decide +kernel
theorem dX10_alien_21 : decode cX10_alien 21 = .ok (.iaload, 1) := by decide +kernel
theorem dX10_alien_22 : decode cX10_alien 22 = .ok (.baload, 1) := by decide +kernel
theorem dX10_alien_23 : decode cX10_alien 23 = .ok (.ifCond .eq 27, 3) := by decide +kernel
theorem dX10_alien_26 : decode cX10_alien 26 = .ok (.aload_n 0, 1) := by decide +kernel
theorem dX10_alien_27 : decode cX10_alien 27 = .ok (.getfield 39, 3) := by decide +kernel
theorem dX10_alien_30 : decode cX10_alien 30 = .ok (.aload_n 0, 1) := by decide +kernel
theorem dX10_alien_31 : decode cX10_alien 31 = .ok (.getfield 81, 3) := by decide +kernel
theorem dX10_alien_34 : decode cX10_alien 34 = .ok (.aload_n 0, 1) := by decide +kernel
theorem dX10_alien_35 : decode cX10_alien 35 = .ok (.getfield 127, 3) := by decide +kernel
theorem dX10_alien_38 : decode cX10_alien 38 = .ok (.iconst 1, 1) := by decide +kernel
theorem dX10_alien_39 : decode cX10_alien 39 = .ok (.isub, 1) := by decide +kernel
theorem dX10_alien_40 : decode cX10_alien 40 = .ok (.iaload, 1) := by decide +kernel
theorem dX10_alien_41 : decode cX10_alien 41 = .ok (.iaload, 1) := by decide +kernel
theorem dX10_alien_42 : decode cX10_alien 42 = .ok (.iconst 5, 1) := by decide +kernel
theorem dX10_alien_43 : decode cX10_alien 43 = .ok (.if_icmp .eq 7, 3) := by decide +kernel
theorem dX10_alien_46 : decode cX10_alien 46 = .ok (.iconst 1, 1) := by decide +kernel
theorem dX10_alien_47 : decode cX10_alien 47 = .ok (.goto 4, 3) := by decide +kernel
theorem dX10_alien_50 : decode cX10_alien 50 = .ok (.iconst 0, 1) := by decide +kernel
theorem dX10_alien_51 : decode cX10_alien 51 = .ok (.ireturn, 1) := by decide +kernel
theorem dX10_add_0 : decode cX10_add 0 = .ok (.sipush 256, 3) := by decide +kernel
theorem dX10_add_3 : decode cX10_add 3 = .ok (.aload_n 0, 1) := by decide +kernel
theorem dX10_add_4 : decode cX10_add 4 = .ok (.getfield 124, 3) := by decide +kernel
theorem dX10_add_7 : decode cX10_add 7 = .ok (.imul, 1) := by decide +kernel
theorem dX10_add_8 : decode cX10_add 8 = .ok (.aload_n 0, 1) := by decide +kernel
theorem dX10_add_9 : decode cX10_add 9 = .ok (.getfield 33, 3) := by decide +kernel
theorem dX10_add_12 : decode cX10_add 12 = .ok (.aload_n 0, 1) := by decide +kernel
theorem dX10_add_13 : decode cX10_add 13 = .ok (.getfield 124, 3) := by decide +kernel
theorem dX10_add_16 : decode cX10_add 16 = .ok (.iaload, 1) := by decide +kernel
theorem dX10_add_17 : decode cX10_add 17 = .ok (.iadd, 1) := by decide +kernel
theorem dX10_add_18 : decode cX10_add 18 = .ok (.istore_n 3, 1) := by decide +kernel
theorem dX10_add_19 : decode cX10_add 19 = .ok (.aload_n 0, 1) := by decide +kernel
theorem dX10_add_20 : decode cX10_add 20 = .ok (.getfield 36, 3) := by decide +kernel
theorem dX10_add_23 : decode cX10_add 23 = .ok (.iload_n 3, 1) := by decide +kernel
theorem dX10_add_24 : decode cX10_add 24 = .ok (.iload_n 1, 1) := by decide +kernel
theorem dX10_add_25 : decode cX10_add 25 = .ok (.iastore, 1) := by decide +kernel
theorem dX10_add_26 : decode cX10_add 26 = .ok (.aload_n 0, 1) := by decide +kernel
theorem dX10_add_27 : decode cX10_add 27 = .ok (.getfield 39, 3) := by decide +kernel
theorem dX10_add_30 : decode cX10_add 30 = .ok (.iload_n 3, 1) := by decide +kernel
theorem dX10_add_31 : decode cX10_add 31 = .ok (.iload_n 2, 1) := by decide +kernel
theorem dX10_add_32 : decode cX10_add 32 = .ok (.iastore, 1) := by decide +kernel
theorem dX10_add_33 : decode cX10_add 33 = .ok (.aload_n 0, 1) := by decide +kernel
theorem dX10_add_34 : decode cX10_add 34 = .ok (.getfield 42, 3) := by decide +kernel
theorem dX10_add_37 : decode cX10_add 37 = .ok (.iload_n 3, 1) := by decide +kernel
theorem dX10_add_38 : decode cX10_add 38 = .ok (.aload_n 0, 1) := by decide +kernel
theorem dX10_add_39 : decode cX10_add 39 = .ok (.invokevirtual 130, 3) := by decide +kernel
theorem dX10_add_42 : decode cX10_add 42 = .ok (.iastore, 1) := by decide +kernel
theorem dX10_add_43 : decode cX10_add 43 = .ok (.aload_n 0, 1) := by decide +kernel
theorem dX10_add_44 : decode cX10_add 44 = .ok (.getfield 45, 3) := by decide +kernel
theorem dX10_add_47 : decode cX10_add 47 = .ok (.iload_n 3, 1) := by decide +kernel
theorem dX10_add_48 : decode cX10_add 48 = .ok (.aload_n 0, 1) := by decide +kernel
theorem dX10_add_49 : decode cX10_add 49 = .ok (.getfield 127, 3) := by decide +kernel
theorem dX10_add_52 : decode cX10_add 52 = .ok (.iastore, 1) := by decide +kernel
theorem dX10_add_53 : decode cX10_add 53 = .ok (.aload_n 0, 1) := by decide +kernel
theorem dX10_add_54 : decode cX10_add 54 = .ok (.getfield 48, 3) := by decide +kernel
theorem dX10_add_57 : decode cX10_add 57 = .ok (.iload_n 3, 1) := by decide +kernel
theorem dX10_add_58 : decode cX10_add 58 = .ok (.iload_n 1, 1) := by decide +kernel
theorem dX10_add_59 : decode cX10_add 59 = .ok (.iconst 3, 1) := by decide +kernel
theorem dX10_add_60 : decode cX10_add 60 = .ok (.if_icmp .ne 20, 3) := by decide +kernel
theorem dX10_add_63 : decode cX10_add 63 = .ok (.iload_n 2, 1) := by decide +kernel
theorem dX10_add_64 : decode cX10_add 64 = .ok (.bipush 21, 2) := by decide +kernel
theorem dX10_add_66 : decode cX10_add 66 = .ok (.if_icmp .eq 10, 3) := by decide +kernel
theorem dX10_add_69 : decode cX10_add 69 = .ok (.aload_n 0, 1) := by decide +kernel
theorem dX10_add_70 : decode cX10_add 70 = .ok (.invokevirtual 134, 3) := by decide +kernel
theorem dX10_add_73 : decode cX10_add 73 = .ok (.ifCond .eq 7, 3) := by decide +kernel
theorem dX10_add_76 : decode cX10_add 76 = .ok (.iconst 1, 1) := by decide +kernel
theorem dX10_add_77 : decode cX10_add 77 = .ok (.goto 4, 3) := by decide +kernel
theorem dX10_add_80 : decode cX10_add 80 = .ok (.iconst 0, 1) := by decide +kernel
theorem dX10_add_81 : decode cX10_add 81 = .ok (.bastore, 1) := by decide +kernel
theorem dX10_add_82 : decode cX10_add 82 = .ok (.aload_n 0, 1) := by decide +kernel
theorem dX10_add_83 : decode cX10_add 83 = .ok (.getfield 51, 3) := by decide +kernel
theorem dX10_add_86 : decode cX10_add 86 = .ok (.iload_n 3, 1) := by decide +kernel
theorem dX10_add_87 : decode cX10_add 87 = .ok (.aload_n 0, 1) := by decide +kernel
theorem dX10_add_88 : decode cX10_add 88 = .ok (.getfield 75, 3) := by decide +kernel
theorem dX10_add_91 : decode cX10_add 91 = .ok (.aload_n 0, 1) := by decide +kernel
theorem dX10_add_92 : decode cX10_add 92 = .ok (.getfield 124, 3) := by decide +kernel
theorem dX10_add_95 : decode cX10_add 95 = .ok (.iaload, 1) := by decide +kernel
theorem dX10_add_96 : decode cX10_add 96 = .ok (.iastore, 1) := by decide +kernel
theorem dX10_add_97 : decode cX10_add 97 = .ok (.aload_n 0, 1) := by decide +kernel
theorem dX10_add_98 : decode cX10_add 98 = .ok (.getfield 54, 3) := by decide +kernel
theorem dX10_add_101 : decode cX10_add 101 = .ok (.iload_n 3, 1) := by decide +kernel
theorem dX10_add_102 : decode cX10_add 102 = .ok (.aload_n 0, 1) := by decide +kernel
theorem dX10_add_103 : decode cX10_add 103 = .ok (.getfield 75, 3) := by decide +kernel
theorem dX10_add_106 : decode cX10_add 106 = .ok (.aload_n 0, 1) := by decide +kernel
theorem dX10_add_107 : decode cX10_add 107 = .ok (.getfield 124, 3) := by decide +kernel
theorem dX10_add_110 : decode cX10_add 110 = .ok (.iaload, 1) := by decide +kernel
theorem dX10_add_111 : decode cX10_add 111 = .ok (.iastore, 1) := by decide +kernel
theorem dX10_add_112 : decode cX10_add 112 = .ok (.aload_n 0, 1) := by decide +kernel
theorem dX10_add_113 : decode cX10_add 113 = .ok (.getfield 33, 3) := by decide +kernel
theorem dX10_add_116 : decode cX10_add 116 = .ok (.aload_n 0, 1) := by decide +kernel
theorem dX10_add_117 : decode cX10_add 117 = .ok (.getfield 124, 3) := by decide +kernel
theorem dX10_add_120 : decode cX10_add 120 = .ok (.dup2, 1) := by decide +kernel
theorem dX10_add_121 : decode cX10_add 121 = .ok (.iaload, 1) := by decide +kernel
theorem dX10_add_122 : decode cX10_add 122 = .ok (.iconst 1, 1) := by decide +kernel
theorem dX10_add_123 : decode cX10_add 123 = .ok (.iadd, 1) := by decide +kernel
theorem dX10_add_124 : decode cX10_add 124 = .ok (.iastore, 1) := by decide +kernel
theorem dX10_add_125 : decode cX10_add 125 = .ok (.iload_n 3, 1) := by decide +kernel
theorem dX10_add_126 : decode cX10_add 126 = .ok (.ireturn, 1) := by decide +kernel
theorem dX10_letterOfText_0 : decode cX10_letterOfText 0 = .ok (.sipush 256, 3) := by decide +kernel
theorem dX10_letterOfText_3 : decode cX10_letterOfText 3 = .ok (.aload_n 0, 1) := by decide +kernel
theorem dX10_letterOfText_4 : decode cX10_letterOfText 4 = .ok (.getfield 124, 3) := by decide +kernel
theorem dX10_letterOfText_7 : decode cX10_letterOfText 7 = .ok (.imul, 1) := by decide +kernel
theorem dX10_letterOfText_8 : decode cX10_letterOfText 8 = .ok (.aload_n 0, 1) := by decide +kernel
theorem dX10_letterOfText_9 : decode cX10_letterOfText 9 = .ok (.getfield 33, 3) := by decide +kernel
theorem dX10_letterOfText_12 : decode cX10_letterOfText 12 = .ok (.aload_n 0, 1) := by decide +kernel
theorem dX10_letterOfText_13 : decode cX10_letterOfText 13 = .ok (.getfield 124, 3) := by decide +kernel
theorem dX10_letterOfText_16 : decode cX10_letterOfText 16 = .ok (.iaload, 1) := by decide +kernel
theorem dX10_letterOfText_17 : decode cX10_letterOfText 17 = .ok (.iadd, 1) := by decide +kernel
theorem dX10_letterOfText_18 : decode cX10_letterOfText 18 = .ok (.iconst 1, 1) := by decide +kernel
theorem dX10_letterOfText_19 : decode cX10_letterOfText 19 = .ok (.isub, 1) := by decide +kernel
theorem dX10_letterOfText_20 : decode cX10_letterOfText 20 = .ok (.istore_n 2, 1) := by decide +kernel
theorem dX10_letterOfText_21 : decode cX10_letterOfText 21 = .ok (.aload_n 0, 1) := by decide +kernel
theorem dX10_letterOfText_22 : decode cX10_letterOfText 22 = .ok (.getfield 33, 3) := by decide +kernel
theorem dX10_letterOfText_25 : decode cX10_letterOfText 25 = .ok (.aload_n 0, 1) := by decide +kernel
theorem dX10_letterOfText_26 : decode cX10_letterOfText 26 = .ok (.getfield 124, 3) := by decide +kernel
theorem dX10_letterOfText_29 : decode cX10_letterOfText 29 = .ok (.iaload, 1) := by decide +kernel
theorem dX10_letterOfText_30 : decode cX10_letterOfText 30 = .ok (.ifCond .le 30, 3) := by decide +kernel
theorem dX10_letterOfText_33 : decode cX10_letterOfText 33 = .ok (.aload_n 0, 1) := by decide +kernel
theorem dX10_letterOfText_34 : decode cX10_letterOfText 34 = .ok (.getfield 36, 3) := by decide +kernel
theorem dX10_letterOfText_37 : decode cX10_letterOfText 37 = .ok (.iload_n 2, 1) := by decide +kernel
theorem dX10_letterOfText_38 : decode cX10_letterOfText 38 = .ok (.iaload, 1) := by decide +kernel
theorem dX10_letterOfText_39 : decode cX10_letterOfText 39 = .ok (.iconst 1, 1) := by decide +kernel
theorem dX10_letterOfText_40 : decode cX10_letterOfText 40 = .ok (.if_icmp .ne 20, 3) := by decide +kernel
theorem dX10_letterOfText_43 : decode cX10_letterOfText 43 = .ok (.aload_n 0, 1) := by decide +kernel
theorem dX10_letterOfText_44 : decode cX10_letterOfText 44 = .ok (.getfield 42, 3) := by decide +kernel
theorem dX10_letterOfText_47 : decode cX10_letterOfText 47 = .ok (.iload_n 2, 1) := by decide +kernel
theorem dX10_letterOfText_48 : decode cX10_letterOfText 48 = .ok (.iaload, 1) := by decide +kernel
theorem dX10_letterOfText_49 : decode cX10_letterOfText 49 = .ok (.aload_n 0, 1) := by decide +kernel
theorem dX10_letterOfText_50 : decode cX10_letterOfText 50 = .ok (.invokevirtual 130, 3) := by decide +kernel
theorem dX10_letterOfText_53 : decode cX10_letterOfText 53 = .ok (.if_icmp .ne 7, 3) := by decide +kernel
theorem dX10_letterOfText_56 : decode cX10_letterOfText 56 = .ok (.iconst 1, 1) := by decide +kernel
theorem dX10_letterOfText_57 : decode cX10_letterOfText 57 = .ok (.goto 4, 3) := by decide +kernel
theorem dX10_letterOfText_60 : decode cX10_letterOfText 60 = .ok (.iconst 0, 1) := by decide +kernel
theorem dX10_letterOfText_61 : decode cX10_letterOfText 61 = .ok (.istore_n 3, 1) := by decide +kernel
theorem dX10_letterOfText_62 : decode cX10_letterOfText 62 = .ok (.iload_n 3, 1) := by decide +kernel
theorem dX10_letterOfText_63 : decode cX10_letterOfText 63 = .ok (.ifCond .eq 7, 3) := by decide +kernel
theorem dX10_letterOfText_66 : decode cX10_letterOfText 66 = .ok (.iload_n 2, 1) := by decide +kernel
theorem dX10_letterOfText_67 : decode cX10_letterOfText 67 = .ok (.goto 9, 3) := by decide +kernel
theorem dX10_letterOfText_70 : decode cX10_letterOfText 70 = .ok (.aload_n 0, 1) := by decide +kernel
theorem dX10_letterOfText_71 : decode cX10_letterOfText 71 = .ok (.iconst 1, 1) := by decide +kernel
theorem dX10_letterOfText_72 : decode cX10_letterOfText 72 = .ok (.iconst 0, 1) := by decide +kernel
theorem dX10_letterOfText_73 : decode cX10_letterOfText 73 = .ok (.invokevirtual 138, 3) := by decide +kernel
theorem dX10_letterOfText_76 : decode cX10_letterOfText 76 = .ok (.istore 4, 2) := by decide +kernel
theorem dX10_letterOfText_78 : decode cX10_letterOfText 78 = .ok (.aload_n 0, 1) := by decide +kernel
theorem dX10_letterOfText_79 : decode cX10_letterOfText 79 = .ok (.iload_n 1, 1) := by decide +kernel
theorem dX10_letterOfText_80 : decode cX10_letterOfText 80 = .ok (.invokevirtual 142, 3) := by decide +kernel
theorem dX10_letterOfText_83 : decode cX10_letterOfText 83 = .ok (.aload_n 0, 1) := by decide +kernel
theorem dX10_letterOfText_84 : decode cX10_letterOfText 84 = .ok (.getfield 54, 3) := by decide +kernel
theorem dX10_letterOfText_87 : decode cX10_letterOfText 87 = .ok (.iload 4, 2) := by decide +kernel
theorem dX10_letterOfText_89 : decode cX10_letterOfText 89 = .ok (.aload_n 0, 1) := by decide +kernel
theorem dX10_letterOfText_90 : decode cX10_letterOfText 90 = .ok (.getfield 75, 3) := by decide +kernel
theorem dX10_letterOfText_93 : decode cX10_letterOfText 93 = .ok (.aload_n 0, 1) := by decide +kernel
theorem dX10_letterOfText_94 : decode cX10_letterOfText 94 = .ok (.getfield 124, 3) := by decide +kernel
theorem dX10_letterOfText_97 : decode cX10_letterOfText 97 = .ok (.iaload, 1) := by decide +kernel
theorem dX10_letterOfText_98 : decode cX10_letterOfText 98 = .ok (.iastore, 1) := by decide +kernel
theorem dX10_letterOfText_99 : decode cX10_letterOfText 99 = .ok (.return_, 1) := by decide +kernel
theorem dX10_comment_0 : decode cX10_comment 0 = .ok (.aload_n 0, 1) := by decide +kernel
theorem dX10_comment_1 : decode cX10_comment 1 = .ok (.iconst 2, 1) := by decide +kernel
theorem dX10_comment_2 : decode cX10_comment 2 = .ok (.iconst 0, 1) := by decide +kernel
theorem dX10_comment_3 : decode cX10_comment 3 = .ok (.invokevirtual 138, 3) := by decide +kernel
theorem dX10_comment_6 : decode cX10_comment 6 = .ok (.istore_n 3, 1) := by decide +kernel
theorem dX10_comment_7 : decode cX10_comment 7 = .ok (.iload_n 1, 1) := by decide +kernel
theorem dX10_comment_8 : decode cX10_comment 8 = .ok (.istore 4, 2) := by decide +kernel
theorem dX10_comment_10 : decode cX10_comment 10 = .ok (.iload 4, 2) := by decide +kernel
theorem dX10_comment_12 : decode cX10_comment 12 = .ok (.iload_n 2, 1) := by decide +kernel
theorem dX10_comment_13 : decode cX10_comment 13 = .ok (.if_icmp .ge 20, 3) := by decide +kernel
theorem dX10_comment_16 : decode cX10_comment 16 = .ok (.aload_n 0, 1) := by decide +kernel
theorem dX10_comment_17 : decode cX10_comment 17 = .ok (.aload_n 0, 1) := by decide +kernel
theorem dX10_comment_18 : decode cX10_comment 18 = .ok (.getfield 27, 3) := by decide +kernel
theorem dX10_comment_21 : decode cX10_comment 21 = .ok (.iload 4, 2) := by decide +kernel
theorem dX10_comment_23 : decode cX10_comment 23 = .ok (.iaload, 1) := by decide +kernel
theorem dX10_comment_24 : decode cX10_comment 24 = .ok (.invokevirtual 142, 3) := by decide +kernel
theorem dX10_comment_27 : decode cX10_comment 27 = .ok (.iinc 4 1, 3) := by decide +kernel
theorem dX10_comment_30 : decode cX10_comment 30 = .ok (.goto (-20), 3) := by decide +kernel
theorem dX10_comment_33 : decode cX10_comment 33 = .ok (.aload_n 0, 1) := by decide +kernel
theorem dX10_comment_34 : decode cX10_comment 34 = .ok (.getfield 54, 3) := by decide +kernel
theorem dX10_comment_37 : decode cX10_comment 37 = .ok (.iload_n 3, 1) := by decide +kernel
theorem dX10_comment_38 : decode cX10_comment 38 = .ok (.aload_n 0, 1) := by decide +kernel
theorem dX10_comment_39 : decode cX10_comment 39 = .ok (.getfield 75, 3) := by decide +kernel
theorem dX10_comment_42 : decode cX10_comment 42 = .ok (.aload_n 0, 1) := by decide +kernel
theorem dX10_comment_43 : decode cX10_comment 43 = .ok (.getfield 124, 3) := by decide +kernel
theorem dX10_comment_46 : decode cX10_comment 46 = .ok (.iaload, 1) := by decide +kernel
theorem dX10_comment_47 : decode cX10_comment 47 = .ok (.iastore, 1) := by decide +kernel
theorem dX10_comment_48 : decode cX10_comment 48 = .ok (.return_, 1) := by decide +kernel
theorem dX10_rawEnd_0 : decode cX10_rawEnd 0 = .ok (.aload_n 0, 1) := by decide +kernel
theorem dX10_rawEnd_1 : decode cX10_rawEnd 1 = .ok (.getfield 146, 3) := by decide +kernel
theorem dX10_rawEnd_4 : decode cX10_rawEnd 4 = .ok (.istore_n 1, 1) := by decide +kernel
theorem dX10_rawEnd_5 : decode cX10_rawEnd 5 = .ok (.iload_n 1, 1) := by decide +kernel
theorem dX10_rawEnd_6 : decode cX10_rawEnd 6 = .ok (.aload_n 0, 1) := by decide +kernel
theorem dX10_rawEnd_7 : decode cX10_rawEnd 7 = .ok (.getfield 107, 3) := by decide +kernel
theorem dX10_rawEnd_10 : decode cX10_rawEnd 10 = .ok (.if_icmp .ge 95, 3) := by decide +kernel
theorem dX10_rawEnd_13 : decode cX10_rawEnd 13 = .ok (.aload_n 0, 1) := by decide +kernel
theorem dX10_rawEnd_14 : decode cX10_rawEnd 14 = .ok (.getfield 27, 3) := by decide +kernel
theorem dX10_rawEnd_17 : decode cX10_rawEnd 17 = .ok (.iload_n 1, 1) := by decide +kernel
theorem dX10_rawEnd_18 : decode cX10_rawEnd 18 = .ok (.iaload, 1) := by decide +kernel
theorem dX10_rawEnd_19 : decode cX10_rawEnd 19 = .ok (.bipush 60, 2) := by decide +kernel
theorem dX10_rawEnd_21 : decode cX10_rawEnd 21 = .ok (.if_icmp .ne 34, 3) := by decide +kernel
theorem dX10_rawEnd_24 : decode cX10_rawEnd 24 = .ok (.aload_n 0, 1) := by decide +kernel
theorem dX10_rawEnd_25 : decode cX10_rawEnd 25 = .ok (.iload_n 1, 1) := by decide +kernel
theorem dX10_rawEnd_26 : decode cX10_rawEnd 26 = .ok (.iconst 1, 1) := by decide +kernel
theorem dX10_rawEnd_27 : decode cX10_rawEnd 27 = .ok (.iadd, 1) := by decide +kernel
theorem dX10_rawEnd_28 : decode cX10_rawEnd 28 = .ok (.invokevirtual 110, 3) := by decide +kernel
theorem dX10_rawEnd_31 : decode cX10_rawEnd 31 = .ok (.bipush 47, 2) := by decide +kernel
theorem dX10_rawEnd_33 : decode cX10_rawEnd 33 = .ok (.if_icmp .ne 22, 3) := by decide +kernel
theorem dX10_rawEnd_36 : decode cX10_rawEnd 36 = .ok (.aload_n 0, 1) := by decide +kernel
theorem dX10_rawEnd_37 : decode cX10_rawEnd 37 = .ok (.iload_n 1, 1) := by decide +kernel
theorem dX10_rawEnd_38 : decode cX10_rawEnd 38 = .ok (.iconst 2, 1) := by decide +kernel
theorem dX10_rawEnd_39 : decode cX10_rawEnd 39 = .ok (.iadd, 1) := by decide +kernel
theorem dX10_rawEnd_40 : decode cX10_rawEnd 40 = .ok (.invokevirtual 110, 3) := by decide +kernel
theorem dX10_rawEnd_43 : decode cX10_rawEnd 43 = .ok (.invokestatic 149, 3) := by decide +kernel
theorem dX10_rawEnd_46 : decode cX10_rawEnd 46 = .ok (.bipush 115, 2) := by decide +kernel
theorem dX10_rawEnd_48 : decode cX10_rawEnd 48 = .ok (.if_icmp .ne 7, 3) := by decide +kernel
theorem dX10_rawEnd_51 : decode cX10_rawEnd 51 = .ok (.iconst 1, 1) := by decide +kernel
theorem dX10_rawEnd_52 : decode cX10_rawEnd 52 = .ok (.goto 4, 3) := by decide +kernel
theorem dX10_rawEnd_55 : decode cX10_rawEnd 55 = .ok (.iconst 0, 1) := by decide +kernel
theorem dX10_rawEnd_56 : decode cX10_rawEnd 56 = .ok (.istore_n 2, 1) := by decide +kernel
theorem dX10_rawEnd_57 : decode cX10_rawEnd 57 = .ok (.aload_n 0, 1) := by decide +kernel
theorem dX10_rawEnd_58 : decode cX10_rawEnd 58 = .ok (.iload_n 1, 1) := by decide +kernel
theorem dX10_rawEnd_59 : decode cX10_rawEnd 59 = .ok (.iconst 3, 1) := by decide +kernel
theorem dX10_rawEnd_60 : decode cX10_rawEnd 60 = .ok (.iadd, 1) := by decide +kernel
theorem dX10_rawEnd_61 : decode cX10_rawEnd 61 = .ok (.invokevirtual 110, 3) := by decide +kernel
theorem dX10_rawEnd_64 : decode cX10_rawEnd 64 = .ok (.istore_n 3, 1) := by decide +kernel
theorem dX10_rawEnd_65 : decode cX10_rawEnd 65 = .ok (.iload_n 2, 1) := by decide +kernel
theorem dX10_rawEnd_66 : decode cX10_rawEnd 66 = .ok (.ifCond .eq 33, 3) := by decide +kernel
theorem dX10_rawEnd_69 : decode cX10_rawEnd 69 = .ok (.iload_n 1, 1) := by decide +kernel
theorem dX10_rawEnd_70 : decode cX10_rawEnd 70 = .ok (.iconst 3, 1) := by decide +kernel
theorem dX10_rawEnd_71 : decode cX10_rawEnd 71 = .ok (.iadd, 1) := by decide +kernel
theorem dX10_rawEnd_72 : decode cX10_rawEnd 72 = .ok (.aload_n 0, 1) := by decide +kernel
theorem dX10_rawEnd_73 : decode cX10_rawEnd 73 = .ok (.getfield 107, 3) := by decide +kernel
theorem dX10_rawEnd_76 : decode cX10_rawEnd 76 = .ok (.if_icmp .ge 21, 3) := by decide +kernel
theorem dX10_rawEnd_79 : decode cX10_rawEnd 79 = .ok (.iload_n 3, 1) := by decide +kernel
theorem dX10_rawEnd_80 : decode cX10_rawEnd 80 = .ok (.bipush 32, 2) := by decide +kernel
theorem dX10_rawEnd_82 : decode cX10_rawEnd 82 = .ok (.if_icmp .eq 15, 3) := by decide +kernel
theorem dX10_rawEnd_85 : decode cX10_rawEnd 85 = .ok (.iload_n 3, 1) := by decide +kernel
theorem dX10_rawEnd_86 : decode cX10_rawEnd 86 = .ok (.bipush 47, 2) := by decide +kernel
theorem dX10_rawEnd_88 : decode cX10_rawEnd 88 = .ok (.if_icmp .eq 9, 3) := by decide +kernel
theorem dX10_rawEnd_91 : decode cX10_rawEnd 91 = .ok (.iload_n 3, 1) := by decide +kernel
theorem dX10_rawEnd_92 : decode cX10_rawEnd 92 = .ok (.bipush 62, 2) := by decide +kernel
theorem dX10_rawEnd_94 : decode cX10_rawEnd 94 = .ok (.if_icmp .ne 5, 3) := by decide +kernel
theorem dX10_rawEnd_97 : decode cX10_rawEnd 97 = .ok (.iload_n 1, 1) := by decide +kernel
theorem dX10_rawEnd_98 : decode cX10_rawEnd 98 = .ok (.ireturn, 1) := by decide +kernel
theorem dX10_rawEnd_99 : decode cX10_rawEnd 99 = .ok (.iinc 1 1, 3) := by decide +kernel
theorem dX10_rawEnd_102 : decode cX10_rawEnd 102 = .ok (.goto (-97), 3) := by decide +kernel
theorem dX10_rawEnd_105 : decode cX10_rawEnd 105 = .ok (.aload_n 0, 1) := by decide +kernel
theorem dX10_rawEnd_106 : decode cX10_rawEnd 106 = .ok (.getfield 107, 3) := by decide +kernel
theorem dX10_rawEnd_109 : decode cX10_rawEnd 109 = .ok (.ireturn, 1) := by decide +kernel
theorem dX10_token_0 : decode cX10_token 0 = .ok (.aload_n 0, 1) := by decide +kernel
theorem dX10_token_1 : decode cX10_token 1 = .ok (.getfield 152, 3) := by decide +kernel
theorem dX10_token_4 : decode cX10_token 4 = .ok (.ifCond .eq 48, 3) := by decide +kernel
theorem dX10_token_7 : decode cX10_token 7 = .ok (.aload_n 0, 1) := by decide +kernel
theorem dX10_token_8 : decode cX10_token 8 = .ok (.iconst 0, 1) := by decide +kernel
theorem dX10_token_9 : decode cX10_token 9 = .ok (.putfield 152, 3) := by decide +kernel
theorem dX10_token_12 : decode cX10_token 12 = .ok (.aload_n 0, 1) := by decide +kernel
theorem dX10_token_13 : decode cX10_token 13 = .ok (.invokevirtual 156, 3) := by decide +kernel
theorem dX10_token_16 : decode cX10_token 16 = .ok (.istore_n 1, 1) := by decide +kernel
theorem dX10_token_17 : decode cX10_token 17 = .ok (.aload_n 0, 1) := by decide +kernel
theorem dX10_token_18 : decode cX10_token 18 = .ok (.getfield 146, 3) := by decide +kernel
theorem dX10_token_21 : decode cX10_token 21 = .ok (.iload_n 1, 1) := by decide +kernel
theorem dX10_token_22 : decode cX10_token 22 = .ok (.if_icmp .ge 29, 3) := by decide +kernel
theorem dX10_token_25 : decode cX10_token 25 = .ok (.aload_n 0, 1) := by decide +kernel
theorem dX10_token_26 : decode cX10_token 26 = .ok (.aload_n 0, 1) := by decide +kernel
theorem dX10_token_27 : decode cX10_token 27 = .ok (.getfield 27, 3) := by decide +kernel
theorem dX10_token_30 : decode cX10_token 30 = .ok (.aload_n 0, 1) := by decide +kernel
theorem dX10_token_31 : decode cX10_token 31 = .ok (.getfield 146, 3) := by decide +kernel
theorem dX10_token_34 : decode cX10_token 34 = .ok (.iaload, 1) := by decide +kernel
theorem dX10_token_35 : decode cX10_token 35 = .ok (.invokevirtual 159, 3) := by decide +kernel
theorem dX10_token_38 : decode cX10_token 38 = .ok (.aload_n 0, 1) := by decide +kernel
theorem dX10_token_39 : decode cX10_token 39 = .ok (.dup, 1) := by decide +kernel
theorem dX10_token_40 : decode cX10_token 40 = .ok (.getfield 146, 3) := by decide +kernel
theorem dX10_token_43 : decode cX10_token 43 = .ok (.iconst 1, 1) := by decide +kernel
theorem dX10_token_44 : decode cX10_token 44 = .ok (.iadd, 1) := by decide +kernel
theorem dX10_token_45 : decode cX10_token 45 = .ok (.putfield 146, 3) := by decide +kernel
theorem dX10_token_48 : decode cX10_token 48 = .ok (.goto (-31), 3) := by decide +kernel
theorem dX10_token_51 : decode cX10_token 51 = .ok (.return_, 1) := by decide +kernel
theorem dX10_token_52 : decode cX10_token 52 = .ok (.aload_n 0, 1) := by decide +kernel
theorem dX10_token_53 : decode cX10_token 53 = .ok (.getfield 27, 3) := by decide +kernel
theorem dX10_token_56 : decode cX10_token 56 = .ok (.aload_n 0, 1) := by decide +kernel
theorem dX10_token_57 : decode cX10_token 57 = .ok (.getfield 146, 3) := by decide +kernel
theorem dX10_token_60 : decode cX10_token 60 = .ok (.iaload, 1) := by decide +kernel
theorem dX10_token_61 : decode cX10_token 61 = .ok (.bipush 60, 2) := by decide +kernel
theorem dX10_token_63 : decode cX10_token 63 = .ok (.if_icmp .ne 7, 3) := by decide +kernel
theorem dX10_token_66 : decode cX10_token 66 = .ok (.iconst 1, 1) := by decide +kernel
theorem dX10_token_67 : decode cX10_token 67 = .ok (.goto 4, 3) := by decide +kernel
theorem dX10_token_70 : decode cX10_token 70 = .ok (.iconst 0, 1) := by decide +kernel
theorem dX10_token_71 : decode cX10_token 71 = .ok (.istore_n 1, 1) := by decide +kernel
theorem dX10_token_72 : decode cX10_token 72 = .ok (.aload_n 0, 1) := by decide +kernel
theorem dX10_token_73 : decode cX10_token 73 = .ok (.aload_n 0, 1) := by decide +kernel
theorem dX10_token_74 : decode cX10_token 74 = .ok (.getfield 146, 3) := by decide +kernel
theorem dX10_token_77 : decode cX10_token 77 = .ok (.iconst 1, 1) := by decide +kernel
theorem dX10_token_78 : decode cX10_token 78 = .ok (.iadd, 1) := by decide +kernel
theorem dX10_token_79 : decode cX10_token 79 = .ok (.invokevirtual 110, 3) := by decide +kernel
theorem dX10_token_82 : decode cX10_token 82 = .ok (.istore_n 2, 1) := by decide +kernel
theorem dX10_token_83 : decode cX10_token 83 = .ok (.iload_n 1, 1) := by decide +kernel
theorem dX10_token_84 : decode cX10_token 84 = .ok (.ifCond .eq 131, 3) := by decide +kernel
theorem dX10_token_87 : decode cX10_token 87 = .ok (.iload_n 2, 1) := by decide +kernel
theorem dX10_token_88 : decode cX10_token 88 = .ok (.bipush 33, 2) := by decide +kernel
theorem dX10_token_90 : decode cX10_token 90 = .ok (.if_icmp .ne 125, 3) := by decide +kernel
theorem dX10_token_93 : decode cX10_token 93 = .ok (.aload_n 0, 1) := by decide +kernel
theorem dX10_token_94 : decode cX10_token 94 = .ok (.aload_n 0, 1) := by decide +kernel
theorem dX10_token_95 : decode cX10_token 95 = .ok (.getfield 146, 3) := by decide +kernel
theorem dX10_token_98 : decode cX10_token 98 = .ok (.iconst 2, 1) := by decide +kernel
theorem dX10_token_99 : decode cX10_token 99 = .ok (.iadd, 1) := by decide +kernel
theorem dX10_token_100 : decode cX10_token 100 = .ok (.invokevirtual 110, 3) := by decide +kernel
theorem dX10_token_103 : decode cX10_token 103 = .ok (.bipush 45, 2) := by decide +kernel
theorem dX10_token_105 : decode cX10_token 105 = .ok (.if_icmp .ne 110, 3) := by decide +kernel
theorem dX10_token_108 : decode cX10_token 108 = .ok (.aload_n 0, 1) := by decide +kernel
theorem dX10_token_109 : decode cX10_token 109 = .ok (.aload_n 0, 1) := by decide +kernel
theorem dX10_token_110 : decode cX10_token 110 = .ok (.getfield 146, 3) := by decide +kernel
theorem dX10_token_113 : decode cX10_token 113 = .ok (.iconst 3, 1) := by decide +kernel
theorem dX10_token_114 : decode cX10_token 114 = .ok (.iadd, 1) := by decide +kernel
theorem dX10_token_115 : decode cX10_token 115 = .ok (.invokevirtual 110, 3) := by decide +kernel
theorem dX10_token_118 : decode cX10_token 118 = .ok (.bipush 45, 2) := by decide +kernel
theorem dX10_token_120 : decode cX10_token 120 = .ok (.if_icmp .ne 95, 3) := by decide +kernel
theorem dX10_token_123 : decode cX10_token 123 = .ok (.aload_n 0, 1) := by decide +kernel
theorem dX10_token_124 : decode cX10_token 124 = .ok (.getfield 146, 3) := by decide +kernel
theorem dX10_token_127 : decode cX10_token 127 = .ok (.iconst 4, 1) := by decide +kernel
theorem dX10_token_128 : decode cX10_token 128 = .ok (.iadd, 1) := by decide +kernel
theorem dX10_token_129 : decode cX10_token 129 = .ok (.istore_n 3, 1) := by decide +kernel
theorem dX10_token_130 : decode cX10_token 130 = .ok (.iload_n 3, 1) := by decide +kernel
theorem dX10_token_131 : decode cX10_token 131 = .ok (.aload_n 0, 1) := by decide +kernel
theorem dX10_token_132 : decode cX10_token 132 = .ok (.getfield 107, 3) := by decide +kernel
theorem dX10_token_135 : decode cX10_token 135 = .ok (.if_icmp .ge 44, 3) := by decide +kernel
theorem dX10_token_138 : decode cX10_token 138 = .ok (.aload_n 0, 1) := by decide +kernel
theorem dX10_token_139 : decode cX10_token 139 = .ok (.getfield 27, 3) := by decide +kernel
theorem dX10_token_142 : decode cX10_token 142 = .ok (.iload_n 3, 1) := by decide +kernel
theorem dX10_token_143 : decode cX10_token 143 = .ok (.iaload, 1) := by decide +kernel
theorem dX10_token_144 : decode cX10_token 144 = .ok (.bipush 45, 2) := by decide +kernel
theorem dX10_token_146 : decode cX10_token 146 = .ok (.if_icmp .ne 27, 3) := by decide +kernel
theorem dX10_token_149 : decode cX10_token 149 = .ok (.aload_n 0, 1) := by decide +kernel
theorem dX10_token_150 : decode cX10_token 150 = .ok (.iload_n 3, 1) := by decide +kernel
theorem dX10_token_151 : decode cX10_token 151 = .ok (.iconst 1, 1) := by decide +kernel
theorem dX10_token_152 : decode cX10_token 152 = .ok (.iadd, 1) := by decide +kernel
theorem dX10_token_153 : decode cX10_token 153 = .ok (.invokevirtual 110, 3) := by decide +kernel
theorem dX10_token_156 : decode cX10_token 156 = .ok (.bipush 45, 2) := by decide +kernel
theorem dX10_token_158 : decode cX10_token 158 = .ok (.if_icmp .ne 15, 3) := by decide +kernel
theorem dX10_token_161 : decode cX10_token 161 = .ok (.aload_n 0, 1) := by decide +kernel
theorem dX10_token_162 : decode cX10_token 162 = .ok (.iload_n 3, 1) := by decide +kernel
theorem dX10_token_163 : decode cX10_token 163 = .ok (.iconst 2, 1) := by decide +kernel
theorem dX10_token_164 : decode cX10_token 164 = .ok (.iadd, 1) := by decide +kernel
theorem dX10_token_165 : decode cX10_token 165 = .ok (.invokevirtual 110, 3) := by decide +kernel
theorem dX10_token_168 : decode cX10_token 168 = .ok (.bipush 62, 2) := by decide +kernel
theorem dX10_token_170 : decode cX10_token 170 = .ok (.if_icmp .eq 9, 3) := by decide +kernel
theorem dX10_token_173 : decode cX10_token 173 = .ok (.iinc 3 1, 3) := by decide +kernel
theorem dX10_token_176 : decode cX10_token 176 = .ok (.goto (-46), 3) := by decide +kernel
theorem dX10_token_179 : decode cX10_token 179 = .ok (.aload_n 0, 1) := by decide +kernel
theorem dX10_token_180 : decode cX10_token 180 = .ok (.aload_n 0, 1) := by decide +kernel
theorem dX10_token_181 : decode cX10_token 181 = .ok (.getfield 146, 3) := by decide +kernel
theorem dX10_token_184 : decode cX10_token 184 = .ok (.iconst 4, 1) := by decide +kernel
theorem dX10_token_185 : decode cX10_token 185 = .ok (.iadd, 1) := by decide +kernel
theorem dX10_token_186 : decode cX10_token 186 = .ok (.iload_n 3, 1) := by decide +kernel
theorem dX10_token_187 : decode cX10_token 187 = .ok (.invokevirtual 162, 3) := by decide +kernel
theorem dX10_token_190 : decode cX10_token 190 = .ok (.aload_n 0, 1) := by decide +kernel
theorem dX10_token_191 : decode cX10_token 191 = .ok (.iload_n 3, 1) := by decide +kernel
theorem dX10_token_192 : decode cX10_token 192 = .ok (.aload_n 0, 1) := by decide +kernel
theorem dX10_token_193 : decode cX10_token 193 = .ok (.getfield 107, 3) := by decide +kernel
theorem dX10_token_196 : decode cX10_token 196 = .ok (.if_icmp .ge 9, 3) := by decide +kernel
theorem dX10_token_199 : decode cX10_token 199 = .ok (.iload_n 3, 1) := by decide +kernel
theorem dX10_token_200 : decode cX10_token 200 = .ok (.iconst 3, 1) := by decide +kernel
theorem dX10_token_201 : decode cX10_token 201 = .ok (.iadd, 1) := by decide +kernel
theorem dX10_token_202 : decode cX10_token 202 = .ok (.goto 7, 3) := by decide +kernel
theorem dX10_token_205 : decode cX10_token 205 = .ok (.aload_n 0, 1) := by decide +kernel
theorem dX10_token_206 : decode cX10_token 206 = .ok (.getfield 107, 3) := by decide +kernel
theorem dX10_token_209 : decode cX10_token 209 = .ok (.putfield 146, 3) := by decide +kernel
theorem dX10_token_212 : decode cX10_token 212 = .ok (.goto 180, 3) := by decide +kernel
theorem dX10_token_215 : decode cX10_token 215 = .ok (.iload_n 1, 1) := by decide +kernel
theorem dX10_token_216 : decode cX10_token 216 = .ok (.ifCond .eq 86, 3) := by decide +kernel
theorem dX10_token_219 : decode cX10_token 219 = .ok (.iload_n 2, 1) := by decide +kernel
theorem dX10_token_220 : decode cX10_token 220 = .ok (.bipush 33, 2) := by decide +kernel
theorem dX10_token_222 : decode cX10_token 222 = .ok (.if_icmp .eq 31, 3) := by decide +kernel
theorem dX10_token_225 : decode cX10_token 225 = .ok (.iload_n 2, 1) := by decide +kernel
theorem dX10_token_226 : decode cX10_token 226 = .ok (.bipush 63, 2) := by decide +kernel
theorem dX10_token_228 : decode cX10_token 228 = .ok (.if_icmp .eq 25, 3) := by decide +kernel
theorem dX10_token_231 : decode cX10_token 231 = .ok (.iload_n 2, 1) := by decide +kernel
theorem dX10_token_232 : decode cX10_token 232 = .ok (.bipush 47, 2) := by decide +kernel
theorem dX10_token_234 : decode cX10_token 234 = .ok (.if_icmp .ne 68, 3) := by decide +kernel
theorem dX10_token_237 : decode cX10_token 237 = .ok (.aload_n 0, 1) := by decide +kernel
theorem dX10_token_238 : decode cX10_token 238 = .ok (.aload_n 0, 1) := by decide +kernel
theorem dX10_token_239 : decode cX10_token 239 = .ok (.getfield 146, 3) := by decide +kernel
theorem dX10_token_242 : decode cX10_token 242 = .ok (.iconst 2, 1) := by decide +kernel
theorem dX10_token_243 : decode cX10_token 243 = .ok (.iadd, 1) := by decide +kernel
theorem dX10_token_244 : decode cX10_token 244 = .ok (.invokevirtual 110, 3) := by decide +kernel
theorem dX10_token_247 : decode cX10_token 247 = .ok (.invokestatic 166, 3) := by decide +kernel
theorem dX10_token_250 : decode cX10_token 250 = .ok (.ifCond .ne 52, 3) := by decide +kernel
theorem dX10_token_253 : decode cX10_token 253 = .ok (.aload_n 0, 1) := by decide +kernel
theorem dX10_token_254 : decode cX10_token 254 = .ok (.aload_n 0, 1) := by decide +kernel
theorem dX10_token_255 : decode cX10_token 255 = .ok (.getfield 146, 3) := by decide +kernel
theorem dX10_token_258 : decode cX10_token 258 = .ok (.iconst 2, 1) := by decide +kernel
theorem dX10_token_259 : decode cX10_token 259 = .ok (.iadd, 1) := by decide +kernel
theorem dX10_token_260 : decode cX10_token 260 = .ok (.bipush 62, 2) := by decide +kernel
theorem dX10_token_262 : decode cX10_token 262 = .ok (.invokevirtual 169, 3) := by decide +kernel
theorem dX10_token_265 : decode cX10_token 265 = .ok (.istore_n 3, 1) := by decide +kernel
theorem dX10_token_266 : decode cX10_token 266 = .ok (.aload_n 0, 1) := by decide +kernel
theorem dX10_token_267 : decode cX10_token 267 = .ok (.aload_n 0, 1) := by decide +kernel
theorem dX10_token_268 : decode cX10_token 268 = .ok (.getfield 146, 3) := by decide +kernel
theorem dX10_token_271 : decode cX10_token 271 = .ok (.iconst 2, 1) := by decide +kernel
theorem dX10_token_272 : decode cX10_token 272 = .ok (.iadd, 1) := by decide +kernel
theorem dX10_token_273 : decode cX10_token 273 = .ok (.iload_n 3, 1) := by decide +kernel
theorem dX10_token_274 : decode cX10_token 274 = .ok (.invokevirtual 162, 3) := by decide +kernel
theorem dX10_token_277 : decode cX10_token 277 = .ok (.aload_n 0, 1) := by decide +kernel
theorem dX10_token_278 : decode cX10_token 278 = .ok (.iload_n 3, 1) := by decide +kernel
theorem dX10_token_279 : decode cX10_token 279 = .ok (.aload_n 0, 1) := by decide +kernel
theorem dX10_token_280 : decode cX10_token 280 = .ok (.getfield 107, 3) := by decide +kernel
theorem dX10_token_283 : decode cX10_token 283 = .ok (.if_icmp .ge 9, 3) := by decide +kernel
theorem dX10_token_286 : decode cX10_token 286 = .ok (.iload_n 3, 1) := by decide +kernel
theorem dX10_token_287 : decode cX10_token 287 = .ok (.iconst 1, 1) := by decide +kernel
theorem dX10_token_288 : decode cX10_token 288 = .ok (.iadd, 1) := by decide +kernel
theorem dX10_token_289 : decode cX10_token 289 = .ok (.goto 7, 3) := by decide +kernel
theorem dX10_token_292 : decode cX10_token 292 = .ok (.aload_n 0, 1) := by decide +kernel
theorem dX10_token_293 : decode cX10_token 293 = .ok (.getfield 107, 3) := by decide +kernel
theorem dX10_token_296 : decode cX10_token 296 = .ok (.putfield 146, 3) := by decide +kernel
theorem dX10_token_299 : decode cX10_token 299 = .ok (.goto 93, 3) := by decide +kernel
theorem dX10_token_302 : decode cX10_token 302 = .ok (.iload_n 1, 1) := by decide +kernel
theorem dX10_token_303 : decode cX10_token 303 = .ok (.ifCond .eq 34, 3) := by decide +kernel
theorem dX10_token_306 : decode cX10_token 306 = .ok (.iload_n 2, 1) := by decide +kernel
theorem dX10_token_307 : decode cX10_token 307 = .ok (.invokestatic 166, 3) := by decide +kernel
theorem dX10_token_310 : decode cX10_token 310 = .ok (.ifCond .ne 9, 3) := by decide +kernel
theorem dX10_token_313 : decode cX10_token 313 = .ok (.iload_n 2, 1) := by decide +kernel
theorem dX10_token_314 : decode cX10_token 314 = .ok (.bipush 47, 2) := by decide +kernel
theorem dX10_token_316 : decode cX10_token 316 = .ok (.if_icmp .ne 21, 3) := by decide +kernel
theorem dX10_token_319 : decode cX10_token 319 = .ok (.aload_n 0, 1) := by decide +kernel
theorem dX10_token_320 : decode cX10_token 320 = .ok (.iload_n 2, 1) := by decide +kernel
theorem dX10_token_321 : decode cX10_token 321 = .ok (.bipush 47, 2) := by decide +kernel
theorem dX10_token_323 : decode cX10_token 323 = .ok (.if_icmp .ne 7, 3) := by decide +kernel
theorem dX10_token_326 : decode cX10_token 326 = .ok (.iconst 1, 1) := by decide +kernel
theorem dX10_token_327 : decode cX10_token 327 = .ok (.goto 4, 3) := by decide +kernel
theorem dX10_token_330 : decode cX10_token 330 = .ok (.iconst 0, 1) := by decide +kernel
theorem dX10_token_331 : decode cX10_token 331 = .ok (.invokevirtual 172, 3) := by decide +kernel
theorem dX10_token_334 : decode cX10_token 334 = .ok (.goto 58, 3) := by decide +kernel
theorem dX10_token_337 : decode cX10_token 337 = .ok (.aload_n 0, 1) := by decide +kernel
theorem dX10_token_338 : decode cX10_token 338 = .ok (.aload_n 0, 1) := by decide +kernel
theorem dX10_token_339 : decode cX10_token 339 = .ok (.getfield 146, 3) := by decide +kernel
theorem dX10_token_342 : decode cX10_token 342 = .ok (.aload_n 0, 1) := by decide +kernel
theorem dX10_token_343 : decode cX10_token 343 = .ok (.getfield 107, 3) := by decide +kernel
theorem dX10_token_346 : decode cX10_token 346 = .ok (.invokevirtual 176, 3) := by decide +kernel
theorem dX10_token_349 : decode cX10_token 349 = .ok (.istore_n 3, 1) := by decide +kernel
theorem dX10_token_350 : decode cX10_token 350 = .ok (.aload_n 0, 1) := by decide +kernel
theorem dX10_token_351 : decode cX10_token 351 = .ok (.iload_n 3, 1) := by decide +kernel
theorem dX10_token_352 : decode cX10_token 352 = .ok (.ifCond .le 10, 3) := by decide +kernel
theorem dX10_token_355 : decode cX10_token 355 = .ok (.aload_n 0, 1) := by decide +kernel
theorem dX10_token_356 : decode cX10_token 356 = .ok (.getfield 114, 3) := by decide +kernel
theorem dX10_token_359 : decode cX10_token 359 = .ok (.goto 12, 3) := by decide +kernel
theorem dX10_token_362 : decode cX10_token 362 = .ok (.aload_n 0, 1) := by decide +kernel
theorem dX10_token_363 : decode cX10_token 363 = .ok (.getfield 27, 3) := by decide +kernel
theorem dX10_token_366 : decode cX10_token 366 = .ok (.aload_n 0, 1) := by decide +kernel
theorem dX10_token_367 : decode cX10_token 367 = .ok (.getfield 146, 3) := by decide +kernel
theorem dX10_token_370 : decode cX10_token 370 = .ok (.iaload, 1) := by decide +kernel
theorem dX10_token_371 : decode cX10_token 371 = .ok (.invokevirtual 159, 3) := by decide +kernel
theorem dX10_token_374 : decode cX10_token 374 = .ok (.aload_n 0, 1) := by decide +kernel
theorem dX10_token_375 : decode cX10_token 375 = .ok (.dup, 1) := by decide +kernel
theorem dX10_token_376 : decode cX10_token 376 = .ok (.getfield 146, 3) := by decide +kernel
theorem dX10_token_379 : decode cX10_token 379 = .ok (.iload_n 3, 1) := by decide +kernel
theorem dX10_token_380 : decode cX10_token 380 = .ok (.ifCond .le 7, 3) := by decide +kernel
theorem dX10_token_383 : decode cX10_token 383 = .ok (.iload_n 3, 1) := by decide +kernel
theorem dX10_token_384 : decode cX10_token 384 = .ok (.goto 4, 3) := by decide +kernel
theorem dX10_token_387 : decode cX10_token 387 = .ok (.iconst 1, 1) := by decide +kernel
theorem dX10_token_388 : decode cX10_token 388 = .ok (.iadd, 1) := by decide +kernel
theorem dX10_token_389 : decode cX10_token 389 = .ok (.putfield 146, 3) := by decide +kernel
theorem dX10_token_392 : decode cX10_token 392 = .ok (.return_, 1) := by decide +kernel
theorem dX10_tag_0 : decode cX10_tag 0 = .ok (.aload_n 0, 1) := by decide +kernel
theorem dX10_tag_1 : decode cX10_tag 1 = .ok (.getfield 75, 3) := by decide +kernel
theorem dX10_tag_4 : decode cX10_tag 4 = .ok (.aload_n 0, 1) := by decide +kernel
theorem dX10_tag_5 : decode cX10_tag 5 = .ok (.getfield 124, 3) := by decide +kernel
theorem dX10_tag_8 : decode cX10_tag 8 = .ok (.iaload, 1) := by decide +kernel
theorem dX10_tag_9 : decode cX10_tag 9 = .ok (.istore_n 2, 1) := by decide +kernel
theorem dX10_tag_10 : decode cX10_tag 10 = .ok (.aload_n 0, 1) := by decide +kernel
theorem dX10_tag_11 : decode cX10_tag 11 = .ok (.getfield 60, 3) := by decide +kernel
theorem dX10_tag_14 : decode cX10_tag 14 = .ok (.aload_n 0, 1) := by decide +kernel
theorem dX10_tag_15 : decode cX10_tag 15 = .ok (.getfield 124, 3) := by decide +kernel
theorem dX10_tag_18 : decode cX10_tag 18 = .ok (.iaload, 1) := by decide +kernel
theorem dX10_tag_19 : decode cX10_tag 19 = .ok (.istore_n 3, 1) := by decide +kernel
theorem dX10_tag_20 : decode cX10_tag 20 = .ok (.aload_n 0, 1) := by decide +kernel
theorem dX10_tag_21 : decode cX10_tag 21 = .ok (.getfield 146, 3) := by decide +kernel
theorem dX10_tag_24 : decode cX10_tag 24 = .ok (.iload_n 1, 1) := by decide +kernel
theorem dX10_tag_25 : decode cX10_tag 25 = .ok (.ifCond .eq 7, 3) := by decide +kernel
theorem dX10_tag_28 : decode cX10_tag 28 = .ok (.iconst 2, 1) := by decide +kernel
theorem dX10_tag_29 : decode cX10_tag 29 = .ok (.goto 4, 3) := by decide +kernel
theorem dX10_tag_32 : decode cX10_tag 32 = .ok (.iconst 1, 1) := by decide +kernel
theorem dX10_tag_33 : decode cX10_tag 33 = .ok (.iadd, 1) := by decide +kernel
theorem dX10_tag_34 : decode cX10_tag 34 = .ok (.istore 4, 2) := by decide +kernel
theorem dX10_tag_36 : decode cX10_tag 36 = .ok (.aload_n 0, 1) := by decide +kernel
theorem dX10_tag_37 : decode cX10_tag 37 = .ok (.aload_n 0, 1) := by decide +kernel
theorem dX10_tag_38 : decode cX10_tag 38 = .ok (.getfield 27, 3) := by decide +kernel
theorem dX10_tag_41 : decode cX10_tag 41 = .ok (.iload 4, 2) := by decide +kernel
theorem dX10_tag_43 : decode cX10_tag 43 = .ok (.iaload, 1) := by decide +kernel
theorem dX10_tag_44 : decode cX10_tag 44 = .ok (.invokestatic 149, 3) := by decide +kernel
theorem dX10_tag_47 : decode cX10_tag 47 = .ok (.bipush 97, 2) := by decide +kernel
theorem dX10_tag_49 : decode cX10_tag 49 = .ok (.isub, 1) := by decide +kernel
theorem dX10_tag_50 : decode cX10_tag 50 = .ok (.putfield 179, 3) := by decide +kernel
theorem dX10_tag_53 : decode cX10_tag 53 = .ok (.iinc 4 1, 3) := by decide +kernel
theorem dX10_tag_56 : decode cX10_tag 56 = .ok (.aload_n 0, 1) := by decide +kernel
theorem dX10_tag_57 : decode cX10_tag 57 = .ok (.iload 4, 2) := by decide +kernel
theorem dX10_tag_59 : decode cX10_tag 59 = .ok (.invokevirtual 110, 3) := by decide +kernel
theorem dX10_tag_62 : decode cX10_tag 62 = .ok (.invokestatic 166, 3) := by decide +kernel
theorem dX10_tag_65 : decode cX10_tag 65 = .ok (.ifCond .eq 15, 3) := by decide +kernel
theorem dX10_tag_68 : decode cX10_tag 68 = .ok (.aload_n 0, 1) := by decide +kernel
theorem dX10_tag_69 : decode cX10_tag 69 = .ok (.bipush 26, 2) := by decide +kernel
theorem dX10_tag_71 : decode cX10_tag 71 = .ok (.putfield 179, 3) := by decide +kernel
theorem dX10_tag_74 : decode cX10_tag 74 = .ok (.iinc 4 1, 3) := by decide +kernel
theorem dX10_tag_77 : decode cX10_tag 77 = .ok (.goto (-21), 3) := by decide +kernel
theorem dX10_tag_80 : decode cX10_tag 80 = .ok (.aload_n 0, 1) := by decide +kernel
theorem dX10_tag_81 : decode cX10_tag 81 = .ok (.iconst 1, 1) := by decide +kernel
theorem dX10_tag_82 : decode cX10_tag 82 = .ok (.putfield 182, 3) := by decide +kernel
theorem dX10_tag_85 : decode cX10_tag 85 = .ok (.aload_n 0, 1) := by decide +kernel
theorem dX10_tag_86 : decode cX10_tag 86 = .ok (.getfield 182, 3) := by decide +kernel
theorem dX10_tag_89 : decode cX10_tag 89 = .ok (.ifCond .eq 80, 3) := by decide +kernel
theorem dX10_tag_92 : decode cX10_tag 92 = .ok (.aload_n 0, 1) := by decide +kernel
theorem dX10_tag_93 : decode cX10_tag 93 = .ok (.iload 4, 2) := by decide +kernel
theorem dX10_tag_95 : decode cX10_tag 95 = .ok (.invokevirtual 110, 3) := by decide +kernel
theorem dX10_tag_98 : decode cX10_tag 98 = .ok (.bipush 62, 2) := by decide +kernel
theorem dX10_tag_100 : decode cX10_tag 100 = .ok (.if_icmp .eq 69, 3) := by decide +kernel
theorem dX10_tag_103 : decode cX10_tag 103 = .ok (.aload_n 0, 1) := by decide +kernel
theorem dX10_tag_104 : decode cX10_tag 104 = .ok (.iload 4, 2) := by decide +kernel
theorem dX10_tag_106 : decode cX10_tag 106 = .ok (.aload_n 0, 1) := by decide +kernel
theorem dX10_tag_107 : decode cX10_tag 107 = .ok (.getfield 107, 3) := by decide +kernel
theorem dX10_tag_110 : decode cX10_tag 110 = .ok (.if_icmp .ge 7, 3) := by decide +kernel
theorem dX10_tag_113 : decode cX10_tag 113 = .ok (.iconst 1, 1) := by decide +kernel
theorem dX10_tag_114 : decode cX10_tag 114 = .ok (.goto 4, 3) := by decide +kernel
theorem dX10_tag_117 : decode cX10_tag 117 = .ok (.iconst 0, 1) := by decide +kernel
theorem dX10_tag_118 : decode cX10_tag 118 = .ok (.putfield 182, 3) := by decide +kernel
theorem dX10_tag_121 : decode cX10_tag 121 = .ok (.aload_n 0, 1) := by decide +kernel
theorem dX10_tag_122 : decode cX10_tag 122 = .ok (.getfield 182, 3) := by decide +kernel
theorem dX10_tag_125 : decode cX10_tag 125 = .ok (.ifCond .eq (-40), 3) := by decide +kernel
theorem dX10_tag_128 : decode cX10_tag 128 = .ok (.aload_n 0, 1) := by decide +kernel
theorem dX10_tag_129 : decode cX10_tag 129 = .ok (.iload 4, 2) := by decide +kernel
theorem dX10_tag_131 : decode cX10_tag 131 = .ok (.invokevirtual 110, 3) := by decide +kernel
theorem dX10_tag_134 : decode cX10_tag 134 = .ok (.bipush 32, 2) := by decide +kernel
theorem dX10_tag_136 : decode cX10_tag 136 = .ok (.if_icmp .eq 14, 3) := by decide +kernel
theorem dX10_tag_139 : decode cX10_tag 139 = .ok (.aload_n 0, 1) := by decide +kernel
theorem dX10_tag_140 : decode cX10_tag 140 = .ok (.iload 4, 2) := by decide +kernel
theorem dX10_tag_142 : decode cX10_tag 142 = .ok (.invokevirtual 110, 3) := by decide +kernel
theorem dX10_tag_145 : decode cX10_tag 145 = .ok (.bipush 47, 2) := by decide +kernel
theorem dX10_tag_147 : decode cX10_tag 147 = .ok (.if_icmp .ne 10, 3) := by decide +kernel
theorem dX10_tag_150 : decode cX10_tag 150 = .ok (.iload 4, 2) := by decide +kernel
theorem dX10_tag_152 : decode cX10_tag 152 = .ok (.iconst 1, 1) := by decide +kernel
theorem dX10_tag_153 : decode cX10_tag 153 = .ok (.iadd, 1) := by decide +kernel
theorem dX10_tag_154 : decode cX10_tag 154 = .ok (.goto 10, 3) := by decide +kernel
theorem dX10_tag_157 : decode cX10_tag 157 = .ok (.aload_n 0, 1) := by decide +kernel
theorem dX10_tag_158 : decode cX10_tag 158 = .ok (.iload 4, 2) := by decide +kernel
theorem dX10_tag_160 : decode cX10_tag 160 = .ok (.iload_n 3, 1) := by decide +kernel
theorem dX10_tag_161 : decode cX10_tag 161 = .ok (.invokevirtual 185, 3) := by decide +kernel
theorem dX10_tag_164 : decode cX10_tag 164 = .ok (.istore 4, 2) := by decide +kernel
theorem dX10_tag_166 : decode cX10_tag 166 = .ok (.goto (-81), 3) := by decide +kernel
theorem dX10_tag_169 : decode cX10_tag 169 = .ok (.aload_n 0, 1) := by decide +kernel
theorem dX10_tag_170 : decode cX10_tag 170 = .ok (.getfield 182, 3) := by decide +kernel
theorem dX10_tag_173 : decode cX10_tag 173 = .ok (.ifCond .ne 32, 3) := by decide +kernel
theorem dX10_tag_176 : decode cX10_tag 176 = .ok (.aload_n 0, 1) := by decide +kernel
theorem dX10_tag_177 : decode cX10_tag 177 = .ok (.getfield 75, 3) := by decide +kernel
theorem dX10_tag_180 : decode cX10_tag 180 = .ok (.aload_n 0, 1) := by decide +kernel
theorem dX10_tag_181 : decode cX10_tag 181 = .ok (.getfield 124, 3) := by decide +kernel
theorem dX10_tag_184 : decode cX10_tag 184 = .ok (.iload_n 2, 1) := by decide +kernel
theorem dX10_tag_185 : decode cX10_tag 185 = .ok (.iastore, 1) := by decide +kernel
theorem dX10_tag_186 : decode cX10_tag 186 = .ok (.aload_n 0, 1) := by decide +kernel
theorem dX10_tag_187 : decode cX10_tag 187 = .ok (.getfield 60, 3) := by decide +kernel
theorem dX10_tag_190 : decode cX10_tag 190 = .ok (.aload_n 0, 1) := by decide +kernel
theorem dX10_tag_191 : decode cX10_tag 191 = .ok (.getfield 124, 3) := by decide +kernel
theorem dX10_tag_194 : decode cX10_tag 194 = .ok (.iload_n 3, 1) := by decide +kernel
theorem dX10_tag_195 : decode cX10_tag 195 = .ok (.iastore, 1) := by decide +kernel
theorem dX10_tag_196 : decode cX10_tag 196 = .ok (.aload_n 0, 1) := by decide +kernel
theorem dX10_tag_197 : decode cX10_tag 197 = .ok (.aload_n 0, 1) := by decide +kernel
theorem dX10_tag_198 : decode cX10_tag 198 = .ok (.getfield 107, 3) := by decide +kernel
theorem dX10_tag_201 : decode cX10_tag 201 = .ok (.putfield 146, 3) := by decide +kernel
theorem dX10_tag_204 : decode cX10_tag 204 = .ok (.return_, 1) := by decide +kernel
theorem dX10_tag_205 : decode cX10_tag 205 = .ok (.aload_n 0, 1) := by decide +kernel
theorem dX10_tag_206 : decode cX10_tag 206 = .ok (.iload 4, 2) := by decide +kernel
theorem dX10_tag_208 : decode cX10_tag 208 = .ok (.iconst 1, 1) := by decide +kernel
theorem dX10_tag_209 : decode cX10_tag 209 = .ok (.iadd, 1) := by decide +kernel
theorem dX10_tag_210 : decode cX10_tag 210 = .ok (.putfield 146, 3) := by decide +kernel
theorem dX10_tag_213 : decode cX10_tag 213 = .ok (.iload_n 1, 1) := by decide +kernel
theorem dX10_tag_214 : decode cX10_tag 214 = .ok (.ifCond .ne 15, 3) := by decide +kernel
theorem dX10_tag_217 : decode cX10_tag 217 = .ok (.aload_n 0, 1) := by decide +kernel
theorem dX10_tag_218 : decode cX10_tag 218 = .ok (.aload_n 0, 1) := by decide +kernel
theorem dX10_tag_219 : decode cX10_tag 219 = .ok (.getfield 179, 3) := by decide +kernel
theorem dX10_tag_222 : decode cX10_tag 222 = .ok (.iload_n 3, 1) := by decide +kernel
theorem dX10_tag_223 : decode cX10_tag 223 = .ok (.invokevirtual 188, 3) := by decide +kernel
theorem dX10_tag_226 : decode cX10_tag 226 = .ok (.ifCond .ne 23, 3) := by decide +kernel
theorem dX10_tag_229 : decode cX10_tag 229 = .ok (.aload_n 0, 1) := by decide +kernel
theorem dX10_tag_230 : decode cX10_tag 230 = .ok (.getfield 75, 3) := by decide +kernel
theorem dX10_tag_233 : decode cX10_tag 233 = .ok (.aload_n 0, 1) := by decide +kernel
theorem dX10_tag_234 : decode cX10_tag 234 = .ok (.getfield 124, 3) := by decide +kernel
theorem dX10_tag_237 : decode cX10_tag 237 = .ok (.iload_n 2, 1) := by decide +kernel
theorem dX10_tag_238 : decode cX10_tag 238 = .ok (.iastore, 1) := by decide +kernel
theorem dX10_tag_239 : decode cX10_tag 239 = .ok (.aload_n 0, 1) := by decide +kernel
theorem dX10_tag_240 : decode cX10_tag 240 = .ok (.getfield 60, 3) := by decide +kernel
theorem dX10_tag_243 : decode cX10_tag 243 = .ok (.aload_n 0, 1) := by decide +kernel
theorem dX10_tag_244 : decode cX10_tag 244 = .ok (.getfield 124, 3) := by decide +kernel
theorem dX10_tag_247 : decode cX10_tag 247 = .ok (.iload_n 3, 1) := by decide +kernel
theorem dX10_tag_248 : decode cX10_tag 248 = .ok (.iastore, 1) := by decide +kernel
theorem dX10_tag_249 : decode cX10_tag 249 = .ok (.iload_n 1, 1) := by decide +kernel
theorem dX10_tag_250 : decode cX10_tag 250 = .ok (.ifCond .eq 12, 3) := by decide +kernel
theorem dX10_tag_253 : decode cX10_tag 253 = .ok (.aload_n 0, 1) := by decide +kernel
theorem dX10_tag_254 : decode cX10_tag 254 = .ok (.aload_n 0, 1) := by decide +kernel
theorem dX10_tag_255 : decode cX10_tag 255 = .ok (.getfield 179, 3) := by decide +kernel
theorem dX10_tag_258 : decode cX10_tag 258 = .ok (.iload_n 3, 1) := by decide +kernel
theorem dX10_tag_259 : decode cX10_tag 259 = .ok (.invokevirtual 192, 3) := by decide +kernel
theorem dX10_tag_262 : decode cX10_tag 262 = .ok (.return_, 1) := by decide +kernel
theorem dX10_takeAttribute_0 : decode cX10_takeAttribute 0 = .ok (.iload_n 1, 1) := by decide +kernel
theorem dX10_takeAttribute_1 : decode cX10_takeAttribute 1 = .ok (.iconst 1, 1) := by decide +kernel
theorem dX10_takeAttribute_2 : decode cX10_takeAttribute 2 = .ok (.iadd, 1) := by decide +kernel
theorem dX10_takeAttribute_3 : decode cX10_takeAttribute 3 = .ok (.istore_n 3, 1) := by decide +kernel
theorem dX10_takeAttribute_4 : decode cX10_takeAttribute 4 = .ok (.iload_n 3, 1) := by decide +kernel
theorem dX10_takeAttribute_5 : decode cX10_takeAttribute 5 = .ok (.aload_n 0, 1) := by decide +kernel
theorem dX10_takeAttribute_6 : decode cX10_takeAttribute 6 = .ok (.getfield 107, 3) := by decide +kernel
theorem dX10_takeAttribute_9 : decode cX10_takeAttribute 9 = .ok (.if_icmp .ge 53, 3) := by decide +kernel
theorem dX10_takeAttribute_12 : decode cX10_takeAttribute 12 = .ok (.aload_n 0, 1) := by decide +kernel
theorem dX10_takeAttribute_13 : decode cX10_takeAttribute 13 = .ok (.getfield 27, 3) := by decide +kernel
theorem dX10_takeAttribute_16 : decode cX10_takeAttribute 16 = .ok (.iload_n 3, 1) := by decide +kernel
theorem dX10_takeAttribute_17 : decode cX10_takeAttribute 17 = .ok (.iaload, 1) := by decide +kernel
theorem dX10_takeAttribute_18 : decode cX10_takeAttribute 18 = .ok (.bipush 32, 2) := by decide +kernel
theorem dX10_takeAttribute_20 : decode cX10_takeAttribute 20 = .ok (.if_icmp .eq 42, 3) := by decide +kernel
theorem dX10_takeAttribute_23 : decode cX10_takeAttribute 23 = .ok (.aload_n 0, 1) := by decide +kernel
theorem dX10_takeAttribute_24 : decode cX10_takeAttribute 24 = .ok (.getfield 27, 3) := by decide +kernel
theorem dX10_takeAttribute_27 : decode cX10_takeAttribute 27 = .ok (.iload_n 3, 1) := by decide +kernel
theorem dX10_takeAttribute_28 : decode cX10_takeAttribute 28 = .ok (.iaload, 1) := by decide +kernel
theorem dX10_takeAttribute_29 : decode cX10_takeAttribute 29 = .ok (.bipush 47, 2) := by decide +kernel
theorem dX10_takeAttribute_31 : decode cX10_takeAttribute 31 = .ok (.if_icmp .eq 31, 3) := by decide +kernel
theorem dX10_takeAttribute_34 : decode cX10_takeAttribute 34 = .ok (.aload_n 0, 1) := by decide +kernel
theorem dX10_takeAttribute_35 : decode cX10_takeAttribute 35 = .ok (.getfield 27, 3) := by decide +kernel
theorem dX10_takeAttribute_38 : decode cX10_takeAttribute 38 = .ok (.iload_n 3, 1) := by decide +kernel
theorem dX10_takeAttribute_39 : decode cX10_takeAttribute 39 = .ok (.iaload, 1) := by decide +kernel
theorem dX10_takeAttribute_40 : decode cX10_takeAttribute 40 = .ok (.bipush 62, 2) := by decide +kernel
theorem dX10_takeAttribute_42 : decode cX10_takeAttribute 42 = .ok (.if_icmp .eq 20, 3) := by decide +kernel
theorem dX10_takeAttribute_45 : decode cX10_takeAttribute 45 = .ok (.aload_n 0, 1) := by decide +kernel
theorem dX10_takeAttribute_46 : decode cX10_takeAttribute 46 = .ok (.getfield 27, 3) := by decide +kernel
theorem dX10_takeAttribute_49 : decode cX10_takeAttribute 49 = .ok (.iload_n 3, 1) := by decide +kernel
theorem dX10_takeAttribute_50 : decode cX10_takeAttribute 50 = .ok (.iaload, 1) := by decide +kernel
theorem dX10_takeAttribute_51 : decode cX10_takeAttribute 51 = .ok (.bipush 61, 2) := by decide +kernel
theorem dX10_takeAttribute_53 : decode cX10_takeAttribute 53 = .ok (.if_icmp .eq 9, 3) := by decide +kernel
theorem dX10_takeAttribute_56 : decode cX10_takeAttribute 56 = .ok (.iinc 3 1, 3) := by decide +kernel
theorem dX10_takeAttribute_59 : decode cX10_takeAttribute 59 = .ok (.goto (-55), 3) := by decide +kernel
theorem dX10_takeAttribute_62 : decode cX10_takeAttribute 62 = .ok (.iload_n 3, 1) := by decide +kernel
theorem dX10_takeAttribute_63 : decode cX10_takeAttribute 63 = .ok (.iload_n 1, 1) := by decide +kernel
theorem dX10_takeAttribute_64 : decode cX10_takeAttribute 64 = .ok (.isub, 1) := by decide +kernel
theorem dX10_takeAttribute_65 : decode cX10_takeAttribute 65 = .ok (.iconst 1, 1) := by decide +kernel
theorem dX10_takeAttribute_66 : decode cX10_takeAttribute 66 = .ok (.if_icmp .ne 30, 3) := by decide +kernel
theorem dX10_takeAttribute_69 : decode cX10_takeAttribute 69 = .ok (.aload_n 0, 1) := by decide +kernel
theorem dX10_takeAttribute_70 : decode cX10_takeAttribute 70 = .ok (.getfield 27, 3) := by decide +kernel
theorem dX10_takeAttribute_73 : decode cX10_takeAttribute 73 = .ok (.iload_n 1, 1) := by decide +kernel
theorem dX10_takeAttribute_74 : decode cX10_takeAttribute 74 = .ok (.iaload, 1) := by decide +kernel
theorem dX10_takeAttribute_75 : decode cX10_takeAttribute 75 = .ok (.invokestatic 166, 3) := by decide +kernel
theorem dX10_takeAttribute_78 : decode cX10_takeAttribute 78 = .ok (.ifCond .eq 18, 3) := by decide +kernel
theorem dX10_takeAttribute_81 : decode cX10_takeAttribute 81 = .ok (.aload_n 0, 1) := by decide +kernel
theorem dX10_takeAttribute_82 : decode cX10_takeAttribute 82 = .ok (.getfield 27, 3) := by decide +kernel
theorem dX10_takeAttribute_85 : decode cX10_takeAttribute 85 = .ok (.iload_n 1, 1) := by decide +kernel
theorem dX10_takeAttribute_86 : decode cX10_takeAttribute 86 = .ok (.iaload, 1) := by decide +kernel
theorem dX10_takeAttribute_87 : decode cX10_takeAttribute 87 = .ok (.invokestatic 149, 3) := by decide +kernel
theorem dX10_takeAttribute_90 : decode cX10_takeAttribute 90 = .ok (.bipush 97, 2) := by decide +kernel
theorem dX10_takeAttribute_92 : decode cX10_takeAttribute 92 = .ok (.isub, 1) := by decide +kernel
theorem dX10_takeAttribute_93 : decode cX10_takeAttribute 93 = .ok (.goto 4, 3) := by decide +kernel
theorem dX10_takeAttribute_96 : decode cX10_takeAttribute 96 = .ok (.iconst (-1), 1) := by decide +kernel
theorem dX10_takeAttribute_97 : decode cX10_takeAttribute 97 = .ok (.istore 4, 2) := by decide +kernel
theorem dX10_takeAttribute_99 : decode cX10_takeAttribute 99 = .ok (.iload_n 3, 1) := by decide +kernel
theorem dX10_takeAttribute_100 : decode cX10_takeAttribute 100 = .ok (.istore 5, 2) := by decide +kernel
theorem dX10_takeAttribute_102 : decode cX10_takeAttribute 102 = .ok (.aload_n 0, 1) := by decide +kernel
theorem dX10_takeAttribute_103 : decode cX10_takeAttribute 103 = .ok (.iload 5, 2) := by decide +kernel
theorem dX10_takeAttribute_105 : decode cX10_takeAttribute 105 = .ok (.invokevirtual 110, 3) := by decide +kernel
theorem dX10_takeAttribute_108 : decode cX10_takeAttribute 108 = .ok (.bipush 32, 2) := by decide +kernel
theorem dX10_takeAttribute_110 : decode cX10_takeAttribute 110 = .ok (.if_icmp .ne 9, 3) := by decide +kernel
theorem dX10_takeAttribute_113 : decode cX10_takeAttribute 113 = .ok (.iinc 5 1, 3) := by decide +kernel
theorem dX10_takeAttribute_116 : decode cX10_takeAttribute 116 = .ok (.goto (-14), 3) := by decide +kernel
theorem dX10_takeAttribute_119 : decode cX10_takeAttribute 119 = .ok (.iconst 0, 1) := by decide +kernel
theorem dX10_takeAttribute_120 : decode cX10_takeAttribute 120 = .ok (.istore 6, 2) := by decide +kernel
theorem dX10_takeAttribute_122 : decode cX10_takeAttribute 122 = .ok (.iconst 0, 1) := by decide +kernel
theorem dX10_takeAttribute_123 : decode cX10_takeAttribute 123 = .ok (.istore 7, 2) := by decide +kernel
theorem dX10_takeAttribute_125 : decode cX10_takeAttribute 125 = .ok (.aload_n 0, 1) := by decide +kernel
theorem dX10_takeAttribute_126 : decode cX10_takeAttribute 126 = .ok (.iload 5, 2) := by decide +kernel
theorem dX10_takeAttribute_128 : decode cX10_takeAttribute 128 = .ok (.invokevirtual 110, 3) := by decide +kernel
theorem dX10_takeAttribute_131 : decode cX10_takeAttribute 131 = .ok (.bipush 61, 2) := by decide +kernel
theorem dX10_takeAttribute_133 : decode cX10_takeAttribute 133 = .ok (.if_icmp .ne 164, 3) := by decide +kernel
theorem dX10_takeAttribute_136 : decode cX10_takeAttribute 136 = .ok (.iinc 5 1, 3) := by decide +kernel
theorem dX10_takeAttribute_139 : decode cX10_takeAttribute 139 = .ok (.aload_n 0, 1) := by decide +kernel
theorem dX10_takeAttribute_140 : decode cX10_takeAttribute 140 = .ok (.iload 5, 2) := by decide +kernel
theorem dX10_takeAttribute_142 : decode cX10_takeAttribute 142 = .ok (.invokevirtual 110, 3) := by decide +kernel
theorem dX10_takeAttribute_145 : decode cX10_takeAttribute 145 = .ok (.bipush 32, 2) := by decide +kernel
theorem dX10_takeAttribute_147 : decode cX10_takeAttribute 147 = .ok (.if_icmp .ne 9, 3) := by decide +kernel
theorem dX10_takeAttribute_150 : decode cX10_takeAttribute 150 = .ok (.iinc 5 1, 3) := by decide +kernel
theorem dX10_takeAttribute_153 : decode cX10_takeAttribute 153 = .ok (.goto (-14), 3) := by decide +kernel
theorem dX10_takeAttribute_156 : decode cX10_takeAttribute 156 = .ok (.aload_n 0, 1) := by decide +kernel
theorem dX10_takeAttribute_157 : decode cX10_takeAttribute 157 = .ok (.iload 5, 2) := by decide +kernel
theorem dX10_takeAttribute_159 : decode cX10_takeAttribute 159 = .ok (.invokevirtual 110, 3) := by decide +kernel
theorem dX10_takeAttribute_162 : decode cX10_takeAttribute 162 = .ok (.istore 8, 2) := by decide +kernel
theorem dX10_takeAttribute_164 : decode cX10_takeAttribute 164 = .ok (.iload 8, 2) := by decide +kernel
theorem dX10_takeAttribute_166 : decode cX10_takeAttribute 166 = .ok (.bipush 34, 2) := by decide +kernel
theorem dX10_takeAttribute_168 : decode cX10_takeAttribute 168 = .ok (.if_icmp .eq 10, 3) := by decide +kernel
theorem dX10_takeAttribute_171 : decode cX10_takeAttribute 171 = .ok (.iload 8, 2) := by decide +kernel
theorem dX10_takeAttribute_173 : decode cX10_takeAttribute 173 = .ok (.bipush 39, 2) := by decide +kernel
theorem dX10_takeAttribute_175 : decode cX10_takeAttribute 175 = .ok (.if_icmp .ne 7, 3) := by decide +kernel
theorem dX10_takeAttribute_178 : decode cX10_takeAttribute 178 = .ok (.iconst 1, 1) := by decide +kernel
theorem dX10_takeAttribute_179 : decode cX10_takeAttribute 179 = .ok (.goto 4, 3) := by decide +kernel
theorem dX10_takeAttribute_182 : decode cX10_takeAttribute 182 = .ok (.iconst 0, 1) := by decide +kernel
theorem dX10_takeAttribute_183 : decode cX10_takeAttribute 183 = .ok (.istore 9, 2) := by decide +kernel
theorem dX10_takeAttribute_185 : decode cX10_takeAttribute 185 = .ok (.iload 9, 2) := by decide +kernel
theorem dX10_takeAttribute_187 : decode cX10_takeAttribute 187 = .ok (.ifCond .eq 10, 3) := by decide +kernel
theorem dX10_takeAttribute_190 : decode cX10_takeAttribute 190 = .ok (.iload 5, 2) := by decide +kernel
theorem dX10_takeAttribute_192 : decode cX10_takeAttribute 192 = .ok (.iconst 1, 1) := by decide +kernel
theorem dX10_takeAttribute_193 : decode cX10_takeAttribute 193 = .ok (.iadd, 1) := by decide +kernel
theorem dX10_takeAttribute_194 : decode cX10_takeAttribute 194 = .ok (.goto 5, 3) := by decide +kernel
theorem dX10_takeAttribute_197 : decode cX10_takeAttribute 197 = .ok (.iload 5, 2) := by decide +kernel
theorem dX10_takeAttribute_199 : decode cX10_takeAttribute 199 = .ok (.istore 6, 2) := by decide +kernel
theorem dX10_takeAttribute_201 : decode cX10_takeAttribute 201 = .ok (.iload 6, 2) := by decide +kernel
theorem dX10_takeAttribute_203 : decode cX10_takeAttribute 203 = .ok (.istore 7, 2) := by decide +kernel
theorem dX10_takeAttribute_205 : decode cX10_takeAttribute 205 = .ok (.iload 7, 2) := by decide +kernel
theorem dX10_takeAttribute_207 : decode cX10_takeAttribute 207 = .ok (.aload_n 0, 1) := by decide +kernel
theorem dX10_takeAttribute_208 : decode cX10_takeAttribute 208 = .ok (.getfield 107, 3) := by decide +kernel
theorem dX10_takeAttribute_211 : decode cX10_takeAttribute 211 = .ok (.if_icmp .ge 53, 3) := by decide +kernel
theorem dX10_takeAttribute_214 : decode cX10_takeAttribute 214 = .ok (.iload 9, 2) := by decide +kernel
theorem dX10_takeAttribute_216 : decode cX10_takeAttribute 216 = .ok (.ifCond .eq 18, 3) := by decide +kernel
theorem dX10_takeAttribute_219 : decode cX10_takeAttribute 219 = .ok (.aload_n 0, 1) := by decide +kernel
theorem dX10_takeAttribute_220 : decode cX10_takeAttribute 220 = .ok (.getfield 27, 3) := by decide +kernel
theorem dX10_takeAttribute_223 : decode cX10_takeAttribute 223 = .ok (.iload 7, 2) := by decide +kernel
theorem dX10_takeAttribute_225 : decode cX10_takeAttribute 225 = .ok (.iaload, 1) := by decide +kernel
theorem dX10_takeAttribute_226 : decode cX10_takeAttribute 226 = .ok (.iload 8, 2) := by decide +kernel
theorem dX10_takeAttribute_228 : decode cX10_takeAttribute 228 = .ok (.if_icmp .eq 36, 3) := by decide +kernel
theorem dX10_takeAttribute_231 : decode cX10_takeAttribute 231 = .ok (.goto 27, 3) := by decide +kernel
theorem dX10_takeAttribute_234 : decode cX10_takeAttribute 234 = .ok (.aload_n 0, 1) := by decide +kernel
theorem dX10_takeAttribute_235 : decode cX10_takeAttribute 235 = .ok (.getfield 27, 3) := by decide +kernel
theorem dX10_takeAttribute_238 : decode cX10_takeAttribute 238 = .ok (.iload 7, 2) := by decide +kernel
theorem dX10_takeAttribute_240 : decode cX10_takeAttribute 240 = .ok (.iaload, 1) := by decide +kernel
theorem dX10_takeAttribute_241 : decode cX10_takeAttribute 241 = .ok (.bipush 32, 2) := by decide +kernel
theorem dX10_takeAttribute_243 : decode cX10_takeAttribute 243 = .ok (.if_icmp .eq 21, 3) := by decide +kernel
theorem dX10_takeAttribute_246 : decode cX10_takeAttribute 246 = .ok (.aload_n 0, 1) := by decide +kernel
theorem dX10_takeAttribute_247 : decode cX10_takeAttribute 247 = .ok (.getfield 27, 3) := by decide +kernel
theorem dX10_takeAttribute_250 : decode cX10_takeAttribute 250 = .ok (.iload 7, 2) := by decide +kernel
theorem dX10_takeAttribute_252 : decode cX10_takeAttribute 252 = .ok (.iaload, 1) := by decide +kernel
theorem dX10_takeAttribute_253 : decode cX10_takeAttribute 253 = .ok (.bipush 62, 2) := by decide +kernel
theorem dX10_takeAttribute_255 : decode cX10_takeAttribute 255 = .ok (.if_icmp .eq 9, 3) := by decide +kernel
theorem dX10_takeAttribute_258 : decode cX10_takeAttribute 258 = .ok (.iinc 7 1, 3) := by decide +kernel
theorem dX10_takeAttribute_261 : decode cX10_takeAttribute 261 = .ok (.goto (-56), 3) := by decide +kernel
theorem dX10_takeAttribute_264 : decode cX10_takeAttribute 264 = .ok (.iload 9, 2) := by decide +kernel
theorem dX10_takeAttribute_266 : decode cX10_takeAttribute 266 = .ok (.ifCond .eq 10, 3) := by decide +kernel
theorem dX10_takeAttribute_269 : decode cX10_takeAttribute 269 = .ok (.iload 7, 2) := by decide +kernel
theorem dX10_takeAttribute_271 : decode cX10_takeAttribute 271 = .ok (.iconst 1, 1) := by decide +kernel
theorem dX10_takeAttribute_272 : decode cX10_takeAttribute 272 = .ok (.iadd, 1) := by decide +kernel
theorem dX10_takeAttribute_273 : decode cX10_takeAttribute 273 = .ok (.goto 5, 3) := by decide +kernel
theorem dX10_takeAttribute_276 : decode cX10_takeAttribute 276 = .ok (.iload 7, 2) := by decide +kernel
theorem dX10_takeAttribute_278 : decode cX10_takeAttribute 278 = .ok (.istore_n 3, 1) := by decide +kernel
theorem dX10_takeAttribute_279 : decode cX10_takeAttribute 279 = .ok (.aload_n 0, 1) := by decide +kernel
theorem dX10_takeAttribute_280 : decode cX10_takeAttribute 280 = .ok (.iload 7, 2) := by decide +kernel
theorem dX10_takeAttribute_282 : decode cX10_takeAttribute 282 = .ok (.aload_n 0, 1) := by decide +kernel
theorem dX10_takeAttribute_283 : decode cX10_takeAttribute 283 = .ok (.getfield 107, 3) := by decide +kernel
theorem dX10_takeAttribute_286 : decode cX10_takeAttribute 286 = .ok (.if_icmp .ge 7, 3) := by decide +kernel
theorem dX10_takeAttribute_289 : decode cX10_takeAttribute 289 = .ok (.iconst 1, 1) := by decide +kernel
theorem dX10_takeAttribute_290 : decode cX10_takeAttribute 290 = .ok (.goto 4, 3) := by decide +kernel
theorem dX10_takeAttribute_293 : decode cX10_takeAttribute 293 = .ok (.iconst 0, 1) := by decide +kernel
theorem dX10_takeAttribute_294 : decode cX10_takeAttribute 294 = .ok (.putfield 182, 3) := by decide +kernel
theorem dX10_takeAttribute_297 : decode cX10_takeAttribute 297 = .ok (.iload_n 2, 1) := by decide +kernel
theorem dX10_takeAttribute_298 : decode cX10_takeAttribute 298 = .ok (.istore 8, 2) := by decide +kernel
theorem dX10_takeAttribute_300 : decode cX10_takeAttribute 300 = .ok (.iload 8, 2) := by decide +kernel
theorem dX10_takeAttribute_302 : decode cX10_takeAttribute 302 = .ok (.aload_n 0, 1) := by decide +kernel
theorem dX10_takeAttribute_303 : decode cX10_takeAttribute 303 = .ok (.getfield 60, 3) := by decide +kernel
theorem dX10_takeAttribute_306 : decode cX10_takeAttribute 306 = .ok (.aload_n 0, 1) := by decide +kernel
theorem dX10_takeAttribute_307 : decode cX10_takeAttribute 307 = .ok (.getfield 124, 3) := by decide +kernel
theorem dX10_takeAttribute_310 : decode cX10_takeAttribute 310 = .ok (.iaload, 1) := by decide +kernel
theorem dX10_takeAttribute_311 : decode cX10_takeAttribute 311 = .ok (.if_icmp .ge 38, 3) := by decide +kernel
theorem dX10_takeAttribute_314 : decode cX10_takeAttribute 314 = .ok (.aload_n 0, 1) := by decide +kernel
theorem dX10_takeAttribute_315 : decode cX10_takeAttribute 315 = .ok (.getfield 66, 3) := by decide +kernel
theorem dX10_takeAttribute_318 : decode cX10_takeAttribute 318 = .ok (.sipush 128, 3) := by decide +kernel
theorem dX10_takeAttribute_321 : decode cX10_takeAttribute 321 = .ok (.aload_n 0, 1) := by decide +kernel
theorem dX10_takeAttribute_322 : decode cX10_takeAttribute 322 = .ok (.getfield 124, 3) := by decide +kernel
theorem dX10_takeAttribute_325 : decode cX10_takeAttribute 325 = .ok (.imul, 1) := by decide +kernel
theorem dX10_takeAttribute_326 : decode cX10_takeAttribute 326 = .ok (.iload 8, 2) := by decide +kernel
theorem dX10_takeAttribute_328 : decode cX10_takeAttribute 328 = .ok (.iadd, 1) := by decide +kernel
theorem dX10_takeAttribute_329 : decode cX10_takeAttribute 329 = .ok (.iaload, 1) := by decide +kernel
theorem dX10_takeAttribute_330 : decode cX10_takeAttribute 330 = .ok (.iload 4, 2) := by decide +kernel
theorem dX10_takeAttribute_332 : decode cX10_takeAttribute 332 = .ok (.if_icmp .ne 7, 3) := by decide +kernel
theorem dX10_takeAttribute_335 : decode cX10_takeAttribute 335 = .ok (.iconst (-1), 1) := by decide +kernel
theorem dX10_takeAttribute_336 : decode cX10_takeAttribute 336 = .ok (.goto 5, 3) := by decide +kernel
theorem dX10_takeAttribute_339 : decode cX10_takeAttribute 339 = .ok (.iload 4, 2) := by decide +kernel
theorem dX10_takeAttribute_341 : decode cX10_takeAttribute 341 = .ok (.istore 4, 2) := by decide +kernel
theorem dX10_takeAttribute_343 : decode cX10_takeAttribute 343 = .ok (.iinc 8 1, 3) := by decide +kernel
theorem dX10_takeAttribute_346 : decode cX10_takeAttribute 346 = .ok (.goto (-46), 3) := by decide +kernel
theorem dX10_takeAttribute_349 : decode cX10_takeAttribute 349 = .ok (.iload 4, 2) := by decide +kernel
theorem dX10_takeAttribute_351 : decode cX10_takeAttribute 351 = .ok (.iconst (-1), 1) := by decide +kernel
theorem dX10_takeAttribute_352 : decode cX10_takeAttribute 352 = .ok (.if_icmp .eq 20, 3) := by decide +kernel
theorem dX10_takeAttribute_355 : decode cX10_takeAttribute 355 = .ok (.aload_n 0, 1) := by decide +kernel
theorem dX10_takeAttribute_356 : decode cX10_takeAttribute 356 = .ok (.getfield 182, 3) := by decide +kernel
theorem dX10_takeAttribute_359 : decode cX10_takeAttribute 359 = .ok (.ifCond .eq 13, 3) := by decide +kernel
theorem dX10_takeAttribute_362 : decode cX10_takeAttribute 362 = .ok (.aload_n 0, 1) := by decide +kernel
theorem dX10_takeAttribute_363 : decode cX10_takeAttribute 363 = .ok (.iload 4, 2) := by decide +kernel
theorem dX10_takeAttribute_365 : decode cX10_takeAttribute 365 = .ok (.iload 6, 2) := by decide +kernel
theorem dX10_takeAttribute_367 : decode cX10_takeAttribute 367 = .ok (.iload 7, 2) := by decide +kernel
theorem dX10_takeAttribute_369 : decode cX10_takeAttribute 369 = .ok (.invokevirtual 195, 3) := by decide +kernel
theorem dX10_takeAttribute_372 : decode cX10_takeAttribute 372 = .ok (.iload_n 3, 1) := by decide +kernel
theorem dX10_takeAttribute_373 : decode cX10_takeAttribute 373 = .ok (.ireturn, 1) := by decide +kernel
theorem dX10_note_0 : decode cX10_note 0 = .ok (.sipush 128, 3) := by decide +kernel
theorem dX10_note_3 : decode cX10_note 3 = .ok (.aload_n 0, 1) := by decide +kernel
theorem dX10_note_4 : decode cX10_note 4 = .ok (.getfield 124, 3) := by decide +kernel
theorem dX10_note_7 : decode cX10_note 7 = .ok (.imul, 1) := by decide +kernel
theorem dX10_note_8 : decode cX10_note 8 = .ok (.aload_n 0, 1) := by decide +kernel
theorem dX10_note_9 : decode cX10_note 9 = .ok (.getfield 60, 3) := by decide +kernel
theorem dX10_note_12 : decode cX10_note 12 = .ok (.aload_n 0, 1) := by decide +kernel
theorem dX10_note_13 : decode cX10_note 13 = .ok (.getfield 124, 3) := by decide +kernel
theorem dX10_note_16 : decode cX10_note 16 = .ok (.iaload, 1) := by decide +kernel
theorem dX10_note_17 : decode cX10_note 17 = .ok (.iadd, 1) := by decide +kernel
theorem dX10_note_18 : decode cX10_note 18 = .ok (.istore 4, 2) := by decide +kernel
theorem dX10_note_20 : decode cX10_note 20 = .ok (.aload_n 0, 1) := by decide +kernel
theorem dX10_note_21 : decode cX10_note 21 = .ok (.getfield 66, 3) := by decide +kernel
theorem dX10_note_24 : decode cX10_note 24 = .ok (.iload 4, 2) := by decide +kernel
theorem dX10_note_26 : decode cX10_note 26 = .ok (.iload_n 1, 1) := by decide +kernel
theorem dX10_note_27 : decode cX10_note 27 = .ok (.iastore, 1) := by decide +kernel
theorem dX10_note_28 : decode cX10_note 28 = .ok (.aload_n 0, 1) := by decide +kernel
theorem dX10_note_29 : decode cX10_note 29 = .ok (.getfield 63, 3) := by decide +kernel
theorem dX10_note_32 : decode cX10_note 32 = .ok (.iload 4, 2) := by decide +kernel
theorem dX10_note_34 : decode cX10_note 34 = .ok (.iconst (-1), 1) := by decide +kernel
theorem dX10_note_35 : decode cX10_note 35 = .ok (.iastore, 1) := by decide +kernel
theorem dX10_note_36 : decode cX10_note 36 = .ok (.aload_n 0, 1) := by decide +kernel
theorem dX10_note_37 : decode cX10_note 37 = .ok (.getfield 69, 3) := by decide +kernel
theorem dX10_note_40 : decode cX10_note 40 = .ok (.iload 4, 2) := by decide +kernel
theorem dX10_note_42 : decode cX10_note 42 = .ok (.aload_n 0, 1) := by decide +kernel
theorem dX10_note_43 : decode cX10_note 43 = .ok (.getfield 75, 3) := by decide +kernel
theorem dX10_note_46 : decode cX10_note 46 = .ok (.aload_n 0, 1) := by decide +kernel
theorem dX10_note_47 : decode cX10_note 47 = .ok (.getfield 124, 3) := by decide +kernel
theorem dX10_note_50 : decode cX10_note 50 = .ok (.iaload, 1) := by decide +kernel
theorem dX10_note_51 : decode cX10_note 51 = .ok (.iastore, 1) := by decide +kernel
theorem dX10_note_52 : decode cX10_note 52 = .ok (.iload_n 2, 1) := by decide +kernel
theorem dX10_note_53 : decode cX10_note 53 = .ok (.istore 5, 2) := by decide +kernel
theorem dX10_note_55 : decode cX10_note 55 = .ok (.iload 5, 2) := by decide +kernel
theorem dX10_note_57 : decode cX10_note 57 = .ok (.iload_n 3, 1) := by decide +kernel
theorem dX10_note_58 : decode cX10_note 58 = .ok (.if_icmp .ge 54, 3) := by decide +kernel
theorem dX10_note_61 : decode cX10_note 61 = .ok (.aload_n 0, 1) := by decide +kernel
theorem dX10_note_62 : decode cX10_note 62 = .ok (.iload 5, 2) := by decide +kernel
theorem dX10_note_64 : decode cX10_note 64 = .ok (.iload_n 3, 1) := by decide +kernel
theorem dX10_note_65 : decode cX10_note 65 = .ok (.invokevirtual 176, 3) := by decide +kernel
theorem dX10_note_68 : decode cX10_note 68 = .ok (.istore 6, 2) := by decide +kernel
theorem dX10_note_70 : decode cX10_note 70 = .ok (.aload_n 0, 1) := by decide +kernel
theorem dX10_note_71 : decode cX10_note 71 = .ok (.iload 6, 2) := by decide +kernel
theorem dX10_note_73 : decode cX10_note 73 = .ok (.ifCond .le 10, 3) := by decide +kernel
theorem dX10_note_76 : decode cX10_note 76 = .ok (.aload_n 0, 1) := by decide +kernel
theorem dX10_note_77 : decode cX10_note 77 = .ok (.getfield 114, 3) := by decide +kernel
theorem dX10_note_80 : decode cX10_note 80 = .ok (.goto 10, 3) := by decide +kernel
theorem dX10_note_83 : decode cX10_note 83 = .ok (.aload_n 0, 1) := by decide +kernel
theorem dX10_note_84 : decode cX10_note 84 = .ok (.getfield 27, 3) := by decide +kernel
theorem dX10_note_87 : decode cX10_note 87 = .ok (.iload 5, 2) := by decide +kernel
theorem dX10_note_89 : decode cX10_note 89 = .ok (.iaload, 1) := by decide +kernel
theorem dX10_note_90 : decode cX10_note 90 = .ok (.invokevirtual 142, 3) := by decide +kernel
theorem dX10_note_93 : decode cX10_note 93 = .ok (.iload 5, 2) := by decide +kernel
theorem dX10_note_95 : decode cX10_note 95 = .ok (.iload 6, 2) := by decide +kernel
theorem dX10_note_97 : decode cX10_note 97 = .ok (.ifCond .le 8, 3) := by decide +kernel
theorem dX10_note_100 : decode cX10_note 100 = .ok (.iload 6, 2) := by decide +kernel
theorem dX10_note_102 : decode cX10_note 102 = .ok (.goto 4, 3) := by decide +kernel
theorem dX10_note_105 : decode cX10_note 105 = .ok (.iconst 1, 1) := by decide +kernel
theorem dX10_note_106 : decode cX10_note 106 = .ok (.iadd, 1) := by decide +kernel
theorem dX10_note_107 : decode cX10_note 107 = .ok (.istore 5, 2) := by decide +kernel
theorem dX10_note_109 : decode cX10_note 109 = .ok (.goto (-54), 3) := by decide +kernel
theorem dX10_note_112 : decode cX10_note 112 = .ok (.aload_n 0, 1) := by decide +kernel
theorem dX10_note_113 : decode cX10_note 113 = .ok (.getfield 72, 3) := by decide +kernel
theorem dX10_note_116 : decode cX10_note 116 = .ok (.iload 4, 2) := by decide +kernel
theorem dX10_note_118 : decode cX10_note 118 = .ok (.aload_n 0, 1) := by decide +kernel
theorem dX10_note_119 : decode cX10_note 119 = .ok (.getfield 75, 3) := by decide +kernel
theorem dX10_note_122 : decode cX10_note 122 = .ok (.aload_n 0, 1) := by decide +kernel
theorem dX10_note_123 : decode cX10_note 123 = .ok (.getfield 124, 3) := by decide +kernel
theorem dX10_note_126 : decode cX10_note 126 = .ok (.iaload, 1) := by decide +kernel
theorem dX10_note_127 : decode cX10_note 127 = .ok (.iastore, 1) := by decide +kernel
theorem dX10_note_128 : decode cX10_note 128 = .ok (.aload_n 0, 1) := by decide +kernel
theorem dX10_note_129 : decode cX10_note 129 = .ok (.getfield 60, 3) := by decide +kernel
theorem dX10_note_132 : decode cX10_note 132 = .ok (.aload_n 0, 1) := by decide +kernel
theorem dX10_note_133 : decode cX10_note 133 = .ok (.getfield 124, 3) := by decide +kernel
theorem dX10_note_136 : decode cX10_note 136 = .ok (.dup2, 1) := by decide +kernel
theorem dX10_note_137 : decode cX10_note 137 = .ok (.iaload, 1) := by decide +kernel
theorem dX10_note_138 : decode cX10_note 138 = .ok (.iconst 1, 1) := by decide +kernel
theorem dX10_note_139 : decode cX10_note 139 = .ok (.iadd, 1) := by decide +kernel
theorem dX10_note_140 : decode cX10_note 140 = .ok (.iastore, 1) := by decide +kernel
theorem dX10_note_141 : decode cX10_note 141 = .ok (.return_, 1) := by decide +kernel
theorem dX10_isBlock_0 : decode cX10_isBlock 0 = .ok (.iload_n 0, 1) := by decide +kernel
theorem dX10_isBlock_1 : decode cX10_isBlock 1 = .ok (.iconst 3, 1) := by decide +kernel
theorem dX10_isBlock_2 : decode cX10_isBlock 2 = .ok (.if_icmp .eq 21, 3) := by decide +kernel
theorem dX10_isBlock_5 : decode cX10_isBlock 5 = .ok (.iload_n 0, 1) := by decide +kernel
theorem dX10_isBlock_6 : decode cX10_isBlock 6 = .ok (.bipush 15, 2) := by decide +kernel
theorem dX10_isBlock_8 : decode cX10_isBlock 8 = .ok (.if_icmp .eq 15, 3) := by decide +kernel
theorem dX10_isBlock_11 : decode cX10_isBlock 11 = .ok (.iload_n 0, 1) := by decide +kernel
theorem dX10_isBlock_12 : decode cX10_isBlock 12 = .ok (.bipush 20, 2) := by decide +kernel
theorem dX10_isBlock_14 : decode cX10_isBlock 14 = .ok (.if_icmp .eq 9, 3) := by decide +kernel
theorem dX10_isBlock_17 : decode cX10_isBlock 17 = .ok (.iload_n 0, 1) := by decide +kernel
theorem dX10_isBlock_18 : decode cX10_isBlock 18 = .ok (.bipush 11, 2) := by decide +kernel
theorem dX10_isBlock_20 : decode cX10_isBlock 20 = .ok (.if_icmp .ne 7, 3) := by decide +kernel
theorem dX10_isBlock_23 : decode cX10_isBlock 23 = .ok (.iconst 1, 1) := by decide +kernel
theorem dX10_isBlock_24 : decode cX10_isBlock 24 = .ok (.goto 4, 3) := by decide +kernel
theorem dX10_isBlock_27 : decode cX10_isBlock 27 = .ok (.iconst 0, 1) := by decide +kernel
theorem dX10_isBlock_28 : decode cX10_isBlock 28 = .ok (.ireturn, 1) := by decide +kernel
theorem dX10_isEmpty_0 : decode cX10_isEmpty 0 = .ok (.iload_n 0, 1) := by decide +kernel
theorem dX10_isEmpty_1 : decode cX10_isEmpty 1 = .ok (.bipush 13, 2) := by decide +kernel
theorem dX10_isEmpty_3 : decode cX10_isEmpty 3 = .ok (.if_icmp .eq 9, 3) := by decide +kernel
theorem dX10_isEmpty_6 : decode cX10_isEmpty 6 = .ok (.iload_n 0, 1) := by decide +kernel
theorem dX10_isEmpty_7 : decode cX10_isEmpty 7 = .ok (.bipush 12, 2) := by decide +kernel
theorem dX10_isEmpty_9 : decode cX10_isEmpty 9 = .ok (.if_icmp .ne 7, 3) := by decide +kernel
theorem dX10_isEmpty_12 : decode cX10_isEmpty 12 = .ok (.iconst 1, 1) := by decide +kernel
theorem dX10_isEmpty_13 : decode cX10_isEmpty 13 = .ok (.goto 4, 3) := by decide +kernel
theorem dX10_isEmpty_16 : decode cX10_isEmpty 16 = .ok (.iconst 0, 1) := by decide +kernel
theorem dX10_isEmpty_17 : decode cX10_isEmpty 17 = .ok (.ireturn, 1) := by decide +kernel
theorem dX10_inScope_0 : decode cX10_inScope 0 = .ok (.aload_n 0, 1) := by decide +kernel
theorem dX10_inScope_1 : decode cX10_inScope 1 = .ok (.getfield 127, 3) := by decide +kernel
theorem dX10_inScope_4 : decode cX10_inScope 4 = .ok (.iconst 1, 1) := by decide +kernel
theorem dX10_inScope_5 : decode cX10_inScope 5 = .ok (.isub, 1) := by decide +kernel
theorem dX10_inScope_6 : decode cX10_inScope 6 = .ok (.istore_n 3, 1) := by decide +kernel
theorem dX10_inScope_7 : decode cX10_inScope 7 = .ok (.iload_n 3, 1) := by decide +kernel
theorem dX10_inScope_8 : decode cX10_inScope 8 = .ok (.ifCond .lt 55, 3) := by decide +kernel
theorem dX10_inScope_11 : decode cX10_inScope 11 = .ok (.aload_n 0, 1) := by decide +kernel
theorem dX10_inScope_12 : decode cX10_inScope 12 = .ok (.getfield 48, 3) := by decide +kernel
theorem dX10_inScope_15 : decode cX10_inScope 15 = .ok (.aload_n 0, 1) := by decide +kernel
theorem dX10_inScope_16 : decode cX10_inScope 16 = .ok (.getfield 81, 3) := by decide +kernel
theorem dX10_inScope_19 : decode cX10_inScope 19 = .ok (.iload_n 3, 1) := by decide +kernel
theorem dX10_inScope_20 : decode cX10_inScope 20 = .ok (.iaload, 1) := by decide +kernel
theorem dX10_inScope_21 : decode cX10_inScope 21 = .ok (.baload, 1) := by decide +kernel
theorem dX10_inScope_22 : decode cX10_inScope 22 = .ok (.ifCond .ne 41, 3) := by decide +kernel
theorem dX10_inScope_25 : decode cX10_inScope 25 = .ok (.aload_n 0, 1) := by decide +kernel
theorem dX10_inScope_26 : decode cX10_inScope 26 = .ok (.getfield 39, 3) := by decide +kernel
theorem dX10_inScope_29 : decode cX10_inScope 29 = .ok (.aload_n 0, 1) := by decide +kernel
theorem dX10_inScope_30 : decode cX10_inScope 30 = .ok (.getfield 81, 3) := by decide +kernel
theorem dX10_inScope_33 : decode cX10_inScope 33 = .ok (.iload_n 3, 1) := by decide +kernel
theorem dX10_inScope_34 : decode cX10_inScope 34 = .ok (.iaload, 1) := by decide +kernel
theorem dX10_inScope_35 : decode cX10_inScope 35 = .ok (.iaload, 1) := by decide +kernel
theorem dX10_inScope_36 : decode cX10_inScope 36 = .ok (.iload_n 1, 1) := by decide +kernel
theorem dX10_inScope_37 : decode cX10_inScope 37 = .ok (.if_icmp .eq 18, 3) := by decide +kernel
theorem dX10_inScope_40 : decode cX10_inScope 40 = .ok (.aload_n 0, 1) := by decide +kernel
theorem dX10_inScope_41 : decode cX10_inScope 41 = .ok (.getfield 39, 3) := by decide +kernel
theorem dX10_inScope_44 : decode cX10_inScope 44 = .ok (.aload_n 0, 1) := by decide +kernel
theorem dX10_inScope_45 : decode cX10_inScope 45 = .ok (.getfield 81, 3) := by decide +kernel
theorem dX10_inScope_48 : decode cX10_inScope 48 = .ok (.iload_n 3, 1) := by decide +kernel
theorem dX10_inScope_49 : decode cX10_inScope 49 = .ok (.iaload, 1) := by decide +kernel
theorem dX10_inScope_50 : decode cX10_inScope 50 = .ok (.iaload, 1) := by decide +kernel
theorem dX10_inScope_51 : decode cX10_inScope 51 = .ok (.iload_n 2, 1) := by decide +kernel
theorem dX10_inScope_52 : decode cX10_inScope 52 = .ok (.if_icmp .ne 5, 3) := by decide +kernel
theorem dX10_inScope_55 : decode cX10_inScope 55 = .ok (.iload_n 3, 1) := by decide +kernel
theorem dX10_inScope_56 : decode cX10_inScope 56 = .ok (.ireturn, 1) := by decide +kernel
theorem dX10_inScope_57 : decode cX10_inScope 57 = .ok (.iinc 3 (-1), 3) := by decide +kernel
theorem dX10_inScope_60 : decode cX10_inScope 60 = .ok (.goto (-53), 3) := by decide +kernel
theorem dX10_inScope_63 : decode cX10_inScope 63 = .ok (.iconst (-1), 1) := by decide +kernel
theorem dX10_inScope_64 : decode cX10_inScope 64 = .ok (.ireturn, 1) := by decide +kernel
theorem dX10_closeAt_0 : decode cX10_closeAt 0 = .ok (.aload_n 0, 1) := by decide +kernel
theorem dX10_closeAt_1 : decode cX10_closeAt 1 = .ok (.iload_n 1, 1) := by decide +kernel
theorem dX10_closeAt_2 : decode cX10_closeAt 2 = .ok (.iconst (-1), 1) := by decide +kernel
theorem dX10_closeAt_3 : decode cX10_closeAt 3 = .ok (.if_icmp .ne 10, 3) := by decide +kernel
theorem dX10_closeAt_6 : decode cX10_closeAt 6 = .ok (.aload_n 0, 1) := by decide +kernel
theorem dX10_closeAt_7 : decode cX10_closeAt 7 = .ok (.getfield 127, 3) := by decide +kernel
theorem dX10_closeAt_10 : decode cX10_closeAt 10 = .ok (.goto 4, 3) := by decide +kernel
theorem dX10_closeAt_13 : decode cX10_closeAt 13 = .ok (.iload_n 1, 1) := by decide +kernel
theorem dX10_closeAt_14 : decode cX10_closeAt 14 = .ok (.putfield 127, 3) := by decide +kernel
theorem dX10_closeAt_17 : decode cX10_closeAt 17 = .ok (.return_, 1) := by decide +kernel
theorem dX10_starts_0 : decode cX10_starts 0 = .ok (.aload_n 0, 1) := by decide +kernel
theorem dX10_starts_1 : decode cX10_starts 1 = .ok (.invokevirtual 134, 3) := by decide +kernel
theorem dX10_starts_4 : decode cX10_starts 4 = .ok (.ifCond .eq 23, 3) := by decide +kernel
theorem dX10_starts_7 : decode cX10_starts 7 = .ok (.iload_n 1, 1) := by decide +kernel
theorem dX10_starts_8 : decode cX10_starts 8 = .ok (.invokestatic 199, 3) := by decide +kernel
theorem dX10_starts_11 : decode cX10_starts 11 = .ok (.ifCond .eq 16, 3) := by decide +kernel
theorem dX10_starts_14 : decode cX10_starts 14 = .ok (.aload_n 0, 1) := by decide +kernel
theorem dX10_starts_15 : decode cX10_starts 15 = .ok (.dup, 1) := by decide +kernel
theorem dX10_starts_16 : decode cX10_starts 16 = .ok (.getfield 127, 3) := by decide +kernel
theorem dX10_starts_19 : decode cX10_starts 19 = .ok (.iconst 1, 1) := by decide +kernel
theorem dX10_starts_20 : decode cX10_starts 20 = .ok (.isub, 1) := by decide +kernel
theorem dX10_starts_21 : decode cX10_starts 21 = .ok (.putfield 127, 3) := by decide +kernel
theorem dX10_starts_24 : decode cX10_starts 24 = .ok (.goto (-24), 3) := by decide +kernel
theorem dX10_starts_27 : decode cX10_starts 27 = .ok (.aload_n 0, 1) := by decide +kernel
theorem dX10_starts_28 : decode cX10_starts 28 = .ok (.invokevirtual 134, 3) := by decide +kernel
theorem dX10_starts_31 : decode cX10_starts 31 = .ok (.istore_n 3, 1) := by decide +kernel
theorem dX10_starts_32 : decode cX10_starts 32 = .ok (.iload_n 3, 1) := by decide +kernel
theorem dX10_starts_33 : decode cX10_starts 33 = .ok (.ifCond .ne 26, 3) := by decide +kernel
theorem dX10_starts_36 : decode cX10_starts 36 = .ok (.iload_n 1, 1) := by decide +kernel
theorem dX10_starts_37 : decode cX10_starts 37 = .ok (.invokestatic 199, 3) := by decide +kernel
theorem dX10_starts_40 : decode cX10_starts 40 = .ok (.ifCond .eq 19, 3) := by decide +kernel
theorem dX10_starts_43 : decode cX10_starts 43 = .ok (.aload_n 0, 1) := by decide +kernel
theorem dX10_starts_44 : decode cX10_starts 44 = .ok (.bipush 15, 2) := by decide +kernel
theorem dX10_starts_46 : decode cX10_starts 46 = .ok (.bipush 15, 2) := by decide +kernel
theorem dX10_starts_48 : decode cX10_starts 48 = .ok (.invokevirtual 202, 3) := by decide +kernel
theorem dX10_starts_51 : decode cX10_starts 51 = .ok (.istore 4, 2) := by decide +kernel
theorem dX10_starts_53 : decode cX10_starts 53 = .ok (.aload_n 0, 1) := by decide +kernel
theorem dX10_starts_54 : decode cX10_starts 54 = .ok (.iload 4, 2) := by decide +kernel
theorem dX10_starts_56 : decode cX10_starts 56 = .ok (.invokevirtual 205, 3) := by decide +kernel
theorem dX10_starts_59 : decode cX10_starts 59 = .ok (.iload_n 3, 1) := by decide +kernel
theorem dX10_starts_60 : decode cX10_starts 60 = .ok (.ifCond .ne 52, 3) := by decide +kernel
theorem dX10_starts_63 : decode cX10_starts 63 = .ok (.iload_n 1, 1) := by decide +kernel
theorem dX10_starts_64 : decode cX10_starts 64 = .ok (.bipush 11, 2) := by decide +kernel
theorem dX10_starts_66 : decode cX10_starts 66 = .ok (.if_icmp .ne 46, 3) := by decide +kernel
theorem dX10_starts_69 : decode cX10_starts 69 = .ok (.aload_n 0, 1) := by decide +kernel
theorem dX10_starts_70 : decode cX10_starts 70 = .ok (.bipush 11, 2) := by decide +kernel
theorem dX10_starts_72 : decode cX10_starts 72 = .ok (.bipush 20, 2) := by decide +kernel
theorem dX10_starts_74 : decode cX10_starts 74 = .ok (.invokevirtual 202, 3) := by decide +kernel
theorem dX10_starts_77 : decode cX10_starts 77 = .ok (.istore 4, 2) := by decide +kernel
theorem dX10_starts_79 : decode cX10_starts 79 = .ok (.aload_n 0, 1) := by decide +kernel
theorem dX10_starts_80 : decode cX10_starts 80 = .ok (.iload 4, 2) := by decide +kernel
theorem dX10_starts_82 : decode cX10_starts 82 = .ok (.iconst (-1), 1) := by decide +kernel
theorem dX10_starts_83 : decode cX10_starts 83 = .ok (.if_icmp .eq 25, 3) := by decide +kernel
theorem dX10_starts_86 : decode cX10_starts 86 = .ok (.aload_n 0, 1) := by decide +kernel
theorem dX10_starts_87 : decode cX10_starts 87 = .ok (.getfield 39, 3) := by decide +kernel
theorem dX10_starts_90 : decode cX10_starts 90 = .ok (.aload_n 0, 1) := by decide +kernel
theorem dX10_starts_91 : decode cX10_starts 91 = .ok (.getfield 81, 3) := by decide +kernel
theorem dX10_starts_94 : decode cX10_starts 94 = .ok (.iload 4, 2) := by decide +kernel
theorem dX10_starts_96 : decode cX10_starts 96 = .ok (.iaload, 1) := by decide +kernel
theorem dX10_starts_97 : decode cX10_starts 97 = .ok (.iaload, 1) := by decide +kernel
theorem dX10_starts_98 : decode cX10_starts 98 = .ok (.bipush 11, 2) := by decide +kernel
theorem dX10_starts_100 : decode cX10_starts 100 = .ok (.if_icmp .ne 8, 3) := by decide +kernel
theorem dX10_starts_103 : decode cX10_starts 103 = .ok (.iload 4, 2) := by decide +kernel
theorem dX10_starts_105 : decode cX10_starts 105 = .ok (.goto 4, 3) := by decide +kernel
theorem dX10_starts_108 : decode cX10_starts 108 = .ok (.iconst (-1), 1) := by decide +kernel
theorem dX10_starts_109 : decode cX10_starts 109 = .ok (.invokevirtual 205, 3) := by decide +kernel
theorem dX10_starts_112 : decode cX10_starts 112 = .ok (.iload_n 3, 1) := by decide +kernel
theorem dX10_starts_113 : decode cX10_starts 113 = .ok (.ifCond .ne 21, 3) := by decide +kernel
theorem dX10_starts_116 : decode cX10_starts 116 = .ok (.iload_n 1, 1) := by decide +kernel
theorem dX10_starts_117 : decode cX10_starts 117 = .ok (.ifCond .ne 17, 3) := by decide +kernel
theorem dX10_starts_120 : decode cX10_starts 120 = .ok (.aload_n 0, 1) := by decide +kernel
theorem dX10_starts_121 : decode cX10_starts 121 = .ok (.iconst 0, 1) := by decide +kernel
theorem dX10_starts_122 : decode cX10_starts 122 = .ok (.iconst 0, 1) := by decide +kernel
theorem dX10_starts_123 : decode cX10_starts 123 = .ok (.invokevirtual 202, 3) := by decide +kernel
theorem dX10_starts_126 : decode cX10_starts 126 = .ok (.istore 4, 2) := by decide +kernel
theorem dX10_starts_128 : decode cX10_starts 128 = .ok (.aload_n 0, 1) := by decide +kernel
theorem dX10_starts_129 : decode cX10_starts 129 = .ok (.iload 4, 2) := by decide +kernel
theorem dX10_starts_131 : decode cX10_starts 131 = .ok (.invokevirtual 205, 3) := by decide +kernel
theorem dX10_starts_134 : decode cX10_starts 134 = .ok (.aload_n 0, 1) := by decide +kernel
theorem dX10_starts_135 : decode cX10_starts 135 = .ok (.invokevirtual 134, 3) := by decide +kernel
theorem dX10_starts_138 : decode cX10_starts 138 = .ok (.istore_n 3, 1) := by decide +kernel
theorem dX10_starts_139 : decode cX10_starts 139 = .ok (.iload_n 3, 1) := by decide +kernel
theorem dX10_starts_140 : decode cX10_starts 140 = .ok (.ifCond .ne 10, 3) := by decide +kernel
theorem dX10_starts_143 : decode cX10_starts 143 = .ok (.iload_n 1, 1) := by decide +kernel
theorem dX10_starts_144 : decode cX10_starts 144 = .ok (.invokestatic 208, 3) := by decide +kernel
theorem dX10_starts_147 : decode cX10_starts 147 = .ok (.ifCond .ne 7, 3) := by decide +kernel
theorem dX10_starts_150 : decode cX10_starts 150 = .ok (.iconst 1, 1) := by decide +kernel
theorem dX10_starts_151 : decode cX10_starts 151 = .ok (.goto 4, 3) := by decide +kernel
theorem dX10_starts_154 : decode cX10_starts 154 = .ok (.iconst 0, 1) := by decide +kernel
theorem dX10_starts_155 : decode cX10_starts 155 = .ok (.istore 4, 2) := by decide +kernel
theorem dX10_starts_157 : decode cX10_starts 157 = .ok (.iload 4, 2) := by decide +kernel
theorem dX10_starts_159 : decode cX10_starts 159 = .ok (.ifCond .eq 14, 3) := by decide +kernel
theorem dX10_starts_162 : decode cX10_starts 162 = .ok (.aload_n 0, 1) := by decide +kernel
theorem dX10_starts_163 : decode cX10_starts 163 = .ok (.getfield 127, 3) := by decide +kernel
theorem dX10_starts_166 : decode cX10_starts 166 = .ok (.bipush 8, 2) := by decide +kernel
theorem dX10_starts_168 : decode cX10_starts 168 = .ok (.if_icmp .ne 5, 3) := by decide +kernel
theorem dX10_starts_171 : decode cX10_starts 171 = .ok (.iconst 0, 1) := by decide +kernel
theorem dX10_starts_172 : decode cX10_starts 172 = .ok (.ireturn, 1) := by decide +kernel
theorem dX10_starts_173 : decode cX10_starts 173 = .ok (.aload_n 0, 1) := by decide +kernel
theorem dX10_starts_174 : decode cX10_starts 174 = .ok (.iconst 3, 1) := by decide +kernel
theorem dX10_starts_175 : decode cX10_starts 175 = .ok (.iload_n 1, 1) := by decide +kernel
theorem dX10_starts_176 : decode cX10_starts 176 = .ok (.invokevirtual 138, 3) := by decide +kernel
theorem dX10_starts_179 : decode cX10_starts 179 = .ok (.istore 5, 2) := by decide +kernel
theorem dX10_starts_181 : decode cX10_starts 181 = .ok (.iload_n 2, 1) := by decide +kernel
theorem dX10_starts_182 : decode cX10_starts 182 = .ok (.istore 6, 2) := by decide +kernel
theorem dX10_starts_184 : decode cX10_starts 184 = .ok (.iload 6, 2) := by decide +kernel
theorem dX10_starts_186 : decode cX10_starts 186 = .ok (.aload_n 0, 1) := by decide +kernel
theorem dX10_starts_187 : decode cX10_starts 187 = .ok (.getfield 60, 3) := by decide +kernel
theorem dX10_starts_190 : decode cX10_starts 190 = .ok (.aload_n 0, 1) := by decide +kernel
theorem dX10_starts_191 : decode cX10_starts 191 = .ok (.getfield 124, 3) := by decide +kernel
theorem dX10_starts_194 : decode cX10_starts 194 = .ok (.iaload, 1) := by decide +kernel
theorem dX10_starts_195 : decode cX10_starts 195 = .ok (.if_icmp .ge 27, 3) := by decide +kernel
theorem dX10_starts_198 : decode cX10_starts 198 = .ok (.aload_n 0, 1) := by decide +kernel
theorem dX10_starts_199 : decode cX10_starts 199 = .ok (.getfield 63, 3) := by decide +kernel
theorem dX10_starts_202 : decode cX10_starts 202 = .ok (.sipush 128, 3) := by decide +kernel
theorem dX10_starts_205 : decode cX10_starts 205 = .ok (.aload_n 0, 1) := by decide +kernel
theorem dX10_starts_206 : decode cX10_starts 206 = .ok (.getfield 124, 3) := by decide +kernel
theorem dX10_starts_209 : decode cX10_starts 209 = .ok (.imul, 1) := by decide +kernel
theorem dX10_starts_210 : decode cX10_starts 210 = .ok (.iload 6, 2) := by decide +kernel
theorem dX10_starts_212 : decode cX10_starts 212 = .ok (.iadd, 1) := by decide +kernel
theorem dX10_starts_213 : decode cX10_starts 213 = .ok (.iload 5, 2) := by decide +kernel
theorem dX10_starts_215 : decode cX10_starts 215 = .ok (.iastore, 1) := by decide +kernel
theorem dX10_starts_216 : decode cX10_starts 216 = .ok (.iinc 6 1, 3) := by decide +kernel
theorem dX10_starts_219 : decode cX10_starts 219 = .ok (.goto (-35), 3) := by decide +kernel
theorem dX10_starts_222 : decode cX10_starts 222 = .ok (.iload 4, 2) := by decide +kernel
theorem dX10_starts_224 : decode cX10_starts 224 = .ok (.ifCond .eq 24, 3) := by decide +kernel
theorem dX10_starts_227 : decode cX10_starts 227 = .ok (.aload_n 0, 1) := by decide +kernel
theorem dX10_starts_228 : decode cX10_starts 228 = .ok (.getfield 81, 3) := by decide +kernel
theorem dX10_starts_231 : decode cX10_starts 231 = .ok (.aload_n 0, 1) := by decide +kernel
theorem dX10_starts_232 : decode cX10_starts 232 = .ok (.getfield 127, 3) := by decide +kernel
theorem dX10_starts_235 : decode cX10_starts 235 = .ok (.iload 5, 2) := by decide +kernel
theorem dX10_starts_237 : decode cX10_starts 237 = .ok (.iastore, 1) := by decide +kernel
theorem dX10_starts_238 : decode cX10_starts 238 = .ok (.aload_n 0, 1) := by decide +kernel
theorem dX10_starts_239 : decode cX10_starts 239 = .ok (.dup, 1) := by decide +kernel
theorem dX10_starts_240 : decode cX10_starts 240 = .ok (.getfield 127, 3) := by decide +kernel
theorem dX10_starts_243 : decode cX10_starts 243 = .ok (.iconst 1, 1) := by decide +kernel
theorem dX10_starts_244 : decode cX10_starts 244 = .ok (.iadd, 1) := by decide +kernel
theorem dX10_starts_245 : decode cX10_starts 245 = .ok (.putfield 127, 3) := by decide +kernel
theorem dX10_starts_248 : decode cX10_starts 248 = .ok (.aload_n 0, 1) := by decide +kernel
theorem dX10_starts_249 : decode cX10_starts 249 = .ok (.iload_n 1, 1) := by decide +kernel
theorem dX10_starts_250 : decode cX10_starts 250 = .ok (.bipush 18, 2) := by decide +kernel
theorem dX10_starts_252 : decode cX10_starts 252 = .ok (.if_icmp .ne 11, 3) := by decide +kernel
theorem dX10_starts_255 : decode cX10_starts 255 = .ok (.iload_n 3, 1) := by decide +kernel
theorem dX10_starts_256 : decode cX10_starts 256 = .ok (.ifCond .ne 7, 3) := by decide +kernel
theorem dX10_starts_259 : decode cX10_starts 259 = .ok (.iconst 1, 1) := by decide +kernel
theorem dX10_starts_260 : decode cX10_starts 260 = .ok (.goto 4, 3) := by decide +kernel
theorem dX10_starts_263 : decode cX10_starts 263 = .ok (.iconst 0, 1) := by decide +kernel
theorem dX10_starts_264 : decode cX10_starts 264 = .ok (.putfield 152, 3) := by decide +kernel
theorem dX10_starts_267 : decode cX10_starts 267 = .ok (.iconst 1, 1) := by decide +kernel
theorem dX10_starts_268 : decode cX10_starts 268 = .ok (.ireturn, 1) := by decide +kernel
theorem dX10_ends_0 : decode cX10_ends 0 = .ok (.aload_n 0, 1) := by decide +kernel
theorem dX10_ends_1 : decode cX10_ends 1 = .ok (.getfield 127, 3) := by decide +kernel
theorem dX10_ends_4 : decode cX10_ends 4 = .ok (.iconst 1, 1) := by decide +kernel
theorem dX10_ends_5 : decode cX10_ends 5 = .ok (.isub, 1) := by decide +kernel
theorem dX10_ends_6 : decode cX10_ends 6 = .ok (.istore_n 3, 1) := by decide +kernel
theorem dX10_ends_7 : decode cX10_ends 7 = .ok (.iload_n 3, 1) := by decide +kernel
theorem dX10_ends_8 : decode cX10_ends 8 = .ok (.ifCond .lt 54, 3) := by decide +kernel
theorem dX10_ends_11 : decode cX10_ends 11 = .ok (.aload_n 0, 1) := by decide +kernel
theorem dX10_ends_12 : decode cX10_ends 12 = .ok (.getfield 48, 3) := by decide +kernel
theorem dX10_ends_15 : decode cX10_ends 15 = .ok (.aload_n 0, 1) := by decide +kernel
theorem dX10_ends_16 : decode cX10_ends 16 = .ok (.getfield 81, 3) := by decide +kernel
theorem dX10_ends_19 : decode cX10_ends 19 = .ok (.iload_n 3, 1) := by decide +kernel
theorem dX10_ends_20 : decode cX10_ends 20 = .ok (.iaload, 1) := by decide +kernel
theorem dX10_ends_21 : decode cX10_ends 21 = .ok (.baload, 1) := by decide +kernel
theorem dX10_ends_22 : decode cX10_ends 22 = .ok (.aload_n 0, 1) := by decide +kernel
theorem dX10_ends_23 : decode cX10_ends 23 = .ok (.getfield 48, 3) := by decide +kernel
theorem dX10_ends_26 : decode cX10_ends 26 = .ok (.aload_n 0, 1) := by decide +kernel
theorem dX10_ends_27 : decode cX10_ends 27 = .ok (.getfield 81, 3) := by decide +kernel
theorem dX10_ends_30 : decode cX10_ends 30 = .ok (.aload_n 0, 1) := by decide +kernel
theorem dX10_ends_31 : decode cX10_ends 31 = .ok (.getfield 127, 3) := by decide +kernel
theorem dX10_ends_34 : decode cX10_ends 34 = .ok (.iconst 1, 1) := by decide +kernel
theorem dX10_ends_35 : decode cX10_ends 35 = .ok (.isub, 1) := by decide +kernel
theorem dX10_ends_36 : decode cX10_ends 36 = .ok (.iaload, 1) := by decide +kernel
theorem dX10_ends_37 : decode cX10_ends 37 = .ok (.baload, 1) := by decide +kernel
theorem dX10_ends_38 : decode cX10_ends 38 = .ok (.if_icmp .ne 24, 3) := by decide +kernel
theorem dX10_ends_41 : decode cX10_ends 41 = .ok (.aload_n 0, 1) := by decide +kernel
theorem dX10_ends_42 : decode cX10_ends 42 = .ok (.getfield 39, 3) := by decide +kernel
theorem dX10_ends_45 : decode cX10_ends 45 = .ok (.aload_n 0, 1) := by decide +kernel
theorem dX10_ends_46 : decode cX10_ends 46 = .ok (.getfield 81, 3) := by decide +kernel
theorem dX10_ends_49 : decode cX10_ends 49 = .ok (.iload_n 3, 1) := by decide +kernel
theorem dX10_ends_50 : decode cX10_ends 50 = .ok (.iaload, 1) := by decide +kernel
theorem dX10_ends_51 : decode cX10_ends 51 = .ok (.iaload, 1) := by decide +kernel
theorem dX10_ends_52 : decode cX10_ends 52 = .ok (.iload_n 1, 1) := by decide +kernel
theorem dX10_ends_53 : decode cX10_ends 53 = .ok (.if_icmp .eq 9, 3) := by decide +kernel
theorem dX10_ends_56 : decode cX10_ends 56 = .ok (.iinc 3 (-1), 3) := by decide +kernel
theorem dX10_ends_59 : decode cX10_ends 59 = .ok (.goto (-52), 3) := by decide +kernel
theorem dX10_ends_62 : decode cX10_ends 62 = .ok (.iload_n 3, 1) := by decide +kernel
theorem dX10_ends_63 : decode cX10_ends 63 = .ok (.ifCond .lt 37, 3) := by decide +kernel
theorem dX10_ends_66 : decode cX10_ends 66 = .ok (.aload_n 0, 1) := by decide +kernel
theorem dX10_ends_67 : decode cX10_ends 67 = .ok (.getfield 48, 3) := by decide +kernel
theorem dX10_ends_70 : decode cX10_ends 70 = .ok (.aload_n 0, 1) := by decide +kernel
theorem dX10_ends_71 : decode cX10_ends 71 = .ok (.getfield 81, 3) := by decide +kernel
theorem dX10_ends_74 : decode cX10_ends 74 = .ok (.iload_n 3, 1) := by decide +kernel
theorem dX10_ends_75 : decode cX10_ends 75 = .ok (.iaload, 1) := by decide +kernel
theorem dX10_ends_76 : decode cX10_ends 76 = .ok (.baload, 1) := by decide +kernel
theorem dX10_ends_77 : decode cX10_ends 77 = .ok (.aload_n 0, 1) := by decide +kernel
theorem dX10_ends_78 : decode cX10_ends 78 = .ok (.getfield 48, 3) := by decide +kernel
theorem dX10_ends_81 : decode cX10_ends 81 = .ok (.aload_n 0, 1) := by decide +kernel
theorem dX10_ends_82 : decode cX10_ends 82 = .ok (.getfield 81, 3) := by decide +kernel
theorem dX10_ends_85 : decode cX10_ends 85 = .ok (.aload_n 0, 1) := by decide +kernel
theorem dX10_ends_86 : decode cX10_ends 86 = .ok (.getfield 127, 3) := by decide +kernel
theorem dX10_ends_89 : decode cX10_ends 89 = .ok (.iconst 1, 1) := by decide +kernel
theorem dX10_ends_90 : decode cX10_ends 90 = .ok (.isub, 1) := by decide +kernel
theorem dX10_ends_91 : decode cX10_ends 91 = .ok (.iaload, 1) := by decide +kernel
theorem dX10_ends_92 : decode cX10_ends 92 = .ok (.baload, 1) := by decide +kernel
theorem dX10_ends_93 : decode cX10_ends 93 = .ok (.if_icmp .ne 7, 3) := by decide +kernel
theorem dX10_ends_96 : decode cX10_ends 96 = .ok (.iconst 1, 1) := by decide +kernel
theorem dX10_ends_97 : decode cX10_ends 97 = .ok (.goto 4, 3) := by decide +kernel
theorem dX10_ends_100 : decode cX10_ends 100 = .ok (.iconst 0, 1) := by decide +kernel
theorem dX10_ends_101 : decode cX10_ends 101 = .ok (.istore 4, 2) := by decide +kernel
theorem dX10_ends_103 : decode cX10_ends 103 = .ok (.iload 4, 2) := by decide +kernel
theorem dX10_ends_105 : decode cX10_ends 105 = .ok (.ifCond .eq 11, 3) := by decide +kernel
theorem dX10_ends_108 : decode cX10_ends 108 = .ok (.aload_n 0, 1) := by decide +kernel
theorem dX10_ends_109 : decode cX10_ends 109 = .ok (.iload_n 3, 1) := by decide +kernel
theorem dX10_ends_110 : decode cX10_ends 110 = .ok (.putfield 127, 3) := by decide +kernel
theorem dX10_ends_113 : decode cX10_ends 113 = .ok (.goto 47, 3) := by decide +kernel
theorem dX10_ends_116 : decode cX10_ends 116 = .ok (.iload_n 1, 1) := by decide +kernel
theorem dX10_ends_117 : decode cX10_ends 117 = .ok (.bipush 15, 2) := by decide +kernel
theorem dX10_ends_119 : decode cX10_ends 119 = .ok (.if_icmp .ne 41, 3) := by decide +kernel
theorem dX10_ends_122 : decode cX10_ends 122 = .ok (.aload_n 0, 1) := by decide +kernel
theorem dX10_ends_123 : decode cX10_ends 123 = .ok (.invokevirtual 134, 3) := by decide +kernel
theorem dX10_ends_126 : decode cX10_ends 126 = .ok (.ifCond .ne 34, 3) := by decide +kernel
theorem dX10_ends_129 : decode cX10_ends 129 = .ok (.aload_n 0, 1) := by decide +kernel
theorem dX10_ends_130 : decode cX10_ends 130 = .ok (.bipush 15, 2) := by decide +kernel
theorem dX10_ends_132 : decode cX10_ends 132 = .ok (.iload_n 2, 1) := by decide +kernel
theorem dX10_ends_133 : decode cX10_ends 133 = .ok (.invokevirtual 188, 3) := by decide +kernel
theorem dX10_ends_136 : decode cX10_ends 136 = .ok (.istore 5, 2) := by decide +kernel
theorem dX10_ends_138 : decode cX10_ends 138 = .ok (.aload_n 0, 1) := by decide +kernel
theorem dX10_ends_139 : decode cX10_ends 139 = .ok (.iload 5, 2) := by decide +kernel
theorem dX10_ends_141 : decode cX10_ends 141 = .ok (.ifCond .eq 12, 3) := by decide +kernel
theorem dX10_ends_144 : decode cX10_ends 144 = .ok (.aload_n 0, 1) := by decide +kernel
theorem dX10_ends_145 : decode cX10_ends 145 = .ok (.getfield 127, 3) := by decide +kernel
theorem dX10_ends_148 : decode cX10_ends 148 = .ok (.iconst 1, 1) := by decide +kernel
theorem dX10_ends_149 : decode cX10_ends 149 = .ok (.isub, 1) := by decide +kernel
theorem dX10_ends_150 : decode cX10_ends 150 = .ok (.goto 7, 3) := by decide +kernel
theorem dX10_ends_153 : decode cX10_ends 153 = .ok (.aload_n 0, 1) := by decide +kernel
theorem dX10_ends_154 : decode cX10_ends 154 = .ok (.getfield 127, 3) := by decide +kernel
theorem dX10_ends_157 : decode cX10_ends 157 = .ok (.putfield 127, 3) := by decide +kernel
theorem dX10_ends_160 : decode cX10_ends 160 = .ok (.return_, 1) := by decide +kernel
theorem dX10_read_0 : decode cX10_read 0 = .ok (.aload_n 0, 1) := by decide +kernel
theorem dX10_read_1 : decode cX10_read 1 = .ok (.getfield 33, 3) := by decide +kernel
theorem dX10_read_4 : decode cX10_read 4 = .ok (.aload_n 0, 1) := by decide +kernel
theorem dX10_read_5 : decode cX10_read 5 = .ok (.getfield 124, 3) := by decide +kernel
theorem dX10_read_8 : decode cX10_read 8 = .ok (.iconst 0, 1) := by decide +kernel
theorem dX10_read_9 : decode cX10_read 9 = .ok (.iastore, 1) := by decide +kernel
theorem dX10_read_10 : decode cX10_read 10 = .ok (.aload_n 0, 1) := by decide +kernel
theorem dX10_read_11 : decode cX10_read 11 = .ok (.getfield 60, 3) := by decide +kernel
theorem dX10_read_14 : decode cX10_read 14 = .ok (.aload_n 0, 1) := by decide +kernel
theorem dX10_read_15 : decode cX10_read 15 = .ok (.getfield 124, 3) := by decide +kernel
theorem dX10_read_18 : decode cX10_read 18 = .ok (.iconst 0, 1) := by decide +kernel
theorem dX10_read_19 : decode cX10_read 19 = .ok (.iastore, 1) := by decide +kernel
theorem dX10_read_20 : decode cX10_read 20 = .ok (.aload_n 0, 1) := by decide +kernel
theorem dX10_read_21 : decode cX10_read 21 = .ok (.getfield 75, 3) := by decide +kernel
theorem dX10_read_24 : decode cX10_read 24 = .ok (.aload_n 0, 1) := by decide +kernel
theorem dX10_read_25 : decode cX10_read 25 = .ok (.getfield 124, 3) := by decide +kernel
theorem dX10_read_28 : decode cX10_read 28 = .ok (.iconst 0, 1) := by decide +kernel
theorem dX10_read_29 : decode cX10_read 29 = .ok (.iastore, 1) := by decide +kernel
theorem dX10_read_30 : decode cX10_read 30 = .ok (.aload_n 0, 1) := by decide +kernel
theorem dX10_read_31 : decode cX10_read 31 = .ok (.iconst 0, 1) := by decide +kernel
theorem dX10_read_32 : decode cX10_read 32 = .ok (.putfield 127, 3) := by decide +kernel
theorem dX10_read_35 : decode cX10_read 35 = .ok (.aload_n 0, 1) := by decide +kernel
theorem dX10_read_36 : decode cX10_read 36 = .ok (.iconst 0, 1) := by decide +kernel
theorem dX10_read_37 : decode cX10_read 37 = .ok (.putfield 152, 3) := by decide +kernel
theorem dX10_read_40 : decode cX10_read 40 = .ok (.aload_n 0, 1) := by decide +kernel
theorem dX10_read_41 : decode cX10_read 41 = .ok (.iconst 0, 1) := by decide +kernel
theorem dX10_read_42 : decode cX10_read 42 = .ok (.putfield 146, 3) := by decide +kernel
theorem dX10_read_45 : decode cX10_read 45 = .ok (.aload_n 0, 1) := by decide +kernel
theorem dX10_read_46 : decode cX10_read 46 = .ok (.getfield 146, 3) := by decide +kernel
theorem dX10_read_49 : decode cX10_read 49 = .ok (.aload_n 0, 1) := by decide +kernel
theorem dX10_read_50 : decode cX10_read 50 = .ok (.getfield 107, 3) := by decide +kernel
theorem dX10_read_53 : decode cX10_read 53 = .ok (.if_icmp .ge 10, 3) := by decide +kernel
theorem dX10_read_56 : decode cX10_read 56 = .ok (.aload_n 0, 1) := by decide +kernel
theorem dX10_read_57 : decode cX10_read 57 = .ok (.invokevirtual 211, 3) := by decide +kernel
theorem dX10_read_60 : decode cX10_read 60 = .ok (.goto (-15), 3) := by decide +kernel
theorem dX10_read_63 : decode cX10_read 63 = .ok (.return_, 1) := by decide +kernel
theorem dX10_write_0 : decode cX10_write 0 = .ok (.aload_n 0, 1) := by decide +kernel
theorem dX10_write_1 : decode cX10_write 1 = .ok (.getfield 214, 3) := by decide +kernel
theorem dX10_write_4 : decode cX10_write 4 = .ok (.sipush 200, 3) := by decide +kernel
theorem dX10_write_7 : decode cX10_write 7 = .ok (.if_icmp .ge 13, 3) := by decide +kernel
theorem dX10_write_10 : decode cX10_write 10 = .ok (.aload_n 0, 1) := by decide +kernel
theorem dX10_write_11 : decode cX10_write 11 = .ok (.getfield 30, 3) := by decide +kernel
theorem dX10_write_14 : decode cX10_write 14 = .ok (.aload_n 0, 1) := by decide +kernel
theorem dX10_write_15 : decode cX10_write 15 = .ok (.getfield 214, 3) := by decide +kernel
theorem dX10_write_18 : decode cX10_write 18 = .ok (.iload_n 1, 1) := by decide +kernel
theorem dX10_write_19 : decode cX10_write 19 = .ok (.iastore, 1) := by decide +kernel
theorem dX10_write_20 : decode cX10_write 20 = .ok (.aload_n 0, 1) := by decide +kernel
theorem dX10_write_21 : decode cX10_write 21 = .ok (.dup, 1) := by decide +kernel
theorem dX10_write_22 : decode cX10_write 22 = .ok (.getfield 214, 3) := by decide +kernel
theorem dX10_write_25 : decode cX10_write 25 = .ok (.iconst 1, 1) := by decide +kernel
theorem dX10_write_26 : decode cX10_write 26 = .ok (.iadd, 1) := by decide +kernel
theorem dX10_write_27 : decode cX10_write 27 = .ok (.putfield 214, 3) := by decide +kernel
theorem dX10_write_30 : decode cX10_write 30 = .ok (.return_, 1) := by decide +kernel
theorem dX10_escaped_0 : decode cX10_escaped 0 = .ok (.iload_n 1, 1) := by decide +kernel
theorem dX10_escaped_1 : decode cX10_escaped 1 = .ok (.bipush 38, 2) := by decide +kernel
theorem dX10_escaped_3 : decode cX10_escaped 3 = .ok (.if_icmp .ne 36, 3) := by decide +kernel
theorem dX10_escaped_6 : decode cX10_escaped 6 = .ok (.aload_n 0, 1) := by decide +kernel
theorem dX10_escaped_7 : decode cX10_escaped 7 = .ok (.bipush 38, 2) := by decide +kernel
theorem dX10_escaped_9 : decode cX10_escaped 9 = .ok (.invokevirtual 217, 3) := by decide +kernel
theorem dX10_escaped_12 : decode cX10_escaped 12 = .ok (.aload_n 0, 1) := by decide +kernel
theorem dX10_escaped_13 : decode cX10_escaped 13 = .ok (.bipush 97, 2) := by decide +kernel
theorem dX10_escaped_15 : decode cX10_escaped 15 = .ok (.invokevirtual 217, 3) := by decide +kernel
theorem dX10_escaped_18 : decode cX10_escaped 18 = .ok (.aload_n 0, 1) := by decide +kernel
theorem dX10_escaped_19 : decode cX10_escaped 19 = .ok (.bipush 109, 2) := by decide +kernel
theorem dX10_escaped_21 : decode cX10_escaped 21 = .ok (.invokevirtual 217, 3) := by decide +kernel
theorem dX10_escaped_24 : decode cX10_escaped 24 = .ok (.aload_n 0, 1) := by decide +kernel
theorem dX10_escaped_25 : decode cX10_escaped 25 = .ok (.bipush 112, 2) := by decide +kernel
theorem dX10_escaped_27 : decode cX10_escaped 27 = .ok (.invokevirtual 217, 3) := by decide +kernel
theorem dX10_escaped_30 : decode cX10_escaped 30 = .ok (.aload_n 0, 1) := by decide +kernel
theorem dX10_escaped_31 : decode cX10_escaped 31 = .ok (.bipush 59, 2) := by decide +kernel
theorem dX10_escaped_33 : decode cX10_escaped 33 = .ok (.invokevirtual 217, 3) := by decide +kernel
theorem dX10_escaped_36 : decode cX10_escaped 36 = .ok (.goto 111, 3) := by decide +kernel
theorem dX10_escaped_39 : decode cX10_escaped 39 = .ok (.iload_n 2, 1) := by decide +kernel
theorem dX10_escaped_40 : decode cX10_escaped 40 = .ok (.ifCond .eq 48, 3) := by decide +kernel
theorem dX10_escaped_43 : decode cX10_escaped 43 = .ok (.iload_n 1, 1) := by decide +kernel
theorem dX10_escaped_44 : decode cX10_escaped 44 = .ok (.bipush 34, 2) := by decide +kernel
theorem dX10_escaped_46 : decode cX10_escaped 46 = .ok (.if_icmp .ne 42, 3) := by decide +kernel
theorem dX10_escaped_49 : decode cX10_escaped 49 = .ok (.aload_n 0, 1) := by decide +kernel
theorem dX10_escaped_50 : decode cX10_escaped 50 = .ok (.bipush 38, 2) := by decide +kernel
theorem dX10_escaped_52 : decode cX10_escaped 52 = .ok (.invokevirtual 217, 3) := by decide +kernel
theorem dX10_escaped_55 : decode cX10_escaped 55 = .ok (.aload_n 0, 1) := by decide +kernel
theorem dX10_escaped_56 : decode cX10_escaped 56 = .ok (.bipush 113, 2) := by decide +kernel
theorem dX10_escaped_58 : decode cX10_escaped 58 = .ok (.invokevirtual 217, 3) := by decide +kernel
theorem dX10_escaped_61 : decode cX10_escaped 61 = .ok (.aload_n 0, 1) := by decide +kernel
theorem dX10_escaped_62 : decode cX10_escaped 62 = .ok (.bipush 117, 2) := by decide +kernel
theorem dX10_escaped_64 : decode cX10_escaped 64 = .ok (.invokevirtual 217, 3) := by decide +kernel
theorem dX10_escaped_67 : decode cX10_escaped 67 = .ok (.aload_n 0, 1) := by decide +kernel
theorem dX10_escaped_68 : decode cX10_escaped 68 = .ok (.bipush 111, 2) := by decide +kernel
theorem dX10_escaped_70 : decode cX10_escaped 70 = .ok (.invokevirtual 217, 3) := by decide +kernel
theorem dX10_escaped_73 : decode cX10_escaped 73 = .ok (.aload_n 0, 1) := by decide +kernel
theorem dX10_escaped_74 : decode cX10_escaped 74 = .ok (.bipush 116, 2) := by decide +kernel
theorem dX10_escaped_76 : decode cX10_escaped 76 = .ok (.invokevirtual 217, 3) := by decide +kernel
theorem dX10_escaped_79 : decode cX10_escaped 79 = .ok (.aload_n 0, 1) := by decide +kernel
theorem dX10_escaped_80 : decode cX10_escaped 80 = .ok (.bipush 59, 2) := by decide +kernel
theorem dX10_escaped_82 : decode cX10_escaped 82 = .ok (.invokevirtual 217, 3) := by decide +kernel
theorem dX10_escaped_85 : decode cX10_escaped 85 = .ok (.goto 62, 3) := by decide +kernel
theorem dX10_escaped_88 : decode cX10_escaped 88 = .ok (.iload_n 2, 1) := by decide +kernel
theorem dX10_escaped_89 : decode cX10_escaped 89 = .ok (.ifCond .ne 53, 3) := by decide +kernel
theorem dX10_escaped_92 : decode cX10_escaped 92 = .ok (.iload_n 1, 1) := by decide +kernel
theorem dX10_escaped_93 : decode cX10_escaped 93 = .ok (.bipush 60, 2) := by decide +kernel
theorem dX10_escaped_95 : decode cX10_escaped 95 = .ok (.if_icmp .eq 9, 3) := by decide +kernel
theorem dX10_escaped_98 : decode cX10_escaped 98 = .ok (.iload_n 1, 1) := by decide +kernel
theorem dX10_escaped_99 : decode cX10_escaped 99 = .ok (.bipush 62, 2) := by decide +kernel
theorem dX10_escaped_101 : decode cX10_escaped 101 = .ok (.if_icmp .ne 41, 3) := by decide +kernel
theorem dX10_escaped_104 : decode cX10_escaped 104 = .ok (.aload_n 0, 1) := by decide +kernel
theorem dX10_escaped_105 : decode cX10_escaped 105 = .ok (.bipush 38, 2) := by decide +kernel
theorem dX10_escaped_107 : decode cX10_escaped 107 = .ok (.invokevirtual 217, 3) := by decide +kernel
theorem dX10_escaped_110 : decode cX10_escaped 110 = .ok (.aload_n 0, 1) := by decide +kernel
theorem dX10_escaped_111 : decode cX10_escaped 111 = .ok (.iload_n 1, 1) := by decide +kernel
theorem dX10_escaped_112 : decode cX10_escaped 112 = .ok (.bipush 60, 2) := by decide +kernel
theorem dX10_escaped_114 : decode cX10_escaped 114 = .ok (.if_icmp .ne 8, 3) := by decide +kernel
theorem dX10_escaped_117 : decode cX10_escaped 117 = .ok (.bipush 108, 2) := by decide +kernel
theorem dX10_escaped_119 : decode cX10_escaped 119 = .ok (.goto 5, 3) := by decide +kernel
theorem dX10_escaped_122 : decode cX10_escaped 122 = .ok (.bipush 103, 2) := by decide +kernel
theorem dX10_escaped_124 : decode cX10_escaped 124 = .ok (.invokevirtual 217, 3) := by decide +kernel
theorem dX10_escaped_127 : decode cX10_escaped 127 = .ok (.aload_n 0, 1) := by decide +kernel
theorem dX10_escaped_128 : decode cX10_escaped 128 = .ok (.bipush 116, 2) := by decide +kernel
theorem dX10_escaped_130 : decode cX10_escaped 130 = .ok (.invokevirtual 217, 3) := by decide +kernel
theorem dX10_escaped_133 : decode cX10_escaped 133 = .ok (.aload_n 0, 1) := by decide +kernel
theorem dX10_escaped_134 : decode cX10_escaped 134 = .ok (.bipush 59, 2) := by decide +kernel
theorem dX10_escaped_136 : decode cX10_escaped 136 = .ok (.invokevirtual 217, 3) := by decide +kernel
theorem dX10_escaped_139 : decode cX10_escaped 139 = .ok (.goto 8, 3) := by decide +kernel
theorem dX10_escaped_142 : decode cX10_escaped 142 = .ok (.aload_n 0, 1) := by decide +kernel
theorem dX10_escaped_143 : decode cX10_escaped 143 = .ok (.iload_n 1, 1) := by decide +kernel
theorem dX10_escaped_144 : decode cX10_escaped 144 = .ok (.invokevirtual 217, 3) := by decide +kernel
theorem dX10_escaped_147 : decode cX10_escaped 147 = .ok (.return_, 1) := by decide +kernel
theorem dX10_isKept_0 : decode cX10_isKept 0 = .ok (.aload_n 0, 1) := by decide +kernel
theorem dX10_isKept_1 : decode cX10_isKept 1 = .ok (.getfield 36, 3) := by decide +kernel
theorem dX10_isKept_4 : decode cX10_isKept 4 = .ok (.iload_n 1, 1) := by decide +kernel
theorem dX10_isKept_5 : decode cX10_isKept 5 = .ok (.iaload, 1) := by decide +kernel
theorem dX10_isKept_6 : decode cX10_isKept 6 = .ok (.iconst 3, 1) := by decide +kernel
theorem dX10_isKept_7 : decode cX10_isKept 7 = .ok (.if_icmp .ne 41, 3) := by decide +kernel
theorem dX10_isKept_10 : decode cX10_isKept 10 = .ok (.aload_n 0, 1) := by decide +kernel
theorem dX10_isKept_11 : decode cX10_isKept 11 = .ok (.getfield 57, 3) := by decide +kernel
theorem dX10_isKept_14 : decode cX10_isKept 14 = .ok (.iload_n 1, 1) := by decide +kernel
theorem dX10_isKept_15 : decode cX10_isKept 15 = .ok (.baload, 1) := by decide +kernel
theorem dX10_isKept_16 : decode cX10_isKept 16 = .ok (.ifCond .ne 32, 3) := by decide +kernel
theorem dX10_isKept_19 : decode cX10_isKept 19 = .ok (.aload_n 0, 1) := by decide +kernel
theorem dX10_isKept_20 : decode cX10_isKept 20 = .ok (.getfield 39, 3) := by decide +kernel
theorem dX10_isKept_23 : decode cX10_isKept 23 = .ok (.iload_n 1, 1) := by decide +kernel
theorem dX10_isKept_24 : decode cX10_isKept 24 = .ok (.iaload, 1) := by decide +kernel
theorem dX10_isKept_25 : decode cX10_isKept 25 = .ok (.bipush 26, 2) := by decide +kernel
theorem dX10_isKept_27 : decode cX10_isKept 27 = .ok (.if_icmp .ge 21, 3) := by decide +kernel
theorem dX10_isKept_30 : decode cX10_isKept 30 = .ok (.aload_n 0, 1) := by decide +kernel
theorem dX10_isKept_31 : decode cX10_isKept 31 = .ok (.getfield 16, 3) := by decide +kernel
theorem dX10_isKept_34 : decode cX10_isKept 34 = .ok (.aload_n 0, 1) := by decide +kernel
theorem dX10_isKept_35 : decode cX10_isKept 35 = .ok (.getfield 39, 3) := by decide +kernel
theorem dX10_isKept_38 : decode cX10_isKept 38 = .ok (.iload_n 1, 1) := by decide +kernel
theorem dX10_isKept_39 : decode cX10_isKept 39 = .ok (.iaload, 1) := by decide +kernel
theorem dX10_isKept_40 : decode cX10_isKept 40 = .ok (.iaload, 1) := by decide +kernel
theorem dX10_isKept_41 : decode cX10_isKept 41 = .ok (.ifCond .ne 7, 3) := by decide +kernel
theorem dX10_isKept_44 : decode cX10_isKept 44 = .ok (.iconst 1, 1) := by decide +kernel
theorem dX10_isKept_45 : decode cX10_isKept 45 = .ok (.goto 4, 3) := by decide +kernel
theorem dX10_isKept_48 : decode cX10_isKept 48 = .ok (.iconst 0, 1) := by decide +kernel
theorem dX10_isKept_49 : decode cX10_isKept 49 = .ok (.ireturn, 1) := by decide +kernel
theorem dX10_endOf_0 : decode cX10_endOf 0 = .ok (.aload_n 0, 1) := by decide +kernel
theorem dX10_endOf_1 : decode cX10_endOf 1 = .ok (.iload_n 1, 1) := by decide +kernel
theorem dX10_endOf_2 : decode cX10_endOf 2 = .ok (.invokevirtual 220, 3) := by decide +kernel
theorem dX10_endOf_5 : decode cX10_endOf 5 = .ok (.ifCond .eq 55, 3) := by decide +kernel
theorem dX10_endOf_8 : decode cX10_endOf 8 = .ok (.aload_n 0, 1) := by decide +kernel
theorem dX10_endOf_9 : decode cX10_endOf 9 = .ok (.getfield 48, 3) := by decide +kernel
theorem dX10_endOf_12 : decode cX10_endOf 12 = .ok (.iload_n 1, 1) := by decide +kernel
theorem dX10_endOf_13 : decode cX10_endOf 13 = .ok (.baload, 1) := by decide +kernel
theorem dX10_endOf_14 : decode cX10_endOf 14 = .ok (.ifCond .ne 15, 3) := by decide +kernel
theorem dX10_endOf_17 : decode cX10_endOf 17 = .ok (.aload_n 0, 1) := by decide +kernel
theorem dX10_endOf_18 : decode cX10_endOf 18 = .ok (.getfield 39, 3) := by decide +kernel
theorem dX10_endOf_21 : decode cX10_endOf 21 = .ok (.iload_n 1, 1) := by decide +kernel
theorem dX10_endOf_22 : decode cX10_endOf 22 = .ok (.iaload, 1) := by decide +kernel
theorem dX10_endOf_23 : decode cX10_endOf 23 = .ok (.invokestatic 208, 3) := by decide +kernel
theorem dX10_endOf_26 : decode cX10_endOf 26 = .ok (.ifCond .ne 34, 3) := by decide +kernel
theorem dX10_endOf_29 : decode cX10_endOf 29 = .ok (.aload_n 0, 1) := by decide +kernel
theorem dX10_endOf_30 : decode cX10_endOf 30 = .ok (.bipush 60, 2) := by decide +kernel
theorem dX10_endOf_32 : decode cX10_endOf 32 = .ok (.invokevirtual 217, 3) := by decide +kernel
theorem dX10_endOf_35 : decode cX10_endOf 35 = .ok (.aload_n 0, 1) := by decide +kernel
theorem dX10_endOf_36 : decode cX10_endOf 36 = .ok (.bipush 47, 2) := by decide +kernel
theorem dX10_endOf_38 : decode cX10_endOf 38 = .ok (.invokevirtual 217, 3) := by decide +kernel
theorem dX10_endOf_41 : decode cX10_endOf 41 = .ok (.aload_n 0, 1) := by decide +kernel
theorem dX10_endOf_42 : decode cX10_endOf 42 = .ok (.bipush 97, 2) := by decide +kernel
theorem dX10_endOf_44 : decode cX10_endOf 44 = .ok (.aload_n 0, 1) := by decide +kernel
theorem dX10_endOf_45 : decode cX10_endOf 45 = .ok (.getfield 39, 3) := by decide +kernel
theorem dX10_endOf_48 : decode cX10_endOf 48 = .ok (.iload_n 1, 1) := by decide +kernel
theorem dX10_endOf_49 : decode cX10_endOf 49 = .ok (.iaload, 1) := by decide +kernel
theorem dX10_endOf_50 : decode cX10_endOf 50 = .ok (.iadd, 1) := by decide +kernel
theorem dX10_endOf_51 : decode cX10_endOf 51 = .ok (.invokevirtual 217, 3) := by decide +kernel
theorem dX10_endOf_54 : decode cX10_endOf 54 = .ok (.aload_n 0, 1) := by decide +kernel
theorem dX10_endOf_55 : decode cX10_endOf 55 = .ok (.bipush 62, 2) := by decide +kernel
theorem dX10_endOf_57 : decode cX10_endOf 57 = .ok (.invokevirtual 217, 3) := by decide +kernel
theorem dX10_endOf_60 : decode cX10_endOf 60 = .ok (.return_, 1) := by decide +kernel
theorem dX10_isSafe_0 : decode cX10_isSafe 0 = .ok (.sipush 256, 3) := by decide +kernel
theorem dX10_isSafe_3 : decode cX10_isSafe 3 = .ok (.aload_n 0, 1) := by decide +kernel
theorem dX10_isSafe_4 : decode cX10_isSafe 4 = .ok (.getfield 124, 3) := by decide +kernel
theorem dX10_isSafe_7 : decode cX10_isSafe 7 = .ok (.imul, 1) := by decide +kernel
theorem dX10_isSafe_8 : decode cX10_isSafe 8 = .ok (.aload_n 0, 1) := by decide +kernel
theorem dX10_isSafe_9 : decode cX10_isSafe 9 = .ok (.getfield 69, 3) := by decide +kernel
theorem dX10_isSafe_12 : decode cX10_isSafe 12 = .ok (.iload_n 1, 1) := by decide +kernel
theorem dX10_isSafe_13 : decode cX10_isSafe 13 = .ok (.iaload, 1) := by decide +kernel
theorem dX10_isSafe_14 : decode cX10_isSafe 14 = .ok (.iadd, 1) := by decide +kernel
theorem dX10_isSafe_15 : decode cX10_isSafe 15 = .ok (.istore_n 2, 1) := by decide +kernel
theorem dX10_isSafe_16 : decode cX10_isSafe 16 = .ok (.sipush 256, 3) := by decide +kernel
theorem dX10_isSafe_19 : decode cX10_isSafe 19 = .ok (.aload_n 0, 1) := by decide +kernel
theorem dX10_isSafe_20 : decode cX10_isSafe 20 = .ok (.getfield 124, 3) := by decide +kernel
theorem dX10_isSafe_23 : decode cX10_isSafe 23 = .ok (.imul, 1) := by decide +kernel
theorem dX10_isSafe_24 : decode cX10_isSafe 24 = .ok (.aload_n 0, 1) := by decide +kernel
theorem dX10_isSafe_25 : decode cX10_isSafe 25 = .ok (.getfield 72, 3) := by decide +kernel
theorem dX10_isSafe_28 : decode cX10_isSafe 28 = .ok (.iload_n 1, 1) := by decide +kernel
theorem dX10_isSafe_29 : decode cX10_isSafe 29 = .ok (.iaload, 1) := by decide +kernel
theorem dX10_isSafe_30 : decode cX10_isSafe 30 = .ok (.iadd, 1) := by decide +kernel
theorem dX10_isSafe_31 : decode cX10_isSafe 31 = .ok (.istore_n 3, 1) := by decide +kernel
theorem dX10_isSafe_32 : decode cX10_isSafe 32 = .ok (.iload_n 2, 1) := by decide +kernel
theorem dX10_isSafe_33 : decode cX10_isSafe 33 = .ok (.iload_n 3, 1) := by decide +kernel
theorem dX10_isSafe_34 : decode cX10_isSafe 34 = .ok (.if_icmp .ge 20, 3) := by decide +kernel
theorem dX10_isSafe_37 : decode cX10_isSafe 37 = .ok (.aload_n 0, 1) := by decide +kernel
theorem dX10_isSafe_38 : decode cX10_isSafe 38 = .ok (.getfield 78, 3) := by decide +kernel
theorem dX10_isSafe_41 : decode cX10_isSafe 41 = .ok (.iload_n 2, 1) := by decide +kernel
theorem dX10_isSafe_42 : decode cX10_isSafe 42 = .ok (.iaload, 1) := by decide +kernel
theorem dX10_isSafe_43 : decode cX10_isSafe 43 = .ok (.bipush 32, 2) := by decide +kernel
theorem dX10_isSafe_45 : decode cX10_isSafe 45 = .ok (.if_icmp .ne 9, 3) := by decide +kernel
theorem dX10_isSafe_48 : decode cX10_isSafe 48 = .ok (.iinc 2 1, 3) := by decide +kernel
theorem dX10_isSafe_51 : decode cX10_isSafe 51 = .ok (.goto (-19), 3) := by decide +kernel
theorem dX10_isSafe_54 : decode cX10_isSafe 54 = .ok (.iload_n 2, 1) := by decide +kernel
theorem dX10_isSafe_55 : decode cX10_isSafe 55 = .ok (.iload_n 3, 1) := by decide +kernel
theorem dX10_isSafe_56 : decode cX10_isSafe 56 = .ok (.if_icmp .eq 15, 3) := by decide +kernel
theorem dX10_isSafe_59 : decode cX10_isSafe 59 = .ok (.aload_n 0, 1) := by decide +kernel
theorem dX10_isSafe_60 : decode cX10_isSafe 60 = .ok (.getfield 78, 3) := by decide +kernel
theorem dX10_isSafe_63 : decode cX10_isSafe 63 = .ok (.iload_n 2, 1) := by decide +kernel
theorem dX10_isSafe_64 : decode cX10_isSafe 64 = .ok (.iaload, 1) := by decide +kernel
theorem dX10_isSafe_65 : decode cX10_isSafe 65 = .ok (.invokestatic 166, 3) := by decide +kernel
theorem dX10_isSafe_68 : decode cX10_isSafe 68 = .ok (.ifCond .ne 5, 3) := by decide +kernel
theorem dX10_isSafe_71 : decode cX10_isSafe 71 = .ok (.iconst 1, 1) := by decide +kernel
theorem dX10_isSafe_72 : decode cX10_isSafe 72 = .ok (.ireturn, 1) := by decide +kernel
theorem dX10_isSafe_73 : decode cX10_isSafe 73 = .ok (.lconst 0, 1) := by decide +kernel
theorem dX10_isSafe_74 : decode cX10_isSafe 74 = .ok (.lstore 4, 2) := by decide +kernel
theorem dX10_isSafe_76 : decode cX10_isSafe 76 = .ok (.iconst 0, 1) := by decide +kernel
theorem dX10_isSafe_77 : decode cX10_isSafe 77 = .ok (.istore 6, 2) := by decide +kernel
theorem dX10_isSafe_79 : decode cX10_isSafe 79 = .ok (.iconst 1, 1) := by decide +kernel
theorem dX10_isSafe_80 : decode cX10_isSafe 80 = .ok (.istore 7, 2) := by decide +kernel
theorem dX10_isSafe_82 : decode cX10_isSafe 82 = .ok (.iload_n 2, 1) := by decide +kernel
theorem dX10_isSafe_83 : decode cX10_isSafe 83 = .ok (.iload_n 3, 1) := by decide +kernel
theorem dX10_isSafe_84 : decode cX10_isSafe 84 = .ok (.if_icmp .ge 88, 3) := by decide +kernel
theorem dX10_isSafe_87 : decode cX10_isSafe 87 = .ok (.aload_n 0, 1) := by decide +kernel
theorem dX10_isSafe_88 : decode cX10_isSafe 88 = .ok (.getfield 78, 3) := by decide +kernel
theorem dX10_isSafe_91 : decode cX10_isSafe 91 = .ok (.iload_n 2, 1) := by decide +kernel
theorem dX10_isSafe_92 : decode cX10_isSafe 92 = .ok (.iaload, 1) := by decide +kernel
theorem dX10_isSafe_93 : decode cX10_isSafe 93 = .ok (.invokestatic 223, 3) := by decide +kernel
theorem dX10_isSafe_96 : decode cX10_isSafe 96 = .ok (.ifCond .eq 76, 3) := by decide +kernel
theorem dX10_isSafe_99 : decode cX10_isSafe 99 = .ok (.iload 7, 2) := by decide +kernel
theorem dX10_isSafe_101 : decode cX10_isSafe 101 = .ok (.ifCond .eq 26, 3) := by decide +kernel
theorem dX10_isSafe_104 : decode cX10_isSafe 104 = .ok (.aload_n 0, 1) := by decide +kernel
theorem dX10_isSafe_105 : decode cX10_isSafe 105 = .ok (.getfield 78, 3) := by decide +kernel
theorem dX10_isSafe_108 : decode cX10_isSafe 108 = .ok (.iload_n 2, 1) := by decide +kernel
theorem dX10_isSafe_109 : decode cX10_isSafe 109 = .ok (.iaload, 1) := by decide +kernel
theorem dX10_isSafe_110 : decode cX10_isSafe 110 = .ok (.invokestatic 166, 3) := by decide +kernel
theorem dX10_isSafe_113 : decode cX10_isSafe 113 = .ok (.ifCond .eq 14, 3) := by decide +kernel
theorem dX10_isSafe_116 : decode cX10_isSafe 116 = .ok (.iload 6, 2) := by decide +kernel
theorem dX10_isSafe_118 : decode cX10_isSafe 118 = .ok (.bipush 8, 2) := by decide +kernel
theorem dX10_isSafe_120 : decode cX10_isSafe 120 = .ok (.if_icmp .ge 7, 3) := by decide +kernel
theorem dX10_isSafe_123 : decode cX10_isSafe 123 = .ok (.iconst 1, 1) := by decide +kernel
theorem dX10_isSafe_124 : decode cX10_isSafe 124 = .ok (.goto 4, 3) := by decide +kernel
theorem dX10_isSafe_127 : decode cX10_isSafe 127 = .ok (.iconst 0, 1) := by decide +kernel
theorem dX10_isSafe_128 : decode cX10_isSafe 128 = .ok (.istore 7, 2) := by decide +kernel
theorem dX10_isSafe_130 : decode cX10_isSafe 130 = .ok (.iload 6, 2) := by decide +kernel
theorem dX10_isSafe_132 : decode cX10_isSafe 132 = .ok (.bipush 8, 2) := by decide +kernel
theorem dX10_isSafe_134 : decode cX10_isSafe 134 = .ok (.if_icmp .ge 25, 3) := by decide +kernel
theorem dX10_isSafe_137 : decode cX10_isSafe 137 = .ok (.lload 4, 2) := by decide +kernel
theorem dX10_isSafe_139 : decode cX10_isSafe 139 = .ok (.aload_n 0, 1) := by decide +kernel
theorem dX10_isSafe_140 : decode cX10_isSafe 140 = .ok (.getfield 78, 3) := by decide +kernel
theorem dX10_isSafe_143 : decode cX10_isSafe 143 = .ok (.iload_n 2, 1) := by decide +kernel
theorem dX10_isSafe_144 : decode cX10_isSafe 144 = .ok (.iaload, 1) := by decide +kernel
theorem dX10_isSafe_145 : decode cX10_isSafe 145 = .ok (.invokestatic 149, 3) := by decide +kernel
theorem dX10_isSafe_148 : decode cX10_isSafe 148 = .ok (.i2l, 1) := by decide +kernel
theorem dX10_isSafe_149 : decode cX10_isSafe 149 = .ok (.bipush 8, 2) := by decide +kernel
theorem dX10_isSafe_151 : decode cX10_isSafe 151 = .ok (.iload 6, 2) := by decide +kernel
theorem dX10_isSafe_153 : decode cX10_isSafe 153 = .ok (.imul, 1) := by decide +kernel
theorem dX10_isSafe_154 : decode cX10_isSafe 154 = .ok (.lshl, 1) := by decide +kernel
theorem dX10_isSafe_155 : decode cX10_isSafe 155 = .ok (.lor, 1) := by decide +kernel
theorem dX10_isSafe_156 : decode cX10_isSafe 156 = .ok (.goto 5, 3) := by decide +kernel
theorem dX10_isSafe_159 : decode cX10_isSafe 159 = .ok (.lload 4, 2) := by decide +kernel
theorem dX10_isSafe_161 : decode cX10_isSafe 161 = .ok (.lstore 4, 2) := by decide +kernel
theorem dX10_isSafe_163 : decode cX10_isSafe 163 = .ok (.iinc 6 1, 3) := by decide +kernel
theorem dX10_isSafe_166 : decode cX10_isSafe 166 = .ok (.iinc 2 1, 3) := by decide +kernel
theorem dX10_isSafe_169 : decode cX10_isSafe 169 = .ok (.goto (-87), 3) := by decide +kernel
theorem dX10_isSafe_172 : decode cX10_isSafe 172 = .ok (.iload_n 2, 1) := by decide +kernel
theorem dX10_isSafe_173 : decode cX10_isSafe 173 = .ok (.iload_n 3, 1) := by decide +kernel
theorem dX10_isSafe_174 : decode cX10_isSafe 174 = .ok (.if_icmp .eq 28, 3) := by decide +kernel
theorem dX10_isSafe_177 : decode cX10_isSafe 177 = .ok (.aload_n 0, 1) := by decide +kernel
theorem dX10_isSafe_178 : decode cX10_isSafe 178 = .ok (.getfield 78, 3) := by decide +kernel
theorem dX10_isSafe_181 : decode cX10_isSafe 181 = .ok (.iload_n 2, 1) := by decide +kernel
theorem dX10_isSafe_182 : decode cX10_isSafe 182 = .ok (.iaload, 1) := by decide +kernel
theorem dX10_isSafe_183 : decode cX10_isSafe 183 = .ok (.bipush 58, 2) := by decide +kernel
theorem dX10_isSafe_185 : decode cX10_isSafe 185 = .ok (.if_icmp .ne 17, 3) := by decide +kernel
theorem dX10_isSafe_188 : decode cX10_isSafe 188 = .ok (.iload 7, 2) := by decide +kernel
theorem dX10_isSafe_190 : decode cX10_isSafe 190 = .ok (.ifCond .eq 16, 3) := by decide +kernel
theorem dX10_isSafe_193 : decode cX10_isSafe 193 = .ok (.aload_n 0, 1) := by decide +kernel
theorem dX10_isSafe_194 : decode cX10_isSafe 194 = .ok (.lload 4, 2) := by decide +kernel
theorem dX10_isSafe_196 : decode cX10_isSafe 196 = .ok (.invokevirtual 103, 3) := by decide +kernel
theorem dX10_isSafe_199 : decode cX10_isSafe 199 = .ok (.ifCond .eq 7, 3) := by decide +kernel
theorem dX10_isSafe_202 : decode cX10_isSafe 202 = .ok (.iconst 1, 1) := by decide +kernel
theorem dX10_isSafe_203 : decode cX10_isSafe 203 = .ok (.goto 4, 3) := by decide +kernel
theorem dX10_isSafe_206 : decode cX10_isSafe 206 = .ok (.iconst 0, 1) := by decide +kernel
theorem dX10_isSafe_207 : decode cX10_isSafe 207 = .ok (.ireturn, 1) := by decide +kernel
theorem dX10_isSchemeLetter_0 : decode cX10_isSchemeLetter 0 = .ok (.iload_n 0, 1) := by decide +kernel
theorem dX10_isSchemeLetter_1 : decode cX10_isSchemeLetter 1 = .ok (.invokestatic 166, 3) := by decide +kernel
theorem dX10_isSchemeLetter_4 : decode cX10_isSchemeLetter 4 = .ok (.ifCond .ne 28, 3) := by decide +kernel
theorem dX10_isSchemeLetter_7 : decode cX10_isSchemeLetter 7 = .ok (.iload_n 0, 1) := by decide +kernel
theorem dX10_isSchemeLetter_8 : decode cX10_isSchemeLetter 8 = .ok (.invokestatic 120, 3) := by decide +kernel
theorem dX10_isSchemeLetter_11 : decode cX10_isSchemeLetter 11 = .ok (.ifCond .ne 21, 3) := by decide +kernel
theorem dX10_isSchemeLetter_14 : decode cX10_isSchemeLetter 14 = .ok (.iload_n 0, 1) := by decide +kernel
theorem dX10_isSchemeLetter_15 : decode cX10_isSchemeLetter 15 = .ok (.bipush 43, 2) := by decide +kernel
theorem dX10_isSchemeLetter_17 : decode cX10_isSchemeLetter 17 = .ok (.if_icmp .eq 15, 3) := by decide +kernel
theorem dX10_isSchemeLetter_20 : decode cX10_isSchemeLetter 20 = .ok (.iload_n 0, 1) := by decide +kernel
theorem dX10_isSchemeLetter_21 : decode cX10_isSchemeLetter 21 = .ok (.bipush 45, 2) := by decide +kernel
theorem dX10_isSchemeLetter_23 : decode cX10_isSchemeLetter 23 = .ok (.if_icmp .eq 9, 3) := by decide +kernel
theorem dX10_isSchemeLetter_26 : decode cX10_isSchemeLetter 26 = .ok (.iload_n 0, 1) := by decide +kernel
theorem dX10_isSchemeLetter_27 : decode cX10_isSchemeLetter 27 = .ok (.bipush 46, 2) := by decide +kernel
theorem dX10_isSchemeLetter_29 : decode cX10_isSchemeLetter 29 = .ok (.if_icmp .ne 7, 3) := by decide +kernel
theorem dX10_isSchemeLetter_32 : decode cX10_isSchemeLetter 32 = .ok (.iconst 1, 1) := by decide +kernel
theorem dX10_isSchemeLetter_33 : decode cX10_isSchemeLetter 33 = .ok (.goto 4, 3) := by decide +kernel
theorem dX10_isSchemeLetter_36 : decode cX10_isSchemeLetter 36 = .ok (.iconst 0, 1) := by decide +kernel
theorem dX10_isSchemeLetter_37 : decode cX10_isSchemeLetter 37 = .ok (.ireturn, 1) := by decide +kernel
theorem dX10_beginOf_0 : decode cX10_beginOf 0 = .ok (.aload_n 0, 1) := by decide +kernel
theorem dX10_beginOf_1 : decode cX10_beginOf 1 = .ok (.bipush 60, 2) := by decide +kernel
theorem dX10_beginOf_3 : decode cX10_beginOf 3 = .ok (.invokevirtual 217, 3) := by decide +kernel
theorem dX10_beginOf_6 : decode cX10_beginOf 6 = .ok (.aload_n 0, 1) := by decide +kernel
theorem dX10_beginOf_7 : decode cX10_beginOf 7 = .ok (.bipush 97, 2) := by decide +kernel
theorem dX10_beginOf_9 : decode cX10_beginOf 9 = .ok (.aload_n 0, 1) := by decide +kernel
theorem dX10_beginOf_10 : decode cX10_beginOf 10 = .ok (.getfield 39, 3) := by decide +kernel
theorem dX10_beginOf_13 : decode cX10_beginOf 13 = .ok (.iload_n 1, 1) := by decide +kernel
theorem dX10_beginOf_14 : decode cX10_beginOf 14 = .ok (.iaload, 1) := by decide +kernel
theorem dX10_beginOf_15 : decode cX10_beginOf 15 = .ok (.iadd, 1) := by decide +kernel
theorem dX10_beginOf_16 : decode cX10_beginOf 16 = .ok (.invokevirtual 217, 3) := by decide +kernel
theorem dX10_beginOf_19 : decode cX10_beginOf 19 = .ok (.iconst 0, 1) := by decide +kernel
theorem dX10_beginOf_20 : decode cX10_beginOf 20 = .ok (.istore_n 2, 1) := by decide +kernel
theorem dX10_beginOf_21 : decode cX10_beginOf 21 = .ok (.iload_n 2, 1) := by decide +kernel
theorem dX10_beginOf_22 : decode cX10_beginOf 22 = .ok (.bipush 26, 2) := by decide +kernel
theorem dX10_beginOf_24 : decode cX10_beginOf 24 = .ok (.if_icmp .ge 217, 3) := by decide +kernel
theorem dX10_beginOf_27 : decode cX10_beginOf 27 = .ok (.sipush 128, 3) := by decide +kernel
theorem dX10_beginOf_30 : decode cX10_beginOf 30 = .ok (.aload_n 0, 1) := by decide +kernel
theorem dX10_beginOf_31 : decode cX10_beginOf 31 = .ok (.getfield 124, 3) := by decide +kernel
theorem dX10_beginOf_34 : decode cX10_beginOf 34 = .ok (.imul, 1) := by decide +kernel
theorem dX10_beginOf_35 : decode cX10_beginOf 35 = .ok (.istore_n 3, 1) := by decide +kernel
theorem dX10_beginOf_36 : decode cX10_beginOf 36 = .ok (.iload_n 3, 1) := by decide +kernel
theorem dX10_beginOf_37 : decode cX10_beginOf 37 = .ok (.sipush 128, 3) := by decide +kernel
theorem dX10_beginOf_40 : decode cX10_beginOf 40 = .ok (.aload_n 0, 1) := by decide +kernel
theorem dX10_beginOf_41 : decode cX10_beginOf 41 = .ok (.getfield 124, 3) := by decide +kernel
theorem dX10_beginOf_44 : decode cX10_beginOf 44 = .ok (.imul, 1) := by decide +kernel
theorem dX10_beginOf_45 : decode cX10_beginOf 45 = .ok (.aload_n 0, 1) := by decide +kernel
theorem dX10_beginOf_46 : decode cX10_beginOf 46 = .ok (.getfield 60, 3) := by decide +kernel
theorem dX10_beginOf_49 : decode cX10_beginOf 49 = .ok (.aload_n 0, 1) := by decide +kernel
theorem dX10_beginOf_50 : decode cX10_beginOf 50 = .ok (.getfield 124, 3) := by decide +kernel
theorem dX10_beginOf_53 : decode cX10_beginOf 53 = .ok (.iaload, 1) := by decide +kernel
theorem dX10_beginOf_54 : decode cX10_beginOf 54 = .ok (.iadd, 1) := by decide +kernel
theorem dX10_beginOf_55 : decode cX10_beginOf 55 = .ok (.if_icmp .ge 180, 3) := by decide +kernel
theorem dX10_beginOf_58 : decode cX10_beginOf 58 = .ok (.aload_n 0, 1) := by decide +kernel
theorem dX10_beginOf_59 : decode cX10_beginOf 59 = .ok (.getfield 63, 3) := by decide +kernel
theorem dX10_beginOf_62 : decode cX10_beginOf 62 = .ok (.iload_n 3, 1) := by decide +kernel
theorem dX10_beginOf_63 : decode cX10_beginOf 63 = .ok (.iaload, 1) := by decide +kernel
theorem dX10_beginOf_64 : decode cX10_beginOf 64 = .ok (.iload_n 1, 1) := by decide +kernel
theorem dX10_beginOf_65 : decode cX10_beginOf 65 = .ok (.if_icmp .ne 49, 3) := by decide +kernel
theorem dX10_beginOf_68 : decode cX10_beginOf 68 = .ok (.aload_n 0, 1) := by decide +kernel
theorem dX10_beginOf_69 : decode cX10_beginOf 69 = .ok (.getfield 66, 3) := by decide +kernel
theorem dX10_beginOf_72 : decode cX10_beginOf 72 = .ok (.iload_n 3, 1) := by decide +kernel
theorem dX10_beginOf_73 : decode cX10_beginOf 73 = .ok (.iaload, 1) := by decide +kernel
theorem dX10_beginOf_74 : decode cX10_beginOf 74 = .ok (.iload_n 2, 1) := by decide +kernel
theorem dX10_beginOf_75 : decode cX10_beginOf 75 = .ok (.if_icmp .ne 39, 3) := by decide +kernel
theorem dX10_beginOf_78 : decode cX10_beginOf 78 = .ok (.aload_n 0, 1) := by decide +kernel
theorem dX10_beginOf_79 : decode cX10_beginOf 79 = .ok (.getfield 19, 3) := by decide +kernel
theorem dX10_beginOf_82 : decode cX10_beginOf 82 = .ok (.bipush 26, 2) := by decide +kernel
theorem dX10_beginOf_84 : decode cX10_beginOf 84 = .ok (.aload_n 0, 1) := by decide +kernel
theorem dX10_beginOf_85 : decode cX10_beginOf 85 = .ok (.getfield 39, 3) := by decide +kernel
theorem dX10_beginOf_88 : decode cX10_beginOf 88 = .ok (.iload_n 1, 1) := by decide +kernel
theorem dX10_beginOf_89 : decode cX10_beginOf 89 = .ok (.iaload, 1) := by decide +kernel
theorem dX10_beginOf_90 : decode cX10_beginOf 90 = .ok (.imul, 1) := by decide +kernel
theorem dX10_beginOf_91 : decode cX10_beginOf 91 = .ok (.iload_n 2, 1) := by decide +kernel
theorem dX10_beginOf_92 : decode cX10_beginOf 92 = .ok (.iadd, 1) := by decide +kernel
theorem dX10_beginOf_93 : decode cX10_beginOf 93 = .ok (.baload, 1) := by decide +kernel
theorem dX10_beginOf_94 : decode cX10_beginOf 94 = .ok (.ifCond .ne 16, 3) := by decide +kernel
theorem dX10_beginOf_97 : decode cX10_beginOf 97 = .ok (.aload_n 0, 1) := by decide +kernel
theorem dX10_beginOf_98 : decode cX10_beginOf 98 = .ok (.getfield 19, 3) := by decide +kernel
theorem dX10_beginOf_101 : decode cX10_beginOf 101 = .ok (.sipush 676, 3) := by decide +kernel
theorem dX10_beginOf_104 : decode cX10_beginOf 104 = .ok (.iload_n 2, 1) := by decide +kernel
theorem dX10_beginOf_105 : decode cX10_beginOf 105 = .ok (.iadd, 1) := by decide +kernel
theorem dX10_beginOf_106 : decode cX10_beginOf 106 = .ok (.baload, 1) := by decide +kernel
theorem dX10_beginOf_107 : decode cX10_beginOf 107 = .ok (.ifCond .eq 7, 3) := by decide +kernel
theorem dX10_beginOf_110 : decode cX10_beginOf 110 = .ok (.iconst 1, 1) := by decide +kernel
theorem dX10_beginOf_111 : decode cX10_beginOf 111 = .ok (.goto 4, 3) := by decide +kernel
theorem dX10_beginOf_114 : decode cX10_beginOf 114 = .ok (.iconst 0, 1) := by decide +kernel
theorem dX10_beginOf_115 : decode cX10_beginOf 115 = .ok (.istore 4, 2) := by decide +kernel
theorem dX10_beginOf_117 : decode cX10_beginOf 117 = .ok (.iload 4, 2) := by decide +kernel
theorem dX10_beginOf_119 : decode cX10_beginOf 119 = .ok (.ifCond .eq 110, 3) := by decide +kernel
theorem dX10_beginOf_122 : decode cX10_beginOf 122 = .ok (.iload_n 2, 1) := by decide +kernel
theorem dX10_beginOf_123 : decode cX10_beginOf 123 = .ok (.bipush 7, 2) := by decide +kernel
theorem dX10_beginOf_125 : decode cX10_beginOf 125 = .ok (.if_icmp .eq 9, 3) := by decide +kernel
theorem dX10_beginOf_128 : decode cX10_beginOf 128 = .ok (.iload_n 2, 1) := by decide +kernel
theorem dX10_beginOf_129 : decode cX10_beginOf 129 = .ok (.bipush 17, 2) := by decide +kernel
theorem dX10_beginOf_131 : decode cX10_beginOf 131 = .ok (.if_icmp .ne 11, 3) := by decide +kernel
theorem dX10_beginOf_134 : decode cX10_beginOf 134 = .ok (.aload_n 0, 1) := by decide +kernel
theorem dX10_beginOf_135 : decode cX10_beginOf 135 = .ok (.iload_n 3, 1) := by decide +kernel
theorem dX10_beginOf_136 : decode cX10_beginOf 136 = .ok (.invokevirtual 226, 3) := by decide +kernel
theorem dX10_beginOf_139 : decode cX10_beginOf 139 = .ok (.ifCond .eq 90, 3) := by decide +kernel
theorem dX10_beginOf_142 : decode cX10_beginOf 142 = .ok (.aload_n 0, 1) := by decide +kernel
theorem dX10_beginOf_143 : decode cX10_beginOf 143 = .ok (.bipush 32, 2) := by decide +kernel
theorem dX10_beginOf_145 : decode cX10_beginOf 145 = .ok (.invokevirtual 217, 3) := by decide +kernel
theorem dX10_beginOf_148 : decode cX10_beginOf 148 = .ok (.aload_n 0, 1) := by decide +kernel
theorem dX10_beginOf_149 : decode cX10_beginOf 149 = .ok (.bipush 97, 2) := by decide +kernel
theorem dX10_beginOf_151 : decode cX10_beginOf 151 = .ok (.iload_n 2, 1) := by decide +kernel
theorem dX10_beginOf_152 : decode cX10_beginOf 152 = .ok (.iadd, 1) := by decide +kernel
theorem dX10_beginOf_153 : decode cX10_beginOf 153 = .ok (.invokevirtual 217, 3) := by decide +kernel
theorem dX10_beginOf_156 : decode cX10_beginOf 156 = .ok (.aload_n 0, 1) := by decide +kernel
theorem dX10_beginOf_157 : decode cX10_beginOf 157 = .ok (.bipush 61, 2) := by decide +kernel
theorem dX10_beginOf_159 : decode cX10_beginOf 159 = .ok (.invokevirtual 217, 3) := by decide +kernel
theorem dX10_beginOf_162 : decode cX10_beginOf 162 = .ok (.aload_n 0, 1) := by decide +kernel
theorem dX10_beginOf_163 : decode cX10_beginOf 163 = .ok (.bipush 34, 2) := by decide +kernel
theorem dX10_beginOf_165 : decode cX10_beginOf 165 = .ok (.invokevirtual 217, 3) := by decide +kernel
theorem dX10_beginOf_168 : decode cX10_beginOf 168 = .ok (.sipush 256, 3) := by decide +kernel
theorem dX10_beginOf_171 : decode cX10_beginOf 171 = .ok (.aload_n 0, 1) := by decide +kernel
theorem dX10_beginOf_172 : decode cX10_beginOf 172 = .ok (.getfield 124, 3) := by decide +kernel
theorem dX10_beginOf_175 : decode cX10_beginOf 175 = .ok (.imul, 1) := by decide +kernel
theorem dX10_beginOf_176 : decode cX10_beginOf 176 = .ok (.aload_n 0, 1) := by decide +kernel
theorem dX10_beginOf_177 : decode cX10_beginOf 177 = .ok (.getfield 69, 3) := by decide +kernel
theorem dX10_beginOf_180 : decode cX10_beginOf 180 = .ok (.iload_n 3, 1) := by decide +kernel
theorem dX10_beginOf_181 : decode cX10_beginOf 181 = .ok (.iaload, 1) := by decide +kernel
theorem dX10_beginOf_182 : decode cX10_beginOf 182 = .ok (.iadd, 1) := by decide +kernel
theorem dX10_beginOf_183 : decode cX10_beginOf 183 = .ok (.istore 5, 2) := by decide +kernel
theorem dX10_beginOf_185 : decode cX10_beginOf 185 = .ok (.iload 5, 2) := by decide +kernel
theorem dX10_beginOf_187 : decode cX10_beginOf 187 = .ok (.sipush 256, 3) := by decide +kernel
theorem dX10_beginOf_190 : decode cX10_beginOf 190 = .ok (.aload_n 0, 1) := by decide +kernel
theorem dX10_beginOf_191 : decode cX10_beginOf 191 = .ok (.getfield 124, 3) := by decide +kernel
theorem dX10_beginOf_194 : decode cX10_beginOf 194 = .ok (.imul, 1) := by decide +kernel
theorem dX10_beginOf_195 : decode cX10_beginOf 195 = .ok (.aload_n 0, 1) := by decide +kernel
theorem dX10_beginOf_196 : decode cX10_beginOf 196 = .ok (.getfield 72, 3) := by decide +kernel
theorem dX10_beginOf_199 : decode cX10_beginOf 199 = .ok (.iload_n 3, 1) := by decide +kernel
theorem dX10_beginOf_200 : decode cX10_beginOf 200 = .ok (.iaload, 1) := by decide +kernel
theorem dX10_beginOf_201 : decode cX10_beginOf 201 = .ok (.iadd, 1) := by decide +kernel
theorem dX10_beginOf_202 : decode cX10_beginOf 202 = .ok (.if_icmp .ge 21, 3) := by decide +kernel
theorem dX10_beginOf_205 : decode cX10_beginOf 205 = .ok (.aload_n 0, 1) := by decide +kernel
theorem dX10_beginOf_206 : decode cX10_beginOf 206 = .ok (.aload_n 0, 1) := by decide +kernel
theorem dX10_beginOf_207 : decode cX10_beginOf 207 = .ok (.getfield 78, 3) := by decide +kernel
theorem dX10_beginOf_210 : decode cX10_beginOf 210 = .ok (.iload 5, 2) := by decide +kernel
theorem dX10_beginOf_212 : decode cX10_beginOf 212 = .ok (.iaload, 1) := by decide +kernel
theorem dX10_beginOf_213 : decode cX10_beginOf 213 = .ok (.iconst 1, 1) := by decide +kernel
theorem dX10_beginOf_214 : decode cX10_beginOf 214 = .ok (.invokevirtual 229, 3) := by decide +kernel
theorem dX10_beginOf_217 : decode cX10_beginOf 217 = .ok (.iinc 5 1, 3) := by decide +kernel
theorem dX10_beginOf_220 : decode cX10_beginOf 220 = .ok (.goto (-35), 3) := by decide +kernel
theorem dX10_beginOf_223 : decode cX10_beginOf 223 = .ok (.aload_n 0, 1) := by decide +kernel
theorem dX10_beginOf_224 : decode cX10_beginOf 224 = .ok (.bipush 34, 2) := by decide +kernel
theorem dX10_beginOf_226 : decode cX10_beginOf 226 = .ok (.invokevirtual 217, 3) := by decide +kernel
theorem dX10_beginOf_229 : decode cX10_beginOf 229 = .ok (.iinc 3 1, 3) := by decide +kernel
theorem dX10_beginOf_232 : decode cX10_beginOf 232 = .ok (.goto (-196), 3) := by decide +kernel
theorem dX10_beginOf_235 : decode cX10_beginOf 235 = .ok (.iinc 2 1, 3) := by decide +kernel
theorem dX10_beginOf_238 : decode cX10_beginOf 238 = .ok (.goto (-217), 3) := by decide +kernel
theorem dX10_beginOf_241 : decode cX10_beginOf 241 = .ok (.aload_n 0, 1) := by decide +kernel
theorem dX10_beginOf_242 : decode cX10_beginOf 242 = .ok (.bipush 62, 2) := by decide +kernel
theorem dX10_beginOf_244 : decode cX10_beginOf 244 = .ok (.invokevirtual 217, 3) := by decide +kernel
theorem dX10_beginOf_247 : decode cX10_beginOf 247 = .ok (.return_, 1) := by decide +kernel
theorem dX10_sift_0 : decode cX10_sift 0 = .ok (.aload_n 0, 1) := by decide +kernel
theorem dX10_sift_1 : decode cX10_sift 1 = .ok (.iconst 0, 1) := by decide +kernel
theorem dX10_sift_2 : decode cX10_sift 2 = .ok (.putfield 214, 3) := by decide +kernel
theorem dX10_sift_5 : decode cX10_sift 5 = .ok (.iconst 0, 1) := by decide +kernel
theorem dX10_sift_6 : decode cX10_sift 6 = .ok (.istore_n 1, 1) := by decide +kernel
theorem dX10_sift_7 : decode cX10_sift 7 = .ok (.sipush 256, 3) := by decide +kernel
theorem dX10_sift_10 : decode cX10_sift 10 = .ok (.aload_n 0, 1) := by decide +kernel
theorem dX10_sift_11 : decode cX10_sift 11 = .ok (.getfield 124, 3) := by decide +kernel
theorem dX10_sift_14 : decode cX10_sift 14 = .ok (.imul, 1) := by decide +kernel
theorem dX10_sift_15 : decode cX10_sift 15 = .ok (.istore_n 2, 1) := by decide +kernel
theorem dX10_sift_16 : decode cX10_sift 16 = .ok (.iload_n 2, 1) := by decide +kernel
theorem dX10_sift_17 : decode cX10_sift 17 = .ok (.sipush 256, 3) := by decide +kernel
theorem dX10_sift_20 : decode cX10_sift 20 = .ok (.aload_n 0, 1) := by decide +kernel
theorem dX10_sift_21 : decode cX10_sift 21 = .ok (.getfield 124, 3) := by decide +kernel
theorem dX10_sift_24 : decode cX10_sift 24 = .ok (.imul, 1) := by decide +kernel
theorem dX10_sift_25 : decode cX10_sift 25 = .ok (.aload_n 0, 1) := by decide +kernel
theorem dX10_sift_26 : decode cX10_sift 26 = .ok (.getfield 33, 3) := by decide +kernel
theorem dX10_sift_29 : decode cX10_sift 29 = .ok (.aload_n 0, 1) := by decide +kernel
theorem dX10_sift_30 : decode cX10_sift 30 = .ok (.getfield 124, 3) := by decide +kernel
theorem dX10_sift_33 : decode cX10_sift 33 = .ok (.iaload, 1) := by decide +kernel
theorem dX10_sift_34 : decode cX10_sift 34 = .ok (.iadd, 1) := by decide +kernel
theorem dX10_sift_35 : decode cX10_sift 35 = .ok (.if_icmp .ge 240, 3) := by decide +kernel
theorem dX10_sift_38 : decode cX10_sift 38 = .ok (.iload_n 1, 1) := by decide +kernel
theorem dX10_sift_39 : decode cX10_sift 39 = .ok (.ifCond .le 36, 3) := by decide +kernel
theorem dX10_sift_42 : decode cX10_sift 42 = .ok (.aload_n 0, 1) := by decide +kernel
theorem dX10_sift_43 : decode cX10_sift 43 = .ok (.getfield 84, 3) := by decide +kernel
theorem dX10_sift_46 : decode cX10_sift 46 = .ok (.iload_n 1, 1) := by decide +kernel
theorem dX10_sift_47 : decode cX10_sift 47 = .ok (.iconst 1, 1) := by decide +kernel
theorem dX10_sift_48 : decode cX10_sift 48 = .ok (.isub, 1) := by decide +kernel
theorem dX10_sift_49 : decode cX10_sift 49 = .ok (.iaload, 1) := by decide +kernel
theorem dX10_sift_50 : decode cX10_sift 50 = .ok (.aload_n 0, 1) := by decide +kernel
theorem dX10_sift_51 : decode cX10_sift 51 = .ok (.getfield 42, 3) := by decide +kernel
theorem dX10_sift_54 : decode cX10_sift 54 = .ok (.iload_n 2, 1) := by decide +kernel
theorem dX10_sift_55 : decode cX10_sift 55 = .ok (.iaload, 1) := by decide +kernel
theorem dX10_sift_56 : decode cX10_sift 56 = .ok (.if_icmp .eq 19, 3) := by decide +kernel
theorem dX10_sift_59 : decode cX10_sift 59 = .ok (.iinc 1 (-1), 3) := by decide +kernel
theorem dX10_sift_62 : decode cX10_sift 62 = .ok (.aload_n 0, 1) := by decide +kernel
theorem dX10_sift_63 : decode cX10_sift 63 = .ok (.aload_n 0, 1) := by decide +kernel
theorem dX10_sift_64 : decode cX10_sift 64 = .ok (.getfield 84, 3) := by decide +kernel
theorem dX10_sift_67 : decode cX10_sift 67 = .ok (.iload_n 1, 1) := by decide +kernel
theorem dX10_sift_68 : decode cX10_sift 68 = .ok (.iaload, 1) := by decide +kernel
theorem dX10_sift_69 : decode cX10_sift 69 = .ok (.invokevirtual 233, 3) := by decide +kernel
theorem dX10_sift_72 : decode cX10_sift 72 = .ok (.goto (-34), 3) := by decide +kernel
theorem dX10_sift_75 : decode cX10_sift 75 = .ok (.aload_n 0, 1) := by decide +kernel
theorem dX10_sift_76 : decode cX10_sift 76 = .ok (.getfield 36, 3) := by decide +kernel
theorem dX10_sift_79 : decode cX10_sift 79 = .ok (.iload_n 2, 1) := by decide +kernel
theorem dX10_sift_80 : decode cX10_sift 80 = .ok (.iaload, 1) := by decide +kernel
theorem dX10_sift_81 : decode cX10_sift 81 = .ok (.iconst 3, 1) := by decide +kernel
theorem dX10_sift_82 : decode cX10_sift 82 = .ok (.if_icmp .ne 7, 3) := by decide +kernel
theorem dX10_sift_85 : decode cX10_sift 85 = .ok (.iconst 1, 1) := by decide +kernel
theorem dX10_sift_86 : decode cX10_sift 86 = .ok (.goto 4, 3) := by decide +kernel
theorem dX10_sift_89 : decode cX10_sift 89 = .ok (.iconst 0, 1) := by decide +kernel
theorem dX10_sift_90 : decode cX10_sift 90 = .ok (.istore_n 3, 1) := by decide +kernel
theorem dX10_sift_91 : decode cX10_sift 91 = .ok (.iload_n 3, 1) := by decide +kernel
theorem dX10_sift_92 : decode cX10_sift 92 = .ok (.ifCond .eq 33, 3) := by decide +kernel
theorem dX10_sift_95 : decode cX10_sift 95 = .ok (.aload_n 0, 1) := by decide +kernel
theorem dX10_sift_96 : decode cX10_sift 96 = .ok (.getfield 39, 3) := by decide +kernel
theorem dX10_sift_99 : decode cX10_sift 99 = .ok (.iload_n 2, 1) := by decide +kernel
theorem dX10_sift_100 : decode cX10_sift 100 = .ok (.iaload, 1) := by decide +kernel
theorem dX10_sift_101 : decode cX10_sift 101 = .ok (.bipush 26, 2) := by decide +kernel
theorem dX10_sift_103 : decode cX10_sift 103 = .ok (.if_icmp .ge 22, 3) := by decide +kernel
theorem dX10_sift_106 : decode cX10_sift 106 = .ok (.aload_n 0, 1) := by decide +kernel
theorem dX10_sift_107 : decode cX10_sift 107 = .ok (.getfield 16, 3) := by decide +kernel
theorem dX10_sift_110 : decode cX10_sift 110 = .ok (.aload_n 0, 1) := by decide +kernel
theorem dX10_sift_111 : decode cX10_sift 111 = .ok (.getfield 39, 3) := by decide +kernel
theorem dX10_sift_114 : decode cX10_sift 114 = .ok (.iload_n 2, 1) := by decide +kernel
theorem dX10_sift_115 : decode cX10_sift 115 = .ok (.iaload, 1) := by decide +kernel
theorem dX10_sift_116 : decode cX10_sift 116 = .ok (.iaload, 1) := by decide +kernel
theorem dX10_sift_117 : decode cX10_sift 117 = .ok (.iconst 2, 1) := by decide +kernel
theorem dX10_sift_118 : decode cX10_sift 118 = .ok (.if_icmp .ne 7, 3) := by decide +kernel
theorem dX10_sift_121 : decode cX10_sift 121 = .ok (.iconst 1, 1) := by decide +kernel
theorem dX10_sift_122 : decode cX10_sift 122 = .ok (.goto 4, 3) := by decide +kernel
theorem dX10_sift_125 : decode cX10_sift 125 = .ok (.iconst 0, 1) := by decide +kernel
theorem dX10_sift_126 : decode cX10_sift 126 = .ok (.istore 4, 2) := by decide +kernel
theorem dX10_sift_128 : decode cX10_sift 128 = .ok (.aload_n 0, 1) := by decide +kernel
theorem dX10_sift_129 : decode cX10_sift 129 = .ok (.getfield 57, 3) := by decide +kernel
theorem dX10_sift_132 : decode cX10_sift 132 = .ok (.iload_n 2, 1) := by decide +kernel
theorem dX10_sift_133 : decode cX10_sift 133 = .ok (.iload 4, 2) := by decide +kernel
theorem dX10_sift_135 : decode cX10_sift 135 = .ok (.ifCond .ne 27, 3) := by decide +kernel
theorem dX10_sift_138 : decode cX10_sift 138 = .ok (.aload_n 0, 1) := by decide +kernel
theorem dX10_sift_139 : decode cX10_sift 139 = .ok (.getfield 42, 3) := by decide +kernel
theorem dX10_sift_142 : decode cX10_sift 142 = .ok (.iload_n 2, 1) := by decide +kernel
theorem dX10_sift_143 : decode cX10_sift 143 = .ok (.iaload, 1) := by decide +kernel
theorem dX10_sift_144 : decode cX10_sift 144 = .ok (.iconst (-1), 1) := by decide +kernel
theorem dX10_sift_145 : decode cX10_sift 145 = .ok (.if_icmp .eq 21, 3) := by decide +kernel
theorem dX10_sift_148 : decode cX10_sift 148 = .ok (.aload_n 0, 1) := by decide +kernel
theorem dX10_sift_149 : decode cX10_sift 149 = .ok (.getfield 57, 3) := by decide +kernel
theorem dX10_sift_152 : decode cX10_sift 152 = .ok (.aload_n 0, 1) := by decide +kernel
theorem dX10_sift_153 : decode cX10_sift 153 = .ok (.getfield 42, 3) := by decide +kernel
theorem dX10_sift_156 : decode cX10_sift 156 = .ok (.iload_n 2, 1) := by decide +kernel
theorem dX10_sift_157 : decode cX10_sift 157 = .ok (.iaload, 1) := by decide +kernel
theorem dX10_sift_158 : decode cX10_sift 158 = .ok (.baload, 1) := by decide +kernel
theorem dX10_sift_159 : decode cX10_sift 159 = .ok (.ifCond .eq 7, 3) := by decide +kernel
theorem dX10_sift_162 : decode cX10_sift 162 = .ok (.iconst 1, 1) := by decide +kernel
theorem dX10_sift_163 : decode cX10_sift 163 = .ok (.goto 4, 3) := by decide +kernel
theorem dX10_sift_166 : decode cX10_sift 166 = .ok (.iconst 0, 1) := by decide +kernel
theorem dX10_sift_167 : decode cX10_sift 167 = .ok (.bastore, 1) := by decide +kernel
theorem dX10_sift_168 : decode cX10_sift 168 = .ok (.aload_n 0, 1) := by decide +kernel
theorem dX10_sift_169 : decode cX10_sift 169 = .ok (.getfield 36, 3) := by decide +kernel
theorem dX10_sift_172 : decode cX10_sift 172 = .ok (.iload_n 2, 1) := by decide +kernel
theorem dX10_sift_173 : decode cX10_sift 173 = .ok (.iaload, 1) := by decide +kernel
theorem dX10_sift_174 : decode cX10_sift 174 = .ok (.iconst 1, 1) := by decide +kernel
theorem dX10_sift_175 : decode cX10_sift 175 = .ok (.if_icmp .ne 67, 3) := by decide +kernel
theorem dX10_sift_178 : decode cX10_sift 178 = .ok (.aload_n 0, 1) := by decide +kernel
theorem dX10_sift_179 : decode cX10_sift 179 = .ok (.getfield 57, 3) := by decide +kernel
theorem dX10_sift_182 : decode cX10_sift 182 = .ok (.iload_n 2, 1) := by decide +kernel
theorem dX10_sift_183 : decode cX10_sift 183 = .ok (.baload, 1) := by decide +kernel
theorem dX10_sift_184 : decode cX10_sift 184 = .ok (.ifCond .ne 58, 3) := by decide +kernel
theorem dX10_sift_187 : decode cX10_sift 187 = .ok (.sipush 256, 3) := by decide +kernel
theorem dX10_sift_190 : decode cX10_sift 190 = .ok (.aload_n 0, 1) := by decide +kernel
theorem dX10_sift_191 : decode cX10_sift 191 = .ok (.getfield 124, 3) := by decide +kernel
theorem dX10_sift_194 : decode cX10_sift 194 = .ok (.imul, 1) := by decide +kernel
theorem dX10_sift_195 : decode cX10_sift 195 = .ok (.aload_n 0, 1) := by decide +kernel
theorem dX10_sift_196 : decode cX10_sift 196 = .ok (.getfield 51, 3) := by decide +kernel
theorem dX10_sift_199 : decode cX10_sift 199 = .ok (.iload_n 2, 1) := by decide +kernel
theorem dX10_sift_200 : decode cX10_sift 200 = .ok (.iaload, 1) := by decide +kernel
theorem dX10_sift_201 : decode cX10_sift 201 = .ok (.iadd, 1) := by decide +kernel
theorem dX10_sift_202 : decode cX10_sift 202 = .ok (.istore 5, 2) := by decide +kernel
theorem dX10_sift_204 : decode cX10_sift 204 = .ok (.iload 5, 2) := by decide +kernel
theorem dX10_sift_206 : decode cX10_sift 206 = .ok (.sipush 256, 3) := by decide +kernel
theorem dX10_sift_209 : decode cX10_sift 209 = .ok (.aload_n 0, 1) := by decide +kernel
theorem dX10_sift_210 : decode cX10_sift 210 = .ok (.getfield 124, 3) := by decide +kernel
theorem dX10_sift_213 : decode cX10_sift 213 = .ok (.imul, 1) := by decide +kernel
theorem dX10_sift_214 : decode cX10_sift 214 = .ok (.aload_n 0, 1) := by decide +kernel
theorem dX10_sift_215 : decode cX10_sift 215 = .ok (.getfield 54, 3) := by decide +kernel
theorem dX10_sift_218 : decode cX10_sift 218 = .ok (.iload_n 2, 1) := by decide +kernel
theorem dX10_sift_219 : decode cX10_sift 219 = .ok (.iaload, 1) := by decide +kernel
theorem dX10_sift_220 : decode cX10_sift 220 = .ok (.iadd, 1) := by decide +kernel
theorem dX10_sift_221 : decode cX10_sift 221 = .ok (.if_icmp .ge 21, 3) := by decide +kernel
theorem dX10_sift_224 : decode cX10_sift 224 = .ok (.aload_n 0, 1) := by decide +kernel
theorem dX10_sift_225 : decode cX10_sift 225 = .ok (.aload_n 0, 1) := by decide +kernel
theorem dX10_sift_226 : decode cX10_sift 226 = .ok (.getfield 78, 3) := by decide +kernel
theorem dX10_sift_229 : decode cX10_sift 229 = .ok (.iload 5, 2) := by decide +kernel
theorem dX10_sift_231 : decode cX10_sift 231 = .ok (.iaload, 1) := by decide +kernel
theorem dX10_sift_232 : decode cX10_sift 232 = .ok (.iconst 0, 1) := by decide +kernel
theorem dX10_sift_233 : decode cX10_sift 233 = .ok (.invokevirtual 229, 3) := by decide +kernel
theorem dX10_sift_236 : decode cX10_sift 236 = .ok (.iinc 5 1, 3) := by decide +kernel
theorem dX10_sift_239 : decode cX10_sift 239 = .ok (.goto (-35), 3) := by decide +kernel
theorem dX10_sift_242 : decode cX10_sift 242 = .ok (.aload_n 0, 1) := by decide +kernel
theorem dX10_sift_243 : decode cX10_sift 243 = .ok (.iload_n 2, 1) := by decide +kernel
theorem dX10_sift_244 : decode cX10_sift 244 = .ok (.invokevirtual 220, 3) := by decide +kernel
theorem dX10_sift_247 : decode cX10_sift 247 = .ok (.ifCond .eq 8, 3) := by decide +kernel
theorem dX10_sift_250 : decode cX10_sift 250 = .ok (.aload_n 0, 1) := by decide +kernel
theorem dX10_sift_251 : decode cX10_sift 251 = .ok (.iload_n 2, 1) := by decide +kernel
theorem dX10_sift_252 : decode cX10_sift 252 = .ok (.invokevirtual 236, 3) := by decide +kernel
theorem dX10_sift_255 : decode cX10_sift 255 = .ok (.iload_n 3, 1) := by decide +kernel
theorem dX10_sift_256 : decode cX10_sift 256 = .ok (.ifCond .eq 13, 3) := by decide +kernel
theorem dX10_sift_259 : decode cX10_sift 259 = .ok (.aload_n 0, 1) := by decide +kernel
theorem dX10_sift_260 : decode cX10_sift 260 = .ok (.getfield 84, 3) := by decide +kernel
theorem dX10_sift_263 : decode cX10_sift 263 = .ok (.iload_n 1, 1) := by decide +kernel
theorem dX10_sift_264 : decode cX10_sift 264 = .ok (.iload_n 2, 1) := by decide +kernel
theorem dX10_sift_265 : decode cX10_sift 265 = .ok (.iastore, 1) := by decide +kernel
theorem dX10_sift_266 : decode cX10_sift 266 = .ok (.iinc 1 1, 3) := by decide +kernel
theorem dX10_sift_269 : decode cX10_sift 269 = .ok (.iinc 2 1, 3) := by decide +kernel
theorem dX10_sift_272 : decode cX10_sift 272 = .ok (.goto (-256), 3) := by decide +kernel
theorem dX10_sift_275 : decode cX10_sift 275 = .ok (.iload_n 1, 1) := by decide +kernel
theorem dX10_sift_276 : decode cX10_sift 276 = .ok (.ifCond .le 19, 3) := by decide +kernel
theorem dX10_sift_279 : decode cX10_sift 279 = .ok (.iinc 1 (-1), 3) := by decide +kernel
theorem dX10_sift_282 : decode cX10_sift 282 = .ok (.aload_n 0, 1) := by decide +kernel
theorem dX10_sift_283 : decode cX10_sift 283 = .ok (.aload_n 0, 1) := by decide +kernel
theorem dX10_sift_284 : decode cX10_sift 284 = .ok (.getfield 84, 3) := by decide +kernel
theorem dX10_sift_287 : decode cX10_sift 287 = .ok (.iload_n 1, 1) := by decide +kernel
theorem dX10_sift_288 : decode cX10_sift 288 = .ok (.iaload, 1) := by decide +kernel
theorem dX10_sift_289 : decode cX10_sift 289 = .ok (.invokevirtual 233, 3) := by decide +kernel
theorem dX10_sift_292 : decode cX10_sift 292 = .ok (.goto (-17), 3) := by decide +kernel
theorem dX10_sift_295 : decode cX10_sift 295 = .ok (.return_, 1) := by decide +kernel
theorem dX10_changed_0 : decode cX10_changed 0 = .ok (.aload_n 0, 1) := by decide +kernel
theorem dX10_changed_1 : decode cX10_changed 1 = .ok (.getfield 214, 3) := by decide +kernel
theorem dX10_changed_4 : decode cX10_changed 4 = .ok (.aload_n 0, 1) := by decide +kernel
theorem dX10_changed_5 : decode cX10_changed 5 = .ok (.getfield 107, 3) := by decide +kernel
theorem dX10_changed_8 : decode cX10_changed 8 = .ok (.if_icmp .ne 7, 3) := by decide +kernel
theorem dX10_changed_11 : decode cX10_changed 11 = .ok (.iconst 1, 1) := by decide +kernel
theorem dX10_changed_12 : decode cX10_changed 12 = .ok (.goto 4, 3) := by decide +kernel
theorem dX10_changed_15 : decode cX10_changed 15 = .ok (.iconst 0, 1) := by decide +kernel
theorem dX10_changed_16 : decode cX10_changed 16 = .ok (.istore_n 1, 1) := by decide +kernel
theorem dX10_changed_17 : decode cX10_changed 17 = .ok (.iconst 0, 1) := by decide +kernel
theorem dX10_changed_18 : decode cX10_changed 18 = .ok (.istore_n 2, 1) := by decide +kernel
theorem dX10_changed_19 : decode cX10_changed 19 = .ok (.iload_n 2, 1) := by decide +kernel
theorem dX10_changed_20 : decode cX10_changed 20 = .ok (.aload_n 0, 1) := by decide +kernel
theorem dX10_changed_21 : decode cX10_changed 21 = .ok (.getfield 107, 3) := by decide +kernel
theorem dX10_changed_24 : decode cX10_changed 24 = .ok (.if_icmp .ge 34, 3) := by decide +kernel
theorem dX10_changed_27 : decode cX10_changed 27 = .ok (.iload_n 1, 1) := by decide +kernel
theorem dX10_changed_28 : decode cX10_changed 28 = .ok (.ifCond .eq 30, 3) := by decide +kernel
theorem dX10_changed_31 : decode cX10_changed 31 = .ok (.aload_n 0, 1) := by decide +kernel
theorem dX10_changed_32 : decode cX10_changed 32 = .ok (.getfield 30, 3) := by decide +kernel
theorem dX10_changed_35 : decode cX10_changed 35 = .ok (.iload_n 2, 1) := by decide +kernel
theorem dX10_changed_36 : decode cX10_changed 36 = .ok (.iaload, 1) := by decide +kernel
theorem dX10_changed_37 : decode cX10_changed 37 = .ok (.aload_n 0, 1) := by decide +kernel
theorem dX10_changed_38 : decode cX10_changed 38 = .ok (.getfield 27, 3) := by decide +kernel
theorem dX10_changed_41 : decode cX10_changed 41 = .ok (.iload_n 2, 1) := by decide +kernel
theorem dX10_changed_42 : decode cX10_changed 42 = .ok (.iaload, 1) := by decide +kernel
theorem dX10_changed_43 : decode cX10_changed 43 = .ok (.if_icmp .ne 7, 3) := by decide +kernel
theorem dX10_changed_46 : decode cX10_changed 46 = .ok (.iconst 1, 1) := by decide +kernel
theorem dX10_changed_47 : decode cX10_changed 47 = .ok (.goto 4, 3) := by decide +kernel
theorem dX10_changed_50 : decode cX10_changed 50 = .ok (.iconst 0, 1) := by decide +kernel
theorem dX10_changed_51 : decode cX10_changed 51 = .ok (.istore_n 1, 1) := by decide +kernel
theorem dX10_changed_52 : decode cX10_changed 52 = .ok (.iinc 2 1, 3) := by decide +kernel
theorem dX10_changed_55 : decode cX10_changed 55 = .ok (.goto (-36), 3) := by decide +kernel
theorem dX10_changed_58 : decode cX10_changed 58 = .ok (.iload_n 1, 1) := by decide +kernel
theorem dX10_changed_59 : decode cX10_changed 59 = .ok (.ifCond .ne 7, 3) := by decide +kernel
theorem dX10_changed_62 : decode cX10_changed 62 = .ok (.iconst 1, 1) := by decide +kernel
theorem dX10_changed_63 : decode cX10_changed 63 = .ok (.goto 4, 3) := by decide +kernel
theorem dX10_changed_66 : decode cX10_changed 66 = .ok (.iconst 0, 1) := by decide +kernel
theorem dX10_changed_67 : decode cX10_changed 67 = .ok (.ireturn, 1) := by decide +kernel
theorem dX10_clean_0 : decode cX10_clean 0 = .ok (.aload_n 0, 1) := by decide +kernel
theorem dX10_clean_1 : decode cX10_clean 1 = .ok (.aload_n 0, 1) := by decide +kernel
theorem dX10_clean_2 : decode cX10_clean 2 = .ok (.getfield 96, 3) := by decide +kernel
theorem dX10_clean_5 : decode cX10_clean 5 = .ok (.putfield 107, 3) := by decide +kernel
theorem dX10_clean_8 : decode cX10_clean 8 = .ok (.iconst 0, 1) := by decide +kernel
theorem dX10_clean_9 : decode cX10_clean 9 = .ok (.istore_n 1, 1) := by decide +kernel
theorem dX10_clean_10 : decode cX10_clean 10 = .ok (.iload_n 1, 1) := by decide +kernel
theorem dX10_clean_11 : decode cX10_clean 11 = .ok (.aload_n 0, 1) := by decide +kernel
theorem dX10_clean_12 : decode cX10_clean 12 = .ok (.getfield 107, 3) := by decide +kernel
theorem dX10_clean_15 : decode cX10_clean 15 = .ok (.if_icmp .ge 21, 3) := by decide +kernel
theorem dX10_clean_18 : decode cX10_clean 18 = .ok (.aload_n 0, 1) := by decide +kernel
theorem dX10_clean_19 : decode cX10_clean 19 = .ok (.getfield 27, 3) := by decide +kernel
theorem dX10_clean_22 : decode cX10_clean 22 = .ok (.iload_n 1, 1) := by decide +kernel
theorem dX10_clean_23 : decode cX10_clean 23 = .ok (.aload_n 0, 1) := by decide +kernel
theorem dX10_clean_24 : decode cX10_clean 24 = .ok (.getfield 7, 3) := by decide +kernel
theorem dX10_clean_27 : decode cX10_clean 27 = .ok (.iload_n 1, 1) := by decide +kernel
theorem dX10_clean_28 : decode cX10_clean 28 = .ok (.iaload, 1) := by decide +kernel
theorem dX10_clean_29 : decode cX10_clean 29 = .ok (.iastore, 1) := by decide +kernel
theorem dX10_clean_30 : decode cX10_clean 30 = .ok (.iinc 1 1, 3) := by decide +kernel
theorem dX10_clean_33 : decode cX10_clean 33 = .ok (.goto (-23), 3) := by decide +kernel
theorem dX10_clean_36 : decode cX10_clean 36 = .ok (.aload_n 0, 1) := by decide +kernel
theorem dX10_clean_37 : decode cX10_clean 37 = .ok (.iconst 0, 1) := by decide +kernel
theorem dX10_clean_38 : decode cX10_clean 38 = .ok (.putfield 239, 3) := by decide +kernel
theorem dX10_clean_41 : decode cX10_clean 41 = .ok (.aload_n 0, 1) := by decide +kernel
theorem dX10_clean_42 : decode cX10_clean 42 = .ok (.iconst 0, 1) := by decide +kernel
theorem dX10_clean_43 : decode cX10_clean 43 = .ok (.putfield 242, 3) := by decide +kernel
theorem dX10_clean_46 : decode cX10_clean 46 = .ok (.iconst 1, 1) := by decide +kernel
theorem dX10_clean_47 : decode cX10_clean 47 = .ok (.istore_n 1, 1) := by decide +kernel
theorem dX10_clean_48 : decode cX10_clean 48 = .ok (.iload_n 1, 1) := by decide +kernel
theorem dX10_clean_49 : decode cX10_clean 49 = .ok (.ifCond .eq 106, 3) := by decide +kernel
theorem dX10_clean_52 : decode cX10_clean 52 = .ok (.aload_n 0, 1) := by decide +kernel
theorem dX10_clean_53 : decode cX10_clean 53 = .ok (.aload_n 0, 1) := by decide +kernel
theorem dX10_clean_54 : decode cX10_clean 54 = .ok (.getfield 239, 3) := by decide +kernel
theorem dX10_clean_57 : decode cX10_clean 57 = .ok (.ifCond .ne 7, 3) := by decide +kernel
theorem dX10_clean_60 : decode cX10_clean 60 = .ok (.iconst 0, 1) := by decide +kernel
theorem dX10_clean_61 : decode cX10_clean 61 = .ok (.goto 4, 3) := by decide +kernel
theorem dX10_clean_64 : decode cX10_clean 64 = .ok (.iconst 1, 1) := by decide +kernel
theorem dX10_clean_65 : decode cX10_clean 65 = .ok (.putfield 124, 3) := by decide +kernel
theorem dX10_clean_68 : decode cX10_clean 68 = .ok (.aload_n 0, 1) := by decide +kernel
theorem dX10_clean_69 : decode cX10_clean 69 = .ok (.dup, 1) := by decide +kernel
theorem dX10_clean_70 : decode cX10_clean 70 = .ok (.getfield 239, 3) := by decide +kernel
theorem dX10_clean_73 : decode cX10_clean 73 = .ok (.iconst 1, 1) := by decide +kernel
theorem dX10_clean_74 : decode cX10_clean 74 = .ok (.iadd, 1) := by decide +kernel
theorem dX10_clean_75 : decode cX10_clean 75 = .ok (.putfield 239, 3) := by decide +kernel
theorem dX10_clean_78 : decode cX10_clean 78 = .ok (.aload_n 0, 1) := by decide +kernel
theorem dX10_clean_79 : decode cX10_clean 79 = .ok (.invokevirtual 245, 3) := by decide +kernel
theorem dX10_clean_82 : decode cX10_clean 82 = .ok (.aload_n 0, 1) := by decide +kernel
theorem dX10_clean_83 : decode cX10_clean 83 = .ok (.invokevirtual 248, 3) := by decide +kernel
theorem dX10_clean_86 : decode cX10_clean 86 = .ok (.aload_n 0, 1) := by decide +kernel
theorem dX10_clean_87 : decode cX10_clean 87 = .ok (.invokevirtual 251, 3) := by decide +kernel
theorem dX10_clean_90 : decode cX10_clean 90 = .ok (.istore_n 1, 1) := by decide +kernel
theorem dX10_clean_91 : decode cX10_clean 91 = .ok (.iload_n 1, 1) := by decide +kernel
theorem dX10_clean_92 : decode cX10_clean 92 = .ok (.ifCond .eq 24, 3) := by decide +kernel
theorem dX10_clean_95 : decode cX10_clean 95 = .ok (.aload_n 0, 1) := by decide +kernel
theorem dX10_clean_96 : decode cX10_clean 96 = .ok (.getfield 214, 3) := by decide +kernel
theorem dX10_clean_99 : decode cX10_clean 99 = .ok (.sipush 200, 3) := by decide +kernel
theorem dX10_clean_102 : decode cX10_clean 102 = .ok (.if_icmp .gt 12, 3) := by decide +kernel
theorem dX10_clean_105 : decode cX10_clean 105 = .ok (.aload_n 0, 1) := by decide +kernel
theorem dX10_clean_106 : decode cX10_clean 106 = .ok (.getfield 239, 3) := by decide +kernel
theorem dX10_clean_109 : decode cX10_clean 109 = .ok (.bipush 6, 2) := by decide +kernel
theorem dX10_clean_111 : decode cX10_clean 111 = .ok (.if_icmp .ne 5, 3) := by decide +kernel
theorem dX10_clean_114 : decode cX10_clean 114 = .ok (.iconst (-1), 1) := by decide +kernel
theorem dX10_clean_115 : decode cX10_clean 115 = .ok (.ireturn, 1) := by decide +kernel
theorem dX10_clean_116 : decode cX10_clean 116 = .ok (.aload_n 0, 1) := by decide +kernel
theorem dX10_clean_117 : decode cX10_clean 117 = .ok (.aload_n 0, 1) := by decide +kernel
theorem dX10_clean_118 : decode cX10_clean 118 = .ok (.getfield 214, 3) := by decide +kernel
theorem dX10_clean_121 : decode cX10_clean 121 = .ok (.putfield 107, 3) := by decide +kernel
theorem dX10_clean_124 : decode cX10_clean 124 = .ok (.iconst 0, 1) := by decide +kernel
theorem dX10_clean_125 : decode cX10_clean 125 = .ok (.istore_n 2, 1) := by decide +kernel
theorem dX10_clean_126 : decode cX10_clean 126 = .ok (.iload_n 2, 1) := by decide +kernel
theorem dX10_clean_127 : decode cX10_clean 127 = .ok (.aload_n 0, 1) := by decide +kernel
theorem dX10_clean_128 : decode cX10_clean 128 = .ok (.getfield 107, 3) := by decide +kernel
theorem dX10_clean_131 : decode cX10_clean 131 = .ok (.if_icmp .ge 21, 3) := by decide +kernel
theorem dX10_clean_134 : decode cX10_clean 134 = .ok (.aload_n 0, 1) := by decide +kernel
theorem dX10_clean_135 : decode cX10_clean 135 = .ok (.getfield 27, 3) := by decide +kernel
theorem dX10_clean_138 : decode cX10_clean 138 = .ok (.iload_n 2, 1) := by decide +kernel
theorem dX10_clean_139 : decode cX10_clean 139 = .ok (.aload_n 0, 1) := by decide +kernel
theorem dX10_clean_140 : decode cX10_clean 140 = .ok (.getfield 30, 3) := by decide +kernel
theorem dX10_clean_143 : decode cX10_clean 143 = .ok (.iload_n 2, 1) := by decide +kernel
theorem dX10_clean_144 : decode cX10_clean 144 = .ok (.iaload, 1) := by decide +kernel
theorem dX10_clean_145 : decode cX10_clean 145 = .ok (.iastore, 1) := by decide +kernel
theorem dX10_clean_146 : decode cX10_clean 146 = .ok (.iinc 2 1, 3) := by decide +kernel
theorem dX10_clean_149 : decode cX10_clean 149 = .ok (.goto (-23), 3) := by decide +kernel
theorem dX10_clean_152 : decode cX10_clean 152 = .ok (.goto (-104), 3) := by decide +kernel
theorem dX10_clean_155 : decode cX10_clean 155 = .ok (.aload_n 0, 1) := by decide +kernel
theorem dX10_clean_156 : decode cX10_clean 156 = .ok (.aload_n 0, 1) := by decide +kernel
theorem dX10_clean_157 : decode cX10_clean 157 = .ok (.getfield 107, 3) := by decide +kernel
theorem dX10_clean_160 : decode cX10_clean 160 = .ok (.putfield 242, 3) := by decide +kernel
theorem dX10_clean_163 : decode cX10_clean 163 = .ok (.iconst 0, 1) := by decide +kernel
theorem dX10_clean_164 : decode cX10_clean 164 = .ok (.istore_n 2, 1) := by decide +kernel
theorem dX10_clean_165 : decode cX10_clean 165 = .ok (.iload_n 2, 1) := by decide +kernel
theorem dX10_clean_166 : decode cX10_clean 166 = .ok (.aload_n 0, 1) := by decide +kernel
theorem dX10_clean_167 : decode cX10_clean 167 = .ok (.getfield 107, 3) := by decide +kernel
theorem dX10_clean_170 : decode cX10_clean 170 = .ok (.if_icmp .ge 21, 3) := by decide +kernel
theorem dX10_clean_173 : decode cX10_clean 173 = .ok (.aload_n 0, 1) := by decide +kernel
theorem dX10_clean_174 : decode cX10_clean 174 = .ok (.getfield 13, 3) := by decide +kernel
theorem dX10_clean_177 : decode cX10_clean 177 = .ok (.iload_n 2, 1) := by decide +kernel
theorem dX10_clean_178 : decode cX10_clean 178 = .ok (.aload_n 0, 1) := by decide +kernel
theorem dX10_clean_179 : decode cX10_clean 179 = .ok (.getfield 27, 3) := by decide +kernel
theorem dX10_clean_182 : decode cX10_clean 182 = .ok (.iload_n 2, 1) := by decide +kernel
theorem dX10_clean_183 : decode cX10_clean 183 = .ok (.iaload, 1) := by decide +kernel
theorem dX10_clean_184 : decode cX10_clean 184 = .ok (.iastore, 1) := by decide +kernel
theorem dX10_clean_185 : decode cX10_clean 185 = .ok (.iinc 2 1, 3) := by decide +kernel
theorem dX10_clean_188 : decode cX10_clean 188 = .ok (.goto (-23), 3) := by decide +kernel
theorem dX10_clean_191 : decode cX10_clean 191 = .ok (.aload_n 0, 1) := by decide +kernel
theorem dX10_clean_192 : decode cX10_clean 192 = .ok (.getfield 107, 3) := by decide +kernel
theorem dX10_clean_195 : decode cX10_clean 195 = .ok (.ireturn, 1) := by decide +kernel
theorem dX10_output_0 : decode cX10_output 0 = .ok (.lconst 0, 1) := by decide +kernel
theorem dX10_output_1 : decode cX10_output 1 = .ok (.lstore_n 2, 1) := by decide +kernel
theorem dX10_output_2 : decode cX10_output 2 = .ok (.bipush 7, 2) := by decide +kernel
theorem dX10_output_4 : decode cX10_output 4 = .ok (.istore 4, 2) := by decide +kernel
theorem dX10_output_6 : decode cX10_output 6 = .ok (.iload 4, 2) := by decide +kernel
theorem dX10_output_8 : decode cX10_output 8 = .ok (.ifCond .lt 56, 3) := by decide +kernel
theorem dX10_output_11 : decode cX10_output 11 = .ok (.iload_n 1, 1) := by decide +kernel
theorem dX10_output_12 : decode cX10_output 12 = .ok (.ifCond .lt 52, 3) := by decide +kernel
theorem dX10_output_15 : decode cX10_output 15 = .ok (.iload_n 1, 1) := by decide +kernel
theorem dX10_output_16 : decode cX10_output 16 = .ok (.bipush 25, 2) := by decide +kernel
theorem dX10_output_18 : decode cX10_output 18 = .ok (.if_icmp .ge 46, 3) := by decide +kernel
theorem dX10_output_21 : decode cX10_output 21 = .ok (.lload_n 2, 1) := by decide +kernel
theorem dX10_output_22 : decode cX10_output 22 = .ok (.bipush 8, 2) := by decide +kernel
theorem dX10_output_24 : decode cX10_output 24 = .ok (.lshl, 1) := by decide +kernel
theorem dX10_output_25 : decode cX10_output 25 = .ok (.bipush 8, 2) := by decide +kernel
theorem dX10_output_27 : decode cX10_output 27 = .ok (.iload_n 1, 1) := by decide +kernel
theorem dX10_output_28 : decode cX10_output 28 = .ok (.imul, 1) := by decide +kernel
theorem dX10_output_29 : decode cX10_output 29 = .ok (.iload 4, 2) := by decide +kernel
theorem dX10_output_31 : decode cX10_output 31 = .ok (.iadd, 1) := by decide +kernel
theorem dX10_output_32 : decode cX10_output 32 = .ok (.aload_n 0, 1) := by decide +kernel
theorem dX10_output_33 : decode cX10_output 33 = .ok (.getfield 242, 3) := by decide +kernel
theorem dX10_output_36 : decode cX10_output 36 = .ok (.if_icmp .ge 18, 3) := by decide +kernel
theorem dX10_output_39 : decode cX10_output 39 = .ok (.aload_n 0, 1) := by decide +kernel
theorem dX10_output_40 : decode cX10_output 40 = .ok (.getfield 13, 3) := by decide +kernel
theorem dX10_output_43 : decode cX10_output 43 = .ok (.bipush 8, 2) := by decide +kernel
theorem dX10_output_45 : decode cX10_output 45 = .ok (.iload_n 1, 1) := by decide +kernel
theorem dX10_output_46 : decode cX10_output 46 = .ok (.imul, 1) := by decide +kernel
theorem dX10_output_47 : decode cX10_output 47 = .ok (.iload 4, 2) := by decide +kernel
theorem dX10_output_49 : decode cX10_output 49 = .ok (.iadd, 1) := by decide +kernel
theorem dX10_output_50 : decode cX10_output 50 = .ok (.iaload, 1) := by decide +kernel
theorem dX10_output_51 : decode cX10_output 51 = .ok (.goto 4, 3) := by decide +kernel
theorem dX10_output_54 : decode cX10_output 54 = .ok (.iconst 0, 1) := by decide +kernel
theorem dX10_output_55 : decode cX10_output 55 = .ok (.i2l, 1) := by decide +kernel
theorem dX10_output_56 : decode cX10_output 56 = .ok (.lor, 1) := by decide +kernel
theorem dX10_output_57 : decode cX10_output 57 = .ok (.lstore_n 2, 1) := by decide +kernel
theorem dX10_output_58 : decode cX10_output 58 = .ok (.iinc 4 (-1), 3) := by decide +kernel
theorem dX10_output_61 : decode cX10_output 61 = .ok (.goto (-55), 3) := by decide +kernel
theorem dX10_output_64 : decode cX10_output 64 = .ok (.lload_n 2, 1) := by decide +kernel
theorem dX10_output_65 : decode cX10_output 65 = .ok (.lreturn, 1) := by decide +kernel
theorem dX10_rounds_0 : decode cX10_rounds 0 = .ok (.aload_n 0, 1) := by decide +kernel
theorem dX10_rounds_1 : decode cX10_rounds 1 = .ok (.getfield 239, 3) := by decide +kernel
theorem dX10_rounds_4 : decode cX10_rounds 4 = .ok (.ireturn, 1) := by decide +kernel
theorem dX10_nodes_0 : decode cX10_nodes 0 = .ok (.aload_n 0, 1) := by decide +kernel
theorem dX10_nodes_1 : decode cX10_nodes 1 = .ok (.getfield 33, 3) := by decide +kernel
theorem dX10_nodes_4 : decode cX10_nodes 4 = .ok (.iconst 0, 1) := by decide +kernel
theorem dX10_nodes_5 : decode cX10_nodes 5 = .ok (.iaload, 1) := by decide +kernel
theorem dX10_nodes_6 : decode cX10_nodes 6 = .ok (.ireturn, 1) := by decide +kernel
theorem dX10_isNode_0 : decode cX10_isNode 0 = .ok (.iload_n 1, 1) := by decide +kernel
theorem dX10_isNode_1 : decode cX10_isNode 1 = .ok (.ifCond .lt 17, 3) := by decide +kernel
theorem dX10_isNode_4 : decode cX10_isNode 4 = .ok (.iload_n 1, 1) := by decide +kernel
theorem dX10_isNode_5 : decode cX10_isNode 5 = .ok (.aload_n 0, 1) := by decide +kernel
theorem dX10_isNode_6 : decode cX10_isNode 6 = .ok (.getfield 33, 3) := by decide +kernel
theorem dX10_isNode_9 : decode cX10_isNode 9 = .ok (.iconst 0, 1) := by decide +kernel
theorem dX10_isNode_10 : decode cX10_isNode 10 = .ok (.iaload, 1) := by decide +kernel
theorem dX10_isNode_11 : decode cX10_isNode 11 = .ok (.if_icmp .ge 7, 3) := by decide +kernel
theorem dX10_isNode_14 : decode cX10_isNode 14 = .ok (.iconst 1, 1) := by decide +kernel
theorem dX10_isNode_15 : decode cX10_isNode 15 = .ok (.goto 4, 3) := by decide +kernel
theorem dX10_isNode_18 : decode cX10_isNode 18 = .ok (.iconst 0, 1) := by decide +kernel
theorem dX10_isNode_19 : decode cX10_isNode 19 = .ok (.ireturn, 1) := by decide +kernel
theorem dX10_node_0 : decode cX10_node 0 = .ok (.aload_n 0, 1) := by decide +kernel
theorem dX10_node_1 : decode cX10_node 1 = .ok (.iload_n 1, 1) := by decide +kernel
theorem dX10_node_2 : decode cX10_node 2 = .ok (.invokevirtual 254, 3) := by decide +kernel
theorem dX10_node_5 : decode cX10_node 5 = .ok (.ifCond .ne 5, 3) := by decide +kernel
theorem dX10_node_8 : decode cX10_node 8 = .ok (.iconst (-1), 1) := by decide +kernel
theorem dX10_node_9 : decode cX10_node 9 = .ok (.ireturn, 1) := by decide +kernel
theorem dX10_node_10 : decode cX10_node 10 = .ok (.aload_n 0, 1) := by decide +kernel
theorem dX10_node_11 : decode cX10_node 11 = .ok (.getfield 36, 3) := by decide +kernel
theorem dX10_node_14 : decode cX10_node 14 = .ok (.iload_n 1, 1) := by decide +kernel
theorem dX10_node_15 : decode cX10_node 15 = .ok (.iaload, 1) := by decide +kernel
theorem dX10_node_16 : decode cX10_node 16 = .ok (.iconst 4, 1) := by decide +kernel
theorem dX10_node_17 : decode cX10_node 17 = .ok (.aload_n 0, 1) := by decide +kernel
theorem dX10_node_18 : decode cX10_node 18 = .ok (.getfield 39, 3) := by decide +kernel
theorem dX10_node_21 : decode cX10_node 21 = .ok (.iload_n 1, 1) := by decide +kernel
theorem dX10_node_22 : decode cX10_node 22 = .ok (.iaload, 1) := by decide +kernel
theorem dX10_node_23 : decode cX10_node 23 = .ok (.imul, 1) := by decide +kernel
theorem dX10_node_24 : decode cX10_node 24 = .ok (.iadd, 1) := by decide +kernel
theorem dX10_node_25 : decode cX10_node 25 = .ok (.sipush 128, 3) := by decide +kernel
theorem dX10_node_28 : decode cX10_node 28 = .ok (.aload_n 0, 1) := by decide +kernel
theorem dX10_node_29 : decode cX10_node 29 = .ok (.getfield 45, 3) := by decide +kernel
theorem dX10_node_32 : decode cX10_node 32 = .ok (.iload_n 1, 1) := by decide +kernel
theorem dX10_node_33 : decode cX10_node 33 = .ok (.iaload, 1) := by decide +kernel
theorem dX10_node_34 : decode cX10_node 34 = .ok (.imul, 1) := by decide +kernel
theorem dX10_node_35 : decode cX10_node 35 = .ok (.iadd, 1) := by decide +kernel
theorem dX10_node_36 : decode cX10_node 36 = .ok (.aload_n 0, 1) := by decide +kernel
theorem dX10_node_37 : decode cX10_node 37 = .ok (.getfield 48, 3) := by decide +kernel
theorem dX10_node_40 : decode cX10_node 40 = .ok (.iload_n 1, 1) := by decide +kernel
theorem dX10_node_41 : decode cX10_node 41 = .ok (.baload, 1) := by decide +kernel
theorem dX10_node_42 : decode cX10_node 42 = .ok (.ifCond .eq 9, 3) := by decide +kernel
theorem dX10_node_45 : decode cX10_node 45 = .ok (.sipush 4096, 3) := by decide +kernel
theorem dX10_node_48 : decode cX10_node 48 = .ok (.goto 4, 3) := by decide +kernel
theorem dX10_node_51 : decode cX10_node 51 = .ok (.iconst 0, 1) := by decide +kernel
theorem dX10_node_52 : decode cX10_node 52 = .ok (.iadd, 1) := by decide +kernel
theorem dX10_node_53 : decode cX10_node 53 = .ok (.ireturn, 1) := by decide +kernel
theorem dX10_stretch_0 : decode cX10_stretch 0 = .ok (.lconst 0, 1) := by decide +kernel
theorem dX10_stretch_1 : decode cX10_stretch 1 = .ok (.lstore 4, 2) := by decide +kernel
theorem dX10_stretch_3 : decode cX10_stretch 3 = .ok (.bipush 7, 2) := by decide +kernel
theorem dX10_stretch_5 : decode cX10_stretch 5 = .ok (.istore 6, 2) := by decide +kernel
theorem dX10_stretch_7 : decode cX10_stretch 7 = .ok (.iload 6, 2) := by decide +kernel
theorem dX10_stretch_9 : decode cX10_stretch 9 = .ok (.ifCond .lt 56, 3) := by decide +kernel
theorem dX10_stretch_12 : decode cX10_stretch 12 = .ok (.iload_n 3, 1) := by decide +kernel
theorem dX10_stretch_13 : decode cX10_stretch 13 = .ok (.ifCond .lt 52, 3) := by decide +kernel
theorem dX10_stretch_16 : decode cX10_stretch 16 = .ok (.iload_n 3, 1) := by decide +kernel
theorem dX10_stretch_17 : decode cX10_stretch 17 = .ok (.bipush 25, 2) := by decide +kernel
theorem dX10_stretch_19 : decode cX10_stretch 19 = .ok (.if_icmp .ge 46, 3) := by decide +kernel
theorem dX10_stretch_22 : decode cX10_stretch 22 = .ok (.iload_n 1, 1) := by decide +kernel
theorem dX10_stretch_23 : decode cX10_stretch 23 = .ok (.bipush 8, 2) := by decide +kernel
theorem dX10_stretch_25 : decode cX10_stretch 25 = .ok (.iload_n 3, 1) := by decide +kernel
theorem dX10_stretch_26 : decode cX10_stretch 26 = .ok (.imul, 1) := by decide +kernel
theorem dX10_stretch_27 : decode cX10_stretch 27 = .ok (.iadd, 1) := by decide +kernel
theorem dX10_stretch_28 : decode cX10_stretch 28 = .ok (.iload 6, 2) := by decide +kernel
theorem dX10_stretch_30 : decode cX10_stretch 30 = .ok (.iadd, 1) := by decide +kernel
theorem dX10_stretch_31 : decode cX10_stretch 31 = .ok (.istore 7, 2) := by decide +kernel
theorem dX10_stretch_33 : decode cX10_stretch 33 = .ok (.lload 4, 2) := by decide +kernel
theorem dX10_stretch_35 : decode cX10_stretch 35 = .ok (.bipush 8, 2) := by decide +kernel
theorem dX10_stretch_37 : decode cX10_stretch 37 = .ok (.lshl, 1) := by decide +kernel
theorem dX10_stretch_38 : decode cX10_stretch 38 = .ok (.iload 7, 2) := by decide +kernel
theorem dX10_stretch_40 : decode cX10_stretch 40 = .ok (.iload_n 2, 1) := by decide +kernel
theorem dX10_stretch_41 : decode cX10_stretch 41 = .ok (.if_icmp .ge 13, 3) := by decide +kernel
theorem dX10_stretch_44 : decode cX10_stretch 44 = .ok (.aload_n 0, 1) := by decide +kernel
theorem dX10_stretch_45 : decode cX10_stretch 45 = .ok (.getfield 78, 3) := by decide +kernel
theorem dX10_stretch_48 : decode cX10_stretch 48 = .ok (.iload 7, 2) := by decide +kernel
theorem dX10_stretch_50 : decode cX10_stretch 50 = .ok (.iaload, 1) := by decide +kernel
theorem dX10_stretch_51 : decode cX10_stretch 51 = .ok (.goto 4, 3) := by decide +kernel
theorem dX10_stretch_54 : decode cX10_stretch 54 = .ok (.iconst 0, 1) := by decide +kernel
theorem dX10_stretch_55 : decode cX10_stretch 55 = .ok (.i2l, 1) := by decide +kernel
theorem dX10_stretch_56 : decode cX10_stretch 56 = .ok (.lor, 1) := by decide +kernel
theorem dX10_stretch_57 : decode cX10_stretch 57 = .ok (.lstore 4, 2) := by decide +kernel
theorem dX10_stretch_59 : decode cX10_stretch 59 = .ok (.iinc 6 (-1), 3) := by decide +kernel
theorem dX10_stretch_62 : decode cX10_stretch 62 = .ok (.goto (-55), 3) := by decide +kernel
theorem dX10_stretch_65 : decode cX10_stretch 65 = .ok (.lload 4, 2) := by decide +kernel
theorem dX10_stretch_67 : decode cX10_stretch 67 = .ok (.lreturn, 1) := by decide +kernel
theorem dX10_text_0 : decode cX10_text 0 = .ok (.aload_n 0, 1) := by decide +kernel
theorem dX10_text_1 : decode cX10_text 1 = .ok (.iload_n 1, 1) := by decide +kernel
theorem dX10_text_2 : decode cX10_text 2 = .ok (.invokevirtual 254, 3) := by decide +kernel
theorem dX10_text_5 : decode cX10_text 5 = .ok (.ifCond .eq 33, 3) := by decide +kernel
theorem dX10_text_8 : decode cX10_text 8 = .ok (.aload_n 0, 1) := by decide +kernel
theorem dX10_text_9 : decode cX10_text 9 = .ok (.getfield 36, 3) := by decide +kernel
theorem dX10_text_12 : decode cX10_text 12 = .ok (.iload_n 1, 1) := by decide +kernel
theorem dX10_text_13 : decode cX10_text 13 = .ok (.iaload, 1) := by decide +kernel
theorem dX10_text_14 : decode cX10_text 14 = .ok (.iconst 3, 1) := by decide +kernel
theorem dX10_text_15 : decode cX10_text 15 = .ok (.if_icmp .eq 23, 3) := by decide +kernel
theorem dX10_text_18 : decode cX10_text 18 = .ok (.aload_n 0, 1) := by decide +kernel
theorem dX10_text_19 : decode cX10_text 19 = .ok (.aload_n 0, 1) := by decide +kernel
theorem dX10_text_20 : decode cX10_text 20 = .ok (.getfield 51, 3) := by decide +kernel
theorem dX10_text_23 : decode cX10_text 23 = .ok (.iload_n 1, 1) := by decide +kernel
theorem dX10_text_24 : decode cX10_text 24 = .ok (.iaload, 1) := by decide +kernel
theorem dX10_text_25 : decode cX10_text 25 = .ok (.aload_n 0, 1) := by decide +kernel
theorem dX10_text_26 : decode cX10_text 26 = .ok (.getfield 54, 3) := by decide +kernel
theorem dX10_text_29 : decode cX10_text 29 = .ok (.iload_n 1, 1) := by decide +kernel
theorem dX10_text_30 : decode cX10_text 30 = .ok (.iaload, 1) := by decide +kernel
theorem dX10_text_31 : decode cX10_text 31 = .ok (.iload_n 2, 1) := by decide +kernel
theorem dX10_text_32 : decode cX10_text 32 = .ok (.invokevirtual 257, 3) := by decide +kernel
theorem dX10_text_35 : decode cX10_text 35 = .ok (.goto 4, 3) := by decide +kernel
theorem dX10_text_38 : decode cX10_text 38 = .ok (.lconst 0, 1) := by decide +kernel
theorem dX10_text_39 : decode cX10_text 39 = .ok (.lreturn, 1) := by decide +kernel
theorem dX10_find_0 : decode cX10_find 0 = .ok (.iconst 0, 1) := by decide +kernel
theorem dX10_find_1 : decode cX10_find 1 = .ok (.istore_n 3, 1) := by decide +kernel
theorem dX10_find_2 : decode cX10_find 2 = .ok (.iload_n 3, 1) := by decide +kernel
theorem dX10_find_3 : decode cX10_find 3 = .ok (.aload_n 0, 1) := by decide +kernel
theorem dX10_find_4 : decode cX10_find 4 = .ok (.getfield 60, 3) := by decide +kernel
theorem dX10_find_7 : decode cX10_find 7 = .ok (.iconst 0, 1) := by decide +kernel
theorem dX10_find_8 : decode cX10_find 8 = .ok (.iaload, 1) := by decide +kernel
theorem dX10_find_9 : decode cX10_find 9 = .ok (.if_icmp .ge 39, 3) := by decide +kernel
theorem dX10_find_12 : decode cX10_find 12 = .ok (.aload_n 0, 1) := by decide +kernel
theorem dX10_find_13 : decode cX10_find 13 = .ok (.iload_n 1, 1) := by decide +kernel
theorem dX10_find_14 : decode cX10_find 14 = .ok (.invokevirtual 254, 3) := by decide +kernel
theorem dX10_find_17 : decode cX10_find 17 = .ok (.ifCond .eq 31, 3) := by decide +kernel
theorem dX10_find_20 : decode cX10_find 20 = .ok (.aload_n 0, 1) := by decide +kernel
theorem dX10_find_21 : decode cX10_find 21 = .ok (.getfield 63, 3) := by decide +kernel
theorem dX10_find_24 : decode cX10_find 24 = .ok (.iload_n 3, 1) := by decide +kernel
theorem dX10_find_25 : decode cX10_find 25 = .ok (.iaload, 1) := by decide +kernel
theorem dX10_find_26 : decode cX10_find 26 = .ok (.iload_n 1, 1) := by decide +kernel
theorem dX10_find_27 : decode cX10_find 27 = .ok (.if_icmp .ne 15, 3) := by decide +kernel
theorem dX10_find_30 : decode cX10_find 30 = .ok (.aload_n 0, 1) := by decide +kernel
theorem dX10_find_31 : decode cX10_find 31 = .ok (.getfield 66, 3) := by decide +kernel
theorem dX10_find_34 : decode cX10_find 34 = .ok (.iload_n 3, 1) := by decide +kernel
theorem dX10_find_35 : decode cX10_find 35 = .ok (.iaload, 1) := by decide +kernel
theorem dX10_find_36 : decode cX10_find 36 = .ok (.iload_n 2, 1) := by decide +kernel
theorem dX10_find_37 : decode cX10_find 37 = .ok (.if_icmp .ne 5, 3) := by decide +kernel
theorem dX10_find_40 : decode cX10_find 40 = .ok (.iload_n 3, 1) := by decide +kernel
theorem dX10_find_41 : decode cX10_find 41 = .ok (.ireturn, 1) := by decide +kernel
theorem dX10_find_42 : decode cX10_find 42 = .ok (.iinc 3 1, 3) := by decide +kernel
theorem dX10_find_45 : decode cX10_find 45 = .ok (.goto (-43), 3) := by decide +kernel
theorem dX10_find_48 : decode cX10_find 48 = .ok (.iconst (-1), 1) := by decide +kernel
theorem dX10_find_49 : decode cX10_find 49 = .ok (.ireturn, 1) := by decide +kernel
theorem dX10_length_0 : decode cX10_length 0 = .ok (.aload_n 0, 1) := by decide +kernel
theorem dX10_length_1 : decode cX10_length 1 = .ok (.iload_n 1, 1) := by decide +kernel
theorem dX10_length_2 : decode cX10_length 2 = .ok (.iload_n 2, 1) := by decide +kernel
theorem dX10_length_3 : decode cX10_length 3 = .ok (.invokevirtual 261, 3) := by decide +kernel
theorem dX10_length_6 : decode cX10_length 6 = .ok (.istore_n 3, 1) := by decide +kernel
theorem dX10_length_7 : decode cX10_length 7 = .ok (.iload_n 3, 1) := by decide +kernel
theorem dX10_length_8 : decode cX10_length 8 = .ok (.iconst (-1), 1) := by decide +kernel
theorem dX10_length_9 : decode cX10_length 9 = .ok (.if_icmp .ne 7, 3) := by decide +kernel
theorem dX10_length_12 : decode cX10_length 12 = .ok (.iconst (-1), 1) := by decide +kernel
theorem dX10_length_13 : decode cX10_length 13 = .ok (.goto 16, 3) := by decide +kernel
theorem dX10_length_16 : decode cX10_length 16 = .ok (.aload_n 0, 1) := by decide +kernel
theorem dX10_length_17 : decode cX10_length 17 = .ok (.getfield 72, 3) := by decide +kernel
theorem dX10_length_20 : decode cX10_length 20 = .ok (.iload_n 3, 1) := by decide +kernel
theorem dX10_length_21 : decode cX10_length 21 = .ok (.iaload, 1) := by decide +kernel
theorem dX10_length_22 : decode cX10_length 22 = .ok (.aload_n 0, 1) := by decide +kernel
theorem dX10_length_23 : decode cX10_length 23 = .ok (.getfield 69, 3) := by decide +kernel
theorem dX10_length_26 : decode cX10_length 26 = .ok (.iload_n 3, 1) := by decide +kernel
theorem dX10_length_27 : decode cX10_length 27 = .ok (.iaload, 1) := by decide +kernel
theorem dX10_length_28 : decode cX10_length 28 = .ok (.isub, 1) := by decide +kernel
theorem dX10_length_29 : decode cX10_length 29 = .ok (.ireturn, 1) := by decide +kernel
theorem dX10_value_0 : decode cX10_value 0 = .ok (.aload_n 0, 1) := by decide +kernel
theorem dX10_value_1 : decode cX10_value 1 = .ok (.iload_n 1, 1) := by decide +kernel
theorem dX10_value_2 : decode cX10_value 2 = .ok (.iload_n 2, 1) := by decide +kernel
theorem dX10_value_3 : decode cX10_value 3 = .ok (.invokevirtual 261, 3) := by decide +kernel
theorem dX10_value_6 : decode cX10_value 6 = .ok (.istore 4, 2) := by decide +kernel
theorem dX10_value_8 : decode cX10_value 8 = .ok (.iload 4, 2) := by decide +kernel
theorem dX10_value_10 : decode cX10_value 10 = .ok (.iconst (-1), 1) := by decide +kernel
theorem dX10_value_11 : decode cX10_value 11 = .ok (.if_icmp .ne 7, 3) := by decide +kernel
theorem dX10_value_14 : decode cX10_value 14 = .ok (.lconst 0, 1) := by decide +kernel
theorem dX10_value_15 : decode cX10_value 15 = .ok (.goto 22, 3) := by decide +kernel
theorem dX10_value_18 : decode cX10_value 18 = .ok (.aload_n 0, 1) := by decide +kernel
theorem dX10_value_19 : decode cX10_value 19 = .ok (.aload_n 0, 1) := by decide +kernel
theorem dX10_value_20 : decode cX10_value 20 = .ok (.getfield 69, 3) := by decide +kernel
theorem dX10_value_23 : decode cX10_value 23 = .ok (.iload 4, 2) := by decide +kernel
theorem dX10_value_25 : decode cX10_value 25 = .ok (.iaload, 1) := by decide +kernel
theorem dX10_value_26 : decode cX10_value 26 = .ok (.aload_n 0, 1) := by decide +kernel
theorem dX10_value_27 : decode cX10_value 27 = .ok (.getfield 72, 3) := by decide +kernel
theorem dX10_value_30 : decode cX10_value 30 = .ok (.iload 4, 2) := by decide +kernel
theorem dX10_value_32 : decode cX10_value 32 = .ok (.iaload, 1) := by decide +kernel
theorem dX10_value_33 : decode cX10_value 33 = .ok (.iload_n 3, 1) := by decide +kernel
theorem dX10_value_34 : decode cX10_value 34 = .ok (.invokevirtual 257, 3) := by decide +kernel
theorem dX10_value_37 : decode cX10_value 37 = .ok (.lreturn, 1) := by decide +kernel
