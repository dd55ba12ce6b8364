theorem dX9_wordKind_8 : decode cX9_wordKind 8 = .ok (.iload 5, 2) := by decide +kernel
theorem dX9_wordKind_10 : decode cX9_wordKind 10 = .ok (.ldc 58, 2) := by decide +kernel
theorem dX9_wordKind_12 : decode cX9_wordKind 12 = .ok (.invokevirtual 60, 3) := by decide +kernel
theorem dX9_wordKind_15 : decode cX9_wordKind 15 = .ok (.if_icmp .ge 56, 3) := by decide +kernel
theorem dX9_wordKind_18 : decode cX9_wordKind 18 = .ok (.ldc 58, 2) := by decide +kernel
theorem dX9_wordKind_20 : decode cX9_wordKind 20 = .ok (.iload 5, 2) := by decide +kernel
theorem dX9_wordKind_22 : decode cX9_wordKind 22 = .ok (.invokevirtual 65, 3) := by decide +kernel
theorem dX9_wordKind_25 : decode cX9_wordKind 25 = .ok (.bipush 32, 2) := by decide +kernel
theorem dX9_wordKind_27 : decode cX9_wordKind 27 = .ok (.if_icmp .ne 38, 3) := by decide +kernel
theorem dX9_wordKind_30 : decode cX9_wordKind 30 = .ok (.iload 5, 2) := by decide +kernel
theorem dX9_wordKind_32 : decode cX9_wordKind 32 = .ok (.iload 4, 2) := by decide +kernel
theorem dX9_wordKind_34 : decode cX9_wordKind 34 = .ok (.isub, 1) := by decide +kernel
theorem dX9_wordKind_35 : decode cX9_wordKind 35 = .ok (.iload_n 2, 1) := by decide +kernel
theorem dX9_wordKind_36 : decode cX9_wordKind 36 = .ok (.iload_n 1, 1) := by decide +kernel
theorem dX9_wordKind_37 : decode cX9_wordKind 37 = .ok (.isub, 1) := by decide +kernel
theorem dX9_wordKind_38 : decode cX9_wordKind 38 = .ok (.if_icmp .ne 18, 3) := by decide +kernel
theorem dX9_wordKind_41 : decode cX9_wordKind 41 = .ok (.aload_n 0, 1) := by decide +kernel
theorem dX9_wordKind_42 : decode cX9_wordKind 42 = .ok (.iload 4, 2) := by decide +kernel
theorem dX9_wordKind_44 : decode cX9_wordKind 44 = .ok (.iload_n 1, 1) := by decide +kernel
theorem dX9_wordKind_45 : decode cX9_wordKind 45 = .ok (.iload_n 2, 1) := by decide +kernel
theorem dX9_wordKind_46 : decode cX9_wordKind 46 = .ok (.iload_n 1, 1) := by decide +kernel
theorem dX9_wordKind_47 : decode cX9_wordKind 47 = .ok (.isub, 1) := by decide +kernel
theorem dX9_wordKind_48 : decode cX9_wordKind 48 = .ok (.invokevirtual 69, 3) := by decide +kernel
theorem dX9_wordKind_51 : decode cX9_wordKind 51 = .ok (.ifCond .eq 5, 3) := by decide +kernel
theorem dX9_wordKind_54 : decode cX9_wordKind 54 = .ok (.iload_n 3, 1) := by decide +kernel
theorem dX9_wordKind_55 : decode cX9_wordKind 55 = .ok (.ireturn, 1) := by decide +kernel
theorem dX9_wordKind_56 : decode cX9_wordKind 56 = .ok (.iinc 3 1, 3) := by decide +kernel
theorem dX9_wordKind_59 : decode cX9_wordKind 59 = .ok (.iload 5, 2) := by decide +kernel
theorem dX9_wordKind_61 : decode cX9_wordKind 61 = .ok (.iconst 1, 1) := by decide +kernel
theorem dX9_wordKind_62 : decode cX9_wordKind 62 = .ok (.iadd, 1) := by decide +kernel
theorem dX9_wordKind_63 : decode cX9_wordKind 63 = .ok (.istore 4, 2) := by decide +kernel
theorem dX9_wordKind_65 : decode cX9_wordKind 65 = .ok (.iinc 5 1, 3) := by decide +kernel
theorem dX9_wordKind_68 : decode cX9_wordKind 68 = .ok (.goto (-60), 3) := by decide +kernel
theorem dX9_wordKind_71 : decode cX9_wordKind 71 = .ok (.iconst 0, 1) := by decide +kernel
theorem dX9_wordKind_72 : decode cX9_wordKind 72 = .ok (.ireturn, 1) := by decide +kernel
theorem dX9_isWord_0 : decode cX9_isWord 0 = .ok (.iconst 0, 1) := by decide +kernel
theorem dX9_isWord_1 : decode cX9_isWord 1 = .ok (.istore 4, 2) := by decide +kernel
theorem dX9_isWord_3 : decode cX9_isWord 3 = .ok (.iload 4, 2) := by decide +kernel
theorem dX9_isWord_5 : decode cX9_isWord 5 = .ok (.iload_n 3, 1) := by decide +kernel
theorem dX9_isWord_6 : decode cX9_isWord 6 = .ok (.if_icmp .ge 32, 3) := by decide +kernel
theorem dX9_isWord_9 : decode cX9_isWord 9 = .ok (.ldc 58, 2) := by decide +kernel
theorem dX9_isWord_11 : decode cX9_isWord 11 = .ok (.iload_n 1, 1) := by decide +kernel
theorem dX9_isWord_12 : decode cX9_isWord 12 = .ok (.iload 4, 2) := by decide +kernel
theorem dX9_isWord_14 : decode cX9_isWord 14 = .ok (.iadd, 1) := by decide +kernel
theorem dX9_isWord_15 : decode cX9_isWord 15 = .ok (.invokevirtual 65, 3) := by decide +kernel
theorem dX9_isWord_18 : decode cX9_isWord 18 = .ok (.aload_n 0, 1) := by decide +kernel
theorem dX9_isWord_19 : decode cX9_isWord 19 = .ok (.getfield 9, 3) := by decide +kernel
theorem dX9_isWord_22 : decode cX9_isWord 22 = .ok (.iload_n 2, 1) := by decide +kernel
theorem dX9_isWord_23 : decode cX9_isWord 23 = .ok (.iload 4, 2) := by decide +kernel
theorem dX9_isWord_25 : decode cX9_isWord 25 = .ok (.iadd, 1) := by decide +kernel
theorem dX9_isWord_26 : decode cX9_isWord 26 = .ok (.iaload, 1) := by decide +kernel
theorem dX9_isWord_27 : decode cX9_isWord 27 = .ok (.if_icmp .eq 5, 3) := by decide +kernel
theorem dX9_isWord_30 : decode cX9_isWord 30 = .ok (.iconst 0, 1) := by decide +kernel
theorem dX9_isWord_31 : decode cX9_isWord 31 = .ok (.ireturn, 1) := by decide +kernel
theorem dX9_isWord_32 : decode cX9_isWord 32 = .ok (.iinc 4 1, 3) := by decide +kernel
theorem dX9_isWord_35 : decode cX9_isWord 35 = .ok (.goto (-32), 3) := by decide +kernel
theorem dX9_isWord_38 : decode cX9_isWord 38 = .ok (.iconst 1, 1) := by decide +kernel
theorem dX9_isWord_39 : decode cX9_isWord 39 = .ok (.ireturn, 1) := by decide +kernel
theorem dX9_signKind_0 : decode cX9_signKind 0 = .ok (.iload_n 0, 1) := by decide +kernel
theorem dX9_signKind_1 : decode cX9_signKind 1 = .ok (.tableswitch 178 35 62 #[154, 178, 178, 178, 178, 169, 172, 163, 157, 178, 160, 178, 166, 178, 178, 178, 178, 178, 178, 178, 178, 178, 178, 178, 175, 127, 151, 139], 127) := by decide +kernel
theorem dX9_signKind_128 : decode cX9_signKind 128 = .ok (.iload_n 1, 1) := by decide +kernel
theorem dX9_signKind_129 : decode cX9_signKind 129 = .ok (.ifCond .eq 8, 3) := by decide +kernel
theorem dX9_signKind_132 : decode cX9_signKind 132 = .ok (.bipush 32, 2) := by decide +kernel
theorem dX9_signKind_134 : decode cX9_signKind 134 = .ok (.goto 5, 3) := by decide +kernel
theorem dX9_signKind_137 : decode cX9_signKind 137 = .ok (.bipush 31, 2) := by decide +kernel
theorem dX9_signKind_139 : decode cX9_signKind 139 = .ok (.ireturn, 1) := by decide +kernel
theorem dX9_signKind_140 : decode cX9_signKind 140 = .ok (.iload_n 1, 1) := by decide +kernel
theorem dX9_signKind_141 : decode cX9_signKind 141 = .ok (.ifCond .eq 8, 3) := by decide +kernel
theorem dX9_signKind_144 : decode cX9_signKind 144 = .ok (.bipush 34, 2) := by decide +kernel
theorem dX9_signKind_146 : decode cX9_signKind 146 = .ok (.goto 5, 3) := by decide +kernel
theorem dX9_signKind_149 : decode cX9_signKind 149 = .ok (.bipush 33, 2) := by decide +kernel
theorem dX9_signKind_151 : decode cX9_signKind 151 = .ok (.ireturn, 1) := by decide +kernel
theorem dX9_signKind_152 : decode cX9_signKind 152 = .ok (.bipush 35, 2) := by decide +kernel
theorem dX9_signKind_154 : decode cX9_signKind 154 = .ok (.ireturn, 1) := by decide +kernel
theorem dX9_signKind_155 : decode cX9_signKind 155 = .ok (.bipush 36, 2) := by decide +kernel
theorem dX9_signKind_157 : decode cX9_signKind 157 = .ok (.ireturn, 1) := by decide +kernel
theorem dX9_signKind_158 : decode cX9_signKind 158 = .ok (.bipush 37, 2) := by decide +kernel
theorem dX9_signKind_160 : decode cX9_signKind 160 = .ok (.ireturn, 1) := by decide +kernel
theorem dX9_signKind_161 : decode cX9_signKind 161 = .ok (.bipush 38, 2) := by decide +kernel
theorem dX9_signKind_163 : decode cX9_signKind 163 = .ok (.ireturn, 1) := by decide +kernel
theorem dX9_signKind_164 : decode cX9_signKind 164 = .ok (.bipush 39, 2) := by decide +kernel
theorem dX9_signKind_166 : decode cX9_signKind 166 = .ok (.ireturn, 1) := by decide +kernel
theorem dX9_signKind_167 : decode cX9_signKind 167 = .ok (.bipush 40, 2) := by decide +kernel
theorem dX9_signKind_169 : decode cX9_signKind 169 = .ok (.ireturn, 1) := by decide +kernel
theorem dX9_signKind_170 : decode cX9_signKind 170 = .ok (.bipush 41, 2) := by decide +kernel
theorem dX9_signKind_172 : decode cX9_signKind 172 = .ok (.ireturn, 1) := by decide +kernel
theorem dX9_signKind_173 : decode cX9_signKind 173 = .ok (.bipush 42, 2) := by decide +kernel
theorem dX9_signKind_175 : decode cX9_signKind 175 = .ok (.ireturn, 1) := by decide +kernel
theorem dX9_signKind_176 : decode cX9_signKind 176 = .ok (.bipush 43, 2) := by decide +kernel
theorem dX9_signKind_178 : decode cX9_signKind 178 = .ok (.ireturn, 1) := by decide +kernel
theorem dX9_signKind_179 : decode cX9_signKind 179 = .ok (.iconst 0, 1) := by decide +kernel
theorem dX9_signKind_180 : decode cX9_signKind 180 = .ok (.ireturn, 1) := by decide +kernel
theorem dX9_isLetter_0 : decode cX9_isLetter 0 = .ok (.iload_n 0, 1) := by decide +kernel
theorem dX9_isLetter_1 : decode cX9_isLetter 1 = .ok (.bipush 97, 2) := by decide +kernel
theorem dX9_isLetter_3 : decode cX9_isLetter 3 = .ok (.bipush 122, 2) := by decide +kernel
theorem dX9_isLetter_5 : decode cX9_isLetter 5 = .ok (.invokestatic 73, 3) := by decide +kernel
theorem dX9_isLetter_8 : decode cX9_isLetter 8 = .ok (.ifCond .ne 14, 3) := by decide +kernel
theorem dX9_isLetter_11 : decode cX9_isLetter 11 = .ok (.iload_n 0, 1) := by decide +kernel
theorem dX9_isLetter_12 : decode cX9_isLetter 12 = .ok (.bipush 65, 2) := by decide +kernel
theorem dX9_isLetter_14 : decode cX9_isLetter 14 = .ok (.bipush 90, 2) := by decide +kernel
theorem dX9_isLetter_16 : decode cX9_isLetter 16 = .ok (.invokestatic 73, 3) := by decide +kernel
theorem dX9_isLetter_19 : decode cX9_isLetter 19 = .ok (.ifCond .eq 7, 3) := by decide +kernel
theorem dX9_isLetter_22 : decode cX9_isLetter 22 = .ok (.iconst 1, 1) := by decide +kernel
theorem dX9_isLetter_23 : decode cX9_isLetter 23 = .ok (.goto 4, 3) := by decide +kernel
theorem dX9_isLetter_26 : decode cX9_isLetter 26 = .ok (.iconst 0, 1) := by decide +kernel
theorem dX9_isLetter_27 : decode cX9_isLetter 27 = .ok (.ireturn, 1) := by decide +kernel
theorem dX9_isDigit_0 : decode cX9_isDigit 0 = .ok (.iload_n 0, 1) := by decide +kernel
theorem dX9_isDigit_1 : decode cX9_isDigit 1 = .ok (.bipush 48, 2) := by decide +kernel
theorem dX9_isDigit_3 : decode cX9_isDigit 3 = .ok (.bipush 57, 2) := by decide +kernel
theorem dX9_isDigit_5 : decode cX9_isDigit 5 = .ok (.invokestatic 73, 3) := by decide +kernel
theorem dX9_isDigit_8 : decode cX9_isDigit 8 = .ok (.ireturn, 1) := by decide +kernel
