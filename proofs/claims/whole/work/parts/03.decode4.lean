theorem dX2_nameAll_44 : decode cX2_nameAll 44 = .ok (.iload_n 2, 1) := by decide +kernel
theorem dX2_nameAll_45 : decode cX2_nameAll 45 = .ok (.iaload, 1) := by decide +kernel
theorem dX2_nameAll_46 : decode cX2_nameAll 46 = .ok (.iastore, 1) := by decide +kernel
theorem dX2_nameAll_47 : decode cX2_nameAll 47 = .ok (.aload_n 0, 1) := by decide +kernel
theorem dX2_nameAll_48 : decode cX2_nameAll 48 = .ok (.getfield 15, 3) := by decide +kernel
theorem dX2_nameAll_51 : decode cX2_nameAll 51 = .ok (.iconst 5, 1) := by decide +kernel
theorem dX2_nameAll_52 : decode cX2_nameAll 52 = .ok (.aload_n 1, 1) := by decide +kernel
theorem dX2_nameAll_53 : decode cX2_nameAll 53 = .ok (.getfield 71, 3) := by decide +kernel
theorem dX2_nameAll_56 : decode cX2_nameAll 56 = .ok (.iload_n 2, 1) := by decide +kernel
theorem dX2_nameAll_57 : decode cX2_nameAll 57 = .ok (.iaload, 1) := by decide +kernel
theorem dX2_nameAll_58 : decode cX2_nameAll 58 = .ok (.iastore, 1) := by decide +kernel
theorem dX2_nameAll_59 : decode cX2_nameAll 59 = .ok (.iload_n 3, 1) := by decide +kernel
theorem dX2_nameAll_60 : decode cX2_nameAll 60 = .ok (.ifCond .lt 18, 3) := by decide +kernel
theorem dX2_nameAll_63 : decode cX2_nameAll 63 = .ok (.iload_n 3, 1) := by decide +kernel
theorem dX2_nameAll_64 : decode cX2_nameAll 64 = .ok (.aload_n 0, 1) := by decide +kernel
theorem dX2_nameAll_65 : decode cX2_nameAll 65 = .ok (.getfield 18, 3) := by decide +kernel
theorem dX2_nameAll_68 : decode cX2_nameAll 68 = .ok (.getfield 74, 3) := by decide +kernel
theorem dX2_nameAll_71 : decode cX2_nameAll 71 = .ok (.if_icmp .ge 7, 3) := by decide +kernel
theorem dX2_nameAll_74 : decode cX2_nameAll 74 = .ok (.iconst 1, 1) := by decide +kernel
theorem dX2_nameAll_75 : decode cX2_nameAll 75 = .ok (.goto 4, 3) := by decide +kernel
theorem dX2_nameAll_78 : decode cX2_nameAll 78 = .ok (.iconst 0, 1) := by decide +kernel
theorem dX2_nameAll_79 : decode cX2_nameAll 79 = .ok (.istore 4, 2) := by decide +kernel
theorem dX2_nameAll_81 : decode cX2_nameAll 81 = .ok (.aload_n 0, 1) := by decide +kernel
theorem dX2_nameAll_82 : decode cX2_nameAll 82 = .ok (.getfield 15, 3) := by decide +kernel
theorem dX2_nameAll_85 : decode cX2_nameAll 85 = .ok (.iconst 1, 1) := by decide +kernel
theorem dX2_nameAll_86 : decode cX2_nameAll 86 = .ok (.iload 4, 2) := by decide +kernel
theorem dX2_nameAll_88 : decode cX2_nameAll 88 = .ok (.ifCond .eq 17, 3) := by decide +kernel
theorem dX2_nameAll_91 : decode cX2_nameAll 91 = .ok (.aload_n 1, 1) := by decide +kernel
theorem dX2_nameAll_92 : decode cX2_nameAll 92 = .ok (.getfield 77, 3) := by decide +kernel
theorem dX2_nameAll_95 : decode cX2_nameAll 95 = .ok (.iload_n 3, 1) := by decide +kernel
theorem dX2_nameAll_96 : decode cX2_nameAll 96 = .ok (.bipush 12, 2) := by decide +kernel
theorem dX2_nameAll_98 : decode cX2_nameAll 98 = .ok (.imul, 1) := by decide +kernel
theorem dX2_nameAll_99 : decode cX2_nameAll 99 = .ok (.iload_n 2, 1) := by decide +kernel
theorem dX2_nameAll_100 : decode cX2_nameAll 100 = .ok (.iadd, 1) := by decide +kernel
theorem dX2_nameAll_101 : decode cX2_nameAll 101 = .ok (.iaload, 1) := by decide +kernel
theorem dX2_nameAll_102 : decode cX2_nameAll 102 = .ok (.goto 4, 3) := by decide +kernel
theorem dX2_nameAll_105 : decode cX2_nameAll 105 = .ok (.iconst 0, 1) := by decide +kernel
theorem dX2_nameAll_106 : decode cX2_nameAll 106 = .ok (.iastore, 1) := by decide +kernel
theorem dX2_nameAll_107 : decode cX2_nameAll 107 = .ok (.aload_n 0, 1) := by decide +kernel
theorem dX2_nameAll_108 : decode cX2_nameAll 108 = .ok (.getfield 15, 3) := by decide +kernel
theorem dX2_nameAll_111 : decode cX2_nameAll 111 = .ok (.bipush 6, 2) := by decide +kernel
theorem dX2_nameAll_113 : decode cX2_nameAll 113 = .ok (.iload 4, 2) := by decide +kernel
theorem dX2_nameAll_115 : decode cX2_nameAll 115 = .ok (.ifCond .eq 12, 3) := by decide +kernel
theorem dX2_nameAll_118 : decode cX2_nameAll 118 = .ok (.aload_n 1, 1) := by decide +kernel
theorem dX2_nameAll_119 : decode cX2_nameAll 119 = .ok (.getfield 80, 3) := by decide +kernel
theorem dX2_nameAll_122 : decode cX2_nameAll 122 = .ok (.iload_n 3, 1) := by decide +kernel
theorem dX2_nameAll_123 : decode cX2_nameAll 123 = .ok (.iaload, 1) := by decide +kernel
theorem dX2_nameAll_124 : decode cX2_nameAll 124 = .ok (.goto 4, 3) := by decide +kernel
theorem dX2_nameAll_127 : decode cX2_nameAll 127 = .ok (.iconst 0, 1) := by decide +kernel
theorem dX2_nameAll_128 : decode cX2_nameAll 128 = .ok (.iastore, 1) := by decide +kernel
theorem dX2_nameAll_129 : decode cX2_nameAll 129 = .ok (.aload_n 0, 1) := by decide +kernel
theorem dX2_nameAll_130 : decode cX2_nameAll 130 = .ok (.getfield 15, 3) := by decide +kernel
theorem dX2_nameAll_133 : decode cX2_nameAll 133 = .ok (.bipush 7, 2) := by decide +kernel
theorem dX2_nameAll_135 : decode cX2_nameAll 135 = .ok (.iload 4, 2) := by decide +kernel
theorem dX2_nameAll_137 : decode cX2_nameAll 137 = .ok (.ifCond .eq 7, 3) := by decide +kernel
theorem dX2_nameAll_140 : decode cX2_nameAll 140 = .ok (.iload_n 3, 1) := by decide +kernel
theorem dX2_nameAll_141 : decode cX2_nameAll 141 = .ok (.goto 4, 3) := by decide +kernel
theorem dX2_nameAll_144 : decode cX2_nameAll 144 = .ok (.iconst 0, 1) := by decide +kernel
theorem dX2_nameAll_145 : decode cX2_nameAll 145 = .ok (.iastore, 1) := by decide +kernel
theorem dX2_nameAll_146 : decode cX2_nameAll 146 = .ok (.iconst 0, 1) := by decide +kernel
theorem dX2_nameAll_147 : decode cX2_nameAll 147 = .ok (.istore 5, 2) := by decide +kernel
theorem dX2_nameAll_149 : decode cX2_nameAll 149 = .ok (.iconst 0, 1) := by decide +kernel
theorem dX2_nameAll_150 : decode cX2_nameAll 150 = .ok (.istore 6, 2) := by decide +kernel
theorem dX2_nameAll_152 : decode cX2_nameAll 152 = .ok (.iload 4, 2) := by decide +kernel
theorem dX2_nameAll_154 : decode cX2_nameAll 154 = .ok (.ifCond .eq 44, 3) := by decide +kernel
theorem dX2_nameAll_157 : decode cX2_nameAll 157 = .ok (.iload 6, 2) := by decide +kernel
theorem dX2_nameAll_159 : decode cX2_nameAll 159 = .ok (.aload_n 0, 1) := by decide +kernel
theorem dX2_nameAll_160 : decode cX2_nameAll 160 = .ok (.getfield 18, 3) := by decide +kernel
theorem dX2_nameAll_163 : decode cX2_nameAll 163 = .ok (.getfield 83, 3) := by decide +kernel
theorem dX2_nameAll_166 : decode cX2_nameAll 166 = .ok (.if_icmp .ge 32, 3) := by decide +kernel
theorem dX2_nameAll_169 : decode cX2_nameAll 169 = .ok (.iload 5, 2) := by decide +kernel
theorem dX2_nameAll_171 : decode cX2_nameAll 171 = .ok (.aload_n 1, 1) := by decide +kernel
theorem dX2_nameAll_172 : decode cX2_nameAll 172 = .ok (.getfield 86, 3) := by decide +kernel
theorem dX2_nameAll_175 : decode cX2_nameAll 175 = .ok (.iload 6, 2) := by decide +kernel
theorem dX2_nameAll_177 : decode cX2_nameAll 177 = .ok (.iaload, 1) := by decide +kernel
theorem dX2_nameAll_178 : decode cX2_nameAll 178 = .ok (.iconst 3, 1) := by decide +kernel
theorem dX2_nameAll_179 : decode cX2_nameAll 179 = .ok (.iload_n 3, 1) := by decide +kernel
theorem dX2_nameAll_180 : decode cX2_nameAll 180 = .ok (.iadd, 1) := by decide +kernel
theorem dX2_nameAll_181 : decode cX2_nameAll 181 = .ok (.if_icmp .ne 7, 3) := by decide +kernel
theorem dX2_nameAll_184 : decode cX2_nameAll 184 = .ok (.iconst 1, 1) := by decide +kernel
theorem dX2_nameAll_185 : decode cX2_nameAll 185 = .ok (.goto 4, 3) := by decide +kernel
theorem dX2_nameAll_188 : decode cX2_nameAll 188 = .ok (.iconst 0, 1) := by decide +kernel
theorem dX2_nameAll_189 : decode cX2_nameAll 189 = .ok (.iadd, 1) := by decide +kernel
theorem dX2_nameAll_190 : decode cX2_nameAll 190 = .ok (.istore 5, 2) := by decide +kernel
theorem dX2_nameAll_192 : decode cX2_nameAll 192 = .ok (.iinc 6 1, 3) := by decide +kernel
theorem dX2_nameAll_195 : decode cX2_nameAll 195 = .ok (.goto (-43), 3) := by decide +kernel
theorem dX2_nameAll_198 : decode cX2_nameAll 198 = .ok (.aload_n 0, 1) := by decide +kernel
theorem dX2_nameAll_199 : decode cX2_nameAll 199 = .ok (.getfield 15, 3) := by decide +kernel
theorem dX2_nameAll_202 : decode cX2_nameAll 202 = .ok (.bipush 8, 2) := by decide +kernel
theorem dX2_nameAll_204 : decode cX2_nameAll 204 = .ok (.iload 5, 2) := by decide +kernel
theorem dX2_nameAll_206 : decode cX2_nameAll 206 = .ok (.iastore, 1) := by decide +kernel
theorem dX2_nameAll_207 : decode cX2_nameAll 207 = .ok (.return_, 1) := by decide +kernel
theorem dX2_turned_0 : decode cX2_turned 0 = .ok (.iload_n 1, 1) := by decide +kernel
theorem dX2_turned_1 : decode cX2_turned 1 = .ok (.bipush 45, 2) := by decide +kernel
theorem dX2_turned_3 : decode cX2_turned 3 = .ok (.if_icmp .ne 6, 3) := by decide +kernel
theorem dX2_turned_6 : decode cX2_turned 6 = .ok (.iload_n 2, 1) := by decide +kernel
theorem dX2_turned_7 : decode cX2_turned 7 = .ok (.ineg, 1) := by decide +kernel
theorem dX2_turned_8 : decode cX2_turned 8 = .ok (.ireturn, 1) := by decide +kernel
theorem dX2_turned_9 : decode cX2_turned 9 = .ok (.iload_n 1, 1) := by decide +kernel
theorem dX2_turned_10 : decode cX2_turned 10 = .ok (.bipush 25, 2) := by decide +kernel
theorem dX2_turned_12 : decode cX2_turned 12 = .ok (.if_icmp .ne 13, 3) := by decide +kernel
theorem dX2_turned_15 : decode cX2_turned 15 = .ok (.iload_n 2, 1) := by decide +kernel
theorem dX2_turned_16 : decode cX2_turned 16 = .ok (.ifCond .ne 7, 3) := by decide +kernel
theorem dX2_turned_19 : decode cX2_turned 19 = .ok (.iconst 1, 1) := by decide +kernel
theorem dX2_turned_20 : decode cX2_turned 20 = .ok (.goto 4, 3) := by decide +kernel
theorem dX2_turned_23 : decode cX2_turned 23 = .ok (.iconst 0, 1) := by decide +kernel
theorem dX2_turned_24 : decode cX2_turned 24 = .ok (.ireturn, 1) := by decide +kernel
theorem dX2_turned_25 : decode cX2_turned 25 = .ok (.iload_n 2, 1) := by decide +kernel
theorem dX2_turned_26 : decode cX2_turned 26 = .ok (.ifCond .lt 26, 3) := by decide +kernel
theorem dX2_turned_29 : decode cX2_turned 29 = .ok (.iload_n 2, 1) := by decide +kernel
theorem dX2_turned_30 : decode cX2_turned 30 = .ok (.aload_n 0, 1) := by decide +kernel
theorem dX2_turned_31 : decode cX2_turned 31 = .ok (.getfield 18, 3) := by decide +kernel
theorem dX2_turned_34 : decode cX2_turned 34 = .ok (.getfield 83, 3) := by decide +kernel
theorem dX2_turned_37 : decode cX2_turned 37 = .ok (.if_icmp .ge 15, 3) := by decide +kernel
theorem dX2_turned_40 : decode cX2_turned 40 = .ok (.aload_n 0, 1) := by decide +kernel
theorem dX2_turned_41 : decode cX2_turned 41 = .ok (.getfield 18, 3) := by decide +kernel
theorem dX2_turned_44 : decode cX2_turned 44 = .ok (.getfield 63, 3) := by decide +kernel
theorem dX2_turned_47 : decode cX2_turned 47 = .ok (.iload_n 2, 1) := by decide +kernel
theorem dX2_turned_48 : decode cX2_turned 48 = .ok (.iaload, 1) := by decide +kernel
theorem dX2_turned_49 : decode cX2_turned 49 = .ok (.goto 4, 3) := by decide +kernel
theorem dX2_turned_52 : decode cX2_turned 52 = .ok (.iconst 0, 1) := by decide +kernel
theorem dX2_turned_53 : decode cX2_turned 53 = .ok (.ireturn, 1) := by decide +kernel
theorem dX2_joined_0 : decode cX2_joined 0 = .ok (.lconst 0, 1) := by decide +kernel
theorem dX2_joined_1 : decode cX2_joined 1 = .ok (.lstore 5, 2) := by decide +kernel
theorem dX2_joined_3 : decode cX2_joined 3 = .ok (.iload_n 0, 1) := by decide +kernel
theorem dX2_joined_4 : decode cX2_joined 4 = .ok (.tableswitch 234 26 40 #[118, 234, 138, 156, 234, 174, 186, 198, 210, 222, 234, 76, 84, 92, 100], 76) := by decide +kernel
theorem dX2_joined_80 : decode cX2_joined 80 = .ok (.lload_n 1, 1) := by decide +kernel
theorem dX2_joined_81 : decode cX2_joined 81 = .ok (.lload_n 3, 1) := by decide +kernel
theorem dX2_joined_82 : decode cX2_joined 82 = .ok (.ladd, 1) := by decide +kernel
theorem dX2_joined_83 : decode cX2_joined 83 = .ok (.lstore 5, 2) := by decide +kernel
theorem dX2_joined_85 : decode cX2_joined 85 = .ok (.goto 165, 3) := by decide +kernel
theorem dX2_joined_88 : decode cX2_joined 88 = .ok (.lload_n 1, 1) := by decide +kernel
theorem dX2_joined_89 : decode cX2_joined 89 = .ok (.lload_n 3, 1) := by decide +kernel
theorem dX2_joined_90 : decode cX2_joined 90 = .ok (.lsub, 1) := by decide +kernel
theorem dX2_joined_91 : decode cX2_joined 91 = .ok (.lstore 5, 2) := by decide +kernel
theorem dX2_joined_93 : decode cX2_joined 93 = .ok (.goto 157, 3) := by decide +kernel
theorem dX2_joined_96 : decode cX2_joined 96 = .ok (.lload_n 1, 1) := by decide +kernel
theorem dX2_joined_97 : decode cX2_joined 97 = .ok (.lload_n 3, 1) := by decide +kernel
theorem dX2_joined_98 : decode cX2_joined 98 = .ok (.lmul, 1) := by decide +kernel
theorem dX2_joined_99 : decode cX2_joined 99 = .ok (.lstore 5, 2) := by decide +kernel
theorem dX2_joined_101 : decode cX2_joined 101 = .ok (.goto 149, 3) := by decide +kernel
theorem dX2_joined_104 : decode cX2_joined 104 = .ok (.lload_n 3, 1) := by decide +kernel
theorem dX2_joined_105 : decode cX2_joined 105 = .ok (.lconst 0, 1) := by decide +kernel
theorem dX2_joined_106 : decode cX2_joined 106 = .ok (.lcmp, 1) := by decide +kernel
theorem dX2_joined_107 : decode cX2_joined 107 = .ok (.ifCond .ne 7, 3) := by decide +kernel
theorem dX2_joined_110 : decode cX2_joined 110 = .ok (.lconst 0, 1) := by decide +kernel
theorem dX2_joined_111 : decode cX2_joined 111 = .ok (.goto 6, 3) := by decide +kernel
theorem dX2_joined_114 : decode cX2_joined 114 = .ok (.lload_n 1, 1) := by decide +kernel
theorem dX2_joined_115 : decode cX2_joined 115 = .ok (.lload_n 3, 1) := by decide +kernel
theorem dX2_joined_116 : decode cX2_joined 116 = .ok (.ldiv, 1) := by decide +kernel
theorem dX2_joined_117 : decode cX2_joined 117 = .ok (.lstore 5, 2) := by decide +kernel
theorem dX2_joined_119 : decode cX2_joined 119 = .ok (.goto 131, 3) := by decide +kernel
theorem dX2_joined_122 : decode cX2_joined 122 = .ok (.lload_n 3, 1) := by decide +kernel
theorem dX2_joined_123 : decode cX2_joined 123 = .ok (.lconst 0, 1) := by decide +kernel
theorem dX2_joined_124 : decode cX2_joined 124 = .ok (.lcmp, 1) := by decide +kernel
theorem dX2_joined_125 : decode cX2_joined 125 = .ok (.ifCond .ne 7, 3) := by decide +kernel
theorem dX2_joined_128 : decode cX2_joined 128 = .ok (.lconst 0, 1) := by decide +kernel
theorem dX2_joined_129 : decode cX2_joined 129 = .ok (.goto 8, 3) := by decide +kernel
theorem dX2_joined_132 : decode cX2_joined 132 = .ok (.lload_n 1, 1) := by decide +kernel
theorem dX2_joined_133 : decode cX2_joined 133 = .ok (.lload_n 1, 1) := by decide +kernel
theorem dX2_joined_134 : decode cX2_joined 134 = .ok (.lload_n 3, 1) := by decide +kernel
theorem dX2_joined_135 : decode cX2_joined 135 = .ok (.lrem, 1) := by decide +kernel
theorem dX2_joined_136 : decode cX2_joined 136 = .ok (.lsub, 1) := by decide +kernel
theorem dX2_joined_137 : decode cX2_joined 137 = .ok (.lstore 5, 2) := by decide +kernel
theorem dX2_joined_139 : decode cX2_joined 139 = .ok (.goto 111, 3) := by decide +kernel
theorem dX2_joined_142 : decode cX2_joined 142 = .ok (.lload_n 1, 1) := by decide +kernel
theorem dX2_joined_143 : decode cX2_joined 143 = .ok (.lconst 0, 1) := by decide +kernel
theorem dX2_joined_144 : decode cX2_joined 144 = .ok (.lcmp, 1) := by decide +kernel
theorem dX2_joined_145 : decode cX2_joined 145 = .ok (.ifCond .ne 9, 3) := by decide +kernel
theorem dX2_joined_148 : decode cX2_joined 148 = .ok (.lload_n 3, 1) := by decide +kernel
theorem dX2_joined_149 : decode cX2_joined 149 = .ok (.lconst 0, 1) := by decide +kernel
theorem dX2_joined_150 : decode cX2_joined 150 = .ok (.lcmp, 1) := by decide +kernel
theorem dX2_joined_151 : decode cX2_joined 151 = .ok (.ifCond .eq 7, 3) := by decide +kernel
theorem dX2_joined_154 : decode cX2_joined 154 = .ok (.iconst 1, 1) := by decide +kernel
theorem dX2_joined_155 : decode cX2_joined 155 = .ok (.goto 4, 3) := by decide +kernel
theorem dX2_joined_158 : decode cX2_joined 158 = .ok (.iconst 0, 1) := by decide +kernel
theorem dX2_joined_159 : decode cX2_joined 159 = .ok (.ireturn, 1) := by decide +kernel
theorem dX2_joined_160 : decode cX2_joined 160 = .ok (.lload_n 1, 1) := by decide +kernel
theorem dX2_joined_161 : decode cX2_joined 161 = .ok (.lconst 0, 1) := by decide +kernel
theorem dX2_joined_162 : decode cX2_joined 162 = .ok (.lcmp, 1) := by decide +kernel
theorem dX2_joined_163 : decode cX2_joined 163 = .ok (.ifCond .eq 13, 3) := by decide +kernel
theorem dX2_joined_166 : decode cX2_joined 166 = .ok (.lload_n 3, 1) := by decide +kernel
theorem dX2_joined_167 : decode cX2_joined 167 = .ok (.lconst 0, 1) := by decide +kernel
theorem dX2_joined_168 : decode cX2_joined 168 = .ok (.lcmp, 1) := by decide +kernel
theorem dX2_joined_169 : decode cX2_joined 169 = .ok (.ifCond .eq 7, 3) := by decide +kernel
theorem dX2_joined_172 : decode cX2_joined 172 = .ok (.iconst 1, 1) := by decide +kernel
theorem dX2_joined_173 : decode cX2_joined 173 = .ok (.goto 4, 3) := by decide +kernel
theorem dX2_joined_176 : decode cX2_joined 176 = .ok (.iconst 0, 1) := by decide +kernel
theorem dX2_joined_177 : decode cX2_joined 177 = .ok (.ireturn, 1) := by decide +kernel
theorem dX2_joined_178 : decode cX2_joined 178 = .ok (.lload_n 1, 1) := by decide +kernel
theorem dX2_joined_179 : decode cX2_joined 179 = .ok (.lload_n 3, 1) := by decide +kernel
theorem dX2_joined_180 : decode cX2_joined 180 = .ok (.lcmp, 1) := by decide +kernel
theorem dX2_joined_181 : decode cX2_joined 181 = .ok (.ifCond .ge 7, 3) := by decide +kernel
theorem dX2_joined_184 : decode cX2_joined 184 = .ok (.iconst 1, 1) := by decide +kernel
theorem dX2_joined_185 : decode cX2_joined 185 = .ok (.goto 4, 3) := by decide +kernel
theorem dX2_joined_188 : decode cX2_joined 188 = .ok (.iconst 0, 1) := by decide +kernel
theorem dX2_joined_189 : decode cX2_joined 189 = .ok (.ireturn, 1) := by decide +kernel
theorem dX2_joined_190 : decode cX2_joined 190 = .ok (.lload_n 1, 1) := by decide +kernel
theorem dX2_joined_191 : decode cX2_joined 191 = .ok (.lload_n 3, 1) := by decide +kernel
theorem dX2_joined_192 : decode cX2_joined 192 = .ok (.lcmp, 1) := by decide +kernel
theorem dX2_joined_193 : decode cX2_joined 193 = .ok (.ifCond .gt 7, 3) := by decide +kernel
theorem dX2_joined_196 : decode cX2_joined 196 = .ok (.iconst 1, 1) := by decide +kernel
theorem dX2_joined_197 : decode cX2_joined 197 = .ok (.goto 4, 3) := by decide +kernel
theorem dX2_joined_200 : decode cX2_joined 200 = .ok (.iconst 0, 1) := by decide +kernel
theorem dX2_joined_201 : decode cX2_joined 201 = .ok (.ireturn, 1) := by decide +kernel
theorem dX2_joined_202 : decode cX2_joined 202 = .ok (.lload_n 1, 1) := by decide +kernel
theorem dX2_joined_203 : decode cX2_joined 203 = .ok (.lload_n 3, 1) := by decide +kernel
theorem dX2_joined_204 : decode cX2_joined 204 = .ok (.lcmp, 1) := by decide +kernel
theorem dX2_joined_205 : decode cX2_joined 205 = .ok (.ifCond .le 7, 3) := by decide +kernel
theorem dX2_joined_208 : decode cX2_joined 208 = .ok (.iconst 1, 1) := by decide +kernel
theorem dX2_joined_209 : decode cX2_joined 209 = .ok (.goto 4, 3) := by decide +kernel
theorem dX2_joined_212 : decode cX2_joined 212 = .ok (.iconst 0, 1) := by decide +kernel
theorem dX2_joined_213 : decode cX2_joined 213 = .ok (.ireturn, 1) := by decide +kernel
theorem dX2_joined_214 : decode cX2_joined 214 = .ok (.lload_n 1, 1) := by decide +kernel
theorem dX2_joined_215 : decode cX2_joined 215 = .ok (.lload_n 3, 1) := by decide +kernel
theorem dX2_joined_216 : decode cX2_joined 216 = .ok (.lcmp, 1) := by decide +kernel
theorem dX2_joined_217 : decode cX2_joined 217 = .ok (.ifCond .lt 7, 3) := by decide +kernel
theorem dX2_joined_220 : decode cX2_joined 220 = .ok (.iconst 1, 1) := by decide +kernel
theorem dX2_joined_221 : decode cX2_joined 221 = .ok (.goto 4, 3) := by decide +kernel
theorem dX2_joined_224 : decode cX2_joined 224 = .ok (.iconst 0, 1) := by decide +kernel
theorem dX2_joined_225 : decode cX2_joined 225 = .ok (.ireturn, 1) := by decide +kernel
theorem dX2_joined_226 : decode cX2_joined 226 = .ok (.lload_n 1, 1) := by decide +kernel
theorem dX2_joined_227 : decode cX2_joined 227 = .ok (.lload_n 3, 1) := by decide +kernel
theorem dX2_joined_228 : decode cX2_joined 228 = .ok (.lcmp, 1) := by decide +kernel
theorem dX2_joined_229 : decode cX2_joined 229 = .ok (.ifCond .ne 7, 3) := by decide +kernel
theorem dX2_joined_232 : decode cX2_joined 232 = .ok (.iconst 1, 1) := by decide +kernel
theorem dX2_joined_233 : decode cX2_joined 233 = .ok (.goto 4, 3) := by decide +kernel
theorem dX2_joined_236 : decode cX2_joined 236 = .ok (.iconst 0, 1) := by decide +kernel
theorem dX2_joined_237 : decode cX2_joined 237 = .ok (.ireturn, 1) := by decide +kernel
theorem dX2_joined_238 : decode cX2_joined 238 = .ok (.lload_n 1, 1) := by decide +kernel
theorem dX2_joined_239 : decode cX2_joined 239 = .ok (.lload_n 3, 1) := by decide +kernel
theorem dX2_joined_240 : decode cX2_joined 240 = .ok (.lcmp, 1) := by decide +kernel
theorem dX2_joined_241 : decode cX2_joined 241 = .ok (.ifCond .eq 7, 3) := by decide +kernel
theorem dX2_joined_244 : decode cX2_joined 244 = .ok (.iconst 1, 1) := by decide +kernel
theorem dX2_joined_245 : decode cX2_joined 245 = .ok (.goto 4, 3) := by decide +kernel
theorem dX2_joined_248 : decode cX2_joined 248 = .ok (.iconst 0, 1) := by decide +kernel
theorem dX2_joined_249 : decode cX2_joined 249 = .ok (.ireturn, 1) := by decide +kernel
theorem dX2_joined_250 : decode cX2_joined 250 = .ok (.lload 5, 2) := by decide +kernel
theorem dX2_joined_252 : decode cX2_joined 252 = .ok (.ldc2_w 89, 3) := by decide +kernel
theorem dX2_joined_255 : decode cX2_joined 255 = .ok (.lcmp, 1) := by decide +kernel
theorem dX2_joined_256 : decode cX2_joined 256 = .ok (.ifCond .le 6, 3) := by decide +kernel
theorem dX2_joined_259 : decode cX2_joined 259 = .ok (.ldc 91, 2) := by decide +kernel
theorem dX2_joined_261 : decode cX2_joined 261 = .ok (.ireturn, 1) := by decide +kernel
theorem dX2_joined_262 : decode cX2_joined 262 = .ok (.lload 5, 2) := by decide +kernel
theorem dX2_joined_264 : decode cX2_joined 264 = .ok (.ldc2_w 92, 3) := by decide +kernel
theorem dX2_joined_267 : decode cX2_joined 267 = .ok (.lcmp, 1) := by decide +kernel
theorem dX2_joined_268 : decode cX2_joined 268 = .ok (.ifCond .ge 8, 3) := by decide +kernel
theorem dX2_joined_271 : decode cX2_joined 271 = .ok (.ldc 94, 2) := by decide +kernel
theorem dX2_joined_273 : decode cX2_joined 273 = .ok (.goto 6, 3) := by decide +kernel
theorem dX2_joined_276 : decode cX2_joined 276 = .ok (.lload 5, 2) := by decide +kernel
theorem dX2_joined_278 : decode cX2_joined 278 = .ok (.l2i, 1) := by decide +kernel
theorem dX2_joined_279 : decode cX2_joined 279 = .ok (.ireturn, 1) := by decide +kernel
theorem dX3_init_0 : decode cX3_init 0 = .ok (.aload_n 0, 1) := by decide +kernel
theorem dX3_init_1 : decode cX3_init 1 = .ok (.invokespecial 3, 3) := by decide +kernel
theorem dX3_init_4 : decode cX3_init 4 = .ok (.aload_n 0, 1) := by decide +kernel
theorem dX3_init_5 : decode cX3_init 5 = .ok (.bipush 6, 2) := by decide +kernel
theorem dX3_init_7 : decode cX3_init 7 = .ok (.newarray .int, 2) := by decide +kernel
theorem dX3_init_9 : decode cX3_init 9 = .ok (.dup, 1) := by decide +kernel
theorem dX3_init_10 : decode cX3_init 10 = .ok (.iconst 0, 1) := by decide +kernel
theorem dX3_init_11 : decode cX3_init 11 = .ok (.bipush 10, 2) := by decide +kernel
theorem dX3_init_13 : decode cX3_init 13 = .ok (.iastore, 1) := by decide +kernel
theorem dX3_init_14 : decode cX3_init 14 = .ok (.dup, 1) := by decide +kernel
theorem dX3_init_15 : decode cX3_init 15 = .ok (.iconst 1, 1) := by decide +kernel
theorem dX3_init_16 : decode cX3_init 16 = .ok (.iconst 0, 1) := by decide +kernel
theorem dX3_init_17 : decode cX3_init 17 = .ok (.iastore, 1) := by decide +kernel
theorem dX3_init_18 : decode cX3_init 18 = .ok (.dup, 1) := by decide +kernel
theorem dX3_init_19 : decode cX3_init 19 = .ok (.iconst 2, 1) := by decide +kernel
theorem dX3_init_20 : decode cX3_init 20 = .ok (.iconst 0, 1) := by decide +kernel
theorem dX3_init_21 : decode cX3_init 21 = .ok (.iastore, 1) := by decide +kernel
theorem dX3_init_22 : decode cX3_init 22 = .ok (.dup, 1) := by decide +kernel
theorem dX3_init_23 : decode cX3_init 23 = .ok (.iconst 3, 1) := by decide +kernel
theorem dX3_init_24 : decode cX3_init 24 = .ok (.iconst 0, 1) := by decide +kernel
theorem dX3_init_25 : decode cX3_init 25 = .ok (.iastore, 1) := by decide +kernel
theorem dX3_init_26 : decode cX3_init 26 = .ok (.dup, 1) := by decide +kernel
theorem dX3_init_27 : decode cX3_init 27 = .ok (.iconst 4, 1) := by decide +kernel
theorem dX3_init_28 : decode cX3_init 28 = .ok (.iconst 0, 1) := by decide +kernel
theorem dX3_init_29 : decode cX3_init 29 = .ok (.iastore, 1) := by decide +kernel
theorem dX3_init_30 : decode cX3_init 30 = .ok (.dup, 1) := by decide +kernel
theorem dX3_init_31 : decode cX3_init 31 = .ok (.iconst 5, 1) := by decide +kernel
theorem dX3_init_32 : decode cX3_init 32 = .ok (.iconst 0, 1) := by decide +kernel
theorem dX3_init_33 : decode cX3_init 33 = .ok (.iastore, 1) := by decide +kernel
theorem dX3_init_34 : decode cX3_init 34 = .ok (.putfield 9, 3) := by decide +kernel
theorem dX3_init_37 : decode cX3_init 37 = .ok (.return_, 1) := by decide +kernel
theorem dX3_areWhole_0 : decode cX3_areWhole 0 = .ok (.iconst 0, 1) := by decide +kernel
theorem dX3_areWhole_1 : decode cX3_areWhole 1 = .ok (.istore_n 1, 1) := by decide +kernel
theorem dX3_areWhole_2 : decode cX3_areWhole 2 = .ok (.iconst 0, 1) := by decide +kernel
theorem dX3_areWhole_3 : decode cX3_areWhole 3 = .ok (.istore_n 2, 1) := by decide +kernel
theorem dX3_areWhole_4 : decode cX3_areWhole 4 = .ok (.iload_n 2, 1) := by decide +kernel
theorem dX3_areWhole_5 : decode cX3_areWhole 5 = .ok (.bipush 6, 2) := by decide +kernel
theorem dX3_areWhole_7 : decode cX3_areWhole 7 = .ok (.if_icmp .ge 18, 3) := by decide +kernel
theorem dX3_areWhole_10 : decode cX3_areWhole 10 = .ok (.iload_n 1, 1) := by decide +kernel
theorem dX3_areWhole_11 : decode cX3_areWhole 11 = .ok (.aload_n 0, 1) := by decide +kernel
theorem dX3_areWhole_12 : decode cX3_areWhole 12 = .ok (.getfield 9, 3) := by decide +kernel
theorem dX3_areWhole_15 : decode cX3_areWhole 15 = .ok (.iload_n 2, 1) := by decide +kernel
theorem dX3_areWhole_16 : decode cX3_areWhole 16 = .ok (.iaload, 1) := by decide +kernel
theorem dX3_areWhole_17 : decode cX3_areWhole 17 = .ok (.iadd, 1) := by decide +kernel
theorem dX3_areWhole_18 : decode cX3_areWhole 18 = .ok (.istore_n 1, 1) := by decide +kernel
theorem dX3_areWhole_19 : decode cX3_areWhole 19 = .ok (.iinc 2 1, 3) := by decide +kernel
theorem dX3_areWhole_22 : decode cX3_areWhole 22 = .ok (.goto (-18), 3) := by decide +kernel
theorem dX3_areWhole_25 : decode cX3_areWhole 25 = .ok (.iload_n 1, 1) := by decide +kernel
theorem dX3_areWhole_26 : decode cX3_areWhole 26 = .ok (.bipush 10, 2) := by decide +kernel
theorem dX3_areWhole_28 : decode cX3_areWhole 28 = .ok (.if_icmp .ne 7, 3) := by decide +kernel
theorem dX3_areWhole_31 : decode cX3_areWhole 31 = .ok (.iconst 1, 1) := by decide +kernel
theorem dX3_areWhole_32 : decode cX3_areWhole 32 = .ok (.goto 4, 3) := by decide +kernel
theorem dX3_areWhole_35 : decode cX3_areWhole 35 = .ok (.iconst 0, 1) := by decide +kernel
theorem dX3_areWhole_36 : decode cX3_areWhole 36 = .ok (.ireturn, 1) := by decide +kernel
theorem dX3_unitOf_0 : decode cX3_unitOf 0 = .ok (.lconst 1, 1) := by decide +kernel
theorem dX3_unitOf_1 : decode cX3_unitOf 1 = .ok (.lstore_n 1, 1) := by decide +kernel
theorem dX3_unitOf_2 : decode cX3_unitOf 2 = .ok (.iconst 0, 1) := by decide +kernel
theorem dX3_unitOf_3 : decode cX3_unitOf 3 = .ok (.istore_n 3, 1) := by decide +kernel
theorem dX3_unitOf_4 : decode cX3_unitOf 4 = .ok (.iload_n 3, 1) := by decide +kernel
theorem dX3_unitOf_5 : decode cX3_unitOf 5 = .ok (.iload_n 0, 1) := by decide +kernel
theorem dX3_unitOf_6 : decode cX3_unitOf 6 = .ok (.if_icmp .ge 15, 3) := by decide +kernel
theorem dX3_unitOf_9 : decode cX3_unitOf 9 = .ok (.lload_n 1, 1) := by decide +kernel
theorem dX3_unitOf_10 : decode cX3_unitOf 10 = .ok (.ldc2_w 15, 3) := by decide +kernel
theorem dX3_unitOf_13 : decode cX3_unitOf 13 = .ok (.lmul, 1) := by decide +kernel
theorem dX3_unitOf_14 : decode cX3_unitOf 14 = .ok (.lstore_n 1, 1) := by decide +kernel
theorem dX3_unitOf_15 : decode cX3_unitOf 15 = .ok (.iinc 3 1, 3) := by decide +kernel
theorem dX3_unitOf_18 : decode cX3_unitOf 18 = .ok (.goto (-14), 3) := by decide +kernel
theorem dX3_unitOf_21 : decode cX3_unitOf 21 = .ok (.lload_n 1, 1) := by decide +kernel
theorem dX3_unitOf_22 : decode cX3_unitOf 22 = .ok (.lreturn, 1) := by decide +kernel
theorem dX3_meanOf_0 : decode cX3_meanOf 0 = .ok (.lconst 0, 1) := by decide +kernel
theorem dX3_meanOf_1 : decode cX3_meanOf 1 = .ok (.lstore_n 2, 1) := by decide +kernel
theorem dX3_meanOf_2 : decode cX3_meanOf 2 = .ok (.iconst 0, 1) := by decide +kernel
theorem dX3_meanOf_3 : decode cX3_meanOf 3 = .ok (.istore 4, 2) := by decide +kernel
theorem dX3_meanOf_5 : decode cX3_meanOf 5 = .ok (.iload 4, 2) := by decide +kernel
theorem dX3_meanOf_7 : decode cX3_meanOf 7 = .ok (.iload_n 1, 1) := by decide +kernel
theorem dX3_meanOf_8 : decode cX3_meanOf 8 = .ok (.if_icmp .ge 62, 3) := by decide +kernel
theorem dX3_meanOf_11 : decode cX3_meanOf 11 = .ok (.lconst 0, 1) := by decide +kernel
theorem dX3_meanOf_12 : decode cX3_meanOf 12 = .ok (.lstore 5, 2) := by decide +kernel
theorem dX3_meanOf_14 : decode cX3_meanOf 14 = .ok (.iconst 0, 1) := by decide +kernel
theorem dX3_meanOf_15 : decode cX3_meanOf 15 = .ok (.istore 7, 2) := by decide +kernel
theorem dX3_meanOf_17 : decode cX3_meanOf 17 = .ok (.iload 7, 2) := by decide +kernel
theorem dX3_meanOf_19 : decode cX3_meanOf 19 = .ok (.bipush 6, 2) := by decide +kernel
theorem dX3_meanOf_21 : decode cX3_meanOf 21 = .ok (.if_icmp .ge 40, 3) := by decide +kernel
theorem dX3_meanOf_24 : decode cX3_meanOf 24 = .ok (.lload 5, 2) := by decide +kernel
theorem dX3_meanOf_26 : decode cX3_meanOf 26 = .ok (.aload_n 0, 1) := by decide +kernel
theorem dX3_meanOf_27 : decode cX3_meanOf 27 = .ok (.getfield 9, 3) := by decide +kernel
theorem dX3_meanOf_30 : decode cX3_meanOf 30 = .ok (.iload 7, 2) := by decide +kernel
theorem dX3_meanOf_32 : decode cX3_meanOf 32 = .ok (.iaload, 1) := by decide +kernel
theorem dX3_meanOf_33 : decode cX3_meanOf 33 = .ok (.i2l, 1) := by decide +kernel
theorem dX3_meanOf_34 : decode cX3_meanOf 34 = .ok (.ldc2_w 15, 3) := by decide +kernel
theorem dX3_meanOf_37 : decode cX3_meanOf 37 = .ok (.iload 7, 2) := by decide +kernel
theorem dX3_meanOf_39 : decode cX3_meanOf 39 = .ok (.i2l, 1) := by decide +kernel
theorem dX3_meanOf_40 : decode cX3_meanOf 40 = .ok (.lmul, 1) := by decide +kernel
theorem dX3_meanOf_41 : decode cX3_meanOf 41 = .ok (.iload 4, 2) := by decide +kernel
theorem dX3_meanOf_43 : decode cX3_meanOf 43 = .ok (.invokestatic 17, 3) := by decide +kernel
theorem dX3_meanOf_46 : decode cX3_meanOf 46 = .ok (.lmul, 1) := by decide +kernel
theorem dX3_meanOf_47 : decode cX3_meanOf 47 = .ok (.lload_n 2, 1) := by decide +kernel
theorem dX3_meanOf_48 : decode cX3_meanOf 48 = .ok (.invokestatic 21, 3) := by decide +kernel
theorem dX3_meanOf_51 : decode cX3_meanOf 51 = .ok (.lmul, 1) := by decide +kernel
theorem dX3_meanOf_52 : decode cX3_meanOf 52 = .ok (.ladd, 1) := by decide +kernel
theorem dX3_meanOf_53 : decode cX3_meanOf 53 = .ok (.lstore 5, 2) := by decide +kernel
theorem dX3_meanOf_55 : decode cX3_meanOf 55 = .ok (.iinc 7 1, 3) := by decide +kernel
theorem dX3_meanOf_58 : decode cX3_meanOf 58 = .ok (.goto (-41), 3) := by decide +kernel
theorem dX3_meanOf_61 : decode cX3_meanOf 61 = .ok (.lload 5, 2) := by decide +kernel
theorem dX3_meanOf_63 : decode cX3_meanOf 63 = .ok (.lstore_n 2, 1) := by decide +kernel
theorem dX3_meanOf_64 : decode cX3_meanOf 64 = .ok (.iinc 4 1, 3) := by decide +kernel
theorem dX3_meanOf_67 : decode cX3_meanOf 67 = .ok (.goto (-62), 3) := by decide +kernel
theorem dX3_meanOf_70 : decode cX3_meanOf 70 = .ok (.lload_n 2, 1) := by decide +kernel
theorem dX3_meanOf_71 : decode cX3_meanOf 71 = .ok (.lreturn, 1) := by decide +kernel
theorem dX4_init_0 : decode cX4_init 0 = .ok (.aload_n 0, 1) := by decide +kernel
theorem dX4_init_1 : decode cX4_init 1 = .ok (.invokespecial 3, 3) := by decide +kernel
theorem dX4_init_4 : decode cX4_init 4 = .ok (.aload_n 0, 1) := by decide +kernel
theorem dX4_init_5 : decode cX4_init 5 = .ok (.iconst (-1), 1) := by decide +kernel
theorem dX4_init_6 : decode cX4_init 6 = .ok (.putfield 9, 3) := by decide +kernel
theorem dX4_init_9 : decode cX4_init 9 = .ok (.aload_n 0, 1) := by decide +kernel
theorem dX4_init_10 : decode cX4_init 10 = .ok (.iconst (-1), 1) := by decide +kernel
theorem dX4_init_11 : decode cX4_init 11 = .ok (.putfield 15, 3) := by decide +kernel
theorem dX4_init_14 : decode cX4_init 14 = .ok (.aload_n 0, 1) := by decide +kernel
theorem dX4_init_15 : decode cX4_init 15 = .ok (.bipush 96, 2) := by decide +kernel
theorem dX4_init_17 : decode cX4_init 17 = .ok (.newarray .int, 2) := by decide +kernel
theorem dX4_init_19 : decode cX4_init 19 = .ok (.putfield 18, 3) := by decide +kernel
theorem dX4_init_22 : decode cX4_init 22 = .ok (.aload_n 0, 1) := by decide +kernel
theorem dX4_init_23 : decode cX4_init 23 = .ok (.sipush 300, 3) := by decide +kernel
theorem dX4_init_26 : decode cX4_init 26 = .ok (.newarray .int, 2) := by decide +kernel
theorem dX4_init_28 : decode cX4_init 28 = .ok (.putfield 22, 3) := by decide +kernel
theorem dX4_init_31 : decode cX4_init 31 = .ok (.aload_n 0, 1) := by decide +kernel
theorem dX4_init_32 : decode cX4_init 32 = .ok (.iconst 4, 1) := by decide +kernel
theorem dX4_init_33 : decode cX4_init 33 = .ok (.newarray .int, 2) := by decide +kernel
theorem dX4_init_35 : decode cX4_init 35 = .ok (.putfield 25, 3) := by decide +kernel
theorem dX4_init_38 : decode cX4_init 38 = .ok (.aload_n 0, 1) := by decide +kernel
theorem dX4_init_39 : decode cX4_init 39 = .ok (.iconst 4, 1) := by decide +kernel
theorem dX4_init_40 : decode cX4_init 40 = .ok (.newarray .int, 2) := by decide +kernel
theorem dX4_init_42 : decode cX4_init 42 = .ok (.putfield 28, 3) := by decide +kernel
theorem dX4_init_45 : decode cX4_init 45 = .ok (.aload_n 0, 1) := by decide +kernel
theorem dX4_init_46 : decode cX4_init 46 = .ok (.aload_n 1, 1) := by decide +kernel
theorem dX4_init_47 : decode cX4_init 47 = .ok (.putfield 31, 3) := by decide +kernel
theorem dX4_init_50 : decode cX4_init 50 = .ok (.return_, 1) := by decide +kernel
theorem dX4_read_0 : decode cX4_read 0 = .ok (.aload_n 0, 1) := by decide +kernel
theorem dX4_read_1 : decode cX4_read 1 = .ok (.getfield 31, 3) := by decide +kernel
theorem dX4_read_4 : decode cX4_read 4 = .ok (.invokevirtual 35, 3) := by decide +kernel
theorem dX4_read_7 : decode cX4_read 7 = .ok (.aload_n 0, 1) := by decide +kernel
theorem dX4_read_8 : decode cX4_read 8 = .ok (.iconst 0, 1) := by decide +kernel
theorem dX4_read_9 : decode cX4_read 9 = .ok (.putfield 40, 3) := by decide +kernel
theorem dX4_read_12 : decode cX4_read 12 = .ok (.aload_n 0, 1) := by decide +kernel
theorem dX4_read_13 : decode cX4_read 13 = .ok (.iconst 0, 1) := by decide +kernel
theorem dX4_read_14 : decode cX4_read 14 = .ok (.putfield 43, 3) := by decide +kernel
theorem dX4_read_17 : decode cX4_read 17 = .ok (.aload_n 0, 1) := by decide +kernel
theorem dX4_read_18 : decode cX4_read 18 = .ok (.iconst 0, 1) := by decide +kernel
theorem dX4_read_19 : decode cX4_read 19 = .ok (.putfield 46, 3) := by decide +kernel
theorem dX4_read_22 : decode cX4_read 22 = .ok (.aload_n 0, 1) := by decide +kernel
theorem dX4_read_23 : decode cX4_read 23 = .ok (.iconst 0, 1) := by decide +kernel
theorem dX4_read_24 : decode cX4_read 24 = .ok (.putfield 9, 3) := by decide +kernel
theorem dX4_read_27 : decode cX4_read 27 = .ok (.aload_n 0, 1) := by decide +kernel
theorem dX4_read_28 : decode cX4_read 28 = .ok (.iconst (-1), 1) := by decide +kernel
theorem dX4_read_29 : decode cX4_read 29 = .ok (.putfield 15, 3) := by decide +kernel
theorem dX4_read_32 : decode cX4_read 32 = .ok (.aload_n 0, 1) := by decide +kernel
theorem dX4_read_33 : decode cX4_read 33 = .ok (.getfield 18, 3) := by decide +kernel
theorem dX4_read_36 : decode cX4_read 36 = .ok (.iconst 0, 1) := by decide +kernel
theorem dX4_read_37 : decode cX4_read 37 = .ok (.invokestatic 49, 3) := by decide +kernel
theorem dX4_read_40 : decode cX4_read 40 = .ok (.aload_n 0, 1) := by decide +kernel
theorem dX4_read_41 : decode cX4_read 41 = .ok (.getfield 25, 3) := by decide +kernel
theorem dX4_read_44 : decode cX4_read 44 = .ok (.iconst 0, 1) := by decide +kernel
theorem dX4_read_45 : decode cX4_read 45 = .ok (.invokestatic 49, 3) := by decide +kernel
theorem dX4_read_48 : decode cX4_read 48 = .ok (.aload_n 0, 1) := by decide +kernel
theorem dX4_read_49 : decode cX4_read 49 = .ok (.getfield 28, 3) := by decide +kernel
theorem dX4_read_52 : decode cX4_read 52 = .ok (.iconst 0, 1) := by decide +kernel
theorem dX4_read_53 : decode cX4_read 53 = .ok (.invokestatic 49, 3) := by decide +kernel
theorem dX4_read_56 : decode cX4_read 56 = .ok (.iconst 0, 1) := by decide +kernel
theorem dX4_read_57 : decode cX4_read 57 = .ok (.istore_n 1, 1) := by decide +kernel
theorem dX4_read_58 : decode cX4_read 58 = .ok (.iload_n 1, 1) := by decide +kernel
theorem dX4_read_59 : decode cX4_read 59 = .ok (.bipush 24, 2) := by decide +kernel
theorem dX4_read_61 : decode cX4_read 61 = .ok (.if_icmp .gt 27, 3) := by decide +kernel
theorem dX4_read_64 : decode cX4_read 64 = .ok (.aload_n 0, 1) := by decide +kernel
theorem dX4_read_65 : decode cX4_read 65 = .ok (.invokevirtual 55, 3) := by decide +kernel
theorem dX4_read_68 : decode cX4_read 68 = .ok (.bipush 44, 2) := by decide +kernel
theorem dX4_read_70 : decode cX4_read 70 = .ok (.if_icmp .eq 18, 3) := by decide +kernel
theorem dX4_read_73 : decode cX4_read 73 = .ok (.aload_n 0, 1) := by decide +kernel
theorem dX4_read_74 : decode cX4_read 74 = .ok (.invokevirtual 59, 3) := by decide +kernel
theorem dX4_read_77 : decode cX4_read 77 = .ok (.ifCond .ne 5, 3) := by decide +kernel
theorem dX4_read_80 : decode cX4_read 80 = .ok (.iconst 0, 1) := by decide +kernel
theorem dX4_read_81 : decode cX4_read 81 = .ok (.ireturn, 1) := by decide +kernel
theorem dX4_read_82 : decode cX4_read 82 = .ok (.iinc 1 1, 3) := by decide +kernel
theorem dX4_read_85 : decode cX4_read 85 = .ok (.goto (-27), 3) := by decide +kernel
theorem dX4_read_88 : decode cX4_read 88 = .ok (.iconst 1, 1) := by decide +kernel
theorem dX4_read_89 : decode cX4_read 89 = .ok (.ireturn, 1) := by decide +kernel
theorem dX4_script_0 : decode cX4_script 0 = .ok (.new 63, 3) := by decide +kernel
theorem dX4_script_3 : decode cX4_script 3 = .ok (.dup, 1) := by decide +kernel
theorem dX4_script_4 : decode cX4_script 4 = .ok (.aload_n 0, 1) := by decide +kernel
theorem dX4_script_5 : decode cX4_script 5 = .ok (.getfield 43, 3) := by decide +kernel
theorem dX4_script_8 : decode cX4_script 8 = .ok (.aload_n 0, 1) := by decide +kernel
theorem dX4_script_9 : decode cX4_script 9 = .ok (.getfield 18, 3) := by decide +kernel
theorem dX4_script_12 : decode cX4_script 12 = .ok (.aload_n 0, 1) := by decide +kernel
theorem dX4_script_13 : decode cX4_script 13 = .ok (.getfield 43, 3) := by decide +kernel
theorem dX4_script_16 : decode cX4_script 16 = .ok (.iconst 4, 1) := by decide +kernel
theorem dX4_script_17 : decode cX4_script 17 = .ok (.imul, 1) := by decide +kernel
theorem dX4_script_18 : decode cX4_script 18 = .ok (.invokestatic 65, 3) := by decide +kernel
theorem dX4_script_21 : decode cX4_script 21 = .ok (.aload_n 0, 1) := by decide +kernel
theorem dX4_script_22 : decode cX4_script 22 = .ok (.getfield 22, 3) := by decide +kernel
theorem dX4_script_25 : decode cX4_script 25 = .ok (.aload_n 0, 1) := by decide +kernel
theorem dX4_script_26 : decode cX4_script 26 = .ok (.getfield 46, 3) := by decide +kernel
theorem dX4_script_29 : decode cX4_script 29 = .ok (.invokestatic 65, 3) := by decide +kernel
theorem dX4_script_32 : decode cX4_script 32 = .ok (.aload_n 0, 1) := by decide +kernel
theorem dX4_script_33 : decode cX4_script 33 = .ok (.getfield 25, 3) := by decide +kernel
theorem dX4_script_36 : decode cX4_script 36 = .ok (.invokevirtual 69, 3) := by decide +kernel
theorem dX4_script_39 : decode cX4_script 39 = .ok (.checkcast 70, 3) := by decide +kernel
theorem dX4_script_42 : decode cX4_script 42 = .ok (.aload_n 0, 1) := by decide +kernel
theorem dX4_script_43 : decode cX4_script 43 = .ok (.getfield 28, 3) := by decide +kernel
theorem dX4_script_46 : decode cX4_script 46 = .ok (.invokevirtual 69, 3) := by decide +kernel
theorem dX4_script_49 : decode cX4_script 49 = .ok (.checkcast 70, 3) := by decide +kernel
theorem dX4_script_52 : decode cX4_script 52 = .ok (.invokespecial 74, 3) := by decide +kernel
theorem dX4_script_55 : decode cX4_script 55 = .ok (.areturn, 1) := by decide +kernel
theorem dX4_kind_0 : decode cX4_kind 0 = .ok (.aload_n 0, 1) := by decide +kernel
theorem dX4_kind_1 : decode cX4_kind 1 = .ok (.getfield 31, 3) := by decide +kernel
theorem dX4_kind_4 : decode cX4_kind 4 = .ok (.aload_n 0, 1) := by decide +kernel
theorem dX4_kind_5 : decode cX4_kind 5 = .ok (.getfield 40, 3) := by decide +kernel
theorem dX4_kind_8 : decode cX4_kind 8 = .ok (.invokevirtual 77, 3) := by decide +kernel
theorem dX4_kind_11 : decode cX4_kind 11 = .ok (.ireturn, 1) := by decide +kernel
theorem dX4_refuse_0 : decode cX4_refuse 0 = .ok (.aload_n 0, 1) := by decide +kernel
theorem dX4_refuse_1 : decode cX4_refuse 1 = .ok (.iload_n 1, 1) := by decide +kernel
theorem dX4_refuse_2 : decode cX4_refuse 2 = .ok (.putfield 9, 3) := by decide +kernel
theorem dX4_refuse_5 : decode cX4_refuse 5 = .ok (.aload_n 0, 1) := by decide +kernel
theorem dX4_refuse_6 : decode cX4_refuse 6 = .ok (.aload_n 0, 1) := by decide +kernel
theorem dX4_refuse_7 : decode cX4_refuse 7 = .ok (.getfield 31, 3) := by decide +kernel
theorem dX4_refuse_10 : decode cX4_refuse 10 = .ok (.aload_n 0, 1) := by decide +kernel
theorem dX4_refuse_11 : decode cX4_refuse 11 = .ok (.getfield 40, 3) := by decide +kernel
theorem dX4_refuse_14 : decode cX4_refuse 14 = .ok (.invokevirtual 81, 3) := by decide +kernel
theorem dX4_refuse_17 : decode cX4_refuse 17 = .ok (.putfield 15, 3) := by decide +kernel
theorem dX4_refuse_20 : decode cX4_refuse 20 = .ok (.iconst 0, 1) := by decide +kernel
theorem dX4_refuse_21 : decode cX4_refuse 21 = .ok (.ireturn, 1) := by decide +kernel
theorem dX4_readKind_0 : decode cX4_readKind 0 = .ok (.aload_n 0, 1) := by decide +kernel
theorem dX4_readKind_1 : decode cX4_readKind 1 = .ok (.invokevirtual 55, 3) := by decide +kernel
theorem dX4_readKind_4 : decode cX4_readKind 4 = .ok (.iload_n 1, 1) := by decide +kernel
theorem dX4_readKind_5 : decode cX4_readKind 5 = .ok (.if_icmp .eq 9, 3) := by decide +kernel
theorem dX4_readKind_8 : decode cX4_readKind 8 = .ok (.aload_n 0, 1) := by decide +kernel
theorem dX4_readKind_9 : decode cX4_readKind 9 = .ok (.iconst 1, 1) := by decide +kernel
theorem dX4_readKind_10 : decode cX4_readKind 10 = .ok (.invokevirtual 84, 3) := by decide +kernel
theorem dX4_readKind_13 : decode cX4_readKind 13 = .ok (.ireturn, 1) := by decide +kernel
theorem dX4_readKind_14 : decode cX4_readKind 14 = .ok (.aload_n 0, 1) := by decide +kernel
theorem dX4_readKind_15 : decode cX4_readKind 15 = .ok (.dup, 1) := by decide +kernel
theorem dX4_readKind_16 : decode cX4_readKind 16 = .ok (.getfield 40, 3) := by decide +kernel
theorem dX4_readKind_19 : decode cX4_readKind 19 = .ok (.iconst 1, 1) := by decide +kernel
theorem dX4_readKind_20 : decode cX4_readKind 20 = .ok (.iadd, 1) := by decide +kernel
theorem dX4_readKind_21 : decode cX4_readKind 21 = .ok (.putfield 40, 3) := by decide +kernel
theorem dX4_readKind_24 : decode cX4_readKind 24 = .ok (.iconst 1, 1) := by decide +kernel
theorem dX4_readKind_25 : decode cX4_readKind 25 = .ok (.ireturn, 1) := by decide +kernel
theorem dX4_readClause_0 : decode cX4_readClause 0 = .ok (.aload_n 0, 1) := by decide +kernel
theorem dX4_readClause_1 : decode cX4_readClause 1 = .ok (.invokevirtual 55, 3) := by decide +kernel
theorem dX4_readClause_4 : decode cX4_readClause 4 = .ok (.istore_n 1, 1) := by decide +kernel
theorem dX4_readClause_5 : decode cX4_readClause 5 = .ok (.iload_n 1, 1) := by decide +kernel
theorem dX4_readClause_6 : decode cX4_readClause 6 = .ok (.iconst 1, 1) := by decide +kernel
theorem dX4_readClause_7 : decode cX4_readClause 7 = .ok (.bipush 11, 2) := by decide +kernel
theorem dX4_readClause_9 : decode cX4_readClause 9 = .ok (.invokestatic 88, 3) := by decide +kernel
theorem dX4_readClause_12 : decode cX4_readClause 12 = .ok (.ifCond .ne 9, 3) := by decide +kernel
theorem dX4_readClause_15 : decode cX4_readClause 15 = .ok (.aload_n 0, 1) := by decide +kernel
theorem dX4_readClause_16 : decode cX4_readClause 16 = .ok (.iconst 1, 1) := by decide +kernel
theorem dX4_readClause_17 : decode cX4_readClause 17 = .ok (.invokevirtual 84, 3) := by decide +kernel
theorem dX4_readClause_20 : decode cX4_readClause 20 = .ok (.ireturn, 1) := by decide +kernel
theorem dX4_readClause_21 : decode cX4_readClause 21 = .ok (.iload_n 1, 1) := by decide +kernel
theorem dX4_readClause_22 : decode cX4_readClause 22 = .ok (.iconst 3, 1) := by decide +kernel
theorem dX4_readClause_23 : decode cX4_readClause 23 = .ok (.if_icmp .gt 24, 3) := by decide +kernel
theorem dX4_readClause_26 : decode cX4_readClause 26 = .ok (.aload_n 0, 1) := by decide +kernel
theorem dX4_readClause_27 : decode cX4_readClause 27 = .ok (.getfield 28, 3) := by decide +kernel
theorem dX4_readClause_30 : decode cX4_readClause 30 = .ok (.iload_n 1, 1) := by decide +kernel
theorem dX4_readClause_31 : decode cX4_readClause 31 = .ok (.iaload, 1) := by decide +kernel
theorem dX4_readClause_32 : decode cX4_readClause 32 = .ok (.aload_n 0, 1) := by decide +kernel
theorem dX4_readClause_33 : decode cX4_readClause 33 = .ok (.getfield 25, 3) := by decide +kernel
theorem dX4_readClause_36 : decode cX4_readClause 36 = .ok (.iload_n 1, 1) := by decide +kernel
theorem dX4_readClause_37 : decode cX4_readClause 37 = .ok (.iaload, 1) := by decide +kernel
theorem dX4_readClause_38 : decode cX4_readClause 38 = .ok (.if_icmp .le 9, 3) := by decide +kernel
theorem dX4_readClause_41 : decode cX4_readClause 41 = .ok (.aload_n 0, 1) := by decide +kernel
theorem dX4_readClause_42 : decode cX4_readClause 42 = .ok (.iconst 4, 1) := by decide +kernel
theorem dX4_readClause_43 : decode cX4_readClause 43 = .ok (.invokevirtual 84, 3) := by decide +kernel
theorem dX4_readClause_46 : decode cX4_readClause 46 = .ok (.ireturn, 1) := by decide +kernel
theorem dX4_readClause_47 : decode cX4_readClause 47 = .ok (.aload_n 0, 1) := by decide +kernel
theorem dX4_readClause_48 : decode cX4_readClause 48 = .ok (.getfield 43, 3) := by decide +kernel
theorem dX4_readClause_51 : decode cX4_readClause 51 = .ok (.bipush 24, 2) := by decide +kernel
theorem dX4_readClause_53 : decode cX4_readClause 53 = .ok (.if_icmp .lt 10, 3) := by decide +kernel
theorem dX4_readClause_56 : decode cX4_readClause 56 = .ok (.aload_n 0, 1) := by decide +kernel
theorem dX4_readClause_57 : decode cX4_readClause 57 = .ok (.bipush 6, 2) := by decide +kernel
theorem dX4_readClause_59 : decode cX4_readClause 59 = .ok (.invokevirtual 84, 3) := by decide +kernel
theorem dX4_readClause_62 : decode cX4_readClause 62 = .ok (.ireturn, 1) := by decide +kernel
theorem dX4_readClause_63 : decode cX4_readClause 63 = .ok (.aload_n 0, 1) := by decide +kernel
theorem dX4_readClause_64 : decode cX4_readClause 64 = .ok (.dup, 1) := by decide +kernel
theorem dX4_readClause_65 : decode cX4_readClause 65 = .ok (.getfield 40, 3) := by decide +kernel
theorem dX4_readClause_68 : decode cX4_readClause 68 = .ok (.iconst 1, 1) := by decide +kernel
theorem dX4_readClause_69 : decode cX4_readClause 69 = .ok (.iadd, 1) := by decide +kernel
theorem dX4_readClause_70 : decode cX4_readClause 70 = .ok (.putfield 40, 3) := by decide +kernel
theorem dX4_readClause_73 : decode cX4_readClause 73 = .ok (.aload_n 0, 1) := by decide +kernel
theorem dX4_readClause_74 : decode cX4_readClause 74 = .ok (.getfield 18, 3) := by decide +kernel
theorem dX4_readClause_77 : decode cX4_readClause 77 = .ok (.aload_n 0, 1) := by decide +kernel
theorem dX4_readClause_78 : decode cX4_readClause 78 = .ok (.getfield 43, 3) := by decide +kernel
theorem dX4_readClause_81 : decode cX4_readClause 81 = .ok (.iconst 4, 1) := by decide +kernel
theorem dX4_readClause_82 : decode cX4_readClause 82 = .ok (.imul, 1) := by decide +kernel
theorem dX4_readClause_83 : decode cX4_readClause 83 = .ok (.iload_n 1, 1) := by decide +kernel
theorem dX4_readClause_84 : decode cX4_readClause 84 = .ok (.iastore, 1) := by decide +kernel
theorem dX4_readClause_85 : decode cX4_readClause 85 = .ok (.iload_n 1, 1) := by decide +kernel
theorem dX4_readClause_86 : decode cX4_readClause 86 = .ok (.iconst 3, 1) := by decide +kernel
theorem dX4_readClause_87 : decode cX4_readClause 87 = .ok (.if_icmp .gt 14, 3) := by decide +kernel
theorem dX4_readClause_90 : decode cX4_readClause 90 = .ok (.aload_n 0, 1) := by decide +kernel
theorem dX4_readClause_91 : decode cX4_readClause 91 = .ok (.iload_n 1, 1) := by decide +kernel
theorem dX4_readClause_92 : decode cX4_readClause 92 = .ok (.invokevirtual 92, 3) := by decide +kernel
theorem dX4_readClause_95 : decode cX4_readClause 95 = .ok (.ifCond .eq 23, 3) := by decide +kernel
theorem dX4_readClause_98 : decode cX4_readClause 98 = .ok (.goto 11, 3) := by decide +kernel
theorem dX4_readClause_101 : decode cX4_readClause 101 = .ok (.aload_n 0, 1) := by decide +kernel
theorem dX4_readClause_102 : decode cX4_readClause 102 = .ok (.iload_n 1, 1) := by decide +kernel
theorem dX4_readClause_103 : decode cX4_readClause 103 = .ok (.invokevirtual 95, 3) := by decide +kernel
theorem dX4_readClause_106 : decode cX4_readClause 106 = .ok (.ifCond .eq 12, 3) := by decide +kernel
theorem dX4_readClause_109 : decode cX4_readClause 109 = .ok (.aload_n 0, 1) := by decide +kernel
theorem dX4_readClause_110 : decode cX4_readClause 110 = .ok (.bipush 43, 2) := by decide +kernel
theorem dX4_readClause_112 : decode cX4_readClause 112 = .ok (.invokevirtual 98, 3) := by decide +kernel
theorem dX4_readClause_115 : decode cX4_readClause 115 = .ok (.ifCond .ne 5, 3) := by decide +kernel
theorem dX4_readClause_118 : decode cX4_readClause 118 = .ok (.iconst 0, 1) := by decide +kernel
theorem dX4_readClause_119 : decode cX4_readClause 119 = .ok (.ireturn, 1) := by decide +kernel
theorem dX4_readClause_120 : decode cX4_readClause 120 = .ok (.aload_n 0, 1) := by decide +kernel
theorem dX4_readClause_121 : decode cX4_readClause 121 = .ok (.dup, 1) := by decide +kernel
theorem dX4_readClause_122 : decode cX4_readClause 122 = .ok (.getfield 43, 3) := by decide +kernel
theorem dX4_readClause_125 : decode cX4_readClause 125 = .ok (.iconst 1, 1) := by decide +kernel
theorem dX4_readClause_126 : decode cX4_readClause 126 = .ok (.iadd, 1) := by decide +kernel
theorem dX4_readClause_127 : decode cX4_readClause 127 = .ok (.putfield 43, 3) := by decide +kernel
theorem dX4_readClause_130 : decode cX4_readClause 130 = .ok (.iconst 1, 1) := by decide +kernel
theorem dX4_readClause_131 : decode cX4_readClause 131 = .ok (.ireturn, 1) := by decide +kernel
theorem dX4_readLaw_0 : decode cX4_readLaw 0 = .ok (.aload_n 0, 1) := by decide +kernel
theorem dX4_readLaw_1 : decode cX4_readLaw 1 = .ok (.iload_n 1, 1) := by decide +kernel
theorem dX4_readLaw_2 : decode cX4_readLaw 2 = .ok (.putfield 101, 3) := by decide +kernel
theorem dX4_readLaw_5 : decode cX4_readLaw 5 = .ok (.aload_n 0, 1) := by decide +kernel
theorem dX4_readLaw_6 : decode cX4_readLaw 6 = .ok (.getfield 25, 3) := by decide +kernel
theorem dX4_readLaw_9 : decode cX4_readLaw 9 = .ok (.iload_n 1, 1) := by decide +kernel
theorem dX4_readLaw_10 : decode cX4_readLaw 10 = .ok (.aload_n 0, 1) := by decide +kernel
theorem dX4_readLaw_11 : decode cX4_readLaw 11 = .ok (.getfield 46, 3) := by decide +kernel
theorem dX4_readLaw_14 : decode cX4_readLaw 14 = .ok (.iastore, 1) := by decide +kernel
theorem dX4_readLaw_15 : decode cX4_readLaw 15 = .ok (.aload_n 0, 1) := by decide +kernel
theorem dX4_readLaw_16 : decode cX4_readLaw 16 = .ok (.iconst 0, 1) := by decide +kernel
theorem dX4_readLaw_17 : decode cX4_readLaw 17 = .ok (.invokevirtual 104, 3) := by decide +kernel
theorem dX4_readLaw_20 : decode cX4_readLaw 20 = .ok (.ifCond .ne 5, 3) := by decide +kernel
theorem dX4_readLaw_23 : decode cX4_readLaw 23 = .ok (.iconst 0, 1) := by decide +kernel
theorem dX4_readLaw_24 : decode cX4_readLaw 24 = .ok (.ireturn, 1) := by decide +kernel
theorem dX4_readLaw_25 : decode cX4_readLaw 25 = .ok (.aload_n 0, 1) := by decide +kernel
theorem dX4_readLaw_26 : decode cX4_readLaw 26 = .ok (.getfield 28, 3) := by decide +kernel
theorem dX4_readLaw_29 : decode cX4_readLaw 29 = .ok (.iload_n 1, 1) := by decide +kernel
theorem dX4_readLaw_30 : decode cX4_readLaw 30 = .ok (.aload_n 0, 1) := by decide +kernel
theorem dX4_readLaw_31 : decode cX4_readLaw 31 = .ok (.getfield 46, 3) := by decide +kernel
theorem dX4_readLaw_34 : decode cX4_readLaw 34 = .ok (.iastore, 1) := by decide +kernel
theorem dX4_readLaw_35 : decode cX4_readLaw 35 = .ok (.iconst 1, 1) := by decide +kernel
theorem dX4_readLaw_36 : decode cX4_readLaw 36 = .ok (.ireturn, 1) := by decide +kernel
theorem dX4_readDeed_0 : decode cX4_readDeed 0 = .ok (.iload_n 1, 1) := by decide +kernel
theorem dX4_readDeed_1 : decode cX4_readDeed 1 = .ok (.tableswitch 216 4 11 #[103, 216, 216, 216, 169, 47, 113, 207], 47) := by decide +kernel
theorem dX4_readDeed_48 : decode cX4_readDeed 48 = .ok (.aload_n 0, 1) := by decide +kernel
theorem dX4_readDeed_49 : decode cX4_readDeed 49 = .ok (.iconst 1, 1) := by decide +kernel
theorem dX4_readDeed_50 : decode cX4_readDeed 50 = .ok (.iconst 0, 1) := by decide +kernel
theorem dX4_readDeed_51 : decode cX4_readDeed 51 = .ok (.iconst 5, 1) := by decide +kernel
theorem dX4_readDeed_52 : decode cX4_readDeed 52 = .ok (.invokevirtual 107, 3) := by decide +kernel
theorem dX4_readDeed_55 : decode cX4_readDeed 55 = .ok (.ifCond .eq 47, 3) := by decide +kernel
theorem dX4_readDeed_58 : decode cX4_readDeed 58 = .ok (.aload_n 0, 1) := by decide +kernel
theorem dX4_readDeed_59 : decode cX4_readDeed 59 = .ok (.bipush 12, 2) := by decide +kernel
theorem dX4_readDeed_61 : decode cX4_readDeed 61 = .ok (.invokevirtual 98, 3) := by decide +kernel
theorem dX4_readDeed_64 : decode cX4_readDeed 64 = .ok (.ifCond .eq 38, 3) := by decide +kernel
theorem dX4_readDeed_67 : decode cX4_readDeed 67 = .ok (.aload_n 0, 1) := by decide +kernel
theorem dX4_readDeed_68 : decode cX4_readDeed 68 = .ok (.iconst 2, 1) := by decide +kernel
theorem dX4_readDeed_69 : decode cX4_readDeed 69 = .ok (.iconst 0, 1) := by decide +kernel
theorem dX4_readDeed_70 : decode cX4_readDeed 70 = .ok (.bipush 99, 2) := by decide +kernel
theorem dX4_readDeed_72 : decode cX4_readDeed 72 = .ok (.invokevirtual 107, 3) := by decide +kernel
theorem dX4_readDeed_75 : decode cX4_readDeed 75 = .ok (.ifCond .eq 27, 3) := by decide +kernel
theorem dX4_readDeed_78 : decode cX4_readDeed 78 = .ok (.aload_n 0, 1) := by decide +kernel
theorem dX4_readDeed_79 : decode cX4_readDeed 79 = .ok (.bipush 13, 2) := by decide +kernel
theorem dX4_readDeed_81 : decode cX4_readDeed 81 = .ok (.invokevirtual 98, 3) := by decide +kernel
theorem dX4_readDeed_84 : decode cX4_readDeed 84 = .ok (.ifCond .eq 18, 3) := by decide +kernel
theorem dX4_readDeed_87 : decode cX4_readDeed 87 = .ok (.aload_n 0, 1) := by decide +kernel
theorem dX4_readDeed_88 : decode cX4_readDeed 88 = .ok (.iconst 3, 1) := by decide +kernel
theorem dX4_readDeed_89 : decode cX4_readDeed 89 = .ok (.iconst 1, 1) := by decide +kernel
theorem dX4_readDeed_90 : decode cX4_readDeed 90 = .ok (.bipush 9, 2) := by decide +kernel
theorem dX4_readDeed_92 : decode cX4_readDeed 92 = .ok (.invokevirtual 107, 3) := by decide +kernel
theorem dX4_readDeed_95 : decode cX4_readDeed 95 = .ok (.ifCond .eq 7, 3) := by decide +kernel
theorem dX4_readDeed_98 : decode cX4_readDeed 98 = .ok (.iconst 1, 1) := by decide +kernel
theorem dX4_readDeed_99 : decode cX4_readDeed 99 = .ok (.goto 4, 3) := by decide +kernel
theorem dX4_readDeed_102 : decode cX4_readDeed 102 = .ok (.iconst 0, 1) := by decide +kernel
theorem dX4_readDeed_103 : decode cX4_readDeed 103 = .ok (.ireturn, 1) := by decide +kernel
theorem dX4_readDeed_104 : decode cX4_readDeed 104 = .ok (.aload_n 0, 1) := by decide +kernel
theorem dX4_readDeed_105 : decode cX4_readDeed 105 = .ok (.iconst 1, 1) := by decide +kernel
theorem dX4_readDeed_106 : decode cX4_readDeed 106 = .ok (.iconst 0, 1) := by decide +kernel
theorem dX4_readDeed_107 : decode cX4_readDeed 107 = .ok (.sipush 9999, 3) := by decide +kernel
theorem dX4_readDeed_110 : decode cX4_readDeed 110 = .ok (.invokevirtual 107, 3) := by decide +kernel
theorem dX4_readDeed_113 : decode cX4_readDeed 113 = .ok (.ireturn, 1) := by decide +kernel
theorem dX4_readDeed_114 : decode cX4_readDeed 114 = .ok (.aload_n 0, 1) := by decide +kernel
theorem dX4_readDeed_115 : decode cX4_readDeed 115 = .ok (.iconst 1, 1) := by decide +kernel
theorem dX4_readDeed_116 : decode cX4_readDeed 116 = .ok (.iconst 0, 1) := by decide +kernel
theorem dX4_readDeed_117 : decode cX4_readDeed 117 = .ok (.bipush 99, 2) := by decide +kernel
theorem dX4_readDeed_119 : decode cX4_readDeed 119 = .ok (.invokevirtual 107, 3) := by decide +kernel
theorem dX4_readDeed_122 : decode cX4_readDeed 122 = .ok (.ifCond .eq 46, 3) := by decide +kernel
theorem dX4_readDeed_125 : decode cX4_readDeed 125 = .ok (.aload_n 0, 1) := by decide +kernel
theorem dX4_readDeed_126 : decode cX4_readDeed 126 = .ok (.bipush 18, 2) := by decide +kernel
theorem dX4_readDeed_128 : decode cX4_readDeed 128 = .ok (.invokevirtual 98, 3) := by decide +kernel
theorem dX4_readDeed_131 : decode cX4_readDeed 131 = .ok (.ifCond .eq 37, 3) := by decide +kernel
theorem dX4_readDeed_134 : decode cX4_readDeed 134 = .ok (.aload_n 0, 1) := by decide +kernel
theorem dX4_readDeed_135 : decode cX4_readDeed 135 = .ok (.iconst 2, 1) := by decide +kernel
theorem dX4_readDeed_136 : decode cX4_readDeed 136 = .ok (.iconst 0, 1) := by decide +kernel
theorem dX4_readDeed_137 : decode cX4_readDeed 137 = .ok (.bipush 11, 2) := by decide +kernel
theorem dX4_readDeed_139 : decode cX4_readDeed 139 = .ok (.invokevirtual 107, 3) := by decide +kernel
theorem dX4_readDeed_142 : decode cX4_readDeed 142 = .ok (.ifCond .eq 26, 3) := by decide +kernel
theorem dX4_readDeed_145 : decode cX4_readDeed 145 = .ok (.aload_n 0, 1) := by decide +kernel
theorem dX4_readDeed_146 : decode cX4_readDeed 146 = .ok (.bipush 19, 2) := by decide +kernel
theorem dX4_readDeed_148 : decode cX4_readDeed 148 = .ok (.invokevirtual 98, 3) := by decide +kernel
theorem dX4_readDeed_151 : decode cX4_readDeed 151 = .ok (.ifCond .eq 17, 3) := by decide +kernel
theorem dX4_readDeed_154 : decode cX4_readDeed 154 = .ok (.aload_n 0, 1) := by decide +kernel
theorem dX4_readDeed_155 : decode cX4_readDeed 155 = .ok (.iconst 3, 1) := by decide +kernel
theorem dX4_readDeed_156 : decode cX4_readDeed 156 = .ok (.iconst 0, 1) := by decide +kernel
theorem dX4_readDeed_157 : decode cX4_readDeed 157 = .ok (.iconst 4, 1) := by decide +kernel
theorem dX4_readDeed_158 : decode cX4_readDeed 158 = .ok (.invokevirtual 107, 3) := by decide +kernel
theorem dX4_readDeed_161 : decode cX4_readDeed 161 = .ok (.ifCond .eq 7, 3) := by decide +kernel
theorem dX4_readDeed_164 : decode cX4_readDeed 164 = .ok (.iconst 1, 1) := by decide +kernel
theorem dX4_readDeed_165 : decode cX4_readDeed 165 = .ok (.goto 4, 3) := by decide +kernel
theorem dX4_readDeed_168 : decode cX4_readDeed 168 = .ok (.iconst 0, 1) := by decide +kernel
theorem dX4_readDeed_169 : decode cX4_readDeed 169 = .ok (.ireturn, 1) := by decide +kernel
theorem dX4_readDeed_170 : decode cX4_readDeed 170 = .ok (.aload_n 0, 1) := by decide +kernel
theorem dX4_readDeed_171 : decode cX4_readDeed 171 = .ok (.iconst 1, 1) := by decide +kernel
theorem dX4_readDeed_172 : decode cX4_readDeed 172 = .ok (.iconst 0, 1) := by decide +kernel
theorem dX4_readDeed_173 : decode cX4_readDeed 173 = .ok (.bipush 11, 2) := by decide +kernel
theorem dX4_readDeed_175 : decode cX4_readDeed 175 = .ok (.invokevirtual 107, 3) := by decide +kernel
theorem dX4_readDeed_178 : decode cX4_readDeed 178 = .ok (.ifCond .eq 28, 3) := by decide +kernel
theorem dX4_readDeed_181 : decode cX4_readDeed 181 = .ok (.aload_n 0, 1) := by decide +kernel
theorem dX4_readDeed_182 : decode cX4_readDeed 182 = .ok (.bipush 20, 2) := by decide +kernel
theorem dX4_readDeed_184 : decode cX4_readDeed 184 = .ok (.invokevirtual 98, 3) := by decide +kernel
theorem dX4_readDeed_187 : decode cX4_readDeed 187 = .ok (.ifCond .eq 19, 3) := by decide +kernel
theorem dX4_readDeed_190 : decode cX4_readDeed 190 = .ok (.aload_n 0, 1) := by decide +kernel
theorem dX4_readDeed_191 : decode cX4_readDeed 191 = .ok (.iconst 2, 1) := by decide +kernel
theorem dX4_readDeed_192 : decode cX4_readDeed 192 = .ok (.iconst 0, 1) := by decide +kernel
theorem dX4_readDeed_193 : decode cX4_readDeed 193 = .ok (.sipush 999, 3) := by decide +kernel
theorem dX4_readDeed_196 : decode cX4_readDeed 196 = .ok (.invokevirtual 107, 3) := by decide +kernel
theorem dX4_readDeed_199 : decode cX4_readDeed 199 = .ok (.ifCond .eq 7, 3) := by decide +kernel
theorem dX4_readDeed_202 : decode cX4_readDeed 202 = .ok (.iconst 1, 1) := by decide +kernel
theorem dX4_readDeed_203 : decode cX4_readDeed 203 = .ok (.goto 4, 3) := by decide +kernel
theorem dX4_readDeed_206 : decode cX4_readDeed 206 = .ok (.iconst 0, 1) := by decide +kernel
theorem dX4_readDeed_207 : decode cX4_readDeed 207 = .ok (.ireturn, 1) := by decide +kernel
theorem dX4_readDeed_208 : decode cX4_readDeed 208 = .ok (.aload_n 0, 1) := by decide +kernel
theorem dX4_readDeed_209 : decode cX4_readDeed 209 = .ok (.iconst 1, 1) := by decide +kernel
theorem dX4_readDeed_210 : decode cX4_readDeed 210 = .ok (.iconst 1, 1) := by decide +kernel
theorem dX4_readDeed_211 : decode cX4_readDeed 211 = .ok (.bipush 60, 2) := by decide +kernel
theorem dX4_readDeed_213 : decode cX4_readDeed 213 = .ok (.invokevirtual 107, 3) := by decide +kernel
theorem dX4_readDeed_216 : decode cX4_readDeed 216 = .ok (.ireturn, 1) := by decide +kernel
theorem dX4_readDeed_217 : decode cX4_readDeed 217 = .ok (.aload_n 0, 1) := by decide +kernel
theorem dX4_readDeed_218 : decode cX4_readDeed 218 = .ok (.iconst 1, 1) := by decide +kernel
theorem dX4_readDeed_219 : decode cX4_readDeed 219 = .ok (.iconst 0, 1) := by decide +kernel
theorem dX4_readDeed_220 : decode cX4_readDeed 220 = .ok (.bipush 11, 2) := by decide +kernel
theorem dX4_readDeed_222 : decode cX4_readDeed 222 = .ok (.invokevirtual 107, 3) := by decide +kernel
theorem dX4_readDeed_225 : decode cX4_readDeed 225 = .ok (.ireturn, 1) := by decide +kernel
theorem dX4_readNumber_0 : decode cX4_readNumber 0 = .ok (.aload_n 0, 1) := by decide +kernel
theorem dX4_readNumber_1 : decode cX4_readNumber 1 = .ok (.invokevirtual 55, 3) := by decide +kernel
theorem dX4_readNumber_4 : decode cX4_readNumber 4 = .ok (.bipush 30, 2) := by decide +kernel
theorem dX4_readNumber_6 : decode cX4_readNumber 6 = .ok (.if_icmp .eq 9, 3) := by decide +kernel
theorem dX4_readNumber_9 : decode cX4_readNumber 9 = .ok (.aload_n 0, 1) := by decide +kernel
theorem dX4_readNumber_10 : decode cX4_readNumber 10 = .ok (.iconst 1, 1) := by decide +kernel
theorem dX4_readNumber_11 : decode cX4_readNumber 11 = .ok (.invokevirtual 84, 3) := by decide +kernel
theorem dX4_readNumber_14 : decode cX4_readNumber 14 = .ok (.ireturn, 1) := by decide +kernel
theorem dX4_readNumber_15 : decode cX4_readNumber 15 = .ok (.aload_n 0, 1) := by decide +kernel
theorem dX4_readNumber_16 : decode cX4_readNumber 16 = .ok (.getfield 31, 3) := by decide +kernel
theorem dX4_readNumber_19 : decode cX4_readNumber 19 = .ok (.aload_n 0, 1) := by decide +kernel
theorem dX4_readNumber_20 : decode cX4_readNumber 20 = .ok (.getfield 40, 3) := by decide +kernel
theorem dX4_readNumber_23 : decode cX4_readNumber 23 = .ok (.invokevirtual 110, 3) := by decide +kernel
theorem dX4_readNumber_26 : decode cX4_readNumber 26 = .ok (.istore 4, 2) := by decide +kernel
theorem dX4_readNumber_28 : decode cX4_readNumber 28 = .ok (.iload 4, 2) := by decide +kernel
theorem dX4_readNumber_30 : decode cX4_readNumber 30 = .ok (.iload_n 2, 1) := by decide +kernel
theorem dX4_readNumber_31 : decode cX4_readNumber 31 = .ok (.iload_n 3, 1) := by decide +kernel
theorem dX4_readNumber_32 : decode cX4_readNumber 32 = .ok (.invokestatic 88, 3) := by decide +kernel
theorem dX4_readNumber_35 : decode cX4_readNumber 35 = .ok (.ifCond .ne 9, 3) := by decide +kernel
theorem dX4_readNumber_38 : decode cX4_readNumber 38 = .ok (.aload_n 0, 1) := by decide +kernel
theorem dX4_readNumber_39 : decode cX4_readNumber 39 = .ok (.iconst 2, 1) := by decide +kernel
theorem dX4_readNumber_40 : decode cX4_readNumber 40 = .ok (.invokevirtual 84, 3) := by decide +kernel
theorem dX4_readNumber_43 : decode cX4_readNumber 43 = .ok (.ireturn, 1) := by decide +kernel
theorem dX4_readNumber_44 : decode cX4_readNumber 44 = .ok (.aload_n 0, 1) := by decide +kernel
theorem dX4_readNumber_45 : decode cX4_readNumber 45 = .ok (.getfield 18, 3) := by decide +kernel
theorem dX4_readNumber_48 : decode cX4_readNumber 48 = .ok (.aload_n 0, 1) := by decide +kernel
theorem dX4_readNumber_49 : decode cX4_readNumber 49 = .ok (.getfield 43, 3) := by decide +kernel
theorem dX4_readNumber_52 : decode cX4_readNumber 52 = .ok (.iconst 4, 1) := by decide +kernel
theorem dX4_readNumber_53 : decode cX4_readNumber 53 = .ok (.imul, 1) := by decide +kernel
theorem dX4_readNumber_54 : decode cX4_readNumber 54 = .ok (.iload_n 1, 1) := by decide +kernel
theorem dX4_readNumber_55 : decode cX4_readNumber 55 = .ok (.iadd, 1) := by decide +kernel
theorem dX4_readNumber_56 : decode cX4_readNumber 56 = .ok (.iload 4, 2) := by decide +kernel
theorem dX4_readNumber_58 : decode cX4_readNumber 58 = .ok (.iastore, 1) := by decide +kernel
theorem dX4_readNumber_59 : decode cX4_readNumber 59 = .ok (.aload_n 0, 1) := by decide +kernel
theorem dX4_readNumber_60 : decode cX4_readNumber 60 = .ok (.dup, 1) := by decide +kernel
theorem dX4_readNumber_61 : decode cX4_readNumber 61 = .ok (.getfield 40, 3) := by decide +kernel
theorem dX4_readNumber_64 : decode cX4_readNumber 64 = .ok (.iconst 1, 1) := by decide +kernel
theorem dX4_readNumber_65 : decode cX4_readNumber 65 = .ok (.iadd, 1) := by decide +kernel
theorem dX4_readNumber_66 : decode cX4_readNumber 66 = .ok (.putfield 40, 3) := by decide +kernel
theorem dX4_readNumber_69 : decode cX4_readNumber 69 = .ok (.iconst 1, 1) := by decide +kernel
theorem dX4_readNumber_70 : decode cX4_readNumber 70 = .ok (.ireturn, 1) := by decide +kernel
theorem dX4_readSum_0 : decode cX4_readSum 0 = .ok (.aload_n 0, 1) := by decide +kernel
theorem dX4_readSum_1 : decode cX4_readSum 1 = .ok (.iload_n 1, 1) := by decide +kernel
theorem dX4_readSum_2 : decode cX4_readSum 2 = .ok (.invokevirtual 113, 3) := by decide +kernel
theorem dX4_readSum_5 : decode cX4_readSum 5 = .ok (.ifCond .ne 5, 3) := by decide +kernel
theorem dX4_readSum_8 : decode cX4_readSum 8 = .ok (.iconst 0, 1) := by decide +kernel
theorem dX4_readSum_9 : decode cX4_readSum 9 = .ok (.ireturn, 1) := by decide +kernel
theorem dX4_readSum_10 : decode cX4_readSum 10 = .ok (.iconst 0, 1) := by decide +kernel
theorem dX4_readSum_11 : decode cX4_readSum 11 = .ok (.istore_n 2, 1) := by decide +kernel
theorem dX4_readSum_12 : decode cX4_readSum 12 = .ok (.iload_n 2, 1) := by decide +kernel
theorem dX4_readSum_13 : decode cX4_readSum 13 = .ok (.sipush 300, 3) := by decide +kernel
theorem dX4_readSum_16 : decode cX4_readSum 16 = .ok (.if_icmp .ge 55, 3) := by decide +kernel
theorem dX4_readSum_19 : decode cX4_readSum 19 = .ok (.aload_n 0, 1) := by decide +kernel
theorem dX4_readSum_20 : decode cX4_readSum 20 = .ok (.invokevirtual 55, 3) := by decide +kernel
theorem dX4_readSum_23 : decode cX4_readSum 23 = .ok (.istore_n 3, 1) := by decide +kernel
theorem dX4_readSum_24 : decode cX4_readSum 24 = .ok (.iload_n 3, 1) := by decide +kernel
theorem dX4_readSum_25 : decode cX4_readSum 25 = .ok (.bipush 37, 2) := by decide +kernel
theorem dX4_readSum_27 : decode cX4_readSum 27 = .ok (.if_icmp .eq 11, 3) := by decide +kernel
theorem dX4_readSum_30 : decode cX4_readSum 30 = .ok (.iload_n 3, 1) := by decide +kernel
theorem dX4_readSum_31 : decode cX4_readSum 31 = .ok (.bipush 38, 2) := by decide +kernel
theorem dX4_readSum_33 : decode cX4_readSum 33 = .ok (.if_icmp .eq 5, 3) := by decide +kernel
theorem dX4_readSum_36 : decode cX4_readSum 36 = .ok (.iconst 1, 1) := by decide +kernel
theorem dX4_readSum_37 : decode cX4_readSum 37 = .ok (.ireturn, 1) := by decide +kernel
theorem dX4_readSum_38 : decode cX4_readSum 38 = .ok (.aload_n 0, 1) := by decide +kernel
theorem dX4_readSum_39 : decode cX4_readSum 39 = .ok (.dup, 1) := by decide +kernel
theorem dX4_readSum_40 : decode cX4_readSum 40 = .ok (.getfield 40, 3) := by decide +kernel
theorem dX4_readSum_43 : decode cX4_readSum 43 = .ok (.iconst 1, 1) := by decide +kernel
theorem dX4_readSum_44 : decode cX4_readSum 44 = .ok (.iadd, 1) := by decide +kernel
theorem dX4_readSum_45 : decode cX4_readSum 45 = .ok (.putfield 40, 3) := by decide +kernel
theorem dX4_readSum_48 : decode cX4_readSum 48 = .ok (.aload_n 0, 1) := by decide +kernel
theorem dX4_readSum_49 : decode cX4_readSum 49 = .ok (.iload_n 1, 1) := by decide +kernel
theorem dX4_readSum_50 : decode cX4_readSum 50 = .ok (.invokevirtual 113, 3) := by decide +kernel
theorem dX4_readSum_53 : decode cX4_readSum 53 = .ok (.ifCond .ne 5, 3) := by decide +kernel
theorem dX4_readSum_56 : decode cX4_readSum 56 = .ok (.iconst 0, 1) := by decide +kernel
theorem dX4_readSum_57 : decode cX4_readSum 57 = .ok (.ireturn, 1) := by decide +kernel
theorem dX4_readSum_58 : decode cX4_readSum 58 = .ok (.aload_n 0, 1) := by decide +kernel
theorem dX4_readSum_59 : decode cX4_readSum 59 = .ok (.iload_n 3, 1) := by decide +kernel
theorem dX4_readSum_60 : decode cX4_readSum 60 = .ok (.iconst 0, 1) := by decide +kernel
theorem dX4_readSum_61 : decode cX4_readSum 61 = .ok (.invokevirtual 116, 3) := by decide +kernel
theorem dX4_readSum_64 : decode cX4_readSum 64 = .ok (.pop, 1) := by decide +kernel
theorem dX4_readSum_65 : decode cX4_readSum 65 = .ok (.iinc 2 1, 3) := by decide +kernel
theorem dX4_readSum_68 : decode cX4_readSum 68 = .ok (.goto (-56), 3) := by decide +kernel
theorem dX4_readSum_71 : decode cX4_readSum 71 = .ok (.iconst 1, 1) := by decide +kernel
theorem dX4_readSum_72 : decode cX4_readSum 72 = .ok (.ireturn, 1) := by decide +kernel
theorem dX4_readProduct_0 : decode cX4_readProduct 0 = .ok (.aload_n 0, 1) := by decide +kernel
theorem dX4_readProduct_1 : decode cX4_readProduct 1 = .ok (.iload_n 1, 1) := by decide +kernel
theorem dX4_readProduct_2 : decode cX4_readProduct 2 = .ok (.invokevirtual 120, 3) := by decide +kernel
theorem dX4_readProduct_5 : decode cX4_readProduct 5 = .ok (.ifCond .ne 5, 3) := by decide +kernel
theorem dX4_readProduct_8 : decode cX4_readProduct 8 = .ok (.iconst 0, 1) := by decide +kernel
theorem dX4_readProduct_9 : decode cX4_readProduct 9 = .ok (.ireturn, 1) := by decide +kernel
theorem dX4_readProduct_10 : decode cX4_readProduct 10 = .ok (.iconst 0, 1) := by decide +kernel
theorem dX4_readProduct_11 : decode cX4_readProduct 11 = .ok (.istore_n 2, 1) := by decide +kernel
theorem dX4_readProduct_12 : decode cX4_readProduct 12 = .ok (.iload_n 2, 1) := by decide +kernel
theorem dX4_readProduct_13 : decode cX4_readProduct 13 = .ok (.sipush 300, 3) := by decide +kernel
theorem dX4_readProduct_16 : decode cX4_readProduct 16 = .ok (.if_icmp .ge 55, 3) := by decide +kernel
theorem dX4_readProduct_19 : decode cX4_readProduct 19 = .ok (.aload_n 0, 1) := by decide +kernel
theorem dX4_readProduct_20 : decode cX4_readProduct 20 = .ok (.invokevirtual 55, 3) := by decide +kernel
theorem dX4_readProduct_23 : decode cX4_readProduct 23 = .ok (.istore_n 3, 1) := by decide +kernel
theorem dX4_readProduct_24 : decode cX4_readProduct 24 = .ok (.iload_n 3, 1) := by decide +kernel
theorem dX4_readProduct_25 : decode cX4_readProduct 25 = .ok (.bipush 39, 2) := by decide +kernel
theorem dX4_readProduct_27 : decode cX4_readProduct 27 = .ok (.if_icmp .eq 11, 3) := by decide +kernel
theorem dX4_readProduct_30 : decode cX4_readProduct 30 = .ok (.iload_n 3, 1) := by decide +kernel
theorem dX4_readProduct_31 : decode cX4_readProduct 31 = .ok (.bipush 40, 2) := by decide +kernel
theorem dX4_readProduct_33 : decode cX4_readProduct 33 = .ok (.if_icmp .eq 5, 3) := by decide +kernel
theorem dX4_readProduct_36 : decode cX4_readProduct 36 = .ok (.iconst 1, 1) := by decide +kernel
theorem dX4_readProduct_37 : decode cX4_readProduct 37 = .ok (.ireturn, 1) := by decide +kernel
theorem dX4_readProduct_38 : decode cX4_readProduct 38 = .ok (.aload_n 0, 1) := by decide +kernel
theorem dX4_readProduct_39 : decode cX4_readProduct 39 = .ok (.dup, 1) := by decide +kernel
theorem dX4_readProduct_40 : decode cX4_readProduct 40 = .ok (.getfield 40, 3) := by decide +kernel
theorem dX4_readProduct_43 : decode cX4_readProduct 43 = .ok (.iconst 1, 1) := by decide +kernel
theorem dX4_readProduct_44 : decode cX4_readProduct 44 = .ok (.iadd, 1) := by decide +kernel
theorem dX4_readProduct_45 : decode cX4_readProduct 45 = .ok (.putfield 40, 3) := by decide +kernel
theorem dX4_readProduct_48 : decode cX4_readProduct 48 = .ok (.aload_n 0, 1) := by decide +kernel
theorem dX4_readProduct_49 : decode cX4_readProduct 49 = .ok (.iload_n 1, 1) := by decide +kernel
theorem dX4_readProduct_50 : decode cX4_readProduct 50 = .ok (.invokevirtual 120, 3) := by decide +kernel
theorem dX4_readProduct_53 : decode cX4_readProduct 53 = .ok (.ifCond .ne 5, 3) := by decide +kernel
theorem dX4_readProduct_56 : decode cX4_readProduct 56 = .ok (.iconst 0, 1) := by decide +kernel
theorem dX4_readProduct_57 : decode cX4_readProduct 57 = .ok (.ireturn, 1) := by decide +kernel
theorem dX4_readProduct_58 : decode cX4_readProduct 58 = .ok (.aload_n 0, 1) := by decide +kernel
theorem dX4_readProduct_59 : decode cX4_readProduct 59 = .ok (.iload_n 3, 1) := by decide +kernel
theorem dX4_readProduct_60 : decode cX4_readProduct 60 = .ok (.iconst 0, 1) := by decide +kernel
theorem dX4_readProduct_61 : decode cX4_readProduct 61 = .ok (.invokevirtual 116, 3) := by decide +kernel
theorem dX4_readProduct_64 : decode cX4_readProduct 64 = .ok (.pop, 1) := by decide +kernel
theorem dX4_readProduct_65 : decode cX4_readProduct 65 = .ok (.iinc 2 1, 3) := by decide +kernel
theorem dX4_readProduct_68 : decode cX4_readProduct 68 = .ok (.goto (-56), 3) := by decide +kernel
theorem dX4_readProduct_71 : decode cX4_readProduct 71 = .ok (.iconst 1, 1) := by decide +kernel
theorem dX4_readProduct_72 : decode cX4_readProduct 72 = .ok (.ireturn, 1) := by decide +kernel
theorem dX4_readOne_0 : decode cX4_readOne 0 = .ok (.aload_n 0, 1) := by decide +kernel
theorem dX4_readOne_1 : decode cX4_readOne 1 = .ok (.invokevirtual 55, 3) := by decide +kernel
theorem dX4_readOne_4 : decode cX4_readOne 4 = .ok (.istore_n 2, 1) := by decide +kernel
theorem dX4_readOne_5 : decode cX4_readOne 5 = .ok (.iload_n 2, 1) := by decide +kernel
theorem dX4_readOne_6 : decode cX4_readOne 6 = .ok (.bipush 30, 2) := by decide +kernel
theorem dX4_readOne_8 : decode cX4_readOne 8 = .ok (.if_icmp .ne 8, 3) := by decide +kernel
theorem dX4_readOne_11 : decode cX4_readOne 11 = .ok (.aload_n 0, 1) := by decide +kernel
theorem dX4_readOne_12 : decode cX4_readOne 12 = .ok (.invokevirtual 123, 3) := by decide +kernel
theorem dX4_readOne_15 : decode cX4_readOne 15 = .ok (.ireturn, 1) := by decide +kernel
theorem dX4_readOne_16 : decode cX4_readOne 16 = .ok (.iload_n 2, 1) := by decide +kernel
theorem dX4_readOne_17 : decode cX4_readOne 17 = .ok (.bipush 9, 2) := by decide +kernel
theorem dX4_readOne_19 : decode cX4_readOne 19 = .ok (.bipush 17, 2) := by decide +kernel
theorem dX4_readOne_21 : decode cX4_readOne 21 = .ok (.invokestatic 88, 3) := by decide +kernel
theorem dX4_readOne_24 : decode cX4_readOne 24 = .ok (.ifCond .eq 9, 3) := by decide +kernel
theorem dX4_readOne_27 : decode cX4_readOne 27 = .ok (.aload_n 0, 1) := by decide +kernel
theorem dX4_readOne_28 : decode cX4_readOne 28 = .ok (.iload_n 2, 1) := by decide +kernel
theorem dX4_readOne_29 : decode cX4_readOne 29 = .ok (.invokevirtual 126, 3) := by decide +kernel
theorem dX4_readOne_32 : decode cX4_readOne 32 = .ok (.ireturn, 1) := by decide +kernel
theorem dX4_readOne_33 : decode cX4_readOne 33 = .ok (.iload_n 2, 1) := by decide +kernel
theorem dX4_readOne_34 : decode cX4_readOne 34 = .ok (.bipush 41, 2) := by decide +kernel
theorem dX4_readOne_36 : decode cX4_readOne 36 = .ok (.if_icmp .eq 33, 3) := by decide +kernel
theorem dX4_readOne_39 : decode cX4_readOne 39 = .ok (.iload_n 2, 1) := by decide +kernel
theorem dX4_readOne_40 : decode cX4_readOne 40 = .ok (.bipush 38, 2) := by decide +kernel
theorem dX4_readOne_42 : decode cX4_readOne 42 = .ok (.if_icmp .eq 27, 3) := by decide +kernel
theorem dX4_readOne_45 : decode cX4_readOne 45 = .ok (.iload_n 2, 1) := by decide +kernel
theorem dX4_readOne_46 : decode cX4_readOne 46 = .ok (.bipush 26, 2) := by decide +kernel
theorem dX4_readOne_48 : decode cX4_readOne 48 = .ok (.if_icmp .eq 21, 3) := by decide +kernel
theorem dX4_readOne_51 : decode cX4_readOne 51 = .ok (.iload_n 2, 1) := by decide +kernel
theorem dX4_readOne_52 : decode cX4_readOne 52 = .ok (.bipush 27, 2) := by decide +kernel
theorem dX4_readOne_54 : decode cX4_readOne 54 = .ok (.if_icmp .eq 15, 3) := by decide +kernel
theorem dX4_readOne_57 : decode cX4_readOne 57 = .ok (.iload_n 2, 1) := by decide +kernel
theorem dX4_readOne_58 : decode cX4_readOne 58 = .ok (.bipush 24, 2) := by decide +kernel
theorem dX4_readOne_60 : decode cX4_readOne 60 = .ok (.if_icmp .eq 9, 3) := by decide +kernel
theorem dX4_readOne_63 : decode cX4_readOne 63 = .ok (.aload_n 0, 1) := by decide +kernel
theorem dX4_readOne_64 : decode cX4_readOne 64 = .ok (.iconst 1, 1) := by decide +kernel
theorem dX4_readOne_65 : decode cX4_readOne 65 = .ok (.invokevirtual 84, 3) := by decide +kernel
theorem dX4_readOne_68 : decode cX4_readOne 68 = .ok (.ireturn, 1) := by decide +kernel
theorem dX4_readOne_69 : decode cX4_readOne 69 = .ok (.iload_n 1, 1) := by decide +kernel
theorem dX4_readOne_70 : decode cX4_readOne 70 = .ok (.bipush 8, 2) := by decide +kernel
theorem dX4_readOne_72 : decode cX4_readOne 72 = .ok (.if_icmp .lt 9, 3) := by decide +kernel
theorem dX4_readOne_75 : decode cX4_readOne 75 = .ok (.aload_n 0, 1) := by decide +kernel
theorem dX4_readOne_76 : decode cX4_readOne 76 = .ok (.iconst 3, 1) := by decide +kernel
theorem dX4_readOne_77 : decode cX4_readOne 77 = .ok (.invokevirtual 84, 3) := by decide +kernel
theorem dX4_readOne_80 : decode cX4_readOne 80 = .ok (.ireturn, 1) := by decide +kernel
theorem dX4_readOne_81 : decode cX4_readOne 81 = .ok (.aload_n 0, 1) := by decide +kernel
theorem dX4_readOne_82 : decode cX4_readOne 82 = .ok (.dup, 1) := by decide +kernel
theorem dX4_readOne_83 : decode cX4_readOne 83 = .ok (.getfield 40, 3) := by decide +kernel
theorem dX4_readOne_86 : decode cX4_readOne 86 = .ok (.iconst 1, 1) := by decide +kernel
theorem dX4_readOne_87 : decode cX4_readOne 87 = .ok (.iadd, 1) := by decide +kernel
theorem dX4_readOne_88 : decode cX4_readOne 88 = .ok (.putfield 40, 3) := by decide +kernel
theorem dX4_readOne_91 : decode cX4_readOne 91 = .ok (.iload_n 2, 1) := by decide +kernel
theorem dX4_readOne_92 : decode cX4_readOne 92 = .ok (.lookupswitch 166 #[(26, 121), (27, 95), (38, 69), (41, 44)], 44) := by decide +kernel
theorem dX4_readOne_136 : decode cX4_readOne 136 = .ok (.aload_n 0, 1) := by decide +kernel
theorem dX4_readOne_137 : decode cX4_readOne 137 = .ok (.iload_n 1, 1) := by decide +kernel
theorem dX4_readOne_138 : decode cX4_readOne 138 = .ok (.iconst 1, 1) := by decide +kernel
theorem dX4_readOne_139 : decode cX4_readOne 139 = .ok (.iadd, 1) := by decide +kernel
theorem dX4_readOne_140 : decode cX4_readOne 140 = .ok (.invokevirtual 104, 3) := by decide +kernel
theorem dX4_readOne_143 : decode cX4_readOne 143 = .ok (.ifCond .eq 16, 3) := by decide +kernel
theorem dX4_readOne_146 : decode cX4_readOne 146 = .ok (.aload_n 0, 1) := by decide +kernel
theorem dX4_readOne_147 : decode cX4_readOne 147 = .ok (.bipush 42, 2) := by decide +kernel
theorem dX4_readOne_149 : decode cX4_readOne 149 = .ok (.invokevirtual 98, 3) := by decide +kernel
theorem dX4_readOne_152 : decode cX4_readOne 152 = .ok (.ifCond .eq 7, 3) := by decide +kernel
theorem dX4_readOne_155 : decode cX4_readOne 155 = .ok (.iconst 1, 1) := by decide +kernel
theorem dX4_readOne_156 : decode cX4_readOne 156 = .ok (.goto 4, 3) := by decide +kernel
theorem dX4_readOne_159 : decode cX4_readOne 159 = .ok (.iconst 0, 1) := by decide +kernel
theorem dX4_readOne_160 : decode cX4_readOne 160 = .ok (.ireturn, 1) := by decide +kernel
theorem dX4_readOne_161 : decode cX4_readOne 161 = .ok (.aload_n 0, 1) := by decide +kernel
theorem dX4_readOne_162 : decode cX4_readOne 162 = .ok (.iload_n 1, 1) := by decide +kernel
theorem dX4_readOne_163 : decode cX4_readOne 163 = .ok (.iconst 1, 1) := by decide +kernel
theorem dX4_readOne_164 : decode cX4_readOne 164 = .ok (.iadd, 1) := by decide +kernel
theorem dX4_readOne_165 : decode cX4_readOne 165 = .ok (.invokevirtual 120, 3) := by decide +kernel
theorem dX4_readOne_168 : decode cX4_readOne 168 = .ok (.ifCond .eq 17, 3) := by decide +kernel
theorem dX4_readOne_171 : decode cX4_readOne 171 = .ok (.aload_n 0, 1) := by decide +kernel
theorem dX4_readOne_172 : decode cX4_readOne 172 = .ok (.bipush 45, 2) := by decide +kernel
theorem dX4_readOne_174 : decode cX4_readOne 174 = .ok (.iconst 0, 1) := by decide +kernel
theorem dX4_readOne_175 : decode cX4_readOne 175 = .ok (.invokevirtual 116, 3) := by decide +kernel
theorem dX4_readOne_178 : decode cX4_readOne 178 = .ok (.ifCond .eq 7, 3) := by decide +kernel
theorem dX4_readOne_181 : decode cX4_readOne 181 = .ok (.iconst 1, 1) := by decide +kernel
theorem dX4_readOne_182 : decode cX4_readOne 182 = .ok (.goto 4, 3) := by decide +kernel
theorem dX4_readOne_185 : decode cX4_readOne 185 = .ok (.iconst 0, 1) := by decide +kernel
theorem dX4_readOne_186 : decode cX4_readOne 186 = .ok (.ireturn, 1) := by decide +kernel
theorem dX4_readOne_187 : decode cX4_readOne 187 = .ok (.aload_n 0, 1) := by decide +kernel
theorem dX4_readOne_188 : decode cX4_readOne 188 = .ok (.iload_n 1, 1) := by decide +kernel
theorem dX4_readOne_189 : decode cX4_readOne 189 = .ok (.iconst 1, 1) := by decide +kernel
theorem dX4_readOne_190 : decode cX4_readOne 190 = .ok (.iadd, 1) := by decide +kernel
theorem dX4_readOne_191 : decode cX4_readOne 191 = .ok (.invokevirtual 120, 3) := by decide +kernel
theorem dX4_readOne_194 : decode cX4_readOne 194 = .ok (.ifCond .eq 17, 3) := by decide +kernel
theorem dX4_readOne_197 : decode cX4_readOne 197 = .ok (.aload_n 0, 1) := by decide +kernel
theorem dX4_readOne_198 : decode cX4_readOne 198 = .ok (.bipush 27, 2) := by decide +kernel
theorem dX4_readOne_200 : decode cX4_readOne 200 = .ok (.iconst 0, 1) := by decide +kernel
theorem dX4_readOne_201 : decode cX4_readOne 201 = .ok (.invokevirtual 116, 3) := by decide +kernel
theorem dX4_readOne_204 : decode cX4_readOne 204 = .ok (.ifCond .eq 7, 3) := by decide +kernel
theorem dX4_readOne_207 : decode cX4_readOne 207 = .ok (.iconst 1, 1) := by decide +kernel
theorem dX4_readOne_208 : decode cX4_readOne 208 = .ok (.goto 4, 3) := by decide +kernel
theorem dX4_readOne_211 : decode cX4_readOne 211 = .ok (.iconst 0, 1) := by decide +kernel
theorem dX4_readOne_212 : decode cX4_readOne 212 = .ok (.ireturn, 1) := by decide +kernel
theorem dX4_readOne_213 : decode cX4_readOne 213 = .ok (.aload_n 0, 1) := by decide +kernel
theorem dX4_readOne_214 : decode cX4_readOne 214 = .ok (.iload_n 1, 1) := by decide +kernel
theorem dX4_readOne_215 : decode cX4_readOne 215 = .ok (.iconst 1, 1) := by decide +kernel
theorem dX4_readOne_216 : decode cX4_readOne 216 = .ok (.iadd, 1) := by decide +kernel
theorem dX4_readOne_217 : decode cX4_readOne 217 = .ok (.invokevirtual 120, 3) := by decide +kernel
theorem dX4_readOne_220 : decode cX4_readOne 220 = .ok (.ifCond .eq 36, 3) := by decide +kernel
theorem dX4_readOne_223 : decode cX4_readOne 223 = .ok (.aload_n 0, 1) := by decide +kernel
theorem dX4_readOne_224 : decode cX4_readOne 224 = .ok (.bipush 19, 2) := by decide +kernel
theorem dX4_readOne_226 : decode cX4_readOne 226 = .ok (.invokevirtual 98, 3) := by decide +kernel
theorem dX4_readOne_229 : decode cX4_readOne 229 = .ok (.ifCond .eq 27, 3) := by decide +kernel
theorem dX4_readOne_232 : decode cX4_readOne 232 = .ok (.aload_n 0, 1) := by decide +kernel
theorem dX4_readOne_233 : decode cX4_readOne 233 = .ok (.iload_n 1, 1) := by decide +kernel
theorem dX4_readOne_234 : decode cX4_readOne 234 = .ok (.iconst 1, 1) := by decide +kernel
theorem dX4_readOne_235 : decode cX4_readOne 235 = .ok (.iadd, 1) := by decide +kernel
theorem dX4_readOne_236 : decode cX4_readOne 236 = .ok (.invokevirtual 120, 3) := by decide +kernel
theorem dX4_readOne_239 : decode cX4_readOne 239 = .ok (.ifCond .eq 17, 3) := by decide +kernel
theorem dX4_readOne_242 : decode cX4_readOne 242 = .ok (.aload_n 0, 1) := by decide +kernel
theorem dX4_readOne_243 : decode cX4_readOne 243 = .ok (.bipush 26, 2) := by decide +kernel
theorem dX4_readOne_245 : decode cX4_readOne 245 = .ok (.iconst 0, 1) := by decide +kernel
theorem dX4_readOne_246 : decode cX4_readOne 246 = .ok (.invokevirtual 116, 3) := by decide +kernel
theorem dX4_readOne_249 : decode cX4_readOne 249 = .ok (.ifCond .eq 7, 3) := by decide +kernel
theorem dX4_readOne_252 : decode cX4_readOne 252 = .ok (.iconst 1, 1) := by decide +kernel
theorem dX4_readOne_253 : decode cX4_readOne 253 = .ok (.goto 4, 3) := by decide +kernel
theorem dX4_readOne_256 : decode cX4_readOne 256 = .ok (.iconst 0, 1) := by decide +kernel
theorem dX4_readOne_257 : decode cX4_readOne 257 = .ok (.ireturn, 1) := by decide +kernel
theorem dX4_readOne_258 : decode cX4_readOne 258 = .ok (.aload_n 0, 1) := by decide +kernel
theorem dX4_readOne_259 : decode cX4_readOne 259 = .ok (.iload_n 1, 1) := by decide +kernel
theorem dX4_readOne_260 : decode cX4_readOne 260 = .ok (.iconst 1, 1) := by decide +kernel
theorem dX4_readOne_261 : decode cX4_readOne 261 = .ok (.iadd, 1) := by decide +kernel
theorem dX4_readOne_262 : decode cX4_readOne 262 = .ok (.invokevirtual 129, 3) := by decide +kernel
theorem dX4_readOne_265 : decode cX4_readOne 265 = .ok (.ireturn, 1) := by decide +kernel
theorem dX4_readPlainNumber_0 : decode cX4_readPlainNumber 0 = .ok (.aload_n 0, 1) := by decide +kernel
theorem dX4_readPlainNumber_1 : decode cX4_readPlainNumber 1 = .ok (.getfield 31, 3) := by decide +kernel
theorem dX4_readPlainNumber_4 : decode cX4_readPlainNumber 4 = .ok (.aload_n 0, 1) := by decide +kernel
theorem dX4_readPlainNumber_5 : decode cX4_readPlainNumber 5 = .ok (.getfield 40, 3) := by decide +kernel
theorem dX4_readPlainNumber_8 : decode cX4_readPlainNumber 8 = .ok (.invokevirtual 110, 3) := by decide +kernel
theorem dX4_readPlainNumber_11 : decode cX4_readPlainNumber 11 = .ok (.istore_n 1, 1) := by decide +kernel
theorem dX4_readPlainNumber_12 : decode cX4_readPlainNumber 12 = .ok (.iload_n 1, 1) := by decide +kernel
theorem dX4_readPlainNumber_13 : decode cX4_readPlainNumber 13 = .ok (.sipush 9999, 3) := by decide +kernel
theorem dX4_readPlainNumber_16 : decode cX4_readPlainNumber 16 = .ok (.if_icmp .le 9, 3) := by decide +kernel
theorem dX4_readPlainNumber_19 : decode cX4_readPlainNumber 19 = .ok (.aload_n 0, 1) := by decide +kernel
theorem dX4_readPlainNumber_20 : decode cX4_readPlainNumber 20 = .ok (.iconst 2, 1) := by decide +kernel
theorem dX4_readPlainNumber_21 : decode cX4_readPlainNumber 21 = .ok (.invokevirtual 84, 3) := by decide +kernel
theorem dX4_readPlainNumber_24 : decode cX4_readPlainNumber 24 = .ok (.ireturn, 1) := by decide +kernel
theorem dX4_readPlainNumber_25 : decode cX4_readPlainNumber 25 = .ok (.aload_n 0, 1) := by decide +kernel
theorem dX4_readPlainNumber_26 : decode cX4_readPlainNumber 26 = .ok (.dup, 1) := by decide +kernel
theorem dX4_readPlainNumber_27 : decode cX4_readPlainNumber 27 = .ok (.getfield 40, 3) := by decide +kernel
theorem dX4_readPlainNumber_30 : decode cX4_readPlainNumber 30 = .ok (.iconst 1, 1) := by decide +kernel
theorem dX4_readPlainNumber_31 : decode cX4_readPlainNumber 31 = .ok (.iadd, 1) := by decide +kernel
theorem dX4_readPlainNumber_32 : decode cX4_readPlainNumber 32 = .ok (.putfield 40, 3) := by decide +kernel
theorem dX4_readPlainNumber_35 : decode cX4_readPlainNumber 35 = .ok (.aload_n 0, 1) := by decide +kernel
theorem dX4_readPlainNumber_36 : decode cX4_readPlainNumber 36 = .ok (.bipush 30, 2) := by decide +kernel
theorem dX4_readPlainNumber_38 : decode cX4_readPlainNumber 38 = .ok (.iload_n 1, 1) := by decide +kernel
theorem dX4_readPlainNumber_39 : decode cX4_readPlainNumber 39 = .ok (.invokevirtual 116, 3) := by decide +kernel
theorem dX4_readPlainNumber_42 : decode cX4_readPlainNumber 42 = .ok (.ireturn, 1) := by decide +kernel
theorem dX4_readName_0 : decode cX4_readName 0 = .ok (.iload_n 1, 1) := by decide +kernel
theorem dX4_readName_1 : decode cX4_readName 1 = .ok (.bipush 10, 2) := by decide +kernel
theorem dX4_readName_3 : decode cX4_readName 3 = .ok (.if_icmp .eq 21, 3) := by decide +kernel
theorem dX4_readName_6 : decode cX4_readName 6 = .ok (.iload_n 1, 1) := by decide +kernel
theorem dX4_readName_7 : decode cX4_readName 7 = .ok (.bipush 15, 2) := by decide +kernel
theorem dX4_readName_9 : decode cX4_readName 9 = .ok (.if_icmp .eq 15, 3) := by decide +kernel
theorem dX4_readName_12 : decode cX4_readName 12 = .ok (.iload_n 1, 1) := by decide +kernel
theorem dX4_readName_13 : decode cX4_readName 13 = .ok (.bipush 16, 2) := by decide +kernel
theorem dX4_readName_15 : decode cX4_readName 15 = .ok (.if_icmp .eq 9, 3) := by decide +kernel
theorem dX4_readName_18 : decode cX4_readName 18 = .ok (.iload_n 1, 1) := by decide +kernel
theorem dX4_readName_19 : decode cX4_readName 19 = .ok (.bipush 17, 2) := by decide +kernel
theorem dX4_readName_21 : decode cX4_readName 21 = .ok (.if_icmp .ne 7, 3) := by decide +kernel
theorem dX4_readName_24 : decode cX4_readName 24 = .ok (.iconst 1, 1) := by decide +kernel
theorem dX4_readName_25 : decode cX4_readName 25 = .ok (.goto 4, 3) := by decide +kernel
theorem dX4_readName_28 : decode cX4_readName 28 = .ok (.iconst 0, 1) := by decide +kernel
theorem dX4_readName_29 : decode cX4_readName 29 = .ok (.istore_n 2, 1) := by decide +kernel
theorem dX4_readName_30 : decode cX4_readName 30 = .ok (.iload_n 2, 1) := by decide +kernel
theorem dX4_readName_31 : decode cX4_readName 31 = .ok (.ifCond .eq 17, 3) := by decide +kernel
theorem dX4_readName_34 : decode cX4_readName 34 = .ok (.aload_n 0, 1) := by decide +kernel
theorem dX4_readName_35 : decode cX4_readName 35 = .ok (.getfield 101, 3) := by decide +kernel
theorem dX4_readName_38 : decode cX4_readName 38 = .ok (.iconst 1, 1) := by decide +kernel
theorem dX4_readName_39 : decode cX4_readName 39 = .ok (.if_icmp .eq 9, 3) := by decide +kernel
theorem dX4_readName_42 : decode cX4_readName 42 = .ok (.aload_n 0, 1) := by decide +kernel
theorem dX4_readName_43 : decode cX4_readName 43 = .ok (.iconst 5, 1) := by decide +kernel
theorem dX4_readName_44 : decode cX4_readName 44 = .ok (.invokevirtual 84, 3) := by decide +kernel
theorem dX4_readName_47 : decode cX4_readName 47 = .ok (.ireturn, 1) := by decide +kernel
theorem dX4_readName_48 : decode cX4_readName 48 = .ok (.aload_n 0, 1) := by decide +kernel
theorem dX4_readName_49 : decode cX4_readName 49 = .ok (.dup, 1) := by decide +kernel
theorem dX4_readName_50 : decode cX4_readName 50 = .ok (.getfield 40, 3) := by decide +kernel
theorem dX4_readName_53 : decode cX4_readName 53 = .ok (.iconst 1, 1) := by decide +kernel
theorem dX4_readName_54 : decode cX4_readName 54 = .ok (.iadd, 1) := by decide +kernel
theorem dX4_readName_55 : decode cX4_readName 55 = .ok (.putfield 40, 3) := by decide +kernel
theorem dX4_readName_58 : decode cX4_readName 58 = .ok (.aload_n 0, 1) := by decide +kernel
theorem dX4_readName_59 : decode cX4_readName 59 = .ok (.iload_n 1, 1) := by decide +kernel
theorem dX4_readName_60 : decode cX4_readName 60 = .ok (.iconst 0, 1) := by decide +kernel
theorem dX4_readName_61 : decode cX4_readName 61 = .ok (.invokevirtual 116, 3) := by decide +kernel
theorem dX4_readName_64 : decode cX4_readName 64 = .ok (.ireturn, 1) := by decide +kernel
theorem dX4_readIf_0 : decode cX4_readIf 0 = .ok (.aload_n 0, 1) := by decide +kernel
theorem dX4_readIf_1 : decode cX4_readIf 1 = .ok (.iload_n 1, 1) := by decide +kernel
theorem dX4_readIf_2 : decode cX4_readIf 2 = .ok (.invokevirtual 132, 3) := by decide +kernel
theorem dX4_readIf_5 : decode cX4_readIf 5 = .ok (.ifCond .eq 12, 3) := by decide +kernel
theorem dX4_readIf_8 : decode cX4_readIf 8 = .ok (.aload_n 0, 1) := by decide +kernel
theorem dX4_readIf_9 : decode cX4_readIf 9 = .ok (.bipush 21, 2) := by decide +kernel
theorem dX4_readIf_11 : decode cX4_readIf 11 = .ok (.invokevirtual 98, 3) := by decide +kernel
theorem dX4_readIf_14 : decode cX4_readIf 14 = .ok (.ifCond .ne 5, 3) := by decide +kernel
theorem dX4_readIf_17 : decode cX4_readIf 17 = .ok (.iconst 0, 1) := by decide +kernel
theorem dX4_readIf_18 : decode cX4_readIf 18 = .ok (.ireturn, 1) := by decide +kernel
theorem dX4_readIf_19 : decode cX4_readIf 19 = .ok (.aload_n 0, 1) := by decide +kernel
theorem dX4_readIf_20 : decode cX4_readIf 20 = .ok (.getfield 46, 3) := by decide +kernel
theorem dX4_readIf_23 : decode cX4_readIf 23 = .ok (.istore_n 2, 1) := by decide +kernel
theorem dX4_readIf_24 : decode cX4_readIf 24 = .ok (.aload_n 0, 1) := by decide +kernel
theorem dX4_readIf_25 : decode cX4_readIf 25 = .ok (.bipush 21, 2) := by decide +kernel
theorem dX4_readIf_27 : decode cX4_readIf 27 = .ok (.iconst 0, 1) := by decide +kernel
theorem dX4_readIf_28 : decode cX4_readIf 28 = .ok (.invokevirtual 116, 3) := by decide +kernel
theorem dX4_readIf_31 : decode cX4_readIf 31 = .ok (.pop, 1) := by decide +kernel
theorem dX4_readIf_32 : decode cX4_readIf 32 = .ok (.aload_n 0, 1) := by decide +kernel
theorem dX4_readIf_33 : decode cX4_readIf 33 = .ok (.iload_n 1, 1) := by decide +kernel
theorem dX4_readIf_34 : decode cX4_readIf 34 = .ok (.invokevirtual 104, 3) := by decide +kernel
theorem dX4_readIf_37 : decode cX4_readIf 37 = .ok (.ifCond .eq 12, 3) := by decide +kernel
theorem dX4_readIf_40 : decode cX4_readIf 40 = .ok (.aload_n 0, 1) := by decide +kernel
theorem dX4_readIf_41 : decode cX4_readIf 41 = .ok (.bipush 22, 2) := by decide +kernel
theorem dX4_readIf_43 : decode cX4_readIf 43 = .ok (.invokevirtual 98, 3) := by decide +kernel
theorem dX4_readIf_46 : decode cX4_readIf 46 = .ok (.ifCond .ne 5, 3) := by decide +kernel
theorem dX4_readIf_49 : decode cX4_readIf 49 = .ok (.iconst 0, 1) := by decide +kernel
theorem dX4_readIf_50 : decode cX4_readIf 50 = .ok (.ireturn, 1) := by decide +kernel
theorem dX4_readIf_51 : decode cX4_readIf 51 = .ok (.aload_n 0, 1) := by decide +kernel
theorem dX4_readIf_52 : decode cX4_readIf 52 = .ok (.getfield 46, 3) := by decide +kernel
theorem dX4_readIf_55 : decode cX4_readIf 55 = .ok (.istore_n 3, 1) := by decide +kernel
theorem dX4_readIf_56 : decode cX4_readIf 56 = .ok (.aload_n 0, 1) := by decide +kernel
theorem dX4_readIf_57 : decode cX4_readIf 57 = .ok (.bipush 22, 2) := by decide +kernel
theorem dX4_readIf_59 : decode cX4_readIf 59 = .ok (.iconst 0, 1) := by decide +kernel
theorem dX4_readIf_60 : decode cX4_readIf 60 = .ok (.invokevirtual 116, 3) := by decide +kernel
theorem dX4_readIf_63 : decode cX4_readIf 63 = .ok (.pop, 1) := by decide +kernel
theorem dX4_readIf_64 : decode cX4_readIf 64 = .ok (.aload_n 0, 1) := by decide +kernel
theorem dX4_readIf_65 : decode cX4_readIf 65 = .ok (.iload_n 2, 1) := by decide +kernel
theorem dX4_readIf_66 : decode cX4_readIf 66 = .ok (.invokevirtual 135, 3) := by decide +kernel
theorem dX4_readIf_69 : decode cX4_readIf 69 = .ok (.aload_n 0, 1) := by decide +kernel
theorem dX4_readIf_70 : decode cX4_readIf 70 = .ok (.iload_n 1, 1) := by decide +kernel
theorem dX4_readIf_71 : decode cX4_readIf 71 = .ok (.invokevirtual 104, 3) := by decide +kernel
theorem dX4_readIf_74 : decode cX4_readIf 74 = .ok (.ifCond .eq 12, 3) := by decide +kernel
theorem dX4_readIf_77 : decode cX4_readIf 77 = .ok (.aload_n 0, 1) := by decide +kernel
theorem dX4_readIf_78 : decode cX4_readIf 78 = .ok (.bipush 23, 2) := by decide +kernel
theorem dX4_readIf_80 : decode cX4_readIf 80 = .ok (.invokevirtual 98, 3) := by decide +kernel
theorem dX4_readIf_83 : decode cX4_readIf 83 = .ok (.ifCond .ne 5, 3) := by decide +kernel
theorem dX4_readIf_86 : decode cX4_readIf 86 = .ok (.iconst 0, 1) := by decide +kernel
theorem dX4_readIf_87 : decode cX4_readIf 87 = .ok (.ireturn, 1) := by decide +kernel
theorem dX4_readIf_88 : decode cX4_readIf 88 = .ok (.aload_n 0, 1) := by decide +kernel
theorem dX4_readIf_89 : decode cX4_readIf 89 = .ok (.iload_n 3, 1) := by decide +kernel
theorem dX4_readIf_90 : decode cX4_readIf 90 = .ok (.invokevirtual 135, 3) := by decide +kernel
theorem dX4_readIf_93 : decode cX4_readIf 93 = .ok (.iconst 1, 1) := by decide +kernel
theorem dX4_readIf_94 : decode cX4_readIf 94 = .ok (.ireturn, 1) := by decide +kernel
theorem dX4_readEither_0 : decode cX4_readEither 0 = .ok (.aload_n 0, 1) := by decide +kernel
theorem dX4_readEither_1 : decode cX4_readEither 1 = .ok (.iload_n 1, 1) := by decide +kernel
theorem dX4_readEither_2 : decode cX4_readEither 2 = .ok (.invokevirtual 139, 3) := by decide +kernel
theorem dX4_readEither_5 : decode cX4_readEither 5 = .ok (.ifCond .ne 5, 3) := by decide +kernel
theorem dX4_readEither_8 : decode cX4_readEither 8 = .ok (.iconst 0, 1) := by decide +kernel
theorem dX4_readEither_9 : decode cX4_readEither 9 = .ok (.ireturn, 1) := by decide +kernel
theorem dX4_readEither_10 : decode cX4_readEither 10 = .ok (.iconst 0, 1) := by decide +kernel
theorem dX4_readEither_11 : decode cX4_readEither 11 = .ok (.istore_n 2, 1) := by decide +kernel
theorem dX4_readEither_12 : decode cX4_readEither 12 = .ok (.iload_n 2, 1) := by decide +kernel
theorem dX4_readEither_13 : decode cX4_readEither 13 = .ok (.sipush 300, 3) := by decide +kernel
theorem dX4_readEither_16 : decode cX4_readEither 16 = .ok (.if_icmp .ge 46, 3) := by decide +kernel
theorem dX4_readEither_19 : decode cX4_readEither 19 = .ok (.aload_n 0, 1) := by decide +kernel
theorem dX4_readEither_20 : decode cX4_readEither 20 = .ok (.invokevirtual 55, 3) := by decide +kernel
theorem dX4_readEither_23 : decode cX4_readEither 23 = .ok (.bipush 28, 2) := by decide +kernel
theorem dX4_readEither_25 : decode cX4_readEither 25 = .ok (.if_icmp .ne 37, 3) := by decide +kernel
theorem dX4_readEither_28 : decode cX4_readEither 28 = .ok (.aload_n 0, 1) := by decide +kernel
theorem dX4_readEither_29 : decode cX4_readEither 29 = .ok (.dup, 1) := by decide +kernel
theorem dX4_readEither_30 : decode cX4_readEither 30 = .ok (.getfield 40, 3) := by decide +kernel
theorem dX4_readEither_33 : decode cX4_readEither 33 = .ok (.iconst 1, 1) := by decide +kernel
theorem dX4_readEither_34 : decode cX4_readEither 34 = .ok (.iadd, 1) := by decide +kernel
theorem dX4_readEither_35 : decode cX4_readEither 35 = .ok (.putfield 40, 3) := by decide +kernel
theorem dX4_readEither_38 : decode cX4_readEither 38 = .ok (.aload_n 0, 1) := by decide +kernel
theorem dX4_readEither_39 : decode cX4_readEither 39 = .ok (.iload_n 1, 1) := by decide +kernel
theorem dX4_readEither_40 : decode cX4_readEither 40 = .ok (.invokevirtual 139, 3) := by decide +kernel
theorem dX4_readEither_43 : decode cX4_readEither 43 = .ok (.ifCond .ne 5, 3) := by decide +kernel
theorem dX4_readEither_46 : decode cX4_readEither 46 = .ok (.iconst 0, 1) := by decide +kernel
theorem dX4_readEither_47 : decode cX4_readEither 47 = .ok (.ireturn, 1) := by decide +kernel
theorem dX4_readEither_48 : decode cX4_readEither 48 = .ok (.aload_n 0, 1) := by decide +kernel
theorem dX4_readEither_49 : decode cX4_readEither 49 = .ok (.bipush 28, 2) := by decide +kernel
theorem dX4_readEither_51 : decode cX4_readEither 51 = .ok (.iconst 0, 1) := by decide +kernel
theorem dX4_readEither_52 : decode cX4_readEither 52 = .ok (.invokevirtual 116, 3) := by decide +kernel
theorem dX4_readEither_55 : decode cX4_readEither 55 = .ok (.pop, 1) := by decide +kernel
theorem dX4_readEither_56 : decode cX4_readEither 56 = .ok (.iinc 2 1, 3) := by decide +kernel
theorem dX4_readEither_59 : decode cX4_readEither 59 = .ok (.goto (-47), 3) := by decide +kernel
theorem dX4_readEither_62 : decode cX4_readEither 62 = .ok (.iconst 1, 1) := by decide +kernel
theorem dX4_readEither_63 : decode cX4_readEither 63 = .ok (.ireturn, 1) := by decide +kernel
theorem dX4_readBoth_0 : decode cX4_readBoth 0 = .ok (.aload_n 0, 1) := by decide +kernel
theorem dX4_readBoth_1 : decode cX4_readBoth 1 = .ok (.iload_n 1, 1) := by decide +kernel
theorem dX4_readBoth_2 : decode cX4_readBoth 2 = .ok (.invokevirtual 142, 3) := by decide +kernel
theorem dX4_readBoth_5 : decode cX4_readBoth 5 = .ok (.ifCond .ne 5, 3) := by decide +kernel
theorem dX4_readBoth_8 : decode cX4_readBoth 8 = .ok (.iconst 0, 1) := by decide +kernel
theorem dX4_readBoth_9 : decode cX4_readBoth 9 = .ok (.ireturn, 1) := by decide +kernel
theorem dX4_readBoth_10 : decode cX4_readBoth 10 = .ok (.iconst 0, 1) := by decide +kernel
theorem dX4_readBoth_11 : decode cX4_readBoth 11 = .ok (.istore_n 2, 1) := by decide +kernel
theorem dX4_readBoth_12 : decode cX4_readBoth 12 = .ok (.iload_n 2, 1) := by decide +kernel
theorem dX4_readBoth_13 : decode cX4_readBoth 13 = .ok (.sipush 300, 3) := by decide +kernel
theorem dX4_readBoth_16 : decode cX4_readBoth 16 = .ok (.if_icmp .ge 46, 3) := by decide +kernel
theorem dX4_readBoth_19 : decode cX4_readBoth 19 = .ok (.aload_n 0, 1) := by decide +kernel
theorem dX4_readBoth_20 : decode cX4_readBoth 20 = .ok (.invokevirtual 55, 3) := by decide +kernel
theorem dX4_readBoth_23 : decode cX4_readBoth 23 = .ok (.bipush 29, 2) := by decide +kernel
theorem dX4_readBoth_25 : decode cX4_readBoth 25 = .ok (.if_icmp .ne 37, 3) := by decide +kernel
theorem dX4_readBoth_28 : decode cX4_readBoth 28 = .ok (.aload_n 0, 1) := by decide +kernel
theorem dX4_readBoth_29 : decode cX4_readBoth 29 = .ok (.dup, 1) := by decide +kernel
theorem dX4_readBoth_30 : decode cX4_readBoth 30 = .ok (.getfield 40, 3) := by decide +kernel
theorem dX4_readBoth_33 : decode cX4_readBoth 33 = .ok (.iconst 1, 1) := by decide +kernel
theorem dX4_readBoth_34 : decode cX4_readBoth 34 = .ok (.iadd, 1) := by decide +kernel
theorem dX4_readBoth_35 : decode cX4_readBoth 35 = .ok (.putfield 40, 3) := by decide +kernel
theorem dX4_readBoth_38 : decode cX4_readBoth 38 = .ok (.aload_n 0, 1) := by decide +kernel
theorem dX4_readBoth_39 : decode cX4_readBoth 39 = .ok (.iload_n 1, 1) := by decide +kernel
theorem dX4_readBoth_40 : decode cX4_readBoth 40 = .ok (.invokevirtual 142, 3) := by decide +kernel
theorem dX4_readBoth_43 : decode cX4_readBoth 43 = .ok (.ifCond .ne 5, 3) := by decide +kernel
theorem dX4_readBoth_46 : decode cX4_readBoth 46 = .ok (.iconst 0, 1) := by decide +kernel
theorem dX4_readBoth_47 : decode cX4_readBoth 47 = .ok (.ireturn, 1) := by decide +kernel
theorem dX4_readBoth_48 : decode cX4_readBoth 48 = .ok (.aload_n 0, 1) := by decide +kernel
theorem dX4_readBoth_49 : decode cX4_readBoth 49 = .ok (.bipush 29, 2) := by decide +kernel
theorem dX4_readBoth_51 : decode cX4_readBoth 51 = .ok (.iconst 0, 1) := by decide +kernel
theorem dX4_readBoth_52 : decode cX4_readBoth 52 = .ok (.invokevirtual 116, 3) := by decide +kernel
theorem dX4_readBoth_55 : decode cX4_readBoth 55 = .ok (.pop, 1) := by decide +kernel
theorem dX4_readBoth_56 : decode cX4_readBoth 56 = .ok (.iinc 2 1, 3) := by decide +kernel
theorem dX4_readBoth_59 : decode cX4_readBoth 59 = .ok (.goto (-47), 3) := by decide +kernel
theorem dX4_readBoth_62 : decode cX4_readBoth 62 = .ok (.iconst 1, 1) := by decide +kernel
theorem dX4_readBoth_63 : decode cX4_readBoth 63 = .ok (.ireturn, 1) := by decide +kernel
theorem dX4_readAsk_0 : decode cX4_readAsk 0 = .ok (.aload_n 0, 1) := by decide +kernel
theorem dX4_readAsk_1 : decode cX4_readAsk 1 = .ok (.invokevirtual 55, 3) := by decide +kernel
theorem dX4_readAsk_4 : decode cX4_readAsk 4 = .ok (.bipush 25, 2) := by decide +kernel
theorem dX4_readAsk_6 : decode cX4_readAsk 6 = .ok (.if_icmp .ne 51, 3) := by decide +kernel
theorem dX4_readAsk_9 : decode cX4_readAsk 9 = .ok (.iload_n 1, 1) := by decide +kernel
theorem dX4_readAsk_10 : decode cX4_readAsk 10 = .ok (.bipush 8, 2) := by decide +kernel
theorem dX4_readAsk_12 : decode cX4_readAsk 12 = .ok (.if_icmp .lt 9, 3) := by decide +kernel
theorem dX4_readAsk_15 : decode cX4_readAsk 15 = .ok (.aload_n 0, 1) := by decide +kernel
theorem dX4_readAsk_16 : decode cX4_readAsk 16 = .ok (.iconst 3, 1) := by decide +kernel
theorem dX4_readAsk_17 : decode cX4_readAsk 17 = .ok (.invokevirtual 84, 3) := by decide +kernel
theorem dX4_readAsk_20 : decode cX4_readAsk 20 = .ok (.ireturn, 1) := by decide +kernel
theorem dX4_readAsk_21 : decode cX4_readAsk 21 = .ok (.aload_n 0, 1) := by decide +kernel
theorem dX4_readAsk_22 : decode cX4_readAsk 22 = .ok (.dup, 1) := by decide +kernel
theorem dX4_readAsk_23 : decode cX4_readAsk 23 = .ok (.getfield 40, 3) := by decide +kernel
theorem dX4_readAsk_26 : decode cX4_readAsk 26 = .ok (.iconst 1, 1) := by decide +kernel
theorem dX4_readAsk_27 : decode cX4_readAsk 27 = .ok (.iadd, 1) := by decide +kernel
theorem dX4_readAsk_28 : decode cX4_readAsk 28 = .ok (.putfield 40, 3) := by decide +kernel
theorem dX4_readAsk_31 : decode cX4_readAsk 31 = .ok (.aload_n 0, 1) := by decide +kernel
theorem dX4_readAsk_32 : decode cX4_readAsk 32 = .ok (.iload_n 1, 1) := by decide +kernel
theorem dX4_readAsk_33 : decode cX4_readAsk 33 = .ok (.iconst 1, 1) := by decide +kernel
theorem dX4_readAsk_34 : decode cX4_readAsk 34 = .ok (.iadd, 1) := by decide +kernel
theorem dX4_readAsk_35 : decode cX4_readAsk 35 = .ok (.invokevirtual 142, 3) := by decide +kernel
theorem dX4_readAsk_38 : decode cX4_readAsk 38 = .ok (.ifCond .eq 17, 3) := by decide +kernel
theorem dX4_readAsk_41 : decode cX4_readAsk 41 = .ok (.aload_n 0, 1) := by decide +kernel
theorem dX4_readAsk_42 : decode cX4_readAsk 42 = .ok (.bipush 25, 2) := by decide +kernel
theorem dX4_readAsk_44 : decode cX4_readAsk 44 = .ok (.iconst 0, 1) := by decide +kernel
theorem dX4_readAsk_45 : decode cX4_readAsk 45 = .ok (.invokevirtual 116, 3) := by decide +kernel
theorem dX4_readAsk_48 : decode cX4_readAsk 48 = .ok (.ifCond .eq 7, 3) := by decide +kernel
theorem dX4_readAsk_51 : decode cX4_readAsk 51 = .ok (.iconst 1, 1) := by decide +kernel
theorem dX4_readAsk_52 : decode cX4_readAsk 52 = .ok (.goto 4, 3) := by decide +kernel
theorem dX4_readAsk_55 : decode cX4_readAsk 55 = .ok (.iconst 0, 1) := by decide +kernel
theorem dX4_readAsk_56 : decode cX4_readAsk 56 = .ok (.ireturn, 1) := by decide +kernel
theorem dX4_readAsk_57 : decode cX4_readAsk 57 = .ok (.aload_n 0, 1) := by decide +kernel
theorem dX4_readAsk_58 : decode cX4_readAsk 58 = .ok (.iload_n 1, 1) := by decide +kernel
theorem dX4_readAsk_59 : decode cX4_readAsk 59 = .ok (.invokevirtual 104, 3) := by decide +kernel
theorem dX4_readAsk_62 : decode cX4_readAsk 62 = .ok (.ifCond .ne 5, 3) := by decide +kernel
theorem dX4_readAsk_65 : decode cX4_readAsk 65 = .ok (.iconst 0, 1) := by decide +kernel
theorem dX4_readAsk_66 : decode cX4_readAsk 66 = .ok (.ireturn, 1) := by decide +kernel
theorem dX4_readAsk_67 : decode cX4_readAsk 67 = .ok (.aload_n 0, 1) := by decide +kernel
theorem dX4_readAsk_68 : decode cX4_readAsk 68 = .ok (.invokevirtual 55, 3) := by decide +kernel
theorem dX4_readAsk_71 : decode cX4_readAsk 71 = .ok (.istore_n 2, 1) := by decide +kernel
theorem dX4_readAsk_72 : decode cX4_readAsk 72 = .ok (.iload_n 2, 1) := by decide +kernel
theorem dX4_readAsk_73 : decode cX4_readAsk 73 = .ok (.bipush 31, 2) := by decide +kernel
theorem dX4_readAsk_75 : decode cX4_readAsk 75 = .ok (.bipush 36, 2) := by decide +kernel
theorem dX4_readAsk_77 : decode cX4_readAsk 77 = .ok (.invokestatic 88, 3) := by decide +kernel
theorem dX4_readAsk_80 : decode cX4_readAsk 80 = .ok (.ifCond .ne 9, 3) := by decide +kernel
theorem dX4_readAsk_83 : decode cX4_readAsk 83 = .ok (.aload_n 0, 1) := by decide +kernel
theorem dX4_readAsk_84 : decode cX4_readAsk 84 = .ok (.iconst 1, 1) := by decide +kernel
theorem dX4_readAsk_85 : decode cX4_readAsk 85 = .ok (.invokevirtual 84, 3) := by decide +kernel
theorem dX4_readAsk_88 : decode cX4_readAsk 88 = .ok (.ireturn, 1) := by decide +kernel
theorem dX4_readAsk_89 : decode cX4_readAsk 89 = .ok (.aload_n 0, 1) := by decide +kernel
theorem dX4_readAsk_90 : decode cX4_readAsk 90 = .ok (.dup, 1) := by decide +kernel
theorem dX4_readAsk_91 : decode cX4_readAsk 91 = .ok (.getfield 40, 3) := by decide +kernel
theorem dX4_readAsk_94 : decode cX4_readAsk 94 = .ok (.iconst 1, 1) := by decide +kernel
theorem dX4_readAsk_95 : decode cX4_readAsk 95 = .ok (.iadd, 1) := by decide +kernel
theorem dX4_readAsk_96 : decode cX4_readAsk 96 = .ok (.putfield 40, 3) := by decide +kernel
theorem dX4_readAsk_99 : decode cX4_readAsk 99 = .ok (.aload_n 0, 1) := by decide +kernel
theorem dX4_readAsk_100 : decode cX4_readAsk 100 = .ok (.iload_n 1, 1) := by decide +kernel
theorem dX4_readAsk_101 : decode cX4_readAsk 101 = .ok (.invokevirtual 104, 3) := by decide +kernel
theorem dX4_readAsk_104 : decode cX4_readAsk 104 = .ok (.ifCond .eq 16, 3) := by decide +kernel
theorem dX4_readAsk_107 : decode cX4_readAsk 107 = .ok (.aload_n 0, 1) := by decide +kernel
theorem dX4_readAsk_108 : decode cX4_readAsk 108 = .ok (.iload_n 2, 1) := by decide +kernel
theorem dX4_readAsk_109 : decode cX4_readAsk 109 = .ok (.iconst 0, 1) := by decide +kernel
theorem dX4_readAsk_110 : decode cX4_readAsk 110 = .ok (.invokevirtual 116, 3) := by decide +kernel
theorem dX4_readAsk_113 : decode cX4_readAsk 113 = .ok (.ifCond .eq 7, 3) := by decide +kernel
theorem dX4_readAsk_116 : decode cX4_readAsk 116 = .ok (.iconst 1, 1) := by decide +kernel
theorem dX4_readAsk_117 : decode cX4_readAsk 117 = .ok (.goto 4, 3) := by decide +kernel
theorem dX4_readAsk_120 : decode cX4_readAsk 120 = .ok (.iconst 0, 1) := by decide +kernel
theorem dX4_readAsk_121 : decode cX4_readAsk 121 = .ok (.ireturn, 1) := by decide +kernel
theorem dX4_emit_0 : decode cX4_emit 0 = .ok (.aload_n 0, 1) := by decide +kernel
theorem dX4_emit_1 : decode cX4_emit 1 = .ok (.getfield 46, 3) := by decide +kernel
theorem dX4_emit_4 : decode cX4_emit 4 = .ok (.aload_n 0, 1) := by decide +kernel
theorem dX4_emit_5 : decode cX4_emit 5 = .ok (.getfield 22, 3) := by decide +kernel
theorem dX4_emit_8 : decode cX4_emit 8 = .ok (.arraylength, 1) := by decide +kernel
theorem dX4_emit_9 : decode cX4_emit 9 = .ok (.if_icmp .ge 29, 3) := by decide +kernel
theorem dX4_emit_12 : decode cX4_emit 12 = .ok (.aload_n 0, 1) := by decide +kernel
theorem dX4_emit_13 : decode cX4_emit 13 = .ok (.getfield 22, 3) := by decide +kernel
theorem dX4_emit_16 : decode cX4_emit 16 = .ok (.aload_n 0, 1) := by decide +kernel
theorem dX4_emit_17 : decode cX4_emit 17 = .ok (.getfield 46, 3) := by decide +kernel
theorem dX4_emit_20 : decode cX4_emit 20 = .ok (.iload_n 1, 1) := by decide +kernel
theorem dX4_emit_21 : decode cX4_emit 21 = .ok (.sipush 16384, 3) := by decide +kernel
theorem dX4_emit_24 : decode cX4_emit 24 = .ok (.imul, 1) := by decide +kernel
theorem dX4_emit_25 : decode cX4_emit 25 = .ok (.iload_n 2, 1) := by decide +kernel
theorem dX4_emit_26 : decode cX4_emit 26 = .ok (.iadd, 1) := by decide +kernel
theorem dX4_emit_27 : decode cX4_emit 27 = .ok (.iastore, 1) := by decide +kernel
theorem dX4_emit_28 : decode cX4_emit 28 = .ok (.aload_n 0, 1) := by decide +kernel
theorem dX4_emit_29 : decode cX4_emit 29 = .ok (.dup, 1) := by decide +kernel
theorem dX4_emit_30 : decode cX4_emit 30 = .ok (.getfield 46, 3) := by decide +kernel
theorem dX4_emit_33 : decode cX4_emit 33 = .ok (.iconst 1, 1) := by decide +kernel
theorem dX4_emit_34 : decode cX4_emit 34 = .ok (.iadd, 1) := by decide +kernel
theorem dX4_emit_35 : decode cX4_emit 35 = .ok (.putfield 46, 3) := by decide +kernel
theorem dX4_emit_38 : decode cX4_emit 38 = .ok (.iconst 1, 1) := by decide +kernel
theorem dX4_emit_39 : decode cX4_emit 39 = .ok (.ireturn, 1) := by decide +kernel
theorem dX4_aim_0 : decode cX4_aim 0 = .ok (.iload_n 1, 1) := by decide +kernel
theorem dX4_aim_1 : decode cX4_aim 1 = .ok (.iconst 0, 1) := by decide +kernel
theorem dX4_aim_2 : decode cX4_aim 2 = .ok (.aload_n 0, 1) := by decide +kernel
theorem dX4_aim_3 : decode cX4_aim 3 = .ok (.getfield 22, 3) := by decide +kernel
theorem dX4_aim_6 : decode cX4_aim 6 = .ok (.arraylength, 1) := by decide +kernel
theorem dX4_aim_7 : decode cX4_aim 7 = .ok (.iconst 1, 1) := by decide +kernel
theorem dX4_aim_8 : decode cX4_aim 8 = .ok (.isub, 1) := by decide +kernel
theorem dX4_aim_9 : decode cX4_aim 9 = .ok (.invokestatic 88, 3) := by decide +kernel
theorem dX4_aim_12 : decode cX4_aim 12 = .ok (.ifCond .eq 16, 3) := by decide +kernel
theorem dX4_aim_15 : decode cX4_aim 15 = .ok (.aload_n 0, 1) := by decide +kernel
theorem dX4_aim_16 : decode cX4_aim 16 = .ok (.getfield 22, 3) := by decide +kernel
theorem dX4_aim_19 : decode cX4_aim 19 = .ok (.iload_n 1, 1) := by decide +kernel
theorem dX4_aim_20 : decode cX4_aim 20 = .ok (.dup2, 1) := by decide +kernel
theorem dX4_aim_21 : decode cX4_aim 21 = .ok (.iaload, 1) := by decide +kernel
theorem dX4_aim_22 : decode cX4_aim 22 = .ok (.aload_n 0, 1) := by decide +kernel
theorem dX4_aim_23 : decode cX4_aim 23 = .ok (.getfield 46, 3) := by decide +kernel
theorem dX4_aim_26 : decode cX4_aim 26 = .ok (.iadd, 1) := by decide +kernel
theorem dX4_aim_27 : decode cX4_aim 27 = .ok (.iastore, 1) := by decide +kernel
theorem dX4_aim_28 : decode cX4_aim 28 = .ok (.return_, 1) := by decide +kernel
theorem dX5_init_0 : decode cX5_init 0 = .ok (.aload_n 0, 1) := by decide +kernel
theorem dX5_init_1 : decode cX5_init 1 = .ok (.invokespecial 3, 3) := by decide +kernel
theorem dX5_init_4 : decode cX5_init 4 = .ok (.aload_n 0, 1) := by decide +kernel
theorem dX5_init_5 : decode cX5_init 5 = .ok (.iconst (-1), 1) := by decide +kernel
theorem dX5_init_6 : decode cX5_init 6 = .ok (.putfield 9, 3) := by decide +kernel
theorem dX5_init_9 : decode cX5_init 9 = .ok (.aload_n 0, 1) := by decide +kernel
theorem dX5_init_10 : decode cX5_init 10 = .ok (.iconst (-1), 1) := by decide +kernel
theorem dX5_init_11 : decode cX5_init 11 = .ok (.putfield 15, 3) := by decide +kernel
theorem dX5_init_14 : decode cX5_init 14 = .ok (.aload_n 0, 1) := by decide +kernel
theorem dX5_init_15 : decode cX5_init 15 = .ok (.aload_n 1, 1) := by decide +kernel
theorem dX5_init_16 : decode cX5_init 16 = .ok (.putfield 18, 3) := by decide +kernel
theorem dX5_init_19 : decode cX5_init 19 = .ok (.aload_n 0, 1) := by decide +kernel
theorem dX5_init_20 : decode cX5_init 20 = .ok (.new 22, 3) := by decide +kernel
theorem dX5_init_23 : decode cX5_init 23 = .ok (.dup, 1) := by decide +kernel
theorem dX5_init_24 : decode cX5_init 24 = .ok (.aload_n 1, 1) := by decide +kernel
theorem dX5_init_25 : decode cX5_init 25 = .ok (.invokespecial 24, 3) := by decide +kernel
theorem dX5_init_28 : decode cX5_init 28 = .ok (.putfield 27, 3) := by decide +kernel
theorem dX5_init_31 : decode cX5_init 31 = .ok (.return_, 1) := by decide +kernel
theorem dX5_reserveFor_0 : decode cX5_reserveFor 0 = .ok (.aload_n 0, 1) := by decide +kernel
theorem dX5_reserveFor_1 : decode cX5_reserveFor 1 = .ok (.getfield 18, 3) := by decide +kernel
theorem dX5_reserveFor_4 : decode cX5_reserveFor 4 = .ok (.aload_n 0, 1) := by decide +kernel
theorem dX5_reserveFor_5 : decode cX5_reserveFor 5 = .ok (.getfield 18, 3) := by decide +kernel
theorem dX5_reserveFor_8 : decode cX5_reserveFor 8 = .ok (.getfield 31, 3) := by decide +kernel
theorem dX5_reserveFor_11 : decode cX5_reserveFor 11 = .ok (.invokevirtual 36, 3) := by decide +kernel
theorem dX5_reserveFor_14 : decode cX5_reserveFor 14 = .ok (.astore_n 3, 1) := by decide +kernel
theorem dX5_reserveFor_15 : decode cX5_reserveFor 15 = .ok (.aload_n 3, 1) := by decide +kernel
theorem dX5_reserveFor_16 : decode cX5_reserveFor 16 = .ok (.ifnull 11, 3) := by decide +kernel
theorem dX5_reserveFor_19 : decode cX5_reserveFor 19 = .ok (.aload_n 3, 1) := by decide +kernel
theorem dX5_reserveFor_20 : decode cX5_reserveFor 20 = .ok (.iconst 2, 1) := by decide +kernel
theorem dX5_reserveFor_21 : decode cX5_reserveFor 21 = .ok (.invokevirtual 40, 3) := by decide +kernel
theorem dX5_reserveFor_24 : decode cX5_reserveFor 24 = .ok (.ifCond .ne 15, 3) := by decide +kernel
theorem dX5_reserveFor_27 : decode cX5_reserveFor 27 = .ok (.aload_n 0, 1) := by decide +kernel
theorem dX5_reserveFor_28 : decode cX5_reserveFor 28 = .ok (.getfield 18, 3) := by decide +kernel
theorem dX5_reserveFor_31 : decode cX5_reserveFor 31 = .ok (.getfield 46, 3) := by decide +kernel
theorem dX5_reserveFor_34 : decode cX5_reserveFor 34 = .ok (.iload_n 2, 1) := by decide +kernel
theorem dX5_reserveFor_35 : decode cX5_reserveFor 35 = .ok (.iaload, 1) := by decide +kernel
theorem dX5_reserveFor_36 : decode cX5_reserveFor 36 = .ok (.iconst 2, 1) := by decide +kernel
theorem dX5_reserveFor_37 : decode cX5_reserveFor 37 = .ok (.idiv, 1) := by decide +kernel
theorem dX5_reserveFor_38 : decode cX5_reserveFor 38 = .ok (.ireturn, 1) := by decide +kernel
theorem dX5_reserveFor_39 : decode cX5_reserveFor 39 = .ok (.iconst 0, 1) := by decide +kernel
theorem dX5_reserveFor_40 : decode cX5_reserveFor 40 = .ok (.sipush 999, 3) := by decide +kernel
theorem dX5_reserveFor_43 : decode cX5_reserveFor 43 = .ok (.aload_n 0, 1) := by decide +kernel
theorem dX5_reserveFor_44 : decode cX5_reserveFor 44 = .ok (.getfield 27, 3) := by decide +kernel
theorem dX5_reserveFor_47 : decode cX5_reserveFor 47 = .ok (.aload_n 3, 1) := by decide +kernel
theorem dX5_reserveFor_48 : decode cX5_reserveFor 48 = .ok (.iconst 2, 1) := by decide +kernel
theorem dX5_reserveFor_49 : decode cX5_reserveFor 49 = .ok (.aload_n 1, 1) := by decide +kernel
theorem dX5_reserveFor_50 : decode cX5_reserveFor 50 = .ok (.iload_n 2, 1) := by decide +kernel
theorem dX5_reserveFor_51 : decode cX5_reserveFor 51 = .ok (.iconst (-1), 1) := by decide +kernel
theorem dX5_reserveFor_52 : decode cX5_reserveFor 52 = .ok (.invokevirtual 50, 3) := by decide +kernel
theorem dX5_reserveFor_55 : decode cX5_reserveFor 55 = .ok (.invokestatic 54, 3) := by decide +kernel
theorem dX5_reserveFor_58 : decode cX5_reserveFor 58 = .ok (.invokestatic 60, 3) := by decide +kernel
theorem dX5_reserveFor_61 : decode cX5_reserveFor 61 = .ok (.ireturn, 1) := by decide +kernel
theorem dX5_warmsBy_0 : decode cX5_warmsBy 0 = .ok (.aload_n 1, 1) := by decide +kernel
theorem dX5_warmsBy_1 : decode cX5_warmsBy 1 = .ok (.ifnull 11, 3) := by decide +kernel
theorem dX5_warmsBy_4 : decode cX5_warmsBy 4 = .ok (.aload_n 1, 1) := by decide +kernel
theorem dX5_warmsBy_5 : decode cX5_warmsBy 5 = .ok (.iconst 3, 1) := by decide +kernel
theorem dX5_warmsBy_6 : decode cX5_warmsBy 6 = .ok (.invokevirtual 40, 3) := by decide +kernel
theorem dX5_warmsBy_9 : decode cX5_warmsBy 9 = .ok (.ifCond .ne 5, 3) := by decide +kernel
theorem dX5_warmsBy_12 : decode cX5_warmsBy 12 = .ok (.iconst 3, 1) := by decide +kernel
theorem dX5_warmsBy_13 : decode cX5_warmsBy 13 = .ok (.ireturn, 1) := by decide +kernel
theorem dX5_warmsBy_14 : decode cX5_warmsBy 14 = .ok (.iconst 0, 1) := by decide +kernel
theorem dX5_warmsBy_15 : decode cX5_warmsBy 15 = .ok (.bipush 10, 2) := by decide +kernel
theorem dX5_warmsBy_17 : decode cX5_warmsBy 17 = .ok (.aload_n 0, 1) := by decide +kernel
theorem dX5_warmsBy_18 : decode cX5_warmsBy 18 = .ok (.getfield 27, 3) := by decide +kernel
theorem dX5_warmsBy_21 : decode cX5_warmsBy 21 = .ok (.aload_n 1, 1) := by decide +kernel
theorem dX5_warmsBy_22 : decode cX5_warmsBy 22 = .ok (.iconst 3, 1) := by decide +kernel
theorem dX5_warmsBy_23 : decode cX5_warmsBy 23 = .ok (.aload_n 2, 1) := by decide +kernel
theorem dX5_warmsBy_24 : decode cX5_warmsBy 24 = .ok (.iload_n 3, 1) := by decide +kernel
theorem dX5_warmsBy_25 : decode cX5_warmsBy 25 = .ok (.iconst (-1), 1) := by decide +kernel
theorem dX5_warmsBy_26 : decode cX5_warmsBy 26 = .ok (.invokevirtual 50, 3) := by decide +kernel
theorem dX5_warmsBy_29 : decode cX5_warmsBy 29 = .ok (.invokestatic 54, 3) := by decide +kernel
theorem dX5_warmsBy_32 : decode cX5_warmsBy 32 = .ok (.invokestatic 60, 3) := by decide +kernel
theorem dX5_warmsBy_35 : decode cX5_warmsBy 35 = .ok (.ireturn, 1) := by decide +kernel
theorem dX5_bidOf_0 : decode cX5_bidOf 0 = .ok (.aload_n 0, 1) := by decide +kernel
theorem dX5_bidOf_1 : decode cX5_bidOf 1 = .ok (.getfield 18, 3) := by decide +kernel
theorem dX5_bidOf_4 : decode cX5_bidOf 4 = .ok (.aload_n 0, 1) := by decide +kernel
theorem dX5_bidOf_5 : decode cX5_bidOf 5 = .ok (.getfield 18, 3) := by decide +kernel
theorem dX5_bidOf_8 : decode cX5_bidOf 8 = .ok (.getfield 31, 3) := by decide +kernel
theorem dX5_bidOf_11 : decode cX5_bidOf 11 = .ok (.invokevirtual 36, 3) := by decide +kernel
theorem dX5_bidOf_14 : decode cX5_bidOf 14 = .ok (.astore 4, 2) := by decide +kernel
theorem dX5_bidOf_16 : decode cX5_bidOf 16 = .ok (.aload 4, 2) := by decide +kernel
theorem dX5_bidOf_18 : decode cX5_bidOf 18 = .ok (.ifnull 12, 3) := by decide +kernel
theorem dX5_bidOf_21 : decode cX5_bidOf 21 = .ok (.aload 4, 2) := by decide +kernel
theorem dX5_bidOf_23 : decode cX5_bidOf 23 = .ok (.iconst 1, 1) := by decide +kernel
theorem dX5_bidOf_24 : decode cX5_bidOf 24 = .ok (.invokevirtual 40, 3) := by decide +kernel
theorem dX5_bidOf_27 : decode cX5_bidOf 27 = .ok (.ifCond .ne 16, 3) := by decide +kernel
theorem dX5_bidOf_30 : decode cX5_bidOf 30 = .ok (.aload_n 1, 1) := by decide +kernel
theorem dX5_bidOf_31 : decode cX5_bidOf 31 = .ok (.getfield 63, 3) := by decide +kernel
theorem dX5_bidOf_34 : decode cX5_bidOf 34 = .ok (.iload_n 2, 1) := by decide +kernel
theorem dX5_bidOf_35 : decode cX5_bidOf 35 = .ok (.iload_n 3, 1) := by decide +kernel
theorem dX5_bidOf_36 : decode cX5_bidOf 36 = .ok (.invokestatic 68, 3) := by decide +kernel
theorem dX5_bidOf_39 : decode cX5_bidOf 39 = .ok (.iaload, 1) := by decide +kernel
theorem dX5_bidOf_40 : decode cX5_bidOf 40 = .ok (.goto 16, 3) := by decide +kernel
theorem dX5_bidOf_43 : decode cX5_bidOf 43 = .ok (.aload_n 0, 1) := by decide +kernel
theorem dX5_bidOf_44 : decode cX5_bidOf 44 = .ok (.getfield 27, 3) := by decide +kernel
theorem dX5_bidOf_47 : decode cX5_bidOf 47 = .ok (.aload 4, 2) := by decide +kernel
theorem dX5_bidOf_49 : decode cX5_bidOf 49 = .ok (.iconst 1, 1) := by decide +kernel
theorem dX5_bidOf_50 : decode cX5_bidOf 50 = .ok (.aload_n 1, 1) := by decide +kernel
theorem dX5_bidOf_51 : decode cX5_bidOf 51 = .ok (.iload_n 3, 1) := by decide +kernel
theorem dX5_bidOf_52 : decode cX5_bidOf 52 = .ok (.iload_n 2, 1) := by decide +kernel
theorem dX5_bidOf_53 : decode cX5_bidOf 53 = .ok (.invokevirtual 50, 3) := by decide +kernel
theorem dX5_bidOf_56 : decode cX5_bidOf 56 = .ok (.istore 5, 2) := by decide +kernel
theorem dX5_bidOf_58 : decode cX5_bidOf 58 = .ok (.iconst 0, 1) := by decide +kernel
theorem dX5_bidOf_59 : decode cX5_bidOf 59 = .ok (.aload_n 1, 1) := by decide +kernel
theorem dX5_bidOf_60 : decode cX5_bidOf 60 = .ok (.getfield 71, 3) := by decide +kernel
theorem dX5_bidOf_63 : decode cX5_bidOf 63 = .ok (.iload_n 2, 1) := by decide +kernel
theorem dX5_bidOf_64 : decode cX5_bidOf 64 = .ok (.iaload, 1) := by decide +kernel
theorem dX5_bidOf_65 : decode cX5_bidOf 65 = .ok (.iload 5, 2) := by decide +kernel
theorem dX5_bidOf_67 : decode cX5_bidOf 67 = .ok (.invokestatic 54, 3) := by decide +kernel
theorem dX5_bidOf_70 : decode cX5_bidOf 70 = .ok (.invokestatic 60, 3) := by decide +kernel
theorem dX5_bidOf_73 : decode cX5_bidOf 73 = .ok (.ireturn, 1) := by decide +kernel
theorem dX5_findWinner_0 : decode cX5_findWinner 0 = .ok (.aload_n 0, 1) := by decide +kernel
theorem dX5_findWinner_1 : decode cX5_findWinner 1 = .ok (.iconst (-1), 1) := by decide +kernel
theorem dX5_findWinner_2 : decode cX5_findWinner 2 = .ok (.putfield 9, 3) := by decide +kernel
theorem dX5_findWinner_5 : decode cX5_findWinner 5 = .ok (.aload_n 0, 1) := by decide +kernel
theorem dX5_findWinner_6 : decode cX5_findWinner 6 = .ok (.iconst (-1), 1) := by decide +kernel
theorem dX5_findWinner_7 : decode cX5_findWinner 7 = .ok (.putfield 15, 3) := by decide +kernel
theorem dX5_findWinner_10 : decode cX5_findWinner 10 = .ok (.aload_n 0, 1) := by decide +kernel
theorem dX5_findWinner_11 : decode cX5_findWinner 11 = .ok (.aload_n 1, 1) := by decide +kernel
theorem dX5_findWinner_12 : decode cX5_findWinner 12 = .ok (.iload_n 2, 1) := by decide +kernel
theorem dX5_findWinner_13 : decode cX5_findWinner 13 = .ok (.invokevirtual 74, 3) := by decide +kernel
theorem dX5_findWinner_16 : decode cX5_findWinner 16 = .ok (.ifCond .ne 4, 3) := by decide +kernel
theorem dX5_findWinner_19 : decode cX5_findWinner 19 = .ok (.return_, 1) := by decide +kernel
theorem dX5_findWinner_20 : decode cX5_findWinner 20 = .ok (.iconst (-1), 1) := by decide +kernel
theorem dX5_findWinner_21 : decode cX5_findWinner 21 = .ok (.istore_n 3, 1) := by decide +kernel
theorem dX5_findWinner_22 : decode cX5_findWinner 22 = .ok (.iconst (-1), 1) := by decide +kernel
theorem dX5_findWinner_23 : decode cX5_findWinner 23 = .ok (.istore 4, 2) := by decide +kernel
theorem dX5_findWinner_25 : decode cX5_findWinner 25 = .ok (.iconst 0, 1) := by decide +kernel
theorem dX5_findWinner_26 : decode cX5_findWinner 26 = .ok (.istore 5, 2) := by decide +kernel
theorem dX5_findWinner_28 : decode cX5_findWinner 28 = .ok (.iload 5, 2) := by decide +kernel
theorem dX5_findWinner_30 : decode cX5_findWinner 30 = .ok (.aload_n 0, 1) := by decide +kernel
theorem dX5_findWinner_31 : decode cX5_findWinner 31 = .ok (.getfield 18, 3) := by decide +kernel
theorem dX5_findWinner_34 : decode cX5_findWinner 34 = .ok (.getfield 78, 3) := by decide +kernel
theorem dX5_findWinner_37 : decode cX5_findWinner 37 = .ok (.if_icmp .ge 51, 3) := by decide +kernel
theorem dX5_findWinner_40 : decode cX5_findWinner 40 = .ok (.aload_n 0, 1) := by decide +kernel
theorem dX5_findWinner_41 : decode cX5_findWinner 41 = .ok (.aload_n 1, 1) := by decide +kernel
theorem dX5_findWinner_42 : decode cX5_findWinner 42 = .ok (.iload 5, 2) := by decide +kernel
theorem dX5_findWinner_44 : decode cX5_findWinner 44 = .ok (.iload_n 2, 1) := by decide +kernel
theorem dX5_findWinner_45 : decode cX5_findWinner 45 = .ok (.invokevirtual 81, 3) := by decide +kernel
theorem dX5_findWinner_48 : decode cX5_findWinner 48 = .ok (.istore 6, 2) := by decide +kernel
theorem dX5_findWinner_50 : decode cX5_findWinner 50 = .ok (.iload 6, 2) := by decide +kernel
theorem dX5_findWinner_52 : decode cX5_findWinner 52 = .ok (.iload_n 3, 1) := by decide +kernel
theorem dX5_findWinner_53 : decode cX5_findWinner 53 = .ok (.if_icmp .le 18, 3) := by decide +kernel
theorem dX5_findWinner_56 : decode cX5_findWinner 56 = .ok (.iload_n 3, 1) := by decide +kernel
theorem dX5_findWinner_57 : decode cX5_findWinner 57 = .ok (.istore 4, 2) := by decide +kernel
theorem dX5_findWinner_59 : decode cX5_findWinner 59 = .ok (.iload 6, 2) := by decide +kernel
theorem dX5_findWinner_61 : decode cX5_findWinner 61 = .ok (.istore_n 3, 1) := by decide +kernel
theorem dX5_findWinner_62 : decode cX5_findWinner 62 = .ok (.aload_n 0, 1) := by decide +kernel
theorem dX5_findWinner_63 : decode cX5_findWinner 63 = .ok (.iload 5, 2) := by decide +kernel
theorem dX5_findWinner_65 : decode cX5_findWinner 65 = .ok (.putfield 9, 3) := by decide +kernel
theorem dX5_findWinner_68 : decode cX5_findWinner 68 = .ok (.goto 14, 3) := by decide +kernel
theorem dX5_findWinner_71 : decode cX5_findWinner 71 = .ok (.iload 6, 2) := by decide +kernel
theorem dX5_findWinner_73 : decode cX5_findWinner 73 = .ok (.iload 4, 2) := by decide +kernel
theorem dX5_findWinner_75 : decode cX5_findWinner 75 = .ok (.if_icmp .le 7, 3) := by decide +kernel
theorem dX5_findWinner_78 : decode cX5_findWinner 78 = .ok (.iload 6, 2) := by decide +kernel
theorem dX5_findWinner_80 : decode cX5_findWinner 80 = .ok (.istore 4, 2) := by decide +kernel
theorem dX5_findWinner_82 : decode cX5_findWinner 82 = .ok (.iinc 5 1, 3) := by decide +kernel
theorem dX5_findWinner_85 : decode cX5_findWinner 85 = .ok (.goto (-57), 3) := by decide +kernel
theorem dX5_findWinner_88 : decode cX5_findWinner 88 = .ok (.aload_n 0, 1) := by decide +kernel
theorem dX5_findWinner_89 : decode cX5_findWinner 89 = .ok (.aload_n 1, 1) := by decide +kernel
theorem dX5_findWinner_90 : decode cX5_findWinner 90 = .ok (.iload_n 2, 1) := by decide +kernel
theorem dX5_findWinner_91 : decode cX5_findWinner 91 = .ok (.invokevirtual 85, 3) := by decide +kernel
theorem dX5_findWinner_94 : decode cX5_findWinner 94 = .ok (.istore 5, 2) := by decide +kernel
theorem dX5_findWinner_96 : decode cX5_findWinner 96 = .ok (.iload_n 3, 1) := by decide +kernel
theorem dX5_findWinner_97 : decode cX5_findWinner 97 = .ok (.iload 5, 2) := by decide +kernel
theorem dX5_findWinner_99 : decode cX5_findWinner 99 = .ok (.if_icmp .ge 9, 3) := by decide +kernel
theorem dX5_findWinner_102 : decode cX5_findWinner 102 = .ok (.aload_n 0, 1) := by decide +kernel
theorem dX5_findWinner_103 : decode cX5_findWinner 103 = .ok (.iconst (-1), 1) := by decide +kernel
theorem dX5_findWinner_104 : decode cX5_findWinner 104 = .ok (.putfield 9, 3) := by decide +kernel
theorem dX5_findWinner_107 : decode cX5_findWinner 107 = .ok (.return_, 1) := by decide +kernel
theorem dX5_findWinner_108 : decode cX5_findWinner 108 = .ok (.aload_n 0, 1) := by decide +kernel
theorem dX5_findWinner_109 : decode cX5_findWinner 109 = .ok (.iload 4, 2) := by decide +kernel
theorem dX5_findWinner_111 : decode cX5_findWinner 111 = .ok (.iload 5, 2) := by decide +kernel
theorem dX5_findWinner_113 : decode cX5_findWinner 113 = .ok (.invokestatic 60, 3) := by decide +kernel
theorem dX5_findWinner_116 : decode cX5_findWinner 116 = .ok (.putfield 15, 3) := by decide +kernel
theorem dX5_findWinner_119 : decode cX5_findWinner 119 = .ok (.return_, 1) := by decide +kernel
theorem dX5_handOver_0 : decode cX5_handOver 0 = .ok (.aload_n 0, 1) := by decide +kernel
theorem dX5_handOver_1 : decode cX5_handOver 1 = .ok (.getfield 9, 3) := by decide +kernel
theorem dX5_handOver_4 : decode cX5_handOver 4 = .ok (.iconst (-1), 1) := by decide +kernel
theorem dX5_handOver_5 : decode cX5_handOver 5 = .ok (.if_icmp .ne 5, 3) := by decide +kernel
theorem dX5_handOver_8 : decode cX5_handOver 8 = .ok (.iconst 0, 1) := by decide +kernel
theorem dX5_handOver_9 : decode cX5_handOver 9 = .ok (.ireturn, 1) := by decide +kernel
theorem dX5_handOver_10 : decode cX5_handOver 10 = .ok (.aload_n 1, 1) := by decide +kernel
theorem dX5_handOver_11 : decode cX5_handOver 11 = .ok (.getfield 71, 3) := by decide +kernel
theorem dX5_handOver_14 : decode cX5_handOver 14 = .ok (.aload_n 0, 1) := by decide +kernel
theorem dX5_handOver_15 : decode cX5_handOver 15 = .ok (.getfield 9, 3) := by decide +kernel
theorem dX5_handOver_18 : decode cX5_handOver 18 = .ok (.dup2, 1) := by decide +kernel
theorem dX5_handOver_19 : decode cX5_handOver 19 = .ok (.iaload, 1) := by decide +kernel
theorem dX5_handOver_20 : decode cX5_handOver 20 = .ok (.aload_n 0, 1) := by decide +kernel
theorem dX5_handOver_21 : decode cX5_handOver 21 = .ok (.getfield 15, 3) := by decide +kernel
theorem dX5_handOver_24 : decode cX5_handOver 24 = .ok (.isub, 1) := by decide +kernel
theorem dX5_handOver_25 : decode cX5_handOver 25 = .ok (.iastore, 1) := by decide +kernel
theorem dX5_handOver_26 : decode cX5_handOver 26 = .ok (.aload_n 1, 1) := by decide +kernel
theorem dX5_handOver_27 : decode cX5_handOver 27 = .ok (.ldc 89, 2) := by decide +kernel
theorem dX5_handOver_29 : decode cX5_handOver 29 = .ok (.aload_n 1, 1) := by decide +kernel
theorem dX5_handOver_30 : decode cX5_handOver 30 = .ok (.getfield 90, 3) := by decide +kernel
theorem dX5_handOver_33 : decode cX5_handOver 33 = .ok (.aload_n 0, 1) := by decide +kernel
theorem dX5_handOver_34 : decode cX5_handOver 34 = .ok (.getfield 15, 3) := by decide +kernel
theorem dX5_handOver_37 : decode cX5_handOver 37 = .ok (.iadd, 1) := by decide +kernel
theorem dX5_handOver_38 : decode cX5_handOver 38 = .ok (.invokestatic 54, 3) := by decide +kernel
theorem dX5_handOver_41 : decode cX5_handOver 41 = .ok (.putfield 90, 3) := by decide +kernel
theorem dX5_handOver_44 : decode cX5_handOver 44 = .ok (.aload_n 1, 1) := by decide +kernel
theorem dX5_handOver_45 : decode cX5_handOver 45 = .ok (.getfield 93, 3) := by decide +kernel
theorem dX5_handOver_48 : decode cX5_handOver 48 = .ok (.iload_n 2, 1) := by decide +kernel
theorem dX5_handOver_49 : decode cX5_handOver 49 = .ok (.iconst 3, 1) := by decide +kernel
theorem dX5_handOver_50 : decode cX5_handOver 50 = .ok (.aload_n 0, 1) := by decide +kernel
theorem dX5_handOver_51 : decode cX5_handOver 51 = .ok (.getfield 9, 3) := by decide +kernel
theorem dX5_handOver_54 : decode cX5_handOver 54 = .ok (.iadd, 1) := by decide +kernel
theorem dX5_handOver_55 : decode cX5_handOver 55 = .ok (.iastore, 1) := by decide +kernel
theorem dX5_handOver_56 : decode cX5_handOver 56 = .ok (.aload_n 1, 1) := by decide +kernel
theorem dX5_handOver_57 : decode cX5_handOver 57 = .ok (.iload_n 2, 1) := by decide +kernel
theorem dX5_handOver_58 : decode cX5_handOver 58 = .ok (.aload_n 0, 1) := by decide +kernel
theorem dX5_handOver_59 : decode cX5_handOver 59 = .ok (.getfield 9, 3) := by decide +kernel
theorem dX5_handOver_62 : decode cX5_handOver 62 = .ok (.aload_n 0, 1) := by decide +kernel
theorem dX5_handOver_63 : decode cX5_handOver 63 = .ok (.getfield 15, 3) := by decide +kernel
theorem dX5_handOver_66 : decode cX5_handOver 66 = .ok (.invokevirtual 96, 3) := by decide +kernel
theorem dX5_handOver_69 : decode cX5_handOver 69 = .ok (.iconst 1, 1) := by decide +kernel
theorem dX5_handOver_70 : decode cX5_handOver 70 = .ok (.ireturn, 1) := by decide +kernel
theorem dX5_canSell_0 : decode cX5_canSell 0 = .ok (.aload_n 0, 1) := by decide +kernel
theorem dX5_canSell_1 : decode cX5_canSell 1 = .ok (.getfield 18, 3) := by decide +kernel
theorem dX5_canSell_4 : decode cX5_canSell 4 = .ok (.iload_n 2, 1) := by decide +kernel
theorem dX5_canSell_5 : decode cX5_canSell 5 = .ok (.invokevirtual 100, 3) := by decide +kernel
theorem dX5_canSell_8 : decode cX5_canSell 8 = .ok (.ifCond .eq 26, 3) := by decide +kernel
theorem dX5_canSell_11 : decode cX5_canSell 11 = .ok (.aload_n 1, 1) := by decide +kernel
theorem dX5_canSell_12 : decode cX5_canSell 12 = .ok (.getfield 93, 3) := by decide +kernel
theorem dX5_canSell_15 : decode cX5_canSell 15 = .ok (.iload_n 2, 1) := by decide +kernel
theorem dX5_canSell_16 : decode cX5_canSell 16 = .ok (.iaload, 1) := by decide +kernel
theorem dX5_canSell_17 : decode cX5_canSell 17 = .ok (.ifCond .ne 17, 3) := by decide +kernel
theorem dX5_canSell_20 : decode cX5_canSell 20 = .ok (.aload_n 0, 1) := by decide +kernel
theorem dX5_canSell_21 : decode cX5_canSell 21 = .ok (.getfield 18, 3) := by decide +kernel
theorem dX5_canSell_24 : decode cX5_canSell 24 = .ok (.getfield 78, 3) := by decide +kernel
theorem dX5_canSell_27 : decode cX5_canSell 27 = .ok (.ifCond .le 7, 3) := by decide +kernel
theorem dX5_canSell_30 : decode cX5_canSell 30 = .ok (.iconst 1, 1) := by decide +kernel
theorem dX5_canSell_31 : decode cX5_canSell 31 = .ok (.goto 4, 3) := by decide +kernel
theorem dX5_canSell_34 : decode cX5_canSell 34 = .ok (.iconst 0, 1) := by decide +kernel
theorem dX5_canSell_35 : decode cX5_canSell 35 = .ok (.ireturn, 1) := by decide +kernel
theorem dX5_canCarry_0 : decode cX5_canCarry 0 = .ok (.aload_n 0, 1) := by decide +kernel
theorem dX5_canCarry_1 : decode cX5_canCarry 1 = .ok (.getfield 18, 3) := by decide +kernel
theorem dX5_canCarry_4 : decode cX5_canCarry 4 = .ok (.iload_n 2, 1) := by decide +kernel
theorem dX5_canCarry_5 : decode cX5_canCarry 5 = .ok (.invokevirtual 100, 3) := by decide +kernel
theorem dX5_canCarry_8 : decode cX5_canCarry 8 = .ok (.ifCond .eq 39, 3) := by decide +kernel
theorem dX5_canCarry_11 : decode cX5_canCarry 11 = .ok (.aload_n 1, 1) := by decide +kernel
theorem dX5_canCarry_12 : decode cX5_canCarry 12 = .ok (.getfield 93, 3) := by decide +kernel
theorem dX5_canCarry_15 : decode cX5_canCarry 15 = .ok (.iload_n 2, 1) := by decide +kernel
theorem dX5_canCarry_16 : decode cX5_canCarry 16 = .ok (.iaload, 1) := by decide +kernel
theorem dX5_canCarry_17 : decode cX5_canCarry 17 = .ok (.ifCond .ne 30, 3) := by decide +kernel
theorem dX5_canCarry_20 : decode cX5_canCarry 20 = .ok (.aload_n 1, 1) := by decide +kernel
theorem dX5_canCarry_21 : decode cX5_canCarry 21 = .ok (.getfield 103, 3) := by decide +kernel
theorem dX5_canCarry_24 : decode cX5_canCarry 24 = .ok (.iload_n 2, 1) := by decide +kernel
theorem dX5_canCarry_25 : decode cX5_canCarry 25 = .ok (.iaload, 1) := by decide +kernel
theorem dX5_canCarry_26 : decode cX5_canCarry 26 = .ok (.aload_n 1, 1) := by decide +kernel
theorem dX5_canCarry_27 : decode cX5_canCarry 27 = .ok (.invokevirtual 106, 3) := by decide +kernel
theorem dX5_canCarry_30 : decode cX5_canCarry 30 = .ok (.if_icmp .gt 17, 3) := by decide +kernel
theorem dX5_canCarry_33 : decode cX5_canCarry 33 = .ok (.aload_n 1, 1) := by decide +kernel
theorem dX5_canCarry_34 : decode cX5_canCarry 34 = .ok (.getfield 103, 3) := by decide +kernel
theorem dX5_canCarry_37 : decode cX5_canCarry 37 = .ok (.iload_n 2, 1) := by decide +kernel
theorem dX5_canCarry_38 : decode cX5_canCarry 38 = .ok (.iaload, 1) := by decide +kernel
theorem dX5_canCarry_39 : decode cX5_canCarry 39 = .ok (.iconst 5, 1) := by decide +kernel
theorem dX5_canCarry_40 : decode cX5_canCarry 40 = .ok (.if_icmp .ge 7, 3) := by decide +kernel
theorem dX5_canCarry_43 : decode cX5_canCarry 43 = .ok (.iconst 1, 1) := by decide +kernel
theorem dX5_canCarry_44 : decode cX5_canCarry 44 = .ok (.goto 4, 3) := by decide +kernel
theorem dX5_canCarry_47 : decode cX5_canCarry 47 = .ok (.iconst 0, 1) := by decide +kernel
theorem dX5_canCarry_48 : decode cX5_canCarry 48 = .ok (.ireturn, 1) := by decide +kernel
theorem dX5_canBurn_0 : decode cX5_canBurn 0 = .ok (.aload_n 0, 1) := by decide +kernel
theorem dX5_canBurn_1 : decode cX5_canBurn 1 = .ok (.getfield 18, 3) := by decide +kernel
theorem dX5_canBurn_4 : decode cX5_canBurn 4 = .ok (.iload_n 2, 1) := by decide +kernel
theorem dX5_canBurn_5 : decode cX5_canBurn 5 = .ok (.invokevirtual 100, 3) := by decide +kernel
theorem dX5_canBurn_8 : decode cX5_canBurn 8 = .ok (.ifCond .eq 17, 3) := by decide +kernel
theorem dX5_canBurn_11 : decode cX5_canBurn 11 = .ok (.aload_n 1, 1) := by decide +kernel
theorem dX5_canBurn_12 : decode cX5_canBurn 12 = .ok (.getfield 93, 3) := by decide +kernel
theorem dX5_canBurn_15 : decode cX5_canBurn 15 = .ok (.iload_n 2, 1) := by decide +kernel
theorem dX5_canBurn_16 : decode cX5_canBurn 16 = .ok (.iaload, 1) := by decide +kernel
theorem dX5_canBurn_17 : decode cX5_canBurn 17 = .ok (.iconst 2, 1) := by decide +kernel
theorem dX5_canBurn_18 : decode cX5_canBurn 18 = .ok (.if_icmp .ge 7, 3) := by decide +kernel
theorem dX5_canBurn_21 : decode cX5_canBurn 21 = .ok (.iconst 1, 1) := by decide +kernel
theorem dX5_canBurn_22 : decode cX5_canBurn 22 = .ok (.goto 4, 3) := by decide +kernel
theorem dX5_canBurn_25 : decode cX5_canBurn 25 = .ok (.iconst 0, 1) := by decide +kernel
theorem dX5_canBurn_26 : decode cX5_canBurn 26 = .ok (.ireturn, 1) := by decide +kernel
theorem dX5_canBuyBack_0 : decode cX5_canBuyBack 0 = .ok (.aload_n 0, 1) := by decide +kernel
theorem dX5_canBuyBack_1 : decode cX5_canBuyBack 1 = .ok (.getfield 18, 3) := by decide +kernel
theorem dX5_canBuyBack_4 : decode cX5_canBuyBack 4 = .ok (.iload_n 2, 1) := by decide +kernel
theorem dX5_canBuyBack_5 : decode cX5_canBuyBack 5 = .ok (.invokevirtual 100, 3) := by decide +kernel
theorem dX5_canBuyBack_8 : decode cX5_canBuyBack 8 = .ok (.ifCond .eq 24, 3) := by decide +kernel
theorem dX5_canBuyBack_11 : decode cX5_canBuyBack 11 = .ok (.aload_n 1, 1) := by decide +kernel
theorem dX5_canBuyBack_12 : decode cX5_canBuyBack 12 = .ok (.getfield 93, 3) := by decide +kernel
theorem dX5_canBuyBack_15 : decode cX5_canBuyBack 15 = .ok (.iload_n 2, 1) := by decide +kernel
theorem dX5_canBuyBack_16 : decode cX5_canBuyBack 16 = .ok (.iaload, 1) := by decide +kernel
theorem dX5_canBuyBack_17 : decode cX5_canBuyBack 17 = .ok (.iconst 3, 1) := by decide +kernel
theorem dX5_canBuyBack_18 : decode cX5_canBuyBack 18 = .ok (.if_icmp .lt 14, 3) := by decide +kernel
theorem dX5_canBuyBack_21 : decode cX5_canBuyBack 21 = .ok (.iload_n 3, 1) := by decide +kernel
theorem dX5_canBuyBack_22 : decode cX5_canBuyBack 22 = .ok (.iconst 0, 1) := by decide +kernel
theorem dX5_canBuyBack_23 : decode cX5_canBuyBack 23 = .ok (.sipush 999, 3) := by decide +kernel
theorem dX5_canBuyBack_26 : decode cX5_canBuyBack 26 = .ok (.invokestatic 110, 3) := by decide +kernel
theorem dX5_canBuyBack_29 : decode cX5_canBuyBack 29 = .ok (.ifCond .ne 5, 3) := by decide +kernel
theorem dX5_canBuyBack_32 : decode cX5_canBuyBack 32 = .ok (.iconst 0, 1) := by decide +kernel
theorem dX5_canBuyBack_33 : decode cX5_canBuyBack 33 = .ok (.ireturn, 1) := by decide +kernel
theorem dX5_canBuyBack_34 : decode cX5_canBuyBack 34 = .ok (.aload_n 1, 1) := by decide +kernel
theorem dX5_canBuyBack_35 : decode cX5_canBuyBack 35 = .ok (.getfield 93, 3) := by decide +kernel
theorem dX5_canBuyBack_38 : decode cX5_canBuyBack 38 = .ok (.iload_n 2, 1) := by decide +kernel
theorem dX5_canBuyBack_39 : decode cX5_canBuyBack 39 = .ok (.iaload, 1) := by decide +kernel
theorem dX5_canBuyBack_40 : decode cX5_canBuyBack 40 = .ok (.iconst 3, 1) := by decide +kernel
theorem dX5_canBuyBack_41 : decode cX5_canBuyBack 41 = .ok (.isub, 1) := by decide +kernel
theorem dX5_canBuyBack_42 : decode cX5_canBuyBack 42 = .ok (.istore 4, 2) := by decide +kernel
theorem dX5_canBuyBack_44 : decode cX5_canBuyBack 44 = .ok (.iload_n 3, 1) := by decide +kernel
theorem dX5_canBuyBack_45 : decode cX5_canBuyBack 45 = .ok (.aload_n 1, 1) := by decide +kernel
theorem dX5_canBuyBack_46 : decode cX5_canBuyBack 46 = .ok (.getfield 90, 3) := by decide +kernel
theorem dX5_canBuyBack_49 : decode cX5_canBuyBack 49 = .ok (.if_icmp .gt 22, 3) := by decide +kernel
theorem dX5_canBuyBack_52 : decode cX5_canBuyBack 52 = .ok (.iload_n 3, 1) := by decide +kernel
theorem dX5_canBuyBack_53 : decode cX5_canBuyBack 53 = .ok (.aload_n 1, 1) := by decide +kernel
theorem dX5_canBuyBack_54 : decode cX5_canBuyBack 54 = .ok (.getfield 63, 3) := by decide +kernel
theorem dX5_canBuyBack_57 : decode cX5_canBuyBack 57 = .ok (.iload 4, 2) := by decide +kernel
theorem dX5_canBuyBack_59 : decode cX5_canBuyBack 59 = .ok (.iload_n 2, 1) := by decide +kernel
theorem dX5_canBuyBack_60 : decode cX5_canBuyBack 60 = .ok (.invokestatic 68, 3) := by decide +kernel
theorem dX5_canBuyBack_63 : decode cX5_canBuyBack 63 = .ok (.iaload, 1) := by decide +kernel
theorem dX5_canBuyBack_64 : decode cX5_canBuyBack 64 = .ok (.if_icmp .lt 7, 3) := by decide +kernel
theorem dX5_canBuyBack_67 : decode cX5_canBuyBack 67 = .ok (.iconst 1, 1) := by decide +kernel
theorem dX5_canBuyBack_68 : decode cX5_canBuyBack 68 = .ok (.goto 4, 3) := by decide +kernel
theorem dX5_canBuyBack_71 : decode cX5_canBuyBack 71 = .ok (.iconst 0, 1) := by decide +kernel
theorem dX5_canBuyBack_72 : decode cX5_canBuyBack 72 = .ok (.ireturn, 1) := by decide +kernel
theorem dX5_buyBack_0 : decode cX5_buyBack 0 = .ok (.aload_n 1, 1) := by decide +kernel
theorem dX5_buyBack_1 : decode cX5_buyBack 1 = .ok (.getfield 93, 3) := by decide +kernel
theorem dX5_buyBack_4 : decode cX5_buyBack 4 = .ok (.iload_n 2, 1) := by decide +kernel
theorem dX5_buyBack_5 : decode cX5_buyBack 5 = .ok (.iaload, 1) := by decide +kernel
theorem dX5_buyBack_6 : decode cX5_buyBack 6 = .ok (.iconst 3, 1) := by decide +kernel
theorem dX5_buyBack_7 : decode cX5_buyBack 7 = .ok (.isub, 1) := by decide +kernel
theorem dX5_buyBack_8 : decode cX5_buyBack 8 = .ok (.istore 4, 2) := by decide +kernel
theorem dX5_buyBack_10 : decode cX5_buyBack 10 = .ok (.aload_n 1, 1) := by decide +kernel
theorem dX5_buyBack_11 : decode cX5_buyBack 11 = .ok (.dup, 1) := by decide +kernel
theorem dX5_buyBack_12 : decode cX5_buyBack 12 = .ok (.getfield 90, 3) := by decide +kernel
theorem dX5_buyBack_15 : decode cX5_buyBack 15 = .ok (.iload_n 3, 1) := by decide +kernel
theorem dX5_buyBack_16 : decode cX5_buyBack 16 = .ok (.isub, 1) := by decide +kernel
theorem dX5_buyBack_17 : decode cX5_buyBack 17 = .ok (.putfield 90, 3) := by decide +kernel
theorem dX5_buyBack_20 : decode cX5_buyBack 20 = .ok (.aload_n 1, 1) := by decide +kernel
theorem dX5_buyBack_21 : decode cX5_buyBack 21 = .ok (.getfield 71, 3) := by decide +kernel
theorem dX5_buyBack_24 : decode cX5_buyBack 24 = .ok (.iload 4, 2) := by decide +kernel
theorem dX5_buyBack_26 : decode cX5_buyBack 26 = .ok (.sipush 9999, 3) := by decide +kernel
theorem dX5_buyBack_29 : decode cX5_buyBack 29 = .ok (.aload_n 1, 1) := by decide +kernel
theorem dX5_buyBack_30 : decode cX5_buyBack 30 = .ok (.getfield 71, 3) := by decide +kernel
theorem dX5_buyBack_33 : decode cX5_buyBack 33 = .ok (.iload 4, 2) := by decide +kernel
theorem dX5_buyBack_35 : decode cX5_buyBack 35 = .ok (.iaload, 1) := by decide +kernel
theorem dX5_buyBack_36 : decode cX5_buyBack 36 = .ok (.iload_n 3, 1) := by decide +kernel
theorem dX5_buyBack_37 : decode cX5_buyBack 37 = .ok (.iadd, 1) := by decide +kernel
theorem dX5_buyBack_38 : decode cX5_buyBack 38 = .ok (.invokestatic 54, 3) := by decide +kernel
theorem dX5_buyBack_41 : decode cX5_buyBack 41 = .ok (.iastore, 1) := by decide +kernel
theorem dX5_buyBack_42 : decode cX5_buyBack 42 = .ok (.aload_n 1, 1) := by decide +kernel
theorem dX5_buyBack_43 : decode cX5_buyBack 43 = .ok (.getfield 93, 3) := by decide +kernel
theorem dX5_buyBack_46 : decode cX5_buyBack 46 = .ok (.iload_n 2, 1) := by decide +kernel
theorem dX5_buyBack_47 : decode cX5_buyBack 47 = .ok (.iconst 1, 1) := by decide +kernel
theorem dX5_buyBack_48 : decode cX5_buyBack 48 = .ok (.iastore, 1) := by decide +kernel
theorem dX5_buyBack_49 : decode cX5_buyBack 49 = .ok (.return_, 1) := by decide +kernel
theorem dX5_passWeek_0 : decode cX5_passWeek 0 = .ok (.aload_n 1, 1) := by decide +kernel
theorem dX5_passWeek_1 : decode cX5_passWeek 1 = .ok (.invokevirtual 106, 3) := by decide +kernel
theorem dX5_passWeek_4 : decode cX5_passWeek 4 = .ok (.istore_n 2, 1) := by decide +kernel
theorem dX5_passWeek_5 : decode cX5_passWeek 5 = .ok (.iconst 0, 1) := by decide +kernel
theorem dX5_passWeek_6 : decode cX5_passWeek 6 = .ok (.istore_n 3, 1) := by decide +kernel
theorem dX5_passWeek_7 : decode cX5_passWeek 7 = .ok (.iconst 0, 1) := by decide +kernel
theorem dX5_passWeek_8 : decode cX5_passWeek 8 = .ok (.istore 4, 2) := by decide +kernel
theorem dX5_passWeek_10 : decode cX5_passWeek 10 = .ok (.iload 4, 2) := by decide +kernel
theorem dX5_passWeek_12 : decode cX5_passWeek 12 = .ok (.aload_n 0, 1) := by decide +kernel
theorem dX5_passWeek_13 : decode cX5_passWeek 13 = .ok (.getfield 18, 3) := by decide +kernel
theorem dX5_passWeek_16 : decode cX5_passWeek 16 = .ok (.getfield 114, 3) := by decide +kernel
theorem dX5_passWeek_19 : decode cX5_passWeek 19 = .ok (.if_icmp .ge 59, 3) := by decide +kernel
theorem dX5_passWeek_22 : decode cX5_passWeek 22 = .ok (.aload_n 1, 1) := by decide +kernel
theorem dX5_passWeek_23 : decode cX5_passWeek 23 = .ok (.iload 4, 2) := by decide +kernel
theorem dX5_passWeek_25 : decode cX5_passWeek 25 = .ok (.iload_n 2, 1) := by decide +kernel
theorem dX5_passWeek_26 : decode cX5_passWeek 26 = .ok (.invokevirtual 117, 3) := by decide +kernel
theorem dX5_passWeek_29 : decode cX5_passWeek 29 = .ok (.ifCond .eq 43, 3) := by decide +kernel
theorem dX5_passWeek_32 : decode cX5_passWeek 32 = .ok (.aload_n 0, 1) := by decide +kernel
theorem dX5_passWeek_33 : decode cX5_passWeek 33 = .ok (.getfield 18, 3) := by decide +kernel
theorem dX5_passWeek_36 : decode cX5_passWeek 36 = .ok (.getfield 78, 3) := by decide +kernel
theorem dX5_passWeek_39 : decode cX5_passWeek 39 = .ok (.ifCond .ne 6, 3) := by decide +kernel
theorem dX5_passWeek_42 : decode cX5_passWeek 42 = .ok (.goto 30, 3) := by decide +kernel
theorem dX5_passWeek_45 : decode cX5_passWeek 45 = .ok (.aload_n 0, 1) := by decide +kernel
theorem dX5_passWeek_46 : decode cX5_passWeek 46 = .ok (.aload_n 1, 1) := by decide +kernel
theorem dX5_passWeek_47 : decode cX5_passWeek 47 = .ok (.iload 4, 2) := by decide +kernel
theorem dX5_passWeek_49 : decode cX5_passWeek 49 = .ok (.invokevirtual 121, 3) := by decide +kernel
theorem dX5_passWeek_52 : decode cX5_passWeek 52 = .ok (.aload_n 0, 1) := by decide +kernel
theorem dX5_passWeek_53 : decode cX5_passWeek 53 = .ok (.aload_n 1, 1) := by decide +kernel
theorem dX5_passWeek_54 : decode cX5_passWeek 54 = .ok (.iload 4, 2) := by decide +kernel
theorem dX5_passWeek_56 : decode cX5_passWeek 56 = .ok (.invokevirtual 125, 3) := by decide +kernel
theorem dX5_passWeek_59 : decode cX5_passWeek 59 = .ok (.aload_n 0, 1) := by decide +kernel
theorem dX5_passWeek_60 : decode cX5_passWeek 60 = .ok (.aload_n 1, 1) := by decide +kernel
theorem dX5_passWeek_61 : decode cX5_passWeek 61 = .ok (.iload 4, 2) := by decide +kernel
theorem dX5_passWeek_63 : decode cX5_passWeek 63 = .ok (.invokevirtual 128, 3) := by decide +kernel
theorem dX5_passWeek_66 : decode cX5_passWeek 66 = .ok (.ifCond .eq 6, 3) := by decide +kernel
theorem dX5_passWeek_69 : decode cX5_passWeek 69 = .ok (.iinc 3 1, 3) := by decide +kernel
theorem dX5_passWeek_72 : decode cX5_passWeek 72 = .ok (.iinc 4 1, 3) := by decide +kernel
theorem dX5_passWeek_75 : decode cX5_passWeek 75 = .ok (.goto (-65), 3) := by decide +kernel
theorem dX5_passWeek_78 : decode cX5_passWeek 78 = .ok (.aload_n 1, 1) := by decide +kernel
theorem dX5_passWeek_79 : decode cX5_passWeek 79 = .ok (.dup, 1) := by decide +kernel
theorem dX5_passWeek_80 : decode cX5_passWeek 80 = .ok (.getfield 131, 3) := by decide +kernel
theorem dX5_passWeek_83 : decode cX5_passWeek 83 = .ok (.iconst 1, 1) := by decide +kernel
theorem dX5_passWeek_84 : decode cX5_passWeek 84 = .ok (.iadd, 1) := by decide +kernel
theorem dX5_passWeek_85 : decode cX5_passWeek 85 = .ok (.putfield 131, 3) := by decide +kernel
theorem dX5_passWeek_88 : decode cX5_passWeek 88 = .ok (.iload_n 3, 1) := by decide +kernel
theorem dX5_passWeek_89 : decode cX5_passWeek 89 = .ok (.ireturn, 1) := by decide +kernel
theorem dX5_warm_0 : decode cX5_warm 0 = .ok (.aload_n 1, 1) := by decide +kernel
theorem dX5_warm_1 : decode cX5_warm 1 = .ok (.invokevirtual 134, 3) := by decide +kernel
theorem dX5_warm_4 : decode cX5_warm 4 = .ok (.bipush 10, 2) := by decide +kernel
theorem dX5_warm_6 : decode cX5_warm 6 = .ok (.irem, 1) := by decide +kernel
theorem dX5_warm_7 : decode cX5_warm 7 = .ok (.istore_n 3, 1) := by decide +kernel
theorem dX5_warm_8 : decode cX5_warm 8 = .ok (.aload_n 0, 1) := by decide +kernel
theorem dX5_warm_9 : decode cX5_warm 9 = .ok (.getfield 18, 3) := by decide +kernel
theorem dX5_warm_12 : decode cX5_warm 12 = .ok (.getfield 78, 3) := by decide +kernel
theorem dX5_warm_15 : decode cX5_warm 15 = .ok (.ifCond .le 63, 3) := by decide +kernel
theorem dX5_warm_18 : decode cX5_warm 18 = .ok (.iload_n 3, 1) := by decide +kernel
theorem dX5_warm_19 : decode cX5_warm 19 = .ok (.aload_n 0, 1) := by decide +kernel
theorem dX5_warm_20 : decode cX5_warm 20 = .ok (.aload_n 0, 1) := by decide +kernel
theorem dX5_warm_21 : decode cX5_warm 21 = .ok (.getfield 18, 3) := by decide +kernel
theorem dX5_warm_24 : decode cX5_warm 24 = .ok (.aload_n 0, 1) := by decide +kernel
theorem dX5_warm_25 : decode cX5_warm 25 = .ok (.getfield 18, 3) := by decide +kernel
theorem dX5_warm_28 : decode cX5_warm 28 = .ok (.getfield 31, 3) := by decide +kernel
theorem dX5_warm_31 : decode cX5_warm 31 = .ok (.invokevirtual 36, 3) := by decide +kernel
theorem dX5_warm_34 : decode cX5_warm 34 = .ok (.aload_n 1, 1) := by decide +kernel
theorem dX5_warm_35 : decode cX5_warm 35 = .ok (.iload_n 2, 1) := by decide +kernel
theorem dX5_warm_36 : decode cX5_warm 36 = .ok (.invokevirtual 137, 3) := by decide +kernel
theorem dX5_warm_39 : decode cX5_warm 39 = .ok (.if_icmp .ge 39, 3) := by decide +kernel
theorem dX5_warm_42 : decode cX5_warm 42 = .ok (.iload_n 3, 1) := by decide +kernel
theorem dX5_warm_43 : decode cX5_warm 43 = .ok (.aload_n 0, 1) := by decide +kernel
theorem dX5_warm_44 : decode cX5_warm 44 = .ok (.getfield 18, 3) := by decide +kernel
theorem dX5_warm_47 : decode cX5_warm 47 = .ok (.getfield 78, 3) := by decide +kernel
theorem dX5_warm_50 : decode cX5_warm 50 = .ok (.irem, 1) := by decide +kernel
theorem dX5_warm_51 : decode cX5_warm 51 = .ok (.iload_n 2, 1) := by decide +kernel
theorem dX5_warm_52 : decode cX5_warm 52 = .ok (.invokestatic 68, 3) := by decide +kernel
theorem dX5_warm_55 : decode cX5_warm 55 = .ok (.istore 4, 2) := by decide +kernel
theorem dX5_warm_57 : decode cX5_warm 57 = .ok (.aload_n 1, 1) := by decide +kernel
theorem dX5_warm_58 : decode cX5_warm 58 = .ok (.getfield 63, 3) := by decide +kernel
theorem dX5_warm_61 : decode cX5_warm 61 = .ok (.iload 4, 2) := by decide +kernel
theorem dX5_warm_63 : decode cX5_warm 63 = .ok (.bipush 99, 2) := by decide +kernel
theorem dX5_warm_65 : decode cX5_warm 65 = .ok (.aload_n 1, 1) := by decide +kernel
theorem dX5_warm_66 : decode cX5_warm 66 = .ok (.getfield 63, 3) := by decide +kernel
theorem dX5_warm_69 : decode cX5_warm 69 = .ok (.iload 4, 2) := by decide +kernel
theorem dX5_warm_71 : decode cX5_warm 71 = .ok (.iaload, 1) := by decide +kernel
theorem dX5_warm_72 : decode cX5_warm 72 = .ok (.iconst 5, 1) := by decide +kernel
theorem dX5_warm_73 : decode cX5_warm 73 = .ok (.iadd, 1) := by decide +kernel
theorem dX5_warm_74 : decode cX5_warm 74 = .ok (.invokestatic 54, 3) := by decide +kernel
theorem dX5_warm_77 : decode cX5_warm 77 = .ok (.iastore, 1) := by decide +kernel
theorem dX5_warm_78 : decode cX5_warm 78 = .ok (.return_, 1) := by decide +kernel
theorem dX5_drawYear_0 : decode cX5_drawYear 0 = .ok (.aload_n 1, 1) := by decide +kernel
theorem dX5_drawYear_1 : decode cX5_drawYear 1 = .ok (.invokevirtual 134, 3) := by decide +kernel
theorem dX5_drawYear_4 : decode cX5_drawYear 4 = .ok (.istore_n 2, 1) := by decide +kernel
theorem dX5_drawYear_5 : decode cX5_drawYear 5 = .ok (.iload_n 2, 1) := by decide +kernel
theorem dX5_drawYear_6 : decode cX5_drawYear 6 = .ok (.bipush 6, 2) := by decide +kernel
theorem dX5_drawYear_8 : decode cX5_drawYear 8 = .ok (.irem, 1) := by decide +kernel
theorem dX5_drawYear_9 : decode cX5_drawYear 9 = .ok (.istore_n 3, 1) := by decide +kernel
theorem dX5_drawYear_10 : decode cX5_drawYear 10 = .ok (.iload_n 3, 1) := by decide +kernel
theorem dX5_drawYear_11 : decode cX5_drawYear 11 = .ok (.iconst 4, 1) := by decide +kernel
theorem dX5_drawYear_12 : decode cX5_drawYear 12 = .ok (.if_icmp .lt 20, 3) := by decide +kernel
theorem dX5_drawYear_15 : decode cX5_drawYear 15 = .ok (.aload_n 1, 1) := by decide +kernel
theorem dX5_drawYear_16 : decode cX5_drawYear 16 = .ok (.getfield 131, 3) := by decide +kernel
theorem dX5_drawYear_19 : decode cX5_drawYear 19 = .ok (.sipush 9999, 3) := by decide +kernel
theorem dX5_drawYear_22 : decode cX5_drawYear 22 = .ok (.if_icmp .ge 9, 3) := by decide +kernel
theorem dX5_drawYear_25 : decode cX5_drawYear 25 = .ok (.aload_n 0, 1) := by decide +kernel
theorem dX5_drawYear_26 : decode cX5_drawYear 26 = .ok (.aload_n 1, 1) := by decide +kernel
theorem dX5_drawYear_27 : decode cX5_drawYear 27 = .ok (.invokevirtual 141, 3) := by decide +kernel
theorem dX5_drawYear_30 : decode cX5_drawYear 30 = .ok (.pop, 1) := by decide +kernel
theorem dX5_drawYear_31 : decode cX5_drawYear 31 = .ok (.return_, 1) := by decide +kernel
theorem dX5_drawYear_32 : decode cX5_drawYear 32 = .ok (.aload_n 0, 1) := by decide +kernel
theorem dX5_drawYear_33 : decode cX5_drawYear 33 = .ok (.getfield 18, 3) := by decide +kernel
theorem dX5_drawYear_36 : decode cX5_drawYear 36 = .ok (.getfield 114, 3) := by decide +kernel
theorem dX5_drawYear_39 : decode cX5_drawYear 39 = .ok (.ifCond .ne 4, 3) := by decide +kernel
theorem dX5_drawYear_42 : decode cX5_drawYear 42 = .ok (.return_, 1) := by decide +kernel
theorem dX5_drawYear_43 : decode cX5_drawYear 43 = .ok (.iload_n 2, 1) := by decide +kernel
theorem dX5_drawYear_44 : decode cX5_drawYear 44 = .ok (.aload_n 0, 1) := by decide +kernel
theorem dX5_drawYear_45 : decode cX5_drawYear 45 = .ok (.getfield 18, 3) := by decide +kernel
theorem dX5_drawYear_48 : decode cX5_drawYear 48 = .ok (.getfield 114, 3) := by decide +kernel
theorem dX5_drawYear_51 : decode cX5_drawYear 51 = .ok (.irem, 1) := by decide +kernel
theorem dX5_drawYear_52 : decode cX5_drawYear 52 = .ok (.istore 4, 2) := by decide +kernel
theorem dX5_drawYear_54 : decode cX5_drawYear 54 = .ok (.iload_n 3, 1) := by decide +kernel
theorem dX5_drawYear_55 : decode cX5_drawYear 55 = .ok (.ifCond .ne 21, 3) := by decide +kernel
theorem dX5_drawYear_58 : decode cX5_drawYear 58 = .ok (.aload_n 0, 1) := by decide +kernel
theorem dX5_drawYear_59 : decode cX5_drawYear 59 = .ok (.aload_n 1, 1) := by decide +kernel
theorem dX5_drawYear_60 : decode cX5_drawYear 60 = .ok (.iload 4, 2) := by decide +kernel
theorem dX5_drawYear_62 : decode cX5_drawYear 62 = .ok (.invokevirtual 125, 3) := by decide +kernel
theorem dX5_drawYear_65 : decode cX5_drawYear 65 = .ok (.aload_n 0, 1) := by decide +kernel
theorem dX5_drawYear_66 : decode cX5_drawYear 66 = .ok (.aload_n 1, 1) := by decide +kernel
theorem dX5_drawYear_67 : decode cX5_drawYear 67 = .ok (.iload 4, 2) := by decide +kernel
theorem dX5_drawYear_69 : decode cX5_drawYear 69 = .ok (.invokevirtual 128, 3) := by decide +kernel
theorem dX5_drawYear_72 : decode cX5_drawYear 72 = .ok (.pop, 1) := by decide +kernel
theorem dX5_drawYear_73 : decode cX5_drawYear 73 = .ok (.goto 102, 3) := by decide +kernel
theorem dX5_drawYear_76 : decode cX5_drawYear 76 = .ok (.iload_n 3, 1) := by decide +kernel
theorem dX5_drawYear_77 : decode cX5_drawYear 77 = .ok (.iconst 1, 1) := by decide +kernel
theorem dX5_drawYear_78 : decode cX5_drawYear 78 = .ok (.if_icmp .ne 27, 3) := by decide +kernel
theorem dX5_drawYear_81 : decode cX5_drawYear 81 = .ok (.aload_n 0, 1) := by decide +kernel
theorem dX5_drawYear_82 : decode cX5_drawYear 82 = .ok (.aload_n 1, 1) := by decide +kernel
theorem dX5_drawYear_83 : decode cX5_drawYear 83 = .ok (.iload 4, 2) := by decide +kernel
theorem dX5_drawYear_85 : decode cX5_drawYear 85 = .ok (.invokevirtual 145, 3) := by decide +kernel
theorem dX5_drawYear_88 : decode cX5_drawYear 88 = .ok (.ifCond .eq 17, 3) := by decide +kernel
theorem dX5_drawYear_91 : decode cX5_drawYear 91 = .ok (.aload_n 1, 1) := by decide +kernel
theorem dX5_drawYear_92 : decode cX5_drawYear 92 = .ok (.getfield 103, 3) := by decide +kernel
theorem dX5_drawYear_95 : decode cX5_drawYear 95 = .ok (.iload 4, 2) := by decide +kernel
theorem dX5_drawYear_97 : decode cX5_drawYear 97 = .ok (.dup2, 1) := by decide +kernel
theorem dX5_drawYear_98 : decode cX5_drawYear 98 = .ok (.iaload, 1) := by decide +kernel
theorem dX5_drawYear_99 : decode cX5_drawYear 99 = .ok (.iconst 1, 1) := by decide +kernel
theorem dX5_drawYear_100 : decode cX5_drawYear 100 = .ok (.iadd, 1) := by decide +kernel
theorem dX5_drawYear_101 : decode cX5_drawYear 101 = .ok (.iastore, 1) := by decide +kernel
theorem dX5_drawYear_102 : decode cX5_drawYear 102 = .ok (.goto 73, 3) := by decide +kernel
theorem dX5_drawYear_105 : decode cX5_drawYear 105 = .ok (.iload_n 3, 1) := by decide +kernel
theorem dX5_drawYear_106 : decode cX5_drawYear 106 = .ok (.iconst 2, 1) := by decide +kernel
theorem dX5_drawYear_107 : decode cX5_drawYear 107 = .ok (.if_icmp .ne 32, 3) := by decide +kernel
theorem dX5_drawYear_110 : decode cX5_drawYear 110 = .ok (.iload_n 2, 1) := by decide +kernel
theorem dX5_drawYear_111 : decode cX5_drawYear 111 = .ok (.bipush 8, 2) := by decide +kernel
theorem dX5_drawYear_113 : decode cX5_drawYear 113 = .ok (.irem, 1) := by decide +kernel
theorem dX5_drawYear_114 : decode cX5_drawYear 114 = .ok (.iconst 2, 1) := by decide +kernel
theorem dX5_drawYear_115 : decode cX5_drawYear 115 = .ok (.if_icmp .ne 24, 3) := by decide +kernel
theorem dX5_drawYear_118 : decode cX5_drawYear 118 = .ok (.aload_n 0, 1) := by decide +kernel
theorem dX5_drawYear_119 : decode cX5_drawYear 119 = .ok (.aload_n 1, 1) := by decide +kernel
theorem dX5_drawYear_120 : decode cX5_drawYear 120 = .ok (.iload 4, 2) := by decide +kernel
theorem dX5_drawYear_122 : decode cX5_drawYear 122 = .ok (.invokevirtual 148, 3) := by decide +kernel
theorem dX5_drawYear_125 : decode cX5_drawYear 125 = .ok (.ifCond .eq 14, 3) := by decide +kernel
theorem dX5_drawYear_128 : decode cX5_drawYear 128 = .ok (.aload_n 1, 1) := by decide +kernel
theorem dX5_drawYear_129 : decode cX5_drawYear 129 = .ok (.getfield 93, 3) := by decide +kernel
theorem dX5_drawYear_132 : decode cX5_drawYear 132 = .ok (.iload 4, 2) := by decide +kernel
theorem dX5_drawYear_134 : decode cX5_drawYear 134 = .ok (.iconst 2, 1) := by decide +kernel
theorem dX5_drawYear_135 : decode cX5_drawYear 135 = .ok (.iastore, 1) := by decide +kernel
theorem dX5_drawYear_136 : decode cX5_drawYear 136 = .ok (.goto 39, 3) := by decide +kernel
theorem dX5_drawYear_139 : decode cX5_drawYear 139 = .ok (.iload_n 3, 1) := by decide +kernel
theorem dX5_drawYear_140 : decode cX5_drawYear 140 = .ok (.iconst 3, 1) := by decide +kernel
theorem dX5_drawYear_141 : decode cX5_drawYear 141 = .ok (.if_icmp .ne 34, 3) := by decide +kernel
theorem dX5_drawYear_144 : decode cX5_drawYear 144 = .ok (.aload_n 0, 1) := by decide +kernel
theorem dX5_drawYear_145 : decode cX5_drawYear 145 = .ok (.aload_n 1, 1) := by decide +kernel
theorem dX5_drawYear_146 : decode cX5_drawYear 146 = .ok (.iload 4, 2) := by decide +kernel
theorem dX5_drawYear_148 : decode cX5_drawYear 148 = .ok (.bipush 20, 2) := by decide +kernel
theorem dX5_drawYear_150 : decode cX5_drawYear 150 = .ok (.iload_n 2, 1) := by decide +kernel
theorem dX5_drawYear_151 : decode cX5_drawYear 151 = .ok (.bipush 30, 2) := by decide +kernel
theorem dX5_drawYear_153 : decode cX5_drawYear 153 = .ok (.irem, 1) := by decide +kernel
theorem dX5_drawYear_154 : decode cX5_drawYear 154 = .ok (.iadd, 1) := by decide +kernel
theorem dX5_drawYear_155 : decode cX5_drawYear 155 = .ok (.invokevirtual 151, 3) := by decide +kernel
theorem dX5_drawYear_158 : decode cX5_drawYear 158 = .ok (.ifCond .eq 17, 3) := by decide +kernel
theorem dX5_drawYear_161 : decode cX5_drawYear 161 = .ok (.aload_n 0, 1) := by decide +kernel
theorem dX5_drawYear_162 : decode cX5_drawYear 162 = .ok (.aload_n 1, 1) := by decide +kernel
theorem dX5_drawYear_163 : decode cX5_drawYear 163 = .ok (.iload 4, 2) := by decide +kernel
theorem dX5_drawYear_165 : decode cX5_drawYear 165 = .ok (.bipush 20, 2) := by decide +kernel
theorem dX5_drawYear_167 : decode cX5_drawYear 167 = .ok (.iload_n 2, 1) := by decide +kernel
theorem dX5_drawYear_168 : decode cX5_drawYear 168 = .ok (.bipush 30, 2) := by decide +kernel
theorem dX5_drawYear_170 : decode cX5_drawYear 170 = .ok (.irem, 1) := by decide +kernel
theorem dX5_drawYear_171 : decode cX5_drawYear 171 = .ok (.iadd, 1) := by decide +kernel
theorem dX5_drawYear_172 : decode cX5_drawYear 172 = .ok (.invokevirtual 155, 3) := by decide +kernel
theorem dX5_drawYear_175 : decode cX5_drawYear 175 = .ok (.return_, 1) := by decide +kernel
theorem dX6_init_0 : decode cX6_init 0 = .ok (.aload_n 0, 1) := by decide +kernel
theorem dX6_init_1 : decode cX6_init 1 = .ok (.invokespecial 1, 3) := by decide +kernel
theorem dX6_init_4 : decode cX6_init 4 = .ok (.aload_n 0, 1) := by decide +kernel
theorem dX6_init_5 : decode cX6_init 5 = .ok (.iload_n 1, 1) := by decide +kernel
theorem dX6_init_6 : decode cX6_init 6 = .ok (.putfield 7, 3) := by decide +kernel
theorem dX6_init_9 : decode cX6_init 9 = .ok (.aload_n 0, 1) := by decide +kernel
theorem dX6_init_10 : decode cX6_init 10 = .ok (.aload_n 2, 1) := by decide +kernel
theorem dX6_init_11 : decode cX6_init 11 = .ok (.putfield 13, 3) := by decide +kernel
theorem dX6_init_14 : decode cX6_init 14 = .ok (.aload_n 0, 1) := by decide +kernel
theorem dX6_init_15 : decode cX6_init 15 = .ok (.aload_n 3, 1) := by decide +kernel
theorem dX6_init_16 : decode cX6_init 16 = .ok (.putfield 17, 3) := by decide +kernel
theorem dX6_init_19 : decode cX6_init 19 = .ok (.aload_n 0, 1) := by decide +kernel
theorem dX6_init_20 : decode cX6_init 20 = .ok (.aload 4, 2) := by decide +kernel
theorem dX6_init_22 : decode cX6_init 22 = .ok (.putfield 20, 3) := by decide +kernel
theorem dX6_init_25 : decode cX6_init 25 = .ok (.aload_n 0, 1) := by decide +kernel
theorem dX6_init_26 : decode cX6_init 26 = .ok (.aload 5, 2) := by decide +kernel
theorem dX6_init_28 : decode cX6_init 28 = .ok (.putfield 23, 3) := by decide +kernel
theorem dX6_init_31 : decode cX6_init 31 = .ok (.return_, 1) := by decide +kernel
theorem dX6_kindOf_0 : decode cX6_kindOf 0 = .ok (.aload_n 0, 1) := by decide +kernel
theorem dX6_kindOf_1 : decode cX6_kindOf 1 = .ok (.getfield 13, 3) := by decide +kernel
theorem dX6_kindOf_4 : decode cX6_kindOf 4 = .ok (.iload_n 1, 1) := by decide +kernel
theorem dX6_kindOf_5 : decode cX6_kindOf 5 = .ok (.iconst 4, 1) := by decide +kernel
theorem dX6_kindOf_6 : decode cX6_kindOf 6 = .ok (.imul, 1) := by decide +kernel
theorem dX6_kindOf_7 : decode cX6_kindOf 7 = .ok (.iaload, 1) := by decide +kernel
theorem dX6_kindOf_8 : decode cX6_kindOf 8 = .ok (.ireturn, 1) := by decide +kernel
theorem dX6_numberOf_0 : decode cX6_numberOf 0 = .ok (.aload_n 0, 1) := by decide +kernel
theorem dX6_numberOf_1 : decode cX6_numberOf 1 = .ok (.getfield 13, 3) := by decide +kernel
theorem dX6_numberOf_4 : decode cX6_numberOf 4 = .ok (.iload_n 1, 1) := by decide +kernel
theorem dX6_numberOf_5 : decode cX6_numberOf 5 = .ok (.iconst 4, 1) := by decide +kernel
theorem dX6_numberOf_6 : decode cX6_numberOf 6 = .ok (.imul, 1) := by decide +kernel
theorem dX6_numberOf_7 : decode cX6_numberOf 7 = .ok (.iconst 1, 1) := by decide +kernel
theorem dX6_numberOf_8 : decode cX6_numberOf 8 = .ok (.iadd, 1) := by decide +kernel
theorem dX6_numberOf_9 : decode cX6_numberOf 9 = .ok (.iload_n 2, 1) := by decide +kernel
theorem dX6_numberOf_10 : decode cX6_numberOf 10 = .ok (.iadd, 1) := by decide +kernel
theorem dX6_numberOf_11 : decode cX6_numberOf 11 = .ok (.iaload, 1) := by decide +kernel
theorem dX6_numberOf_12 : decode cX6_numberOf 12 = .ok (.ireturn, 1) := by decide +kernel
theorem dX6_rules_0 : decode cX6_rules 0 = .ok (.aload_n 0, 1) := by decide +kernel
theorem dX6_rules_1 : decode cX6_rules 1 = .ok (.getfield 23, 3) := by decide +kernel
theorem dX6_rules_4 : decode cX6_rules 4 = .ok (.iload_n 1, 1) := by decide +kernel
theorem dX6_rules_5 : decode cX6_rules 5 = .ok (.iaload, 1) := by decide +kernel
theorem dX6_rules_6 : decode cX6_rules 6 = .ok (.aload_n 0, 1) := by decide +kernel
theorem dX6_rules_7 : decode cX6_rules 7 = .ok (.getfield 20, 3) := by decide +kernel
theorem dX6_rules_10 : decode cX6_rules 10 = .ok (.iload_n 1, 1) := by decide +kernel
theorem dX6_rules_11 : decode cX6_rules 11 = .ok (.iaload, 1) := by decide +kernel
theorem dX6_rules_12 : decode cX6_rules 12 = .ok (.if_icmp .le 7, 3) := by decide +kernel
theorem dX6_rules_15 : decode cX6_rules 15 = .ok (.iconst 1, 1) := by decide +kernel
theorem dX6_rules_16 : decode cX6_rules 16 = .ok (.goto 4, 3) := by decide +kernel
theorem dX6_rules_19 : decode cX6_rules 19 = .ok (.iconst 0, 1) := by decide +kernel
theorem dX6_rules_20 : decode cX6_rules 20 = .ok (.ireturn, 1) := by decide +kernel
theorem dX7_init_0 : decode cX7_init 0 = .ok (.aload_n 0, 1) := by decide +kernel
theorem dX7_init_1 : decode cX7_init 1 = .ok (.invokespecial 3, 3) := by decide +kernel
theorem dX7_init_4 : decode cX7_init 4 = .ok (.aload_n 0, 1) := by decide +kernel
theorem dX7_init_5 : decode cX7_init 5 = .ok (.bipush 6, 2) := by decide +kernel
theorem dX7_init_7 : decode cX7_init 7 = .ok (.newarray .int, 2) := by decide +kernel
theorem dX7_init_9 : decode cX7_init 9 = .ok (.dup, 1) := by decide +kernel
theorem dX7_init_10 : decode cX7_init 10 = .ok (.iconst 0, 1) := by decide +kernel
theorem dX7_init_11 : decode cX7_init 11 = .ok (.iconst 2, 1) := by decide +kernel
theorem dX7_init_12 : decode cX7_init 12 = .ok (.iastore, 1) := by decide +kernel
theorem dX7_init_13 : decode cX7_init 13 = .ok (.dup, 1) := by decide +kernel
theorem dX7_init_14 : decode cX7_init 14 = .ok (.iconst 1, 1) := by decide +kernel
theorem dX7_init_15 : decode cX7_init 15 = .ok (.iconst 5, 1) := by decide +kernel
theorem dX7_init_16 : decode cX7_init 16 = .ok (.iastore, 1) := by decide +kernel
theorem dX7_init_17 : decode cX7_init 17 = .ok (.dup, 1) := by decide +kernel
theorem dX7_init_18 : decode cX7_init 18 = .ok (.iconst 2, 1) := by decide +kernel
theorem dX7_init_19 : decode cX7_init 19 = .ok (.bipush 10, 2) := by decide +kernel
theorem dX7_init_21 : decode cX7_init 21 = .ok (.iastore, 1) := by decide +kernel
theorem dX7_init_22 : decode cX7_init 22 = .ok (.dup, 1) := by decide +kernel
theorem dX7_init_23 : decode cX7_init 23 = .ok (.iconst 3, 1) := by decide +kernel
theorem dX7_init_24 : decode cX7_init 24 = .ok (.bipush 20, 2) := by decide +kernel
theorem dX7_init_26 : decode cX7_init 26 = .ok (.iastore, 1) := by decide +kernel
theorem dX7_init_27 : decode cX7_init 27 = .ok (.dup, 1) := by decide +kernel
theorem dX7_init_28 : decode cX7_init 28 = .ok (.iconst 4, 1) := by decide +kernel
theorem dX7_init_29 : decode cX7_init 29 = .ok (.bipush 40, 2) := by decide +kernel
theorem dX7_init_31 : decode cX7_init 31 = .ok (.iastore, 1) := by decide +kernel
theorem dX7_init_32 : decode cX7_init 32 = .ok (.dup, 1) := by decide +kernel
theorem dX7_init_33 : decode cX7_init 33 = .ok (.iconst 5, 1) := by decide +kernel
theorem dX7_init_34 : decode cX7_init 34 = .ok (.bipush 16, 2) := by decide +kernel
theorem dX7_init_36 : decode cX7_init 36 = .ok (.iastore, 1) := by decide +kernel
theorem dX7_init_37 : decode cX7_init 37 = .ok (.putfield 9, 3) := by decide +kernel
theorem dX7_init_40 : decode cX7_init 40 = .ok (.return_, 1) := by decide +kernel
theorem dX7_joins_0 : decode cX7_joins 0 = .ok (.aload_n 0, 1) := by decide +kernel
theorem dX7_joins_1 : decode cX7_joins 1 = .ok (.getfield 9, 3) := by decide +kernel
theorem dX7_joins_4 : decode cX7_joins 4 = .ok (.iload_n 1, 1) := by decide +kernel
theorem dX7_joins_5 : decode cX7_joins 5 = .ok (.iaload, 1) := by decide +kernel
theorem dX7_joins_6 : decode cX7_joins 6 = .ok (.iload_n 2, 1) := by decide +kernel
theorem dX7_joins_7 : decode cX7_joins 7 = .ok (.ishr, 1) := by decide +kernel
theorem dX7_joins_8 : decode cX7_joins 8 = .ok (.iconst 1, 1) := by decide +kernel
theorem dX7_joins_9 : decode cX7_joins 9 = .ok (.iand, 1) := by decide +kernel
theorem dX7_joins_10 : decode cX7_joins 10 = .ok (.ifCond .eq 7, 3) := by decide +kernel
theorem dX7_joins_13 : decode cX7_joins 13 = .ok (.iconst 1, 1) := by decide +kernel
theorem dX7_joins_14 : decode cX7_joins 14 = .ok (.goto 4, 3) := by decide +kernel
theorem dX7_joins_17 : decode cX7_joins 17 = .ok (.iconst 0, 1) := by decide +kernel
theorem dX7_joins_18 : decode cX7_joins 18 = .ok (.ireturn, 1) := by decide +kernel
theorem dX7_turn_0 : decode cX7_turn 0 = .ok (.aload_n 0, 1) := by decide +kernel
theorem dX7_turn_1 : decode cX7_turn 1 = .ok (.getfield 9, 3) := by decide +kernel
theorem dX7_turn_4 : decode cX7_turn 4 = .ok (.iload_n 1, 1) := by decide +kernel
theorem dX7_turn_5 : decode cX7_turn 5 = .ok (.dup2, 1) := by decide +kernel
theorem dX7_turn_6 : decode cX7_turn 6 = .ok (.iaload, 1) := by decide +kernel
theorem dX7_turn_7 : decode cX7_turn 7 = .ok (.iconst 1, 1) := by decide +kernel
theorem dX7_turn_8 : decode cX7_turn 8 = .ok (.iload_n 2, 1) := by decide +kernel
theorem dX7_turn_9 : decode cX7_turn 9 = .ok (.ishl, 1) := by decide +kernel
theorem dX7_turn_10 : decode cX7_turn 10 = .ok (.ixor, 1) := by decide +kernel
theorem dX7_turn_11 : decode cX7_turn 11 = .ok (.iastore, 1) := by decide +kernel
theorem dX7_turn_12 : decode cX7_turn 12 = .ok (.aload_n 0, 1) := by decide +kernel
theorem dX7_turn_13 : decode cX7_turn 13 = .ok (.getfield 9, 3) := by decide +kernel
theorem dX7_turn_16 : decode cX7_turn 16 = .ok (.iload_n 2, 1) := by decide +kernel
theorem dX7_turn_17 : decode cX7_turn 17 = .ok (.dup2, 1) := by decide +kernel
theorem dX7_turn_18 : decode cX7_turn 18 = .ok (.iaload, 1) := by decide +kernel
theorem dX7_turn_19 : decode cX7_turn 19 = .ok (.iconst 1, 1) := by decide +kernel
theorem dX7_turn_20 : decode cX7_turn 20 = .ok (.iload_n 1, 1) := by decide +kernel
theorem dX7_turn_21 : decode cX7_turn 21 = .ok (.ishl, 1) := by decide +kernel
theorem dX7_turn_22 : decode cX7_turn 22 = .ok (.ixor, 1) := by decide +kernel
theorem dX7_turn_23 : decode cX7_turn 23 = .ok (.iastore, 1) := by decide +kernel
theorem dX7_turn_24 : decode cX7_turn 24 = .ok (.return_, 1) := by decide +kernel
theorem dX7_fewest_0 : decode cX7_fewest 0 = .ok (.iconst 1, 1) := by decide +kernel
theorem dX7_fewest_1 : decode cX7_fewest 1 = .ok (.iload_n 1, 1) := by decide +kernel
theorem dX7_fewest_2 : decode cX7_fewest 2 = .ok (.ishl, 1) := by decide +kernel
theorem dX7_fewest_3 : decode cX7_fewest 3 = .ok (.istore_n 3, 1) := by decide +kernel
theorem dX7_fewest_4 : decode cX7_fewest 4 = .ok (.iconst 0, 1) := by decide +kernel
theorem dX7_fewest_5 : decode cX7_fewest 5 = .ok (.istore 4, 2) := by decide +kernel
theorem dX7_fewest_7 : decode cX7_fewest 7 = .ok (.iload 4, 2) := by decide +kernel
theorem dX7_fewest_9 : decode cX7_fewest 9 = .ok (.bipush 6, 2) := by decide +kernel
theorem dX7_fewest_11 : decode cX7_fewest 11 = .ok (.if_icmp .ge 28, 3) := by decide +kernel
theorem dX7_fewest_14 : decode cX7_fewest 14 = .ok (.iload_n 3, 1) := by decide +kernel
theorem dX7_fewest_15 : decode cX7_fewest 15 = .ok (.iload_n 2, 1) := by decide +kernel
theorem dX7_fewest_16 : decode cX7_fewest 16 = .ok (.ishr, 1) := by decide +kernel
theorem dX7_fewest_17 : decode cX7_fewest 17 = .ok (.iconst 1, 1) := by decide +kernel
theorem dX7_fewest_18 : decode cX7_fewest 18 = .ok (.iand, 1) := by decide +kernel
theorem dX7_fewest_19 : decode cX7_fewest 19 = .ok (.ifCond .eq 6, 3) := by decide +kernel
theorem dX7_fewest_22 : decode cX7_fewest 22 = .ok (.iload 4, 2) := by decide +kernel
theorem dX7_fewest_24 : decode cX7_fewest 24 = .ok (.ireturn, 1) := by decide +kernel
theorem dX7_fewest_25 : decode cX7_fewest 25 = .ok (.iload_n 3, 1) := by decide +kernel
theorem dX7_fewest_26 : decode cX7_fewest 26 = .ok (.aload_n 0, 1) := by decide +kernel
theorem dX7_fewest_27 : decode cX7_fewest 27 = .ok (.iload_n 3, 1) := by decide +kernel
theorem dX7_fewest_28 : decode cX7_fewest 28 = .ok (.invokevirtual 15, 3) := by decide +kernel
theorem dX7_fewest_31 : decode cX7_fewest 31 = .ok (.ior, 1) := by decide +kernel
theorem dX7_fewest_32 : decode cX7_fewest 32 = .ok (.istore_n 3, 1) := by decide +kernel
theorem dX7_fewest_33 : decode cX7_fewest 33 = .ok (.iinc 4 1, 3) := by decide +kernel
theorem dX7_fewest_36 : decode cX7_fewest 36 = .ok (.goto (-29), 3) := by decide +kernel
theorem dX7_fewest_39 : decode cX7_fewest 39 = .ok (.iconst (-1), 1) := by decide +kernel
theorem dX7_fewest_40 : decode cX7_fewest 40 = .ok (.ireturn, 1) := by decide +kernel
theorem dX7_besideAny_0 : decode cX7_besideAny 0 = .ok (.iconst 0, 1) := by decide +kernel
theorem dX7_besideAny_1 : decode cX7_besideAny 1 = .ok (.istore_n 2, 1) := by decide +kernel
theorem dX7_besideAny_2 : decode cX7_besideAny 2 = .ok (.iconst 0, 1) := by decide +kernel
theorem dX7_besideAny_3 : decode cX7_besideAny 3 = .ok (.istore_n 3, 1) := by decide +kernel
theorem dX7_besideAny_4 : decode cX7_besideAny 4 = .ok (.iload_n 3, 1) := by decide +kernel
theorem dX7_besideAny_5 : decode cX7_besideAny 5 = .ok (.bipush 6, 2) := by decide +kernel
theorem dX7_besideAny_7 : decode cX7_besideAny 7 = .ok (.if_icmp .ge 26, 3) := by decide +kernel
theorem dX7_besideAny_10 : decode cX7_besideAny 10 = .ok (.iload_n 1, 1) := by decide +kernel
theorem dX7_besideAny_11 : decode cX7_besideAny 11 = .ok (.iload_n 3, 1) := by decide +kernel
theorem dX7_besideAny_12 : decode cX7_besideAny 12 = .ok (.ishr, 1) := by decide +kernel
theorem dX7_besideAny_13 : decode cX7_besideAny 13 = .ok (.iconst 1, 1) := by decide +kernel
theorem dX7_besideAny_14 : decode cX7_besideAny 14 = .ok (.iand, 1) := by decide +kernel
theorem dX7_besideAny_15 : decode cX7_besideAny 15 = .ok (.ifCond .eq 12, 3) := by decide +kernel
theorem dX7_besideAny_18 : decode cX7_besideAny 18 = .ok (.iload_n 2, 1) := by decide +kernel
theorem dX7_besideAny_19 : decode cX7_besideAny 19 = .ok (.aload_n 0, 1) := by decide +kernel
theorem dX7_besideAny_20 : decode cX7_besideAny 20 = .ok (.getfield 9, 3) := by decide +kernel
theorem dX7_besideAny_23 : decode cX7_besideAny 23 = .ok (.iload_n 3, 1) := by decide +kernel
theorem dX7_besideAny_24 : decode cX7_besideAny 24 = .ok (.iaload, 1) := by decide +kernel
theorem dX7_besideAny_25 : decode cX7_besideAny 25 = .ok (.ior, 1) := by decide +kernel
theorem dX7_besideAny_26 : decode cX7_besideAny 26 = .ok (.istore_n 2, 1) := by decide +kernel
theorem dX7_besideAny_27 : decode cX7_besideAny 27 = .ok (.iinc 3 1, 3) := by decide +kernel
theorem dX7_besideAny_30 : decode cX7_besideAny 30 = .ok (.goto (-26), 3) := by decide +kernel
theorem dX7_besideAny_33 : decode cX7_besideAny 33 = .ok (.iload_n 2, 1) := by decide +kernel
theorem dX7_besideAny_34 : decode cX7_besideAny 34 = .ok (.ireturn, 1) := by decide +kernel
theorem dX7_leastCut_0 : decode cX7_leastCut 0 = .ok (.bipush 36, 2) := by decide +kernel
theorem dX7_leastCut_2 : decode cX7_leastCut 2 = .ok (.istore_n 3, 1) := by decide +kernel
theorem dX7_leastCut_3 : decode cX7_leastCut 3 = .ok (.iconst 0, 1) := by decide +kernel
theorem dX7_leastCut_4 : decode cX7_leastCut 4 = .ok (.istore 4, 2) := by decide +kernel
theorem dX7_leastCut_6 : decode cX7_leastCut 6 = .ok (.iload 4, 2) := by decide +kernel
theorem dX7_leastCut_8 : decode cX7_leastCut 8 = .ok (.bipush 64, 2) := by decide +kernel
theorem dX7_leastCut_10 : decode cX7_leastCut 10 = .ok (.if_icmp .ge 38, 3) := by decide +kernel
theorem dX7_leastCut_13 : decode cX7_leastCut 13 = .ok (.iload 4, 2) := by decide +kernel
theorem dX7_leastCut_15 : decode cX7_leastCut 15 = .ok (.iload_n 1, 1) := by decide +kernel
theorem dX7_leastCut_16 : decode cX7_leastCut 16 = .ok (.ishr, 1) := by decide +kernel
theorem dX7_leastCut_17 : decode cX7_leastCut 17 = .ok (.iconst 1, 1) := by decide +kernel
theorem dX7_leastCut_18 : decode cX7_leastCut 18 = .ok (.iand, 1) := by decide +kernel
theorem dX7_leastCut_19 : decode cX7_leastCut 19 = .ok (.ifCond .eq 23, 3) := by decide +kernel
theorem dX7_leastCut_22 : decode cX7_leastCut 22 = .ok (.iload 4, 2) := by decide +kernel
theorem dX7_leastCut_24 : decode cX7_leastCut 24 = .ok (.iload_n 2, 1) := by decide +kernel
theorem dX7_leastCut_25 : decode cX7_leastCut 25 = .ok (.ishr, 1) := by decide +kernel
theorem dX7_leastCut_26 : decode cX7_leastCut 26 = .ok (.iconst 1, 1) := by decide +kernel
theorem dX7_leastCut_27 : decode cX7_leastCut 27 = .ok (.iand, 1) := by decide +kernel
theorem dX7_leastCut_28 : decode cX7_leastCut 28 = .ok (.ifCond .ne 14, 3) := by decide +kernel
theorem dX7_leastCut_31 : decode cX7_leastCut 31 = .ok (.iload_n 3, 1) := by decide +kernel
theorem dX7_leastCut_32 : decode cX7_leastCut 32 = .ok (.aload_n 0, 1) := by decide +kernel
theorem dX7_leastCut_33 : decode cX7_leastCut 33 = .ok (.iload 4, 2) := by decide +kernel
theorem dX7_leastCut_35 : decode cX7_leastCut 35 = .ok (.invokevirtual 19, 3) := by decide +kernel
theorem dX7_leastCut_38 : decode cX7_leastCut 38 = .ok (.invokestatic 22, 3) := by decide +kernel
theorem dX7_leastCut_41 : decode cX7_leastCut 41 = .ok (.istore_n 3, 1) := by decide +kernel
theorem dX7_leastCut_42 : decode cX7_leastCut 42 = .ok (.iinc 4 1, 3) := by decide +kernel
theorem dX7_leastCut_45 : decode cX7_leastCut 45 = .ok (.goto (-39), 3) := by decide +kernel
theorem dX7_leastCut_48 : decode cX7_leastCut 48 = .ok (.iload_n 3, 1) := by decide +kernel
theorem dX7_leastCut_49 : decode cX7_leastCut 49 = .ok (.ireturn, 1) := by decide +kernel
theorem dX7_stairsOutOf_0 : decode cX7_stairsOutOf 0 = .ok (.iconst 0, 1) := by decide +kernel
theorem dX7_stairsOutOf_1 : decode cX7_stairsOutOf 1 = .ok (.istore_n 2, 1) := by decide +kernel
theorem dX7_stairsOutOf_2 : decode cX7_stairsOutOf 2 = .ok (.iconst 0, 1) := by decide +kernel
theorem dX7_stairsOutOf_3 : decode cX7_stairsOutOf 3 = .ok (.istore_n 3, 1) := by decide +kernel
theorem dX7_stairsOutOf_4 : decode cX7_stairsOutOf 4 = .ok (.iload_n 3, 1) := by decide +kernel
theorem dX7_stairsOutOf_5 : decode cX7_stairsOutOf 5 = .ok (.bipush 6, 2) := by decide +kernel
theorem dX7_stairsOutOf_7 : decode cX7_stairsOutOf 7 = .ok (.if_icmp .ge 33, 3) := by decide +kernel
theorem dX7_stairsOutOf_10 : decode cX7_stairsOutOf 10 = .ok (.iload_n 1, 1) := by decide +kernel
theorem dX7_stairsOutOf_11 : decode cX7_stairsOutOf 11 = .ok (.iload_n 3, 1) := by decide +kernel
theorem dX7_stairsOutOf_12 : decode cX7_stairsOutOf 12 = .ok (.ishr, 1) := by decide +kernel
theorem dX7_stairsOutOf_13 : decode cX7_stairsOutOf 13 = .ok (.iconst 1, 1) := by decide +kernel
theorem dX7_stairsOutOf_14 : decode cX7_stairsOutOf 14 = .ok (.iand, 1) := by decide +kernel
theorem dX7_stairsOutOf_15 : decode cX7_stairsOutOf 15 = .ok (.ifCond .eq 19, 3) := by decide +kernel
theorem dX7_stairsOutOf_18 : decode cX7_stairsOutOf 18 = .ok (.iload_n 2, 1) := by decide +kernel
theorem dX7_stairsOutOf_19 : decode cX7_stairsOutOf 19 = .ok (.aload_n 0, 1) := by decide +kernel
theorem dX7_stairsOutOf_20 : decode cX7_stairsOutOf 20 = .ok (.getfield 9, 3) := by decide +kernel
theorem dX7_stairsOutOf_23 : decode cX7_stairsOutOf 23 = .ok (.iload_n 3, 1) := by decide +kernel
theorem dX7_stairsOutOf_24 : decode cX7_stairsOutOf 24 = .ok (.iaload, 1) := by decide +kernel
theorem dX7_stairsOutOf_25 : decode cX7_stairsOutOf 25 = .ok (.iload_n 1, 1) := by decide +kernel
theorem dX7_stairsOutOf_26 : decode cX7_stairsOutOf 26 = .ok (.iconst (-1), 1) := by decide +kernel
theorem dX7_stairsOutOf_27 : decode cX7_stairsOutOf 27 = .ok (.ixor, 1) := by decide +kernel
theorem dX7_stairsOutOf_28 : decode cX7_stairsOutOf 28 = .ok (.iand, 1) := by decide +kernel
theorem dX7_stairsOutOf_29 : decode cX7_stairsOutOf 29 = .ok (.invokestatic 28, 3) := by decide +kernel
theorem dX7_stairsOutOf_32 : decode cX7_stairsOutOf 32 = .ok (.iadd, 1) := by decide +kernel
theorem dX7_stairsOutOf_33 : decode cX7_stairsOutOf 33 = .ok (.istore_n 2, 1) := by decide +kernel
theorem dX7_stairsOutOf_34 : decode cX7_stairsOutOf 34 = .ok (.iinc 3 1, 3) := by decide +kernel
theorem dX7_stairsOutOf_37 : decode cX7_stairsOutOf 37 = .ok (.goto (-33), 3) := by decide +kernel
theorem dX7_stairsOutOf_40 : decode cX7_stairsOutOf 40 = .ok (.iload_n 2, 1) := by decide +kernel
theorem dX7_stairsOutOf_41 : decode cX7_stairsOutOf 41 = .ok (.ireturn, 1) := by decide +kernel
theorem dX7_countBridges_0 : decode cX7_countBridges 0 = .ok (.iconst 0, 1) := by decide +kernel
theorem dX7_countBridges_1 : decode cX7_countBridges 1 = .ok (.istore_n 1, 1) := by decide +kernel
theorem dX7_countBridges_2 : decode cX7_countBridges 2 = .ok (.iconst 0, 1) := by decide +kernel
theorem dX7_countBridges_3 : decode cX7_countBridges 3 = .ok (.istore_n 2, 1) := by decide +kernel
theorem dX7_countBridges_4 : decode cX7_countBridges 4 = .ok (.iload_n 2, 1) := by decide +kernel
theorem dX7_countBridges_5 : decode cX7_countBridges 5 = .ok (.bipush 6, 2) := by decide +kernel
theorem dX7_countBridges_7 : decode cX7_countBridges 7 = .ok (.if_icmp .ge 47, 3) := by decide +kernel
theorem dX7_countBridges_10 : decode cX7_countBridges 10 = .ok (.iload_n 2, 1) := by decide +kernel
theorem dX7_countBridges_11 : decode cX7_countBridges 11 = .ok (.iconst 1, 1) := by decide +kernel
theorem dX7_countBridges_12 : decode cX7_countBridges 12 = .ok (.iadd, 1) := by decide +kernel
theorem dX7_countBridges_13 : decode cX7_countBridges 13 = .ok (.istore_n 3, 1) := by decide +kernel
theorem dX7_countBridges_14 : decode cX7_countBridges 14 = .ok (.iload_n 3, 1) := by decide +kernel
theorem dX7_countBridges_15 : decode cX7_countBridges 15 = .ok (.bipush 6, 2) := by decide +kernel
theorem dX7_countBridges_17 : decode cX7_countBridges 17 = .ok (.if_icmp .ge 31, 3) := by decide +kernel
theorem dX7_countBridges_20 : decode cX7_countBridges 20 = .ok (.aload_n 0, 1) := by decide +kernel
theorem dX7_countBridges_21 : decode cX7_countBridges 21 = .ok (.iload_n 2, 1) := by decide +kernel
theorem dX7_countBridges_22 : decode cX7_countBridges 22 = .ok (.iload_n 3, 1) := by decide +kernel
theorem dX7_countBridges_23 : decode cX7_countBridges 23 = .ok (.invokevirtual 33, 3) := by decide +kernel
theorem dX7_countBridges_26 : decode cX7_countBridges 26 = .ok (.ifCond .eq 16, 3) := by decide +kernel
theorem dX7_countBridges_29 : decode cX7_countBridges 29 = .ok (.aload_n 0, 1) := by decide +kernel
theorem dX7_countBridges_30 : decode cX7_countBridges 30 = .ok (.iload_n 2, 1) := by decide +kernel
theorem dX7_countBridges_31 : decode cX7_countBridges 31 = .ok (.iload_n 3, 1) := by decide +kernel
theorem dX7_countBridges_32 : decode cX7_countBridges 32 = .ok (.invokevirtual 37, 3) := by decide +kernel
theorem dX7_countBridges_35 : decode cX7_countBridges 35 = .ok (.iconst 1, 1) := by decide +kernel
theorem dX7_countBridges_36 : decode cX7_countBridges 36 = .ok (.if_icmp .ne 6, 3) := by decide +kernel
theorem dX7_countBridges_39 : decode cX7_countBridges 39 = .ok (.iinc 1 1, 3) := by decide +kernel
theorem dX7_countBridges_42 : decode cX7_countBridges 42 = .ok (.iinc 3 1, 3) := by decide +kernel
theorem dX7_countBridges_45 : decode cX7_countBridges 45 = .ok (.goto (-31), 3) := by decide +kernel
theorem dX7_countBridges_48 : decode cX7_countBridges 48 = .ok (.iinc 2 1, 3) := by decide +kernel
theorem dX7_countBridges_51 : decode cX7_countBridges 51 = .ok (.goto (-47), 3) := by decide +kernel
theorem dX7_countBridges_54 : decode cX7_countBridges 54 = .ok (.iload_n 1, 1) := by decide +kernel
theorem dX7_countBridges_55 : decode cX7_countBridges 55 = .ok (.ireturn, 1) := by decide +kernel
theorem dX8_init_0 : decode cX8_init 0 = .ok (.aload_n 0, 1) := by decide +kernel
theorem dX8_init_1 : decode cX8_init 1 = .ok (.invokespecial 3, 3) := by decide +kernel
theorem dX8_init_4 : decode cX8_init 4 = .ok (.aload_n 0, 1) := by decide +kernel
theorem dX8_init_5 : decode cX8_init 5 = .ok (.bipush 30, 2) := by decide +kernel
theorem dX8_init_7 : decode cX8_init 7 = .ok (.anewarray 9, 3) := by decide +kernel
theorem dX8_init_10 : decode cX8_init 10 = .ok (.putfield 11, 3) := by decide +kernel
theorem dX8_init_13 : decode cX8_init 13 = .ok (.iconst 0, 1) := by decide +kernel
theorem dX8_init_14 : decode cX8_init 14 = .ok (.istore_n 1, 1) := by decide +kernel
theorem dX8_init_15 : decode cX8_init 15 = .ok (.iload_n 1, 1) := by decide +kernel
theorem dX8_init_16 : decode cX8_init 16 = .ok (.bipush 30, 2) := by decide +kernel
theorem dX8_init_18 : decode cX8_init 18 = .ok (.if_icmp .ge 22, 3) := by decide +kernel
theorem dX8_init_21 : decode cX8_init 21 = .ok (.aload_n 0, 1) := by decide +kernel
theorem dX8_init_22 : decode cX8_init 22 = .ok (.getfield 11, 3) := by decide +kernel
theorem dX8_init_25 : decode cX8_init 25 = .ok (.iload_n 1, 1) := by decide +kernel
theorem dX8_init_26 : decode cX8_init 26 = .ok (.new 9, 3) := by decide +kernel
theorem dX8_init_29 : decode cX8_init 29 = .ok (.dup, 1) := by decide +kernel
theorem dX8_init_30 : decode cX8_init 30 = .ok (.invokespecial 17, 3) := by decide +kernel
theorem dX8_init_33 : decode cX8_init 33 = .ok (.aastore, 1) := by decide +kernel
theorem dX8_init_34 : decode cX8_init 34 = .ok (.iinc 1 1, 3) := by decide +kernel
theorem dX8_init_37 : decode cX8_init 37 = .ok (.goto (-22), 3) := by decide +kernel
theorem dX8_init_40 : decode cX8_init 40 = .ok (.return_, 1) := by decide +kernel
theorem dX8_push_0 : decode cX8_push 0 = .ok (.aload_n 0, 1) := by decide +kernel
theorem dX8_push_1 : decode cX8_push 1 = .ok (.getfield 11, 3) := by decide +kernel
theorem dX8_push_4 : decode cX8_push 4 = .ok (.aload_n 0, 1) := by decide +kernel
theorem dX8_push_5 : decode cX8_push 5 = .ok (.getfield 18, 3) := by decide +kernel
theorem dX8_push_8 : decode cX8_push 8 = .ok (.aload_n 0, 1) := by decide +kernel
theorem dX8_push_9 : decode cX8_push 9 = .ok (.getfield 22, 3) := by decide +kernel
theorem dX8_push_12 : decode cX8_push 12 = .ok (.iadd, 1) := by decide +kernel
theorem dX8_push_13 : decode cX8_push 13 = .ok (.bipush 30, 2) := by decide +kernel
theorem dX8_push_15 : decode cX8_push 15 = .ok (.irem, 1) := by decide +kernel
theorem dX8_push_16 : decode cX8_push 16 = .ok (.aaload, 1) := by decide +kernel
theorem dX8_push_17 : decode cX8_push 17 = .ok (.aload_n 1, 1) := by decide +kernel
theorem dX8_push_18 : decode cX8_push 18 = .ok (.invokevirtual 25, 3) := by decide +kernel
theorem dX8_push_21 : decode cX8_push 21 = .ok (.aload_n 0, 1) := by decide +kernel
theorem dX8_push_22 : decode cX8_push 22 = .ok (.getfield 22, 3) := by decide +kernel
theorem dX8_push_25 : decode cX8_push 25 = .ok (.bipush 30, 2) := by decide +kernel
theorem dX8_push_27 : decode cX8_push 27 = .ok (.if_icmp .ge 16, 3) := by decide +kernel
theorem dX8_push_30 : decode cX8_push 30 = .ok (.aload_n 0, 1) := by decide +kernel
theorem dX8_push_31 : decode cX8_push 31 = .ok (.dup, 1) := by decide +kernel
theorem dX8_push_32 : decode cX8_push 32 = .ok (.getfield 22, 3) := by decide +kernel
theorem dX8_push_35 : decode cX8_push 35 = .ok (.iconst 1, 1) := by decide +kernel
theorem dX8_push_36 : decode cX8_push 36 = .ok (.iadd, 1) := by decide +kernel
theorem dX8_push_37 : decode cX8_push 37 = .ok (.putfield 22, 3) := by decide +kernel
theorem dX8_push_40 : decode cX8_push 40 = .ok (.goto 16, 3) := by decide +kernel
theorem dX8_push_43 : decode cX8_push 43 = .ok (.aload_n 0, 1) := by decide +kernel
theorem dX8_push_44 : decode cX8_push 44 = .ok (.aload_n 0, 1) := by decide +kernel
theorem dX8_push_45 : decode cX8_push 45 = .ok (.getfield 18, 3) := by decide +kernel
theorem dX8_push_48 : decode cX8_push 48 = .ok (.iconst 1, 1) := by decide +kernel
theorem dX8_push_49 : decode cX8_push 49 = .ok (.iadd, 1) := by decide +kernel
theorem dX8_push_50 : decode cX8_push 50 = .ok (.bipush 30, 2) := by decide +kernel
theorem dX8_push_52 : decode cX8_push 52 = .ok (.irem, 1) := by decide +kernel
theorem dX8_push_53 : decode cX8_push 53 = .ok (.putfield 18, 3) := by decide +kernel
theorem dX8_push_56 : decode cX8_push 56 = .ok (.return_, 1) := by decide +kernel
theorem dX8_pop_0 : decode cX8_pop 0 = .ok (.aload_n 0, 1) := by decide +kernel
theorem dX8_pop_1 : decode cX8_pop 1 = .ok (.getfield 22, 3) := by decide +kernel
theorem dX8_pop_4 : decode cX8_pop 4 = .ok (.ifCond .ne 5, 3) := by decide +kernel
theorem dX8_pop_7 : decode cX8_pop 7 = .ok (.iconst 0, 1) := by decide +kernel
theorem dX8_pop_8 : decode cX8_pop 8 = .ok (.ireturn, 1) := by decide +kernel
theorem dX8_pop_9 : decode cX8_pop 9 = .ok (.aload_n 0, 1) := by decide +kernel
theorem dX8_pop_10 : decode cX8_pop 10 = .ok (.dup, 1) := by decide +kernel
theorem dX8_pop_11 : decode cX8_pop 11 = .ok (.getfield 22, 3) := by decide +kernel
theorem dX8_pop_14 : decode cX8_pop 14 = .ok (.iconst 1, 1) := by decide +kernel
theorem dX8_pop_15 : decode cX8_pop 15 = .ok (.isub, 1) := by decide +kernel
theorem dX8_pop_16 : decode cX8_pop 16 = .ok (.putfield 22, 3) := by decide +kernel
theorem dX8_pop_19 : decode cX8_pop 19 = .ok (.aload_n 1, 1) := by decide +kernel
theorem dX8_pop_20 : decode cX8_pop 20 = .ok (.aload_n 0, 1) := by decide +kernel
theorem dX8_pop_21 : decode cX8_pop 21 = .ok (.getfield 11, 3) := by decide +kernel
theorem dX8_pop_24 : decode cX8_pop 24 = .ok (.aload_n 0, 1) := by decide +kernel
theorem dX8_pop_25 : decode cX8_pop 25 = .ok (.getfield 18, 3) := by decide +kernel
theorem dX8_pop_28 : decode cX8_pop 28 = .ok (.aload_n 0, 1) := by decide +kernel
theorem dX8_pop_29 : decode cX8_pop 29 = .ok (.getfield 22, 3) := by decide +kernel
theorem dX8_pop_32 : decode cX8_pop 32 = .ok (.iadd, 1) := by decide +kernel
theorem dX8_pop_33 : decode cX8_pop 33 = .ok (.bipush 30, 2) := by decide +kernel
theorem dX8_pop_35 : decode cX8_pop 35 = .ok (.irem, 1) := by decide +kernel
theorem dX8_pop_36 : decode cX8_pop 36 = .ok (.aaload, 1) := by decide +kernel
theorem dX8_pop_37 : decode cX8_pop 37 = .ok (.invokevirtual 25, 3) := by decide +kernel
theorem dX8_pop_40 : decode cX8_pop 40 = .ok (.iconst 1, 1) := by decide +kernel
theorem dX8_pop_41 : decode cX8_pop 41 = .ok (.ireturn, 1) := by decide +kernel
theorem dX8_copyFrom_0 : decode cX8_copyFrom 0 = .ok (.aload_n 0, 1) := by decide +kernel
theorem dX8_copyFrom_1 : decode cX8_copyFrom 1 = .ok (.aload_n 1, 1) := by decide +kernel
theorem dX8_copyFrom_2 : decode cX8_copyFrom 2 = .ok (.getfield 18, 3) := by decide +kernel
theorem dX8_copyFrom_5 : decode cX8_copyFrom 5 = .ok (.putfield 18, 3) := by decide +kernel
theorem dX8_copyFrom_8 : decode cX8_copyFrom 8 = .ok (.aload_n 0, 1) := by decide +kernel
theorem dX8_copyFrom_9 : decode cX8_copyFrom 9 = .ok (.aload_n 1, 1) := by decide +kernel
theorem dX8_copyFrom_10 : decode cX8_copyFrom 10 = .ok (.getfield 22, 3) := by decide +kernel
theorem dX8_copyFrom_13 : decode cX8_copyFrom 13 = .ok (.putfield 22, 3) := by decide +kernel
theorem dX8_copyFrom_16 : decode cX8_copyFrom 16 = .ok (.iconst 0, 1) := by decide +kernel
theorem dX8_copyFrom_17 : decode cX8_copyFrom 17 = .ok (.istore_n 2, 1) := by decide +kernel
theorem dX8_copyFrom_18 : decode cX8_copyFrom 18 = .ok (.iload_n 2, 1) := by decide +kernel
theorem dX8_copyFrom_19 : decode cX8_copyFrom 19 = .ok (.aload_n 0, 1) := by decide +kernel
theorem dX8_copyFrom_20 : decode cX8_copyFrom 20 = .ok (.getfield 22, 3) := by decide +kernel
theorem dX8_copyFrom_23 : decode cX8_copyFrom 23 = .ok (.if_icmp .ge 34, 3) := by decide +kernel
theorem dX8_copyFrom_26 : decode cX8_copyFrom 26 = .ok (.aload_n 0, 1) := by decide +kernel
theorem dX8_copyFrom_27 : decode cX8_copyFrom 27 = .ok (.getfield 18, 3) := by decide +kernel
theorem dX8_copyFrom_30 : decode cX8_copyFrom 30 = .ok (.iload_n 2, 1) := by decide +kernel
theorem dX8_copyFrom_31 : decode cX8_copyFrom 31 = .ok (.iadd, 1) := by decide +kernel
theorem dX8_copyFrom_32 : decode cX8_copyFrom 32 = .ok (.bipush 30, 2) := by decide +kernel
theorem dX8_copyFrom_34 : decode cX8_copyFrom 34 = .ok (.irem, 1) := by decide +kernel
theorem dX8_copyFrom_35 : decode cX8_copyFrom 35 = .ok (.istore_n 3, 1) := by decide +kernel
theorem dX8_copyFrom_36 : decode cX8_copyFrom 36 = .ok (.aload_n 0, 1) := by decide +kernel
theorem dX8_copyFrom_37 : decode cX8_copyFrom 37 = .ok (.getfield 11, 3) := by decide +kernel
theorem dX8_copyFrom_40 : decode cX8_copyFrom 40 = .ok (.iload_n 3, 1) := by decide +kernel
theorem dX8_copyFrom_41 : decode cX8_copyFrom 41 = .ok (.aaload, 1) := by decide +kernel
theorem dX8_copyFrom_42 : decode cX8_copyFrom 42 = .ok (.aload_n 1, 1) := by decide +kernel
theorem dX8_copyFrom_43 : decode cX8_copyFrom 43 = .ok (.getfield 11, 3) := by decide +kernel
theorem dX8_copyFrom_46 : decode cX8_copyFrom 46 = .ok (.iload_n 3, 1) := by decide +kernel
theorem dX8_copyFrom_47 : decode cX8_copyFrom 47 = .ok (.aaload, 1) := by decide +kernel
theorem dX8_copyFrom_48 : decode cX8_copyFrom 48 = .ok (.invokevirtual 25, 3) := by decide +kernel
theorem dX8_copyFrom_51 : decode cX8_copyFrom 51 = .ok (.iinc 2 1, 3) := by decide +kernel
theorem dX8_copyFrom_54 : decode cX8_copyFrom 54 = .ok (.goto (-36), 3) := by decide +kernel
theorem dX8_copyFrom_57 : decode cX8_copyFrom 57 = .ok (.return_, 1) := by decide +kernel
theorem dX8_tellFloor_0 : decode cX8_tellFloor 0 = .ok (.iconst 0, 1) := by decide +kernel
theorem dX8_tellFloor_1 : decode cX8_tellFloor 1 = .ok (.istore_n 3, 1) := by decide +kernel
theorem dX8_tellFloor_2 : decode cX8_tellFloor 2 = .ok (.iload_n 3, 1) := by decide +kernel
theorem dX8_tellFloor_3 : decode cX8_tellFloor 3 = .ok (.bipush 30, 2) := by decide +kernel
theorem dX8_tellFloor_5 : decode cX8_tellFloor 5 = .ok (.if_icmp .ge 21, 3) := by decide +kernel
theorem dX8_tellFloor_8 : decode cX8_tellFloor 8 = .ok (.aload_n 0, 1) := by decide +kernel
theorem dX8_tellFloor_9 : decode cX8_tellFloor 9 = .ok (.getfield 11, 3) := by decide +kernel
theorem dX8_tellFloor_12 : decode cX8_tellFloor 12 = .ok (.iload_n 3, 1) := by decide +kernel
theorem dX8_tellFloor_13 : decode cX8_tellFloor 13 = .ok (.aaload, 1) := by decide +kernel
theorem dX8_tellFloor_14 : decode cX8_tellFloor 14 = .ok (.getfield 29, 3) := by decide +kernel
theorem dX8_tellFloor_17 : decode cX8_tellFloor 17 = .ok (.iload_n 1, 1) := by decide +kernel
theorem dX8_tellFloor_18 : decode cX8_tellFloor 18 = .ok (.iload_n 2, 1) := by decide +kernel
theorem dX8_tellFloor_19 : decode cX8_tellFloor 19 = .ok (.iastore, 1) := by decide +kernel
theorem dX8_tellFloor_20 : decode cX8_tellFloor 20 = .ok (.iinc 3 1, 3) := by decide +kernel
theorem dX8_tellFloor_23 : decode cX8_tellFloor 23 = .ok (.goto (-21), 3) := by decide +kernel
theorem dX8_tellFloor_26 : decode cX8_tellFloor 26 = .ok (.return_, 1) := by decide +kernel
theorem dX8_tellPurse_0 : decode cX8_tellPurse 0 = .ok (.iconst 0, 1) := by decide +kernel
theorem dX8_tellPurse_1 : decode cX8_tellPurse 1 = .ok (.istore_n 3, 1) := by decide +kernel
theorem dX8_tellPurse_2 : decode cX8_tellPurse 2 = .ok (.iload_n 3, 1) := by decide +kernel
theorem dX8_tellPurse_3 : decode cX8_tellPurse 3 = .ok (.bipush 30, 2) := by decide +kernel
theorem dX8_tellPurse_5 : decode cX8_tellPurse 5 = .ok (.if_icmp .ge 21, 3) := by decide +kernel
theorem dX8_tellPurse_8 : decode cX8_tellPurse 8 = .ok (.aload_n 0, 1) := by decide +kernel
theorem dX8_tellPurse_9 : decode cX8_tellPurse 9 = .ok (.getfield 11, 3) := by decide +kernel
theorem dX8_tellPurse_12 : decode cX8_tellPurse 12 = .ok (.iload_n 3, 1) := by decide +kernel
theorem dX8_tellPurse_13 : decode cX8_tellPurse 13 = .ok (.aaload, 1) := by decide +kernel
theorem dX8_tellPurse_14 : decode cX8_tellPurse 14 = .ok (.getfield 33, 3) := by decide +kernel
theorem dX8_tellPurse_17 : decode cX8_tellPurse 17 = .ok (.iload_n 1, 1) := by decide +kernel
theorem dX8_tellPurse_18 : decode cX8_tellPurse 18 = .ok (.iload_n 2, 1) := by decide +kernel
theorem dX8_tellPurse_19 : decode cX8_tellPurse 19 = .ok (.iastore, 1) := by decide +kernel
theorem dX8_tellPurse_20 : decode cX8_tellPurse 20 = .ok (.iinc 3 1, 3) := by decide +kernel
theorem dX8_tellPurse_23 : decode cX8_tellPurse 23 = .ok (.goto (-21), 3) := by decide +kernel
theorem dX8_tellPurse_26 : decode cX8_tellPurse 26 = .ok (.return_, 1) := by decide +kernel
theorem dX8_tellWant_0 : decode cX8_tellWant 0 = .ok (.iconst 0, 1) := by decide +kernel
theorem dX8_tellWant_1 : decode cX8_tellWant 1 = .ok (.istore_n 3, 1) := by decide +kernel
theorem dX8_tellWant_2 : decode cX8_tellWant 2 = .ok (.iload_n 3, 1) := by decide +kernel
theorem dX8_tellWant_3 : decode cX8_tellWant 3 = .ok (.bipush 30, 2) := by decide +kernel
theorem dX8_tellWant_5 : decode cX8_tellWant 5 = .ok (.if_icmp .ge 21, 3) := by decide +kernel
theorem dX8_tellWant_8 : decode cX8_tellWant 8 = .ok (.aload_n 0, 1) := by decide +kernel
theorem dX8_tellWant_9 : decode cX8_tellWant 9 = .ok (.getfield 11, 3) := by decide +kernel
theorem dX8_tellWant_12 : decode cX8_tellWant 12 = .ok (.iload_n 3, 1) := by decide +kernel
theorem dX8_tellWant_13 : decode cX8_tellWant 13 = .ok (.aaload, 1) := by decide +kernel
theorem dX8_tellWant_14 : decode cX8_tellWant 14 = .ok (.getfield 36, 3) := by decide +kernel
theorem dX8_tellWant_17 : decode cX8_tellWant 17 = .ok (.iload_n 1, 1) := by decide +kernel
theorem dX8_tellWant_18 : decode cX8_tellWant 18 = .ok (.iload_n 2, 1) := by decide +kernel
theorem dX8_tellWant_19 : decode cX8_tellWant 19 = .ok (.iastore, 1) := by decide +kernel
theorem dX8_tellWant_20 : decode cX8_tellWant 20 = .ok (.iinc 3 1, 3) := by decide +kernel
theorem dX8_tellWant_23 : decode cX8_tellWant 23 = .ok (.goto (-21), 3) := by decide +kernel
theorem dX8_tellWant_26 : decode cX8_tellWant 26 = .ok (.return_, 1) := by decide +kernel
theorem dX9_init_0 : decode cX9_init 0 = .ok (.aload_n 0, 1) := by decide +kernel
theorem dX9_init_1 : decode cX9_init 1 = .ok (.invokespecial 3, 3) := by decide +kernel
theorem dX9_init_4 : decode cX9_init 4 = .ok (.aload_n 0, 1) := by decide +kernel
theorem dX9_init_5 : decode cX9_init 5 = .ok (.sipush 300, 3) := by decide +kernel
theorem dX9_init_8 : decode cX9_init 8 = .ok (.newarray .int, 2) := by decide +kernel
theorem dX9_init_10 : decode cX9_init 10 = .ok (.putfield 9, 3) := by decide +kernel
theorem dX9_init_13 : decode cX9_init 13 = .ok (.aload_n 0, 1) := by decide +kernel
theorem dX9_init_14 : decode cX9_init 14 = .ok (.sipush 301, 3) := by decide +kernel
theorem dX9_init_17 : decode cX9_init 17 = .ok (.newarray .int, 2) := by decide +kernel
theorem dX9_init_19 : decode cX9_init 19 = .ok (.putfield 15, 3) := by decide +kernel
theorem dX9_init_22 : decode cX9_init 22 = .ok (.aload_n 0, 1) := by decide +kernel
theorem dX9_init_23 : decode cX9_init 23 = .ok (.sipush 301, 3) := by decide +kernel
theorem dX9_init_26 : decode cX9_init 26 = .ok (.newarray .int, 2) := by decide +kernel
theorem dX9_init_28 : decode cX9_init 28 = .ok (.putfield 18, 3) := by decide +kernel
theorem dX9_init_31 : decode cX9_init 31 = .ok (.aload_n 0, 1) := by decide +kernel
theorem dX9_init_32 : decode cX9_init 32 = .ok (.sipush 301, 3) := by decide +kernel
theorem dX9_init_35 : decode cX9_init 35 = .ok (.newarray .int, 2) := by decide +kernel
theorem dX9_init_37 : decode cX9_init 37 = .ok (.putfield 21, 3) := by decide +kernel
theorem dX9_init_40 : decode cX9_init 40 = .ok (.return_, 1) := by decide +kernel
theorem dX9_append_0 : decode cX9_append 0 = .ok (.bipush 24, 2) := by decide +kernel
theorem dX9_append_2 : decode cX9_append 2 = .ok (.istore_n 2, 1) := by decide +kernel
theorem dX9_append_3 : decode cX9_append 3 = .ok (.iload_n 2, 1) := by decide +kernel
theorem dX9_append_4 : decode cX9_append 4 = .ok (.ifCond .lt 45, 3) := by decide +kernel
theorem dX9_append_7 : decode cX9_append 7 = .ok (.aload_n 0, 1) := by decide +kernel
theorem dX9_append_8 : decode cX9_append 8 = .ok (.getfield 24, 3) := by decide +kernel
theorem dX9_append_11 : decode cX9_append 11 = .ok (.sipush 300, 3) := by decide +kernel
theorem dX9_append_14 : decode cX9_append 14 = .ok (.if_icmp .ge 35, 3) := by decide +kernel
theorem dX9_append_17 : decode cX9_append 17 = .ok (.aload_n 0, 1) := by decide +kernel
theorem dX9_append_18 : decode cX9_append 18 = .ok (.getfield 9, 3) := by decide +kernel
theorem dX9_append_21 : decode cX9_append 21 = .ok (.aload_n 0, 1) := by decide +kernel
theorem dX9_append_22 : decode cX9_append 22 = .ok (.getfield 24, 3) := by decide +kernel
theorem dX9_append_25 : decode cX9_append 25 = .ok (.iload_n 1, 1) := by decide +kernel
theorem dX9_append_26 : decode cX9_append 26 = .ok (.iload_n 2, 1) := by decide +kernel
theorem dX9_append_27 : decode cX9_append 27 = .ok (.ishr, 1) := by decide +kernel
theorem dX9_append_28 : decode cX9_append 28 = .ok (.sipush 255, 3) := by decide +kernel
theorem dX9_append_31 : decode cX9_append 31 = .ok (.iand, 1) := by decide +kernel
theorem dX9_append_32 : decode cX9_append 32 = .ok (.iastore, 1) := by decide +kernel
theorem dX9_append_33 : decode cX9_append 33 = .ok (.aload_n 0, 1) := by decide +kernel
theorem dX9_append_34 : decode cX9_append 34 = .ok (.dup, 1) := by decide +kernel
theorem dX9_append_35 : decode cX9_append 35 = .ok (.getfield 24, 3) := by decide +kernel
theorem dX9_append_38 : decode cX9_append 38 = .ok (.iconst 1, 1) := by decide +kernel
theorem dX9_append_39 : decode cX9_append 39 = .ok (.iadd, 1) := by decide +kernel
theorem dX9_append_40 : decode cX9_append 40 = .ok (.putfield 24, 3) := by decide +kernel
theorem dX9_append_43 : decode cX9_append 43 = .ok (.iinc 2 (-8), 3) := by decide +kernel
theorem dX9_append_46 : decode cX9_append 46 = .ok (.goto (-43), 3) := by decide +kernel
theorem dX9_append_49 : decode cX9_append 49 = .ok (.return_, 1) := by decide +kernel
theorem dX9_kindAt_0 : decode cX9_kindAt 0 = .ok (.iload_n 1, 1) := by decide +kernel
theorem dX9_kindAt_1 : decode cX9_kindAt 1 = .ok (.ifCond .lt 20, 3) := by decide +kernel
theorem dX9_kindAt_4 : decode cX9_kindAt 4 = .ok (.iload_n 1, 1) := by decide +kernel
theorem dX9_kindAt_5 : decode cX9_kindAt 5 = .ok (.aload_n 0, 1) := by decide +kernel
theorem dX9_kindAt_6 : decode cX9_kindAt 6 = .ok (.getfield 28, 3) := by decide +kernel
theorem dX9_kindAt_9 : decode cX9_kindAt 9 = .ok (.if_icmp .ge 12, 3) := by decide +kernel
theorem dX9_kindAt_12 : decode cX9_kindAt 12 = .ok (.aload_n 0, 1) := by decide +kernel
theorem dX9_kindAt_13 : decode cX9_kindAt 13 = .ok (.getfield 15, 3) := by decide +kernel
theorem dX9_kindAt_16 : decode cX9_kindAt 16 = .ok (.iload_n 1, 1) := by decide +kernel
theorem dX9_kindAt_17 : decode cX9_kindAt 17 = .ok (.iaload, 1) := by decide +kernel
theorem dX9_kindAt_18 : decode cX9_kindAt 18 = .ok (.goto 5, 3) := by decide +kernel
theorem dX9_kindAt_21 : decode cX9_kindAt 21 = .ok (.bipush 44, 2) := by decide +kernel
theorem dX9_kindAt_23 : decode cX9_kindAt 23 = .ok (.ireturn, 1) := by decide +kernel
theorem dX9_placeAt_0 : decode cX9_placeAt 0 = .ok (.iload_n 1, 1) := by decide +kernel
theorem dX9_placeAt_1 : decode cX9_placeAt 1 = .ok (.ifCond .lt 20, 3) := by decide +kernel
theorem dX9_placeAt_4 : decode cX9_placeAt 4 = .ok (.iload_n 1, 1) := by decide +kernel
theorem dX9_placeAt_5 : decode cX9_placeAt 5 = .ok (.aload_n 0, 1) := by decide +kernel
theorem dX9_placeAt_6 : decode cX9_placeAt 6 = .ok (.getfield 28, 3) := by decide +kernel
theorem dX9_placeAt_9 : decode cX9_placeAt 9 = .ok (.if_icmp .ge 12, 3) := by decide +kernel
theorem dX9_placeAt_12 : decode cX9_placeAt 12 = .ok (.aload_n 0, 1) := by decide +kernel
theorem dX9_placeAt_13 : decode cX9_placeAt 13 = .ok (.getfield 18, 3) := by decide +kernel
theorem dX9_placeAt_16 : decode cX9_placeAt 16 = .ok (.iload_n 1, 1) := by decide +kernel
theorem dX9_placeAt_17 : decode cX9_placeAt 17 = .ok (.iaload, 1) := by decide +kernel
theorem dX9_placeAt_18 : decode cX9_placeAt 18 = .ok (.goto 7, 3) := by decide +kernel
theorem dX9_placeAt_21 : decode cX9_placeAt 21 = .ok (.aload_n 0, 1) := by decide +kernel
theorem dX9_placeAt_22 : decode cX9_placeAt 22 = .ok (.getfield 24, 3) := by decide +kernel
theorem dX9_placeAt_25 : decode cX9_placeAt 25 = .ok (.ireturn, 1) := by decide +kernel
theorem dX9_valueAt_0 : decode cX9_valueAt 0 = .ok (.iload_n 1, 1) := by decide +kernel
theorem dX9_valueAt_1 : decode cX9_valueAt 1 = .ok (.ifCond .lt 20, 3) := by decide +kernel
theorem dX9_valueAt_4 : decode cX9_valueAt 4 = .ok (.iload_n 1, 1) := by decide +kernel
theorem dX9_valueAt_5 : decode cX9_valueAt 5 = .ok (.aload_n 0, 1) := by decide +kernel
theorem dX9_valueAt_6 : decode cX9_valueAt 6 = .ok (.getfield 28, 3) := by decide +kernel
theorem dX9_valueAt_9 : decode cX9_valueAt 9 = .ok (.if_icmp .ge 12, 3) := by decide +kernel
theorem dX9_valueAt_12 : decode cX9_valueAt 12 = .ok (.aload_n 0, 1) := by decide +kernel
theorem dX9_valueAt_13 : decode cX9_valueAt 13 = .ok (.getfield 21, 3) := by decide +kernel
theorem dX9_valueAt_16 : decode cX9_valueAt 16 = .ok (.iload_n 1, 1) := by decide +kernel
theorem dX9_valueAt_17 : decode cX9_valueAt 17 = .ok (.iaload, 1) := by decide +kernel
theorem dX9_valueAt_18 : decode cX9_valueAt 18 = .ok (.goto 4, 3) := by decide +kernel
theorem dX9_valueAt_21 : decode cX9_valueAt 21 = .ok (.iconst 0, 1) := by decide +kernel
theorem dX9_valueAt_22 : decode cX9_valueAt 22 = .ok (.ireturn, 1) := by decide +kernel
theorem dX9_split_0 : decode cX9_split 0 = .ok (.aload_n 0, 1) := by decide +kernel
theorem dX9_split_1 : decode cX9_split 1 = .ok (.iconst 0, 1) := by decide +kernel
theorem dX9_split_2 : decode cX9_split 2 = .ok (.putfield 28, 3) := by decide +kernel
theorem dX9_split_5 : decode cX9_split 5 = .ok (.iconst 0, 1) := by decide +kernel
theorem dX9_split_6 : decode cX9_split 6 = .ok (.istore_n 1, 1) := by decide +kernel
theorem dX9_split_7 : decode cX9_split 7 = .ok (.iload_n 1, 1) := by decide +kernel
theorem dX9_split_8 : decode cX9_split 8 = .ok (.aload_n 0, 1) := by decide +kernel
theorem dX9_split_9 : decode cX9_split 9 = .ok (.getfield 24, 3) := by decide +kernel
theorem dX9_split_12 : decode cX9_split 12 = .ok (.if_icmp .ge 175, 3) := by decide +kernel
theorem dX9_split_15 : decode cX9_split 15 = .ok (.aload_n 0, 1) := by decide +kernel
theorem dX9_split_16 : decode cX9_split 16 = .ok (.getfield 9, 3) := by decide +kernel
theorem dX9_split_19 : decode cX9_split 19 = .ok (.iload_n 1, 1) := by decide +kernel
theorem dX9_split_20 : decode cX9_split 20 = .ok (.iaload, 1) := by decide +kernel
theorem dX9_split_21 : decode cX9_split 21 = .ok (.bipush 32, 2) := by decide +kernel
theorem dX9_split_23 : decode cX9_split 23 = .ok (.if_icmp .eq 158, 3) := by decide +kernel
theorem dX9_split_26 : decode cX9_split 26 = .ok (.aload_n 0, 1) := by decide +kernel
theorem dX9_split_27 : decode cX9_split 27 = .ok (.getfield 9, 3) := by decide +kernel
theorem dX9_split_30 : decode cX9_split 30 = .ok (.iload_n 1, 1) := by decide +kernel
theorem dX9_split_31 : decode cX9_split 31 = .ok (.iaload, 1) := by decide +kernel
theorem dX9_split_32 : decode cX9_split 32 = .ok (.bipush 10, 2) := by decide +kernel
theorem dX9_split_34 : decode cX9_split 34 = .ok (.if_icmp .ne 6, 3) := by decide +kernel
theorem dX9_split_37 : decode cX9_split 37 = .ok (.goto 144, 3) := by decide +kernel
theorem dX9_split_40 : decode cX9_split 40 = .ok (.aload_n 0, 1) := by decide +kernel
theorem dX9_split_41 : decode cX9_split 41 = .ok (.iload_n 1, 1) := by decide +kernel
theorem dX9_split_42 : decode cX9_split 42 = .ok (.invokevirtual 31, 3) := by decide +kernel
theorem dX9_split_45 : decode cX9_split 45 = .ok (.istore_n 2, 1) := by decide +kernel
theorem dX9_split_46 : decode cX9_split 46 = .ok (.aload_n 0, 1) := by decide +kernel
theorem dX9_split_47 : decode cX9_split 47 = .ok (.getfield 18, 3) := by decide +kernel
theorem dX9_split_50 : decode cX9_split 50 = .ok (.aload_n 0, 1) := by decide +kernel
theorem dX9_split_51 : decode cX9_split 51 = .ok (.getfield 28, 3) := by decide +kernel
theorem dX9_split_54 : decode cX9_split 54 = .ok (.iload_n 1, 1) := by decide +kernel
theorem dX9_split_55 : decode cX9_split 55 = .ok (.iastore, 1) := by decide +kernel
theorem dX9_split_56 : decode cX9_split 56 = .ok (.aload_n 0, 1) := by decide +kernel
theorem dX9_split_57 : decode cX9_split 57 = .ok (.getfield 21, 3) := by decide +kernel
theorem dX9_split_60 : decode cX9_split 60 = .ok (.aload_n 0, 1) := by decide +kernel
theorem dX9_split_61 : decode cX9_split 61 = .ok (.getfield 28, 3) := by decide +kernel
theorem dX9_split_64 : decode cX9_split 64 = .ok (.iconst 0, 1) := by decide +kernel
theorem dX9_split_65 : decode cX9_split 65 = .ok (.iastore, 1) := by decide +kernel
theorem dX9_split_66 : decode cX9_split 66 = .ok (.aload_n 0, 1) := by decide +kernel
theorem dX9_split_67 : decode cX9_split 67 = .ok (.getfield 9, 3) := by decide +kernel
theorem dX9_split_70 : decode cX9_split 70 = .ok (.iload_n 1, 1) := by decide +kernel
theorem dX9_split_71 : decode cX9_split 71 = .ok (.iaload, 1) := by decide +kernel
theorem dX9_split_72 : decode cX9_split 72 = .ok (.invokestatic 35, 3) := by decide +kernel
theorem dX9_split_75 : decode cX9_split 75 = .ok (.ifCond .eq 23, 3) := by decide +kernel
theorem dX9_split_78 : decode cX9_split 78 = .ok (.aload_n 0, 1) := by decide +kernel
theorem dX9_split_79 : decode cX9_split 79 = .ok (.getfield 15, 3) := by decide +kernel
theorem dX9_split_82 : decode cX9_split 82 = .ok (.aload_n 0, 1) := by decide +kernel
theorem dX9_split_83 : decode cX9_split 83 = .ok (.getfield 28, 3) := by decide +kernel
theorem dX9_split_86 : decode cX9_split 86 = .ok (.aload_n 0, 1) := by decide +kernel
theorem dX9_split_87 : decode cX9_split 87 = .ok (.iload_n 1, 1) := by decide +kernel
theorem dX9_split_88 : decode cX9_split 88 = .ok (.iload_n 2, 1) := by decide +kernel
theorem dX9_split_89 : decode cX9_split 89 = .ok (.iconst 1, 1) := by decide +kernel
theorem dX9_split_90 : decode cX9_split 90 = .ok (.iadd, 1) := by decide +kernel
theorem dX9_split_91 : decode cX9_split 91 = .ok (.invokevirtual 39, 3) := by decide +kernel
theorem dX9_split_94 : decode cX9_split 94 = .ok (.iastore, 1) := by decide +kernel
theorem dX9_split_95 : decode cX9_split 95 = .ok (.goto 74, 3) := by decide +kernel
theorem dX9_split_98 : decode cX9_split 98 = .ok (.aload_n 0, 1) := by decide +kernel
theorem dX9_split_99 : decode cX9_split 99 = .ok (.getfield 9, 3) := by decide +kernel
theorem dX9_split_102 : decode cX9_split 102 = .ok (.iload_n 1, 1) := by decide +kernel
theorem dX9_split_103 : decode cX9_split 103 = .ok (.iaload, 1) := by decide +kernel
theorem dX9_split_104 : decode cX9_split 104 = .ok (.invokestatic 43, 3) := by decide +kernel
theorem dX9_split_107 : decode cX9_split 107 = .ok (.ifCond .eq 34, 3) := by decide +kernel
theorem dX9_split_110 : decode cX9_split 110 = .ok (.aload_n 0, 1) := by decide +kernel
theorem dX9_split_111 : decode cX9_split 111 = .ok (.getfield 15, 3) := by decide +kernel
theorem dX9_split_114 : decode cX9_split 114 = .ok (.aload_n 0, 1) := by decide +kernel
theorem dX9_split_115 : decode cX9_split 115 = .ok (.getfield 28, 3) := by decide +kernel
theorem dX9_split_118 : decode cX9_split 118 = .ok (.bipush 30, 2) := by decide +kernel
theorem dX9_split_120 : decode cX9_split 120 = .ok (.iastore, 1) := by decide +kernel
theorem dX9_split_121 : decode cX9_split 121 = .ok (.aload_n 0, 1) := by decide +kernel
theorem dX9_split_122 : decode cX9_split 122 = .ok (.getfield 21, 3) := by decide +kernel
theorem dX9_split_125 : decode cX9_split 125 = .ok (.aload_n 0, 1) := by decide +kernel
theorem dX9_split_126 : decode cX9_split 126 = .ok (.getfield 28, 3) := by decide +kernel
theorem dX9_split_129 : decode cX9_split 129 = .ok (.aload_n 0, 1) := by decide +kernel
theorem dX9_split_130 : decode cX9_split 130 = .ok (.iload_n 1, 1) := by decide +kernel
theorem dX9_split_131 : decode cX9_split 131 = .ok (.iload_n 2, 1) := by decide +kernel
theorem dX9_split_132 : decode cX9_split 132 = .ok (.iconst 1, 1) := by decide +kernel
theorem dX9_split_133 : decode cX9_split 133 = .ok (.iadd, 1) := by decide +kernel
theorem dX9_split_134 : decode cX9_split 134 = .ok (.invokevirtual 46, 3) := by decide +kernel
theorem dX9_split_137 : decode cX9_split 137 = .ok (.iastore, 1) := by decide +kernel
theorem dX9_split_138 : decode cX9_split 138 = .ok (.goto 31, 3) := by decide +kernel
theorem dX9_split_141 : decode cX9_split 141 = .ok (.aload_n 0, 1) := by decide +kernel
theorem dX9_split_142 : decode cX9_split 142 = .ok (.getfield 15, 3) := by decide +kernel
theorem dX9_split_145 : decode cX9_split 145 = .ok (.aload_n 0, 1) := by decide +kernel
theorem dX9_split_146 : decode cX9_split 146 = .ok (.getfield 28, 3) := by decide +kernel
theorem dX9_split_149 : decode cX9_split 149 = .ok (.aload_n 0, 1) := by decide +kernel
theorem dX9_split_150 : decode cX9_split 150 = .ok (.getfield 9, 3) := by decide +kernel
theorem dX9_split_153 : decode cX9_split 153 = .ok (.iload_n 1, 1) := by decide +kernel
theorem dX9_split_154 : decode cX9_split 154 = .ok (.iaload, 1) := by decide +kernel
theorem dX9_split_155 : decode cX9_split 155 = .ok (.iload_n 2, 1) := by decide +kernel
theorem dX9_split_156 : decode cX9_split 156 = .ok (.iload_n 1, 1) := by decide +kernel
theorem dX9_split_157 : decode cX9_split 157 = .ok (.if_icmp .le 7, 3) := by decide +kernel
theorem dX9_split_160 : decode cX9_split 160 = .ok (.iconst 1, 1) := by decide +kernel
theorem dX9_split_161 : decode cX9_split 161 = .ok (.goto 4, 3) := by decide +kernel
theorem dX9_split_164 : decode cX9_split 164 = .ok (.iconst 0, 1) := by decide +kernel
theorem dX9_split_165 : decode cX9_split 165 = .ok (.invokestatic 49, 3) := by decide +kernel
theorem dX9_split_168 : decode cX9_split 168 = .ok (.iastore, 1) := by decide +kernel
theorem dX9_split_169 : decode cX9_split 169 = .ok (.aload_n 0, 1) := by decide +kernel
theorem dX9_split_170 : decode cX9_split 170 = .ok (.dup, 1) := by decide +kernel
theorem dX9_split_171 : decode cX9_split 171 = .ok (.getfield 28, 3) := by decide +kernel
theorem dX9_split_174 : decode cX9_split 174 = .ok (.iconst 1, 1) := by decide +kernel
theorem dX9_split_175 : decode cX9_split 175 = .ok (.iadd, 1) := by decide +kernel
theorem dX9_split_176 : decode cX9_split 176 = .ok (.putfield 28, 3) := by decide +kernel
theorem dX9_split_179 : decode cX9_split 179 = .ok (.iload_n 2, 1) := by decide +kernel
theorem dX9_split_180 : decode cX9_split 180 = .ok (.istore_n 1, 1) := by decide +kernel
theorem dX9_split_181 : decode cX9_split 181 = .ok (.iinc 1 1, 3) := by decide +kernel
theorem dX9_split_184 : decode cX9_split 184 = .ok (.goto (-177), 3) := by decide +kernel
theorem dX9_split_187 : decode cX9_split 187 = .ok (.return_, 1) := by decide +kernel
theorem dX9_lastOf_0 : decode cX9_lastOf 0 = .ok (.iload_n 1, 1) := by decide +kernel
theorem dX9_lastOf_1 : decode cX9_lastOf 1 = .ok (.istore_n 2, 1) := by decide +kernel
theorem dX9_lastOf_2 : decode cX9_lastOf 2 = .ok (.aload_n 0, 1) := by decide +kernel
theorem dX9_lastOf_3 : decode cX9_lastOf 3 = .ok (.getfield 9, 3) := by decide +kernel
theorem dX9_lastOf_6 : decode cX9_lastOf 6 = .ok (.iload_n 1, 1) := by decide +kernel
theorem dX9_lastOf_7 : decode cX9_lastOf 7 = .ok (.iaload, 1) := by decide +kernel
theorem dX9_lastOf_8 : decode cX9_lastOf 8 = .ok (.invokestatic 35, 3) := by decide +kernel
theorem dX9_lastOf_11 : decode cX9_lastOf 11 = .ok (.ifCond .eq 33, 3) := by decide +kernel
theorem dX9_lastOf_14 : decode cX9_lastOf 14 = .ok (.iload_n 2, 1) := by decide +kernel
theorem dX9_lastOf_15 : decode cX9_lastOf 15 = .ok (.iconst 1, 1) := by decide +kernel
theorem dX9_lastOf_16 : decode cX9_lastOf 16 = .ok (.iadd, 1) := by decide +kernel
theorem dX9_lastOf_17 : decode cX9_lastOf 17 = .ok (.aload_n 0, 1) := by decide +kernel
theorem dX9_lastOf_18 : decode cX9_lastOf 18 = .ok (.getfield 24, 3) := by decide +kernel
theorem dX9_lastOf_21 : decode cX9_lastOf 21 = .ok (.if_icmp .ge 113, 3) := by decide +kernel
theorem dX9_lastOf_24 : decode cX9_lastOf 24 = .ok (.aload_n 0, 1) := by decide +kernel
theorem dX9_lastOf_25 : decode cX9_lastOf 25 = .ok (.getfield 9, 3) := by decide +kernel
theorem dX9_lastOf_28 : decode cX9_lastOf 28 = .ok (.iload_n 2, 1) := by decide +kernel
theorem dX9_lastOf_29 : decode cX9_lastOf 29 = .ok (.iconst 1, 1) := by decide +kernel
theorem dX9_lastOf_30 : decode cX9_lastOf 30 = .ok (.iadd, 1) := by decide +kernel
theorem dX9_lastOf_31 : decode cX9_lastOf 31 = .ok (.iaload, 1) := by decide +kernel
theorem dX9_lastOf_32 : decode cX9_lastOf 32 = .ok (.invokestatic 35, 3) := by decide +kernel
theorem dX9_lastOf_35 : decode cX9_lastOf 35 = .ok (.ifCond .eq 99, 3) := by decide +kernel
theorem dX9_lastOf_38 : decode cX9_lastOf 38 = .ok (.iinc 2 1, 3) := by decide +kernel
theorem dX9_lastOf_41 : decode cX9_lastOf 41 = .ok (.goto (-27), 3) := by decide +kernel
theorem dX9_lastOf_44 : decode cX9_lastOf 44 = .ok (.aload_n 0, 1) := by decide +kernel
theorem dX9_lastOf_45 : decode cX9_lastOf 45 = .ok (.getfield 9, 3) := by decide +kernel
theorem dX9_lastOf_48 : decode cX9_lastOf 48 = .ok (.iload_n 1, 1) := by decide +kernel
theorem dX9_lastOf_49 : decode cX9_lastOf 49 = .ok (.iaload, 1) := by decide +kernel
theorem dX9_lastOf_50 : decode cX9_lastOf 50 = .ok (.invokestatic 43, 3) := by decide +kernel
theorem dX9_lastOf_53 : decode cX9_lastOf 53 = .ok (.ifCond .eq 33, 3) := by decide +kernel
theorem dX9_lastOf_56 : decode cX9_lastOf 56 = .ok (.iload_n 2, 1) := by decide +kernel
theorem dX9_lastOf_57 : decode cX9_lastOf 57 = .ok (.iconst 1, 1) := by decide +kernel
theorem dX9_lastOf_58 : decode cX9_lastOf 58 = .ok (.iadd, 1) := by decide +kernel
theorem dX9_lastOf_59 : decode cX9_lastOf 59 = .ok (.aload_n 0, 1) := by decide +kernel
theorem dX9_lastOf_60 : decode cX9_lastOf 60 = .ok (.getfield 24, 3) := by decide +kernel
theorem dX9_lastOf_63 : decode cX9_lastOf 63 = .ok (.if_icmp .ge 71, 3) := by decide +kernel
theorem dX9_lastOf_66 : decode cX9_lastOf 66 = .ok (.aload_n 0, 1) := by decide +kernel
theorem dX9_lastOf_67 : decode cX9_lastOf 67 = .ok (.getfield 9, 3) := by decide +kernel
theorem dX9_lastOf_70 : decode cX9_lastOf 70 = .ok (.iload_n 2, 1) := by decide +kernel
theorem dX9_lastOf_71 : decode cX9_lastOf 71 = .ok (.iconst 1, 1) := by decide +kernel
theorem dX9_lastOf_72 : decode cX9_lastOf 72 = .ok (.iadd, 1) := by decide +kernel
theorem dX9_lastOf_73 : decode cX9_lastOf 73 = .ok (.iaload, 1) := by decide +kernel
theorem dX9_lastOf_74 : decode cX9_lastOf 74 = .ok (.invokestatic 43, 3) := by decide +kernel
theorem dX9_lastOf_77 : decode cX9_lastOf 77 = .ok (.ifCond .eq 57, 3) := by decide +kernel
theorem dX9_lastOf_80 : decode cX9_lastOf 80 = .ok (.iinc 2 1, 3) := by decide +kernel
theorem dX9_lastOf_83 : decode cX9_lastOf 83 = .ok (.goto (-27), 3) := by decide +kernel
theorem dX9_lastOf_86 : decode cX9_lastOf 86 = .ok (.aload_n 0, 1) := by decide +kernel
theorem dX9_lastOf_87 : decode cX9_lastOf 87 = .ok (.getfield 9, 3) := by decide +kernel
theorem dX9_lastOf_90 : decode cX9_lastOf 90 = .ok (.iload_n 1, 1) := by decide +kernel
theorem dX9_lastOf_91 : decode cX9_lastOf 91 = .ok (.iaload, 1) := by decide +kernel
theorem dX9_lastOf_92 : decode cX9_lastOf 92 = .ok (.bipush 60, 2) := by decide +kernel
theorem dX9_lastOf_94 : decode cX9_lastOf 94 = .ok (.if_icmp .eq 14, 3) := by decide +kernel
theorem dX9_lastOf_97 : decode cX9_lastOf 97 = .ok (.aload_n 0, 1) := by decide +kernel
theorem dX9_lastOf_98 : decode cX9_lastOf 98 = .ok (.getfield 9, 3) := by decide +kernel
theorem dX9_lastOf_101 : decode cX9_lastOf 101 = .ok (.iload_n 1, 1) := by decide +kernel
theorem dX9_lastOf_102 : decode cX9_lastOf 102 = .ok (.iaload, 1) := by decide +kernel
theorem dX9_lastOf_103 : decode cX9_lastOf 103 = .ok (.bipush 62, 2) := by decide +kernel
theorem dX9_lastOf_105 : decode cX9_lastOf 105 = .ok (.if_icmp .ne 29, 3) := by decide +kernel
theorem dX9_lastOf_108 : decode cX9_lastOf 108 = .ok (.iload_n 1, 1) := by decide +kernel
theorem dX9_lastOf_109 : decode cX9_lastOf 109 = .ok (.iconst 1, 1) := by decide +kernel
theorem dX9_lastOf_110 : decode cX9_lastOf 110 = .ok (.iadd, 1) := by decide +kernel
theorem dX9_lastOf_111 : decode cX9_lastOf 111 = .ok (.aload_n 0, 1) := by decide +kernel
theorem dX9_lastOf_112 : decode cX9_lastOf 112 = .ok (.getfield 24, 3) := by decide +kernel
theorem dX9_lastOf_115 : decode cX9_lastOf 115 = .ok (.if_icmp .ge 19, 3) := by decide +kernel
theorem dX9_lastOf_118 : decode cX9_lastOf 118 = .ok (.aload_n 0, 1) := by decide +kernel
theorem dX9_lastOf_119 : decode cX9_lastOf 119 = .ok (.getfield 9, 3) := by decide +kernel
theorem dX9_lastOf_122 : decode cX9_lastOf 122 = .ok (.iload_n 1, 1) := by decide +kernel
theorem dX9_lastOf_123 : decode cX9_lastOf 123 = .ok (.iconst 1, 1) := by decide +kernel
theorem dX9_lastOf_124 : decode cX9_lastOf 124 = .ok (.iadd, 1) := by decide +kernel
theorem dX9_lastOf_125 : decode cX9_lastOf 125 = .ok (.iaload, 1) := by decide +kernel
theorem dX9_lastOf_126 : decode cX9_lastOf 126 = .ok (.bipush 61, 2) := by decide +kernel
theorem dX9_lastOf_128 : decode cX9_lastOf 128 = .ok (.if_icmp .ne 6, 3) := by decide +kernel
theorem dX9_lastOf_131 : decode cX9_lastOf 131 = .ok (.iinc 2 1, 3) := by decide +kernel
theorem dX9_lastOf_134 : decode cX9_lastOf 134 = .ok (.iload_n 2, 1) := by decide +kernel
theorem dX9_lastOf_135 : decode cX9_lastOf 135 = .ok (.ireturn, 1) := by decide +kernel
theorem dX9_numberIn_0 : decode cX9_numberIn 0 = .ok (.iconst 0, 1) := by decide +kernel
theorem dX9_numberIn_1 : decode cX9_numberIn 1 = .ok (.istore_n 3, 1) := by decide +kernel
theorem dX9_numberIn_2 : decode cX9_numberIn 2 = .ok (.iload_n 1, 1) := by decide +kernel
theorem dX9_numberIn_3 : decode cX9_numberIn 3 = .ok (.istore 4, 2) := by decide +kernel
theorem dX9_numberIn_5 : decode cX9_numberIn 5 = .ok (.iload 4, 2) := by decide +kernel
theorem dX9_numberIn_7 : decode cX9_numberIn 7 = .ok (.iload_n 2, 1) := by decide +kernel
theorem dX9_numberIn_8 : decode cX9_numberIn 8 = .ok (.if_icmp .ge 31, 3) := by decide +kernel
theorem dX9_numberIn_11 : decode cX9_numberIn 11 = .ok (.sipush 10000, 3) := by decide +kernel
theorem dX9_numberIn_14 : decode cX9_numberIn 14 = .ok (.iload_n 3, 1) := by decide +kernel
theorem dX9_numberIn_15 : decode cX9_numberIn 15 = .ok (.bipush 10, 2) := by decide +kernel
theorem dX9_numberIn_17 : decode cX9_numberIn 17 = .ok (.imul, 1) := by decide +kernel
theorem dX9_numberIn_18 : decode cX9_numberIn 18 = .ok (.aload_n 0, 1) := by decide +kernel
theorem dX9_numberIn_19 : decode cX9_numberIn 19 = .ok (.getfield 9, 3) := by decide +kernel
theorem dX9_numberIn_22 : decode cX9_numberIn 22 = .ok (.iload 4, 2) := by decide +kernel
theorem dX9_numberIn_24 : decode cX9_numberIn 24 = .ok (.iaload, 1) := by decide +kernel
theorem dX9_numberIn_25 : decode cX9_numberIn 25 = .ok (.iadd, 1) := by decide +kernel
theorem dX9_numberIn_26 : decode cX9_numberIn 26 = .ok (.bipush 48, 2) := by decide +kernel
theorem dX9_numberIn_28 : decode cX9_numberIn 28 = .ok (.isub, 1) := by decide +kernel
theorem dX9_numberIn_29 : decode cX9_numberIn 29 = .ok (.invokestatic 53, 3) := by decide +kernel
theorem dX9_numberIn_32 : decode cX9_numberIn 32 = .ok (.istore_n 3, 1) := by decide +kernel
theorem dX9_numberIn_33 : decode cX9_numberIn 33 = .ok (.iinc 4 1, 3) := by decide +kernel
theorem dX9_numberIn_36 : decode cX9_numberIn 36 = .ok (.goto (-31), 3) := by decide +kernel
theorem dX9_numberIn_39 : decode cX9_numberIn 39 = .ok (.iload_n 3, 1) := by decide +kernel
theorem dX9_numberIn_40 : decode cX9_numberIn 40 = .ok (.ireturn, 1) := by decide +kernel
theorem dX9_wordKind_0 : decode cX9_wordKind 0 = .ok (.iconst 1, 1) := by decide +kernel
theorem dX9_wordKind_1 : decode cX9_wordKind 1 = .ok (.istore_n 3, 1) := by decide +kernel
theorem dX9_wordKind_2 : decode cX9_wordKind 2 = .ok (.iconst 0, 1) := by decide +kernel
theorem dX9_wordKind_3 : decode cX9_wordKind 3 = .ok (.istore 4, 2) := by decide +kernel
theorem dX9_wordKind_5 : decode cX9_wordKind 5 = .ok (.iconst 0, 1) := by decide +kernel
theorem dX9_wordKind_6 : decode cX9_wordKind 6 = .ok (.istore 5, 2) := by decide +kernel
