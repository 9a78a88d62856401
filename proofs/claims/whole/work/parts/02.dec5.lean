theorem dX7_order_15 : decode cX7_order 15 = .ok (.getfield 53, 3) := by decide +kernel
theorem dX7_order_18 : decode cX7_order 18 = .ok (.iload_n 2, 1) := by decide +kernel
theorem dX7_order_19 : decode cX7_order 19 = .ok (.aload_n 0, 1) := by decide +kernel
theorem dX7_order_20 : decode cX7_order 20 = .ok (.getfield 28, 3) := by decide +kernel
theorem dX7_order_23 : decode cX7_order 23 = .ok (.iload_n 2, 1) := by decide +kernel
theorem dX7_order_24 : decode cX7_order 24 = .ok (.iaload, 1) := by decide +kernel
theorem dX7_order_25 : decode cX7_order 25 = .ok (.iastore, 1) := by decide +kernel
theorem dX7_order_26 : decode cX7_order 26 = .ok (.iinc 2 1, 3) := by decide +kernel
theorem dX7_order_29 : decode cX7_order 29 = .ok (.goto (-27), 3) := by decide +kernel
theorem dX7_order_32 : decode cX7_order 32 = .ok (.bipush (-6), 2) := by decide +kernel
theorem dX7_order_34 : decode cX7_order 34 = .ok (.istore_n 2, 1) := by decide +kernel
theorem dX7_order_35 : decode cX7_order 35 = .ok (.aload_n 0, 1) := by decide +kernel
theorem dX7_order_36 : decode cX7_order 36 = .ok (.getfield 84, 3) := by decide +kernel
theorem dX7_order_39 : decode cX7_order 39 = .ok (.ifCond .le 7, 3) := by decide +kernel
theorem dX7_order_42 : decode cX7_order 42 = .ok (.iconst 1, 1) := by decide +kernel
theorem dX7_order_43 : decode cX7_order 43 = .ok (.goto 4, 3) := by decide +kernel
theorem dX7_order_46 : decode cX7_order 46 = .ok (.iconst 0, 1) := by decide +kernel
theorem dX7_order_47 : decode cX7_order 47 = .ok (.istore_n 3, 1) := by decide +kernel
theorem dX7_order_48 : decode cX7_order 48 = .ok (.iload_n 3, 1) := by decide +kernel
theorem dX7_order_49 : decode cX7_order 49 = .ok (.ifCond .eq 114, 3) := by decide +kernel
theorem dX7_order_52 : decode cX7_order 52 = .ok (.iconst 0, 1) := by decide +kernel
theorem dX7_order_53 : decode cX7_order 53 = .ok (.istore 4, 2) := by decide +kernel
theorem dX7_order_55 : decode cX7_order 55 = .ok (.iload 4, 2) := by decide +kernel
theorem dX7_order_57 : decode cX7_order 57 = .ok (.aload_n 0, 1) := by decide +kernel
theorem dX7_order_58 : decode cX7_order 58 = .ok (.getfield 84, 3) := by decide +kernel
theorem dX7_order_61 : decode cX7_order 61 = .ok (.if_icmp .ge 28, 3) := by decide +kernel
theorem dX7_order_64 : decode cX7_order 64 = .ok (.aload_n 0, 1) := by decide +kernel
theorem dX7_order_65 : decode cX7_order 65 = .ok (.getfield 28, 3) := by decide +kernel
theorem dX7_order_68 : decode cX7_order 68 = .ok (.iload 4, 2) := by decide +kernel
theorem dX7_order_70 : decode cX7_order 70 = .ok (.aload_n 0, 1) := by decide +kernel
theorem dX7_order_71 : decode cX7_order 71 = .ok (.getfield 53, 3) := by decide +kernel
theorem dX7_order_74 : decode cX7_order 74 = .ok (.aload_n 0, 1) := by decide +kernel
theorem dX7_order_75 : decode cX7_order 75 = .ok (.getfield 47, 3) := by decide +kernel
theorem dX7_order_78 : decode cX7_order 78 = .ok (.iload 4, 2) := by decide +kernel
theorem dX7_order_80 : decode cX7_order 80 = .ok (.iaload, 1) := by decide +kernel
theorem dX7_order_81 : decode cX7_order 81 = .ok (.iaload, 1) := by decide +kernel
theorem dX7_order_82 : decode cX7_order 82 = .ok (.iastore, 1) := by decide +kernel
theorem dX7_order_83 : decode cX7_order 83 = .ok (.iinc 4 1, 3) := by decide +kernel
theorem dX7_order_86 : decode cX7_order 86 = .ok (.goto (-31), 3) := by decide +kernel
theorem dX7_order_89 : decode cX7_order 89 = .ok (.aload_n 0, 1) := by decide +kernel
theorem dX7_order_90 : decode cX7_order 90 = .ok (.invokevirtual 111, 3) := by decide +kernel
theorem dX7_order_93 : decode cX7_order 93 = .ok (.aload_n 0, 1) := by decide +kernel
theorem dX7_order_94 : decode cX7_order 94 = .ok (.aload_n 0, 1) := by decide +kernel
theorem dX7_order_95 : decode cX7_order 95 = .ok (.getfield 84, 3) := by decide +kernel
theorem dX7_order_98 : decode cX7_order 98 = .ok (.bipush (-6), 2) := by decide +kernel
theorem dX7_order_100 : decode cX7_order 100 = .ok (.invokevirtual 114, 3) := by decide +kernel
theorem dX7_order_103 : decode cX7_order 103 = .ok (.ifCond .ne 52, 3) := by decide +kernel
theorem dX7_order_106 : decode cX7_order 106 = .ok (.iload_n 2, 1) := by decide +kernel
theorem dX7_order_107 : decode cX7_order 107 = .ok (.ifCond .lt 11, 3) := by decide +kernel
theorem dX7_order_110 : decode cX7_order 110 = .ok (.aload_n 0, 1) := by decide +kernel
theorem dX7_order_111 : decode cX7_order 111 = .ok (.getfield 94, 3) := by decide +kernel
theorem dX7_order_114 : decode cX7_order 114 = .ok (.iload_n 2, 1) := by decide +kernel
theorem dX7_order_115 : decode cX7_order 115 = .ok (.if_icmp .ge 40, 3) := by decide +kernel
theorem dX7_order_118 : decode cX7_order 118 = .ok (.aload_n 0, 1) := by decide +kernel
theorem dX7_order_119 : decode cX7_order 119 = .ok (.getfield 94, 3) := by decide +kernel
theorem dX7_order_122 : decode cX7_order 122 = .ok (.istore_n 2, 1) := by decide +kernel
theorem dX7_order_123 : decode cX7_order 123 = .ok (.iconst 0, 1) := by decide +kernel
theorem dX7_order_124 : decode cX7_order 124 = .ok (.istore 4, 2) := by decide +kernel
theorem dX7_order_126 : decode cX7_order 126 = .ok (.iload 4, 2) := by decide +kernel
theorem dX7_order_128 : decode cX7_order 128 = .ok (.aload_n 0, 1) := by decide +kernel
theorem dX7_order_129 : decode cX7_order 129 = .ok (.getfield 84, 3) := by decide +kernel
theorem dX7_order_132 : decode cX7_order 132 = .ok (.if_icmp .ge 23, 3) := by decide +kernel
theorem dX7_order_135 : decode cX7_order 135 = .ok (.aload_n 0, 1) := by decide +kernel
theorem dX7_order_136 : decode cX7_order 136 = .ok (.getfield 50, 3) := by decide +kernel
theorem dX7_order_139 : decode cX7_order 139 = .ok (.iload 4, 2) := by decide +kernel
theorem dX7_order_141 : decode cX7_order 141 = .ok (.aload_n 0, 1) := by decide +kernel
theorem dX7_order_142 : decode cX7_order 142 = .ok (.getfield 47, 3) := by decide +kernel
theorem dX7_order_145 : decode cX7_order 145 = .ok (.iload 4, 2) := by decide +kernel
theorem dX7_order_147 : decode cX7_order 147 = .ok (.iaload, 1) := by decide +kernel
theorem dX7_order_148 : decode cX7_order 148 = .ok (.iastore, 1) := by decide +kernel
theorem dX7_order_149 : decode cX7_order 149 = .ok (.iinc 4 1, 3) := by decide +kernel
theorem dX7_order_152 : decode cX7_order 152 = .ok (.goto (-26), 3) := by decide +kernel
theorem dX7_order_155 : decode cX7_order 155 = .ok (.aload_n 0, 1) := by decide +kernel
theorem dX7_order_156 : decode cX7_order 156 = .ok (.invokevirtual 158, 3) := by decide +kernel
theorem dX7_order_159 : decode cX7_order 159 = .ok (.istore_n 3, 1) := by decide +kernel
theorem dX7_order_160 : decode cX7_order 160 = .ok (.goto (-112), 3) := by decide +kernel
theorem dX7_order_163 : decode cX7_order 163 = .ok (.iconst 0, 1) := by decide +kernel
theorem dX7_order_164 : decode cX7_order 164 = .ok (.istore 4, 2) := by decide +kernel
theorem dX7_order_166 : decode cX7_order 166 = .ok (.iload 4, 2) := by decide +kernel
theorem dX7_order_168 : decode cX7_order 168 = .ok (.iconst 5, 1) := by decide +kernel
theorem dX7_order_169 : decode cX7_order 169 = .ok (.if_icmp .ge 23, 3) := by decide +kernel
theorem dX7_order_172 : decode cX7_order 172 = .ok (.aload_n 0, 1) := by decide +kernel
theorem dX7_order_173 : decode cX7_order 173 = .ok (.getfield 28, 3) := by decide +kernel
theorem dX7_order_176 : decode cX7_order 176 = .ok (.iload 4, 2) := by decide +kernel
theorem dX7_order_178 : decode cX7_order 178 = .ok (.aload_n 0, 1) := by decide +kernel
theorem dX7_order_179 : decode cX7_order 179 = .ok (.getfield 53, 3) := by decide +kernel
theorem dX7_order_182 : decode cX7_order 182 = .ok (.iload 4, 2) := by decide +kernel
theorem dX7_order_184 : decode cX7_order 184 = .ok (.iaload, 1) := by decide +kernel
theorem dX7_order_185 : decode cX7_order 185 = .ok (.iastore, 1) := by decide +kernel
theorem dX7_order_186 : decode cX7_order 186 = .ok (.iinc 4 1, 3) := by decide +kernel
theorem dX7_order_189 : decode cX7_order 189 = .ok (.goto (-23), 3) := by decide +kernel
theorem dX7_order_192 : decode cX7_order 192 = .ok (.iload_n 2, 1) := by decide +kernel
theorem dX7_order_193 : decode cX7_order 193 = .ok (.ifCond .lt 8, 3) := by decide +kernel
theorem dX7_order_196 : decode cX7_order 196 = .ok (.iload_n 1, 1) := by decide +kernel
theorem dX7_order_197 : decode cX7_order 197 = .ok (.iconst (-1), 1) := by decide +kernel
theorem dX7_order_198 : decode cX7_order 198 = .ok (.if_icmp .ne 7, 3) := by decide +kernel
theorem dX7_order_201 : decode cX7_order 201 = .ok (.iload_n 2, 1) := by decide +kernel
theorem dX7_order_202 : decode cX7_order 202 = .ok (.goto 28, 3) := by decide +kernel
theorem dX7_order_205 : decode cX7_order 205 = .ok (.iload_n 1, 1) := by decide +kernel
theorem dX7_order_206 : decode cX7_order 206 = .ok (.iconst 0, 1) := by decide +kernel
theorem dX7_order_207 : decode cX7_order 207 = .ok (.aload_n 0, 1) := by decide +kernel
theorem dX7_order_208 : decode cX7_order 208 = .ok (.getfield 84, 3) := by decide +kernel
theorem dX7_order_211 : decode cX7_order 211 = .ok (.iconst 1, 1) := by decide +kernel
theorem dX7_order_212 : decode cX7_order 212 = .ok (.isub, 1) := by decide +kernel
theorem dX7_order_213 : decode cX7_order 213 = .ok (.invokestatic 63, 3) := by decide +kernel
theorem dX7_order_216 : decode cX7_order 216 = .ok (.ifCond .eq 12, 3) := by decide +kernel
theorem dX7_order_219 : decode cX7_order 219 = .ok (.aload_n 0, 1) := by decide +kernel
theorem dX7_order_220 : decode cX7_order 220 = .ok (.getfield 50, 3) := by decide +kernel
theorem dX7_order_223 : decode cX7_order 223 = .ok (.iload_n 1, 1) := by decide +kernel
theorem dX7_order_224 : decode cX7_order 224 = .ok (.iaload, 1) := by decide +kernel
theorem dX7_order_225 : decode cX7_order 225 = .ok (.goto 5, 3) := by decide +kernel
theorem dX7_order_228 : decode cX7_order 228 = .ok (.bipush (-6), 2) := by decide +kernel
theorem dX7_order_230 : decode cX7_order 230 = .ok (.ireturn, 1) := by decide +kernel
theorem dX7_image_0 : decode cX7_image 0 = .ok (.iload_n 1, 1) := by decide +kernel
theorem dX7_image_1 : decode cX7_image 1 = .ok (.iconst 0, 1) := by decide +kernel
theorem dX7_image_2 : decode cX7_image 2 = .ok (.iconst 1, 1) := by decide +kernel
theorem dX7_image_3 : decode cX7_image 3 = .ok (.invokestatic 63, 3) := by decide +kernel
theorem dX7_image_6 : decode cX7_image 6 = .ok (.ifCond .ne 6, 3) := by decide +kernel
theorem dX7_image_9 : decode cX7_image 9 = .ok (.bipush (-2), 2) := by decide +kernel
theorem dX7_image_11 : decode cX7_image 11 = .ok (.ireturn, 1) := by decide +kernel
theorem dX7_image_12 : decode cX7_image 12 = .ok (.bipush 70, 2) := by decide +kernel
theorem dX7_image_14 : decode cX7_image 14 = .ok (.iload_n 1, 1) := by decide +kernel
theorem dX7_image_15 : decode cX7_image 15 = .ok (.imul, 1) := by decide +kernel
theorem dX7_image_16 : decode cX7_image 16 = .ok (.istore_n 2, 1) := by decide +kernel
theorem dX7_image_17 : decode cX7_image 17 = .ok (.iconst 0, 1) := by decide +kernel
theorem dX7_image_18 : decode cX7_image 18 = .ok (.istore_n 3, 1) := by decide +kernel
theorem dX7_image_19 : decode cX7_image 19 = .ok (.iload_n 3, 1) := by decide +kernel
theorem dX7_image_20 : decode cX7_image 20 = .ok (.iconst 5, 1) := by decide +kernel
theorem dX7_image_21 : decode cX7_image 21 = .ok (.if_icmp .ge 90, 3) := by decide +kernel
theorem dX7_image_24 : decode cX7_image 24 = .ok (.aload_n 0, 1) := by decide +kernel
theorem dX7_image_25 : decode cX7_image 25 = .ok (.getfield 56, 3) := by decide +kernel
theorem dX7_image_28 : decode cX7_image 28 = .ok (.iload_n 2, 1) := by decide +kernel
theorem dX7_image_29 : decode cX7_image 29 = .ok (.iload_n 3, 1) := by decide +kernel
theorem dX7_image_30 : decode cX7_image 30 = .ok (.iadd, 1) := by decide +kernel
theorem dX7_image_31 : decode cX7_image 31 = .ok (.aload_n 0, 1) := by decide +kernel
theorem dX7_image_32 : decode cX7_image 32 = .ok (.getfield 13, 3) := by decide +kernel
theorem dX7_image_35 : decode cX7_image 35 = .ok (.iload_n 3, 1) := by decide +kernel
theorem dX7_image_36 : decode cX7_image 36 = .ok (.iaload, 1) := by decide +kernel
theorem dX7_image_37 : decode cX7_image 37 = .ok (.iastore, 1) := by decide +kernel
theorem dX7_image_38 : decode cX7_image 38 = .ok (.aload_n 0, 1) := by decide +kernel
theorem dX7_image_39 : decode cX7_image 39 = .ok (.getfield 56, 3) := by decide +kernel
theorem dX7_image_42 : decode cX7_image 42 = .ok (.iload_n 2, 1) := by decide +kernel
theorem dX7_image_43 : decode cX7_image 43 = .ok (.iconst 5, 1) := by decide +kernel
theorem dX7_image_44 : decode cX7_image 44 = .ok (.iadd, 1) := by decide +kernel
theorem dX7_image_45 : decode cX7_image 45 = .ok (.iload_n 3, 1) := by decide +kernel
theorem dX7_image_46 : decode cX7_image 46 = .ok (.iadd, 1) := by decide +kernel
theorem dX7_image_47 : decode cX7_image 47 = .ok (.aload_n 0, 1) := by decide +kernel
theorem dX7_image_48 : decode cX7_image 48 = .ok (.getfield 16, 3) := by decide +kernel
theorem dX7_image_51 : decode cX7_image 51 = .ok (.iload_n 3, 1) := by decide +kernel
theorem dX7_image_52 : decode cX7_image 52 = .ok (.iaload, 1) := by decide +kernel
theorem dX7_image_53 : decode cX7_image 53 = .ok (.iastore, 1) := by decide +kernel
theorem dX7_image_54 : decode cX7_image 54 = .ok (.aload_n 0, 1) := by decide +kernel
theorem dX7_image_55 : decode cX7_image 55 = .ok (.getfield 56, 3) := by decide +kernel
theorem dX7_image_58 : decode cX7_image 58 = .ok (.iload_n 2, 1) := by decide +kernel
theorem dX7_image_59 : decode cX7_image 59 = .ok (.bipush 10, 2) := by decide +kernel
theorem dX7_image_61 : decode cX7_image 61 = .ok (.iadd, 1) := by decide +kernel
theorem dX7_image_62 : decode cX7_image 62 = .ok (.iload_n 3, 1) := by decide +kernel
theorem dX7_image_63 : decode cX7_image 63 = .ok (.iadd, 1) := by decide +kernel
theorem dX7_image_64 : decode cX7_image 64 = .ok (.aload_n 0, 1) := by decide +kernel
theorem dX7_image_65 : decode cX7_image 65 = .ok (.getfield 19, 3) := by decide +kernel
theorem dX7_image_68 : decode cX7_image 68 = .ok (.iload_n 3, 1) := by decide +kernel
theorem dX7_image_69 : decode cX7_image 69 = .ok (.iaload, 1) := by decide +kernel
theorem dX7_image_70 : decode cX7_image 70 = .ok (.iastore, 1) := by decide +kernel
theorem dX7_image_71 : decode cX7_image 71 = .ok (.aload_n 0, 1) := by decide +kernel
theorem dX7_image_72 : decode cX7_image 72 = .ok (.getfield 56, 3) := by decide +kernel
theorem dX7_image_75 : decode cX7_image 75 = .ok (.iload_n 2, 1) := by decide +kernel
theorem dX7_image_76 : decode cX7_image 76 = .ok (.bipush 15, 2) := by decide +kernel
theorem dX7_image_78 : decode cX7_image 78 = .ok (.iadd, 1) := by decide +kernel
theorem dX7_image_79 : decode cX7_image 79 = .ok (.iload_n 3, 1) := by decide +kernel
theorem dX7_image_80 : decode cX7_image 80 = .ok (.iadd, 1) := by decide +kernel
theorem dX7_image_81 : decode cX7_image 81 = .ok (.aload_n 0, 1) := by decide +kernel
theorem dX7_image_82 : decode cX7_image 82 = .ok (.getfield 22, 3) := by decide +kernel
theorem dX7_image_85 : decode cX7_image 85 = .ok (.iload_n 3, 1) := by decide +kernel
theorem dX7_image_86 : decode cX7_image 86 = .ok (.iaload, 1) := by decide +kernel
theorem dX7_image_87 : decode cX7_image 87 = .ok (.iastore, 1) := by decide +kernel
theorem dX7_image_88 : decode cX7_image 88 = .ok (.aload_n 0, 1) := by decide +kernel
theorem dX7_image_89 : decode cX7_image 89 = .ok (.getfield 56, 3) := by decide +kernel
theorem dX7_image_92 : decode cX7_image 92 = .ok (.iload_n 2, 1) := by decide +kernel
theorem dX7_image_93 : decode cX7_image 93 = .ok (.bipush 20, 2) := by decide +kernel
theorem dX7_image_95 : decode cX7_image 95 = .ok (.iadd, 1) := by decide +kernel
theorem dX7_image_96 : decode cX7_image 96 = .ok (.iload_n 3, 1) := by decide +kernel
theorem dX7_image_97 : decode cX7_image 97 = .ok (.iadd, 1) := by decide +kernel
theorem dX7_image_98 : decode cX7_image 98 = .ok (.aload_n 0, 1) := by decide +kernel
theorem dX7_image_99 : decode cX7_image 99 = .ok (.getfield 28, 3) := by decide +kernel
theorem dX7_image_102 : decode cX7_image 102 = .ok (.iload_n 3, 1) := by decide +kernel
theorem dX7_image_103 : decode cX7_image 103 = .ok (.iaload, 1) := by decide +kernel
theorem dX7_image_104 : decode cX7_image 104 = .ok (.iastore, 1) := by decide +kernel
theorem dX7_image_105 : decode cX7_image 105 = .ok (.iinc 3 1, 3) := by decide +kernel
theorem dX7_image_108 : decode cX7_image 108 = .ok (.goto (-89), 3) := by decide +kernel
theorem dX7_image_111 : decode cX7_image 111 = .ok (.iconst 0, 1) := by decide +kernel
theorem dX7_image_112 : decode cX7_image 112 = .ok (.istore_n 3, 1) := by decide +kernel
theorem dX7_image_113 : decode cX7_image 113 = .ok (.iload_n 3, 1) := by decide +kernel
theorem dX7_image_114 : decode cX7_image 114 = .ok (.bipush 30, 2) := by decide +kernel
theorem dX7_image_116 : decode cX7_image 116 = .ok (.if_icmp .ge 26, 3) := by decide +kernel
theorem dX7_image_119 : decode cX7_image 119 = .ok (.aload_n 0, 1) := by decide +kernel
theorem dX7_image_120 : decode cX7_image 120 = .ok (.getfield 56, 3) := by decide +kernel
theorem dX7_image_123 : decode cX7_image 123 = .ok (.iload_n 2, 1) := by decide +kernel
theorem dX7_image_124 : decode cX7_image 124 = .ok (.bipush 25, 2) := by decide +kernel
theorem dX7_image_126 : decode cX7_image 126 = .ok (.iadd, 1) := by decide +kernel
theorem dX7_image_127 : decode cX7_image 127 = .ok (.iload_n 3, 1) := by decide +kernel
theorem dX7_image_128 : decode cX7_image 128 = .ok (.iadd, 1) := by decide +kernel
theorem dX7_image_129 : decode cX7_image 129 = .ok (.aload_n 0, 1) := by decide +kernel
theorem dX7_image_130 : decode cX7_image 130 = .ok (.getfield 25, 3) := by decide +kernel
theorem dX7_image_133 : decode cX7_image 133 = .ok (.iload_n 3, 1) := by decide +kernel
theorem dX7_image_134 : decode cX7_image 134 = .ok (.iaload, 1) := by decide +kernel
theorem dX7_image_135 : decode cX7_image 135 = .ok (.iastore, 1) := by decide +kernel
theorem dX7_image_136 : decode cX7_image 136 = .ok (.iinc 3 1, 3) := by decide +kernel
theorem dX7_image_139 : decode cX7_image 139 = .ok (.goto (-26), 3) := by decide +kernel
theorem dX7_image_142 : decode cX7_image 142 = .ok (.iconst 0, 1) := by decide +kernel
theorem dX7_image_143 : decode cX7_image 143 = .ok (.istore_n 3, 1) := by decide +kernel
theorem dX7_image_144 : decode cX7_image 144 = .ok (.iload_n 3, 1) := by decide +kernel
theorem dX7_image_145 : decode cX7_image 145 = .ok (.bipush 12, 2) := by decide +kernel
theorem dX7_image_147 : decode cX7_image 147 = .ok (.if_icmp .ge 26, 3) := by decide +kernel
theorem dX7_image_150 : decode cX7_image 150 = .ok (.aload_n 0, 1) := by decide +kernel
theorem dX7_image_151 : decode cX7_image 151 = .ok (.getfield 56, 3) := by decide +kernel
theorem dX7_image_154 : decode cX7_image 154 = .ok (.iload_n 2, 1) := by decide +kernel
theorem dX7_image_155 : decode cX7_image 155 = .ok (.bipush 55, 2) := by decide +kernel
theorem dX7_image_157 : decode cX7_image 157 = .ok (.iadd, 1) := by decide +kernel
theorem dX7_image_158 : decode cX7_image 158 = .ok (.iload_n 3, 1) := by decide +kernel
theorem dX7_image_159 : decode cX7_image 159 = .ok (.iadd, 1) := by decide +kernel
theorem dX7_image_160 : decode cX7_image 160 = .ok (.aload_n 0, 1) := by decide +kernel
theorem dX7_image_161 : decode cX7_image 161 = .ok (.getfield 35, 3) := by decide +kernel
theorem dX7_image_164 : decode cX7_image 164 = .ok (.iload_n 3, 1) := by decide +kernel
theorem dX7_image_165 : decode cX7_image 165 = .ok (.iaload, 1) := by decide +kernel
theorem dX7_image_166 : decode cX7_image 166 = .ok (.iastore, 1) := by decide +kernel
theorem dX7_image_167 : decode cX7_image 167 = .ok (.iinc 3 1, 3) := by decide +kernel
theorem dX7_image_170 : decode cX7_image 170 = .ok (.goto (-26), 3) := by decide +kernel
theorem dX7_image_173 : decode cX7_image 173 = .ok (.aload_n 0, 1) := by decide +kernel
theorem dX7_image_174 : decode cX7_image 174 = .ok (.getfield 56, 3) := by decide +kernel
theorem dX7_image_177 : decode cX7_image 177 = .ok (.iload_n 2, 1) := by decide +kernel
theorem dX7_image_178 : decode cX7_image 178 = .ok (.bipush 67, 2) := by decide +kernel
theorem dX7_image_180 : decode cX7_image 180 = .ok (.iadd, 1) := by decide +kernel
theorem dX7_image_181 : decode cX7_image 181 = .ok (.aload_n 0, 1) := by decide +kernel
theorem dX7_image_182 : decode cX7_image 182 = .ok (.getfield 84, 3) := by decide +kernel
theorem dX7_image_185 : decode cX7_image 185 = .ok (.iastore, 1) := by decide +kernel
theorem dX7_image_186 : decode cX7_image 186 = .ok (.aload_n 0, 1) := by decide +kernel
theorem dX7_image_187 : decode cX7_image 187 = .ok (.getfield 56, 3) := by decide +kernel
theorem dX7_image_190 : decode cX7_image 190 = .ok (.iload_n 2, 1) := by decide +kernel
theorem dX7_image_191 : decode cX7_image 191 = .ok (.bipush 68, 2) := by decide +kernel
theorem dX7_image_193 : decode cX7_image 193 = .ok (.iadd, 1) := by decide +kernel
theorem dX7_image_194 : decode cX7_image 194 = .ok (.aload_n 0, 1) := by decide +kernel
theorem dX7_image_195 : decode cX7_image 195 = .ok (.getfield 31, 3) := by decide +kernel
theorem dX7_image_198 : decode cX7_image 198 = .ok (.iastore, 1) := by decide +kernel
theorem dX7_image_199 : decode cX7_image 199 = .ok (.aload_n 0, 1) := by decide +kernel
theorem dX7_image_200 : decode cX7_image 200 = .ok (.getfield 59, 3) := by decide +kernel
theorem dX7_image_203 : decode cX7_image 203 = .ok (.iload_n 1, 1) := by decide +kernel
theorem dX7_image_204 : decode cX7_image 204 = .ok (.iconst 1, 1) := by decide +kernel
theorem dX7_image_205 : decode cX7_image 205 = .ok (.bastore, 1) := by decide +kernel
theorem dX7_image_206 : decode cX7_image 206 = .ok (.iconst 1, 1) := by decide +kernel
theorem dX7_image_207 : decode cX7_image 207 = .ok (.ireturn, 1) := by decide +kernel
theorem dX7_restore_0 : decode cX7_restore 0 = .ok (.iload_n 1, 1) := by decide +kernel
theorem dX7_restore_1 : decode cX7_restore 1 = .ok (.iconst 0, 1) := by decide +kernel
theorem dX7_restore_2 : decode cX7_restore 2 = .ok (.iconst 1, 1) := by decide +kernel
theorem dX7_restore_3 : decode cX7_restore 3 = .ok (.invokestatic 63, 3) := by decide +kernel
theorem dX7_restore_6 : decode cX7_restore 6 = .ok (.ifCond .ne 6, 3) := by decide +kernel
theorem dX7_restore_9 : decode cX7_restore 9 = .ok (.bipush (-2), 2) := by decide +kernel
theorem dX7_restore_11 : decode cX7_restore 11 = .ok (.ireturn, 1) := by decide +kernel
theorem dX7_restore_12 : decode cX7_restore 12 = .ok (.aload_n 0, 1) := by decide +kernel
theorem dX7_restore_13 : decode cX7_restore 13 = .ok (.getfield 59, 3) := by decide +kernel
theorem dX7_restore_16 : decode cX7_restore 16 = .ok (.iload_n 1, 1) := by decide +kernel
theorem dX7_restore_17 : decode cX7_restore 17 = .ok (.baload, 1) := by decide +kernel
theorem dX7_restore_18 : decode cX7_restore 18 = .ok (.ifCond .ne 6, 3) := by decide +kernel
theorem dX7_restore_21 : decode cX7_restore 21 = .ok (.bipush (-3), 2) := by decide +kernel
theorem dX7_restore_23 : decode cX7_restore 23 = .ok (.ireturn, 1) := by decide +kernel
theorem dX7_restore_24 : decode cX7_restore 24 = .ok (.bipush 70, 2) := by decide +kernel
theorem dX7_restore_26 : decode cX7_restore 26 = .ok (.iload_n 1, 1) := by decide +kernel
theorem dX7_restore_27 : decode cX7_restore 27 = .ok (.imul, 1) := by decide +kernel
theorem dX7_restore_28 : decode cX7_restore 28 = .ok (.istore_n 2, 1) := by decide +kernel
theorem dX7_restore_29 : decode cX7_restore 29 = .ok (.iconst 0, 1) := by decide +kernel
theorem dX7_restore_30 : decode cX7_restore 30 = .ok (.istore_n 3, 1) := by decide +kernel
theorem dX7_restore_31 : decode cX7_restore 31 = .ok (.iload_n 3, 1) := by decide +kernel
theorem dX7_restore_32 : decode cX7_restore 32 = .ok (.iconst 5, 1) := by decide +kernel
theorem dX7_restore_33 : decode cX7_restore 33 = .ok (.if_icmp .ge 90, 3) := by decide +kernel
theorem dX7_restore_36 : decode cX7_restore 36 = .ok (.aload_n 0, 1) := by decide +kernel
theorem dX7_restore_37 : decode cX7_restore 37 = .ok (.getfield 13, 3) := by decide +kernel
theorem dX7_restore_40 : decode cX7_restore 40 = .ok (.iload_n 3, 1) := by decide +kernel
theorem dX7_restore_41 : decode cX7_restore 41 = .ok (.aload_n 0, 1) := by decide +kernel
theorem dX7_restore_42 : decode cX7_restore 42 = .ok (.getfield 56, 3) := by decide +kernel
theorem dX7_restore_45 : decode cX7_restore 45 = .ok (.iload_n 2, 1) := by decide +kernel
theorem dX7_restore_46 : decode cX7_restore 46 = .ok (.iload_n 3, 1) := by decide +kernel
theorem dX7_restore_47 : decode cX7_restore 47 = .ok (.iadd, 1) := by decide +kernel
theorem dX7_restore_48 : decode cX7_restore 48 = .ok (.iaload, 1) := by decide +kernel
theorem dX7_restore_49 : decode cX7_restore 49 = .ok (.iastore, 1) := by decide +kernel
theorem dX7_restore_50 : decode cX7_restore 50 = .ok (.aload_n 0, 1) := by decide +kernel
theorem dX7_restore_51 : decode cX7_restore 51 = .ok (.getfield 16, 3) := by decide +kernel
theorem dX7_restore_54 : decode cX7_restore 54 = .ok (.iload_n 3, 1) := by decide +kernel
theorem dX7_restore_55 : decode cX7_restore 55 = .ok (.aload_n 0, 1) := by decide +kernel
theorem dX7_restore_56 : decode cX7_restore 56 = .ok (.getfield 56, 3) := by decide +kernel
theorem dX7_restore_59 : decode cX7_restore 59 = .ok (.iload_n 2, 1) := by decide +kernel
theorem dX7_restore_60 : decode cX7_restore 60 = .ok (.iconst 5, 1) := by decide +kernel
theorem dX7_restore_61 : decode cX7_restore 61 = .ok (.iadd, 1) := by decide +kernel
theorem dX7_restore_62 : decode cX7_restore 62 = .ok (.iload_n 3, 1) := by decide +kernel
theorem dX7_restore_63 : decode cX7_restore 63 = .ok (.iadd, 1) := by decide +kernel
theorem dX7_restore_64 : decode cX7_restore 64 = .ok (.iaload, 1) := by decide +kernel
theorem dX7_restore_65 : decode cX7_restore 65 = .ok (.iastore, 1) := by decide +kernel
theorem dX7_restore_66 : decode cX7_restore 66 = .ok (.aload_n 0, 1) := by decide +kernel
theorem dX7_restore_67 : decode cX7_restore 67 = .ok (.getfield 19, 3) := by decide +kernel
theorem dX7_restore_70 : decode cX7_restore 70 = .ok (.iload_n 3, 1) := by decide +kernel
theorem dX7_restore_71 : decode cX7_restore 71 = .ok (.aload_n 0, 1) := by decide +kernel
theorem dX7_restore_72 : decode cX7_restore 72 = .ok (.getfield 56, 3) := by decide +kernel
theorem dX7_restore_75 : decode cX7_restore 75 = .ok (.iload_n 2, 1) := by decide +kernel
theorem dX7_restore_76 : decode cX7_restore 76 = .ok (.bipush 10, 2) := by decide +kernel
theorem dX7_restore_78 : decode cX7_restore 78 = .ok (.iadd, 1) := by decide +kernel
theorem dX7_restore_79 : decode cX7_restore 79 = .ok (.iload_n 3, 1) := by decide +kernel
theorem dX7_restore_80 : decode cX7_restore 80 = .ok (.iadd, 1) := by decide +kernel
theorem dX7_restore_81 : decode cX7_restore 81 = .ok (.iaload, 1) := by decide +kernel
theorem dX7_restore_82 : decode cX7_restore 82 = .ok (.iastore, 1) := by decide +kernel
theorem dX7_restore_83 : decode cX7_restore 83 = .ok (.aload_n 0, 1) := by decide +kernel
theorem dX7_restore_84 : decode cX7_restore 84 = .ok (.getfield 22, 3) := by decide +kernel
theorem dX7_restore_87 : decode cX7_restore 87 = .ok (.iload_n 3, 1) := by decide +kernel
theorem dX7_restore_88 : decode cX7_restore 88 = .ok (.aload_n 0, 1) := by decide +kernel
theorem dX7_restore_89 : decode cX7_restore 89 = .ok (.getfield 56, 3) := by decide +kernel
theorem dX7_restore_92 : decode cX7_restore 92 = .ok (.iload_n 2, 1) := by decide +kernel
theorem dX7_restore_93 : decode cX7_restore 93 = .ok (.bipush 15, 2) := by decide +kernel
theorem dX7_restore_95 : decode cX7_restore 95 = .ok (.iadd, 1) := by decide +kernel
theorem dX7_restore_96 : decode cX7_restore 96 = .ok (.iload_n 3, 1) := by decide +kernel
theorem dX7_restore_97 : decode cX7_restore 97 = .ok (.iadd, 1) := by decide +kernel
theorem dX7_restore_98 : decode cX7_restore 98 = .ok (.iaload, 1) := by decide +kernel
theorem dX7_restore_99 : decode cX7_restore 99 = .ok (.iastore, 1) := by decide +kernel
theorem dX7_restore_100 : decode cX7_restore 100 = .ok (.aload_n 0, 1) := by decide +kernel
theorem dX7_restore_101 : decode cX7_restore 101 = .ok (.getfield 28, 3) := by decide +kernel
theorem dX7_restore_104 : decode cX7_restore 104 = .ok (.iload_n 3, 1) := by decide +kernel
theorem dX7_restore_105 : decode cX7_restore 105 = .ok (.aload_n 0, 1) := by decide +kernel
theorem dX7_restore_106 : decode cX7_restore 106 = .ok (.getfield 56, 3) := by decide +kernel
theorem dX7_restore_109 : decode cX7_restore 109 = .ok (.iload_n 2, 1) := by decide +kernel
theorem dX7_restore_110 : decode cX7_restore 110 = .ok (.bipush 20, 2) := by decide +kernel
theorem dX7_restore_112 : decode cX7_restore 112 = .ok (.iadd, 1) := by decide +kernel
theorem dX7_restore_113 : decode cX7_restore 113 = .ok (.iload_n 3, 1) := by decide +kernel
theorem dX7_restore_114 : decode cX7_restore 114 = .ok (.iadd, 1) := by decide +kernel
theorem dX7_restore_115 : decode cX7_restore 115 = .ok (.iaload, 1) := by decide +kernel
theorem dX7_restore_116 : decode cX7_restore 116 = .ok (.iastore, 1) := by decide +kernel
theorem dX7_restore_117 : decode cX7_restore 117 = .ok (.iinc 3 1, 3) := by decide +kernel
theorem dX7_restore_120 : decode cX7_restore 120 = .ok (.goto (-89), 3) := by decide +kernel
theorem dX7_restore_123 : decode cX7_restore 123 = .ok (.iconst 0, 1) := by decide +kernel
theorem dX7_restore_124 : decode cX7_restore 124 = .ok (.istore_n 3, 1) := by decide +kernel
theorem dX7_restore_125 : decode cX7_restore 125 = .ok (.iload_n 3, 1) := by decide +kernel
theorem dX7_restore_126 : decode cX7_restore 126 = .ok (.bipush 30, 2) := by decide +kernel
theorem dX7_restore_128 : decode cX7_restore 128 = .ok (.if_icmp .ge 26, 3) := by decide +kernel
theorem dX7_restore_131 : decode cX7_restore 131 = .ok (.aload_n 0, 1) := by decide +kernel
theorem dX7_restore_132 : decode cX7_restore 132 = .ok (.getfield 25, 3) := by decide +kernel
theorem dX7_restore_135 : decode cX7_restore 135 = .ok (.iload_n 3, 1) := by decide +kernel
theorem dX7_restore_136 : decode cX7_restore 136 = .ok (.aload_n 0, 1) := by decide +kernel
theorem dX7_restore_137 : decode cX7_restore 137 = .ok (.getfield 56, 3) := by decide +kernel
theorem dX7_restore_140 : decode cX7_restore 140 = .ok (.iload_n 2, 1) := by decide +kernel
theorem dX7_restore_141 : decode cX7_restore 141 = .ok (.bipush 25, 2) := by decide +kernel
theorem dX7_restore_143 : decode cX7_restore 143 = .ok (.iadd, 1) := by decide +kernel
theorem dX7_restore_144 : decode cX7_restore 144 = .ok (.iload_n 3, 1) := by decide +kernel
theorem dX7_restore_145 : decode cX7_restore 145 = .ok (.iadd, 1) := by decide +kernel
theorem dX7_restore_146 : decode cX7_restore 146 = .ok (.iaload, 1) := by decide +kernel
theorem dX7_restore_147 : decode cX7_restore 147 = .ok (.iastore, 1) := by decide +kernel
theorem dX7_restore_148 : decode cX7_restore 148 = .ok (.iinc 3 1, 3) := by decide +kernel
theorem dX7_restore_151 : decode cX7_restore 151 = .ok (.goto (-26), 3) := by decide +kernel
theorem dX7_restore_154 : decode cX7_restore 154 = .ok (.iconst 0, 1) := by decide +kernel
theorem dX7_restore_155 : decode cX7_restore 155 = .ok (.istore_n 3, 1) := by decide +kernel
theorem dX7_restore_156 : decode cX7_restore 156 = .ok (.iload_n 3, 1) := by decide +kernel
theorem dX7_restore_157 : decode cX7_restore 157 = .ok (.bipush 12, 2) := by decide +kernel
theorem dX7_restore_159 : decode cX7_restore 159 = .ok (.if_icmp .ge 26, 3) := by decide +kernel
theorem dX7_restore_162 : decode cX7_restore 162 = .ok (.aload_n 0, 1) := by decide +kernel
theorem dX7_restore_163 : decode cX7_restore 163 = .ok (.getfield 35, 3) := by decide +kernel
theorem dX7_restore_166 : decode cX7_restore 166 = .ok (.iload_n 3, 1) := by decide +kernel
theorem dX7_restore_167 : decode cX7_restore 167 = .ok (.aload_n 0, 1) := by decide +kernel
theorem dX7_restore_168 : decode cX7_restore 168 = .ok (.getfield 56, 3) := by decide +kernel
theorem dX7_restore_171 : decode cX7_restore 171 = .ok (.iload_n 2, 1) := by decide +kernel
theorem dX7_restore_172 : decode cX7_restore 172 = .ok (.bipush 55, 2) := by decide +kernel
theorem dX7_restore_174 : decode cX7_restore 174 = .ok (.iadd, 1) := by decide +kernel
theorem dX7_restore_175 : decode cX7_restore 175 = .ok (.iload_n 3, 1) := by decide +kernel
theorem dX7_restore_176 : decode cX7_restore 176 = .ok (.iadd, 1) := by decide +kernel
theorem dX7_restore_177 : decode cX7_restore 177 = .ok (.iaload, 1) := by decide +kernel
theorem dX7_restore_178 : decode cX7_restore 178 = .ok (.iastore, 1) := by decide +kernel
theorem dX7_restore_179 : decode cX7_restore 179 = .ok (.iinc 3 1, 3) := by decide +kernel
theorem dX7_restore_182 : decode cX7_restore 182 = .ok (.goto (-26), 3) := by decide +kernel
theorem dX7_restore_185 : decode cX7_restore 185 = .ok (.aload_n 0, 1) := by decide +kernel
theorem dX7_restore_186 : decode cX7_restore 186 = .ok (.aload_n 0, 1) := by decide +kernel
theorem dX7_restore_187 : decode cX7_restore 187 = .ok (.getfield 56, 3) := by decide +kernel
theorem dX7_restore_190 : decode cX7_restore 190 = .ok (.iload_n 2, 1) := by decide +kernel
theorem dX7_restore_191 : decode cX7_restore 191 = .ok (.bipush 67, 2) := by decide +kernel
theorem dX7_restore_193 : decode cX7_restore 193 = .ok (.iadd, 1) := by decide +kernel
theorem dX7_restore_194 : decode cX7_restore 194 = .ok (.iaload, 1) := by decide +kernel
theorem dX7_restore_195 : decode cX7_restore 195 = .ok (.putfield 84, 3) := by decide +kernel
theorem dX7_restore_198 : decode cX7_restore 198 = .ok (.aload_n 0, 1) := by decide +kernel
theorem dX7_restore_199 : decode cX7_restore 199 = .ok (.aload_n 0, 1) := by decide +kernel
theorem dX7_restore_200 : decode cX7_restore 200 = .ok (.getfield 56, 3) := by decide +kernel
theorem dX7_restore_203 : decode cX7_restore 203 = .ok (.iload_n 2, 1) := by decide +kernel
theorem dX7_restore_204 : decode cX7_restore 204 = .ok (.bipush 68, 2) := by decide +kernel
theorem dX7_restore_206 : decode cX7_restore 206 = .ok (.iadd, 1) := by decide +kernel
theorem dX7_restore_207 : decode cX7_restore 207 = .ok (.iaload, 1) := by decide +kernel
theorem dX7_restore_208 : decode cX7_restore 208 = .ok (.putfield 31, 3) := by decide +kernel
theorem dX7_restore_211 : decode cX7_restore 211 = .ok (.iconst 1, 1) := by decide +kernel
theorem dX7_restore_212 : decode cX7_restore 212 = .ok (.ireturn, 1) := by decide +kernel
theorem dX7_told_0 : decode cX7_told 0 = .ok (.iload_n 1, 1) := by decide +kernel
theorem dX7_told_1 : decode cX7_told 1 = .ok (.bipush 10, 2) := by decide +kernel
theorem dX7_told_3 : decode cX7_told 3 = .ok (.bipush 14, 2) := by decide +kernel
theorem dX7_told_5 : decode cX7_told 5 = .ok (.invokestatic 63, 3) := by decide +kernel
theorem dX7_told_8 : decode cX7_told 8 = .ok (.ifCond .eq 29, 3) := by decide +kernel
theorem dX7_told_11 : decode cX7_told 11 = .ok (.iload_n 1, 1) := by decide +kernel
theorem dX7_told_12 : decode cX7_told 12 = .ok (.bipush 10, 2) := by decide +kernel
theorem dX7_told_14 : decode cX7_told 14 = .ok (.isub, 1) := by decide +kernel
theorem dX7_told_15 : decode cX7_told 15 = .ok (.aload_n 0, 1) := by decide +kernel
theorem dX7_told_16 : decode cX7_told 16 = .ok (.getfield 84, 3) := by decide +kernel
theorem dX7_told_19 : decode cX7_told 19 = .ok (.if_icmp .ge 15, 3) := by decide +kernel
theorem dX7_told_22 : decode cX7_told 22 = .ok (.aload_n 0, 1) := by decide +kernel
theorem dX7_told_23 : decode cX7_told 23 = .ok (.getfield 28, 3) := by decide +kernel
theorem dX7_told_26 : decode cX7_told 26 = .ok (.iload_n 1, 1) := by decide +kernel
theorem dX7_told_27 : decode cX7_told 27 = .ok (.bipush 10, 2) := by decide +kernel
theorem dX7_told_29 : decode cX7_told 29 = .ok (.isub, 1) := by decide +kernel
theorem dX7_told_30 : decode cX7_told 30 = .ok (.iaload, 1) := by decide +kernel
theorem dX7_told_31 : decode cX7_told 31 = .ok (.goto 5, 3) := by decide +kernel
theorem dX7_told_34 : decode cX7_told 34 = .ok (.bipush (-6), 2) := by decide +kernel
theorem dX7_told_36 : decode cX7_told 36 = .ok (.ireturn, 1) := by decide +kernel
theorem dX7_told_37 : decode cX7_told 37 = .ok (.iload_n 1, 1) := by decide +kernel
theorem dX7_told_38 : decode cX7_told 38 = .ok (.bipush 20, 2) := by decide +kernel
theorem dX7_told_40 : decode cX7_told 40 = .ok (.bipush 31, 2) := by decide +kernel
theorem dX7_told_42 : decode cX7_told 42 = .ok (.invokestatic 63, 3) := by decide +kernel
theorem dX7_told_45 : decode cX7_told 45 = .ok (.ifCond .eq 29, 3) := by decide +kernel
theorem dX7_told_48 : decode cX7_told 48 = .ok (.iload_n 1, 1) := by decide +kernel
theorem dX7_told_49 : decode cX7_told 49 = .ok (.bipush 20, 2) := by decide +kernel
theorem dX7_told_51 : decode cX7_told 51 = .ok (.isub, 1) := by decide +kernel
theorem dX7_told_52 : decode cX7_told 52 = .ok (.aload_n 0, 1) := by decide +kernel
theorem dX7_told_53 : decode cX7_told 53 = .ok (.getfield 31, 3) := by decide +kernel
theorem dX7_told_56 : decode cX7_told 56 = .ok (.if_icmp .ge 15, 3) := by decide +kernel
theorem dX7_told_59 : decode cX7_told 59 = .ok (.aload_n 0, 1) := by decide +kernel
theorem dX7_told_60 : decode cX7_told 60 = .ok (.getfield 35, 3) := by decide +kernel
theorem dX7_told_63 : decode cX7_told 63 = .ok (.iload_n 1, 1) := by decide +kernel
theorem dX7_told_64 : decode cX7_told 64 = .ok (.bipush 20, 2) := by decide +kernel
theorem dX7_told_66 : decode cX7_told 66 = .ok (.isub, 1) := by decide +kernel
theorem dX7_told_67 : decode cX7_told 67 = .ok (.iaload, 1) := by decide +kernel
theorem dX7_told_68 : decode cX7_told 68 = .ok (.goto 5, 3) := by decide +kernel
theorem dX7_told_71 : decode cX7_told 71 = .ok (.bipush (-6), 2) := by decide +kernel
theorem dX7_told_73 : decode cX7_told 73 = .ok (.ireturn, 1) := by decide +kernel
theorem dX7_told_74 : decode cX7_told 74 = .ok (.iload_n 1, 1) := by decide +kernel
theorem dX7_told_75 : decode cX7_told 75 = .ok (.ifCond .ne 10, 3) := by decide +kernel
theorem dX7_told_78 : decode cX7_told 78 = .ok (.aload_n 0, 1) := by decide +kernel
theorem dX7_told_79 : decode cX7_told 79 = .ok (.getfield 67, 3) := by decide +kernel
theorem dX7_told_82 : decode cX7_told 82 = .ok (.goto 29, 3) := by decide +kernel
theorem dX7_told_85 : decode cX7_told 85 = .ok (.iload_n 1, 1) := by decide +kernel
theorem dX7_told_86 : decode cX7_told 86 = .ok (.iconst 1, 1) := by decide +kernel
theorem dX7_told_87 : decode cX7_told 87 = .ok (.if_icmp .ne 10, 3) := by decide +kernel
theorem dX7_told_90 : decode cX7_told 90 = .ok (.aload_n 0, 1) := by decide +kernel
theorem dX7_told_91 : decode cX7_told 91 = .ok (.getfield 31, 3) := by decide +kernel
theorem dX7_told_94 : decode cX7_told 94 = .ok (.goto 17, 3) := by decide +kernel
theorem dX7_told_97 : decode cX7_told 97 = .ok (.iload_n 1, 1) := by decide +kernel
theorem dX7_told_98 : decode cX7_told 98 = .ok (.iconst 2, 1) := by decide +kernel
theorem dX7_told_99 : decode cX7_told 99 = .ok (.if_icmp .ne 10, 3) := by decide +kernel
theorem dX7_told_102 : decode cX7_told 102 = .ok (.aload_n 0, 1) := by decide +kernel
theorem dX7_told_103 : decode cX7_told 103 = .ok (.getfield 84, 3) := by decide +kernel
theorem dX7_told_106 : decode cX7_told 106 = .ok (.goto 5, 3) := by decide +kernel
theorem dX7_told_109 : decode cX7_told 109 = .ok (.bipush (-2), 2) := by decide +kernel
theorem dX7_told_111 : decode cX7_told 111 = .ok (.ireturn, 1) := by decide +kernel
theorem dL_law_0 : decode cL_law 0 = .ok (.new 7, 3) := by decide +kernel
theorem dL_law_3 : decode cL_law 3 = .ok (.dup, 1) := by decide +kernel
theorem dL_law_4 : decode cL_law 4 = .ok (.invokespecial 9, 3) := by decide +kernel
theorem dL_law_7 : decode cL_law 7 = .ok (.astore_n 1, 1) := by decide +kernel
theorem dL_law_8 : decode cL_law 8 = .ok (.new 10, 3) := by decide +kernel
theorem dL_law_11 : decode cL_law 11 = .ok (.dup, 1) := by decide +kernel
theorem dL_law_12 : decode cL_law 12 = .ok (.invokespecial 12, 3) := by decide +kernel
theorem dL_law_15 : decode cL_law 15 = .ok (.astore_n 2, 1) := by decide +kernel
theorem dL_law_16 : decode cL_law 16 = .ok (.iconst 0, 1) := by decide +kernel
theorem dL_law_17 : decode cL_law 17 = .ok (.istore_n 3, 1) := by decide +kernel
theorem dL_law_18 : decode cL_law 18 = .ok (.iload_n 3, 1) := by decide +kernel
theorem dL_law_19 : decode cL_law 19 = .ok (.aload_n 0, 1) := by decide +kernel
theorem dL_law_20 : decode cL_law 20 = .ok (.arraylength, 1) := by decide +kernel
theorem dL_law_21 : decode cL_law 21 = .ok (.iconst 3, 1) := by decide +kernel
theorem dL_law_22 : decode cL_law 22 = .ok (.isub, 1) := by decide +kernel
theorem dL_law_23 : decode cL_law 23 = .ok (.if_icmp .gt 595, 3) := by decide +kernel
theorem dL_law_26 : decode cL_law 26 = .ok (.aload_n 0, 1) := by decide +kernel
theorem dL_law_27 : decode cL_law 27 = .ok (.iload_n 3, 1) := by decide +kernel
theorem dL_law_28 : decode cL_law 28 = .ok (.iaload, 1) := by decide +kernel
theorem dL_law_29 : decode cL_law 29 = .ok (.bipush 31, 2) := by decide +kernel
theorem dL_law_31 : decode cL_law 31 = .ok (.iand, 1) := by decide +kernel
theorem dL_law_32 : decode cL_law 32 = .ok (.tableswitch 580 0 21 #[104, 127, 140, 153, 176, 209, 232, 245, 258, 291, 304, 327, 350, 363, 386, 409, 442, 465, 488, 511, 534, 557], 104) := by decide +kernel
theorem dL_law_136 : decode cL_law 136 = .ok (.aload_n 1, 1) := by decide +kernel
theorem dL_law_137 : decode cL_law 137 = .ok (.aload_n 0, 1) := by decide +kernel
theorem dL_law_138 : decode cL_law 138 = .ok (.iload_n 3, 1) := by decide +kernel
theorem dL_law_139 : decode cL_law 139 = .ok (.iconst 1, 1) := by decide +kernel
theorem dL_law_140 : decode cL_law 140 = .ok (.iadd, 1) := by decide +kernel
theorem dL_law_141 : decode cL_law 141 = .ok (.iaload, 1) := by decide +kernel
theorem dL_law_142 : decode cL_law 142 = .ok (.invokevirtual 13, 3) := by decide +kernel
theorem dL_law_145 : decode cL_law 145 = .ok (.aload_n 2, 1) := by decide +kernel
theorem dL_law_146 : decode cL_law 146 = .ok (.aload_n 0, 1) := by decide +kernel
theorem dL_law_147 : decode cL_law 147 = .ok (.iload_n 3, 1) := by decide +kernel
theorem dL_law_148 : decode cL_law 148 = .ok (.iconst 1, 1) := by decide +kernel
theorem dL_law_149 : decode cL_law 149 = .ok (.iadd, 1) := by decide +kernel
theorem dL_law_150 : decode cL_law 150 = .ok (.iaload, 1) := by decide +kernel
theorem dL_law_151 : decode cL_law 151 = .ok (.invokevirtual 17, 3) := by decide +kernel
theorem dL_law_154 : decode cL_law 154 = .ok (.if_icmp .eq 458, 3) := by decide +kernel
theorem dL_law_157 : decode cL_law 157 = .ok (.iconst 0, 1) := by decide +kernel
theorem dL_law_158 : decode cL_law 158 = .ok (.ireturn, 1) := by decide +kernel
theorem dL_law_159 : decode cL_law 159 = .ok (.aload_n 1, 1) := by decide +kernel
theorem dL_law_160 : decode cL_law 160 = .ok (.invokevirtual 18, 3) := by decide +kernel
theorem dL_law_163 : decode cL_law 163 = .ok (.aload_n 2, 1) := by decide +kernel
theorem dL_law_164 : decode cL_law 164 = .ok (.invokevirtual 22, 3) := by decide +kernel
theorem dL_law_167 : decode cL_law 167 = .ok (.if_icmp .eq 445, 3) := by decide +kernel
theorem dL_law_170 : decode cL_law 170 = .ok (.iconst 0, 1) := by decide +kernel
theorem dL_law_171 : decode cL_law 171 = .ok (.ireturn, 1) := by decide +kernel
theorem dL_law_172 : decode cL_law 172 = .ok (.aload_n 1, 1) := by decide +kernel
theorem dL_law_173 : decode cL_law 173 = .ok (.invokevirtual 23, 3) := by decide +kernel
theorem dL_law_176 : decode cL_law 176 = .ok (.aload_n 2, 1) := by decide +kernel
theorem dL_law_177 : decode cL_law 177 = .ok (.invokevirtual 26, 3) := by decide +kernel
theorem dL_law_180 : decode cL_law 180 = .ok (.if_icmp .eq 432, 3) := by decide +kernel
theorem dL_law_183 : decode cL_law 183 = .ok (.iconst 0, 1) := by decide +kernel
theorem dL_law_184 : decode cL_law 184 = .ok (.ireturn, 1) := by decide +kernel
theorem dL_law_185 : decode cL_law 185 = .ok (.aload_n 1, 1) := by decide +kernel
theorem dL_law_186 : decode cL_law 186 = .ok (.aload_n 0, 1) := by decide +kernel
theorem dL_law_187 : decode cL_law 187 = .ok (.iload_n 3, 1) := by decide +kernel
theorem dL_law_188 : decode cL_law 188 = .ok (.iconst 1, 1) := by decide +kernel
theorem dL_law_189 : decode cL_law 189 = .ok (.iadd, 1) := by decide +kernel
theorem dL_law_190 : decode cL_law 190 = .ok (.iaload, 1) := by decide +kernel
theorem dL_law_191 : decode cL_law 191 = .ok (.invokevirtual 27, 3) := by decide +kernel
theorem dL_law_194 : decode cL_law 194 = .ok (.aload_n 2, 1) := by decide +kernel
theorem dL_law_195 : decode cL_law 195 = .ok (.aload_n 0, 1) := by decide +kernel
theorem dL_law_196 : decode cL_law 196 = .ok (.iload_n 3, 1) := by decide +kernel
theorem dL_law_197 : decode cL_law 197 = .ok (.iconst 1, 1) := by decide +kernel
theorem dL_law_198 : decode cL_law 198 = .ok (.iadd, 1) := by decide +kernel
theorem dL_law_199 : decode cL_law 199 = .ok (.iaload, 1) := by decide +kernel
theorem dL_law_200 : decode cL_law 200 = .ok (.invokevirtual 30, 3) := by decide +kernel
theorem dL_law_203 : decode cL_law 203 = .ok (.if_icmp .eq 409, 3) := by decide +kernel
theorem dL_law_206 : decode cL_law 206 = .ok (.iconst 0, 1) := by decide +kernel
theorem dL_law_207 : decode cL_law 207 = .ok (.ireturn, 1) := by decide +kernel
theorem dL_law_208 : decode cL_law 208 = .ok (.aload_n 1, 1) := by decide +kernel
theorem dL_law_209 : decode cL_law 209 = .ok (.aload_n 0, 1) := by decide +kernel
theorem dL_law_210 : decode cL_law 210 = .ok (.iload_n 3, 1) := by decide +kernel
theorem dL_law_211 : decode cL_law 211 = .ok (.iconst 1, 1) := by decide +kernel
theorem dL_law_212 : decode cL_law 212 = .ok (.iadd, 1) := by decide +kernel
theorem dL_law_213 : decode cL_law 213 = .ok (.iaload, 1) := by decide +kernel
theorem dL_law_214 : decode cL_law 214 = .ok (.aload_n 0, 1) := by decide +kernel
theorem dL_law_215 : decode cL_law 215 = .ok (.iload_n 3, 1) := by decide +kernel
theorem dL_law_216 : decode cL_law 216 = .ok (.iconst 2, 1) := by decide +kernel
theorem dL_law_217 : decode cL_law 217 = .ok (.iadd, 1) := by decide +kernel
theorem dL_law_218 : decode cL_law 218 = .ok (.iaload, 1) := by decide +kernel
theorem dL_law_219 : decode cL_law 219 = .ok (.invokevirtual 31, 3) := by decide +kernel
theorem dL_law_222 : decode cL_law 222 = .ok (.aload_n 2, 1) := by decide +kernel
theorem dL_law_223 : decode cL_law 223 = .ok (.aload_n 0, 1) := by decide +kernel
theorem dL_law_224 : decode cL_law 224 = .ok (.iload_n 3, 1) := by decide +kernel
theorem dL_law_225 : decode cL_law 225 = .ok (.iconst 1, 1) := by decide +kernel
theorem dL_law_226 : decode cL_law 226 = .ok (.iadd, 1) := by decide +kernel
theorem dL_law_227 : decode cL_law 227 = .ok (.iaload, 1) := by decide +kernel
theorem dL_law_228 : decode cL_law 228 = .ok (.aload_n 0, 1) := by decide +kernel
theorem dL_law_229 : decode cL_law 229 = .ok (.iload_n 3, 1) := by decide +kernel
theorem dL_law_230 : decode cL_law 230 = .ok (.iconst 2, 1) := by decide +kernel
theorem dL_law_231 : decode cL_law 231 = .ok (.iadd, 1) := by decide +kernel
theorem dL_law_232 : decode cL_law 232 = .ok (.iaload, 1) := by decide +kernel
theorem dL_law_233 : decode cL_law 233 = .ok (.invokevirtual 35, 3) := by decide +kernel
theorem dL_law_236 : decode cL_law 236 = .ok (.if_icmp .eq 376, 3) := by decide +kernel
theorem dL_law_239 : decode cL_law 239 = .ok (.iconst 0, 1) := by decide +kernel
theorem dL_law_240 : decode cL_law 240 = .ok (.ireturn, 1) := by decide +kernel
theorem dL_law_241 : decode cL_law 241 = .ok (.aload_n 1, 1) := by decide +kernel
theorem dL_law_242 : decode cL_law 242 = .ok (.aload_n 0, 1) := by decide +kernel
theorem dL_law_243 : decode cL_law 243 = .ok (.iload_n 3, 1) := by decide +kernel
theorem dL_law_244 : decode cL_law 244 = .ok (.iconst 1, 1) := by decide +kernel
theorem dL_law_245 : decode cL_law 245 = .ok (.iadd, 1) := by decide +kernel
theorem dL_law_246 : decode cL_law 246 = .ok (.iaload, 1) := by decide +kernel
theorem dL_law_247 : decode cL_law 247 = .ok (.invokevirtual 36, 3) := by decide +kernel
theorem dL_law_250 : decode cL_law 250 = .ok (.aload_n 2, 1) := by decide +kernel
theorem dL_law_251 : decode cL_law 251 = .ok (.aload_n 0, 1) := by decide +kernel
theorem dL_law_252 : decode cL_law 252 = .ok (.iload_n 3, 1) := by decide +kernel
theorem dL_law_253 : decode cL_law 253 = .ok (.iconst 1, 1) := by decide +kernel
theorem dL_law_254 : decode cL_law 254 = .ok (.iadd, 1) := by decide +kernel
theorem dL_law_255 : decode cL_law 255 = .ok (.iaload, 1) := by decide +kernel
theorem dL_law_256 : decode cL_law 256 = .ok (.invokevirtual 39, 3) := by decide +kernel
theorem dL_law_259 : decode cL_law 259 = .ok (.if_icmp .eq 353, 3) := by decide +kernel
theorem dL_law_262 : decode cL_law 262 = .ok (.iconst 0, 1) := by decide +kernel
theorem dL_law_263 : decode cL_law 263 = .ok (.ireturn, 1) := by decide +kernel
theorem dL_law_264 : decode cL_law 264 = .ok (.aload_n 1, 1) := by decide +kernel
theorem dL_law_265 : decode cL_law 265 = .ok (.invokevirtual 40, 3) := by decide +kernel
theorem dL_law_268 : decode cL_law 268 = .ok (.aload_n 2, 1) := by decide +kernel
theorem dL_law_269 : decode cL_law 269 = .ok (.invokevirtual 43, 3) := by decide +kernel
theorem dL_law_272 : decode cL_law 272 = .ok (.if_icmp .eq 340, 3) := by decide +kernel
theorem dL_law_275 : decode cL_law 275 = .ok (.iconst 0, 1) := by decide +kernel
theorem dL_law_276 : decode cL_law 276 = .ok (.ireturn, 1) := by decide +kernel
theorem dL_law_277 : decode cL_law 277 = .ok (.aload_n 1, 1) := by decide +kernel
theorem dL_law_278 : decode cL_law 278 = .ok (.invokevirtual 44, 3) := by decide +kernel
theorem dL_law_281 : decode cL_law 281 = .ok (.aload_n 2, 1) := by decide +kernel
theorem dL_law_282 : decode cL_law 282 = .ok (.invokevirtual 47, 3) := by decide +kernel
theorem dL_law_285 : decode cL_law 285 = .ok (.if_icmp .eq 327, 3) := by decide +kernel
theorem dL_law_288 : decode cL_law 288 = .ok (.iconst 0, 1) := by decide +kernel
theorem dL_law_289 : decode cL_law 289 = .ok (.ireturn, 1) := by decide +kernel
theorem dL_law_290 : decode cL_law 290 = .ok (.aload_n 1, 1) := by decide +kernel
theorem dL_law_291 : decode cL_law 291 = .ok (.aload_n 0, 1) := by decide +kernel
theorem dL_law_292 : decode cL_law 292 = .ok (.iload_n 3, 1) := by decide +kernel
theorem dL_law_293 : decode cL_law 293 = .ok (.iconst 1, 1) := by decide +kernel
theorem dL_law_294 : decode cL_law 294 = .ok (.iadd, 1) := by decide +kernel
theorem dL_law_295 : decode cL_law 295 = .ok (.iaload, 1) := by decide +kernel
theorem dL_law_296 : decode cL_law 296 = .ok (.aload_n 0, 1) := by decide +kernel
theorem dL_law_297 : decode cL_law 297 = .ok (.iload_n 3, 1) := by decide +kernel
theorem dL_law_298 : decode cL_law 298 = .ok (.iconst 2, 1) := by decide +kernel
theorem dL_law_299 : decode cL_law 299 = .ok (.iadd, 1) := by decide +kernel
theorem dL_law_300 : decode cL_law 300 = .ok (.iaload, 1) := by decide +kernel
theorem dL_law_301 : decode cL_law 301 = .ok (.invokevirtual 48, 3) := by decide +kernel
theorem dL_law_304 : decode cL_law 304 = .ok (.aload_n 2, 1) := by decide +kernel
theorem dL_law_305 : decode cL_law 305 = .ok (.aload_n 0, 1) := by decide +kernel
theorem dL_law_306 : decode cL_law 306 = .ok (.iload_n 3, 1) := by decide +kernel
theorem dL_law_307 : decode cL_law 307 = .ok (.iconst 1, 1) := by decide +kernel
theorem dL_law_308 : decode cL_law 308 = .ok (.iadd, 1) := by decide +kernel
theorem dL_law_309 : decode cL_law 309 = .ok (.iaload, 1) := by decide +kernel
theorem dL_law_310 : decode cL_law 310 = .ok (.aload_n 0, 1) := by decide +kernel
theorem dL_law_311 : decode cL_law 311 = .ok (.iload_n 3, 1) := by decide +kernel
theorem dL_law_312 : decode cL_law 312 = .ok (.iconst 2, 1) := by decide +kernel
theorem dL_law_313 : decode cL_law 313 = .ok (.iadd, 1) := by decide +kernel
theorem dL_law_314 : decode cL_law 314 = .ok (.iaload, 1) := by decide +kernel
theorem dL_law_315 : decode cL_law 315 = .ok (.invokevirtual 51, 3) := by decide +kernel
theorem dL_law_318 : decode cL_law 318 = .ok (.if_icmp .eq 294, 3) := by decide +kernel
theorem dL_law_321 : decode cL_law 321 = .ok (.iconst 0, 1) := by decide +kernel
theorem dL_law_322 : decode cL_law 322 = .ok (.ireturn, 1) := by decide +kernel
theorem dL_law_323 : decode cL_law 323 = .ok (.aload_n 1, 1) := by decide +kernel
theorem dL_law_324 : decode cL_law 324 = .ok (.invokevirtual 52, 3) := by decide +kernel
theorem dL_law_327 : decode cL_law 327 = .ok (.aload_n 2, 1) := by decide +kernel
theorem dL_law_328 : decode cL_law 328 = .ok (.invokevirtual 55, 3) := by decide +kernel
theorem dL_law_331 : decode cL_law 331 = .ok (.if_icmp .eq 281, 3) := by decide +kernel
theorem dL_law_334 : decode cL_law 334 = .ok (.iconst 0, 1) := by decide +kernel
theorem dL_law_335 : decode cL_law 335 = .ok (.ireturn, 1) := by decide +kernel
theorem dL_law_336 : decode cL_law 336 = .ok (.aload_n 1, 1) := by decide +kernel
theorem dL_law_337 : decode cL_law 337 = .ok (.aload_n 0, 1) := by decide +kernel
theorem dL_law_338 : decode cL_law 338 = .ok (.iload_n 3, 1) := by decide +kernel
theorem dL_law_339 : decode cL_law 339 = .ok (.iconst 1, 1) := by decide +kernel
theorem dL_law_340 : decode cL_law 340 = .ok (.iadd, 1) := by decide +kernel
theorem dL_law_341 : decode cL_law 341 = .ok (.iaload, 1) := by decide +kernel
theorem dL_law_342 : decode cL_law 342 = .ok (.invokevirtual 56, 3) := by decide +kernel
theorem dL_law_345 : decode cL_law 345 = .ok (.aload_n 2, 1) := by decide +kernel
theorem dL_law_346 : decode cL_law 346 = .ok (.aload_n 0, 1) := by decide +kernel
theorem dL_law_347 : decode cL_law 347 = .ok (.iload_n 3, 1) := by decide +kernel
theorem dL_law_348 : decode cL_law 348 = .ok (.iconst 1, 1) := by decide +kernel
theorem dL_law_349 : decode cL_law 349 = .ok (.iadd, 1) := by decide +kernel
theorem dL_law_350 : decode cL_law 350 = .ok (.iaload, 1) := by decide +kernel
theorem dL_law_351 : decode cL_law 351 = .ok (.invokevirtual 59, 3) := by decide +kernel
theorem dL_law_354 : decode cL_law 354 = .ok (.if_icmp .eq 258, 3) := by decide +kernel
theorem dL_law_357 : decode cL_law 357 = .ok (.iconst 0, 1) := by decide +kernel
theorem dL_law_358 : decode cL_law 358 = .ok (.ireturn, 1) := by decide +kernel
theorem dL_law_359 : decode cL_law 359 = .ok (.aload_n 1, 1) := by decide +kernel
theorem dL_law_360 : decode cL_law 360 = .ok (.aload_n 0, 1) := by decide +kernel
theorem dL_law_361 : decode cL_law 361 = .ok (.iload_n 3, 1) := by decide +kernel
theorem dL_law_362 : decode cL_law 362 = .ok (.iconst 1, 1) := by decide +kernel
theorem dL_law_363 : decode cL_law 363 = .ok (.iadd, 1) := by decide +kernel
theorem dL_law_364 : decode cL_law 364 = .ok (.iaload, 1) := by decide +kernel
theorem dL_law_365 : decode cL_law 365 = .ok (.invokevirtual 60, 3) := by decide +kernel
theorem dL_law_368 : decode cL_law 368 = .ok (.aload_n 2, 1) := by decide +kernel
theorem dL_law_369 : decode cL_law 369 = .ok (.aload_n 0, 1) := by decide +kernel
theorem dL_law_370 : decode cL_law 370 = .ok (.iload_n 3, 1) := by decide +kernel
theorem dL_law_371 : decode cL_law 371 = .ok (.iconst 1, 1) := by decide +kernel
theorem dL_law_372 : decode cL_law 372 = .ok (.iadd, 1) := by decide +kernel
theorem dL_law_373 : decode cL_law 373 = .ok (.iaload, 1) := by decide +kernel
theorem dL_law_374 : decode cL_law 374 = .ok (.invokevirtual 63, 3) := by decide +kernel
theorem dL_law_377 : decode cL_law 377 = .ok (.if_icmp .eq 235, 3) := by decide +kernel
theorem dL_law_380 : decode cL_law 380 = .ok (.iconst 0, 1) := by decide +kernel
theorem dL_law_381 : decode cL_law 381 = .ok (.ireturn, 1) := by decide +kernel
theorem dL_law_382 : decode cL_law 382 = .ok (.aload_n 1, 1) := by decide +kernel
theorem dL_law_383 : decode cL_law 383 = .ok (.invokevirtual 64, 3) := by decide +kernel
theorem dL_law_386 : decode cL_law 386 = .ok (.aload_n 2, 1) := by decide +kernel
theorem dL_law_387 : decode cL_law 387 = .ok (.invokevirtual 67, 3) := by decide +kernel
theorem dL_law_390 : decode cL_law 390 = .ok (.if_icmp .eq 222, 3) := by decide +kernel
theorem dL_law_393 : decode cL_law 393 = .ok (.iconst 0, 1) := by decide +kernel
theorem dL_law_394 : decode cL_law 394 = .ok (.ireturn, 1) := by decide +kernel
theorem dL_law_395 : decode cL_law 395 = .ok (.aload_n 1, 1) := by decide +kernel
theorem dL_law_396 : decode cL_law 396 = .ok (.aload_n 0, 1) := by decide +kernel
theorem dL_law_397 : decode cL_law 397 = .ok (.iload_n 3, 1) := by decide +kernel
theorem dL_law_398 : decode cL_law 398 = .ok (.iconst 1, 1) := by decide +kernel
theorem dL_law_399 : decode cL_law 399 = .ok (.iadd, 1) := by decide +kernel
theorem dL_law_400 : decode cL_law 400 = .ok (.iaload, 1) := by decide +kernel
theorem dL_law_401 : decode cL_law 401 = .ok (.invokevirtual 68, 3) := by decide +kernel
theorem dL_law_404 : decode cL_law 404 = .ok (.aload_n 2, 1) := by decide +kernel
theorem dL_law_405 : decode cL_law 405 = .ok (.aload_n 0, 1) := by decide +kernel
theorem dL_law_406 : decode cL_law 406 = .ok (.iload_n 3, 1) := by decide +kernel
theorem dL_law_407 : decode cL_law 407 = .ok (.iconst 1, 1) := by decide +kernel
theorem dL_law_408 : decode cL_law 408 = .ok (.iadd, 1) := by decide +kernel
theorem dL_law_409 : decode cL_law 409 = .ok (.iaload, 1) := by decide +kernel
theorem dL_law_410 : decode cL_law 410 = .ok (.invokevirtual 71, 3) := by decide +kernel
theorem dL_law_413 : decode cL_law 413 = .ok (.if_icmp .eq 199, 3) := by decide +kernel
theorem dL_law_416 : decode cL_law 416 = .ok (.iconst 0, 1) := by decide +kernel
theorem dL_law_417 : decode cL_law 417 = .ok (.ireturn, 1) := by decide +kernel
theorem dL_law_418 : decode cL_law 418 = .ok (.aload_n 1, 1) := by decide +kernel
theorem dL_law_419 : decode cL_law 419 = .ok (.aload_n 0, 1) := by decide +kernel
theorem dL_law_420 : decode cL_law 420 = .ok (.iload_n 3, 1) := by decide +kernel
theorem dL_law_421 : decode cL_law 421 = .ok (.iconst 1, 1) := by decide +kernel
theorem dL_law_422 : decode cL_law 422 = .ok (.iadd, 1) := by decide +kernel
theorem dL_law_423 : decode cL_law 423 = .ok (.iaload, 1) := by decide +kernel
theorem dL_law_424 : decode cL_law 424 = .ok (.invokevirtual 72, 3) := by decide +kernel
theorem dL_law_427 : decode cL_law 427 = .ok (.aload_n 2, 1) := by decide +kernel
theorem dL_law_428 : decode cL_law 428 = .ok (.aload_n 0, 1) := by decide +kernel
theorem dL_law_429 : decode cL_law 429 = .ok (.iload_n 3, 1) := by decide +kernel
theorem dL_law_430 : decode cL_law 430 = .ok (.iconst 1, 1) := by decide +kernel
theorem dL_law_431 : decode cL_law 431 = .ok (.iadd, 1) := by decide +kernel
theorem dL_law_432 : decode cL_law 432 = .ok (.iaload, 1) := by decide +kernel
theorem dL_law_433 : decode cL_law 433 = .ok (.invokevirtual 75, 3) := by decide +kernel
theorem dL_law_436 : decode cL_law 436 = .ok (.if_icmp .eq 176, 3) := by decide +kernel
theorem dL_law_439 : decode cL_law 439 = .ok (.iconst 0, 1) := by decide +kernel
theorem dL_law_440 : decode cL_law 440 = .ok (.ireturn, 1) := by decide +kernel
theorem dL_law_441 : decode cL_law 441 = .ok (.aload_n 1, 1) := by decide +kernel
theorem dL_law_442 : decode cL_law 442 = .ok (.aload_n 0, 1) := by decide +kernel
theorem dL_law_443 : decode cL_law 443 = .ok (.iload_n 3, 1) := by decide +kernel
theorem dL_law_444 : decode cL_law 444 = .ok (.iconst 1, 1) := by decide +kernel
theorem dL_law_445 : decode cL_law 445 = .ok (.iadd, 1) := by decide +kernel
theorem dL_law_446 : decode cL_law 446 = .ok (.iaload, 1) := by decide +kernel
theorem dL_law_447 : decode cL_law 447 = .ok (.aload_n 0, 1) := by decide +kernel
theorem dL_law_448 : decode cL_law 448 = .ok (.iload_n 3, 1) := by decide +kernel
theorem dL_law_449 : decode cL_law 449 = .ok (.iconst 2, 1) := by decide +kernel
theorem dL_law_450 : decode cL_law 450 = .ok (.iadd, 1) := by decide +kernel
theorem dL_law_451 : decode cL_law 451 = .ok (.iaload, 1) := by decide +kernel
theorem dL_law_452 : decode cL_law 452 = .ok (.invokevirtual 76, 3) := by decide +kernel
theorem dL_law_455 : decode cL_law 455 = .ok (.aload_n 2, 1) := by decide +kernel
theorem dL_law_456 : decode cL_law 456 = .ok (.aload_n 0, 1) := by decide +kernel
theorem dL_law_457 : decode cL_law 457 = .ok (.iload_n 3, 1) := by decide +kernel
theorem dL_law_458 : decode cL_law 458 = .ok (.iconst 1, 1) := by decide +kernel
theorem dL_law_459 : decode cL_law 459 = .ok (.iadd, 1) := by decide +kernel
theorem dL_law_460 : decode cL_law 460 = .ok (.iaload, 1) := by decide +kernel
theorem dL_law_461 : decode cL_law 461 = .ok (.aload_n 0, 1) := by decide +kernel
theorem dL_law_462 : decode cL_law 462 = .ok (.iload_n 3, 1) := by decide +kernel
theorem dL_law_463 : decode cL_law 463 = .ok (.iconst 2, 1) := by decide +kernel
theorem dL_law_464 : decode cL_law 464 = .ok (.iadd, 1) := by decide +kernel
theorem dL_law_465 : decode cL_law 465 = .ok (.iaload, 1) := by decide +kernel
theorem dL_law_466 : decode cL_law 466 = .ok (.invokevirtual 79, 3) := by decide +kernel
theorem dL_law_469 : decode cL_law 469 = .ok (.if_icmp .eq 143, 3) := by decide +kernel
theorem dL_law_472 : decode cL_law 472 = .ok (.iconst 0, 1) := by decide +kernel
theorem dL_law_473 : decode cL_law 473 = .ok (.ireturn, 1) := by decide +kernel
theorem dL_law_474 : decode cL_law 474 = .ok (.aload_n 1, 1) := by decide +kernel
theorem dL_law_475 : decode cL_law 475 = .ok (.aload_n 0, 1) := by decide +kernel
theorem dL_law_476 : decode cL_law 476 = .ok (.iload_n 3, 1) := by decide +kernel
theorem dL_law_477 : decode cL_law 477 = .ok (.iconst 1, 1) := by decide +kernel
theorem dL_law_478 : decode cL_law 478 = .ok (.iadd, 1) := by decide +kernel
theorem dL_law_479 : decode cL_law 479 = .ok (.iaload, 1) := by decide +kernel
theorem dL_law_480 : decode cL_law 480 = .ok (.invokevirtual 80, 3) := by decide +kernel
theorem dL_law_483 : decode cL_law 483 = .ok (.aload_n 2, 1) := by decide +kernel
theorem dL_law_484 : decode cL_law 484 = .ok (.aload_n 0, 1) := by decide +kernel
theorem dL_law_485 : decode cL_law 485 = .ok (.iload_n 3, 1) := by decide +kernel
theorem dL_law_486 : decode cL_law 486 = .ok (.iconst 1, 1) := by decide +kernel
theorem dL_law_487 : decode cL_law 487 = .ok (.iadd, 1) := by decide +kernel
theorem dL_law_488 : decode cL_law 488 = .ok (.iaload, 1) := by decide +kernel
theorem dL_law_489 : decode cL_law 489 = .ok (.invokevirtual 83, 3) := by decide +kernel
theorem dL_law_492 : decode cL_law 492 = .ok (.if_icmp .eq 120, 3) := by decide +kernel
theorem dL_law_495 : decode cL_law 495 = .ok (.iconst 0, 1) := by decide +kernel
theorem dL_law_496 : decode cL_law 496 = .ok (.ireturn, 1) := by decide +kernel
theorem dL_law_497 : decode cL_law 497 = .ok (.aload_n 1, 1) := by decide +kernel
theorem dL_law_498 : decode cL_law 498 = .ok (.aload_n 0, 1) := by decide +kernel
theorem dL_law_499 : decode cL_law 499 = .ok (.iload_n 3, 1) := by decide +kernel
theorem dL_law_500 : decode cL_law 500 = .ok (.iconst 1, 1) := by decide +kernel
theorem dL_law_501 : decode cL_law 501 = .ok (.iadd, 1) := by decide +kernel
theorem dL_law_502 : decode cL_law 502 = .ok (.iaload, 1) := by decide +kernel
theorem dL_law_503 : decode cL_law 503 = .ok (.invokevirtual 84, 3) := by decide +kernel
theorem dL_law_506 : decode cL_law 506 = .ok (.aload_n 2, 1) := by decide +kernel
theorem dL_law_507 : decode cL_law 507 = .ok (.aload_n 0, 1) := by decide +kernel
theorem dL_law_508 : decode cL_law 508 = .ok (.iload_n 3, 1) := by decide +kernel
theorem dL_law_509 : decode cL_law 509 = .ok (.iconst 1, 1) := by decide +kernel
theorem dL_law_510 : decode cL_law 510 = .ok (.iadd, 1) := by decide +kernel
theorem dL_law_511 : decode cL_law 511 = .ok (.iaload, 1) := by decide +kernel
theorem dL_law_512 : decode cL_law 512 = .ok (.invokevirtual 87, 3) := by decide +kernel
theorem dL_law_515 : decode cL_law 515 = .ok (.if_icmp .eq 97, 3) := by decide +kernel
theorem dL_law_518 : decode cL_law 518 = .ok (.iconst 0, 1) := by decide +kernel
theorem dL_law_519 : decode cL_law 519 = .ok (.ireturn, 1) := by decide +kernel
theorem dL_law_520 : decode cL_law 520 = .ok (.aload_n 1, 1) := by decide +kernel
theorem dL_law_521 : decode cL_law 521 = .ok (.aload_n 0, 1) := by decide +kernel
theorem dL_law_522 : decode cL_law 522 = .ok (.iload_n 3, 1) := by decide +kernel
theorem dL_law_523 : decode cL_law 523 = .ok (.iconst 1, 1) := by decide +kernel
theorem dL_law_524 : decode cL_law 524 = .ok (.iadd, 1) := by decide +kernel
theorem dL_law_525 : decode cL_law 525 = .ok (.iaload, 1) := by decide +kernel
theorem dL_law_526 : decode cL_law 526 = .ok (.invokevirtual 88, 3) := by decide +kernel
theorem dL_law_529 : decode cL_law 529 = .ok (.aload_n 2, 1) := by decide +kernel
theorem dL_law_530 : decode cL_law 530 = .ok (.aload_n 0, 1) := by decide +kernel
theorem dL_law_531 : decode cL_law 531 = .ok (.iload_n 3, 1) := by decide +kernel
theorem dL_law_532 : decode cL_law 532 = .ok (.iconst 1, 1) := by decide +kernel
theorem dL_law_533 : decode cL_law 533 = .ok (.iadd, 1) := by decide +kernel
theorem dL_law_534 : decode cL_law 534 = .ok (.iaload, 1) := by decide +kernel
theorem dL_law_535 : decode cL_law 535 = .ok (.invokevirtual 91, 3) := by decide +kernel
theorem dL_law_538 : decode cL_law 538 = .ok (.if_icmp .eq 74, 3) := by decide +kernel
theorem dL_law_541 : decode cL_law 541 = .ok (.iconst 0, 1) := by decide +kernel
theorem dL_law_542 : decode cL_law 542 = .ok (.ireturn, 1) := by decide +kernel
theorem dL_law_543 : decode cL_law 543 = .ok (.aload_n 1, 1) := by decide +kernel
theorem dL_law_544 : decode cL_law 544 = .ok (.aload_n 0, 1) := by decide +kernel
theorem dL_law_545 : decode cL_law 545 = .ok (.iload_n 3, 1) := by decide +kernel
theorem dL_law_546 : decode cL_law 546 = .ok (.iconst 1, 1) := by decide +kernel
theorem dL_law_547 : decode cL_law 547 = .ok (.iadd, 1) := by decide +kernel
theorem dL_law_548 : decode cL_law 548 = .ok (.iaload, 1) := by decide +kernel
theorem dL_law_549 : decode cL_law 549 = .ok (.invokevirtual 92, 3) := by decide +kernel
theorem dL_law_552 : decode cL_law 552 = .ok (.aload_n 2, 1) := by decide +kernel
theorem dL_law_553 : decode cL_law 553 = .ok (.aload_n 0, 1) := by decide +kernel
theorem dL_law_554 : decode cL_law 554 = .ok (.iload_n 3, 1) := by decide +kernel
theorem dL_law_555 : decode cL_law 555 = .ok (.iconst 1, 1) := by decide +kernel
theorem dL_law_556 : decode cL_law 556 = .ok (.iadd, 1) := by decide +kernel
theorem dL_law_557 : decode cL_law 557 = .ok (.iaload, 1) := by decide +kernel
theorem dL_law_558 : decode cL_law 558 = .ok (.invokevirtual 95, 3) := by decide +kernel
theorem dL_law_561 : decode cL_law 561 = .ok (.if_icmp .eq 51, 3) := by decide +kernel
theorem dL_law_564 : decode cL_law 564 = .ok (.iconst 0, 1) := by decide +kernel
theorem dL_law_565 : decode cL_law 565 = .ok (.ireturn, 1) := by decide +kernel
theorem dL_law_566 : decode cL_law 566 = .ok (.aload_n 1, 1) := by decide +kernel
theorem dL_law_567 : decode cL_law 567 = .ok (.aload_n 0, 1) := by decide +kernel
theorem dL_law_568 : decode cL_law 568 = .ok (.iload_n 3, 1) := by decide +kernel
theorem dL_law_569 : decode cL_law 569 = .ok (.iconst 1, 1) := by decide +kernel
theorem dL_law_570 : decode cL_law 570 = .ok (.iadd, 1) := by decide +kernel
theorem dL_law_571 : decode cL_law 571 = .ok (.iaload, 1) := by decide +kernel
theorem dL_law_572 : decode cL_law 572 = .ok (.invokevirtual 96, 3) := by decide +kernel
theorem dL_law_575 : decode cL_law 575 = .ok (.aload_n 2, 1) := by decide +kernel
theorem dL_law_576 : decode cL_law 576 = .ok (.aload_n 0, 1) := by decide +kernel
theorem dL_law_577 : decode cL_law 577 = .ok (.iload_n 3, 1) := by decide +kernel
theorem dL_law_578 : decode cL_law 578 = .ok (.iconst 1, 1) := by decide +kernel
theorem dL_law_579 : decode cL_law 579 = .ok (.iadd, 1) := by decide +kernel
theorem dL_law_580 : decode cL_law 580 = .ok (.iaload, 1) := by decide +kernel
theorem dL_law_581 : decode cL_law 581 = .ok (.invokevirtual 99, 3) := by decide +kernel
theorem dL_law_584 : decode cL_law 584 = .ok (.if_icmp .eq 28, 3) := by decide +kernel
theorem dL_law_587 : decode cL_law 587 = .ok (.iconst 0, 1) := by decide +kernel
theorem dL_law_588 : decode cL_law 588 = .ok (.ireturn, 1) := by decide +kernel
theorem dL_law_589 : decode cL_law 589 = .ok (.aload_n 1, 1) := by decide +kernel
theorem dL_law_590 : decode cL_law 590 = .ok (.aload_n 0, 1) := by decide +kernel
theorem dL_law_591 : decode cL_law 591 = .ok (.iload_n 3, 1) := by decide +kernel
theorem dL_law_592 : decode cL_law 592 = .ok (.iconst 1, 1) := by decide +kernel
theorem dL_law_593 : decode cL_law 593 = .ok (.iadd, 1) := by decide +kernel
theorem dL_law_594 : decode cL_law 594 = .ok (.iaload, 1) := by decide +kernel
theorem dL_law_595 : decode cL_law 595 = .ok (.invokevirtual 100, 3) := by decide +kernel
theorem dL_law_598 : decode cL_law 598 = .ok (.aload_n 2, 1) := by decide +kernel
theorem dL_law_599 : decode cL_law 599 = .ok (.aload_n 0, 1) := by decide +kernel
theorem dL_law_600 : decode cL_law 600 = .ok (.iload_n 3, 1) := by decide +kernel
theorem dL_law_601 : decode cL_law 601 = .ok (.iconst 1, 1) := by decide +kernel
theorem dL_law_602 : decode cL_law 602 = .ok (.iadd, 1) := by decide +kernel
theorem dL_law_603 : decode cL_law 603 = .ok (.iaload, 1) := by decide +kernel
theorem dL_law_604 : decode cL_law 604 = .ok (.invokevirtual 103, 3) := by decide +kernel
theorem dL_law_607 : decode cL_law 607 = .ok (.if_icmp .eq 5, 3) := by decide +kernel
theorem dL_law_610 : decode cL_law 610 = .ok (.iconst 0, 1) := by decide +kernel
theorem dL_law_611 : decode cL_law 611 = .ok (.ireturn, 1) := by decide +kernel
theorem dL_law_612 : decode cL_law 612 = .ok (.iinc 3 3, 3) := by decide +kernel
theorem dL_law_615 : decode cL_law 615 = .ok (.goto (-597), 3) := by decide +kernel
theorem dL_law_618 : decode cL_law 618 = .ok (.iconst 1, 1) := by decide +kernel
theorem dL_law_619 : decode cL_law 619 = .ok (.ireturn, 1) := by decide +kernel
