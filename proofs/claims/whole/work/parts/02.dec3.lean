theorem dX7_faultOf_180 : decode cX7_faultOf 180 = .ok (.aload_n 0, 1) := by decide +kernel
theorem dX7_faultOf_181 : decode cX7_faultOf 181 = .ok (.getfield 7, 3) := by decide +kernel
theorem dX7_faultOf_184 : decode cX7_faultOf 184 = .ok (.iconst 1, 1) := by decide +kernel
theorem dX7_faultOf_185 : decode cX7_faultOf 185 = .ok (.iaload, 1) := by decide +kernel
theorem dX7_faultOf_186 : decode cX7_faultOf 186 = .ok (.bipush 48, 2) := by decide +kernel
theorem dX7_faultOf_188 : decode cX7_faultOf 188 = .ok (.if_icmp .eq 14, 3) := by decide +kernel
theorem dX7_faultOf_191 : decode cX7_faultOf 191 = .ok (.aload_n 0, 1) := by decide +kernel
theorem dX7_faultOf_192 : decode cX7_faultOf 192 = .ok (.getfield 7, 3) := by decide +kernel
theorem dX7_faultOf_195 : decode cX7_faultOf 195 = .ok (.iconst 1, 1) := by decide +kernel
theorem dX7_faultOf_196 : decode cX7_faultOf 196 = .ok (.iaload, 1) := by decide +kernel
theorem dX7_faultOf_197 : decode cX7_faultOf 197 = .ok (.bipush 50, 2) := by decide +kernel
theorem dX7_faultOf_199 : decode cX7_faultOf 199 = .ok (.if_icmp .ne 7, 3) := by decide +kernel
theorem dX7_faultOf_202 : decode cX7_faultOf 202 = .ok (.iconst 1, 1) := by decide +kernel
theorem dX7_faultOf_203 : decode cX7_faultOf 203 = .ok (.goto 4, 3) := by decide +kernel
theorem dX7_faultOf_206 : decode cX7_faultOf 206 = .ok (.iconst 0, 1) := by decide +kernel
theorem dX7_faultOf_207 : decode cX7_faultOf 207 = .ok (.istore_n 1, 1) := by decide +kernel
theorem dX7_faultOf_208 : decode cX7_faultOf 208 = .ok (.iload_n 1, 1) := by decide +kernel
theorem dX7_faultOf_209 : decode cX7_faultOf 209 = .ok (.ifCond .eq 8, 3) := by decide +kernel
theorem dX7_faultOf_212 : decode cX7_faultOf 212 = .ok (.bipush (-6), 2) := by decide +kernel
theorem dX7_faultOf_214 : decode cX7_faultOf 214 = .ok (.goto 7, 3) := by decide +kernel
theorem dX7_faultOf_217 : decode cX7_faultOf 217 = .ok (.aload_n 0, 1) := by decide +kernel
theorem dX7_faultOf_218 : decode cX7_faultOf 218 = .ok (.getfield 67, 3) := by decide +kernel
theorem dX7_faultOf_221 : decode cX7_faultOf 221 = .ok (.ireturn, 1) := by decide +kernel
theorem dX7_fault_0 : decode cX7_fault 0 = .ok (.aload_n 0, 1) := by decide +kernel
theorem dX7_fault_1 : decode cX7_fault 1 = .ok (.invokevirtual 77, 3) := by decide +kernel
theorem dX7_fault_4 : decode cX7_fault 4 = .ok (.ireturn, 1) := by decide +kernel
theorem dX7_layer_0 : decode cX7_layer 0 = .ok (.iload_n 1, 1) := by decide +kernel
theorem dX7_layer_1 : decode cX7_layer 1 = .ok (.invokestatic 81, 3) := by decide +kernel
theorem dX7_layer_4 : decode cX7_layer 4 = .ok (.ifCond .ne 5, 3) := by decide +kernel
theorem dX7_layer_7 : decode cX7_layer 7 = .ok (.iconst (-1), 1) := by decide +kernel
theorem dX7_layer_8 : decode cX7_layer 8 = .ok (.ireturn, 1) := by decide +kernel
theorem dX7_layer_9 : decode cX7_layer 9 = .ok (.aload_n 0, 1) := by decide +kernel
theorem dX7_layer_10 : decode cX7_layer 10 = .ok (.invokevirtual 77, 3) := by decide +kernel
theorem dX7_layer_13 : decode cX7_layer 13 = .ok (.ifCond .lt 6, 3) := by decide +kernel
theorem dX7_layer_16 : decode cX7_layer 16 = .ok (.bipush (-5), 2) := by decide +kernel
theorem dX7_layer_18 : decode cX7_layer 18 = .ok (.ireturn, 1) := by decide +kernel
theorem dX7_layer_19 : decode cX7_layer 19 = .ok (.aload_n 0, 1) := by decide +kernel
theorem dX7_layer_20 : decode cX7_layer 20 = .ok (.getfield 13, 3) := by decide +kernel
theorem dX7_layer_23 : decode cX7_layer 23 = .ok (.iload_n 1, 1) := by decide +kernel
theorem dX7_layer_24 : decode cX7_layer 24 = .ok (.aload_n 0, 1) := by decide +kernel
theorem dX7_layer_25 : decode cX7_layer 25 = .ok (.getfield 7, 3) := by decide +kernel
theorem dX7_layer_28 : decode cX7_layer 28 = .ok (.iconst 0, 1) := by decide +kernel
theorem dX7_layer_29 : decode cX7_layer 29 = .ok (.iaload, 1) := by decide +kernel
theorem dX7_layer_30 : decode cX7_layer 30 = .ok (.iastore, 1) := by decide +kernel
theorem dX7_layer_31 : decode cX7_layer 31 = .ok (.aload_n 0, 1) := by decide +kernel
theorem dX7_layer_32 : decode cX7_layer 32 = .ok (.getfield 16, 3) := by decide +kernel
theorem dX7_layer_35 : decode cX7_layer 35 = .ok (.iload_n 1, 1) := by decide +kernel
theorem dX7_layer_36 : decode cX7_layer 36 = .ok (.aload_n 0, 1) := by decide +kernel
theorem dX7_layer_37 : decode cX7_layer 37 = .ok (.getfield 7, 3) := by decide +kernel
theorem dX7_layer_40 : decode cX7_layer 40 = .ok (.iconst 1, 1) := by decide +kernel
theorem dX7_layer_41 : decode cX7_layer 41 = .ok (.iaload, 1) := by decide +kernel
theorem dX7_layer_42 : decode cX7_layer 42 = .ok (.bipush 48, 2) := by decide +kernel
theorem dX7_layer_44 : decode cX7_layer 44 = .ok (.isub, 1) := by decide +kernel
theorem dX7_layer_45 : decode cX7_layer 45 = .ok (.iastore, 1) := by decide +kernel
theorem dX7_layer_46 : decode cX7_layer 46 = .ok (.aload_n 0, 1) := by decide +kernel
theorem dX7_layer_47 : decode cX7_layer 47 = .ok (.getfield 16, 3) := by decide +kernel
theorem dX7_layer_50 : decode cX7_layer 50 = .ok (.iload_n 1, 1) := by decide +kernel
theorem dX7_layer_51 : decode cX7_layer 51 = .ok (.iaload, 1) := by decide +kernel
theorem dX7_layer_52 : decode cX7_layer 52 = .ok (.iconst 1, 1) := by decide +kernel
theorem dX7_layer_53 : decode cX7_layer 53 = .ok (.if_icmp .eq 13, 3) := by decide +kernel
theorem dX7_layer_56 : decode cX7_layer 56 = .ok (.aload_n 0, 1) := by decide +kernel
theorem dX7_layer_57 : decode cX7_layer 57 = .ok (.getfield 16, 3) := by decide +kernel
theorem dX7_layer_60 : decode cX7_layer 60 = .ok (.iload_n 1, 1) := by decide +kernel
theorem dX7_layer_61 : decode cX7_layer 61 = .ok (.iaload, 1) := by decide +kernel
theorem dX7_layer_62 : decode cX7_layer 62 = .ok (.iconst 3, 1) := by decide +kernel
theorem dX7_layer_63 : decode cX7_layer 63 = .ok (.if_icmp .ne 7, 3) := by decide +kernel
theorem dX7_layer_66 : decode cX7_layer 66 = .ok (.iconst 1, 1) := by decide +kernel
theorem dX7_layer_67 : decode cX7_layer 67 = .ok (.goto 4, 3) := by decide +kernel
theorem dX7_layer_70 : decode cX7_layer 70 = .ok (.iconst 0, 1) := by decide +kernel
theorem dX7_layer_71 : decode cX7_layer 71 = .ok (.istore_n 2, 1) := by decide +kernel
theorem dX7_layer_72 : decode cX7_layer 72 = .ok (.aload_n 0, 1) := by decide +kernel
theorem dX7_layer_73 : decode cX7_layer 73 = .ok (.getfield 19, 3) := by decide +kernel
theorem dX7_layer_76 : decode cX7_layer 76 = .ok (.iload_n 1, 1) := by decide +kernel
theorem dX7_layer_77 : decode cX7_layer 77 = .ok (.iload_n 2, 1) := by decide +kernel
theorem dX7_layer_78 : decode cX7_layer 78 = .ok (.ifCond .eq 12, 3) := by decide +kernel
theorem dX7_layer_81 : decode cX7_layer 81 = .ok (.aload_n 0, 1) := by decide +kernel
theorem dX7_layer_82 : decode cX7_layer 82 = .ok (.getfield 7, 3) := by decide +kernel
theorem dX7_layer_85 : decode cX7_layer 85 = .ok (.iconst 2, 1) := by decide +kernel
theorem dX7_layer_86 : decode cX7_layer 86 = .ok (.iaload, 1) := by decide +kernel
theorem dX7_layer_87 : decode cX7_layer 87 = .ok (.goto 5, 3) := by decide +kernel
theorem dX7_layer_90 : decode cX7_layer 90 = .ok (.bipush (-6), 2) := by decide +kernel
theorem dX7_layer_92 : decode cX7_layer 92 = .ok (.iastore, 1) := by decide +kernel
theorem dX7_layer_93 : decode cX7_layer 93 = .ok (.iload_n 2, 1) := by decide +kernel
theorem dX7_layer_94 : decode cX7_layer 94 = .ok (.ifCond .eq 7, 3) := by decide +kernel
theorem dX7_layer_97 : decode cX7_layer 97 = .ok (.iconst 3, 1) := by decide +kernel
theorem dX7_layer_98 : decode cX7_layer 98 = .ok (.goto 4, 3) := by decide +kernel
theorem dX7_layer_101 : decode cX7_layer 101 = .ok (.iconst 2, 1) := by decide +kernel
theorem dX7_layer_102 : decode cX7_layer 102 = .ok (.istore_n 3, 1) := by decide +kernel
theorem dX7_layer_103 : decode cX7_layer 103 = .ok (.aload_n 0, 1) := by decide +kernel
theorem dX7_layer_104 : decode cX7_layer 104 = .ok (.getfield 22, 3) := by decide +kernel
theorem dX7_layer_107 : decode cX7_layer 107 = .ok (.iload_n 1, 1) := by decide +kernel
theorem dX7_layer_108 : decode cX7_layer 108 = .ok (.aload_n 0, 1) := by decide +kernel
theorem dX7_layer_109 : decode cX7_layer 109 = .ok (.getfield 67, 3) := by decide +kernel
theorem dX7_layer_112 : decode cX7_layer 112 = .ok (.iload_n 3, 1) := by decide +kernel
theorem dX7_layer_113 : decode cX7_layer 113 = .ok (.isub, 1) := by decide +kernel
theorem dX7_layer_114 : decode cX7_layer 114 = .ok (.iastore, 1) := by decide +kernel
theorem dX7_layer_115 : decode cX7_layer 115 = .ok (.iconst 0, 1) := by decide +kernel
theorem dX7_layer_116 : decode cX7_layer 116 = .ok (.istore 4, 2) := by decide +kernel
theorem dX7_layer_118 : decode cX7_layer 118 = .ok (.iload 4, 2) := by decide +kernel
theorem dX7_layer_120 : decode cX7_layer 120 = .ok (.aload_n 0, 1) := by decide +kernel
theorem dX7_layer_121 : decode cX7_layer 121 = .ok (.getfield 22, 3) := by decide +kernel
theorem dX7_layer_124 : decode cX7_layer 124 = .ok (.iload_n 1, 1) := by decide +kernel
theorem dX7_layer_125 : decode cX7_layer 125 = .ok (.iaload, 1) := by decide +kernel
theorem dX7_layer_126 : decode cX7_layer 126 = .ok (.if_icmp .ge 30, 3) := by decide +kernel
theorem dX7_layer_129 : decode cX7_layer 129 = .ok (.aload_n 0, 1) := by decide +kernel
theorem dX7_layer_130 : decode cX7_layer 130 = .ok (.getfield 25, 3) := by decide +kernel
theorem dX7_layer_133 : decode cX7_layer 133 = .ok (.bipush 6, 2) := by decide +kernel
theorem dX7_layer_135 : decode cX7_layer 135 = .ok (.iload_n 1, 1) := by decide +kernel
theorem dX7_layer_136 : decode cX7_layer 136 = .ok (.imul, 1) := by decide +kernel
theorem dX7_layer_137 : decode cX7_layer 137 = .ok (.iload 4, 2) := by decide +kernel
theorem dX7_layer_139 : decode cX7_layer 139 = .ok (.iadd, 1) := by decide +kernel
theorem dX7_layer_140 : decode cX7_layer 140 = .ok (.aload_n 0, 1) := by decide +kernel
theorem dX7_layer_141 : decode cX7_layer 141 = .ok (.getfield 7, 3) := by decide +kernel
theorem dX7_layer_144 : decode cX7_layer 144 = .ok (.iload_n 3, 1) := by decide +kernel
theorem dX7_layer_145 : decode cX7_layer 145 = .ok (.iload 4, 2) := by decide +kernel
theorem dX7_layer_147 : decode cX7_layer 147 = .ok (.iadd, 1) := by decide +kernel
theorem dX7_layer_148 : decode cX7_layer 148 = .ok (.iaload, 1) := by decide +kernel
theorem dX7_layer_149 : decode cX7_layer 149 = .ok (.iastore, 1) := by decide +kernel
theorem dX7_layer_150 : decode cX7_layer 150 = .ok (.iinc 4 1, 3) := by decide +kernel
theorem dX7_layer_153 : decode cX7_layer 153 = .ok (.goto (-35), 3) := by decide +kernel
theorem dX7_layer_156 : decode cX7_layer 156 = .ok (.aload_n 0, 1) := by decide +kernel
theorem dX7_layer_157 : decode cX7_layer 157 = .ok (.iconst 0, 1) := by decide +kernel
theorem dX7_layer_158 : decode cX7_layer 158 = .ok (.putfield 67, 3) := by decide +kernel
theorem dX7_layer_161 : decode cX7_layer 161 = .ok (.aload_n 0, 1) := by decide +kernel
theorem dX7_layer_162 : decode cX7_layer 162 = .ok (.getfield 22, 3) := by decide +kernel
theorem dX7_layer_165 : decode cX7_layer 165 = .ok (.iload_n 1, 1) := by decide +kernel
theorem dX7_layer_166 : decode cX7_layer 166 = .ok (.iaload, 1) := by decide +kernel
theorem dX7_layer_167 : decode cX7_layer 167 = .ok (.ireturn, 1) := by decide +kernel
theorem dX7_about_0 : decode cX7_about 0 = .ok (.iload_n 1, 1) := by decide +kernel
theorem dX7_about_1 : decode cX7_about 1 = .ok (.invokestatic 81, 3) := by decide +kernel
theorem dX7_about_4 : decode cX7_about 4 = .ok (.ifCond .ne 5, 3) := by decide +kernel
theorem dX7_about_7 : decode cX7_about 7 = .ok (.iconst (-1), 1) := by decide +kernel
theorem dX7_about_8 : decode cX7_about 8 = .ok (.ireturn, 1) := by decide +kernel
theorem dX7_about_9 : decode cX7_about 9 = .ok (.iload_n 2, 1) := by decide +kernel
theorem dX7_about_10 : decode cX7_about 10 = .ok (.iconst 0, 1) := by decide +kernel
theorem dX7_about_11 : decode cX7_about 11 = .ok (.bipush 8, 2) := by decide +kernel
theorem dX7_about_13 : decode cX7_about 13 = .ok (.invokestatic 63, 3) := by decide +kernel
theorem dX7_about_16 : decode cX7_about 16 = .ok (.ifCond .ne 6, 3) := by decide +kernel
theorem dX7_about_19 : decode cX7_about 19 = .ok (.bipush (-2), 2) := by decide +kernel
theorem dX7_about_21 : decode cX7_about 21 = .ok (.ireturn, 1) := by decide +kernel
theorem dX7_about_22 : decode cX7_about 22 = .ok (.iload_n 2, 1) := by decide +kernel
theorem dX7_about_23 : decode cX7_about 23 = .ok (.iconst 3, 1) := by decide +kernel
theorem dX7_about_24 : decode cX7_about 24 = .ok (.if_icmp .ge 53, 3) := by decide +kernel
theorem dX7_about_27 : decode cX7_about 27 = .ok (.iload_n 2, 1) := by decide +kernel
theorem dX7_about_28 : decode cX7_about 28 = .ok (.ifCond .ne 28, 3) := by decide +kernel
theorem dX7_about_31 : decode cX7_about 31 = .ok (.aload_n 0, 1) := by decide +kernel
theorem dX7_about_32 : decode cX7_about 32 = .ok (.getfield 13, 3) := by decide +kernel
theorem dX7_about_35 : decode cX7_about 35 = .ok (.iload_n 1, 1) := by decide +kernel
theorem dX7_about_36 : decode cX7_about 36 = .ok (.iaload, 1) := by decide +kernel
theorem dX7_about_37 : decode cX7_about 37 = .ok (.bipush 45, 2) := by decide +kernel
theorem dX7_about_39 : decode cX7_about 39 = .ok (.if_icmp .ne 8, 3) := by decide +kernel
theorem dX7_about_42 : decode cX7_about 42 = .ok (.bipush (-6), 2) := by decide +kernel
theorem dX7_about_44 : decode cX7_about 44 = .ok (.goto 32, 3) := by decide +kernel
theorem dX7_about_47 : decode cX7_about 47 = .ok (.aload_n 0, 1) := by decide +kernel
theorem dX7_about_48 : decode cX7_about 48 = .ok (.getfield 13, 3) := by decide +kernel
theorem dX7_about_51 : decode cX7_about 51 = .ok (.iload_n 1, 1) := by decide +kernel
theorem dX7_about_52 : decode cX7_about 52 = .ok (.iaload, 1) := by decide +kernel
theorem dX7_about_53 : decode cX7_about 53 = .ok (.goto 23, 3) := by decide +kernel
theorem dX7_about_56 : decode cX7_about 56 = .ok (.iload_n 2, 1) := by decide +kernel
theorem dX7_about_57 : decode cX7_about 57 = .ok (.iconst 1, 1) := by decide +kernel
theorem dX7_about_58 : decode cX7_about 58 = .ok (.if_icmp .ne 12, 3) := by decide +kernel
theorem dX7_about_61 : decode cX7_about 61 = .ok (.aload_n 0, 1) := by decide +kernel
theorem dX7_about_62 : decode cX7_about 62 = .ok (.getfield 16, 3) := by decide +kernel
theorem dX7_about_65 : decode cX7_about 65 = .ok (.iload_n 1, 1) := by decide +kernel
theorem dX7_about_66 : decode cX7_about 66 = .ok (.iaload, 1) := by decide +kernel
theorem dX7_about_67 : decode cX7_about 67 = .ok (.goto 9, 3) := by decide +kernel
theorem dX7_about_70 : decode cX7_about 70 = .ok (.aload_n 0, 1) := by decide +kernel
theorem dX7_about_71 : decode cX7_about 71 = .ok (.getfield 19, 3) := by decide +kernel
theorem dX7_about_74 : decode cX7_about 74 = .ok (.iload_n 1, 1) := by decide +kernel
theorem dX7_about_75 : decode cX7_about 75 = .ok (.iaload, 1) := by decide +kernel
theorem dX7_about_76 : decode cX7_about 76 = .ok (.ireturn, 1) := by decide +kernel
theorem dX7_about_77 : decode cX7_about 77 = .ok (.iload_n 2, 1) := by decide +kernel
theorem dX7_about_78 : decode cX7_about 78 = .ok (.iconst 3, 1) := by decide +kernel
theorem dX7_about_79 : decode cX7_about 79 = .ok (.isub, 1) := by decide +kernel
theorem dX7_about_80 : decode cX7_about 80 = .ok (.aload_n 0, 1) := by decide +kernel
theorem dX7_about_81 : decode cX7_about 81 = .ok (.getfield 22, 3) := by decide +kernel
theorem dX7_about_84 : decode cX7_about 84 = .ok (.iload_n 1, 1) := by decide +kernel
theorem dX7_about_85 : decode cX7_about 85 = .ok (.iaload, 1) := by decide +kernel
theorem dX7_about_86 : decode cX7_about 86 = .ok (.if_icmp .ge 19, 3) := by decide +kernel
theorem dX7_about_89 : decode cX7_about 89 = .ok (.aload_n 0, 1) := by decide +kernel
theorem dX7_about_90 : decode cX7_about 90 = .ok (.getfield 25, 3) := by decide +kernel
theorem dX7_about_93 : decode cX7_about 93 = .ok (.bipush 6, 2) := by decide +kernel
theorem dX7_about_95 : decode cX7_about 95 = .ok (.iload_n 1, 1) := by decide +kernel
theorem dX7_about_96 : decode cX7_about 96 = .ok (.imul, 1) := by decide +kernel
theorem dX7_about_97 : decode cX7_about 97 = .ok (.iload_n 2, 1) := by decide +kernel
theorem dX7_about_98 : decode cX7_about 98 = .ok (.iadd, 1) := by decide +kernel
theorem dX7_about_99 : decode cX7_about 99 = .ok (.iconst 3, 1) := by decide +kernel
theorem dX7_about_100 : decode cX7_about 100 = .ok (.isub, 1) := by decide +kernel
theorem dX7_about_101 : decode cX7_about 101 = .ok (.iaload, 1) := by decide +kernel
theorem dX7_about_102 : decode cX7_about 102 = .ok (.goto 5, 3) := by decide +kernel
theorem dX7_about_105 : decode cX7_about 105 = .ok (.bipush (-6), 2) := by decide +kernel
theorem dX7_about_107 : decode cX7_about 107 = .ok (.ireturn, 1) := by decide +kernel
theorem dX7_chain_0 : decode cX7_chain 0 = .ok (.iload_n 1, 1) := by decide +kernel
theorem dX7_chain_1 : decode cX7_chain 1 = .ok (.invokestatic 81, 3) := by decide +kernel
theorem dX7_chain_4 : decode cX7_chain 4 = .ok (.ifCond .ne 5, 3) := by decide +kernel
theorem dX7_chain_7 : decode cX7_chain 7 = .ok (.iconst (-1), 1) := by decide +kernel
theorem dX7_chain_8 : decode cX7_chain 8 = .ok (.ireturn, 1) := by decide +kernel
theorem dX7_chain_9 : decode cX7_chain 9 = .ok (.aload_n 0, 1) := by decide +kernel
theorem dX7_chain_10 : decode cX7_chain 10 = .ok (.getfield 84, 3) := by decide +kernel
theorem dX7_chain_13 : decode cX7_chain 13 = .ok (.iconst 5, 1) := by decide +kernel
theorem dX7_chain_14 : decode cX7_chain 14 = .ok (.if_icmp .ne 6, 3) := by decide +kernel
theorem dX7_chain_17 : decode cX7_chain 17 = .ok (.bipush (-4), 2) := by decide +kernel
theorem dX7_chain_19 : decode cX7_chain 19 = .ok (.ireturn, 1) := by decide +kernel
theorem dX7_chain_20 : decode cX7_chain 20 = .ok (.aload_n 0, 1) := by decide +kernel
theorem dX7_chain_21 : decode cX7_chain 21 = .ok (.getfield 28, 3) := by decide +kernel
theorem dX7_chain_24 : decode cX7_chain 24 = .ok (.aload_n 0, 1) := by decide +kernel
theorem dX7_chain_25 : decode cX7_chain 25 = .ok (.getfield 84, 3) := by decide +kernel
theorem dX7_chain_28 : decode cX7_chain 28 = .ok (.iload_n 1, 1) := by decide +kernel
theorem dX7_chain_29 : decode cX7_chain 29 = .ok (.iastore, 1) := by decide +kernel
theorem dX7_chain_30 : decode cX7_chain 30 = .ok (.aload_n 0, 1) := by decide +kernel
theorem dX7_chain_31 : decode cX7_chain 31 = .ok (.dup, 1) := by decide +kernel
theorem dX7_chain_32 : decode cX7_chain 32 = .ok (.getfield 84, 3) := by decide +kernel
theorem dX7_chain_35 : decode cX7_chain 35 = .ok (.iconst 1, 1) := by decide +kernel
theorem dX7_chain_36 : decode cX7_chain 36 = .ok (.iadd, 1) := by decide +kernel
theorem dX7_chain_37 : decode cX7_chain 37 = .ok (.putfield 84, 3) := by decide +kernel
theorem dX7_chain_40 : decode cX7_chain 40 = .ok (.aload_n 0, 1) := by decide +kernel
theorem dX7_chain_41 : decode cX7_chain 41 = .ok (.getfield 84, 3) := by decide +kernel
theorem dX7_chain_44 : decode cX7_chain 44 = .ok (.ireturn, 1) := by decide +kernel
theorem dX7_unchain_0 : decode cX7_unchain 0 = .ok (.aload_n 0, 1) := by decide +kernel
theorem dX7_unchain_1 : decode cX7_unchain 1 = .ok (.getfield 84, 3) := by decide +kernel
theorem dX7_unchain_4 : decode cX7_unchain 4 = .ok (.ifCond .ne 6, 3) := by decide +kernel
theorem dX7_unchain_7 : decode cX7_unchain 7 = .ok (.bipush (-5), 2) := by decide +kernel
theorem dX7_unchain_9 : decode cX7_unchain 9 = .ok (.ireturn, 1) := by decide +kernel
theorem dX7_unchain_10 : decode cX7_unchain 10 = .ok (.aload_n 0, 1) := by decide +kernel
theorem dX7_unchain_11 : decode cX7_unchain 11 = .ok (.dup, 1) := by decide +kernel
theorem dX7_unchain_12 : decode cX7_unchain 12 = .ok (.getfield 84, 3) := by decide +kernel
theorem dX7_unchain_15 : decode cX7_unchain 15 = .ok (.iconst 1, 1) := by decide +kernel
theorem dX7_unchain_16 : decode cX7_unchain 16 = .ok (.isub, 1) := by decide +kernel
theorem dX7_unchain_17 : decode cX7_unchain 17 = .ok (.putfield 84, 3) := by decide +kernel
theorem dX7_unchain_20 : decode cX7_unchain 20 = .ok (.aload_n 0, 1) := by decide +kernel
theorem dX7_unchain_21 : decode cX7_unchain 21 = .ok (.getfield 84, 3) := by decide +kernel
theorem dX7_unchain_24 : decode cX7_unchain 24 = .ok (.ireturn, 1) := by decide +kernel
theorem dX7_text_0 : decode cX7_text 0 = .ok (.aload_n 0, 1) := by decide +kernel
theorem dX7_text_1 : decode cX7_text 1 = .ok (.getfield 67, 3) := by decide +kernel
theorem dX7_text_4 : decode cX7_text 4 = .ok (.iconst 1, 1) := by decide +kernel
theorem dX7_text_5 : decode cX7_text 5 = .ok (.bipush 12, 2) := by decide +kernel
theorem dX7_text_7 : decode cX7_text 7 = .ok (.invokestatic 63, 3) := by decide +kernel
theorem dX7_text_10 : decode cX7_text 10 = .ok (.ifCond .ne 6, 3) := by decide +kernel
theorem dX7_text_13 : decode cX7_text 13 = .ok (.bipush (-5), 2) := by decide +kernel
theorem dX7_text_15 : decode cX7_text 15 = .ok (.ireturn, 1) := by decide +kernel
theorem dX7_text_16 : decode cX7_text 16 = .ok (.aload_n 0, 1) := by decide +kernel
theorem dX7_text_17 : decode cX7_text 17 = .ok (.aload_n 0, 1) := by decide +kernel
theorem dX7_text_18 : decode cX7_text 18 = .ok (.getfield 67, 3) := by decide +kernel
theorem dX7_text_21 : decode cX7_text 21 = .ok (.putfield 31, 3) := by decide +kernel
theorem dX7_text_24 : decode cX7_text 24 = .ok (.iconst 0, 1) := by decide +kernel
theorem dX7_text_25 : decode cX7_text 25 = .ok (.istore_n 1, 1) := by decide +kernel
theorem dX7_text_26 : decode cX7_text 26 = .ok (.iload_n 1, 1) := by decide +kernel
theorem dX7_text_27 : decode cX7_text 27 = .ok (.aload_n 0, 1) := by decide +kernel
theorem dX7_text_28 : decode cX7_text 28 = .ok (.getfield 67, 3) := by decide +kernel
theorem dX7_text_31 : decode cX7_text 31 = .ok (.if_icmp .ge 21, 3) := by decide +kernel
theorem dX7_text_34 : decode cX7_text 34 = .ok (.aload_n 0, 1) := by decide +kernel
theorem dX7_text_35 : decode cX7_text 35 = .ok (.getfield 35, 3) := by decide +kernel
theorem dX7_text_38 : decode cX7_text 38 = .ok (.iload_n 1, 1) := by decide +kernel
theorem dX7_text_39 : decode cX7_text 39 = .ok (.aload_n 0, 1) := by decide +kernel
theorem dX7_text_40 : decode cX7_text 40 = .ok (.getfield 7, 3) := by decide +kernel
theorem dX7_text_43 : decode cX7_text 43 = .ok (.iload_n 1, 1) := by decide +kernel
theorem dX7_text_44 : decode cX7_text 44 = .ok (.iaload, 1) := by decide +kernel
theorem dX7_text_45 : decode cX7_text 45 = .ok (.iastore, 1) := by decide +kernel
theorem dX7_text_46 : decode cX7_text 46 = .ok (.iinc 1 1, 3) := by decide +kernel
theorem dX7_text_49 : decode cX7_text 49 = .ok (.goto (-23), 3) := by decide +kernel
theorem dX7_text_52 : decode cX7_text 52 = .ok (.aload_n 0, 1) := by decide +kernel
theorem dX7_text_53 : decode cX7_text 53 = .ok (.iconst 0, 1) := by decide +kernel
theorem dX7_text_54 : decode cX7_text 54 = .ok (.putfield 67, 3) := by decide +kernel
theorem dX7_text_57 : decode cX7_text 57 = .ok (.aload_n 0, 1) := by decide +kernel
theorem dX7_text_58 : decode cX7_text 58 = .ok (.getfield 31, 3) := by decide +kernel
theorem dX7_text_61 : decode cX7_text 61 = .ok (.ireturn, 1) := by decide +kernel
theorem dX7_hasMark_0 : decode cX7_hasMark 0 = .ok (.aload_n 0, 1) := by decide +kernel
theorem dX7_hasMark_1 : decode cX7_hasMark 1 = .ok (.getfield 13, 3) := by decide +kernel
theorem dX7_hasMark_4 : decode cX7_hasMark 4 = .ok (.iload_n 1, 1) := by decide +kernel
theorem dX7_hasMark_5 : decode cX7_hasMark 5 = .ok (.iaload, 1) := by decide +kernel
theorem dX7_hasMark_6 : decode cX7_hasMark 6 = .ok (.bipush 45, 2) := by decide +kernel
theorem dX7_hasMark_8 : decode cX7_hasMark 8 = .ok (.if_icmp .eq 7, 3) := by decide +kernel
theorem dX7_hasMark_11 : decode cX7_hasMark 11 = .ok (.iconst 1, 1) := by decide +kernel
theorem dX7_hasMark_12 : decode cX7_hasMark 12 = .ok (.goto 4, 3) := by decide +kernel
theorem dX7_hasMark_15 : decode cX7_hasMark 15 = .ok (.iconst 0, 1) := by decide +kernel
theorem dX7_hasMark_16 : decode cX7_hasMark 16 = .ok (.ireturn, 1) := by decide +kernel
theorem dX7_isHeld_0 : decode cX7_isHeld 0 = .ok (.iconst 0, 1) := by decide +kernel
theorem dX7_isHeld_1 : decode cX7_isHeld 1 = .ok (.istore_n 3, 1) := by decide +kernel
theorem dX7_isHeld_2 : decode cX7_isHeld 2 = .ok (.iconst 0, 1) := by decide +kernel
theorem dX7_isHeld_3 : decode cX7_isHeld 3 = .ok (.istore 4, 2) := by decide +kernel
theorem dX7_isHeld_5 : decode cX7_isHeld 5 = .ok (.iload 4, 2) := by decide +kernel
theorem dX7_isHeld_7 : decode cX7_isHeld 7 = .ok (.aload_n 0, 1) := by decide +kernel
theorem dX7_isHeld_8 : decode cX7_isHeld 8 = .ok (.getfield 22, 3) := by decide +kernel
theorem dX7_isHeld_11 : decode cX7_isHeld 11 = .ok (.iload_n 1, 1) := by decide +kernel
theorem dX7_isHeld_12 : decode cX7_isHeld 12 = .ok (.iaload, 1) := by decide +kernel
theorem dX7_isHeld_13 : decode cX7_isHeld 13 = .ok (.if_icmp .ge 35, 3) := by decide +kernel
theorem dX7_isHeld_16 : decode cX7_isHeld 16 = .ok (.iload_n 3, 1) := by decide +kernel
theorem dX7_isHeld_17 : decode cX7_isHeld 17 = .ok (.ifCond .ne 19, 3) := by decide +kernel
theorem dX7_isHeld_20 : decode cX7_isHeld 20 = .ok (.aload_n 0, 1) := by decide +kernel
theorem dX7_isHeld_21 : decode cX7_isHeld 21 = .ok (.getfield 25, 3) := by decide +kernel
theorem dX7_isHeld_24 : decode cX7_isHeld 24 = .ok (.bipush 6, 2) := by decide +kernel
theorem dX7_isHeld_26 : decode cX7_isHeld 26 = .ok (.iload_n 1, 1) := by decide +kernel
theorem dX7_isHeld_27 : decode cX7_isHeld 27 = .ok (.imul, 1) := by decide +kernel
theorem dX7_isHeld_28 : decode cX7_isHeld 28 = .ok (.iload 4, 2) := by decide +kernel
theorem dX7_isHeld_30 : decode cX7_isHeld 30 = .ok (.iadd, 1) := by decide +kernel
theorem dX7_isHeld_31 : decode cX7_isHeld 31 = .ok (.iaload, 1) := by decide +kernel
theorem dX7_isHeld_32 : decode cX7_isHeld 32 = .ok (.iload_n 2, 1) := by decide +kernel
theorem dX7_isHeld_33 : decode cX7_isHeld 33 = .ok (.if_icmp .ne 7, 3) := by decide +kernel
theorem dX7_isHeld_36 : decode cX7_isHeld 36 = .ok (.iconst 1, 1) := by decide +kernel
theorem dX7_isHeld_37 : decode cX7_isHeld 37 = .ok (.goto 4, 3) := by decide +kernel
theorem dX7_isHeld_40 : decode cX7_isHeld 40 = .ok (.iconst 0, 1) := by decide +kernel
theorem dX7_isHeld_41 : decode cX7_isHeld 41 = .ok (.istore_n 3, 1) := by decide +kernel
theorem dX7_isHeld_42 : decode cX7_isHeld 42 = .ok (.iinc 4 1, 3) := by decide +kernel
theorem dX7_isHeld_45 : decode cX7_isHeld 45 = .ok (.goto (-40), 3) := by decide +kernel
theorem dX7_isHeld_48 : decode cX7_isHeld 48 = .ok (.iload_n 3, 1) := by decide +kernel
theorem dX7_isHeld_49 : decode cX7_isHeld 49 = .ok (.ireturn, 1) := by decide +kernel
theorem dX7_isMasked_0 : decode cX7_isMasked 0 = .ok (.aload_n 0, 1) := by decide +kernel
theorem dX7_isMasked_1 : decode cX7_isMasked 1 = .ok (.iload_n 1, 1) := by decide +kernel
theorem dX7_isMasked_2 : decode cX7_isMasked 2 = .ok (.invokevirtual 87, 3) := by decide +kernel
theorem dX7_isMasked_5 : decode cX7_isMasked 5 = .ok (.ifCond .eq 13, 3) := by decide +kernel
theorem dX7_isMasked_8 : decode cX7_isMasked 8 = .ok (.iload_n 2, 1) := by decide +kernel
theorem dX7_isMasked_9 : decode cX7_isMasked 9 = .ok (.aload_n 0, 1) := by decide +kernel
theorem dX7_isMasked_10 : decode cX7_isMasked 10 = .ok (.getfield 13, 3) := by decide +kernel
theorem dX7_isMasked_13 : decode cX7_isMasked 13 = .ok (.iload_n 1, 1) := by decide +kernel
theorem dX7_isMasked_14 : decode cX7_isMasked 14 = .ok (.iaload, 1) := by decide +kernel
theorem dX7_isMasked_15 : decode cX7_isMasked 15 = .ok (.if_icmp .eq 22, 3) := by decide +kernel
theorem dX7_isMasked_18 : decode cX7_isMasked 18 = .ok (.iload_n 2, 1) := by decide +kernel
theorem dX7_isMasked_19 : decode cX7_isMasked 19 = .ok (.aload_n 0, 1) := by decide +kernel
theorem dX7_isMasked_20 : decode cX7_isMasked 20 = .ok (.getfield 19, 3) := by decide +kernel
theorem dX7_isMasked_23 : decode cX7_isMasked 23 = .ok (.iload_n 1, 1) := by decide +kernel
theorem dX7_isMasked_24 : decode cX7_isMasked 24 = .ok (.iaload, 1) := by decide +kernel
theorem dX7_isMasked_25 : decode cX7_isMasked 25 = .ok (.if_icmp .eq 12, 3) := by decide +kernel
theorem dX7_isMasked_28 : decode cX7_isMasked 28 = .ok (.aload_n 0, 1) := by decide +kernel
theorem dX7_isMasked_29 : decode cX7_isMasked 29 = .ok (.iload_n 1, 1) := by decide +kernel
theorem dX7_isMasked_30 : decode cX7_isMasked 30 = .ok (.iload_n 2, 1) := by decide +kernel
theorem dX7_isMasked_31 : decode cX7_isMasked 31 = .ok (.invokevirtual 90, 3) := by decide +kernel
theorem dX7_isMasked_34 : decode cX7_isMasked 34 = .ok (.ifCond .eq 7, 3) := by decide +kernel
theorem dX7_isMasked_37 : decode cX7_isMasked 37 = .ok (.iconst 1, 1) := by decide +kernel
theorem dX7_isMasked_38 : decode cX7_isMasked 38 = .ok (.goto 4, 3) := by decide +kernel
theorem dX7_isMasked_41 : decode cX7_isMasked 41 = .ok (.iconst 0, 1) := by decide +kernel
theorem dX7_isMasked_42 : decode cX7_isMasked 42 = .ok (.ireturn, 1) := by decide +kernel
theorem dX7_digit_0 : decode cX7_digit 0 = .ok (.iload_n 0, 1) := by decide +kernel
theorem dX7_digit_1 : decode cX7_digit 1 = .ok (.bipush 10, 2) := by decide +kernel
theorem dX7_digit_3 : decode cX7_digit 3 = .ok (.if_icmp .ge 10, 3) := by decide +kernel
theorem dX7_digit_6 : decode cX7_digit 6 = .ok (.bipush 48, 2) := by decide +kernel
theorem dX7_digit_8 : decode cX7_digit 8 = .ok (.iload_n 0, 1) := by decide +kernel
theorem dX7_digit_9 : decode cX7_digit 9 = .ok (.iadd, 1) := by decide +kernel
theorem dX7_digit_10 : decode cX7_digit 10 = .ok (.goto 10, 3) := by decide +kernel
theorem dX7_digit_13 : decode cX7_digit 13 = .ok (.bipush 97, 2) := by decide +kernel
theorem dX7_digit_15 : decode cX7_digit 15 = .ok (.iload_n 0, 1) := by decide +kernel
theorem dX7_digit_16 : decode cX7_digit 16 = .ok (.iadd, 1) := by decide +kernel
theorem dX7_digit_17 : decode cX7_digit 17 = .ok (.bipush 10, 2) := by decide +kernel
theorem dX7_digit_19 : decode cX7_digit 19 = .ok (.isub, 1) := by decide +kernel
theorem dX7_digit_20 : decode cX7_digit 20 = .ok (.ireturn, 1) := by decide +kernel
theorem dX7_put_0 : decode cX7_put 0 = .ok (.iconst 0, 1) := by decide +kernel
theorem dX7_put_1 : decode cX7_put 1 = .ok (.istore_n 3, 1) := by decide +kernel
theorem dX7_put_2 : decode cX7_put 2 = .ok (.aload_n 0, 1) := by decide +kernel
theorem dX7_put_3 : decode cX7_put 3 = .ok (.iload_n 1, 1) := by decide +kernel
theorem dX7_put_4 : decode cX7_put 4 = .ok (.invokevirtual 87, 3) := by decide +kernel
theorem dX7_put_7 : decode cX7_put 7 = .ok (.ifCond .eq 18, 3) := by decide +kernel
theorem dX7_put_10 : decode cX7_put 10 = .ok (.aload_n 0, 1) := by decide +kernel
theorem dX7_put_11 : decode cX7_put 11 = .ok (.getfield 41, 3) := by decide +kernel
theorem dX7_put_14 : decode cX7_put 14 = .ok (.iload_n 3, 1) := by decide +kernel
theorem dX7_put_15 : decode cX7_put 15 = .ok (.aload_n 0, 1) := by decide +kernel
theorem dX7_put_16 : decode cX7_put 16 = .ok (.getfield 13, 3) := by decide +kernel
theorem dX7_put_19 : decode cX7_put 19 = .ok (.iload_n 1, 1) := by decide +kernel
theorem dX7_put_20 : decode cX7_put 20 = .ok (.iaload, 1) := by decide +kernel
theorem dX7_put_21 : decode cX7_put 21 = .ok (.iastore, 1) := by decide +kernel
theorem dX7_put_22 : decode cX7_put 22 = .ok (.iinc 3 1, 3) := by decide +kernel
theorem dX7_put_25 : decode cX7_put 25 = .ok (.iconst 0, 1) := by decide +kernel
theorem dX7_put_26 : decode cX7_put 26 = .ok (.istore 4, 2) := by decide +kernel
theorem dX7_put_28 : decode cX7_put 28 = .ok (.iload 4, 2) := by decide +kernel
theorem dX7_put_30 : decode cX7_put 30 = .ok (.aload_n 0, 1) := by decide +kernel
theorem dX7_put_31 : decode cX7_put 31 = .ok (.getfield 94, 3) := by decide +kernel
theorem dX7_put_34 : decode cX7_put 34 = .ok (.if_icmp .ge 153, 3) := by decide +kernel
theorem dX7_put_37 : decode cX7_put 37 = .ok (.aload_n 0, 1) := by decide +kernel
theorem dX7_put_38 : decode cX7_put 38 = .ok (.getfield 38, 3) := by decide +kernel
theorem dX7_put_41 : decode cX7_put 41 = .ok (.iload 4, 2) := by decide +kernel
theorem dX7_put_43 : decode cX7_put 43 = .ok (.iaload, 1) := by decide +kernel
theorem dX7_put_44 : decode cX7_put 44 = .ok (.istore 5, 2) := by decide +kernel
theorem dX7_put_46 : decode cX7_put 46 = .ok (.iload_n 2, 1) := by decide +kernel
theorem dX7_put_47 : decode cX7_put 47 = .ok (.ifCond .ne 17, 3) := by decide +kernel
theorem dX7_put_50 : decode cX7_put 50 = .ok (.aload_n 0, 1) := by decide +kernel
theorem dX7_put_51 : decode cX7_put 51 = .ok (.iload_n 1, 1) := by decide +kernel
theorem dX7_put_52 : decode cX7_put 52 = .ok (.iload 5, 2) := by decide +kernel
theorem dX7_put_54 : decode cX7_put 54 = .ok (.invokevirtual 97, 3) := by decide +kernel
theorem dX7_put_57 : decode cX7_put 57 = .ok (.ifCond .eq 7, 3) := by decide +kernel
theorem dX7_put_60 : decode cX7_put 60 = .ok (.iconst 1, 1) := by decide +kernel
theorem dX7_put_61 : decode cX7_put 61 = .ok (.goto 4, 3) := by decide +kernel
theorem dX7_put_64 : decode cX7_put 64 = .ok (.iconst 0, 1) := by decide +kernel
theorem dX7_put_65 : decode cX7_put 65 = .ok (.istore 6, 2) := by decide +kernel
theorem dX7_put_67 : decode cX7_put 67 = .ok (.iload 6, 2) := by decide +kernel
theorem dX7_put_69 : decode cX7_put 69 = .ok (.ifCond .eq 15, 3) := by decide +kernel
theorem dX7_put_72 : decode cX7_put 72 = .ok (.aload_n 0, 1) := by decide +kernel
theorem dX7_put_73 : decode cX7_put 73 = .ok (.getfield 16, 3) := by decide +kernel
theorem dX7_put_76 : decode cX7_put 76 = .ok (.iload_n 1, 1) := by decide +kernel
theorem dX7_put_77 : decode cX7_put 77 = .ok (.iaload, 1) := by decide +kernel
theorem dX7_put_78 : decode cX7_put 78 = .ok (.ifCond .ne 6, 3) := by decide +kernel
theorem dX7_put_81 : decode cX7_put 81 = .ok (.bipush (-5), 2) := by decide +kernel
theorem dX7_put_83 : decode cX7_put 83 = .ok (.ireturn, 1) := by decide +kernel
theorem dX7_put_84 : decode cX7_put 84 = .ok (.iload 6, 2) := by decide +kernel
theorem dX7_put_86 : decode cX7_put 86 = .ok (.ifCond .eq 33, 3) := by decide +kernel
theorem dX7_put_89 : decode cX7_put 89 = .ok (.aload_n 0, 1) := by decide +kernel
theorem dX7_put_90 : decode cX7_put 90 = .ok (.getfield 41, 3) := by decide +kernel
theorem dX7_put_93 : decode cX7_put 93 = .ok (.iload_n 3, 1) := by decide +kernel
theorem dX7_put_94 : decode cX7_put 94 = .ok (.aload_n 0, 1) := by decide +kernel
theorem dX7_put_95 : decode cX7_put 95 = .ok (.getfield 16, 3) := by decide +kernel
theorem dX7_put_98 : decode cX7_put 98 = .ok (.iload_n 1, 1) := by decide +kernel
theorem dX7_put_99 : decode cX7_put 99 = .ok (.iaload, 1) := by decide +kernel
theorem dX7_put_100 : decode cX7_put 100 = .ok (.iconst 2, 1) := by decide +kernel
theorem dX7_put_101 : decode cX7_put 101 = .ok (.if_icmp .ne 8, 3) := by decide +kernel
theorem dX7_put_104 : decode cX7_put 104 = .ok (.iload 5, 2) := by decide +kernel
theorem dX7_put_106 : decode cX7_put 106 = .ok (.goto 9, 3) := by decide +kernel
theorem dX7_put_109 : decode cX7_put 109 = .ok (.aload_n 0, 1) := by decide +kernel
theorem dX7_put_110 : decode cX7_put 110 = .ok (.getfield 19, 3) := by decide +kernel
theorem dX7_put_113 : decode cX7_put 113 = .ok (.iload_n 1, 1) := by decide +kernel
theorem dX7_put_114 : decode cX7_put 114 = .ok (.iaload, 1) := by decide +kernel
theorem dX7_put_115 : decode cX7_put 115 = .ok (.iastore, 1) := by decide +kernel
theorem dX7_put_116 : decode cX7_put 116 = .ok (.iinc 3 1, 3) := by decide +kernel
theorem dX7_put_119 : decode cX7_put 119 = .ok (.iload 6, 2) := by decide +kernel
theorem dX7_put_121 : decode cX7_put 121 = .ok (.ifCond .eq 49, 3) := by decide +kernel
theorem dX7_put_124 : decode cX7_put 124 = .ok (.aload_n 0, 1) := by decide +kernel
theorem dX7_put_125 : decode cX7_put 125 = .ok (.getfield 16, 3) := by decide +kernel
theorem dX7_put_128 : decode cX7_put 128 = .ok (.iload_n 1, 1) := by decide +kernel
theorem dX7_put_129 : decode cX7_put 129 = .ok (.iaload, 1) := by decide +kernel
theorem dX7_put_130 : decode cX7_put 130 = .ok (.iconst 3, 1) := by decide +kernel
theorem dX7_put_131 : decode cX7_put 131 = .ok (.if_icmp .ne 39, 3) := by decide +kernel
theorem dX7_put_134 : decode cX7_put 134 = .ok (.aload_n 0, 1) := by decide +kernel
theorem dX7_put_135 : decode cX7_put 135 = .ok (.getfield 41, 3) := by decide +kernel
theorem dX7_put_138 : decode cX7_put 138 = .ok (.iload_n 3, 1) := by decide +kernel
theorem dX7_put_139 : decode cX7_put 139 = .ok (.iload 5, 2) := by decide +kernel
theorem dX7_put_141 : decode cX7_put 141 = .ok (.bipush 16, 2) := by decide +kernel
theorem dX7_put_143 : decode cX7_put 143 = .ok (.idiv, 1) := by decide +kernel
theorem dX7_put_144 : decode cX7_put 144 = .ok (.invokestatic 100, 3) := by decide +kernel
theorem dX7_put_147 : decode cX7_put 147 = .ok (.iastore, 1) := by decide +kernel
theorem dX7_put_148 : decode cX7_put 148 = .ok (.aload_n 0, 1) := by decide +kernel
theorem dX7_put_149 : decode cX7_put 149 = .ok (.getfield 41, 3) := by decide +kernel
theorem dX7_put_152 : decode cX7_put 152 = .ok (.iload_n 3, 1) := by decide +kernel
theorem dX7_put_153 : decode cX7_put 153 = .ok (.iconst 1, 1) := by decide +kernel
theorem dX7_put_154 : decode cX7_put 154 = .ok (.iadd, 1) := by decide +kernel
theorem dX7_put_155 : decode cX7_put 155 = .ok (.iload 5, 2) := by decide +kernel
theorem dX7_put_157 : decode cX7_put 157 = .ok (.bipush 16, 2) := by decide +kernel
theorem dX7_put_159 : decode cX7_put 159 = .ok (.irem, 1) := by decide +kernel
theorem dX7_put_160 : decode cX7_put 160 = .ok (.invokestatic 100, 3) := by decide +kernel
theorem dX7_put_163 : decode cX7_put 163 = .ok (.iastore, 1) := by decide +kernel
theorem dX7_put_164 : decode cX7_put 164 = .ok (.iinc 3 2, 3) := by decide +kernel
theorem dX7_put_167 : decode cX7_put 167 = .ok (.goto 14, 3) := by decide +kernel
theorem dX7_put_170 : decode cX7_put 170 = .ok (.aload_n 0, 1) := by decide +kernel
theorem dX7_put_171 : decode cX7_put 171 = .ok (.getfield 41, 3) := by decide +kernel
theorem dX7_put_174 : decode cX7_put 174 = .ok (.iload_n 3, 1) := by decide +kernel
theorem dX7_put_175 : decode cX7_put 175 = .ok (.iload 5, 2) := by decide +kernel
theorem dX7_put_177 : decode cX7_put 177 = .ok (.iastore, 1) := by decide +kernel
theorem dX7_put_178 : decode cX7_put 178 = .ok (.iinc 3 1, 3) := by decide +kernel
theorem dX7_put_181 : decode cX7_put 181 = .ok (.iinc 4 1, 3) := by decide +kernel
theorem dX7_put_184 : decode cX7_put 184 = .ok (.goto (-156), 3) := by decide +kernel
theorem dX7_put_187 : decode cX7_put 187 = .ok (.aload_n 0, 1) := by decide +kernel
theorem dX7_put_188 : decode cX7_put 188 = .ok (.iload_n 1, 1) := by decide +kernel
theorem dX7_put_189 : decode cX7_put 189 = .ok (.invokevirtual 87, 3) := by decide +kernel
theorem dX7_put_192 : decode cX7_put 192 = .ok (.ifCond .eq 18, 3) := by decide +kernel
theorem dX7_put_195 : decode cX7_put 195 = .ok (.aload_n 0, 1) := by decide +kernel
theorem dX7_put_196 : decode cX7_put 196 = .ok (.getfield 41, 3) := by decide +kernel
theorem dX7_put_199 : decode cX7_put 199 = .ok (.iload_n 3, 1) := by decide +kernel
theorem dX7_put_200 : decode cX7_put 200 = .ok (.aload_n 0, 1) := by decide +kernel
theorem dX7_put_201 : decode cX7_put 201 = .ok (.getfield 13, 3) := by decide +kernel
theorem dX7_put_204 : decode cX7_put 204 = .ok (.iload_n 1, 1) := by decide +kernel
theorem dX7_put_205 : decode cX7_put 205 = .ok (.iaload, 1) := by decide +kernel
theorem dX7_put_206 : decode cX7_put 206 = .ok (.iastore, 1) := by decide +kernel
theorem dX7_put_207 : decode cX7_put 207 = .ok (.iinc 3 1, 3) := by decide +kernel
theorem dX7_put_210 : decode cX7_put 210 = .ok (.iload_n 3, 1) := by decide +kernel
theorem dX7_put_211 : decode cX7_put 211 = .ok (.sipush 400, 3) := by decide +kernel
theorem dX7_put_214 : decode cX7_put 214 = .ok (.if_icmp .le 6, 3) := by decide +kernel
theorem dX7_put_217 : decode cX7_put 217 = .ok (.bipush (-7), 2) := by decide +kernel
theorem dX7_put_219 : decode cX7_put 219 = .ok (.ireturn, 1) := by decide +kernel
theorem dX7_put_220 : decode cX7_put 220 = .ok (.iconst 0, 1) := by decide +kernel
theorem dX7_put_221 : decode cX7_put 221 = .ok (.istore 4, 2) := by decide +kernel
theorem dX7_put_223 : decode cX7_put 223 = .ok (.iload 4, 2) := by decide +kernel
theorem dX7_put_225 : decode cX7_put 225 = .ok (.iload_n 3, 1) := by decide +kernel
theorem dX7_put_226 : decode cX7_put 226 = .ok (.if_icmp .ge 23, 3) := by decide +kernel
theorem dX7_put_229 : decode cX7_put 229 = .ok (.aload_n 0, 1) := by decide +kernel
theorem dX7_put_230 : decode cX7_put 230 = .ok (.getfield 38, 3) := by decide +kernel
theorem dX7_put_233 : decode cX7_put 233 = .ok (.iload 4, 2) := by decide +kernel
theorem dX7_put_235 : decode cX7_put 235 = .ok (.aload_n 0, 1) := by decide +kernel
theorem dX7_put_236 : decode cX7_put 236 = .ok (.getfield 41, 3) := by decide +kernel
theorem dX7_put_239 : decode cX7_put 239 = .ok (.iload 4, 2) := by decide +kernel
theorem dX7_put_241 : decode cX7_put 241 = .ok (.iaload, 1) := by decide +kernel
theorem dX7_put_242 : decode cX7_put 242 = .ok (.iastore, 1) := by decide +kernel
theorem dX7_put_243 : decode cX7_put 243 = .ok (.iinc 4 1, 3) := by decide +kernel
theorem dX7_put_246 : decode cX7_put 246 = .ok (.goto (-23), 3) := by decide +kernel
theorem dX7_put_249 : decode cX7_put 249 = .ok (.aload_n 0, 1) := by decide +kernel
theorem dX7_put_250 : decode cX7_put 250 = .ok (.iload_n 3, 1) := by decide +kernel
theorem dX7_put_251 : decode cX7_put 251 = .ok (.putfield 94, 3) := by decide +kernel
theorem dX7_put_254 : decode cX7_put 254 = .ok (.iconst 0, 1) := by decide +kernel
theorem dX7_put_255 : decode cX7_put 255 = .ok (.ireturn, 1) := by decide +kernel
theorem dX7_layText_0 : decode cX7_layText 0 = .ok (.aload_n 0, 1) := by decide +kernel
theorem dX7_layText_1 : decode cX7_layText 1 = .ok (.aload_n 0, 1) := by decide +kernel
theorem dX7_layText_2 : decode cX7_layText 2 = .ok (.getfield 31, 3) := by decide +kernel
theorem dX7_layText_5 : decode cX7_layText 5 = .ok (.putfield 94, 3) := by decide +kernel
theorem dX7_layText_8 : decode cX7_layText 8 = .ok (.iconst 0, 1) := by decide +kernel
theorem dX7_layText_9 : decode cX7_layText 9 = .ok (.istore_n 1, 1) := by decide +kernel
theorem dX7_layText_10 : decode cX7_layText 10 = .ok (.iload_n 1, 1) := by decide +kernel
theorem dX7_layText_11 : decode cX7_layText 11 = .ok (.aload_n 0, 1) := by decide +kernel
theorem dX7_layText_12 : decode cX7_layText 12 = .ok (.getfield 31, 3) := by decide +kernel
theorem dX7_layText_15 : decode cX7_layText 15 = .ok (.if_icmp .ge 21, 3) := by decide +kernel
theorem dX7_layText_18 : decode cX7_layText 18 = .ok (.aload_n 0, 1) := by decide +kernel
theorem dX7_layText_19 : decode cX7_layText 19 = .ok (.getfield 38, 3) := by decide +kernel
theorem dX7_layText_22 : decode cX7_layText 22 = .ok (.iload_n 1, 1) := by decide +kernel
theorem dX7_layText_23 : decode cX7_layText 23 = .ok (.aload_n 0, 1) := by decide +kernel
theorem dX7_layText_24 : decode cX7_layText 24 = .ok (.getfield 35, 3) := by decide +kernel
theorem dX7_layText_27 : decode cX7_layText 27 = .ok (.iload_n 1, 1) := by decide +kernel
theorem dX7_layText_28 : decode cX7_layText 28 = .ok (.iaload, 1) := by decide +kernel
theorem dX7_layText_29 : decode cX7_layText 29 = .ok (.iastore, 1) := by decide +kernel
theorem dX7_layText_30 : decode cX7_layText 30 = .ok (.iinc 1 1, 3) := by decide +kernel
theorem dX7_layText_33 : decode cX7_layText 33 = .ok (.goto (-23), 3) := by decide +kernel
theorem dX7_layText_36 : decode cX7_layText 36 = .ok (.return_, 1) := by decide +kernel
theorem dX7_goThrough_0 : decode cX7_goThrough 0 = .ok (.iconst 0, 1) := by decide +kernel
theorem dX7_goThrough_1 : decode cX7_goThrough 1 = .ok (.istore_n 3, 1) := by decide +kernel
theorem dX7_goThrough_2 : decode cX7_goThrough 2 = .ok (.iload_n 3, 1) := by decide +kernel
theorem dX7_goThrough_3 : decode cX7_goThrough 3 = .ok (.iload_n 1, 1) := by decide +kernel
theorem dX7_goThrough_4 : decode cX7_goThrough 4 = .ok (.if_icmp .ge 44, 3) := by decide +kernel
theorem dX7_goThrough_7 : decode cX7_goThrough 7 = .ok (.aload_n 0, 1) := by decide +kernel
theorem dX7_goThrough_8 : decode cX7_goThrough 8 = .ok (.iload_n 3, 1) := by decide +kernel
theorem dX7_goThrough_9 : decode cX7_goThrough 9 = .ok (.putfield 104, 3) := by decide +kernel
theorem dX7_goThrough_12 : decode cX7_goThrough 12 = .ok (.aload_n 0, 1) := by decide +kernel
theorem dX7_goThrough_13 : decode cX7_goThrough 13 = .ok (.aload_n 0, 1) := by decide +kernel
theorem dX7_goThrough_14 : decode cX7_goThrough 14 = .ok (.getfield 28, 3) := by decide +kernel
theorem dX7_goThrough_17 : decode cX7_goThrough 17 = .ok (.iload_n 3, 1) := by decide +kernel
theorem dX7_goThrough_18 : decode cX7_goThrough 18 = .ok (.iaload, 1) := by decide +kernel
theorem dX7_goThrough_19 : decode cX7_goThrough 19 = .ok (.iload_n 3, 1) := by decide +kernel
theorem dX7_goThrough_20 : decode cX7_goThrough 20 = .ok (.iload_n 2, 1) := by decide +kernel
theorem dX7_goThrough_21 : decode cX7_goThrough 21 = .ok (.if_icmp .ne 7, 3) := by decide +kernel
theorem dX7_goThrough_24 : decode cX7_goThrough 24 = .ok (.iconst 1, 1) := by decide +kernel
theorem dX7_goThrough_25 : decode cX7_goThrough 25 = .ok (.goto 4, 3) := by decide +kernel
theorem dX7_goThrough_28 : decode cX7_goThrough 28 = .ok (.iconst 0, 1) := by decide +kernel
theorem dX7_goThrough_29 : decode cX7_goThrough 29 = .ok (.invokevirtual 107, 3) := by decide +kernel
theorem dX7_goThrough_32 : decode cX7_goThrough 32 = .ok (.istore 4, 2) := by decide +kernel
theorem dX7_goThrough_34 : decode cX7_goThrough 34 = .ok (.iload 4, 2) := by decide +kernel
theorem dX7_goThrough_36 : decode cX7_goThrough 36 = .ok (.ifCond .ge 6, 3) := by decide +kernel
theorem dX7_goThrough_39 : decode cX7_goThrough 39 = .ok (.iload 4, 2) := by decide +kernel
theorem dX7_goThrough_41 : decode cX7_goThrough 41 = .ok (.ireturn, 1) := by decide +kernel
theorem dX7_goThrough_42 : decode cX7_goThrough 42 = .ok (.iinc 3 1, 3) := by decide +kernel
theorem dX7_goThrough_45 : decode cX7_goThrough 45 = .ok (.goto (-43), 3) := by decide +kernel
theorem dX7_goThrough_48 : decode cX7_goThrough 48 = .ok (.iconst 0, 1) := by decide +kernel
theorem dX7_goThrough_49 : decode cX7_goThrough 49 = .ok (.ireturn, 1) := by decide +kernel
theorem dX7_behind_0 : decode cX7_behind 0 = .ok (.iload_n 1, 1) := by decide +kernel
theorem dX7_behind_1 : decode cX7_behind 1 = .ok (.iconst 0, 1) := by decide +kernel
theorem dX7_behind_2 : decode cX7_behind 2 = .ok (.aload_n 0, 1) := by decide +kernel
theorem dX7_behind_3 : decode cX7_behind 3 = .ok (.getfield 84, 3) := by decide +kernel
theorem dX7_behind_6 : decode cX7_behind 6 = .ok (.invokestatic 63, 3) := by decide +kernel
theorem dX7_behind_9 : decode cX7_behind 9 = .ok (.ifCond .ne 6, 3) := by decide +kernel
theorem dX7_behind_12 : decode cX7_behind 12 = .ok (.bipush (-2), 2) := by decide +kernel
theorem dX7_behind_14 : decode cX7_behind 14 = .ok (.ireturn, 1) := by decide +kernel
theorem dX7_behind_15 : decode cX7_behind 15 = .ok (.aload_n 0, 1) := by decide +kernel
theorem dX7_behind_16 : decode cX7_behind 16 = .ok (.invokevirtual 111, 3) := by decide +kernel
theorem dX7_behind_19 : decode cX7_behind 19 = .ok (.aload_n 0, 1) := by decide +kernel
theorem dX7_behind_20 : decode cX7_behind 20 = .ok (.iload_n 1, 1) := by decide +kernel
theorem dX7_behind_21 : decode cX7_behind 21 = .ok (.bipush (-6), 2) := by decide +kernel
theorem dX7_behind_23 : decode cX7_behind 23 = .ok (.invokevirtual 114, 3) := by decide +kernel
theorem dX7_behind_26 : decode cX7_behind 26 = .ok (.istore_n 3, 1) := by decide +kernel
theorem dX7_behind_27 : decode cX7_behind 27 = .ok (.iload_n 3, 1) := by decide +kernel
theorem dX7_behind_28 : decode cX7_behind 28 = .ok (.ifCond .ge 5, 3) := by decide +kernel
theorem dX7_behind_31 : decode cX7_behind 31 = .ok (.iload_n 3, 1) := by decide +kernel
theorem dX7_behind_32 : decode cX7_behind 32 = .ok (.ireturn, 1) := by decide +kernel
theorem dX7_behind_33 : decode cX7_behind 33 = .ok (.iload_n 2, 1) := by decide +kernel
theorem dX7_behind_34 : decode cX7_behind 34 = .ok (.iconst (-1), 1) := by decide +kernel
theorem dX7_behind_35 : decode cX7_behind 35 = .ok (.if_icmp .ne 10, 3) := by decide +kernel
theorem dX7_behind_38 : decode cX7_behind 38 = .ok (.aload_n 0, 1) := by decide +kernel
theorem dX7_behind_39 : decode cX7_behind 39 = .ok (.getfield 94, 3) := by decide +kernel
theorem dX7_behind_42 : decode cX7_behind 42 = .ok (.goto 28, 3) := by decide +kernel
theorem dX7_behind_45 : decode cX7_behind 45 = .ok (.iload_n 2, 1) := by decide +kernel
theorem dX7_behind_46 : decode cX7_behind 46 = .ok (.iconst 0, 1) := by decide +kernel
theorem dX7_behind_47 : decode cX7_behind 47 = .ok (.aload_n 0, 1) := by decide +kernel
theorem dX7_behind_48 : decode cX7_behind 48 = .ok (.getfield 94, 3) := by decide +kernel
theorem dX7_behind_51 : decode cX7_behind 51 = .ok (.iconst 1, 1) := by decide +kernel
theorem dX7_behind_52 : decode cX7_behind 52 = .ok (.isub, 1) := by decide +kernel
theorem dX7_behind_53 : decode cX7_behind 53 = .ok (.invokestatic 63, 3) := by decide +kernel
theorem dX7_behind_56 : decode cX7_behind 56 = .ok (.ifCond .eq 12, 3) := by decide +kernel
theorem dX7_behind_59 : decode cX7_behind 59 = .ok (.aload_n 0, 1) := by decide +kernel
theorem dX7_behind_60 : decode cX7_behind 60 = .ok (.getfield 38, 3) := by decide +kernel
theorem dX7_behind_63 : decode cX7_behind 63 = .ok (.iload_n 2, 1) := by decide +kernel
theorem dX7_behind_64 : decode cX7_behind 64 = .ok (.iaload, 1) := by decide +kernel
theorem dX7_behind_65 : decode cX7_behind 65 = .ok (.goto 5, 3) := by decide +kernel
theorem dX7_behind_68 : decode cX7_behind 68 = .ok (.bipush (-6), 2) := by decide +kernel
theorem dX7_behind_70 : decode cX7_behind 70 = .ok (.ireturn, 1) := by decide +kernel
theorem dX7_barred_0 : decode cX7_barred 0 = .ok (.aload_n 0, 1) := by decide +kernel
theorem dX7_barred_1 : decode cX7_barred 1 = .ok (.invokevirtual 111, 3) := by decide +kernel
theorem dX7_barred_4 : decode cX7_barred 4 = .ok (.aload_n 0, 1) := by decide +kernel
theorem dX7_barred_5 : decode cX7_barred 5 = .ok (.aload_n 0, 1) := by decide +kernel
theorem dX7_barred_6 : decode cX7_barred 6 = .ok (.getfield 84, 3) := by decide +kernel
theorem dX7_barred_9 : decode cX7_barred 9 = .ok (.bipush (-6), 2) := by decide +kernel
theorem dX7_barred_11 : decode cX7_barred 11 = .ok (.invokevirtual 114, 3) := by decide +kernel
theorem dX7_barred_14 : decode cX7_barred 14 = .ok (.istore_n 1, 1) := by decide +kernel
theorem dX7_barred_15 : decode cX7_barred 15 = .ok (.iload_n 1, 1) := by decide +kernel
theorem dX7_barred_16 : decode cX7_barred 16 = .ok (.bipush (-5), 2) := by decide +kernel
theorem dX7_barred_18 : decode cX7_barred 18 = .ok (.if_icmp .ne 10, 3) := by decide +kernel
theorem dX7_barred_21 : decode cX7_barred 21 = .ok (.aload_n 0, 1) := by decide +kernel
theorem dX7_barred_22 : decode cX7_barred 22 = .ok (.getfield 104, 3) := by decide +kernel
theorem dX7_barred_25 : decode cX7_barred 25 = .ok (.goto 16, 3) := by decide +kernel
theorem dX7_barred_28 : decode cX7_barred 28 = .ok (.iload_n 1, 1) := by decide +kernel
theorem dX7_barred_29 : decode cX7_barred 29 = .ok (.bipush (-7), 2) := by decide +kernel
theorem dX7_barred_31 : decode cX7_barred 31 = .ok (.if_icmp .ne 8, 3) := by decide +kernel
theorem dX7_barred_34 : decode cX7_barred 34 = .ok (.bipush (-7), 2) := by decide +kernel
theorem dX7_barred_36 : decode cX7_barred 36 = .ok (.goto 5, 3) := by decide +kernel
theorem dX7_barred_39 : decode cX7_barred 39 = .ok (.bipush (-6), 2) := by decide +kernel
theorem dX7_barred_41 : decode cX7_barred 41 = .ok (.ireturn, 1) := by decide +kernel
theorem dX7_lengthOf_0 : decode cX7_lengthOf 0 = .ok (.aload_n 0, 1) := by decide +kernel
theorem dX7_lengthOf_1 : decode cX7_lengthOf 1 = .ok (.iconst 1, 1) := by decide +kernel
theorem dX7_lengthOf_2 : decode cX7_lengthOf 2 = .ok (.putfield 94, 3) := by decide +kernel
theorem dX7_lengthOf_5 : decode cX7_lengthOf 5 = .ok (.aload_n 0, 1) := by decide +kernel
theorem dX7_lengthOf_6 : decode cX7_lengthOf 6 = .ok (.getfield 38, 3) := by decide +kernel
theorem dX7_lengthOf_9 : decode cX7_lengthOf 9 = .ok (.iconst 0, 1) := by decide +kernel
theorem dX7_lengthOf_10 : decode cX7_lengthOf 10 = .ok (.iload_n 1, 1) := by decide +kernel
theorem dX7_lengthOf_11 : decode cX7_lengthOf 11 = .ok (.iastore, 1) := by decide +kernel
theorem dX7_lengthOf_12 : decode cX7_lengthOf 12 = .ok (.aload_n 0, 1) := by decide +kernel
theorem dX7_lengthOf_13 : decode cX7_lengthOf 13 = .ok (.aload_n 0, 1) := by decide +kernel
theorem dX7_lengthOf_14 : decode cX7_lengthOf 14 = .ok (.getfield 84, 3) := by decide +kernel
theorem dX7_lengthOf_17 : decode cX7_lengthOf 17 = .ok (.bipush (-6), 2) := by decide +kernel
theorem dX7_lengthOf_19 : decode cX7_lengthOf 19 = .ok (.invokevirtual 114, 3) := by decide +kernel
theorem dX7_lengthOf_22 : decode cX7_lengthOf 22 = .ok (.ifCond .ge 8, 3) := by decide +kernel
theorem dX7_lengthOf_25 : decode cX7_lengthOf 25 = .ok (.bipush (-6), 2) := by decide +kernel
theorem dX7_lengthOf_27 : decode cX7_lengthOf 27 = .ok (.goto 7, 3) := by decide +kernel
theorem dX7_lengthOf_30 : decode cX7_lengthOf 30 = .ok (.aload_n 0, 1) := by decide +kernel
theorem dX7_lengthOf_31 : decode cX7_lengthOf 31 = .ok (.getfield 94, 3) := by decide +kernel
theorem dX7_lengthOf_34 : decode cX7_lengthOf 34 = .ok (.ireturn, 1) := by decide +kernel
theorem dX7_growsOf_0 : decode cX7_growsOf 0 = .ok (.aload_n 0, 1) := by decide +kernel
theorem dX7_growsOf_1 : decode cX7_growsOf 1 = .ok (.bipush 120, 2) := by decide +kernel
theorem dX7_growsOf_3 : decode cX7_growsOf 3 = .ok (.invokevirtual 118, 3) := by decide +kernel
theorem dX7_growsOf_6 : decode cX7_growsOf 6 = .ok (.istore_n 2, 1) := by decide +kernel
theorem dX7_growsOf_7 : decode cX7_growsOf 7 = .ok (.aload_n 0, 1) := by decide +kernel
theorem dX7_growsOf_8 : decode cX7_growsOf 8 = .ok (.iload_n 1, 1) := by decide +kernel
theorem dX7_growsOf_9 : decode cX7_growsOf 9 = .ok (.invokevirtual 118, 3) := by decide +kernel
theorem dX7_growsOf_12 : decode cX7_growsOf 12 = .ok (.istore_n 3, 1) := by decide +kernel
theorem dX7_growsOf_13 : decode cX7_growsOf 13 = .ok (.iload_n 2, 1) := by decide +kernel
theorem dX7_growsOf_14 : decode cX7_growsOf 14 = .ok (.ifCond .lt 7, 3) := by decide +kernel
theorem dX7_growsOf_17 : decode cX7_growsOf 17 = .ok (.iload_n 3, 1) := by decide +kernel
theorem dX7_growsOf_18 : decode cX7_growsOf 18 = .ok (.ifCond .ge 8, 3) := by decide +kernel
theorem dX7_growsOf_21 : decode cX7_growsOf 21 = .ok (.bipush (-6), 2) := by decide +kernel
theorem dX7_growsOf_23 : decode cX7_growsOf 23 = .ok (.goto 8, 3) := by decide +kernel
theorem dX7_growsOf_26 : decode cX7_growsOf 26 = .ok (.iload_n 3, 1) := by decide +kernel
theorem dX7_growsOf_27 : decode cX7_growsOf 27 = .ok (.iload_n 2, 1) := by decide +kernel
theorem dX7_growsOf_28 : decode cX7_growsOf 28 = .ok (.isub, 1) := by decide +kernel
theorem dX7_growsOf_29 : decode cX7_growsOf 29 = .ok (.iconst 1, 1) := by decide +kernel
theorem dX7_growsOf_30 : decode cX7_growsOf 30 = .ok (.iadd, 1) := by decide +kernel
theorem dX7_growsOf_31 : decode cX7_growsOf 31 = .ok (.ireturn, 1) := by decide +kernel
theorem dX7_grows_0 : decode cX7_grows 0 = .ok (.iload_n 1, 1) := by decide +kernel
theorem dX7_grows_1 : decode cX7_grows 1 = .ok (.bipush 33, 2) := by decide +kernel
theorem dX7_grows_3 : decode cX7_grows 3 = .ok (.bipush 126, 2) := by decide +kernel
theorem dX7_grows_5 : decode cX7_grows 5 = .ok (.invokestatic 63, 3) := by decide +kernel
theorem dX7_grows_8 : decode cX7_grows 8 = .ok (.ifCond .eq 11, 3) := by decide +kernel
theorem dX7_grows_11 : decode cX7_grows 11 = .ok (.aload_n 0, 1) := by decide +kernel
theorem dX7_grows_12 : decode cX7_grows 12 = .ok (.iload_n 1, 1) := by decide +kernel
theorem dX7_grows_13 : decode cX7_grows 13 = .ok (.invokevirtual 121, 3) := by decide +kernel
theorem dX7_grows_16 : decode cX7_grows 16 = .ok (.goto 5, 3) := by decide +kernel
theorem dX7_grows_19 : decode cX7_grows 19 = .ok (.bipush (-2), 2) := by decide +kernel
theorem dX7_grows_21 : decode cX7_grows 21 = .ok (.ireturn, 1) := by decide +kernel
theorem dX7_safe_0 : decode cX7_safe 0 = .ok (.iconst 0, 1) := by decide +kernel
theorem dX7_safe_1 : decode cX7_safe 1 = .ok (.istore_n 2, 1) := by decide +kernel
theorem dX7_safe_2 : decode cX7_safe 2 = .ok (.bipush 33, 2) := by decide +kernel
theorem dX7_safe_4 : decode cX7_safe 4 = .ok (.istore_n 3, 1) := by decide +kernel
theorem dX7_safe_5 : decode cX7_safe 5 = .ok (.iload_n 3, 1) := by decide +kernel
theorem dX7_safe_6 : decode cX7_safe 6 = .ok (.bipush 127, 2) := by decide +kernel
theorem dX7_safe_8 : decode cX7_safe 8 = .ok (.if_icmp .ge 28, 3) := by decide +kernel
theorem dX7_safe_11 : decode cX7_safe 11 = .ok (.aload_n 0, 1) := by decide +kernel
theorem dX7_safe_12 : decode cX7_safe 12 = .ok (.iload_n 3, 1) := by decide +kernel
theorem dX7_safe_13 : decode cX7_safe 13 = .ok (.invokevirtual 121, 3) := by decide +kernel
theorem dX7_safe_16 : decode cX7_safe 16 = .ok (.iconst 1, 1) := by decide +kernel
theorem dX7_safe_17 : decode cX7_safe 17 = .ok (.if_icmp .ne 13, 3) := by decide +kernel
theorem dX7_safe_20 : decode cX7_safe 20 = .ok (.iload_n 2, 1) := by decide +kernel
theorem dX7_safe_21 : decode cX7_safe 21 = .ok (.iload_n 1, 1) := by decide +kernel
theorem dX7_safe_22 : decode cX7_safe 22 = .ok (.if_icmp .ne 5, 3) := by decide +kernel
theorem dX7_safe_25 : decode cX7_safe 25 = .ok (.iload_n 3, 1) := by decide +kernel
theorem dX7_safe_26 : decode cX7_safe 26 = .ok (.ireturn, 1) := by decide +kernel
theorem dX7_safe_27 : decode cX7_safe 27 = .ok (.iinc 2 1, 3) := by decide +kernel
theorem dX7_safe_30 : decode cX7_safe 30 = .ok (.iinc 3 1, 3) := by decide +kernel
theorem dX7_safe_33 : decode cX7_safe 33 = .ok (.goto (-28), 3) := by decide +kernel
theorem dX7_safe_36 : decode cX7_safe 36 = .ok (.iload_n 1, 1) := by decide +kernel
theorem dX7_safe_37 : decode cX7_safe 37 = .ok (.iconst (-1), 1) := by decide +kernel
theorem dX7_safe_38 : decode cX7_safe 38 = .ok (.if_icmp .ne 7, 3) := by decide +kernel
theorem dX7_safe_41 : decode cX7_safe 41 = .ok (.iload_n 2, 1) := by decide +kernel
theorem dX7_safe_42 : decode cX7_safe 42 = .ok (.goto 5, 3) := by decide +kernel
theorem dX7_safe_45 : decode cX7_safe 45 = .ok (.bipush (-6), 2) := by decide +kernel
theorem dX7_safe_47 : decode cX7_safe 47 = .ok (.ireturn, 1) := by decide +kernel
theorem dX7_dearest_0 : decode cX7_dearest 0 = .ok (.aload_n 0, 1) := by decide +kernel
theorem dX7_dearest_1 : decode cX7_dearest 1 = .ok (.bipush 120, 2) := by decide +kernel
theorem dX7_dearest_3 : decode cX7_dearest 3 = .ok (.invokevirtual 118, 3) := by decide +kernel
theorem dX7_dearest_6 : decode cX7_dearest 6 = .ok (.ifCond .ge 6, 3) := by decide +kernel
theorem dX7_dearest_9 : decode cX7_dearest 9 = .ok (.bipush (-6), 2) := by decide +kernel
theorem dX7_dearest_11 : decode cX7_dearest 11 = .ok (.ireturn, 1) := by decide +kernel
theorem dX7_dearest_12 : decode cX7_dearest 12 = .ok (.bipush (-6), 2) := by decide +kernel
theorem dX7_dearest_14 : decode cX7_dearest 14 = .ok (.istore_n 1, 1) := by decide +kernel
theorem dX7_dearest_15 : decode cX7_dearest 15 = .ok (.iconst 0, 1) := by decide +kernel
theorem dX7_dearest_16 : decode cX7_dearest 16 = .ok (.istore_n 2, 1) := by decide +kernel
theorem dX7_dearest_17 : decode cX7_dearest 17 = .ok (.bipush 33, 2) := by decide +kernel
theorem dX7_dearest_19 : decode cX7_dearest 19 = .ok (.istore_n 3, 1) := by decide +kernel
theorem dX7_dearest_20 : decode cX7_dearest 20 = .ok (.iload_n 3, 1) := by decide +kernel
theorem dX7_dearest_21 : decode cX7_dearest 21 = .ok (.bipush 127, 2) := by decide +kernel
theorem dX7_dearest_23 : decode cX7_dearest 23 = .ok (.if_icmp .ge 36, 3) := by decide +kernel
theorem dX7_dearest_26 : decode cX7_dearest 26 = .ok (.aload_n 0, 1) := by decide +kernel
theorem dX7_dearest_27 : decode cX7_dearest 27 = .ok (.iload_n 3, 1) := by decide +kernel
theorem dX7_dearest_28 : decode cX7_dearest 28 = .ok (.invokevirtual 121, 3) := by decide +kernel
theorem dX7_dearest_31 : decode cX7_dearest 31 = .ok (.istore 4, 2) := by decide +kernel
theorem dX7_dearest_33 : decode cX7_dearest 33 = .ok (.iload 4, 2) := by decide +kernel
theorem dX7_dearest_35 : decode cX7_dearest 35 = .ok (.ifCond .lt 18, 3) := by decide +kernel
theorem dX7_dearest_38 : decode cX7_dearest 38 = .ok (.iload_n 1, 1) := by decide +kernel
theorem dX7_dearest_39 : decode cX7_dearest 39 = .ok (.ifCond .lt 9, 3) := by decide +kernel
theorem dX7_dearest_42 : decode cX7_dearest 42 = .ok (.iload 4, 2) := by decide +kernel
theorem dX7_dearest_44 : decode cX7_dearest 44 = .ok (.iload_n 2, 1) := by decide +kernel
theorem dX7_dearest_45 : decode cX7_dearest 45 = .ok (.if_icmp .le 8, 3) := by decide +kernel
theorem dX7_dearest_48 : decode cX7_dearest 48 = .ok (.iload_n 3, 1) := by decide +kernel
theorem dX7_dearest_49 : decode cX7_dearest 49 = .ok (.istore_n 1, 1) := by decide +kernel
theorem dX7_dearest_50 : decode cX7_dearest 50 = .ok (.iload 4, 2) := by decide +kernel
theorem dX7_dearest_52 : decode cX7_dearest 52 = .ok (.istore_n 2, 1) := by decide +kernel
theorem dX7_dearest_53 : decode cX7_dearest 53 = .ok (.iinc 3 1, 3) := by decide +kernel
theorem dX7_dearest_56 : decode cX7_dearest 56 = .ok (.goto (-36), 3) := by decide +kernel
theorem dX7_dearest_59 : decode cX7_dearest 59 = .ok (.iload_n 1, 1) := by decide +kernel
theorem dX7_dearest_60 : decode cX7_dearest 60 = .ok (.ireturn, 1) := by decide +kernel
theorem dX7_valueOf_0 : decode cX7_valueOf 0 = .ok (.iload_n 0, 1) := by decide +kernel
theorem dX7_valueOf_1 : decode cX7_valueOf 1 = .ok (.bipush 48, 2) := by decide +kernel
theorem dX7_valueOf_3 : decode cX7_valueOf 3 = .ok (.bipush 57, 2) := by decide +kernel
theorem dX7_valueOf_5 : decode cX7_valueOf 5 = .ok (.invokestatic 63, 3) := by decide +kernel
theorem dX7_valueOf_8 : decode cX7_valueOf 8 = .ok (.ifCond .eq 10, 3) := by decide +kernel
theorem dX7_valueOf_11 : decode cX7_valueOf 11 = .ok (.iload_n 0, 1) := by decide +kernel
theorem dX7_valueOf_12 : decode cX7_valueOf 12 = .ok (.bipush 48, 2) := by decide +kernel
theorem dX7_valueOf_14 : decode cX7_valueOf 14 = .ok (.isub, 1) := by decide +kernel
theorem dX7_valueOf_15 : decode cX7_valueOf 15 = .ok (.goto 26, 3) := by decide +kernel
theorem dX7_valueOf_18 : decode cX7_valueOf 18 = .ok (.iload_n 0, 1) := by decide +kernel
theorem dX7_valueOf_19 : decode cX7_valueOf 19 = .ok (.bipush 97, 2) := by decide +kernel
theorem dX7_valueOf_21 : decode cX7_valueOf 21 = .ok (.bipush 102, 2) := by decide +kernel
theorem dX7_valueOf_23 : decode cX7_valueOf 23 = .ok (.invokestatic 63, 3) := by decide +kernel
theorem dX7_valueOf_26 : decode cX7_valueOf 26 = .ok (.ifCond .eq 13, 3) := by decide +kernel
theorem dX7_valueOf_29 : decode cX7_valueOf 29 = .ok (.iload_n 0, 1) := by decide +kernel
theorem dX7_valueOf_30 : decode cX7_valueOf 30 = .ok (.bipush 97, 2) := by decide +kernel
theorem dX7_valueOf_32 : decode cX7_valueOf 32 = .ok (.isub, 1) := by decide +kernel
theorem dX7_valueOf_33 : decode cX7_valueOf 33 = .ok (.bipush 10, 2) := by decide +kernel
theorem dX7_valueOf_35 : decode cX7_valueOf 35 = .ok (.iadd, 1) := by decide +kernel
theorem dX7_valueOf_36 : decode cX7_valueOf 36 = .ok (.goto 5, 3) := by decide +kernel
theorem dX7_valueOf_39 : decode cX7_valueOf 39 = .ok (.bipush (-6), 2) := by decide +kernel
theorem dX7_valueOf_41 : decode cX7_valueOf 41 = .ok (.ireturn, 1) := by decide +kernel
theorem dX7_codeAt_0 : decode cX7_codeAt 0 = .ok (.iload_n 1, 1) := by decide +kernel
theorem dX7_codeAt_1 : decode cX7_codeAt 1 = .ok (.iconst 2, 1) := by decide +kernel
theorem dX7_codeAt_2 : decode cX7_codeAt 2 = .ok (.iadd, 1) := by decide +kernel
theorem dX7_codeAt_3 : decode cX7_codeAt 3 = .ok (.aload_n 0, 1) := by decide +kernel
theorem dX7_codeAt_4 : decode cX7_codeAt 4 = .ok (.getfield 94, 3) := by decide +kernel
theorem dX7_codeAt_7 : decode cX7_codeAt 7 = .ok (.if_icmp .ge 31, 3) := by decide +kernel
theorem dX7_codeAt_10 : decode cX7_codeAt 10 = .ok (.aload_n 0, 1) := by decide +kernel
theorem dX7_codeAt_11 : decode cX7_codeAt 11 = .ok (.getfield 38, 3) := by decide +kernel
theorem dX7_codeAt_14 : decode cX7_codeAt 14 = .ok (.iload_n 1, 1) := by decide +kernel
theorem dX7_codeAt_15 : decode cX7_codeAt 15 = .ok (.iconst 1, 1) := by decide +kernel
theorem dX7_codeAt_16 : decode cX7_codeAt 16 = .ok (.iadd, 1) := by decide +kernel
theorem dX7_codeAt_17 : decode cX7_codeAt 17 = .ok (.iaload, 1) := by decide +kernel
theorem dX7_codeAt_18 : decode cX7_codeAt 18 = .ok (.invokestatic 124, 3) := by decide +kernel
theorem dX7_codeAt_21 : decode cX7_codeAt 21 = .ok (.ifCond .lt 17, 3) := by decide +kernel
theorem dX7_codeAt_24 : decode cX7_codeAt 24 = .ok (.aload_n 0, 1) := by decide +kernel
theorem dX7_codeAt_25 : decode cX7_codeAt 25 = .ok (.getfield 38, 3) := by decide +kernel
theorem dX7_codeAt_28 : decode cX7_codeAt 28 = .ok (.iload_n 1, 1) := by decide +kernel
theorem dX7_codeAt_29 : decode cX7_codeAt 29 = .ok (.iconst 2, 1) := by decide +kernel
theorem dX7_codeAt_30 : decode cX7_codeAt 30 = .ok (.iadd, 1) := by decide +kernel
theorem dX7_codeAt_31 : decode cX7_codeAt 31 = .ok (.iaload, 1) := by decide +kernel
theorem dX7_codeAt_32 : decode cX7_codeAt 32 = .ok (.invokestatic 124, 3) := by decide +kernel
theorem dX7_codeAt_35 : decode cX7_codeAt 35 = .ok (.ifCond .ge 6, 3) := by decide +kernel
theorem dX7_codeAt_38 : decode cX7_codeAt 38 = .ok (.bipush (-6), 2) := by decide +kernel
theorem dX7_codeAt_40 : decode cX7_codeAt 40 = .ok (.ireturn, 1) := by decide +kernel
theorem dX7_codeAt_41 : decode cX7_codeAt 41 = .ok (.bipush 16, 2) := by decide +kernel
theorem dX7_codeAt_43 : decode cX7_codeAt 43 = .ok (.aload_n 0, 1) := by decide +kernel
theorem dX7_codeAt_44 : decode cX7_codeAt 44 = .ok (.getfield 38, 3) := by decide +kernel
theorem dX7_codeAt_47 : decode cX7_codeAt 47 = .ok (.iload_n 1, 1) := by decide +kernel
theorem dX7_codeAt_48 : decode cX7_codeAt 48 = .ok (.iconst 1, 1) := by decide +kernel
theorem dX7_codeAt_49 : decode cX7_codeAt 49 = .ok (.iadd, 1) := by decide +kernel
theorem dX7_codeAt_50 : decode cX7_codeAt 50 = .ok (.iaload, 1) := by decide +kernel
theorem dX7_codeAt_51 : decode cX7_codeAt 51 = .ok (.invokestatic 124, 3) := by decide +kernel
theorem dX7_codeAt_54 : decode cX7_codeAt 54 = .ok (.imul, 1) := by decide +kernel
theorem dX7_codeAt_55 : decode cX7_codeAt 55 = .ok (.aload_n 0, 1) := by decide +kernel
theorem dX7_codeAt_56 : decode cX7_codeAt 56 = .ok (.getfield 38, 3) := by decide +kernel
theorem dX7_codeAt_59 : decode cX7_codeAt 59 = .ok (.iload_n 1, 1) := by decide +kernel
theorem dX7_codeAt_60 : decode cX7_codeAt 60 = .ok (.iconst 2, 1) := by decide +kernel
theorem dX7_codeAt_61 : decode cX7_codeAt 61 = .ok (.iadd, 1) := by decide +kernel
theorem dX7_codeAt_62 : decode cX7_codeAt 62 = .ok (.iaload, 1) := by decide +kernel
theorem dX7_codeAt_63 : decode cX7_codeAt 63 = .ok (.invokestatic 124, 3) := by decide +kernel
theorem dX7_codeAt_66 : decode cX7_codeAt 66 = .ok (.iadd, 1) := by decide +kernel
theorem dX7_codeAt_67 : decode cX7_codeAt 67 = .ok (.istore_n 2, 1) := by decide +kernel
theorem dX7_codeAt_68 : decode cX7_codeAt 68 = .ok (.iload_n 2, 1) := by decide +kernel
theorem dX7_codeAt_69 : decode cX7_codeAt 69 = .ok (.bipush 33, 2) := by decide +kernel
theorem dX7_codeAt_71 : decode cX7_codeAt 71 = .ok (.bipush 126, 2) := by decide +kernel
theorem dX7_codeAt_73 : decode cX7_codeAt 73 = .ok (.invokestatic 63, 3) := by decide +kernel
theorem dX7_codeAt_76 : decode cX7_codeAt 76 = .ok (.ifCond .eq 7, 3) := by decide +kernel
theorem dX7_codeAt_79 : decode cX7_codeAt 79 = .ok (.iload_n 2, 1) := by decide +kernel
theorem dX7_codeAt_80 : decode cX7_codeAt 80 = .ok (.goto 5, 3) := by decide +kernel
theorem dX7_codeAt_83 : decode cX7_codeAt 83 = .ok (.bipush (-6), 2) := by decide +kernel
theorem dX7_codeAt_85 : decode cX7_codeAt 85 = .ok (.ireturn, 1) := by decide +kernel
theorem dX7_readBy_0 : decode cX7_readBy 0 = .ok (.iconst 0, 1) := by decide +kernel
theorem dX7_readBy_1 : decode cX7_readBy 1 = .ok (.istore_n 2, 1) := by decide +kernel
theorem dX7_readBy_2 : decode cX7_readBy 2 = .ok (.iconst 0, 1) := by decide +kernel
theorem dX7_readBy_3 : decode cX7_readBy 3 = .ok (.istore_n 3, 1) := by decide +kernel
theorem dX7_readBy_4 : decode cX7_readBy 4 = .ok (.aload_n 0, 1) := by decide +kernel
theorem dX7_readBy_5 : decode cX7_readBy 5 = .ok (.iload_n 1, 1) := by decide +kernel
theorem dX7_readBy_6 : decode cX7_readBy 6 = .ok (.invokevirtual 87, 3) := by decide +kernel
theorem dX7_readBy_9 : decode cX7_readBy 9 = .ok (.ifCond .eq 29, 3) := by decide +kernel
theorem dX7_readBy_12 : decode cX7_readBy 12 = .ok (.aload_n 0, 1) := by decide +kernel
theorem dX7_readBy_13 : decode cX7_readBy 13 = .ok (.getfield 94, 3) := by decide +kernel
theorem dX7_readBy_16 : decode cX7_readBy 16 = .ok (.ifCond .eq 18, 3) := by decide +kernel
theorem dX7_readBy_19 : decode cX7_readBy 19 = .ok (.aload_n 0, 1) := by decide +kernel
theorem dX7_readBy_20 : decode cX7_readBy 20 = .ok (.getfield 38, 3) := by decide +kernel
theorem dX7_readBy_23 : decode cX7_readBy 23 = .ok (.iconst 0, 1) := by decide +kernel
theorem dX7_readBy_24 : decode cX7_readBy 24 = .ok (.iaload, 1) := by decide +kernel
theorem dX7_readBy_25 : decode cX7_readBy 25 = .ok (.aload_n 0, 1) := by decide +kernel
theorem dX7_readBy_26 : decode cX7_readBy 26 = .ok (.getfield 13, 3) := by decide +kernel
theorem dX7_readBy_29 : decode cX7_readBy 29 = .ok (.iload_n 1, 1) := by decide +kernel
theorem dX7_readBy_30 : decode cX7_readBy 30 = .ok (.iaload, 1) := by decide +kernel
theorem dX7_readBy_31 : decode cX7_readBy 31 = .ok (.if_icmp .eq 5, 3) := by decide +kernel
theorem dX7_readBy_34 : decode cX7_readBy 34 = .ok (.iconst 0, 1) := by decide +kernel
theorem dX7_readBy_35 : decode cX7_readBy 35 = .ok (.ireturn, 1) := by decide +kernel
theorem dX7_readBy_36 : decode cX7_readBy 36 = .ok (.iconst 1, 1) := by decide +kernel
theorem dX7_readBy_37 : decode cX7_readBy 37 = .ok (.istore_n 3, 1) := by decide +kernel
theorem dX7_readBy_38 : decode cX7_readBy 38 = .ok (.iconst 0, 1) := by decide +kernel
theorem dX7_readBy_39 : decode cX7_readBy 39 = .ok (.istore 4, 2) := by decide +kernel
theorem dX7_readBy_41 : decode cX7_readBy 41 = .ok (.iload_n 3, 1) := by decide +kernel
theorem dX7_readBy_42 : decode cX7_readBy 42 = .ok (.aload_n 0, 1) := by decide +kernel
theorem dX7_readBy_43 : decode cX7_readBy 43 = .ok (.getfield 94, 3) := by decide +kernel
theorem dX7_readBy_46 : decode cX7_readBy 46 = .ok (.if_icmp .ge 223, 3) := by decide +kernel
theorem dX7_readBy_49 : decode cX7_readBy 49 = .ok (.iload 4, 2) := by decide +kernel
theorem dX7_readBy_51 : decode cX7_readBy 51 = .ok (.ifCond .ne 218, 3) := by decide +kernel
theorem dX7_readBy_54 : decode cX7_readBy 54 = .ok (.aload_n 0, 1) := by decide +kernel
theorem dX7_readBy_55 : decode cX7_readBy 55 = .ok (.getfield 38, 3) := by decide +kernel
theorem dX7_readBy_58 : decode cX7_readBy 58 = .ok (.iload_n 3, 1) := by decide +kernel
theorem dX7_readBy_59 : decode cX7_readBy 59 = .ok (.iaload, 1) := by decide +kernel
theorem dX7_readBy_60 : decode cX7_readBy 60 = .ok (.istore 5, 2) := by decide +kernel
theorem dX7_readBy_62 : decode cX7_readBy 62 = .ok (.iload 5, 2) := by decide +kernel
theorem dX7_readBy_64 : decode cX7_readBy 64 = .ok (.istore 6, 2) := by decide +kernel
theorem dX7_readBy_66 : decode cX7_readBy 66 = .ok (.iconst 1, 1) := by decide +kernel
theorem dX7_readBy_67 : decode cX7_readBy 67 = .ok (.istore 7, 2) := by decide +kernel
theorem dX7_readBy_69 : decode cX7_readBy 69 = .ok (.iload 5, 2) := by decide +kernel
theorem dX7_readBy_71 : decode cX7_readBy 71 = .ok (.aload_n 0, 1) := by decide +kernel
theorem dX7_readBy_72 : decode cX7_readBy 72 = .ok (.getfield 19, 3) := by decide +kernel
