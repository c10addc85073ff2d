theorem dX0_init_0 : decode cX0_init 0 = .ok (.aload_n 0, 1) := by decide +kernel
theorem dX0_init_1 : decode cX0_init 1 = .ok (.invokespecial 3, 3) := by decide +kernel
theorem dX0_init_4 : decode cX0_init 4 = .ok (.aload_n 0, 1) := by decide +kernel
theorem dX0_init_5 : decode cX0_init 5 = .ok (.new 9, 3) := by decide +kernel
theorem dX0_init_8 : decode cX0_init 8 = .ok (.dup, 1) := by decide +kernel
theorem dX0_init_9 : decode cX0_init 9 = .ok (.bipush 10, 2) := by decide +kernel
theorem dX0_init_11 : decode cX0_init 11 = .ok (.iconst 2, 1) := by decide +kernel
theorem dX0_init_12 : decode cX0_init 12 = .ok (.invokespecial 11, 3) := by decide +kernel
theorem dX0_init_15 : decode cX0_init 15 = .ok (.putfield 14, 3) := by decide +kernel
theorem dX0_init_18 : decode cX0_init 18 = .ok (.aload_n 0, 1) := by decide +kernel
theorem dX0_init_19 : decode cX0_init 19 = .ok (.new 9, 3) := by decide +kernel
theorem dX0_init_22 : decode cX0_init 22 = .ok (.dup, 1) := by decide +kernel
theorem dX0_init_23 : decode cX0_init 23 = .ok (.iconst 4, 1) := by decide +kernel
theorem dX0_init_24 : decode cX0_init 24 = .ok (.bipush 51, 2) := by decide +kernel
theorem dX0_init_26 : decode cX0_init 26 = .ok (.invokespecial 11, 3) := by decide +kernel
theorem dX0_init_29 : decode cX0_init 29 = .ok (.putfield 20, 3) := by decide +kernel
theorem dX0_init_32 : decode cX0_init 32 = .ok (.aload_n 0, 1) := by decide +kernel
theorem dX0_init_33 : decode cX0_init 33 = .ok (.new 9, 3) := by decide +kernel
theorem dX0_init_36 : decode cX0_init 36 = .ok (.dup, 1) := by decide +kernel
theorem dX0_init_37 : decode cX0_init 37 = .ok (.bipush 16, 2) := by decide +kernel
theorem dX0_init_39 : decode cX0_init 39 = .ok (.bipush 104, 2) := by decide +kernel
theorem dX0_init_41 : decode cX0_init 41 = .ok (.invokespecial 11, 3) := by decide +kernel
theorem dX0_init_44 : decode cX0_init 44 = .ok (.putfield 23, 3) := by decide +kernel
theorem dX0_init_47 : decode cX0_init 47 = .ok (.aload_n 0, 1) := by decide +kernel
theorem dX0_init_48 : decode cX0_init 48 = .ok (.new 9, 3) := by decide +kernel
theorem dX0_init_51 : decode cX0_init 51 = .ok (.dup, 1) := by decide +kernel
theorem dX0_init_52 : decode cX0_init 52 = .ok (.bipush 40, 2) := by decide +kernel
theorem dX0_init_54 : decode cX0_init 54 = .ok (.bipush 7, 2) := by decide +kernel
theorem dX0_init_56 : decode cX0_init 56 = .ok (.invokespecial 11, 3) := by decide +kernel
theorem dX0_init_59 : decode cX0_init 59 = .ok (.putfield 26, 3) := by decide +kernel
theorem dX0_init_62 : decode cX0_init 62 = .ok (.aload_n 0, 1) := by decide +kernel
theorem dX0_init_63 : decode cX0_init 63 = .ok (.new 9, 3) := by decide +kernel
theorem dX0_init_66 : decode cX0_init 66 = .ok (.dup, 1) := by decide +kernel
theorem dX0_init_67 : decode cX0_init 67 = .ok (.bipush 60, 2) := by decide +kernel
theorem dX0_init_69 : decode cX0_init 69 = .ok (.iconst 3, 1) := by decide +kernel
theorem dX0_init_70 : decode cX0_init 70 = .ok (.invokespecial 11, 3) := by decide +kernel
theorem dX0_init_73 : decode cX0_init 73 = .ok (.putfield 29, 3) := by decide +kernel
theorem dX0_init_76 : decode cX0_init 76 = .ok (.aload_n 0, 1) := by decide +kernel
theorem dX0_init_77 : decode cX0_init 77 = .ok (.new 9, 3) := by decide +kernel
theorem dX0_init_80 : decode cX0_init 80 = .ok (.dup, 1) := by decide +kernel
theorem dX0_init_81 : decode cX0_init 81 = .ok (.iconst 3, 1) := by decide +kernel
theorem dX0_init_82 : decode cX0_init 82 = .ok (.bipush 13, 2) := by decide +kernel
theorem dX0_init_84 : decode cX0_init 84 = .ok (.invokespecial 11, 3) := by decide +kernel
theorem dX0_init_87 : decode cX0_init 87 = .ok (.putfield 32, 3) := by decide +kernel
theorem dX0_init_90 : decode cX0_init 90 = .ok (.aload_n 0, 1) := by decide +kernel
theorem dX0_init_91 : decode cX0_init 91 = .ok (.new 9, 3) := by decide +kernel
theorem dX0_init_94 : decode cX0_init 94 = .ok (.dup, 1) := by decide +kernel
theorem dX0_init_95 : decode cX0_init 95 = .ok (.bipush 6, 2) := by decide +kernel
theorem dX0_init_97 : decode cX0_init 97 = .ok (.iconst 1, 1) := by decide +kernel
theorem dX0_init_98 : decode cX0_init 98 = .ok (.invokespecial 11, 3) := by decide +kernel
theorem dX0_init_101 : decode cX0_init 101 = .ok (.putfield 35, 3) := by decide +kernel
theorem dX0_init_104 : decode cX0_init 104 = .ok (.aload_n 0, 1) := by decide +kernel
theorem dX0_init_105 : decode cX0_init 105 = .ok (.new 9, 3) := by decide +kernel
theorem dX0_init_108 : decode cX0_init 108 = .ok (.dup, 1) := by decide +kernel
theorem dX0_init_109 : decode cX0_init 109 = .ok (.bipush 12, 2) := by decide +kernel
theorem dX0_init_111 : decode cX0_init 111 = .ok (.iconst 3, 1) := by decide +kernel
theorem dX0_init_112 : decode cX0_init 112 = .ok (.invokespecial 11, 3) := by decide +kernel
theorem dX0_init_115 : decode cX0_init 115 = .ok (.putfield 38, 3) := by decide +kernel
theorem dX0_init_118 : decode cX0_init 118 = .ok (.aload_n 0, 1) := by decide +kernel
theorem dX0_init_119 : decode cX0_init 119 = .ok (.new 9, 3) := by decide +kernel
theorem dX0_init_122 : decode cX0_init 122 = .ok (.dup, 1) := by decide +kernel
theorem dX0_init_123 : decode cX0_init 123 = .ok (.bipush 40, 2) := by decide +kernel
theorem dX0_init_125 : decode cX0_init 125 = .ok (.iconst 3, 1) := by decide +kernel
theorem dX0_init_126 : decode cX0_init 126 = .ok (.invokespecial 11, 3) := by decide +kernel
theorem dX0_init_129 : decode cX0_init 129 = .ok (.putfield 41, 3) := by decide +kernel
theorem dX0_init_132 : decode cX0_init 132 = .ok (.aload_n 0, 1) := by decide +kernel
theorem dX0_init_133 : decode cX0_init 133 = .ok (.new 9, 3) := by decide +kernel
theorem dX0_init_136 : decode cX0_init 136 = .ok (.dup, 1) := by decide +kernel
theorem dX0_init_137 : decode cX0_init 137 = .ok (.bipush 30, 2) := by decide +kernel
theorem dX0_init_139 : decode cX0_init 139 = .ok (.iconst 5, 1) := by decide +kernel
theorem dX0_init_140 : decode cX0_init 140 = .ok (.invokespecial 11, 3) := by decide +kernel
theorem dX0_init_143 : decode cX0_init 143 = .ok (.putfield 44, 3) := by decide +kernel
theorem dX0_init_146 : decode cX0_init 146 = .ok (.aload_n 0, 1) := by decide +kernel
theorem dX0_init_147 : decode cX0_init 147 = .ok (.new 9, 3) := by decide +kernel
theorem dX0_init_150 : decode cX0_init 150 = .ok (.dup, 1) := by decide +kernel
theorem dX0_init_151 : decode cX0_init 151 = .ok (.bipush 10, 2) := by decide +kernel
theorem dX0_init_153 : decode cX0_init 153 = .ok (.iconst 3, 1) := by decide +kernel
theorem dX0_init_154 : decode cX0_init 154 = .ok (.invokespecial 11, 3) := by decide +kernel
theorem dX0_init_157 : decode cX0_init 157 = .ok (.putfield 47, 3) := by decide +kernel
theorem dX0_init_160 : decode cX0_init 160 = .ok (.aload_n 0, 1) := by decide +kernel
theorem dX0_init_161 : decode cX0_init 161 = .ok (.new 9, 3) := by decide +kernel
theorem dX0_init_164 : decode cX0_init 164 = .ok (.dup, 1) := by decide +kernel
theorem dX0_init_165 : decode cX0_init 165 = .ok (.bipush 6, 2) := by decide +kernel
theorem dX0_init_167 : decode cX0_init 167 = .ok (.iconst 3, 1) := by decide +kernel
theorem dX0_init_168 : decode cX0_init 168 = .ok (.invokespecial 11, 3) := by decide +kernel
theorem dX0_init_171 : decode cX0_init 171 = .ok (.putfield 50, 3) := by decide +kernel
theorem dX0_init_174 : decode cX0_init 174 = .ok (.aload_n 0, 1) := by decide +kernel
theorem dX0_init_175 : decode cX0_init 175 = .ok (.new 9, 3) := by decide +kernel
theorem dX0_init_178 : decode cX0_init 178 = .ok (.dup, 1) := by decide +kernel
theorem dX0_init_179 : decode cX0_init 179 = .ok (.iconst 1, 1) := by decide +kernel
theorem dX0_init_180 : decode cX0_init 180 = .ok (.iconst 3, 1) := by decide +kernel
theorem dX0_init_181 : decode cX0_init 181 = .ok (.invokespecial 11, 3) := by decide +kernel
theorem dX0_init_184 : decode cX0_init 184 = .ok (.putfield 53, 3) := by decide +kernel
theorem dX0_init_187 : decode cX0_init 187 = .ok (.aload_n 0, 1) := by decide +kernel
theorem dX0_init_188 : decode cX0_init 188 = .ok (.bipush 10, 2) := by decide +kernel
theorem dX0_init_190 : decode cX0_init 190 = .ok (.putfield 56, 3) := by decide +kernel
theorem dX0_init_193 : decode cX0_init 193 = .ok (.aload_n 0, 1) := by decide +kernel
theorem dX0_init_194 : decode cX0_init 194 = .ok (.bipush 9, 2) := by decide +kernel
theorem dX0_init_196 : decode cX0_init 196 = .ok (.putfield 60, 3) := by decide +kernel
theorem dX0_init_199 : decode cX0_init 199 = .ok (.aload_n 0, 1) := by decide +kernel
theorem dX0_init_200 : decode cX0_init 200 = .ok (.getfield 53, 3) := by decide +kernel
theorem dX0_init_203 : decode cX0_init 203 = .ok (.iconst 0, 1) := by decide +kernel
theorem dX0_init_204 : decode cX0_init 204 = .ok (.iconst 0, 1) := by decide +kernel
theorem dX0_init_205 : decode cX0_init 205 = .ok (.iconst 0, 1) := by decide +kernel
theorem dX0_init_206 : decode cX0_init 206 = .ok (.iconst 0, 1) := by decide +kernel
theorem dX0_init_207 : decode cX0_init 207 = .ok (.iconst 0, 1) := by decide +kernel
theorem dX0_init_208 : decode cX0_init 208 = .ok (.invokevirtual 63, 3) := by decide +kernel
theorem dX0_init_211 : decode cX0_init 211 = .ok (.pop, 1) := by decide +kernel
theorem dX0_init_212 : decode cX0_init 212 = .ok (.iconst 0, 1) := by decide +kernel
theorem dX0_init_213 : decode cX0_init 213 = .ok (.istore_n 1, 1) := by decide +kernel
theorem dX0_init_214 : decode cX0_init 214 = .ok (.iload_n 1, 1) := by decide +kernel
theorem dX0_init_215 : decode cX0_init 215 = .ok (.iconst 4, 1) := by decide +kernel
theorem dX0_init_216 : decode cX0_init 216 = .ok (.if_icmp .ge 22, 3) := by decide +kernel
theorem dX0_init_219 : decode cX0_init 219 = .ok (.aload_n 0, 1) := by decide +kernel
theorem dX0_init_220 : decode cX0_init 220 = .ok (.getfield 20, 3) := by decide +kernel
theorem dX0_init_223 : decode cX0_init 223 = .ok (.iconst 0, 1) := by decide +kernel
theorem dX0_init_224 : decode cX0_init 224 = .ok (.iconst 0, 1) := by decide +kernel
theorem dX0_init_225 : decode cX0_init 225 = .ok (.iconst 0, 1) := by decide +kernel
theorem dX0_init_226 : decode cX0_init 226 = .ok (.iconst 0, 1) := by decide +kernel
theorem dX0_init_227 : decode cX0_init 227 = .ok (.iconst 0, 1) := by decide +kernel
theorem dX0_init_228 : decode cX0_init 228 = .ok (.invokevirtual 63, 3) := by decide +kernel
theorem dX0_init_231 : decode cX0_init 231 = .ok (.pop, 1) := by decide +kernel
theorem dX0_init_232 : decode cX0_init 232 = .ok (.iinc 1 1, 3) := by decide +kernel
theorem dX0_init_235 : decode cX0_init 235 = .ok (.goto (-21), 3) := by decide +kernel
theorem dX0_init_238 : decode cX0_init 238 = .ok (.return_, 1) := by decide +kernel
theorem dX0_become_0 : decode cX0_become 0 = .ok (.aload_n 0, 1) := by decide +kernel
theorem dX0_become_1 : decode cX0_become 1 = .ok (.getfield 14, 3) := by decide +kernel
theorem dX0_become_4 : decode cX0_become 4 = .ok (.aload_n 1, 1) := by decide +kernel
theorem dX0_become_5 : decode cX0_become 5 = .ok (.getfield 14, 3) := by decide +kernel
theorem dX0_become_8 : decode cX0_become 8 = .ok (.invokevirtual 67, 3) := by decide +kernel
theorem dX0_become_11 : decode cX0_become 11 = .ok (.aload_n 0, 1) := by decide +kernel
theorem dX0_become_12 : decode cX0_become 12 = .ok (.getfield 20, 3) := by decide +kernel
theorem dX0_become_15 : decode cX0_become 15 = .ok (.aload_n 1, 1) := by decide +kernel
theorem dX0_become_16 : decode cX0_become 16 = .ok (.getfield 20, 3) := by decide +kernel
theorem dX0_become_19 : decode cX0_become 19 = .ok (.invokevirtual 67, 3) := by decide +kernel
theorem dX0_become_22 : decode cX0_become 22 = .ok (.aload_n 0, 1) := by decide +kernel
theorem dX0_become_23 : decode cX0_become 23 = .ok (.getfield 23, 3) := by decide +kernel
theorem dX0_become_26 : decode cX0_become 26 = .ok (.aload_n 1, 1) := by decide +kernel
theorem dX0_become_27 : decode cX0_become 27 = .ok (.getfield 23, 3) := by decide +kernel
theorem dX0_become_30 : decode cX0_become 30 = .ok (.invokevirtual 67, 3) := by decide +kernel
theorem dX0_become_33 : decode cX0_become 33 = .ok (.aload_n 0, 1) := by decide +kernel
theorem dX0_become_34 : decode cX0_become 34 = .ok (.getfield 26, 3) := by decide +kernel
theorem dX0_become_37 : decode cX0_become 37 = .ok (.aload_n 1, 1) := by decide +kernel
theorem dX0_become_38 : decode cX0_become 38 = .ok (.getfield 26, 3) := by decide +kernel
theorem dX0_become_41 : decode cX0_become 41 = .ok (.invokevirtual 67, 3) := by decide +kernel
theorem dX0_become_44 : decode cX0_become 44 = .ok (.aload_n 0, 1) := by decide +kernel
theorem dX0_become_45 : decode cX0_become 45 = .ok (.getfield 29, 3) := by decide +kernel
theorem dX0_become_48 : decode cX0_become 48 = .ok (.aload_n 1, 1) := by decide +kernel
theorem dX0_become_49 : decode cX0_become 49 = .ok (.getfield 29, 3) := by decide +kernel
theorem dX0_become_52 : decode cX0_become 52 = .ok (.invokevirtual 67, 3) := by decide +kernel
theorem dX0_become_55 : decode cX0_become 55 = .ok (.aload_n 0, 1) := by decide +kernel
theorem dX0_become_56 : decode cX0_become 56 = .ok (.getfield 32, 3) := by decide +kernel
theorem dX0_become_59 : decode cX0_become 59 = .ok (.aload_n 1, 1) := by decide +kernel
theorem dX0_become_60 : decode cX0_become 60 = .ok (.getfield 32, 3) := by decide +kernel
theorem dX0_become_63 : decode cX0_become 63 = .ok (.invokevirtual 67, 3) := by decide +kernel
theorem dX0_become_66 : decode cX0_become 66 = .ok (.aload_n 0, 1) := by decide +kernel
theorem dX0_become_67 : decode cX0_become 67 = .ok (.getfield 35, 3) := by decide +kernel
theorem dX0_become_70 : decode cX0_become 70 = .ok (.aload_n 1, 1) := by decide +kernel
theorem dX0_become_71 : decode cX0_become 71 = .ok (.getfield 35, 3) := by decide +kernel
theorem dX0_become_74 : decode cX0_become 74 = .ok (.invokevirtual 67, 3) := by decide +kernel
theorem dX0_become_77 : decode cX0_become 77 = .ok (.aload_n 0, 1) := by decide +kernel
theorem dX0_become_78 : decode cX0_become 78 = .ok (.getfield 38, 3) := by decide +kernel
theorem dX0_become_81 : decode cX0_become 81 = .ok (.aload_n 1, 1) := by decide +kernel
theorem dX0_become_82 : decode cX0_become 82 = .ok (.getfield 38, 3) := by decide +kernel
theorem dX0_become_85 : decode cX0_become 85 = .ok (.invokevirtual 67, 3) := by decide +kernel
theorem dX0_become_88 : decode cX0_become 88 = .ok (.aload_n 0, 1) := by decide +kernel
theorem dX0_become_89 : decode cX0_become 89 = .ok (.getfield 41, 3) := by decide +kernel
theorem dX0_become_92 : decode cX0_become 92 = .ok (.aload_n 1, 1) := by decide +kernel
theorem dX0_become_93 : decode cX0_become 93 = .ok (.getfield 41, 3) := by decide +kernel
theorem dX0_become_96 : decode cX0_become 96 = .ok (.invokevirtual 67, 3) := by decide +kernel
theorem dX0_become_99 : decode cX0_become 99 = .ok (.aload_n 0, 1) := by decide +kernel
theorem dX0_become_100 : decode cX0_become 100 = .ok (.getfield 44, 3) := by decide +kernel
theorem dX0_become_103 : decode cX0_become 103 = .ok (.aload_n 1, 1) := by decide +kernel
theorem dX0_become_104 : decode cX0_become 104 = .ok (.getfield 44, 3) := by decide +kernel
theorem dX0_become_107 : decode cX0_become 107 = .ok (.invokevirtual 67, 3) := by decide +kernel
theorem dX0_become_110 : decode cX0_become 110 = .ok (.aload_n 0, 1) := by decide +kernel
theorem dX0_become_111 : decode cX0_become 111 = .ok (.getfield 47, 3) := by decide +kernel
theorem dX0_become_114 : decode cX0_become 114 = .ok (.aload_n 1, 1) := by decide +kernel
theorem dX0_become_115 : decode cX0_become 115 = .ok (.getfield 47, 3) := by decide +kernel
theorem dX0_become_118 : decode cX0_become 118 = .ok (.invokevirtual 67, 3) := by decide +kernel
theorem dX0_become_121 : decode cX0_become 121 = .ok (.aload_n 0, 1) := by decide +kernel
theorem dX0_become_122 : decode cX0_become 122 = .ok (.getfield 50, 3) := by decide +kernel
theorem dX0_become_125 : decode cX0_become 125 = .ok (.aload_n 1, 1) := by decide +kernel
theorem dX0_become_126 : decode cX0_become 126 = .ok (.getfield 50, 3) := by decide +kernel
theorem dX0_become_129 : decode cX0_become 129 = .ok (.invokevirtual 67, 3) := by decide +kernel
theorem dX0_become_132 : decode cX0_become 132 = .ok (.aload_n 0, 1) := by decide +kernel
theorem dX0_become_133 : decode cX0_become 133 = .ok (.getfield 53, 3) := by decide +kernel
theorem dX0_become_136 : decode cX0_become 136 = .ok (.aload_n 1, 1) := by decide +kernel
theorem dX0_become_137 : decode cX0_become 137 = .ok (.getfield 53, 3) := by decide +kernel
theorem dX0_become_140 : decode cX0_become 140 = .ok (.invokevirtual 67, 3) := by decide +kernel
theorem dX0_become_143 : decode cX0_become 143 = .ok (.aload_n 0, 1) := by decide +kernel
theorem dX0_become_144 : decode cX0_become 144 = .ok (.aload_n 1, 1) := by decide +kernel
theorem dX0_become_145 : decode cX0_become 145 = .ok (.getfield 56, 3) := by decide +kernel
theorem dX0_become_148 : decode cX0_become 148 = .ok (.putfield 56, 3) := by decide +kernel
theorem dX0_become_151 : decode cX0_become 151 = .ok (.aload_n 0, 1) := by decide +kernel
theorem dX0_become_152 : decode cX0_become 152 = .ok (.aload_n 1, 1) := by decide +kernel
theorem dX0_become_153 : decode cX0_become 153 = .ok (.getfield 60, 3) := by decide +kernel
theorem dX0_become_156 : decode cX0_become 156 = .ok (.putfield 60, 3) := by decide +kernel
theorem dX0_become_159 : decode cX0_become 159 = .ok (.return_, 1) := by decide +kernel
theorem dX0_howMany_0 : decode cX0_howMany 0 = .ok (.iload_n 1, 1) := by decide +kernel
theorem dX0_howMany_1 : decode cX0_howMany 1 = .ok (.tableswitch 147 0 10 #[59, 67, 75, 83, 91, 99, 107, 115, 123, 131, 139], 59) := by decide +kernel
theorem dX0_howMany_60 : decode cX0_howMany 60 = .ok (.aload_n 0, 1) := by decide +kernel
theorem dX0_howMany_61 : decode cX0_howMany 61 = .ok (.getfield 14, 3) := by decide +kernel
theorem dX0_howMany_64 : decode cX0_howMany 64 = .ok (.getfield 71, 3) := by decide +kernel
theorem dX0_howMany_67 : decode cX0_howMany 67 = .ok (.ireturn, 1) := by decide +kernel
theorem dX0_howMany_68 : decode cX0_howMany 68 = .ok (.aload_n 0, 1) := by decide +kernel
theorem dX0_howMany_69 : decode cX0_howMany 69 = .ok (.getfield 23, 3) := by decide +kernel
theorem dX0_howMany_72 : decode cX0_howMany 72 = .ok (.getfield 71, 3) := by decide +kernel
theorem dX0_howMany_75 : decode cX0_howMany 75 = .ok (.ireturn, 1) := by decide +kernel
theorem dX0_howMany_76 : decode cX0_howMany 76 = .ok (.aload_n 0, 1) := by decide +kernel
theorem dX0_howMany_77 : decode cX0_howMany 77 = .ok (.getfield 26, 3) := by decide +kernel
theorem dX0_howMany_80 : decode cX0_howMany 80 = .ok (.getfield 71, 3) := by decide +kernel
theorem dX0_howMany_83 : decode cX0_howMany 83 = .ok (.ireturn, 1) := by decide +kernel
theorem dX0_howMany_84 : decode cX0_howMany 84 = .ok (.aload_n 0, 1) := by decide +kernel
theorem dX0_howMany_85 : decode cX0_howMany 85 = .ok (.getfield 29, 3) := by decide +kernel
theorem dX0_howMany_88 : decode cX0_howMany 88 = .ok (.getfield 71, 3) := by decide +kernel
theorem dX0_howMany_91 : decode cX0_howMany 91 = .ok (.ireturn, 1) := by decide +kernel
theorem dX0_howMany_92 : decode cX0_howMany 92 = .ok (.aload_n 0, 1) := by decide +kernel
theorem dX0_howMany_93 : decode cX0_howMany 93 = .ok (.getfield 32, 3) := by decide +kernel
theorem dX0_howMany_96 : decode cX0_howMany 96 = .ok (.getfield 71, 3) := by decide +kernel
theorem dX0_howMany_99 : decode cX0_howMany 99 = .ok (.ireturn, 1) := by decide +kernel
theorem dX0_howMany_100 : decode cX0_howMany 100 = .ok (.aload_n 0, 1) := by decide +kernel
theorem dX0_howMany_101 : decode cX0_howMany 101 = .ok (.getfield 35, 3) := by decide +kernel
theorem dX0_howMany_104 : decode cX0_howMany 104 = .ok (.getfield 71, 3) := by decide +kernel
theorem dX0_howMany_107 : decode cX0_howMany 107 = .ok (.ireturn, 1) := by decide +kernel
theorem dX0_howMany_108 : decode cX0_howMany 108 = .ok (.aload_n 0, 1) := by decide +kernel
theorem dX0_howMany_109 : decode cX0_howMany 109 = .ok (.getfield 38, 3) := by decide +kernel
theorem dX0_howMany_112 : decode cX0_howMany 112 = .ok (.getfield 71, 3) := by decide +kernel
theorem dX0_howMany_115 : decode cX0_howMany 115 = .ok (.ireturn, 1) := by decide +kernel
theorem dX0_howMany_116 : decode cX0_howMany 116 = .ok (.aload_n 0, 1) := by decide +kernel
theorem dX0_howMany_117 : decode cX0_howMany 117 = .ok (.getfield 41, 3) := by decide +kernel
theorem dX0_howMany_120 : decode cX0_howMany 120 = .ok (.getfield 71, 3) := by decide +kernel
theorem dX0_howMany_123 : decode cX0_howMany 123 = .ok (.ireturn, 1) := by decide +kernel
theorem dX0_howMany_124 : decode cX0_howMany 124 = .ok (.aload_n 0, 1) := by decide +kernel
theorem dX0_howMany_125 : decode cX0_howMany 125 = .ok (.getfield 44, 3) := by decide +kernel
theorem dX0_howMany_128 : decode cX0_howMany 128 = .ok (.getfield 71, 3) := by decide +kernel
theorem dX0_howMany_131 : decode cX0_howMany 131 = .ok (.ireturn, 1) := by decide +kernel
theorem dX0_howMany_132 : decode cX0_howMany 132 = .ok (.aload_n 0, 1) := by decide +kernel
theorem dX0_howMany_133 : decode cX0_howMany 133 = .ok (.getfield 47, 3) := by decide +kernel
theorem dX0_howMany_136 : decode cX0_howMany 136 = .ok (.getfield 71, 3) := by decide +kernel
theorem dX0_howMany_139 : decode cX0_howMany 139 = .ok (.ireturn, 1) := by decide +kernel
theorem dX0_howMany_140 : decode cX0_howMany 140 = .ok (.aload_n 0, 1) := by decide +kernel
theorem dX0_howMany_141 : decode cX0_howMany 141 = .ok (.getfield 50, 3) := by decide +kernel
theorem dX0_howMany_144 : decode cX0_howMany 144 = .ok (.getfield 71, 3) := by decide +kernel
theorem dX0_howMany_147 : decode cX0_howMany 147 = .ok (.ireturn, 1) := by decide +kernel
theorem dX0_howMany_148 : decode cX0_howMany 148 = .ok (.bipush (-2), 2) := by decide +kernel
theorem dX0_howMany_150 : decode cX0_howMany 150 = .ok (.ireturn, 1) := by decide +kernel
theorem dX0_mixPeople_0 : decode cX0_mixPeople 0 = .ok (.aload_n 0, 1) := by decide +kernel
theorem dX0_mixPeople_1 : decode cX0_mixPeople 1 = .ok (.getfield 14, 3) := by decide +kernel
theorem dX0_mixPeople_4 : decode cX0_mixPeople 4 = .ok (.lload_n 1, 1) := by decide +kernel
theorem dX0_mixPeople_5 : decode cX0_mixPeople 5 = .ok (.iconst 2, 1) := by decide +kernel
theorem dX0_mixPeople_6 : decode cX0_mixPeople 6 = .ok (.invokevirtual 74, 3) := by decide +kernel
theorem dX0_mixPeople_9 : decode cX0_mixPeople 9 = .ok (.lstore_n 3, 1) := by decide +kernel
theorem dX0_mixPeople_10 : decode cX0_mixPeople 10 = .ok (.aload_n 0, 1) := by decide +kernel
theorem dX0_mixPeople_11 : decode cX0_mixPeople 11 = .ok (.getfield 23, 3) := by decide +kernel
theorem dX0_mixPeople_14 : decode cX0_mixPeople 14 = .ok (.lload_n 3, 1) := by decide +kernel
theorem dX0_mixPeople_15 : decode cX0_mixPeople 15 = .ok (.iconst 2, 1) := by decide +kernel
theorem dX0_mixPeople_16 : decode cX0_mixPeople 16 = .ok (.invokevirtual 78, 3) := by decide +kernel
theorem dX0_mixPeople_19 : decode cX0_mixPeople 19 = .ok (.lstore_n 3, 1) := by decide +kernel
theorem dX0_mixPeople_20 : decode cX0_mixPeople 20 = .ok (.aload_n 0, 1) := by decide +kernel
theorem dX0_mixPeople_21 : decode cX0_mixPeople 21 = .ok (.getfield 26, 3) := by decide +kernel
theorem dX0_mixPeople_24 : decode cX0_mixPeople 24 = .ok (.lload_n 3, 1) := by decide +kernel
theorem dX0_mixPeople_25 : decode cX0_mixPeople 25 = .ok (.bipush 7, 2) := by decide +kernel
theorem dX0_mixPeople_27 : decode cX0_mixPeople 27 = .ok (.invokevirtual 74, 3) := by decide +kernel
theorem dX0_mixPeople_30 : decode cX0_mixPeople 30 = .ok (.lstore_n 3, 1) := by decide +kernel
theorem dX0_mixPeople_31 : decode cX0_mixPeople 31 = .ok (.aload_n 0, 1) := by decide +kernel
theorem dX0_mixPeople_32 : decode cX0_mixPeople 32 = .ok (.getfield 29, 3) := by decide +kernel
theorem dX0_mixPeople_35 : decode cX0_mixPeople 35 = .ok (.lload_n 3, 1) := by decide +kernel
theorem dX0_mixPeople_36 : decode cX0_mixPeople 36 = .ok (.iconst 3, 1) := by decide +kernel
theorem dX0_mixPeople_37 : decode cX0_mixPeople 37 = .ok (.invokevirtual 74, 3) := by decide +kernel
theorem dX0_mixPeople_40 : decode cX0_mixPeople 40 = .ok (.lstore_n 3, 1) := by decide +kernel
theorem dX0_mixPeople_41 : decode cX0_mixPeople 41 = .ok (.aload_n 0, 1) := by decide +kernel
theorem dX0_mixPeople_42 : decode cX0_mixPeople 42 = .ok (.getfield 32, 3) := by decide +kernel
theorem dX0_mixPeople_45 : decode cX0_mixPeople 45 = .ok (.lload_n 3, 1) := by decide +kernel
theorem dX0_mixPeople_46 : decode cX0_mixPeople 46 = .ok (.iconst 3, 1) := by decide +kernel
theorem dX0_mixPeople_47 : decode cX0_mixPeople 47 = .ok (.aload_n 0, 1) := by decide +kernel
theorem dX0_mixPeople_48 : decode cX0_mixPeople 48 = .ok (.getfield 14, 3) := by decide +kernel
theorem dX0_mixPeople_51 : decode cX0_mixPeople 51 = .ok (.getfield 71, 3) := by decide +kernel
theorem dX0_mixPeople_54 : decode cX0_mixPeople 54 = .ok (.iadd, 1) := by decide +kernel
theorem dX0_mixPeople_55 : decode cX0_mixPeople 55 = .ok (.invokevirtual 74, 3) := by decide +kernel
theorem dX0_mixPeople_58 : decode cX0_mixPeople 58 = .ok (.lreturn, 1) := by decide +kernel
theorem dX0_mixTrade_0 : decode cX0_mixTrade 0 = .ok (.aload_n 0, 1) := by decide +kernel
theorem dX0_mixTrade_1 : decode cX0_mixTrade 1 = .ok (.getfield 35, 3) := by decide +kernel
theorem dX0_mixTrade_4 : decode cX0_mixTrade 4 = .ok (.lload_n 1, 1) := by decide +kernel
theorem dX0_mixTrade_5 : decode cX0_mixTrade 5 = .ok (.iconst 1, 1) := by decide +kernel
theorem dX0_mixTrade_6 : decode cX0_mixTrade 6 = .ok (.invokevirtual 74, 3) := by decide +kernel
theorem dX0_mixTrade_9 : decode cX0_mixTrade 9 = .ok (.lstore_n 3, 1) := by decide +kernel
theorem dX0_mixTrade_10 : decode cX0_mixTrade 10 = .ok (.ldc2_w 81, 3) := by decide +kernel
theorem dX0_mixTrade_13 : decode cX0_mixTrade 13 = .ok (.lload_n 3, 1) := by decide +kernel
theorem dX0_mixTrade_14 : decode cX0_mixTrade 14 = .ok (.lmul, 1) := by decide +kernel
theorem dX0_mixTrade_15 : decode cX0_mixTrade 15 = .ok (.aload_n 0, 1) := by decide +kernel
theorem dX0_mixTrade_16 : decode cX0_mixTrade 16 = .ok (.getfield 56, 3) := by decide +kernel
theorem dX0_mixTrade_19 : decode cX0_mixTrade 19 = .ok (.i2l, 1) := by decide +kernel
theorem dX0_mixTrade_20 : decode cX0_mixTrade 20 = .ok (.ladd, 1) := by decide +kernel
theorem dX0_mixTrade_21 : decode cX0_mixTrade 21 = .ok (.lstore_n 3, 1) := by decide +kernel
theorem dX0_mixTrade_22 : decode cX0_mixTrade 22 = .ok (.aload_n 0, 1) := by decide +kernel
theorem dX0_mixTrade_23 : decode cX0_mixTrade 23 = .ok (.getfield 38, 3) := by decide +kernel
theorem dX0_mixTrade_26 : decode cX0_mixTrade 26 = .ok (.lload_n 3, 1) := by decide +kernel
theorem dX0_mixTrade_27 : decode cX0_mixTrade 27 = .ok (.iconst 3, 1) := by decide +kernel
theorem dX0_mixTrade_28 : decode cX0_mixTrade 28 = .ok (.invokevirtual 74, 3) := by decide +kernel
theorem dX0_mixTrade_31 : decode cX0_mixTrade 31 = .ok (.lstore_n 3, 1) := by decide +kernel
theorem dX0_mixTrade_32 : decode cX0_mixTrade 32 = .ok (.ldc2_w 81, 3) := by decide +kernel
theorem dX0_mixTrade_35 : decode cX0_mixTrade 35 = .ok (.lload_n 3, 1) := by decide +kernel
theorem dX0_mixTrade_36 : decode cX0_mixTrade 36 = .ok (.lmul, 1) := by decide +kernel
theorem dX0_mixTrade_37 : decode cX0_mixTrade 37 = .ok (.aload_n 0, 1) := by decide +kernel
theorem dX0_mixTrade_38 : decode cX0_mixTrade 38 = .ok (.getfield 60, 3) := by decide +kernel
theorem dX0_mixTrade_41 : decode cX0_mixTrade 41 = .ok (.i2l, 1) := by decide +kernel
theorem dX0_mixTrade_42 : decode cX0_mixTrade 42 = .ok (.ladd, 1) := by decide +kernel
theorem dX0_mixTrade_43 : decode cX0_mixTrade 43 = .ok (.lstore_n 3, 1) := by decide +kernel
theorem dX0_mixTrade_44 : decode cX0_mixTrade 44 = .ok (.aload_n 0, 1) := by decide +kernel
theorem dX0_mixTrade_45 : decode cX0_mixTrade 45 = .ok (.getfield 41, 3) := by decide +kernel
theorem dX0_mixTrade_48 : decode cX0_mixTrade 48 = .ok (.lload_n 3, 1) := by decide +kernel
theorem dX0_mixTrade_49 : decode cX0_mixTrade 49 = .ok (.iconst 3, 1) := by decide +kernel
theorem dX0_mixTrade_50 : decode cX0_mixTrade 50 = .ok (.invokevirtual 74, 3) := by decide +kernel
theorem dX0_mixTrade_53 : decode cX0_mixTrade 53 = .ok (.lstore_n 3, 1) := by decide +kernel
theorem dX0_mixTrade_54 : decode cX0_mixTrade 54 = .ok (.aload_n 0, 1) := by decide +kernel
theorem dX0_mixTrade_55 : decode cX0_mixTrade 55 = .ok (.getfield 44, 3) := by decide +kernel
theorem dX0_mixTrade_58 : decode cX0_mixTrade 58 = .ok (.lload_n 3, 1) := by decide +kernel
theorem dX0_mixTrade_59 : decode cX0_mixTrade 59 = .ok (.iconst 5, 1) := by decide +kernel
theorem dX0_mixTrade_60 : decode cX0_mixTrade 60 = .ok (.invokevirtual 74, 3) := by decide +kernel
theorem dX0_mixTrade_63 : decode cX0_mixTrade 63 = .ok (.lstore_n 3, 1) := by decide +kernel
theorem dX0_mixTrade_64 : decode cX0_mixTrade 64 = .ok (.aload_n 0, 1) := by decide +kernel
theorem dX0_mixTrade_65 : decode cX0_mixTrade 65 = .ok (.getfield 47, 3) := by decide +kernel
theorem dX0_mixTrade_68 : decode cX0_mixTrade 68 = .ok (.lload_n 3, 1) := by decide +kernel
theorem dX0_mixTrade_69 : decode cX0_mixTrade 69 = .ok (.iconst 3, 1) := by decide +kernel
theorem dX0_mixTrade_70 : decode cX0_mixTrade 70 = .ok (.invokevirtual 74, 3) := by decide +kernel
theorem dX0_mixTrade_73 : decode cX0_mixTrade 73 = .ok (.lstore_n 3, 1) := by decide +kernel
theorem dX0_mixTrade_74 : decode cX0_mixTrade 74 = .ok (.aload_n 0, 1) := by decide +kernel
theorem dX0_mixTrade_75 : decode cX0_mixTrade 75 = .ok (.getfield 50, 3) := by decide +kernel
theorem dX0_mixTrade_78 : decode cX0_mixTrade 78 = .ok (.lload_n 3, 1) := by decide +kernel
theorem dX0_mixTrade_79 : decode cX0_mixTrade 79 = .ok (.iconst 3, 1) := by decide +kernel
theorem dX0_mixTrade_80 : decode cX0_mixTrade 80 = .ok (.invokevirtual 74, 3) := by decide +kernel
theorem dX0_mixTrade_83 : decode cX0_mixTrade 83 = .ok (.lstore_n 3, 1) := by decide +kernel
theorem dX0_mixTrade_84 : decode cX0_mixTrade 84 = .ok (.aload_n 0, 1) := by decide +kernel
theorem dX0_mixTrade_85 : decode cX0_mixTrade 85 = .ok (.getfield 53, 3) := by decide +kernel
theorem dX0_mixTrade_88 : decode cX0_mixTrade 88 = .ok (.lload_n 3, 1) := by decide +kernel
theorem dX0_mixTrade_89 : decode cX0_mixTrade 89 = .ok (.iconst 3, 1) := by decide +kernel
theorem dX0_mixTrade_90 : decode cX0_mixTrade 90 = .ok (.invokevirtual 74, 3) := by decide +kernel
theorem dX0_mixTrade_93 : decode cX0_mixTrade 93 = .ok (.lstore_n 3, 1) := by decide +kernel
theorem dX0_mixTrade_94 : decode cX0_mixTrade 94 = .ok (.aload_n 0, 1) := by decide +kernel
theorem dX0_mixTrade_95 : decode cX0_mixTrade 95 = .ok (.getfield 20, 3) := by decide +kernel
theorem dX0_mixTrade_98 : decode cX0_mixTrade 98 = .ok (.lload_n 3, 1) := by decide +kernel
theorem dX0_mixTrade_99 : decode cX0_mixTrade 99 = .ok (.iconst 0, 1) := by decide +kernel
theorem dX0_mixTrade_100 : decode cX0_mixTrade 100 = .ok (.invokevirtual 78, 3) := by decide +kernel
theorem dX0_mixTrade_103 : decode cX0_mixTrade 103 = .ok (.lreturn, 1) := by decide +kernel
theorem dX0_kin_0 : decode cX0_kin 0 = .ok (.aload_n 0, 1) := by decide +kernel
theorem dX0_kin_1 : decode cX0_kin 1 = .ok (.getfield 14, 3) := by decide +kernel
theorem dX0_kin_4 : decode cX0_kin 4 = .ok (.iload_n 1, 1) := by decide +kernel
theorem dX0_kin_5 : decode cX0_kin 5 = .ok (.iconst 0, 1) := by decide +kernel
theorem dX0_kin_6 : decode cX0_kin 6 = .ok (.invokevirtual 83, 3) := by decide +kernel
theorem dX0_kin_9 : decode cX0_kin 9 = .ok (.aload_n 0, 1) := by decide +kernel
theorem dX0_kin_10 : decode cX0_kin 10 = .ok (.getfield 14, 3) := by decide +kernel
theorem dX0_kin_13 : decode cX0_kin 13 = .ok (.iload_n 2, 1) := by decide +kernel
theorem dX0_kin_14 : decode cX0_kin 14 = .ok (.iconst 0, 1) := by decide +kernel
theorem dX0_kin_15 : decode cX0_kin 15 = .ok (.invokevirtual 83, 3) := by decide +kernel
theorem dX0_kin_18 : decode cX0_kin 18 = .ok (.if_icmp .ne 7, 3) := by decide +kernel
theorem dX0_kin_21 : decode cX0_kin 21 = .ok (.iconst 1, 1) := by decide +kernel
theorem dX0_kin_22 : decode cX0_kin 22 = .ok (.goto 4, 3) := by decide +kernel
theorem dX0_kin_25 : decode cX0_kin 25 = .ok (.iconst 0, 1) := by decide +kernel
theorem dX0_kin_26 : decode cX0_kin 26 = .ok (.ireturn, 1) := by decide +kernel
theorem dX1_init_0 : decode cX1_init 0 = .ok (.aload_n 0, 1) := by decide +kernel
theorem dX1_init_1 : decode cX1_init 1 = .ok (.invokespecial 3, 3) := by decide +kernel
theorem dX1_init_4 : decode cX1_init 4 = .ok (.aload_n 0, 1) := by decide +kernel
theorem dX1_init_5 : decode cX1_init 5 = .ok (.bipush 50, 2) := by decide +kernel
theorem dX1_init_7 : decode cX1_init 7 = .ok (.newarray .long, 2) := by decide +kernel
theorem dX1_init_9 : decode cX1_init 9 = .ok (.putfield 9, 3) := by decide +kernel
theorem dX1_init_12 : decode cX1_init 12 = .ok (.aload_n 0, 1) := by decide +kernel
theorem dX1_init_13 : decode cX1_init 13 = .ok (.aload_n 1, 1) := by decide +kernel
theorem dX1_init_14 : decode cX1_init 14 = .ok (.putfield 15, 3) := by decide +kernel
theorem dX1_init_17 : decode cX1_init 17 = .ok (.return_, 1) := by decide +kernel
theorem dX1_inscribe_0 : decode cX1_inscribe 0 = .ok (.aload_n 0, 1) := by decide +kernel
theorem dX1_inscribe_1 : decode cX1_inscribe 1 = .ok (.getfield 15, 3) := by decide +kernel
theorem dX1_inscribe_4 : decode cX1_inscribe 4 = .ok (.getfield 19, 3) := by decide +kernel
theorem dX1_inscribe_7 : decode cX1_inscribe 7 = .ok (.iload_n 2, 1) := by decide +kernel
theorem dX1_inscribe_8 : decode cX1_inscribe 8 = .ok (.iconst 0, 1) := by decide +kernel
theorem dX1_inscribe_9 : decode cX1_inscribe 9 = .ok (.invokevirtual 25, 3) := by decide +kernel
theorem dX1_inscribe_12 : decode cX1_inscribe 12 = .ok (.istore 4, 2) := by decide +kernel
theorem dX1_inscribe_14 : decode cX1_inscribe 14 = .ok (.aload_n 0, 1) := by decide +kernel
theorem dX1_inscribe_15 : decode cX1_inscribe 15 = .ok (.getfield 15, 3) := by decide +kernel
theorem dX1_inscribe_18 : decode cX1_inscribe 18 = .ok (.getfield 31, 3) := by decide +kernel
theorem dX1_inscribe_21 : decode cX1_inscribe 21 = .ok (.iload_n 1, 1) := by decide +kernel
theorem dX1_inscribe_22 : decode cX1_inscribe 22 = .ok (.iconst 2, 1) := by decide +kernel
theorem dX1_inscribe_23 : decode cX1_inscribe 23 = .ok (.iload 4, 2) := by decide +kernel
theorem dX1_inscribe_25 : decode cX1_inscribe 25 = .ok (.invokevirtual 34, 3) := by decide +kernel
theorem dX1_inscribe_28 : decode cX1_inscribe 28 = .ok (.iconst 1, 1) := by decide +kernel
theorem dX1_inscribe_29 : decode cX1_inscribe 29 = .ok (.istore 5, 2) := by decide +kernel
theorem dX1_inscribe_31 : decode cX1_inscribe 31 = .ok (.iload 5, 2) := by decide +kernel
theorem dX1_inscribe_33 : decode cX1_inscribe 33 = .ok (.iload 4, 2) := by decide +kernel
theorem dX1_inscribe_35 : decode cX1_inscribe 35 = .ok (.if_icmp .gt 37, 3) := by decide +kernel
theorem dX1_inscribe_38 : decode cX1_inscribe 38 = .ok (.aload_n 0, 1) := by decide +kernel
theorem dX1_inscribe_39 : decode cX1_inscribe 39 = .ok (.getfield 15, 3) := by decide +kernel
theorem dX1_inscribe_42 : decode cX1_inscribe 42 = .ok (.getfield 31, 3) := by decide +kernel
theorem dX1_inscribe_45 : decode cX1_inscribe 45 = .ok (.iload_n 1, 1) := by decide +kernel
theorem dX1_inscribe_46 : decode cX1_inscribe 46 = .ok (.iconst 2, 1) := by decide +kernel
theorem dX1_inscribe_47 : decode cX1_inscribe 47 = .ok (.iload 5, 2) := by decide +kernel
theorem dX1_inscribe_49 : decode cX1_inscribe 49 = .ok (.iadd, 1) := by decide +kernel
theorem dX1_inscribe_50 : decode cX1_inscribe 50 = .ok (.aload_n 0, 1) := by decide +kernel
theorem dX1_inscribe_51 : decode cX1_inscribe 51 = .ok (.getfield 15, 3) := by decide +kernel
theorem dX1_inscribe_54 : decode cX1_inscribe 54 = .ok (.getfield 19, 3) := by decide +kernel
theorem dX1_inscribe_57 : decode cX1_inscribe 57 = .ok (.iload_n 2, 1) := by decide +kernel
theorem dX1_inscribe_58 : decode cX1_inscribe 58 = .ok (.iload 5, 2) := by decide +kernel
theorem dX1_inscribe_60 : decode cX1_inscribe 60 = .ok (.invokevirtual 25, 3) := by decide +kernel
theorem dX1_inscribe_63 : decode cX1_inscribe 63 = .ok (.invokevirtual 34, 3) := by decide +kernel
theorem dX1_inscribe_66 : decode cX1_inscribe 66 = .ok (.iinc 5 1, 3) := by decide +kernel
theorem dX1_inscribe_69 : decode cX1_inscribe 69 = .ok (.goto (-38), 3) := by decide +kernel
theorem dX1_inscribe_72 : decode cX1_inscribe 72 = .ok (.aload_n 0, 1) := by decide +kernel
theorem dX1_inscribe_73 : decode cX1_inscribe 73 = .ok (.getfield 15, 3) := by decide +kernel
theorem dX1_inscribe_76 : decode cX1_inscribe 76 = .ok (.getfield 31, 3) := by decide +kernel
theorem dX1_inscribe_79 : decode cX1_inscribe 79 = .ok (.iload_n 1, 1) := by decide +kernel
theorem dX1_inscribe_80 : decode cX1_inscribe 80 = .ok (.bipush 53, 2) := by decide +kernel
theorem dX1_inscribe_82 : decode cX1_inscribe 82 = .ok (.aload_n 3, 1) := by decide +kernel
theorem dX1_inscribe_83 : decode cX1_inscribe 83 = .ok (.getfield 38, 3) := by decide +kernel
theorem dX1_inscribe_86 : decode cX1_inscribe 86 = .ok (.invokevirtual 34, 3) := by decide +kernel
theorem dX1_inscribe_89 : decode cX1_inscribe 89 = .ok (.iconst 0, 1) := by decide +kernel
theorem dX1_inscribe_90 : decode cX1_inscribe 90 = .ok (.istore 5, 2) := by decide +kernel
theorem dX1_inscribe_92 : decode cX1_inscribe 92 = .ok (.iload 5, 2) := by decide +kernel
theorem dX1_inscribe_94 : decode cX1_inscribe 94 = .ok (.aload_n 3, 1) := by decide +kernel
theorem dX1_inscribe_95 : decode cX1_inscribe 95 = .ok (.getfield 38, 3) := by decide +kernel
theorem dX1_inscribe_98 : decode cX1_inscribe 98 = .ok (.if_icmp .ge 42, 3) := by decide +kernel
theorem dX1_inscribe_101 : decode cX1_inscribe 101 = .ok (.iload 5, 2) := by decide +kernel
theorem dX1_inscribe_103 : decode cX1_inscribe 103 = .ok (.aload_n 3, 1) := by decide +kernel
theorem dX1_inscribe_104 : decode cX1_inscribe 104 = .ok (.getfield 44, 3) := by decide +kernel
theorem dX1_inscribe_107 : decode cX1_inscribe 107 = .ok (.arraylength, 1) := by decide +kernel
theorem dX1_inscribe_108 : decode cX1_inscribe 108 = .ok (.if_icmp .ge 32, 3) := by decide +kernel
theorem dX1_inscribe_111 : decode cX1_inscribe 111 = .ok (.aload_n 0, 1) := by decide +kernel
theorem dX1_inscribe_112 : decode cX1_inscribe 112 = .ok (.getfield 15, 3) := by decide +kernel
theorem dX1_inscribe_115 : decode cX1_inscribe 115 = .ok (.getfield 31, 3) := by decide +kernel
theorem dX1_inscribe_118 : decode cX1_inscribe 118 = .ok (.iload_n 1, 1) := by decide +kernel
theorem dX1_inscribe_119 : decode cX1_inscribe 119 = .ok (.bipush 54, 2) := by decide +kernel
theorem dX1_inscribe_121 : decode cX1_inscribe 121 = .ok (.iload 5, 2) := by decide +kernel
theorem dX1_inscribe_123 : decode cX1_inscribe 123 = .ok (.iadd, 1) := by decide +kernel
theorem dX1_inscribe_124 : decode cX1_inscribe 124 = .ok (.aload_n 3, 1) := by decide +kernel
theorem dX1_inscribe_125 : decode cX1_inscribe 125 = .ok (.getfield 44, 3) := by decide +kernel
theorem dX1_inscribe_128 : decode cX1_inscribe 128 = .ok (.iload 5, 2) := by decide +kernel
theorem dX1_inscribe_130 : decode cX1_inscribe 130 = .ok (.iaload, 1) := by decide +kernel
theorem dX1_inscribe_131 : decode cX1_inscribe 131 = .ok (.invokevirtual 34, 3) := by decide +kernel
theorem dX1_inscribe_134 : decode cX1_inscribe 134 = .ok (.iinc 5 1, 3) := by decide +kernel
theorem dX1_inscribe_137 : decode cX1_inscribe 137 = .ok (.goto (-45), 3) := by decide +kernel
theorem dX1_inscribe_140 : decode cX1_inscribe 140 = .ok (.return_, 1) := by decide +kernel
theorem dX1_inForce_0 : decode cX1_inForce 0 = .ok (.iconst (-1), 1) := by decide +kernel
theorem dX1_inForce_1 : decode cX1_inForce 1 = .ok (.istore_n 3, 1) := by decide +kernel
theorem dX1_inForce_2 : decode cX1_inForce 2 = .ok (.iconst (-1), 1) := by decide +kernel
theorem dX1_inForce_3 : decode cX1_inForce 3 = .ok (.istore 4, 2) := by decide +kernel
theorem dX1_inForce_5 : decode cX1_inForce 5 = .ok (.iconst 0, 1) := by decide +kernel
theorem dX1_inForce_6 : decode cX1_inForce 6 = .ok (.istore 5, 2) := by decide +kernel
theorem dX1_inForce_8 : decode cX1_inForce 8 = .ok (.iload 5, 2) := by decide +kernel
theorem dX1_inForce_10 : decode cX1_inForce 10 = .ok (.aload_n 0, 1) := by decide +kernel
theorem dX1_inForce_11 : decode cX1_inForce 11 = .ok (.getfield 15, 3) := by decide +kernel
theorem dX1_inForce_14 : decode cX1_inForce 14 = .ok (.getfield 31, 3) := by decide +kernel
theorem dX1_inForce_17 : decode cX1_inForce 17 = .ok (.getfield 48, 3) := by decide +kernel
theorem dX1_inForce_20 : decode cX1_inForce 20 = .ok (.if_icmp .ge 61, 3) := by decide +kernel
theorem dX1_inForce_23 : decode cX1_inForce 23 = .ok (.aload_n 0, 1) := by decide +kernel
theorem dX1_inForce_24 : decode cX1_inForce 24 = .ok (.getfield 15, 3) := by decide +kernel
theorem dX1_inForce_27 : decode cX1_inForce 27 = .ok (.getfield 31, 3) := by decide +kernel
theorem dX1_inForce_30 : decode cX1_inForce 30 = .ok (.iload 5, 2) := by decide +kernel
theorem dX1_inForce_32 : decode cX1_inForce 32 = .ok (.iconst 1, 1) := by decide +kernel
theorem dX1_inForce_33 : decode cX1_inForce 33 = .ok (.invokevirtual 25, 3) := by decide +kernel
theorem dX1_inForce_36 : decode cX1_inForce 36 = .ok (.istore 6, 2) := by decide +kernel
theorem dX1_inForce_38 : decode cX1_inForce 38 = .ok (.aload_n 0, 1) := by decide +kernel
theorem dX1_inForce_39 : decode cX1_inForce 39 = .ok (.getfield 15, 3) := by decide +kernel
theorem dX1_inForce_42 : decode cX1_inForce 42 = .ok (.getfield 31, 3) := by decide +kernel
theorem dX1_inForce_45 : decode cX1_inForce 45 = .ok (.iload 5, 2) := by decide +kernel
theorem dX1_inForce_47 : decode cX1_inForce 47 = .ok (.iconst 0, 1) := by decide +kernel
theorem dX1_inForce_48 : decode cX1_inForce 48 = .ok (.invokevirtual 25, 3) := by decide +kernel
theorem dX1_inForce_51 : decode cX1_inForce 51 = .ok (.iload_n 1, 1) := by decide +kernel
theorem dX1_inForce_52 : decode cX1_inForce 52 = .ok (.if_icmp .ne 23, 3) := by decide +kernel
theorem dX1_inForce_55 : decode cX1_inForce 55 = .ok (.iload 6, 2) := by decide +kernel
theorem dX1_inForce_57 : decode cX1_inForce 57 = .ok (.iload_n 2, 1) := by decide +kernel
theorem dX1_inForce_58 : decode cX1_inForce 58 = .ok (.if_icmp .gt 17, 3) := by decide +kernel
theorem dX1_inForce_61 : decode cX1_inForce 61 = .ok (.iload 6, 2) := by decide +kernel
theorem dX1_inForce_63 : decode cX1_inForce 63 = .ok (.iload 4, 2) := by decide +kernel
theorem dX1_inForce_65 : decode cX1_inForce 65 = .ok (.if_icmp .lt 10, 3) := by decide +kernel
theorem dX1_inForce_68 : decode cX1_inForce 68 = .ok (.iload 5, 2) := by decide +kernel
theorem dX1_inForce_70 : decode cX1_inForce 70 = .ok (.istore_n 3, 1) := by decide +kernel
theorem dX1_inForce_71 : decode cX1_inForce 71 = .ok (.iload 6, 2) := by decide +kernel
theorem dX1_inForce_73 : decode cX1_inForce 73 = .ok (.istore 4, 2) := by decide +kernel
theorem dX1_inForce_75 : decode cX1_inForce 75 = .ok (.iinc 5 1, 3) := by decide +kernel
theorem dX1_inForce_78 : decode cX1_inForce 78 = .ok (.goto (-70), 3) := by decide +kernel
theorem dX1_inForce_81 : decode cX1_inForce 81 = .ok (.iload_n 3, 1) := by decide +kernel
theorem dX1_inForce_82 : decode cX1_inForce 82 = .ok (.ireturn, 1) := by decide +kernel
theorem dX1_said_0 : decode cX1_said 0 = .ok (.iload_n 1, 1) := by decide +kernel
theorem dX1_said_1 : decode cX1_said 1 = .ok (.ifCond .lt 19, 3) := by decide +kernel
theorem dX1_said_4 : decode cX1_said 4 = .ok (.iload_n 1, 1) := by decide +kernel
theorem dX1_said_5 : decode cX1_said 5 = .ok (.getstatic 51, 3) := by decide +kernel
theorem dX1_said_8 : decode cX1_said 8 = .ok (.arraylength, 1) := by decide +kernel
theorem dX1_said_9 : decode cX1_said 9 = .ok (.if_icmp .ge 11, 3) := by decide +kernel
theorem dX1_said_12 : decode cX1_said 12 = .ok (.iload_n 1, 1) := by decide +kernel
theorem dX1_said_13 : decode cX1_said 13 = .ok (.getstatic 54, 3) := by decide +kernel
theorem dX1_said_16 : decode cX1_said 16 = .ok (.arraylength, 1) := by decide +kernel
theorem dX1_said_17 : decode cX1_said 17 = .ok (.if_icmp .lt 5, 3) := by decide +kernel
theorem dX1_said_20 : decode cX1_said 20 = .ok (.lconst 0, 1) := by decide +kernel
theorem dX1_said_21 : decode cX1_said 21 = .ok (.lreturn, 1) := by decide +kernel
theorem dX1_said_22 : decode cX1_said 22 = .ok (.aload_n 0, 1) := by decide +kernel
theorem dX1_said_23 : decode cX1_said 23 = .ok (.iload_n 1, 1) := by decide +kernel
theorem dX1_said_24 : decode cX1_said 24 = .ok (.iload_n 2, 1) := by decide +kernel
theorem dX1_said_25 : decode cX1_said 25 = .ok (.invokevirtual 57, 3) := by decide +kernel
theorem dX1_said_28 : decode cX1_said 28 = .ok (.istore 8, 2) := by decide +kernel
theorem dX1_said_30 : decode cX1_said 30 = .ok (.iload 8, 2) := by decide +kernel
theorem dX1_said_32 : decode cX1_said 32 = .ok (.iconst (-1), 1) := by decide +kernel
theorem dX1_said_33 : decode cX1_said 33 = .ok (.if_icmp .ne 10, 3) := by decide +kernel
theorem dX1_said_36 : decode cX1_said 36 = .ok (.getstatic 51, 3) := by decide +kernel
theorem dX1_said_39 : decode cX1_said 39 = .ok (.iload_n 1, 1) := by decide +kernel
theorem dX1_said_40 : decode cX1_said 40 = .ok (.iaload, 1) := by decide +kernel
theorem dX1_said_41 : decode cX1_said 41 = .ok (.i2l, 1) := by decide +kernel
theorem dX1_said_42 : decode cX1_said 42 = .ok (.lreturn, 1) := by decide +kernel
theorem dX1_said_43 : decode cX1_said 43 = .ok (.aload_n 0, 1) := by decide +kernel
theorem dX1_said_44 : decode cX1_said 44 = .ok (.iload_n 3, 1) := by decide +kernel
theorem dX1_said_45 : decode cX1_said 45 = .ok (.iload 4, 2) := by decide +kernel
theorem dX1_said_47 : decode cX1_said 47 = .ok (.iload 5, 2) := by decide +kernel
theorem dX1_said_49 : decode cX1_said 49 = .ok (.iload_n 2, 1) := by decide +kernel
theorem dX1_said_50 : decode cX1_said 50 = .ok (.lload 6, 2) := by decide +kernel
theorem dX1_said_52 : decode cX1_said 52 = .ok (.invokevirtual 60, 3) := by decide +kernel
theorem dX1_said_55 : decode cX1_said 55 = .ok (.aload_n 0, 1) := by decide +kernel
theorem dX1_said_56 : decode cX1_said 56 = .ok (.getfield 15, 3) := by decide +kernel
theorem dX1_said_59 : decode cX1_said 59 = .ok (.getfield 31, 3) := by decide +kernel
theorem dX1_said_62 : decode cX1_said 62 = .ok (.iload 8, 2) := by decide +kernel
theorem dX1_said_64 : decode cX1_said 64 = .ok (.bipush 54, 2) := by decide +kernel
theorem dX1_said_66 : decode cX1_said 66 = .ok (.invokevirtual 64, 3) := by decide +kernel
theorem dX1_said_69 : decode cX1_said 69 = .ok (.istore 9, 2) := by decide +kernel
theorem dX1_said_71 : decode cX1_said 71 = .ok (.aload_n 0, 1) := by decide +kernel
theorem dX1_said_72 : decode cX1_said 72 = .ok (.aload_n 0, 1) := by decide +kernel
theorem dX1_said_73 : decode cX1_said 73 = .ok (.getfield 15, 3) := by decide +kernel
theorem dX1_said_76 : decode cX1_said 76 = .ok (.getfield 31, 3) := by decide +kernel
theorem dX1_said_79 : decode cX1_said 79 = .ok (.getfield 67, 3) := by decide +kernel
theorem dX1_said_82 : decode cX1_said 82 = .ok (.iload 9, 2) := by decide +kernel
theorem dX1_said_84 : decode cX1_said 84 = .ok (.aload_n 0, 1) := by decide +kernel
theorem dX1_said_85 : decode cX1_said 85 = .ok (.getfield 15, 3) := by decide +kernel
theorem dX1_said_88 : decode cX1_said 88 = .ok (.getfield 31, 3) := by decide +kernel
theorem dX1_said_91 : decode cX1_said 91 = .ok (.iload 8, 2) := by decide +kernel
theorem dX1_said_93 : decode cX1_said 93 = .ok (.bipush 53, 2) := by decide +kernel
theorem dX1_said_95 : decode cX1_said 95 = .ok (.invokevirtual 25, 3) := by decide +kernel
theorem dX1_said_98 : decode cX1_said 98 = .ok (.invokevirtual 70, 3) := by decide +kernel
theorem dX1_said_101 : decode cX1_said 101 = .ok (.lstore 10, 2) := by decide +kernel
theorem dX1_said_103 : decode cX1_said 103 = .ok (.lconst 0, 1) := by decide +kernel
theorem dX1_said_104 : decode cX1_said 104 = .ok (.lload 10, 2) := by decide +kernel
theorem dX1_said_106 : decode cX1_said 106 = .ok (.getstatic 54, 3) := by decide +kernel
theorem dX1_said_109 : decode cX1_said 109 = .ok (.iload_n 1, 1) := by decide +kernel
theorem dX1_said_110 : decode cX1_said 110 = .ok (.iaload, 1) := by decide +kernel
theorem dX1_said_111 : decode cX1_said 111 = .ok (.i2l, 1) := by decide +kernel
theorem dX1_said_112 : decode cX1_said 112 = .ok (.invokestatic 74, 3) := by decide +kernel
theorem dX1_said_115 : decode cX1_said 115 = .ok (.invokestatic 80, 3) := by decide +kernel
theorem dX1_said_118 : decode cX1_said 118 = .ok (.lreturn, 1) := by decide +kernel
theorem dX1_meet_0 : decode cX1_meet 0 = .ok (.aload_n 0, 1) := by decide +kernel
theorem dX1_meet_1 : decode cX1_meet 1 = .ok (.iload_n 1, 1) := by decide +kernel
theorem dX1_meet_2 : decode cX1_meet 2 = .ok (.putfield 83, 3) := by decide +kernel
theorem dX1_meet_5 : decode cX1_meet 5 = .ok (.aload_n 0, 1) := by decide +kernel
theorem dX1_meet_6 : decode cX1_meet 6 = .ok (.iload_n 2, 1) := by decide +kernel
theorem dX1_meet_7 : decode cX1_meet 7 = .ok (.putfield 86, 3) := by decide +kernel
theorem dX1_meet_10 : decode cX1_meet 10 = .ok (.aload_n 0, 1) := by decide +kernel
theorem dX1_meet_11 : decode cX1_meet 11 = .ok (.iload_n 3, 1) := by decide +kernel
theorem dX1_meet_12 : decode cX1_meet 12 = .ok (.putfield 89, 3) := by decide +kernel
theorem dX1_meet_15 : decode cX1_meet 15 = .ok (.aload_n 0, 1) := by decide +kernel
theorem dX1_meet_16 : decode cX1_meet 16 = .ok (.iload 4, 2) := by decide +kernel
theorem dX1_meet_18 : decode cX1_meet 18 = .ok (.putfield 92, 3) := by decide +kernel
theorem dX1_meet_21 : decode cX1_meet 21 = .ok (.aload_n 0, 1) := by decide +kernel
theorem dX1_meet_22 : decode cX1_meet 22 = .ok (.lload 5, 2) := by decide +kernel
theorem dX1_meet_24 : decode cX1_meet 24 = .ok (.putfield 95, 3) := by decide +kernel
theorem dX1_meet_27 : decode cX1_meet 27 = .ok (.return_, 1) := by decide +kernel
theorem dX1_run_0 : decode cX1_run 0 = .ok (.aload_n 0, 1) := by decide +kernel
theorem dX1_run_1 : decode cX1_run 1 = .ok (.iconst 0, 1) := by decide +kernel
theorem dX1_run_2 : decode cX1_run 2 = .ok (.putfield 99, 3) := by decide +kernel
theorem dX1_run_5 : decode cX1_run 5 = .ok (.aload_n 1, 1) := by decide +kernel
theorem dX1_run_6 : decode cX1_run 6 = .ok (.ifnonnull 5, 3) := by decide +kernel
theorem dX1_run_9 : decode cX1_run 9 = .ok (.lconst 0, 1) := by decide +kernel
theorem dX1_run_10 : decode cX1_run 10 = .ok (.lreturn, 1) := by decide +kernel
theorem dX1_run_11 : decode cX1_run 11 = .ok (.iconst 0, 1) := by decide +kernel
theorem dX1_run_12 : decode cX1_run 12 = .ok (.istore 4, 2) := by decide +kernel
theorem dX1_run_14 : decode cX1_run 14 = .ok (.iload 4, 2) := by decide +kernel
theorem dX1_run_16 : decode cX1_run 16 = .ok (.iload_n 3, 1) := by decide +kernel
theorem dX1_run_17 : decode cX1_run 17 = .ok (.if_icmp .ge 35, 3) := by decide +kernel
theorem dX1_run_20 : decode cX1_run 20 = .ok (.iload_n 2, 1) := by decide +kernel
theorem dX1_run_21 : decode cX1_run 21 = .ok (.iload 4, 2) := by decide +kernel
theorem dX1_run_23 : decode cX1_run 23 = .ok (.iadd, 1) := by decide +kernel
theorem dX1_run_24 : decode cX1_run 24 = .ok (.istore 5, 2) := by decide +kernel
theorem dX1_run_26 : decode cX1_run 26 = .ok (.iload 5, 2) := by decide +kernel
theorem dX1_run_28 : decode cX1_run 28 = .ok (.ifCond .lt 18, 3) := by decide +kernel
theorem dX1_run_31 : decode cX1_run 31 = .ok (.iload 5, 2) := by decide +kernel
theorem dX1_run_33 : decode cX1_run 33 = .ok (.aload_n 1, 1) := by decide +kernel
theorem dX1_run_34 : decode cX1_run 34 = .ok (.arraylength, 1) := by decide +kernel
theorem dX1_run_35 : decode cX1_run 35 = .ok (.if_icmp .ge 11, 3) := by decide +kernel
theorem dX1_run_38 : decode cX1_run 38 = .ok (.aload_n 0, 1) := by decide +kernel
theorem dX1_run_39 : decode cX1_run 39 = .ok (.aload_n 1, 1) := by decide +kernel
theorem dX1_run_40 : decode cX1_run 40 = .ok (.iload 5, 2) := by decide +kernel
theorem dX1_run_42 : decode cX1_run 42 = .ok (.iaload, 1) := by decide +kernel
theorem dX1_run_43 : decode cX1_run 43 = .ok (.invokevirtual 102, 3) := by decide +kernel
theorem dX1_run_46 : decode cX1_run 46 = .ok (.iinc 4 1, 3) := by decide +kernel
theorem dX1_run_49 : decode cX1_run 49 = .ok (.goto (-35), 3) := by decide +kernel
theorem dX1_run_52 : decode cX1_run 52 = .ok (.aload_n 0, 1) := by decide +kernel
theorem dX1_run_53 : decode cX1_run 53 = .ok (.invokevirtual 106, 3) := by decide +kernel
theorem dX1_run_56 : decode cX1_run 56 = .ok (.lreturn, 1) := by decide +kernel
theorem dX1_work_0 : decode cX1_work 0 = .ok (.iload_n 1, 1) := by decide +kernel
theorem dX1_work_1 : decode cX1_work 1 = .ok (.ifCond .lt 10, 3) := by decide +kernel
theorem dX1_work_4 : decode cX1_work 4 = .ok (.aload_n 0, 1) := by decide +kernel
theorem dX1_work_5 : decode cX1_work 5 = .ok (.iload_n 1, 1) := by decide +kernel
theorem dX1_work_6 : decode cX1_work 6 = .ok (.i2l, 1) := by decide +kernel
theorem dX1_work_7 : decode cX1_work 7 = .ok (.invokevirtual 110, 3) := by decide +kernel
theorem dX1_work_10 : decode cX1_work 10 = .ok (.return_, 1) := by decide +kernel
theorem dX1_work_11 : decode cX1_work 11 = .ok (.iload_n 1, 1) := by decide +kernel
theorem dX1_work_12 : decode cX1_work 12 = .ok (.ineg, 1) := by decide +kernel
theorem dX1_work_13 : decode cX1_work 13 = .ok (.lookupswitch 200 #[(33, 134), (63, 167), (103, 75), (107, 87), (115, 111), (116, 99), (119, 123), (126, 155)], 75) := by decide +kernel
theorem dX1_work_88 : decode cX1_work 88 = .ok (.aload_n 0, 1) := by decide +kernel
theorem dX1_work_89 : decode cX1_work 89 = .ok (.aload_n 0, 1) := by decide +kernel
theorem dX1_work_90 : decode cX1_work 90 = .ok (.getfield 83, 3) := by decide +kernel
theorem dX1_work_93 : decode cX1_work 93 = .ok (.i2l, 1) := by decide +kernel
theorem dX1_work_94 : decode cX1_work 94 = .ok (.invokevirtual 110, 3) := by decide +kernel
theorem dX1_work_97 : decode cX1_work 97 = .ok (.goto 137, 3) := by decide +kernel
theorem dX1_work_100 : decode cX1_work 100 = .ok (.aload_n 0, 1) := by decide +kernel
theorem dX1_work_101 : decode cX1_work 101 = .ok (.aload_n 0, 1) := by decide +kernel
theorem dX1_work_102 : decode cX1_work 102 = .ok (.getfield 86, 3) := by decide +kernel
theorem dX1_work_105 : decode cX1_work 105 = .ok (.i2l, 1) := by decide +kernel
theorem dX1_work_106 : decode cX1_work 106 = .ok (.invokevirtual 110, 3) := by decide +kernel
theorem dX1_work_109 : decode cX1_work 109 = .ok (.goto 125, 3) := by decide +kernel
theorem dX1_work_112 : decode cX1_work 112 = .ok (.aload_n 0, 1) := by decide +kernel
theorem dX1_work_113 : decode cX1_work 113 = .ok (.aload_n 0, 1) := by decide +kernel
theorem dX1_work_114 : decode cX1_work 114 = .ok (.getfield 89, 3) := by decide +kernel
theorem dX1_work_117 : decode cX1_work 117 = .ok (.i2l, 1) := by decide +kernel
theorem dX1_work_118 : decode cX1_work 118 = .ok (.invokevirtual 110, 3) := by decide +kernel
theorem dX1_work_121 : decode cX1_work 121 = .ok (.goto 113, 3) := by decide +kernel
theorem dX1_work_124 : decode cX1_work 124 = .ok (.aload_n 0, 1) := by decide +kernel
theorem dX1_work_125 : decode cX1_work 125 = .ok (.aload_n 0, 1) := by decide +kernel
theorem dX1_work_126 : decode cX1_work 126 = .ok (.getfield 92, 3) := by decide +kernel
theorem dX1_work_129 : decode cX1_work 129 = .ok (.i2l, 1) := by decide +kernel
theorem dX1_work_130 : decode cX1_work 130 = .ok (.invokevirtual 110, 3) := by decide +kernel
theorem dX1_work_133 : decode cX1_work 133 = .ok (.goto 101, 3) := by decide +kernel
theorem dX1_work_136 : decode cX1_work 136 = .ok (.aload_n 0, 1) := by decide +kernel
theorem dX1_work_137 : decode cX1_work 137 = .ok (.aload_n 0, 1) := by decide +kernel
theorem dX1_work_138 : decode cX1_work 138 = .ok (.getfield 95, 3) := by decide +kernel
theorem dX1_work_141 : decode cX1_work 141 = .ok (.invokevirtual 110, 3) := by decide +kernel
theorem dX1_work_144 : decode cX1_work 144 = .ok (.goto 90, 3) := by decide +kernel
theorem dX1_work_147 : decode cX1_work 147 = .ok (.aload_n 0, 1) := by decide +kernel
theorem dX1_work_148 : decode cX1_work 148 = .ok (.aload_n 0, 1) := by decide +kernel
theorem dX1_work_149 : decode cX1_work 149 = .ok (.invokevirtual 106, 3) := by decide +kernel
theorem dX1_work_152 : decode cX1_work 152 = .ok (.lconst 0, 1) := by decide +kernel
theorem dX1_work_153 : decode cX1_work 153 = .ok (.lcmp, 1) := by decide +kernel
theorem dX1_work_154 : decode cX1_work 154 = .ok (.ifCond .ne 7, 3) := by decide +kernel
theorem dX1_work_157 : decode cX1_work 157 = .ok (.lconst 1, 1) := by decide +kernel
theorem dX1_work_158 : decode cX1_work 158 = .ok (.goto 4, 3) := by decide +kernel
theorem dX1_work_161 : decode cX1_work 161 = .ok (.lconst 0, 1) := by decide +kernel
theorem dX1_work_162 : decode cX1_work 162 = .ok (.invokevirtual 110, 3) := by decide +kernel
theorem dX1_work_165 : decode cX1_work 165 = .ok (.goto 69, 3) := by decide +kernel
theorem dX1_work_168 : decode cX1_work 168 = .ok (.aload_n 0, 1) := by decide +kernel
theorem dX1_work_169 : decode cX1_work 169 = .ok (.aload_n 0, 1) := by decide +kernel
theorem dX1_work_170 : decode cX1_work 170 = .ok (.invokevirtual 106, 3) := by decide +kernel
theorem dX1_work_173 : decode cX1_work 173 = .ok (.lneg, 1) := by decide +kernel
theorem dX1_work_174 : decode cX1_work 174 = .ok (.invokevirtual 110, 3) := by decide +kernel
theorem dX1_work_177 : decode cX1_work 177 = .ok (.goto 57, 3) := by decide +kernel
theorem dX1_work_180 : decode cX1_work 180 = .ok (.aload_n 0, 1) := by decide +kernel
theorem dX1_work_181 : decode cX1_work 181 = .ok (.invokevirtual 106, 3) := by decide +kernel
theorem dX1_work_184 : decode cX1_work 184 = .ok (.lstore_n 2, 1) := by decide +kernel
theorem dX1_work_185 : decode cX1_work 185 = .ok (.aload_n 0, 1) := by decide +kernel
theorem dX1_work_186 : decode cX1_work 186 = .ok (.invokevirtual 106, 3) := by decide +kernel
theorem dX1_work_189 : decode cX1_work 189 = .ok (.lstore 4, 2) := by decide +kernel
theorem dX1_work_191 : decode cX1_work 191 = .ok (.aload_n 0, 1) := by decide +kernel
theorem dX1_work_192 : decode cX1_work 192 = .ok (.aload_n 0, 1) := by decide +kernel
theorem dX1_work_193 : decode cX1_work 193 = .ok (.invokevirtual 106, 3) := by decide +kernel
theorem dX1_work_196 : decode cX1_work 196 = .ok (.lconst 0, 1) := by decide +kernel
theorem dX1_work_197 : decode cX1_work 197 = .ok (.lcmp, 1) := by decide +kernel
theorem dX1_work_198 : decode cX1_work 198 = .ok (.ifCond .eq 8, 3) := by decide +kernel
theorem dX1_work_201 : decode cX1_work 201 = .ok (.lload 4, 2) := by decide +kernel
theorem dX1_work_203 : decode cX1_work 203 = .ok (.goto 4, 3) := by decide +kernel
theorem dX1_work_206 : decode cX1_work 206 = .ok (.lload_n 2, 1) := by decide +kernel
theorem dX1_work_207 : decode cX1_work 207 = .ok (.invokevirtual 110, 3) := by decide +kernel
theorem dX1_work_210 : decode cX1_work 210 = .ok (.goto 24, 3) := by decide +kernel
theorem dX1_work_213 : decode cX1_work 213 = .ok (.aload_n 0, 1) := by decide +kernel
theorem dX1_work_214 : decode cX1_work 214 = .ok (.invokevirtual 106, 3) := by decide +kernel
theorem dX1_work_217 : decode cX1_work 217 = .ok (.lstore 6, 2) := by decide +kernel
theorem dX1_work_219 : decode cX1_work 219 = .ok (.aload_n 0, 1) := by decide +kernel
theorem dX1_work_220 : decode cX1_work 220 = .ok (.iload_n 1, 1) := by decide +kernel
theorem dX1_work_221 : decode cX1_work 221 = .ok (.ineg, 1) := by decide +kernel
theorem dX1_work_222 : decode cX1_work 222 = .ok (.aload_n 0, 1) := by decide +kernel
theorem dX1_work_223 : decode cX1_work 223 = .ok (.invokevirtual 106, 3) := by decide +kernel
theorem dX1_work_226 : decode cX1_work 226 = .ok (.lload 6, 2) := by decide +kernel
theorem dX1_work_228 : decode cX1_work 228 = .ok (.invokestatic 114, 3) := by decide +kernel
theorem dX1_work_231 : decode cX1_work 231 = .ok (.invokevirtual 110, 3) := by decide +kernel
theorem dX1_work_234 : decode cX1_work 234 = .ok (.return_, 1) := by decide +kernel
theorem dX1_joined_0 : decode cX1_joined 0 = .ok (.iload_n 0, 1) := by decide +kernel
theorem dX1_joined_1 : decode cX1_joined 1 = .ok (.lookupswitch 181 #[(38, 101), (42, 163), (43, 155), (45, 159), (47, 167), (60, 119), (61, 143), (62, 131), (124, 83)], 83) := by decide +kernel
theorem dX1_joined_84 : decode cX1_joined 84 = .ok (.lload_n 1, 1) := by decide +kernel
theorem dX1_joined_85 : decode cX1_joined 85 = .ok (.lconst 0, 1) := by decide +kernel
theorem dX1_joined_86 : decode cX1_joined 86 = .ok (.lcmp, 1) := by decide +kernel
theorem dX1_joined_87 : decode cX1_joined 87 = .ok (.ifCond .ne 9, 3) := by decide +kernel
theorem dX1_joined_90 : decode cX1_joined 90 = .ok (.lload_n 3, 1) := by decide +kernel
theorem dX1_joined_91 : decode cX1_joined 91 = .ok (.lconst 0, 1) := by decide +kernel
theorem dX1_joined_92 : decode cX1_joined 92 = .ok (.lcmp, 1) := by decide +kernel
theorem dX1_joined_93 : decode cX1_joined 93 = .ok (.ifCond .eq 7, 3) := by decide +kernel
theorem dX1_joined_96 : decode cX1_joined 96 = .ok (.lconst 1, 1) := by decide +kernel
theorem dX1_joined_97 : decode cX1_joined 97 = .ok (.goto 4, 3) := by decide +kernel
theorem dX1_joined_100 : decode cX1_joined 100 = .ok (.lconst 0, 1) := by decide +kernel
theorem dX1_joined_101 : decode cX1_joined 101 = .ok (.lreturn, 1) := by decide +kernel
theorem dX1_joined_102 : decode cX1_joined 102 = .ok (.lload_n 1, 1) := by decide +kernel
theorem dX1_joined_103 : decode cX1_joined 103 = .ok (.lconst 0, 1) := by decide +kernel
theorem dX1_joined_104 : decode cX1_joined 104 = .ok (.lcmp, 1) := by decide +kernel
theorem dX1_joined_105 : decode cX1_joined 105 = .ok (.ifCond .eq 13, 3) := by decide +kernel
theorem dX1_joined_108 : decode cX1_joined 108 = .ok (.lload_n 3, 1) := by decide +kernel
theorem dX1_joined_109 : decode cX1_joined 109 = .ok (.lconst 0, 1) := by decide +kernel
theorem dX1_joined_110 : decode cX1_joined 110 = .ok (.lcmp, 1) := by decide +kernel
theorem dX1_joined_111 : decode cX1_joined 111 = .ok (.ifCond .eq 7, 3) := by decide +kernel
theorem dX1_joined_114 : decode cX1_joined 114 = .ok (.lconst 1, 1) := by decide +kernel
theorem dX1_joined_115 : decode cX1_joined 115 = .ok (.goto 4, 3) := by decide +kernel
theorem dX1_joined_118 : decode cX1_joined 118 = .ok (.lconst 0, 1) := by decide +kernel
theorem dX1_joined_119 : decode cX1_joined 119 = .ok (.lreturn, 1) := by decide +kernel
theorem dX1_joined_120 : decode cX1_joined 120 = .ok (.lload_n 1, 1) := by decide +kernel
theorem dX1_joined_121 : decode cX1_joined 121 = .ok (.lload_n 3, 1) := by decide +kernel
theorem dX1_joined_122 : decode cX1_joined 122 = .ok (.lcmp, 1) := by decide +kernel
theorem dX1_joined_123 : decode cX1_joined 123 = .ok (.ifCond .ge 7, 3) := by decide +kernel
theorem dX1_joined_126 : decode cX1_joined 126 = .ok (.lconst 1, 1) := by decide +kernel
theorem dX1_joined_127 : decode cX1_joined 127 = .ok (.goto 4, 3) := by decide +kernel
theorem dX1_joined_130 : decode cX1_joined 130 = .ok (.lconst 0, 1) := by decide +kernel
theorem dX1_joined_131 : decode cX1_joined 131 = .ok (.lreturn, 1) := by decide +kernel
theorem dX1_joined_132 : decode cX1_joined 132 = .ok (.lload_n 1, 1) := by decide +kernel
theorem dX1_joined_133 : decode cX1_joined 133 = .ok (.lload_n 3, 1) := by decide +kernel
theorem dX1_joined_134 : decode cX1_joined 134 = .ok (.lcmp, 1) := by decide +kernel
theorem dX1_joined_135 : decode cX1_joined 135 = .ok (.ifCond .le 7, 3) := by decide +kernel
theorem dX1_joined_138 : decode cX1_joined 138 = .ok (.lconst 1, 1) := by decide +kernel
theorem dX1_joined_139 : decode cX1_joined 139 = .ok (.goto 4, 3) := by decide +kernel
theorem dX1_joined_142 : decode cX1_joined 142 = .ok (.lconst 0, 1) := by decide +kernel
theorem dX1_joined_143 : decode cX1_joined 143 = .ok (.lreturn, 1) := by decide +kernel
theorem dX1_joined_144 : decode cX1_joined 144 = .ok (.lload_n 1, 1) := by decide +kernel
theorem dX1_joined_145 : decode cX1_joined 145 = .ok (.lload_n 3, 1) := by decide +kernel
theorem dX1_joined_146 : decode cX1_joined 146 = .ok (.lcmp, 1) := by decide +kernel
theorem dX1_joined_147 : decode cX1_joined 147 = .ok (.ifCond .ne 7, 3) := by decide +kernel
theorem dX1_joined_150 : decode cX1_joined 150 = .ok (.lconst 1, 1) := by decide +kernel
theorem dX1_joined_151 : decode cX1_joined 151 = .ok (.goto 4, 3) := by decide +kernel
theorem dX1_joined_154 : decode cX1_joined 154 = .ok (.lconst 0, 1) := by decide +kernel
theorem dX1_joined_155 : decode cX1_joined 155 = .ok (.lreturn, 1) := by decide +kernel
theorem dX1_joined_156 : decode cX1_joined 156 = .ok (.lload_n 1, 1) := by decide +kernel
theorem dX1_joined_157 : decode cX1_joined 157 = .ok (.lload_n 3, 1) := by decide +kernel
theorem dX1_joined_158 : decode cX1_joined 158 = .ok (.ladd, 1) := by decide +kernel
theorem dX1_joined_159 : decode cX1_joined 159 = .ok (.lreturn, 1) := by decide +kernel
theorem dX1_joined_160 : decode cX1_joined 160 = .ok (.lload_n 1, 1) := by decide +kernel
theorem dX1_joined_161 : decode cX1_joined 161 = .ok (.lload_n 3, 1) := by decide +kernel
theorem dX1_joined_162 : decode cX1_joined 162 = .ok (.lsub, 1) := by decide +kernel
theorem dX1_joined_163 : decode cX1_joined 163 = .ok (.lreturn, 1) := by decide +kernel
theorem dX1_joined_164 : decode cX1_joined 164 = .ok (.lload_n 1, 1) := by decide +kernel
theorem dX1_joined_165 : decode cX1_joined 165 = .ok (.lload_n 3, 1) := by decide +kernel
theorem dX1_joined_166 : decode cX1_joined 166 = .ok (.lmul, 1) := by decide +kernel
theorem dX1_joined_167 : decode cX1_joined 167 = .ok (.lreturn, 1) := by decide +kernel
theorem dX1_joined_168 : decode cX1_joined 168 = .ok (.lload_n 3, 1) := by decide +kernel
theorem dX1_joined_169 : decode cX1_joined 169 = .ok (.lconst 0, 1) := by decide +kernel
theorem dX1_joined_170 : decode cX1_joined 170 = .ok (.lcmp, 1) := by decide +kernel
theorem dX1_joined_171 : decode cX1_joined 171 = .ok (.ifCond .ne 7, 3) := by decide +kernel
theorem dX1_joined_174 : decode cX1_joined 174 = .ok (.lconst 0, 1) := by decide +kernel
theorem dX1_joined_175 : decode cX1_joined 175 = .ok (.goto 6, 3) := by decide +kernel
theorem dX1_joined_178 : decode cX1_joined 178 = .ok (.lload_n 1, 1) := by decide +kernel
theorem dX1_joined_179 : decode cX1_joined 179 = .ok (.lload_n 3, 1) := by decide +kernel
theorem dX1_joined_180 : decode cX1_joined 180 = .ok (.ldiv, 1) := by decide +kernel
theorem dX1_joined_181 : decode cX1_joined 181 = .ok (.lreturn, 1) := by decide +kernel
theorem dX1_joined_182 : decode cX1_joined 182 = .ok (.lconst 0, 1) := by decide +kernel
theorem dX1_joined_183 : decode cX1_joined 183 = .ok (.lreturn, 1) := by decide +kernel
theorem dX1_push_0 : decode cX1_push 0 = .ok (.aload_n 0, 1) := by decide +kernel
theorem dX1_push_1 : decode cX1_push 1 = .ok (.getfield 99, 3) := by decide +kernel
theorem dX1_push_4 : decode cX1_push 4 = .ok (.ifCond .lt 35, 3) := by decide +kernel
theorem dX1_push_7 : decode cX1_push 7 = .ok (.aload_n 0, 1) := by decide +kernel
theorem dX1_push_8 : decode cX1_push 8 = .ok (.getfield 99, 3) := by decide +kernel
theorem dX1_push_11 : decode cX1_push 11 = .ok (.aload_n 0, 1) := by decide +kernel
theorem dX1_push_12 : decode cX1_push 12 = .ok (.getfield 9, 3) := by decide +kernel
theorem dX1_push_15 : decode cX1_push 15 = .ok (.arraylength, 1) := by decide +kernel
theorem dX1_push_16 : decode cX1_push 16 = .ok (.if_icmp .ge 23, 3) := by decide +kernel
theorem dX1_push_19 : decode cX1_push 19 = .ok (.aload_n 0, 1) := by decide +kernel
theorem dX1_push_20 : decode cX1_push 20 = .ok (.getfield 9, 3) := by decide +kernel
theorem dX1_push_23 : decode cX1_push 23 = .ok (.aload_n 0, 1) := by decide +kernel
theorem dX1_push_24 : decode cX1_push 24 = .ok (.getfield 99, 3) := by decide +kernel
theorem dX1_push_27 : decode cX1_push 27 = .ok (.lload_n 1, 1) := by decide +kernel
theorem dX1_push_28 : decode cX1_push 28 = .ok (.lastore, 1) := by decide +kernel
theorem dX1_push_29 : decode cX1_push 29 = .ok (.aload_n 0, 1) := by decide +kernel
theorem dX1_push_30 : decode cX1_push 30 = .ok (.dup, 1) := by decide +kernel
theorem dX1_push_31 : decode cX1_push 31 = .ok (.getfield 99, 3) := by decide +kernel
theorem dX1_push_34 : decode cX1_push 34 = .ok (.iconst 1, 1) := by decide +kernel
theorem dX1_push_35 : decode cX1_push 35 = .ok (.iadd, 1) := by decide +kernel
theorem dX1_push_36 : decode cX1_push 36 = .ok (.putfield 99, 3) := by decide +kernel
theorem dX1_push_39 : decode cX1_push 39 = .ok (.return_, 1) := by decide +kernel
theorem dX1_pop_0 : decode cX1_pop 0 = .ok (.aload_n 0, 1) := by decide +kernel
theorem dX1_pop_1 : decode cX1_pop 1 = .ok (.getfield 99, 3) := by decide +kernel
theorem dX1_pop_4 : decode cX1_pop 4 = .ok (.ifCond .le 15, 3) := by decide +kernel
theorem dX1_pop_7 : decode cX1_pop 7 = .ok (.aload_n 0, 1) := by decide +kernel
theorem dX1_pop_8 : decode cX1_pop 8 = .ok (.getfield 99, 3) := by decide +kernel
theorem dX1_pop_11 : decode cX1_pop 11 = .ok (.aload_n 0, 1) := by decide +kernel
theorem dX1_pop_12 : decode cX1_pop 12 = .ok (.getfield 9, 3) := by decide +kernel
theorem dX1_pop_15 : decode cX1_pop 15 = .ok (.arraylength, 1) := by decide +kernel
theorem dX1_pop_16 : decode cX1_pop 16 = .ok (.if_icmp .le 5, 3) := by decide +kernel
theorem dX1_pop_19 : decode cX1_pop 19 = .ok (.lconst 0, 1) := by decide +kernel
theorem dX1_pop_20 : decode cX1_pop 20 = .ok (.lreturn, 1) := by decide +kernel
theorem dX1_pop_21 : decode cX1_pop 21 = .ok (.aload_n 0, 1) := by decide +kernel
theorem dX1_pop_22 : decode cX1_pop 22 = .ok (.dup, 1) := by decide +kernel
theorem dX1_pop_23 : decode cX1_pop 23 = .ok (.getfield 99, 3) := by decide +kernel
theorem dX1_pop_26 : decode cX1_pop 26 = .ok (.iconst 1, 1) := by decide +kernel
theorem dX1_pop_27 : decode cX1_pop 27 = .ok (.isub, 1) := by decide +kernel
theorem dX1_pop_28 : decode cX1_pop 28 = .ok (.putfield 99, 3) := by decide +kernel
theorem dX1_pop_31 : decode cX1_pop 31 = .ok (.aload_n 0, 1) := by decide +kernel
theorem dX1_pop_32 : decode cX1_pop 32 = .ok (.getfield 9, 3) := by decide +kernel
theorem dX1_pop_35 : decode cX1_pop 35 = .ok (.aload_n 0, 1) := by decide +kernel
theorem dX1_pop_36 : decode cX1_pop 36 = .ok (.getfield 99, 3) := by decide +kernel
theorem dX1_pop_39 : decode cX1_pop 39 = .ok (.laload, 1) := by decide +kernel
theorem dX1_pop_40 : decode cX1_pop 40 = .ok (.lreturn, 1) := by decide +kernel
theorem dX2_init_0 : decode cX2_init 0 = .ok (.aload_n 0, 1) := by decide +kernel
theorem dX2_init_1 : decode cX2_init 1 = .ok (.invokespecial 3, 3) := by decide +kernel
theorem dX2_init_4 : decode cX2_init 4 = .ok (.aload_n 0, 1) := by decide +kernel
theorem dX2_init_5 : decode cX2_init 5 = .ok (.bipush 100, 2) := by decide +kernel
theorem dX2_init_7 : decode cX2_init 7 = .ok (.newarray .long, 2) := by decide +kernel
theorem dX2_init_9 : decode cX2_init 9 = .ok (.putfield 9, 3) := by decide +kernel
theorem dX2_init_12 : decode cX2_init 12 = .ok (.aload_n 0, 1) := by decide +kernel
theorem dX2_init_13 : decode cX2_init 13 = .ok (.aload_n 1, 1) := by decide +kernel
theorem dX2_init_14 : decode cX2_init 14 = .ok (.putfield 15, 3) := by decide +kernel
theorem dX2_init_17 : decode cX2_init 17 = .ok (.aload_n 0, 1) := by decide +kernel
theorem dX2_init_18 : decode cX2_init 18 = .ok (.aload_n 2, 1) := by decide +kernel
theorem dX2_init_19 : decode cX2_init 19 = .ok (.putfield 19, 3) := by decide +kernel
theorem dX2_init_22 : decode cX2_init 22 = .ok (.return_, 1) := by decide +kernel
theorem dX2_left_0 : decode cX2_left 0 = .ok (.aload_n 0, 1) := by decide +kernel
theorem dX2_left_1 : decode cX2_left 1 = .ok (.getfield 15, 3) := by decide +kernel
theorem dX2_left_4 : decode cX2_left 4 = .ok (.getfield 23, 3) := by decide +kernel
theorem dX2_left_7 : decode cX2_left 7 = .ok (.astore_n 3, 1) := by decide +kernel
theorem dX2_left_8 : decode cX2_left 8 = .ok (.aload_n 3, 1) := by decide +kernel
theorem dX2_left_9 : decode cX2_left 9 = .ok (.iload_n 1, 1) := by decide +kernel
theorem dX2_left_10 : decode cX2_left 10 = .ok (.iconst 3, 1) := by decide +kernel
theorem dX2_left_11 : decode cX2_left 11 = .ok (.invokevirtual 29, 3) := by decide +kernel
theorem dX2_left_14 : decode cX2_left 14 = .ok (.istore 4, 2) := by decide +kernel
theorem dX2_left_16 : decode cX2_left 16 = .ok (.iload_n 2, 1) := by decide +kernel
theorem dX2_left_17 : decode cX2_left 17 = .ok (.iload 4, 2) := by decide +kernel
theorem dX2_left_19 : decode cX2_left 19 = .ok (.if_icmp .ge 5, 3) := by decide +kernel
theorem dX2_left_22 : decode cX2_left 22 = .ok (.lconst 0, 1) := by decide +kernel
theorem dX2_left_23 : decode cX2_left 23 = .ok (.lreturn, 1) := by decide +kernel
theorem dX2_left_24 : decode cX2_left 24 = .ok (.aload_n 0, 1) := by decide +kernel
theorem dX2_left_25 : decode cX2_left 25 = .ok (.getfield 15, 3) := by decide +kernel
theorem dX2_left_28 : decode cX2_left 28 = .ok (.aload_n 3, 1) := by decide +kernel
theorem dX2_left_29 : decode cX2_left 29 = .ok (.iload_n 1, 1) := by decide +kernel
theorem dX2_left_30 : decode cX2_left 30 = .ok (.iconst 0, 1) := by decide +kernel
theorem dX2_left_31 : decode cX2_left 31 = .ok (.invokevirtual 29, 3) := by decide +kernel
theorem dX2_left_34 : decode cX2_left 34 = .ok (.aload_n 3, 1) := by decide +kernel
theorem dX2_left_35 : decode cX2_left 35 = .ok (.iload_n 1, 1) := by decide +kernel
theorem dX2_left_36 : decode cX2_left 36 = .ok (.iconst 1, 1) := by decide +kernel
theorem dX2_left_37 : decode cX2_left 37 = .ok (.invokevirtual 29, 3) := by decide +kernel
theorem dX2_left_40 : decode cX2_left 40 = .ok (.invokevirtual 35, 3) := by decide +kernel
theorem dX2_left_43 : decode cX2_left 43 = .ok (.istore 5, 2) := by decide +kernel
theorem dX2_left_45 : decode cX2_left 45 = .ok (.aload_n 0, 1) := by decide +kernel
theorem dX2_left_46 : decode cX2_left 46 = .ok (.getfield 15, 3) := by decide +kernel
theorem dX2_left_49 : decode cX2_left 49 = .ok (.getfield 38, 3) := by decide +kernel
theorem dX2_left_52 : decode cX2_left 52 = .ok (.aload_n 3, 1) := by decide +kernel
theorem dX2_left_53 : decode cX2_left 53 = .ok (.iload_n 1, 1) := by decide +kernel
theorem dX2_left_54 : decode cX2_left 54 = .ok (.iconst 1, 1) := by decide +kernel
theorem dX2_left_55 : decode cX2_left 55 = .ok (.invokevirtual 29, 3) := by decide +kernel
theorem dX2_left_58 : decode cX2_left 58 = .ok (.iconst 1, 1) := by decide +kernel
theorem dX2_left_59 : decode cX2_left 59 = .ok (.invokevirtual 29, 3) := by decide +kernel
theorem dX2_left_62 : decode cX2_left 62 = .ok (.istore 6, 2) := by decide +kernel
theorem dX2_left_64 : decode cX2_left 64 = .ok (.aload_n 3, 1) := by decide +kernel
theorem dX2_left_65 : decode cX2_left 65 = .ok (.iload_n 1, 1) := by decide +kernel
theorem dX2_left_66 : decode cX2_left 66 = .ok (.iconst 4, 1) := by decide +kernel
theorem dX2_left_67 : decode cX2_left 67 = .ok (.invokevirtual 29, 3) := by decide +kernel
theorem dX2_left_70 : decode cX2_left 70 = .ok (.istore 7, 2) := by decide +kernel
theorem dX2_left_72 : decode cX2_left 72 = .ok (.aload_n 0, 1) := by decide +kernel
theorem dX2_left_73 : decode cX2_left 73 = .ok (.iload_n 1, 1) := by decide +kernel
theorem dX2_left_74 : decode cX2_left 74 = .ok (.invokevirtual 41, 3) := by decide +kernel
theorem dX2_left_77 : decode cX2_left 77 = .ok (.aload_n 0, 1) := by decide +kernel
theorem dX2_left_78 : decode cX2_left 78 = .ok (.iload_n 1, 1) := by decide +kernel
theorem dX2_left_79 : decode cX2_left 79 = .ok (.iload_n 2, 1) := by decide +kernel
theorem dX2_left_80 : decode cX2_left 80 = .ok (.invokevirtual 45, 3) := by decide +kernel
theorem dX2_left_83 : decode cX2_left 83 = .ok (.lstore 8, 2) := by decide +kernel
theorem dX2_left_85 : decode cX2_left 85 = .ok (.iconst 0, 1) := by decide +kernel
theorem dX2_left_86 : decode cX2_left 86 = .ok (.iload 4, 2) := by decide +kernel
theorem dX2_left_88 : decode cX2_left 88 = .ok (.invokestatic 49, 3) := by decide +kernel
theorem dX2_left_91 : decode cX2_left 91 = .ok (.istore 10, 2) := by decide +kernel
theorem dX2_left_93 : decode cX2_left 93 = .ok (.iload 10, 2) := by decide +kernel
theorem dX2_left_95 : decode cX2_left 95 = .ok (.iload_n 2, 1) := by decide +kernel
theorem dX2_left_96 : decode cX2_left 96 = .ok (.if_icmp .gt 96, 3) := by decide +kernel
theorem dX2_left_99 : decode cX2_left 99 = .ok (.iload 10, 2) := by decide +kernel
theorem dX2_left_101 : decode cX2_left 101 = .ok (.aload_n 0, 1) := by decide +kernel
theorem dX2_left_102 : decode cX2_left 102 = .ok (.getfield 9, 3) := by decide +kernel
theorem dX2_left_105 : decode cX2_left 105 = .ok (.arraylength, 1) := by decide +kernel
theorem dX2_left_106 : decode cX2_left 106 = .ok (.if_icmp .ge 86, 3) := by decide +kernel
theorem dX2_left_109 : decode cX2_left 109 = .ok (.lload 8, 2) := by decide +kernel
theorem dX2_left_111 : decode cX2_left 111 = .ok (.lconst 0, 1) := by decide +kernel
theorem dX2_left_112 : decode cX2_left 112 = .ok (.lcmp, 1) := by decide +kernel
theorem dX2_left_113 : decode cX2_left 113 = .ok (.ifCond .le 79, 3) := by decide +kernel
theorem dX2_left_116 : decode cX2_left 116 = .ok (.lload 8, 2) := by decide +kernel
theorem dX2_left_118 : decode cX2_left 118 = .ok (.lload 8, 2) := by decide +kernel
theorem dX2_left_120 : decode cX2_left 120 = .ok (.aload_n 0, 1) := by decide +kernel
theorem dX2_left_121 : decode cX2_left 121 = .ok (.getfield 9, 3) := by decide +kernel
theorem dX2_left_124 : decode cX2_left 124 = .ok (.iload 10, 2) := by decide +kernel
theorem dX2_left_126 : decode cX2_left 126 = .ok (.laload, 1) := by decide +kernel
theorem dX2_left_127 : decode cX2_left 127 = .ok (.invokestatic 54, 3) := by decide +kernel
theorem dX2_left_130 : decode cX2_left 130 = .ok (.lsub, 1) := by decide +kernel
theorem dX2_left_131 : decode cX2_left 131 = .ok (.lstore 8, 2) := by decide +kernel
theorem dX2_left_133 : decode cX2_left 133 = .ok (.iload 10, 2) := by decide +kernel
theorem dX2_left_135 : decode cX2_left 135 = .ok (.iload 7, 2) := by decide +kernel
theorem dX2_left_137 : decode cX2_left 137 = .ok (.if_icmp .le 49, 3) := by decide +kernel
theorem dX2_left_140 : decode cX2_left 140 = .ok (.lload 8, 2) := by decide +kernel
theorem dX2_left_142 : decode cX2_left 142 = .ok (.lconst 0, 1) := by decide +kernel
theorem dX2_left_143 : decode cX2_left 143 = .ok (.lcmp, 1) := by decide +kernel
theorem dX2_left_144 : decode cX2_left 144 = .ok (.ifCond .le 42, 3) := by decide +kernel
theorem dX2_left_147 : decode cX2_left 147 = .ok (.aload_n 0, 1) := by decide +kernel
theorem dX2_left_148 : decode cX2_left 148 = .ok (.getfield 19, 3) := by decide +kernel
theorem dX2_left_151 : decode cX2_left 151 = .ok (.iconst 1, 1) := by decide +kernel
theorem dX2_left_152 : decode cX2_left 152 = .ok (.iload 10, 2) := by decide +kernel
theorem dX2_left_154 : decode cX2_left 154 = .ok (.iconst 0, 1) := by decide +kernel
theorem dX2_left_155 : decode cX2_left 155 = .ok (.iload 5, 2) := by decide +kernel
theorem dX2_left_157 : decode cX2_left 157 = .ok (.iload 6, 2) := by decide +kernel
theorem dX2_left_159 : decode cX2_left 159 = .ok (.lload 8, 2) := by decide +kernel
theorem dX2_left_161 : decode cX2_left 161 = .ok (.invokevirtual 58, 3) := by decide +kernel
theorem dX2_left_164 : decode cX2_left 164 = .ok (.lstore 11, 2) := by decide +kernel
theorem dX2_left_166 : decode cX2_left 166 = .ok (.ldc2_w 64, 3) := by decide +kernel
theorem dX2_left_169 : decode cX2_left 169 = .ok (.lload 8, 2) := by decide +kernel
theorem dX2_left_171 : decode cX2_left 171 = .ok (.lload 8, 2) := by decide +kernel
theorem dX2_left_173 : decode cX2_left 173 = .ok (.lload 11, 2) := by decide +kernel
theorem dX2_left_175 : decode cX2_left 175 = .ok (.lmul, 1) := by decide +kernel
theorem dX2_left_176 : decode cX2_left 176 = .ok (.ldc2_w 66, 3) := by decide +kernel
theorem dX2_left_179 : decode cX2_left 179 = .ok (.ldiv, 1) := by decide +kernel
theorem dX2_left_180 : decode cX2_left 180 = .ok (.ladd, 1) := by decide +kernel
theorem dX2_left_181 : decode cX2_left 181 = .ok (.invokestatic 54, 3) := by decide +kernel
theorem dX2_left_184 : decode cX2_left 184 = .ok (.lstore 8, 2) := by decide +kernel
theorem dX2_left_186 : decode cX2_left 186 = .ok (.iinc 10 1, 3) := by decide +kernel
theorem dX2_left_189 : decode cX2_left 189 = .ok (.goto (-96), 3) := by decide +kernel
theorem dX2_left_192 : decode cX2_left 192 = .ok (.lload 8, 2) := by decide +kernel
theorem dX2_left_194 : decode cX2_left 194 = .ok (.lreturn, 1) := by decide +kernel
theorem dX2_sumLent_0 : decode cX2_sumLent 0 = .ok (.aload_n 0, 1) := by decide +kernel
theorem dX2_sumLent_1 : decode cX2_sumLent 1 = .ok (.getfield 15, 3) := by decide +kernel
theorem dX2_sumLent_4 : decode cX2_sumLent 4 = .ok (.getfield 23, 3) := by decide +kernel
theorem dX2_sumLent_7 : decode cX2_sumLent 7 = .ok (.iload_n 1, 1) := by decide +kernel
theorem dX2_sumLent_8 : decode cX2_sumLent 8 = .ok (.iconst 5, 1) := by decide +kernel
theorem dX2_sumLent_9 : decode cX2_sumLent 9 = .ok (.invokevirtual 29, 3) := by decide +kernel
theorem dX2_sumLent_12 : decode cX2_sumLent 12 = .ok (.istore_n 3, 1) := by decide +kernel
theorem dX2_sumLent_13 : decode cX2_sumLent 13 = .ok (.aload_n 0, 1) := by decide +kernel
theorem dX2_sumLent_14 : decode cX2_sumLent 14 = .ok (.getfield 15, 3) := by decide +kernel
theorem dX2_sumLent_17 : decode cX2_sumLent 17 = .ok (.getfield 23, 3) := by decide +kernel
theorem dX2_sumLent_20 : decode cX2_sumLent 20 = .ok (.iload_n 1, 1) := by decide +kernel
theorem dX2_sumLent_21 : decode cX2_sumLent 21 = .ok (.bipush 6, 2) := by decide +kernel
theorem dX2_sumLent_23 : decode cX2_sumLent 23 = .ok (.invokevirtual 29, 3) := by decide +kernel
theorem dX2_sumLent_26 : decode cX2_sumLent 26 = .ok (.istore 4, 2) := by decide +kernel
theorem dX2_sumLent_28 : decode cX2_sumLent 28 = .ok (.iload_n 3, 1) := by decide +kernel
theorem dX2_sumLent_29 : decode cX2_sumLent 29 = .ok (.iconst (-1), 1) := by decide +kernel
theorem dX2_sumLent_30 : decode cX2_sumLent 30 = .ok (.if_icmp .eq 19, 3) := by decide +kernel
theorem dX2_sumLent_33 : decode cX2_sumLent 33 = .ok (.iload 4, 2) := by decide +kernel
theorem dX2_sumLent_35 : decode cX2_sumLent 35 = .ok (.iconst (-1), 1) := by decide +kernel
theorem dX2_sumLent_36 : decode cX2_sumLent 36 = .ok (.if_icmp .eq 9, 3) := by decide +kernel
theorem dX2_sumLent_39 : decode cX2_sumLent 39 = .ok (.iload_n 2, 1) := by decide +kernel
theorem dX2_sumLent_40 : decode cX2_sumLent 40 = .ok (.iload 4, 2) := by decide +kernel
theorem dX2_sumLent_42 : decode cX2_sumLent 42 = .ok (.if_icmp .ge 7, 3) := by decide +kernel
theorem dX2_sumLent_45 : decode cX2_sumLent 45 = .ok (.iconst 1, 1) := by decide +kernel
theorem dX2_sumLent_46 : decode cX2_sumLent 46 = .ok (.goto 4, 3) := by decide +kernel
theorem dX2_sumLent_49 : decode cX2_sumLent 49 = .ok (.iconst 0, 1) := by decide +kernel
theorem dX2_sumLent_50 : decode cX2_sumLent 50 = .ok (.istore 5, 2) := by decide +kernel
theorem dX2_sumLent_52 : decode cX2_sumLent 52 = .ok (.iload 5, 2) := by decide +kernel
theorem dX2_sumLent_54 : decode cX2_sumLent 54 = .ok (.ifCond .eq 8, 3) := by decide +kernel
theorem dX2_sumLent_57 : decode cX2_sumLent 57 = .ok (.iload_n 3, 1) := by decide +kernel
theorem dX2_sumLent_58 : decode cX2_sumLent 58 = .ok (.i2l, 1) := by decide +kernel
theorem dX2_sumLent_59 : decode cX2_sumLent 59 = .ok (.goto 16, 3) := by decide +kernel
theorem dX2_sumLent_62 : decode cX2_sumLent 62 = .ok (.aload_n 0, 1) := by decide +kernel
theorem dX2_sumLent_63 : decode cX2_sumLent 63 = .ok (.getfield 15, 3) := by decide +kernel
theorem dX2_sumLent_66 : decode cX2_sumLent 66 = .ok (.getfield 23, 3) := by decide +kernel
theorem dX2_sumLent_69 : decode cX2_sumLent 69 = .ok (.iload_n 1, 1) := by decide +kernel
theorem dX2_sumLent_70 : decode cX2_sumLent 70 = .ok (.iconst 2, 1) := by decide +kernel
theorem dX2_sumLent_71 : decode cX2_sumLent 71 = .ok (.invokevirtual 29, 3) := by decide +kernel
theorem dX2_sumLent_74 : decode cX2_sumLent 74 = .ok (.i2l, 1) := by decide +kernel
theorem dX2_sumLent_75 : decode cX2_sumLent 75 = .ok (.lreturn, 1) := by decide +kernel
theorem dX2_gather_0 : decode cX2_gather 0 = .ok (.aload_n 0, 1) := by decide +kernel
theorem dX2_gather_1 : decode cX2_gather 1 = .ok (.getfield 9, 3) := by decide +kernel
theorem dX2_gather_4 : decode cX2_gather 4 = .ok (.lconst 0, 1) := by decide +kernel
theorem dX2_gather_5 : decode cX2_gather 5 = .ok (.invokestatic 68, 3) := by decide +kernel
theorem dX2_gather_8 : decode cX2_gather 8 = .ok (.iconst 0, 1) := by decide +kernel
theorem dX2_gather_9 : decode cX2_gather 9 = .ok (.istore_n 2, 1) := by decide +kernel
theorem dX2_gather_10 : decode cX2_gather 10 = .ok (.iload_n 2, 1) := by decide +kernel
theorem dX2_gather_11 : decode cX2_gather 11 = .ok (.aload_n 0, 1) := by decide +kernel
theorem dX2_gather_12 : decode cX2_gather 12 = .ok (.getfield 15, 3) := by decide +kernel
theorem dX2_gather_15 : decode cX2_gather 15 = .ok (.getfield 74, 3) := by decide +kernel
theorem dX2_gather_18 : decode cX2_gather 18 = .ok (.getfield 77, 3) := by decide +kernel
theorem dX2_gather_21 : decode cX2_gather 21 = .ok (.if_icmp .ge 73, 3) := by decide +kernel
theorem dX2_gather_24 : decode cX2_gather 24 = .ok (.aload_n 0, 1) := by decide +kernel
theorem dX2_gather_25 : decode cX2_gather 25 = .ok (.getfield 15, 3) := by decide +kernel
theorem dX2_gather_28 : decode cX2_gather 28 = .ok (.getfield 74, 3) := by decide +kernel
theorem dX2_gather_31 : decode cX2_gather 31 = .ok (.iload_n 2, 1) := by decide +kernel
theorem dX2_gather_32 : decode cX2_gather 32 = .ok (.iconst 1, 1) := by decide +kernel
theorem dX2_gather_33 : decode cX2_gather 33 = .ok (.invokevirtual 29, 3) := by decide +kernel
theorem dX2_gather_36 : decode cX2_gather 36 = .ok (.istore_n 3, 1) := by decide +kernel
theorem dX2_gather_37 : decode cX2_gather 37 = .ok (.aload_n 0, 1) := by decide +kernel
theorem dX2_gather_38 : decode cX2_gather 38 = .ok (.getfield 15, 3) := by decide +kernel
theorem dX2_gather_41 : decode cX2_gather 41 = .ok (.getfield 74, 3) := by decide +kernel
theorem dX2_gather_44 : decode cX2_gather 44 = .ok (.iload_n 2, 1) := by decide +kernel
theorem dX2_gather_45 : decode cX2_gather 45 = .ok (.iconst 0, 1) := by decide +kernel
theorem dX2_gather_46 : decode cX2_gather 46 = .ok (.invokevirtual 29, 3) := by decide +kernel
theorem dX2_gather_49 : decode cX2_gather 49 = .ok (.iload_n 1, 1) := by decide +kernel
theorem dX2_gather_50 : decode cX2_gather 50 = .ok (.if_icmp .ne 38, 3) := by decide +kernel
theorem dX2_gather_53 : decode cX2_gather 53 = .ok (.iload_n 3, 1) := by decide +kernel
theorem dX2_gather_54 : decode cX2_gather 54 = .ok (.ifCond .lt 34, 3) := by decide +kernel
theorem dX2_gather_57 : decode cX2_gather 57 = .ok (.iload_n 3, 1) := by decide +kernel
theorem dX2_gather_58 : decode cX2_gather 58 = .ok (.aload_n 0, 1) := by decide +kernel
theorem dX2_gather_59 : decode cX2_gather 59 = .ok (.getfield 9, 3) := by decide +kernel
theorem dX2_gather_62 : decode cX2_gather 62 = .ok (.arraylength, 1) := by decide +kernel
theorem dX2_gather_63 : decode cX2_gather 63 = .ok (.if_icmp .ge 25, 3) := by decide +kernel
theorem dX2_gather_66 : decode cX2_gather 66 = .ok (.aload_n 0, 1) := by decide +kernel
theorem dX2_gather_67 : decode cX2_gather 67 = .ok (.getfield 9, 3) := by decide +kernel
theorem dX2_gather_70 : decode cX2_gather 70 = .ok (.iload_n 3, 1) := by decide +kernel
theorem dX2_gather_71 : decode cX2_gather 71 = .ok (.dup2, 1) := by decide +kernel
theorem dX2_gather_72 : decode cX2_gather 72 = .ok (.laload, 1) := by decide +kernel
theorem dX2_gather_73 : decode cX2_gather 73 = .ok (.aload_n 0, 1) := by decide +kernel
theorem dX2_gather_74 : decode cX2_gather 74 = .ok (.getfield 15, 3) := by decide +kernel
theorem dX2_gather_77 : decode cX2_gather 77 = .ok (.getfield 74, 3) := by decide +kernel
theorem dX2_gather_80 : decode cX2_gather 80 = .ok (.iload_n 2, 1) := by decide +kernel
theorem dX2_gather_81 : decode cX2_gather 81 = .ok (.iconst 2, 1) := by decide +kernel
theorem dX2_gather_82 : decode cX2_gather 82 = .ok (.invokevirtual 29, 3) := by decide +kernel
theorem dX2_gather_85 : decode cX2_gather 85 = .ok (.i2l, 1) := by decide +kernel
theorem dX2_gather_86 : decode cX2_gather 86 = .ok (.ladd, 1) := by decide +kernel
theorem dX2_gather_87 : decode cX2_gather 87 = .ok (.lastore, 1) := by decide +kernel
theorem dX2_gather_88 : decode cX2_gather 88 = .ok (.iinc 2 1, 3) := by decide +kernel
theorem dX2_gather_91 : decode cX2_gather 91 = .ok (.goto (-81), 3) := by decide +kernel
theorem dX2_gather_94 : decode cX2_gather 94 = .ok (.return_, 1) := by decide +kernel
theorem dX2_sharesOfAll_0 : decode cX2_sharesOfAll 0 = .ok (.iconst 0, 1) := by decide +kernel
theorem dX2_sharesOfAll_1 : decode cX2_sharesOfAll 1 = .ok (.istore_n 2, 1) := by decide +kernel
theorem dX2_sharesOfAll_2 : decode cX2_sharesOfAll 2 = .ok (.iconst 0, 1) := by decide +kernel
theorem dX2_sharesOfAll_3 : decode cX2_sharesOfAll 3 = .ok (.istore_n 3, 1) := by decide +kernel
theorem dX2_sharesOfAll_4 : decode cX2_sharesOfAll 4 = .ok (.iload_n 3, 1) := by decide +kernel
theorem dX2_sharesOfAll_5 : decode cX2_sharesOfAll 5 = .ok (.aload_n 0, 1) := by decide +kernel
theorem dX2_sharesOfAll_6 : decode cX2_sharesOfAll 6 = .ok (.getfield 15, 3) := by decide +kernel
theorem dX2_sharesOfAll_9 : decode cX2_sharesOfAll 9 = .ok (.getfield 38, 3) := by decide +kernel
theorem dX2_sharesOfAll_12 : decode cX2_sharesOfAll 12 = .ok (.getfield 77, 3) := by decide +kernel
theorem dX2_sharesOfAll_15 : decode cX2_sharesOfAll 15 = .ok (.if_icmp .ge 26, 3) := by decide +kernel
theorem dX2_sharesOfAll_18 : decode cX2_sharesOfAll 18 = .ok (.iload_n 2, 1) := by decide +kernel
theorem dX2_sharesOfAll_19 : decode cX2_sharesOfAll 19 = .ok (.aload_n 0, 1) := by decide +kernel
theorem dX2_sharesOfAll_20 : decode cX2_sharesOfAll 20 = .ok (.getfield 15, 3) := by decide +kernel
theorem dX2_sharesOfAll_23 : decode cX2_sharesOfAll 23 = .ok (.getfield 81, 3) := by decide +kernel
theorem dX2_sharesOfAll_26 : decode cX2_sharesOfAll 26 = .ok (.iload_n 1, 1) := by decide +kernel
theorem dX2_sharesOfAll_27 : decode cX2_sharesOfAll 27 = .ok (.iconst 3, 1) := by decide +kernel
theorem dX2_sharesOfAll_28 : decode cX2_sharesOfAll 28 = .ok (.iload_n 3, 1) := by decide +kernel
theorem dX2_sharesOfAll_29 : decode cX2_sharesOfAll 29 = .ok (.iadd, 1) := by decide +kernel
theorem dX2_sharesOfAll_30 : decode cX2_sharesOfAll 30 = .ok (.invokevirtual 29, 3) := by decide +kernel
theorem dX2_sharesOfAll_33 : decode cX2_sharesOfAll 33 = .ok (.iadd, 1) := by decide +kernel
theorem dX2_sharesOfAll_34 : decode cX2_sharesOfAll 34 = .ok (.istore_n 2, 1) := by decide +kernel
theorem dX2_sharesOfAll_35 : decode cX2_sharesOfAll 35 = .ok (.iinc 3 1, 3) := by decide +kernel
theorem dX2_sharesOfAll_38 : decode cX2_sharesOfAll 38 = .ok (.goto (-34), 3) := by decide +kernel
theorem dX2_sharesOfAll_41 : decode cX2_sharesOfAll 41 = .ok (.iload_n 2, 1) := by decide +kernel
theorem dX2_sharesOfAll_42 : decode cX2_sharesOfAll 42 = .ok (.ireturn, 1) := by decide +kernel
theorem dX2_takenBy_0 : decode cX2_takenBy 0 = .ok (.aload_n 0, 1) := by decide +kernel
theorem dX2_takenBy_1 : decode cX2_takenBy 1 = .ok (.getfield 15, 3) := by decide +kernel
theorem dX2_takenBy_4 : decode cX2_takenBy 4 = .ok (.getfield 81, 3) := by decide +kernel
theorem dX2_takenBy_7 : decode cX2_takenBy 7 = .ok (.iload_n 1, 1) := by decide +kernel
theorem dX2_takenBy_8 : decode cX2_takenBy 8 = .ok (.iconst 3, 1) := by decide +kernel
theorem dX2_takenBy_9 : decode cX2_takenBy 9 = .ok (.iload_n 2, 1) := by decide +kernel
theorem dX2_takenBy_10 : decode cX2_takenBy 10 = .ok (.iadd, 1) := by decide +kernel
theorem dX2_takenBy_11 : decode cX2_takenBy 11 = .ok (.invokevirtual 29, 3) := by decide +kernel
theorem dX2_takenBy_14 : decode cX2_takenBy 14 = .ok (.i2l, 1) := by decide +kernel
theorem dX2_takenBy_15 : decode cX2_takenBy 15 = .ok (.aload_n 0, 1) := by decide +kernel
theorem dX2_takenBy_16 : decode cX2_takenBy 16 = .ok (.getfield 15, 3) := by decide +kernel
theorem dX2_takenBy_19 : decode cX2_takenBy 19 = .ok (.getfield 81, 3) := by decide +kernel
theorem dX2_takenBy_22 : decode cX2_takenBy 22 = .ok (.iload_n 1, 1) := by decide +kernel
theorem dX2_takenBy_23 : decode cX2_takenBy 23 = .ok (.iconst 2, 1) := by decide +kernel
theorem dX2_takenBy_24 : decode cX2_takenBy 24 = .ok (.invokevirtual 29, 3) := by decide +kernel
theorem dX2_takenBy_27 : decode cX2_takenBy 27 = .ok (.i2l, 1) := by decide +kernel
theorem dX2_takenBy_28 : decode cX2_takenBy 28 = .ok (.lmul, 1) := by decide +kernel
theorem dX2_takenBy_29 : decode cX2_takenBy 29 = .ok (.lstore 4, 2) := by decide +kernel
theorem dX2_takenBy_31 : decode cX2_takenBy 31 = .ok (.aload_n 0, 1) := by decide +kernel
theorem dX2_takenBy_32 : decode cX2_takenBy 32 = .ok (.getfield 15, 3) := by decide +kernel
theorem dX2_takenBy_35 : decode cX2_takenBy 35 = .ok (.iload_n 2, 1) := by decide +kernel
theorem dX2_takenBy_36 : decode cX2_takenBy 36 = .ok (.aload_n 0, 1) := by decide +kernel
theorem dX2_takenBy_37 : decode cX2_takenBy 37 = .ok (.getfield 15, 3) := by decide +kernel
theorem dX2_takenBy_40 : decode cX2_takenBy 40 = .ok (.getfield 81, 3) := by decide +kernel
theorem dX2_takenBy_43 : decode cX2_takenBy 43 = .ok (.iload_n 1, 1) := by decide +kernel
theorem dX2_takenBy_44 : decode cX2_takenBy 44 = .ok (.iconst 0, 1) := by decide +kernel
theorem dX2_takenBy_45 : decode cX2_takenBy 45 = .ok (.invokevirtual 29, 3) := by decide +kernel
theorem dX2_takenBy_48 : decode cX2_takenBy 48 = .ok (.invokevirtual 35, 3) := by decide +kernel
theorem dX2_takenBy_51 : decode cX2_takenBy 51 = .ok (.istore 6, 2) := by decide +kernel
theorem dX2_takenBy_53 : decode cX2_takenBy 53 = .ok (.aload_n 0, 1) := by decide +kernel
theorem dX2_takenBy_54 : decode cX2_takenBy 54 = .ok (.getfield 15, 3) := by decide +kernel
theorem dX2_takenBy_57 : decode cX2_takenBy 57 = .ok (.getfield 38, 3) := by decide +kernel
theorem dX2_takenBy_60 : decode cX2_takenBy 60 = .ok (.iload_n 2, 1) := by decide +kernel
theorem dX2_takenBy_61 : decode cX2_takenBy 61 = .ok (.iconst 1, 1) := by decide +kernel
theorem dX2_takenBy_62 : decode cX2_takenBy 62 = .ok (.invokevirtual 29, 3) := by decide +kernel
theorem dX2_takenBy_65 : decode cX2_takenBy 65 = .ok (.istore 7, 2) := by decide +kernel
theorem dX2_takenBy_67 : decode cX2_takenBy 67 = .ok (.lload 4, 2) := by decide +kernel
theorem dX2_takenBy_69 : decode cX2_takenBy 69 = .ok (.aload_n 0, 1) := by decide +kernel
theorem dX2_takenBy_70 : decode cX2_takenBy 70 = .ok (.getfield 19, 3) := by decide +kernel
theorem dX2_takenBy_73 : decode cX2_takenBy 73 = .ok (.iconst 2, 1) := by decide +kernel
theorem dX2_takenBy_74 : decode cX2_takenBy 74 = .ok (.iload_n 3, 1) := by decide +kernel
theorem dX2_takenBy_75 : decode cX2_takenBy 75 = .ok (.iconst 0, 1) := by decide +kernel
theorem dX2_takenBy_76 : decode cX2_takenBy 76 = .ok (.iload 6, 2) := by decide +kernel
theorem dX2_takenBy_78 : decode cX2_takenBy 78 = .ok (.iload 7, 2) := by decide +kernel
theorem dX2_takenBy_80 : decode cX2_takenBy 80 = .ok (.lload 4, 2) := by decide +kernel
theorem dX2_takenBy_82 : decode cX2_takenBy 82 = .ok (.invokevirtual 58, 3) := by decide +kernel
theorem dX2_takenBy_85 : decode cX2_takenBy 85 = .ok (.lmul, 1) := by decide +kernel
theorem dX2_takenBy_86 : decode cX2_takenBy 86 = .ok (.ldc2_w 84, 3) := by decide +kernel
theorem dX2_takenBy_89 : decode cX2_takenBy 89 = .ok (.ldiv, 1) := by decide +kernel
theorem dX2_takenBy_90 : decode cX2_takenBy 90 = .ok (.l2i, 1) := by decide +kernel
theorem dX2_takenBy_91 : decode cX2_takenBy 91 = .ok (.ireturn, 1) := by decide +kernel
theorem dX2_partOf_0 : decode cX2_partOf 0 = .ok (.iload_n 2, 1) := by decide +kernel
theorem dX2_partOf_1 : decode cX2_partOf 1 = .ok (.iconst 3, 1) := by decide +kernel
theorem dX2_partOf_2 : decode cX2_partOf 2 = .ok (.idiv, 1) := by decide +kernel
theorem dX2_partOf_3 : decode cX2_partOf 3 = .ok (.istore 4, 2) := by decide +kernel
theorem dX2_partOf_5 : decode cX2_partOf 5 = .ok (.iload_n 2, 1) := by decide +kernel
theorem dX2_partOf_6 : decode cX2_partOf 6 = .ok (.iload 4, 2) := by decide +kernel
theorem dX2_partOf_8 : decode cX2_partOf 8 = .ok (.isub, 1) := by decide +kernel
theorem dX2_partOf_9 : decode cX2_partOf 9 = .ok (.istore 5, 2) := by decide +kernel
theorem dX2_partOf_11 : decode cX2_partOf 11 = .ok (.aload_n 0, 1) := by decide +kernel
theorem dX2_partOf_12 : decode cX2_partOf 12 = .ok (.iload_n 1, 1) := by decide +kernel
theorem dX2_partOf_13 : decode cX2_partOf 13 = .ok (.invokevirtual 86, 3) := by decide +kernel
theorem dX2_partOf_16 : decode cX2_partOf 16 = .ok (.istore 6, 2) := by decide +kernel
theorem dX2_partOf_18 : decode cX2_partOf 18 = .ok (.aload_n 0, 1) := by decide +kernel
theorem dX2_partOf_19 : decode cX2_partOf 19 = .ok (.iload_n 1, 1) := by decide +kernel
theorem dX2_partOf_20 : decode cX2_partOf 20 = .ok (.iload_n 3, 1) := by decide +kernel
theorem dX2_partOf_21 : decode cX2_partOf 21 = .ok (.iload 5, 2) := by decide +kernel
theorem dX2_partOf_23 : decode cX2_partOf 23 = .ok (.iload 6, 2) := by decide +kernel
theorem dX2_partOf_25 : decode cX2_partOf 25 = .ok (.invokevirtual 90, 3) := by decide +kernel
theorem dX2_partOf_28 : decode cX2_partOf 28 = .ok (.istore 7, 2) := by decide +kernel
theorem dX2_partOf_30 : decode cX2_partOf 30 = .ok (.iload_n 3, 1) := by decide +kernel
theorem dX2_partOf_31 : decode cX2_partOf 31 = .ok (.aload_n 0, 1) := by decide +kernel
theorem dX2_partOf_32 : decode cX2_partOf 32 = .ok (.getfield 15, 3) := by decide +kernel
theorem dX2_partOf_35 : decode cX2_partOf 35 = .ok (.getfield 81, 3) := by decide +kernel
theorem dX2_partOf_38 : decode cX2_partOf 38 = .ok (.iload_n 1, 1) := by decide +kernel
theorem dX2_partOf_39 : decode cX2_partOf 39 = .ok (.iconst 0, 1) := by decide +kernel
theorem dX2_partOf_40 : decode cX2_partOf 40 = .ok (.invokevirtual 29, 3) := by decide +kernel
theorem dX2_partOf_43 : decode cX2_partOf 43 = .ok (.if_icmp .eq 6, 3) := by decide +kernel
theorem dX2_partOf_46 : decode cX2_partOf 46 = .ok (.iload 7, 2) := by decide +kernel
theorem dX2_partOf_48 : decode cX2_partOf 48 = .ok (.ireturn, 1) := by decide +kernel
theorem dX2_partOf_49 : decode cX2_partOf 49 = .ok (.iload 5, 2) := by decide +kernel
theorem dX2_partOf_51 : decode cX2_partOf 51 = .ok (.istore 8, 2) := by decide +kernel
theorem dX2_partOf_53 : decode cX2_partOf 53 = .ok (.iconst 0, 1) := by decide +kernel
theorem dX2_partOf_54 : decode cX2_partOf 54 = .ok (.istore 9, 2) := by decide +kernel
theorem dX2_partOf_56 : decode cX2_partOf 56 = .ok (.iload 9, 2) := by decide +kernel
theorem dX2_partOf_58 : decode cX2_partOf 58 = .ok (.aload_n 0, 1) := by decide +kernel
theorem dX2_partOf_59 : decode cX2_partOf 59 = .ok (.getfield 15, 3) := by decide +kernel
theorem dX2_partOf_62 : decode cX2_partOf 62 = .ok (.getfield 38, 3) := by decide +kernel
theorem dX2_partOf_65 : decode cX2_partOf 65 = .ok (.getfield 77, 3) := by decide +kernel
theorem dX2_partOf_68 : decode cX2_partOf 68 = .ok (.if_icmp .ge 25, 3) := by decide +kernel
theorem dX2_partOf_71 : decode cX2_partOf 71 = .ok (.iload 8, 2) := by decide +kernel
theorem dX2_partOf_73 : decode cX2_partOf 73 = .ok (.aload_n 0, 1) := by decide +kernel
theorem dX2_partOf_74 : decode cX2_partOf 74 = .ok (.iload_n 1, 1) := by decide +kernel
theorem dX2_partOf_75 : decode cX2_partOf 75 = .ok (.iload 9, 2) := by decide +kernel
theorem dX2_partOf_77 : decode cX2_partOf 77 = .ok (.iload 5, 2) := by decide +kernel
theorem dX2_partOf_79 : decode cX2_partOf 79 = .ok (.iload 6, 2) := by decide +kernel
theorem dX2_partOf_81 : decode cX2_partOf 81 = .ok (.invokevirtual 90, 3) := by decide +kernel
theorem dX2_partOf_84 : decode cX2_partOf 84 = .ok (.isub, 1) := by decide +kernel
theorem dX2_partOf_85 : decode cX2_partOf 85 = .ok (.istore 8, 2) := by decide +kernel
theorem dX2_partOf_87 : decode cX2_partOf 87 = .ok (.iinc 9 1, 3) := by decide +kernel
theorem dX2_partOf_90 : decode cX2_partOf 90 = .ok (.goto (-34), 3) := by decide +kernel
theorem dX2_partOf_93 : decode cX2_partOf 93 = .ok (.iload 4, 2) := by decide +kernel
theorem dX2_partOf_95 : decode cX2_partOf 95 = .ok (.iload 7, 2) := by decide +kernel
theorem dX2_partOf_97 : decode cX2_partOf 97 = .ok (.iadd, 1) := by decide +kernel
theorem dX2_partOf_98 : decode cX2_partOf 98 = .ok (.iload 8, 2) := by decide +kernel
theorem dX2_partOf_100 : decode cX2_partOf 100 = .ok (.iadd, 1) := by decide +kernel
theorem dX2_partOf_101 : decode cX2_partOf 101 = .ok (.ireturn, 1) := by decide +kernel
theorem dX2_byShares_0 : decode cX2_byShares 0 = .ok (.aload_n 0, 1) := by decide +kernel
theorem dX2_byShares_1 : decode cX2_byShares 1 = .ok (.getfield 15, 3) := by decide +kernel
theorem dX2_byShares_4 : decode cX2_byShares 4 = .ok (.getfield 81, 3) := by decide +kernel
theorem dX2_byShares_7 : decode cX2_byShares 7 = .ok (.iload_n 1, 1) := by decide +kernel
theorem dX2_byShares_8 : decode cX2_byShares 8 = .ok (.iconst 3, 1) := by decide +kernel
theorem dX2_byShares_9 : decode cX2_byShares 9 = .ok (.iload_n 2, 1) := by decide +kernel
theorem dX2_byShares_10 : decode cX2_byShares 10 = .ok (.iadd, 1) := by decide +kernel
theorem dX2_byShares_11 : decode cX2_byShares 11 = .ok (.invokevirtual 29, 3) := by decide +kernel
theorem dX2_byShares_14 : decode cX2_byShares 14 = .ok (.i2l, 1) := by decide +kernel
theorem dX2_byShares_15 : decode cX2_byShares 15 = .ok (.lstore 5, 2) := by decide +kernel
theorem dX2_byShares_17 : decode cX2_byShares 17 = .ok (.iload 4, 2) := by decide +kernel
theorem dX2_byShares_19 : decode cX2_byShares 19 = .ok (.ifCond .le 16, 3) := by decide +kernel
theorem dX2_byShares_22 : decode cX2_byShares 22 = .ok (.iload_n 3, 1) := by decide +kernel
theorem dX2_byShares_23 : decode cX2_byShares 23 = .ok (.i2l, 1) := by decide +kernel
theorem dX2_byShares_24 : decode cX2_byShares 24 = .ok (.lload 5, 2) := by decide +kernel
theorem dX2_byShares_26 : decode cX2_byShares 26 = .ok (.lmul, 1) := by decide +kernel
theorem dX2_byShares_27 : decode cX2_byShares 27 = .ok (.iload 4, 2) := by decide +kernel
theorem dX2_byShares_29 : decode cX2_byShares 29 = .ok (.i2l, 1) := by decide +kernel
theorem dX2_byShares_30 : decode cX2_byShares 30 = .ok (.ldiv, 1) := by decide +kernel
theorem dX2_byShares_31 : decode cX2_byShares 31 = .ok (.l2i, 1) := by decide +kernel
theorem dX2_byShares_32 : decode cX2_byShares 32 = .ok (.goto 4, 3) := by decide +kernel
theorem dX2_byShares_35 : decode cX2_byShares 35 = .ok (.iconst 0, 1) := by decide +kernel
theorem dX2_byShares_36 : decode cX2_byShares 36 = .ok (.ireturn, 1) := by decide +kernel
theorem dX3_init_0 : decode cX3_init 0 = .ok (.aload_n 0, 1) := by decide +kernel
theorem dX3_init_1 : decode cX3_init 1 = .ok (.invokespecial 3, 3) := by decide +kernel
theorem dX3_init_4 : decode cX3_init 4 = .ok (.aload_n 0, 1) := by decide +kernel
theorem dX3_init_5 : decode cX3_init 5 = .ok (.bipush 10, 2) := by decide +kernel
theorem dX3_init_7 : decode cX3_init 7 = .ok (.newarray .int, 2) := by decide +kernel
theorem dX3_init_9 : decode cX3_init 9 = .ok (.putfield 9, 3) := by decide +kernel
theorem dX3_init_12 : decode cX3_init 12 = .ok (.aload_n 0, 1) := by decide +kernel
theorem dX3_init_13 : decode cX3_init 13 = .ok (.bipush 10, 2) := by decide +kernel
theorem dX3_init_15 : decode cX3_init 15 = .ok (.newarray .int, 2) := by decide +kernel
theorem dX3_init_17 : decode cX3_init 17 = .ok (.putfield 15, 3) := by decide +kernel
theorem dX3_init_20 : decode cX3_init 20 = .ok (.aload_n 0, 1) := by decide +kernel
theorem dX3_init_21 : decode cX3_init 21 = .ok (.bipush 10, 2) := by decide +kernel
theorem dX3_init_23 : decode cX3_init 23 = .ok (.newarray .int, 2) := by decide +kernel
theorem dX3_init_25 : decode cX3_init 25 = .ok (.putfield 18, 3) := by decide +kernel
theorem dX3_init_28 : decode cX3_init 28 = .ok (.aload_n 0, 1) := by decide +kernel
theorem dX3_init_29 : decode cX3_init 29 = .ok (.aload_n 1, 1) := by decide +kernel
theorem dX3_init_30 : decode cX3_init 30 = .ok (.putfield 21, 3) := by decide +kernel
theorem dX3_init_33 : decode cX3_init 33 = .ok (.return_, 1) := by decide +kernel
theorem dX3_tellApart_0 : decode cX3_tellApart 0 = .ok (.aload_n 0, 1) := by decide +kernel
theorem dX3_tellApart_1 : decode cX3_tellApart 1 = .ok (.invokevirtual 25, 3) := by decide +kernel
theorem dX3_tellApart_4 : decode cX3_tellApart 4 = .ok (.iconst 0, 1) := by decide +kernel
theorem dX3_tellApart_5 : decode cX3_tellApart 5 = .ok (.istore_n 1, 1) := by decide +kernel
theorem dX3_tellApart_6 : decode cX3_tellApart 6 = .ok (.iload_n 1, 1) := by decide +kernel
theorem dX3_tellApart_7 : decode cX3_tellApart 7 = .ok (.bipush 10, 2) := by decide +kernel
theorem dX3_tellApart_9 : decode cX3_tellApart 9 = .ok (.if_icmp .gt 28, 3) := by decide +kernel
theorem dX3_tellApart_12 : decode cX3_tellApart 12 = .ok (.aload_n 0, 1) := by decide +kernel
theorem dX3_tellApart_13 : decode cX3_tellApart 13 = .ok (.getfield 15, 3) := by decide +kernel
theorem dX3_tellApart_16 : decode cX3_tellApart 16 = .ok (.iconst 0, 1) := by decide +kernel
theorem dX3_tellApart_17 : decode cX3_tellApart 17 = .ok (.invokestatic 28, 3) := by decide +kernel
theorem dX3_tellApart_20 : decode cX3_tellApart 20 = .ok (.aload_n 0, 1) := by decide +kernel
theorem dX3_tellApart_21 : decode cX3_tellApart 21 = .ok (.iconst 0, 1) := by decide +kernel
theorem dX3_tellApart_22 : decode cX3_tellApart 22 = .ok (.iload_n 1, 1) := by decide +kernel
theorem dX3_tellApart_23 : decode cX3_tellApart 23 = .ok (.invokevirtual 34, 3) := by decide +kernel
theorem dX3_tellApart_26 : decode cX3_tellApart 26 = .ok (.ifCond .eq 5, 3) := by decide +kernel
theorem dX3_tellApart_29 : decode cX3_tellApart 29 = .ok (.iload_n 1, 1) := by decide +kernel
theorem dX3_tellApart_30 : decode cX3_tellApart 30 = .ok (.ireturn, 1) := by decide +kernel
theorem dX3_tellApart_31 : decode cX3_tellApart 31 = .ok (.iinc 1 1, 3) := by decide +kernel
theorem dX3_tellApart_34 : decode cX3_tellApart 34 = .ok (.goto (-28), 3) := by decide +kernel
theorem dX3_tellApart_37 : decode cX3_tellApart 37 = .ok (.bipush 10, 2) := by decide +kernel
theorem dX3_tellApart_39 : decode cX3_tellApart 39 = .ok (.ireturn, 1) := by decide +kernel
theorem dX3_leastOf_0 : decode cX3_leastOf 0 = .ok (.iload_n 1, 1) := by decide +kernel
theorem dX3_leastOf_1 : decode cX3_leastOf 1 = .ok (.ifCond .lt 21, 3) := by decide +kernel
theorem dX3_leastOf_4 : decode cX3_leastOf 4 = .ok (.iload_n 1, 1) := by decide +kernel
theorem dX3_leastOf_5 : decode cX3_leastOf 5 = .ok (.aload_n 0, 1) := by decide +kernel
theorem dX3_leastOf_6 : decode cX3_leastOf 6 = .ok (.getfield 18, 3) := by decide +kernel
theorem dX3_leastOf_9 : decode cX3_leastOf 9 = .ok (.arraylength, 1) := by decide +kernel
theorem dX3_leastOf_10 : decode cX3_leastOf 10 = .ok (.if_icmp .ge 12, 3) := by decide +kernel
theorem dX3_leastOf_13 : decode cX3_leastOf 13 = .ok (.aload_n 0, 1) := by decide +kernel
theorem dX3_leastOf_14 : decode cX3_leastOf 14 = .ok (.getfield 18, 3) := by decide +kernel
theorem dX3_leastOf_17 : decode cX3_leastOf 17 = .ok (.iload_n 1, 1) := by decide +kernel
theorem dX3_leastOf_18 : decode cX3_leastOf 18 = .ok (.iaload, 1) := by decide +kernel
theorem dX3_leastOf_19 : decode cX3_leastOf 19 = .ok (.goto 4, 3) := by decide +kernel
theorem dX3_leastOf_22 : decode cX3_leastOf 22 = .ok (.iconst (-1), 1) := by decide +kernel
theorem dX3_leastOf_23 : decode cX3_leastOf 23 = .ok (.ireturn, 1) := by decide +kernel
theorem dX3_compare_0 : decode cX3_compare 0 = .ok (.iconst 0, 1) := by decide +kernel
theorem dX3_compare_1 : decode cX3_compare 1 = .ok (.istore_n 1, 1) := by decide +kernel
theorem dX3_compare_2 : decode cX3_compare 2 = .ok (.iload_n 1, 1) := by decide +kernel
theorem dX3_compare_3 : decode cX3_compare 3 = .ok (.aload_n 0, 1) := by decide +kernel
theorem dX3_compare_4 : decode cX3_compare 4 = .ok (.getfield 9, 3) := by decide +kernel
theorem dX3_compare_7 : decode cX3_compare 7 = .ok (.arraylength, 1) := by decide +kernel
theorem dX3_compare_8 : decode cX3_compare 8 = .ok (.if_icmp .ge 63, 3) := by decide +kernel
theorem dX3_compare_11 : decode cX3_compare 11 = .ok (.aload_n 0, 1) := by decide +kernel
theorem dX3_compare_12 : decode cX3_compare 12 = .ok (.getfield 9, 3) := by decide +kernel
theorem dX3_compare_15 : decode cX3_compare 15 = .ok (.iload_n 1, 1) := by decide +kernel
theorem dX3_compare_16 : decode cX3_compare 16 = .ok (.iconst 0, 1) := by decide +kernel
theorem dX3_compare_17 : decode cX3_compare 17 = .ok (.iastore, 1) := by decide +kernel
theorem dX3_compare_18 : decode cX3_compare 18 = .ok (.iconst 0, 1) := by decide +kernel
theorem dX3_compare_19 : decode cX3_compare 19 = .ok (.istore_n 2, 1) := by decide +kernel
theorem dX3_compare_20 : decode cX3_compare 20 = .ok (.iload_n 2, 1) := by decide +kernel
theorem dX3_compare_21 : decode cX3_compare 21 = .ok (.aload_n 0, 1) := by decide +kernel
theorem dX3_compare_22 : decode cX3_compare 22 = .ok (.getfield 21, 3) := by decide +kernel
theorem dX3_compare_25 : decode cX3_compare 25 = .ok (.getfield 38, 3) := by decide +kernel
theorem dX3_compare_28 : decode cX3_compare 28 = .ok (.getfield 44, 3) := by decide +kernel
theorem dX3_compare_31 : decode cX3_compare 31 = .ok (.if_icmp .ge 34, 3) := by decide +kernel
theorem dX3_compare_34 : decode cX3_compare 34 = .ok (.aload_n 0, 1) := by decide +kernel
theorem dX3_compare_35 : decode cX3_compare 35 = .ok (.getfield 9, 3) := by decide +kernel
theorem dX3_compare_38 : decode cX3_compare 38 = .ok (.iload_n 1, 1) := by decide +kernel
theorem dX3_compare_39 : decode cX3_compare 39 = .ok (.dup2, 1) := by decide +kernel
theorem dX3_compare_40 : decode cX3_compare 40 = .ok (.iaload, 1) := by decide +kernel
theorem dX3_compare_41 : decode cX3_compare 41 = .ok (.aload_n 0, 1) := by decide +kernel
theorem dX3_compare_42 : decode cX3_compare 42 = .ok (.iload_n 1, 1) := by decide +kernel
theorem dX3_compare_43 : decode cX3_compare 43 = .ok (.iload_n 2, 1) := by decide +kernel
theorem dX3_compare_44 : decode cX3_compare 44 = .ok (.invokevirtual 50, 3) := by decide +kernel
theorem dX3_compare_47 : decode cX3_compare 47 = .ok (.ifCond .eq 9, 3) := by decide +kernel
theorem dX3_compare_50 : decode cX3_compare 50 = .ok (.iconst 1, 1) := by decide +kernel
theorem dX3_compare_51 : decode cX3_compare 51 = .ok (.iload_n 2, 1) := by decide +kernel
theorem dX3_compare_52 : decode cX3_compare 52 = .ok (.ishl, 1) := by decide +kernel
theorem dX3_compare_53 : decode cX3_compare 53 = .ok (.goto 4, 3) := by decide +kernel
theorem dX3_compare_56 : decode cX3_compare 56 = .ok (.iconst 0, 1) := by decide +kernel
theorem dX3_compare_57 : decode cX3_compare 57 = .ok (.ior, 1) := by decide +kernel
theorem dX3_compare_58 : decode cX3_compare 58 = .ok (.iastore, 1) := by decide +kernel
theorem dX3_compare_59 : decode cX3_compare 59 = .ok (.iinc 2 1, 3) := by decide +kernel
theorem dX3_compare_62 : decode cX3_compare 62 = .ok (.goto (-42), 3) := by decide +kernel
theorem dX3_compare_65 : decode cX3_compare 65 = .ok (.iinc 1 1, 3) := by decide +kernel
theorem dX3_compare_68 : decode cX3_compare 68 = .ok (.goto (-66), 3) := by decide +kernel
theorem dX3_compare_71 : decode cX3_compare 71 = .ok (.return_, 1) := by decide +kernel
theorem dX3_isOneMan_0 : decode cX3_isOneMan 0 = .ok (.aload_n 0, 1) := by decide +kernel
theorem dX3_isOneMan_1 : decode cX3_isOneMan 1 = .ok (.getfield 21, 3) := by decide +kernel
theorem dX3_isOneMan_4 : decode cX3_isOneMan 4 = .ok (.getfield 38, 3) := by decide +kernel
theorem dX3_isOneMan_7 : decode cX3_isOneMan 7 = .ok (.iload_n 1, 1) := by decide +kernel
theorem dX3_isOneMan_8 : decode cX3_isOneMan 8 = .ok (.iconst 2, 1) := by decide +kernel
theorem dX3_isOneMan_9 : decode cX3_isOneMan 9 = .ok (.invokevirtual 53, 3) := by decide +kernel
theorem dX3_isOneMan_12 : decode cX3_isOneMan 12 = .ok (.aload_n 0, 1) := by decide +kernel
theorem dX3_isOneMan_13 : decode cX3_isOneMan 13 = .ok (.getfield 21, 3) := by decide +kernel
theorem dX3_isOneMan_16 : decode cX3_isOneMan 16 = .ok (.getfield 38, 3) := by decide +kernel
theorem dX3_isOneMan_19 : decode cX3_isOneMan 19 = .ok (.iload_n 2, 1) := by decide +kernel
theorem dX3_isOneMan_20 : decode cX3_isOneMan 20 = .ok (.iconst 2, 1) := by decide +kernel
theorem dX3_isOneMan_21 : decode cX3_isOneMan 21 = .ok (.invokevirtual 53, 3) := by decide +kernel
theorem dX3_isOneMan_24 : decode cX3_isOneMan 24 = .ok (.isub, 1) := by decide +kernel
theorem dX3_isOneMan_25 : decode cX3_isOneMan 25 = .ok (.istore_n 3, 1) := by decide +kernel
theorem dX3_isOneMan_26 : decode cX3_isOneMan 26 = .ok (.aload_n 0, 1) := by decide +kernel
theorem dX3_isOneMan_27 : decode cX3_isOneMan 27 = .ok (.iload_n 1, 1) := by decide +kernel
theorem dX3_isOneMan_28 : decode cX3_isOneMan 28 = .ok (.iload_n 2, 1) := by decide +kernel
theorem dX3_isOneMan_29 : decode cX3_isOneMan 29 = .ok (.iconst 0, 1) := by decide +kernel
theorem dX3_isOneMan_30 : decode cX3_isOneMan 30 = .ok (.invokevirtual 57, 3) := by decide +kernel
theorem dX3_isOneMan_33 : decode cX3_isOneMan 33 = .ok (.ifCond .eq 26, 3) := by decide +kernel
theorem dX3_isOneMan_36 : decode cX3_isOneMan 36 = .ok (.aload_n 0, 1) := by decide +kernel
theorem dX3_isOneMan_37 : decode cX3_isOneMan 37 = .ok (.iload_n 1, 1) := by decide +kernel
theorem dX3_isOneMan_38 : decode cX3_isOneMan 38 = .ok (.iload_n 2, 1) := by decide +kernel
theorem dX3_isOneMan_39 : decode cX3_isOneMan 39 = .ok (.iconst 1, 1) := by decide +kernel
theorem dX3_isOneMan_40 : decode cX3_isOneMan 40 = .ok (.invokevirtual 57, 3) := by decide +kernel
theorem dX3_isOneMan_43 : decode cX3_isOneMan 43 = .ok (.ifCond .eq 16, 3) := by decide +kernel
theorem dX3_isOneMan_46 : decode cX3_isOneMan 46 = .ok (.iload_n 3, 1) := by decide +kernel
theorem dX3_isOneMan_47 : decode cX3_isOneMan 47 = .ok (.invokestatic 61, 3) := by decide +kernel
theorem dX3_isOneMan_50 : decode cX3_isOneMan 50 = .ok (.bipush 40, 2) := by decide +kernel
theorem dX3_isOneMan_52 : decode cX3_isOneMan 52 = .ok (.if_icmp .gt 7, 3) := by decide +kernel
theorem dX3_isOneMan_55 : decode cX3_isOneMan 55 = .ok (.iconst 1, 1) := by decide +kernel
theorem dX3_isOneMan_56 : decode cX3_isOneMan 56 = .ok (.goto 4, 3) := by decide +kernel
theorem dX3_isOneMan_59 : decode cX3_isOneMan 59 = .ok (.iconst 0, 1) := by decide +kernel
theorem dX3_isOneMan_60 : decode cX3_isOneMan 60 = .ok (.ireturn, 1) := by decide +kernel
theorem dX3_agree_0 : decode cX3_agree 0 = .ok (.aload_n 0, 1) := by decide +kernel
theorem dX3_agree_1 : decode cX3_agree 1 = .ok (.getfield 21, 3) := by decide +kernel
theorem dX3_agree_4 : decode cX3_agree 4 = .ok (.getfield 38, 3) := by decide +kernel
theorem dX3_agree_7 : decode cX3_agree 7 = .ok (.iload_n 1, 1) := by decide +kernel
theorem dX3_agree_8 : decode cX3_agree 8 = .ok (.iload_n 3, 1) := by decide +kernel
theorem dX3_agree_9 : decode cX3_agree 9 = .ok (.invokevirtual 53, 3) := by decide +kernel
theorem dX3_agree_12 : decode cX3_agree 12 = .ok (.istore 4, 2) := by decide +kernel
theorem dX3_agree_14 : decode cX3_agree 14 = .ok (.aload_n 0, 1) := by decide +kernel
theorem dX3_agree_15 : decode cX3_agree 15 = .ok (.getfield 21, 3) := by decide +kernel
theorem dX3_agree_18 : decode cX3_agree 18 = .ok (.getfield 38, 3) := by decide +kernel
theorem dX3_agree_21 : decode cX3_agree 21 = .ok (.iload_n 2, 1) := by decide +kernel
theorem dX3_agree_22 : decode cX3_agree 22 = .ok (.iload_n 3, 1) := by decide +kernel
theorem dX3_agree_23 : decode cX3_agree 23 = .ok (.invokevirtual 53, 3) := by decide +kernel
theorem dX3_agree_26 : decode cX3_agree 26 = .ok (.istore 5, 2) := by decide +kernel
theorem dX3_agree_28 : decode cX3_agree 28 = .ok (.iload 4, 2) := by decide +kernel
theorem dX3_agree_30 : decode cX3_agree 30 = .ok (.iconst (-1), 1) := by decide +kernel
theorem dX3_agree_31 : decode cX3_agree 31 = .ok (.if_icmp .eq 16, 3) := by decide +kernel
theorem dX3_agree_34 : decode cX3_agree 34 = .ok (.iload 5, 2) := by decide +kernel
theorem dX3_agree_36 : decode cX3_agree 36 = .ok (.iconst (-1), 1) := by decide +kernel
theorem dX3_agree_37 : decode cX3_agree 37 = .ok (.if_icmp .eq 10, 3) := by decide +kernel
theorem dX3_agree_40 : decode cX3_agree 40 = .ok (.iload 4, 2) := by decide +kernel
theorem dX3_agree_42 : decode cX3_agree 42 = .ok (.iload 5, 2) := by decide +kernel
theorem dX3_agree_44 : decode cX3_agree 44 = .ok (.if_icmp .ne 7, 3) := by decide +kernel
theorem dX3_agree_47 : decode cX3_agree 47 = .ok (.iconst 1, 1) := by decide +kernel
theorem dX3_agree_48 : decode cX3_agree 48 = .ok (.goto 4, 3) := by decide +kernel
theorem dX3_agree_51 : decode cX3_agree 51 = .ok (.iconst 0, 1) := by decide +kernel
theorem dX3_agree_52 : decode cX3_agree 52 = .ok (.ireturn, 1) := by decide +kernel
theorem dX3_settle_0 : decode cX3_settle 0 = .ok (.iload_n 1, 1) := by decide +kernel
theorem dX3_settle_1 : decode cX3_settle 1 = .ok (.aload_n 0, 1) := by decide +kernel
theorem dX3_settle_2 : decode cX3_settle 2 = .ok (.getfield 21, 3) := by decide +kernel
theorem dX3_settle_5 : decode cX3_settle 5 = .ok (.getfield 38, 3) := by decide +kernel
theorem dX3_settle_8 : decode cX3_settle 8 = .ok (.getfield 44, 3) := by decide +kernel
theorem dX3_settle_11 : decode cX3_settle 11 = .ok (.if_icmp .ge 21, 3) := by decide +kernel
theorem dX3_settle_14 : decode cX3_settle 14 = .ok (.iload_n 1, 1) := by decide +kernel
theorem dX3_settle_15 : decode cX3_settle 15 = .ok (.aload_n 0, 1) := by decide +kernel
theorem dX3_settle_16 : decode cX3_settle 16 = .ok (.getfield 15, 3) := by decide +kernel
theorem dX3_settle_19 : decode cX3_settle 19 = .ok (.arraylength, 1) := by decide +kernel
theorem dX3_settle_20 : decode cX3_settle 20 = .ok (.if_icmp .ge 12, 3) := by decide +kernel
theorem dX3_settle_23 : decode cX3_settle 23 = .ok (.iload_n 1, 1) := by decide +kernel
theorem dX3_settle_24 : decode cX3_settle 24 = .ok (.aload_n 0, 1) := by decide +kernel
theorem dX3_settle_25 : decode cX3_settle 25 = .ok (.getfield 18, 3) := by decide +kernel
theorem dX3_settle_28 : decode cX3_settle 28 = .ok (.arraylength, 1) := by decide +kernel
theorem dX3_settle_29 : decode cX3_settle 29 = .ok (.if_icmp .lt 5, 3) := by decide +kernel
theorem dX3_settle_32 : decode cX3_settle 32 = .ok (.iconst 1, 1) := by decide +kernel
theorem dX3_settle_33 : decode cX3_settle 33 = .ok (.ireturn, 1) := by decide +kernel
theorem dX3_settle_34 : decode cX3_settle 34 = .ok (.iload_n 1, 1) := by decide +kernel
theorem dX3_settle_35 : decode cX3_settle 35 = .ok (.ifCond .lt 7, 3) := by decide +kernel
theorem dX3_settle_38 : decode cX3_settle 38 = .ok (.iload_n 2, 1) := by decide +kernel
theorem dX3_settle_39 : decode cX3_settle 39 = .ok (.ifCond .ge 5, 3) := by decide +kernel
theorem dX3_settle_42 : decode cX3_settle 42 = .ok (.iconst 0, 1) := by decide +kernel
theorem dX3_settle_43 : decode cX3_settle 43 = .ok (.ireturn, 1) := by decide +kernel
theorem dX3_settle_44 : decode cX3_settle 44 = .ok (.iconst 0, 1) := by decide +kernel
theorem dX3_settle_45 : decode cX3_settle 45 = .ok (.istore_n 3, 1) := by decide +kernel
theorem dX3_settle_46 : decode cX3_settle 46 = .ok (.iload_n 3, 1) := by decide +kernel
theorem dX3_settle_47 : decode cX3_settle 47 = .ok (.iload_n 1, 1) := by decide +kernel
theorem dX3_settle_48 : decode cX3_settle 48 = .ok (.if_icmp .ge 30, 3) := by decide +kernel
theorem dX3_settle_51 : decode cX3_settle 51 = .ok (.aload_n 0, 1) := by decide +kernel
theorem dX3_settle_52 : decode cX3_settle 52 = .ok (.iload_n 1, 1) := by decide +kernel
theorem dX3_settle_53 : decode cX3_settle 53 = .ok (.iload_n 3, 1) := by decide +kernel
theorem dX3_settle_54 : decode cX3_settle 54 = .ok (.invokevirtual 67, 3) := by decide +kernel
theorem dX3_settle_57 : decode cX3_settle 57 = .ok (.ifCond .eq 15, 3) := by decide +kernel
theorem dX3_settle_60 : decode cX3_settle 60 = .ok (.aload_n 0, 1) := by decide +kernel
theorem dX3_settle_61 : decode cX3_settle 61 = .ok (.iload_n 1, 1) := by decide +kernel
theorem dX3_settle_62 : decode cX3_settle 62 = .ok (.iload_n 3, 1) := by decide +kernel
theorem dX3_settle_63 : decode cX3_settle 63 = .ok (.iload_n 2, 1) := by decide +kernel
theorem dX3_settle_64 : decode cX3_settle 64 = .ok (.invokevirtual 70, 3) := by decide +kernel
theorem dX3_settle_67 : decode cX3_settle 67 = .ok (.ifCond .eq 5, 3) := by decide +kernel
theorem dX3_settle_70 : decode cX3_settle 70 = .ok (.iconst 1, 1) := by decide +kernel
theorem dX3_settle_71 : decode cX3_settle 71 = .ok (.ireturn, 1) := by decide +kernel
theorem dX3_settle_72 : decode cX3_settle 72 = .ok (.iinc 3 1, 3) := by decide +kernel
theorem dX3_settle_75 : decode cX3_settle 75 = .ok (.goto (-29), 3) := by decide +kernel
theorem dX3_settle_78 : decode cX3_settle 78 = .ok (.iload_n 2, 1) := by decide +kernel
theorem dX3_settle_79 : decode cX3_settle 79 = .ok (.ifCond .le 19, 3) := by decide +kernel
theorem dX3_settle_82 : decode cX3_settle 82 = .ok (.aload_n 0, 1) := by decide +kernel
theorem dX3_settle_83 : decode cX3_settle 83 = .ok (.iload_n 1, 1) := by decide +kernel
theorem dX3_settle_84 : decode cX3_settle 84 = .ok (.iload_n 1, 1) := by decide +kernel
theorem dX3_settle_85 : decode cX3_settle 85 = .ok (.iload_n 2, 1) := by decide +kernel
theorem dX3_settle_86 : decode cX3_settle 86 = .ok (.iconst 1, 1) := by decide +kernel
theorem dX3_settle_87 : decode cX3_settle 87 = .ok (.isub, 1) := by decide +kernel
theorem dX3_settle_88 : decode cX3_settle 88 = .ok (.invokevirtual 70, 3) := by decide +kernel
theorem dX3_settle_91 : decode cX3_settle 91 = .ok (.ifCond .eq 7, 3) := by decide +kernel
theorem dX3_settle_94 : decode cX3_settle 94 = .ok (.iconst 1, 1) := by decide +kernel
theorem dX3_settle_95 : decode cX3_settle 95 = .ok (.goto 4, 3) := by decide +kernel
theorem dX3_settle_98 : decode cX3_settle 98 = .ok (.iconst 0, 1) := by decide +kernel
theorem dX3_settle_99 : decode cX3_settle 99 = .ok (.ireturn, 1) := by decide +kernel
theorem dX3_mayJoin_0 : decode cX3_mayJoin 0 = .ok (.iload_n 2, 1) := by decide +kernel
theorem dX3_mayJoin_1 : decode cX3_mayJoin 1 = .ok (.ifCond .lt 25, 3) := by decide +kernel
theorem dX3_mayJoin_4 : decode cX3_mayJoin 4 = .ok (.iload_n 2, 1) := by decide +kernel
theorem dX3_mayJoin_5 : decode cX3_mayJoin 5 = .ok (.aload_n 0, 1) := by decide +kernel
theorem dX3_mayJoin_6 : decode cX3_mayJoin 6 = .ok (.getfield 15, 3) := by decide +kernel
theorem dX3_mayJoin_9 : decode cX3_mayJoin 9 = .ok (.arraylength, 1) := by decide +kernel
theorem dX3_mayJoin_10 : decode cX3_mayJoin 10 = .ok (.if_icmp .ge 16, 3) := by decide +kernel
theorem dX3_mayJoin_13 : decode cX3_mayJoin 13 = .ok (.iload_n 1, 1) := by decide +kernel
theorem dX3_mayJoin_14 : decode cX3_mayJoin 14 = .ok (.ifCond .lt 12, 3) := by decide +kernel
theorem dX3_mayJoin_17 : decode cX3_mayJoin 17 = .ok (.iload_n 1, 1) := by decide +kernel
theorem dX3_mayJoin_18 : decode cX3_mayJoin 18 = .ok (.aload_n 0, 1) := by decide +kernel
theorem dX3_mayJoin_19 : decode cX3_mayJoin 19 = .ok (.getfield 9, 3) := by decide +kernel
theorem dX3_mayJoin_22 : decode cX3_mayJoin 22 = .ok (.arraylength, 1) := by decide +kernel
theorem dX3_mayJoin_23 : decode cX3_mayJoin 23 = .ok (.if_icmp .lt 5, 3) := by decide +kernel
theorem dX3_mayJoin_26 : decode cX3_mayJoin 26 = .ok (.iconst 0, 1) := by decide +kernel
theorem dX3_mayJoin_27 : decode cX3_mayJoin 27 = .ok (.ireturn, 1) := by decide +kernel
theorem dX3_mayJoin_28 : decode cX3_mayJoin 28 = .ok (.aload_n 0, 1) := by decide +kernel
theorem dX3_mayJoin_29 : decode cX3_mayJoin 29 = .ok (.getfield 15, 3) := by decide +kernel
theorem dX3_mayJoin_32 : decode cX3_mayJoin 32 = .ok (.iload_n 2, 1) := by decide +kernel
theorem dX3_mayJoin_33 : decode cX3_mayJoin 33 = .ok (.iaload, 1) := by decide +kernel
theorem dX3_mayJoin_34 : decode cX3_mayJoin 34 = .ok (.ifCond .eq 25, 3) := by decide +kernel
theorem dX3_mayJoin_37 : decode cX3_mayJoin 37 = .ok (.aload_n 0, 1) := by decide +kernel
theorem dX3_mayJoin_38 : decode cX3_mayJoin 38 = .ok (.getfield 15, 3) := by decide +kernel
theorem dX3_mayJoin_41 : decode cX3_mayJoin 41 = .ok (.iload_n 2, 1) := by decide +kernel
theorem dX3_mayJoin_42 : decode cX3_mayJoin 42 = .ok (.iaload, 1) := by decide +kernel
theorem dX3_mayJoin_43 : decode cX3_mayJoin 43 = .ok (.aload_n 0, 1) := by decide +kernel
theorem dX3_mayJoin_44 : decode cX3_mayJoin 44 = .ok (.getfield 9, 3) := by decide +kernel
theorem dX3_mayJoin_47 : decode cX3_mayJoin 47 = .ok (.iload_n 1, 1) := by decide +kernel
theorem dX3_mayJoin_48 : decode cX3_mayJoin 48 = .ok (.iaload, 1) := by decide +kernel
theorem dX3_mayJoin_49 : decode cX3_mayJoin 49 = .ok (.iconst (-1), 1) := by decide +kernel
theorem dX3_mayJoin_50 : decode cX3_mayJoin 50 = .ok (.ixor, 1) := by decide +kernel
theorem dX3_mayJoin_51 : decode cX3_mayJoin 51 = .ok (.iand, 1) := by decide +kernel
theorem dX3_mayJoin_52 : decode cX3_mayJoin 52 = .ok (.ifCond .ne 7, 3) := by decide +kernel
theorem dX3_mayJoin_55 : decode cX3_mayJoin 55 = .ok (.iconst 1, 1) := by decide +kernel
theorem dX3_mayJoin_56 : decode cX3_mayJoin 56 = .ok (.goto 4, 3) := by decide +kernel
theorem dX3_mayJoin_59 : decode cX3_mayJoin 59 = .ok (.iconst 0, 1) := by decide +kernel
theorem dX3_mayJoin_60 : decode cX3_mayJoin 60 = .ok (.ireturn, 1) := by decide +kernel
theorem dX3_joins_0 : decode cX3_joins 0 = .ok (.iload_n 2, 1) := by decide +kernel
theorem dX3_joins_1 : decode cX3_joins 1 = .ok (.ifCond .lt 25, 3) := by decide +kernel
theorem dX3_joins_4 : decode cX3_joins 4 = .ok (.iload_n 2, 1) := by decide +kernel
theorem dX3_joins_5 : decode cX3_joins 5 = .ok (.aload_n 0, 1) := by decide +kernel
theorem dX3_joins_6 : decode cX3_joins 6 = .ok (.getfield 15, 3) := by decide +kernel
theorem dX3_joins_9 : decode cX3_joins 9 = .ok (.arraylength, 1) := by decide +kernel
theorem dX3_joins_10 : decode cX3_joins 10 = .ok (.if_icmp .ge 16, 3) := by decide +kernel
theorem dX3_joins_13 : decode cX3_joins 13 = .ok (.iload_n 1, 1) := by decide +kernel
theorem dX3_joins_14 : decode cX3_joins 14 = .ok (.ifCond .lt 12, 3) := by decide +kernel
theorem dX3_joins_17 : decode cX3_joins 17 = .ok (.iload_n 1, 1) := by decide +kernel
theorem dX3_joins_18 : decode cX3_joins 18 = .ok (.aload_n 0, 1) := by decide +kernel
theorem dX3_joins_19 : decode cX3_joins 19 = .ok (.getfield 18, 3) := by decide +kernel
theorem dX3_joins_22 : decode cX3_joins 22 = .ok (.arraylength, 1) := by decide +kernel
theorem dX3_joins_23 : decode cX3_joins 23 = .ok (.if_icmp .lt 5, 3) := by decide +kernel
theorem dX3_joins_26 : decode cX3_joins 26 = .ok (.iconst 0, 1) := by decide +kernel
theorem dX3_joins_27 : decode cX3_joins 27 = .ok (.ireturn, 1) := by decide +kernel
theorem dX3_joins_28 : decode cX3_joins 28 = .ok (.aload_n 0, 1) := by decide +kernel
theorem dX3_joins_29 : decode cX3_joins 29 = .ok (.getfield 15, 3) := by decide +kernel
theorem dX3_joins_32 : decode cX3_joins 32 = .ok (.iload_n 2, 1) := by decide +kernel
theorem dX3_joins_33 : decode cX3_joins 33 = .ok (.dup2, 1) := by decide +kernel
theorem dX3_joins_34 : decode cX3_joins 34 = .ok (.iaload, 1) := by decide +kernel
theorem dX3_joins_35 : decode cX3_joins 35 = .ok (.iconst 1, 1) := by decide +kernel
theorem dX3_joins_36 : decode cX3_joins 36 = .ok (.iload_n 1, 1) := by decide +kernel
theorem dX3_joins_37 : decode cX3_joins 37 = .ok (.ishl, 1) := by decide +kernel
theorem dX3_joins_38 : decode cX3_joins 38 = .ok (.ior, 1) := by decide +kernel
theorem dX3_joins_39 : decode cX3_joins 39 = .ok (.iastore, 1) := by decide +kernel
theorem dX3_joins_40 : decode cX3_joins 40 = .ok (.aload_n 0, 1) := by decide +kernel
theorem dX3_joins_41 : decode cX3_joins 41 = .ok (.getfield 18, 3) := by decide +kernel
theorem dX3_joins_44 : decode cX3_joins 44 = .ok (.iload_n 1, 1) := by decide +kernel
theorem dX3_joins_45 : decode cX3_joins 45 = .ok (.iload_n 2, 1) := by decide +kernel
theorem dX3_joins_46 : decode cX3_joins 46 = .ok (.iastore, 1) := by decide +kernel
theorem dX3_joins_47 : decode cX3_joins 47 = .ok (.aload_n 0, 1) := by decide +kernel
theorem dX3_joins_48 : decode cX3_joins 48 = .ok (.iload_n 1, 1) := by decide +kernel
theorem dX3_joins_49 : decode cX3_joins 49 = .ok (.iconst 1, 1) := by decide +kernel
theorem dX3_joins_50 : decode cX3_joins 50 = .ok (.iadd, 1) := by decide +kernel
theorem dX3_joins_51 : decode cX3_joins 51 = .ok (.iload_n 3, 1) := by decide +kernel
theorem dX3_joins_52 : decode cX3_joins 52 = .ok (.invokevirtual 34, 3) := by decide +kernel
theorem dX3_joins_55 : decode cX3_joins 55 = .ok (.ifCond .eq 5, 3) := by decide +kernel
theorem dX3_joins_58 : decode cX3_joins 58 = .ok (.iconst 1, 1) := by decide +kernel
theorem dX3_joins_59 : decode cX3_joins 59 = .ok (.ireturn, 1) := by decide +kernel
theorem dX3_joins_60 : decode cX3_joins 60 = .ok (.aload_n 0, 1) := by decide +kernel
theorem dX3_joins_61 : decode cX3_joins 61 = .ok (.getfield 15, 3) := by decide +kernel
theorem dX3_joins_64 : decode cX3_joins 64 = .ok (.iload_n 2, 1) := by decide +kernel
theorem dX3_joins_65 : decode cX3_joins 65 = .ok (.dup2, 1) := by decide +kernel
theorem dX3_joins_66 : decode cX3_joins 66 = .ok (.iaload, 1) := by decide +kernel
theorem dX3_joins_67 : decode cX3_joins 67 = .ok (.iconst 1, 1) := by decide +kernel
theorem dX3_joins_68 : decode cX3_joins 68 = .ok (.iload_n 1, 1) := by decide +kernel
theorem dX3_joins_69 : decode cX3_joins 69 = .ok (.ishl, 1) := by decide +kernel
theorem dX3_joins_70 : decode cX3_joins 70 = .ok (.iconst (-1), 1) := by decide +kernel
theorem dX3_joins_71 : decode cX3_joins 71 = .ok (.ixor, 1) := by decide +kernel
theorem dX3_joins_72 : decode cX3_joins 72 = .ok (.iand, 1) := by decide +kernel
theorem dX3_joins_73 : decode cX3_joins 73 = .ok (.iastore, 1) := by decide +kernel
theorem dX3_joins_74 : decode cX3_joins 74 = .ok (.iconst 0, 1) := by decide +kernel
theorem dX3_joins_75 : decode cX3_joins 75 = .ok (.ireturn, 1) := by decide +kernel
theorem dX4_init_0 : decode cX4_init 0 = .ok (.aload_n 0, 1) := by decide +kernel
theorem dX4_init_1 : decode cX4_init 1 = .ok (.invokespecial 3, 3) := by decide +kernel
theorem dX4_init_4 : decode cX4_init 4 = .ok (.aload_n 0, 1) := by decide +kernel
theorem dX4_init_5 : decode cX4_init 5 = .ok (.bipush 10, 2) := by decide +kernel
theorem dX4_init_7 : decode cX4_init 7 = .ok (.newarray .long, 2) := by decide +kernel
theorem dX4_init_9 : decode cX4_init 9 = .ok (.putfield 9, 3) := by decide +kernel
theorem dX4_init_12 : decode cX4_init 12 = .ok (.aload_n 0, 1) := by decide +kernel
theorem dX4_init_13 : decode cX4_init 13 = .ok (.bipush 100, 2) := by decide +kernel
theorem dX4_init_15 : decode cX4_init 15 = .ok (.newarray .long, 2) := by decide +kernel
theorem dX4_init_17 : decode cX4_init 17 = .ok (.putfield 15, 3) := by decide +kernel
theorem dX4_init_20 : decode cX4_init 20 = .ok (.aload_n 0, 1) := by decide +kernel
theorem dX4_init_21 : decode cX4_init 21 = .ok (.bipush 10, 2) := by decide +kernel
theorem dX4_init_23 : decode cX4_init 23 = .ok (.newarray .long, 2) := by decide +kernel
theorem dX4_init_25 : decode cX4_init 25 = .ok (.putfield 18, 3) := by decide +kernel
theorem dX4_init_28 : decode cX4_init 28 = .ok (.aload_n 0, 1) := by decide +kernel
theorem dX4_init_29 : decode cX4_init 29 = .ok (.sipush 1024, 3) := by decide +kernel
theorem dX4_init_32 : decode cX4_init 32 = .ok (.newarray .long, 2) := by decide +kernel
theorem dX4_init_34 : decode cX4_init 34 = .ok (.putfield 21, 3) := by decide +kernel
theorem dX4_init_37 : decode cX4_init 37 = .ok (.aload_n 0, 1) := by decide +kernel
theorem dX4_init_38 : decode cX4_init 38 = .ok (.sipush 1024, 3) := by decide +kernel
theorem dX4_init_41 : decode cX4_init 41 = .ok (.newarray .int, 2) := by decide +kernel
theorem dX4_init_43 : decode cX4_init 43 = .ok (.putfield 24, 3) := by decide +kernel
theorem dX4_init_46 : decode cX4_init 46 = .ok (.aload_n 0, 1) := by decide +kernel
theorem dX4_init_47 : decode cX4_init 47 = .ok (.bipush 10, 2) := by decide +kernel
theorem dX4_init_49 : decode cX4_init 49 = .ok (.newarray .int, 2) := by decide +kernel
theorem dX4_init_51 : decode cX4_init 51 = .ok (.putfield 28, 3) := by decide +kernel
theorem dX4_init_54 : decode cX4_init 54 = .ok (.aload_n 0, 1) := by decide +kernel
theorem dX4_init_55 : decode cX4_init 55 = .ok (.bipush 10, 2) := by decide +kernel
theorem dX4_init_57 : decode cX4_init 57 = .ok (.newarray .int, 2) := by decide +kernel
theorem dX4_init_59 : decode cX4_init 59 = .ok (.putfield 31, 3) := by decide +kernel
theorem dX4_init_62 : decode cX4_init 62 = .ok (.aload_n 0, 1) := by decide +kernel
theorem dX4_init_63 : decode cX4_init 63 = .ok (.aload_n 1, 1) := by decide +kernel
theorem dX4_init_64 : decode cX4_init 64 = .ok (.putfield 34, 3) := by decide +kernel
theorem dX4_init_67 : decode cX4_init 67 = .ok (.aload_n 0, 1) := by decide +kernel
theorem dX4_init_68 : decode cX4_init 68 = .ok (.aload_n 2, 1) := by decide +kernel
theorem dX4_init_69 : decode cX4_init 69 = .ok (.putfield 38, 3) := by decide +kernel
theorem dX4_init_72 : decode cX4_init 72 = .ok (.return_, 1) := by decide +kernel
theorem dX4_weigh_0 : decode cX4_weigh 0 = .ok (.aload_n 0, 1) := by decide +kernel
theorem dX4_weigh_1 : decode cX4_weigh 1 = .ok (.getfield 9, 3) := by decide +kernel
theorem dX4_weigh_4 : decode cX4_weigh 4 = .ok (.lconst 0, 1) := by decide +kernel
theorem dX4_weigh_5 : decode cX4_weigh 5 = .ok (.invokestatic 42, 3) := by decide +kernel
theorem dX4_weigh_8 : decode cX4_weigh 8 = .ok (.aload_n 0, 1) := by decide +kernel
theorem dX4_weigh_9 : decode cX4_weigh 9 = .ok (.getfield 15, 3) := by decide +kernel
theorem dX4_weigh_12 : decode cX4_weigh 12 = .ok (.lconst 0, 1) := by decide +kernel
theorem dX4_weigh_13 : decode cX4_weigh 13 = .ok (.invokestatic 42, 3) := by decide +kernel
theorem dX4_weigh_16 : decode cX4_weigh 16 = .ok (.iconst 0, 1) := by decide +kernel
theorem dX4_weigh_17 : decode cX4_weigh 17 = .ok (.istore_n 2, 1) := by decide +kernel
theorem dX4_weigh_18 : decode cX4_weigh 18 = .ok (.iload_n 2, 1) := by decide +kernel
theorem dX4_weigh_19 : decode cX4_weigh 19 = .ok (.aload_n 0, 1) := by decide +kernel
theorem dX4_weigh_20 : decode cX4_weigh 20 = .ok (.getfield 34, 3) := by decide +kernel
theorem dX4_weigh_23 : decode cX4_weigh 23 = .ok (.getfield 48, 3) := by decide +kernel
theorem dX4_weigh_26 : decode cX4_weigh 26 = .ok (.getfield 54, 3) := by decide +kernel
theorem dX4_weigh_29 : decode cX4_weigh 29 = .ok (.if_icmp .ge 97, 3) := by decide +kernel
theorem dX4_weigh_32 : decode cX4_weigh 32 = .ok (.aload_n 0, 1) := by decide +kernel
theorem dX4_weigh_33 : decode cX4_weigh 33 = .ok (.getfield 38, 3) := by decide +kernel
theorem dX4_weigh_36 : decode cX4_weigh 36 = .ok (.iload_n 2, 1) := by decide +kernel
theorem dX4_weigh_37 : decode cX4_weigh 37 = .ok (.iload_n 1, 1) := by decide +kernel
theorem dX4_weigh_38 : decode cX4_weigh 38 = .ok (.invokevirtual 60, 3) := by decide +kernel
theorem dX4_weigh_41 : decode cX4_weigh 41 = .ok (.lstore_n 3, 1) := by decide +kernel
theorem dX4_weigh_42 : decode cX4_weigh 42 = .ok (.aload_n 0, 1) := by decide +kernel
theorem dX4_weigh_43 : decode cX4_weigh 43 = .ok (.getfield 34, 3) := by decide +kernel
theorem dX4_weigh_46 : decode cX4_weigh 46 = .ok (.getfield 48, 3) := by decide +kernel
theorem dX4_weigh_49 : decode cX4_weigh 49 = .ok (.iload_n 2, 1) := by decide +kernel
theorem dX4_weigh_50 : decode cX4_weigh 50 = .ok (.iconst 0, 1) := by decide +kernel
theorem dX4_weigh_51 : decode cX4_weigh 51 = .ok (.invokevirtual 66, 3) := by decide +kernel
theorem dX4_weigh_54 : decode cX4_weigh 54 = .ok (.istore 5, 2) := by decide +kernel
theorem dX4_weigh_56 : decode cX4_weigh 56 = .ok (.aload_n 0, 1) := by decide +kernel
theorem dX4_weigh_57 : decode cX4_weigh 57 = .ok (.getfield 34, 3) := by decide +kernel
theorem dX4_weigh_60 : decode cX4_weigh 60 = .ok (.getfield 48, 3) := by decide +kernel
theorem dX4_weigh_63 : decode cX4_weigh 63 = .ok (.iload_n 2, 1) := by decide +kernel
theorem dX4_weigh_64 : decode cX4_weigh 64 = .ok (.iconst 1, 1) := by decide +kernel
theorem dX4_weigh_65 : decode cX4_weigh 65 = .ok (.invokevirtual 66, 3) := by decide +kernel
theorem dX4_weigh_68 : decode cX4_weigh 68 = .ok (.istore 6, 2) := by decide +kernel
theorem dX4_weigh_70 : decode cX4_weigh 70 = .ok (.aload_n 0, 1) := by decide +kernel
theorem dX4_weigh_71 : decode cX4_weigh 71 = .ok (.iload 5, 2) := by decide +kernel
theorem dX4_weigh_73 : decode cX4_weigh 73 = .ok (.lload_n 3, 1) := by decide +kernel
theorem dX4_weigh_74 : decode cX4_weigh 74 = .ok (.invokevirtual 70, 3) := by decide +kernel
theorem dX4_weigh_77 : decode cX4_weigh 77 = .ok (.aload_n 0, 1) := by decide +kernel
theorem dX4_weigh_78 : decode cX4_weigh 78 = .ok (.iload 6, 2) := by decide +kernel
theorem dX4_weigh_80 : decode cX4_weigh 80 = .ok (.lload_n 3, 1) := by decide +kernel
theorem dX4_weigh_81 : decode cX4_weigh 81 = .ok (.lneg, 1) := by decide +kernel
theorem dX4_weigh_82 : decode cX4_weigh 82 = .ok (.invokevirtual 70, 3) := by decide +kernel
theorem dX4_weigh_85 : decode cX4_weigh 85 = .ok (.iload 6, 2) := by decide +kernel
theorem dX4_weigh_87 : decode cX4_weigh 87 = .ok (.iload 5, 2) := by decide +kernel
theorem dX4_weigh_89 : decode cX4_weigh 89 = .ok (.invokestatic 74, 3) := by decide +kernel
theorem dX4_weigh_92 : decode cX4_weigh 92 = .ok (.istore 7, 2) := by decide +kernel
theorem dX4_weigh_94 : decode cX4_weigh 94 = .ok (.iload 7, 2) := by decide +kernel
theorem dX4_weigh_96 : decode cX4_weigh 96 = .ok (.ifCond .lt 24, 3) := by decide +kernel
theorem dX4_weigh_99 : decode cX4_weigh 99 = .ok (.iload 7, 2) := by decide +kernel
theorem dX4_weigh_101 : decode cX4_weigh 101 = .ok (.aload_n 0, 1) := by decide +kernel
theorem dX4_weigh_102 : decode cX4_weigh 102 = .ok (.getfield 15, 3) := by decide +kernel
theorem dX4_weigh_105 : decode cX4_weigh 105 = .ok (.arraylength, 1) := by decide +kernel
theorem dX4_weigh_106 : decode cX4_weigh 106 = .ok (.if_icmp .ge 14, 3) := by decide +kernel
theorem dX4_weigh_109 : decode cX4_weigh 109 = .ok (.aload_n 0, 1) := by decide +kernel
theorem dX4_weigh_110 : decode cX4_weigh 110 = .ok (.getfield 15, 3) := by decide +kernel
theorem dX4_weigh_113 : decode cX4_weigh 113 = .ok (.iload 7, 2) := by decide +kernel
theorem dX4_weigh_115 : decode cX4_weigh 115 = .ok (.dup2, 1) := by decide +kernel
theorem dX4_weigh_116 : decode cX4_weigh 116 = .ok (.laload, 1) := by decide +kernel
theorem dX4_weigh_117 : decode cX4_weigh 117 = .ok (.lload_n 3, 1) := by decide +kernel
theorem dX4_weigh_118 : decode cX4_weigh 118 = .ok (.ladd, 1) := by decide +kernel
theorem dX4_weigh_119 : decode cX4_weigh 119 = .ok (.lastore, 1) := by decide +kernel
theorem dX4_weigh_120 : decode cX4_weigh 120 = .ok (.iinc 2 1, 3) := by decide +kernel
theorem dX4_weigh_123 : decode cX4_weigh 123 = .ok (.goto (-105), 3) := by decide +kernel
theorem dX4_weigh_126 : decode cX4_weigh 126 = .ok (.return_, 1) := by decide +kernel
theorem dX4_book_0 : decode cX4_book 0 = .ok (.iload_n 1, 1) := by decide +kernel
theorem dX4_book_1 : decode cX4_book 1 = .ok (.ifCond .lt 22, 3) := by decide +kernel
theorem dX4_book_4 : decode cX4_book 4 = .ok (.iload_n 1, 1) := by decide +kernel
theorem dX4_book_5 : decode cX4_book 5 = .ok (.aload_n 0, 1) := by decide +kernel
theorem dX4_book_6 : decode cX4_book 6 = .ok (.getfield 9, 3) := by decide +kernel
theorem dX4_book_9 : decode cX4_book 9 = .ok (.arraylength, 1) := by decide +kernel
theorem dX4_book_10 : decode cX4_book 10 = .ok (.if_icmp .ge 13, 3) := by decide +kernel
theorem dX4_book_13 : decode cX4_book 13 = .ok (.aload_n 0, 1) := by decide +kernel
theorem dX4_book_14 : decode cX4_book 14 = .ok (.getfield 9, 3) := by decide +kernel
theorem dX4_book_17 : decode cX4_book 17 = .ok (.iload_n 1, 1) := by decide +kernel
theorem dX4_book_18 : decode cX4_book 18 = .ok (.dup2, 1) := by decide +kernel
theorem dX4_book_19 : decode cX4_book 19 = .ok (.laload, 1) := by decide +kernel
theorem dX4_book_20 : decode cX4_book 20 = .ok (.lload_n 2, 1) := by decide +kernel
theorem dX4_book_21 : decode cX4_book 21 = .ok (.ladd, 1) := by decide +kernel
theorem dX4_book_22 : decode cX4_book 22 = .ok (.lastore, 1) := by decide +kernel
theorem dX4_book_23 : decode cX4_book 23 = .ok (.return_, 1) := by decide +kernel
theorem dX4_pairOf_0 : decode cX4_pairOf 0 = .ok (.iload_n 0, 1) := by decide +kernel
theorem dX4_pairOf_1 : decode cX4_pairOf 1 = .ok (.ifCond .lt 23, 3) := by decide +kernel
theorem dX4_pairOf_4 : decode cX4_pairOf 4 = .ok (.iload_n 0, 1) := by decide +kernel
theorem dX4_pairOf_5 : decode cX4_pairOf 5 = .ok (.bipush 10, 2) := by decide +kernel
theorem dX4_pairOf_7 : decode cX4_pairOf 7 = .ok (.if_icmp .ge 17, 3) := by decide +kernel
theorem dX4_pairOf_10 : decode cX4_pairOf 10 = .ok (.iload_n 1, 1) := by decide +kernel
theorem dX4_pairOf_11 : decode cX4_pairOf 11 = .ok (.ifCond .lt 13, 3) := by decide +kernel
theorem dX4_pairOf_14 : decode cX4_pairOf 14 = .ok (.iload_n 1, 1) := by decide +kernel
theorem dX4_pairOf_15 : decode cX4_pairOf 15 = .ok (.bipush 10, 2) := by decide +kernel
theorem dX4_pairOf_17 : decode cX4_pairOf 17 = .ok (.if_icmp .ge 7, 3) := by decide +kernel
theorem dX4_pairOf_20 : decode cX4_pairOf 20 = .ok (.iconst 1, 1) := by decide +kernel
theorem dX4_pairOf_21 : decode cX4_pairOf 21 = .ok (.goto 4, 3) := by decide +kernel
theorem dX4_pairOf_24 : decode cX4_pairOf 24 = .ok (.iconst 0, 1) := by decide +kernel
theorem dX4_pairOf_25 : decode cX4_pairOf 25 = .ok (.istore_n 2, 1) := by decide +kernel
theorem dX4_pairOf_26 : decode cX4_pairOf 26 = .ok (.iload_n 2, 1) := by decide +kernel
theorem dX4_pairOf_27 : decode cX4_pairOf 27 = .ok (.ifCond .eq 12, 3) := by decide +kernel
theorem dX4_pairOf_30 : decode cX4_pairOf 30 = .ok (.iload_n 0, 1) := by decide +kernel
theorem dX4_pairOf_31 : decode cX4_pairOf 31 = .ok (.bipush 10, 2) := by decide +kernel
theorem dX4_pairOf_33 : decode cX4_pairOf 33 = .ok (.imul, 1) := by decide +kernel
theorem dX4_pairOf_34 : decode cX4_pairOf 34 = .ok (.iload_n 1, 1) := by decide +kernel
theorem dX4_pairOf_35 : decode cX4_pairOf 35 = .ok (.iadd, 1) := by decide +kernel
theorem dX4_pairOf_36 : decode cX4_pairOf 36 = .ok (.goto 4, 3) := by decide +kernel
theorem dX4_pairOf_39 : decode cX4_pairOf 39 = .ok (.iconst (-1), 1) := by decide +kernel
theorem dX4_pairOf_40 : decode cX4_pairOf 40 = .ok (.ireturn, 1) := by decide +kernel
theorem dX4_isOwing_0 : decode cX4_isOwing 0 = .ok (.iload_n 1, 1) := by decide +kernel
theorem dX4_isOwing_1 : decode cX4_isOwing 1 = .ok (.iload_n 2, 1) := by decide +kernel
theorem dX4_isOwing_2 : decode cX4_isOwing 2 = .ok (.invokestatic 74, 3) := by decide +kernel
theorem dX4_isOwing_5 : decode cX4_isOwing 5 = .ok (.istore_n 3, 1) := by decide +kernel
theorem dX4_isOwing_6 : decode cX4_isOwing 6 = .ok (.iload_n 3, 1) := by decide +kernel
theorem dX4_isOwing_7 : decode cX4_isOwing 7 = .ok (.ifCond .lt 27, 3) := by decide +kernel
theorem dX4_isOwing_10 : decode cX4_isOwing 10 = .ok (.iload_n 3, 1) := by decide +kernel
theorem dX4_isOwing_11 : decode cX4_isOwing 11 = .ok (.aload_n 0, 1) := by decide +kernel
theorem dX4_isOwing_12 : decode cX4_isOwing 12 = .ok (.getfield 15, 3) := by decide +kernel
theorem dX4_isOwing_15 : decode cX4_isOwing 15 = .ok (.arraylength, 1) := by decide +kernel
theorem dX4_isOwing_16 : decode cX4_isOwing 16 = .ok (.if_icmp .ge 18, 3) := by decide +kernel
theorem dX4_isOwing_19 : decode cX4_isOwing 19 = .ok (.aload_n 0, 1) := by decide +kernel
theorem dX4_isOwing_20 : decode cX4_isOwing 20 = .ok (.getfield 15, 3) := by decide +kernel
theorem dX4_isOwing_23 : decode cX4_isOwing 23 = .ok (.iload_n 3, 1) := by decide +kernel
theorem dX4_isOwing_24 : decode cX4_isOwing 24 = .ok (.laload, 1) := by decide +kernel
theorem dX4_isOwing_25 : decode cX4_isOwing 25 = .ok (.lconst 0, 1) := by decide +kernel
theorem dX4_isOwing_26 : decode cX4_isOwing 26 = .ok (.lcmp, 1) := by decide +kernel
theorem dX4_isOwing_27 : decode cX4_isOwing 27 = .ok (.ifCond .le 7, 3) := by decide +kernel
theorem dX4_isOwing_30 : decode cX4_isOwing 30 = .ok (.iconst 1, 1) := by decide +kernel
theorem dX4_isOwing_31 : decode cX4_isOwing 31 = .ok (.goto 4, 3) := by decide +kernel
theorem dX4_isOwing_34 : decode cX4_isOwing 34 = .ok (.iconst 0, 1) := by decide +kernel
theorem dX4_isOwing_35 : decode cX4_isOwing 35 = .ok (.ireturn, 1) := by decide +kernel
theorem dX4_of_0 : decode cX4_of 0 = .ok (.iload_n 1, 1) := by decide +kernel
theorem dX4_of_1 : decode cX4_of 1 = .ok (.ifCond .lt 21, 3) := by decide +kernel
theorem dX4_of_4 : decode cX4_of 4 = .ok (.iload_n 1, 1) := by decide +kernel
theorem dX4_of_5 : decode cX4_of 5 = .ok (.aload_n 0, 1) := by decide +kernel
theorem dX4_of_6 : decode cX4_of 6 = .ok (.getfield 9, 3) := by decide +kernel
theorem dX4_of_9 : decode cX4_of 9 = .ok (.arraylength, 1) := by decide +kernel
theorem dX4_of_10 : decode cX4_of 10 = .ok (.if_icmp .ge 12, 3) := by decide +kernel
theorem dX4_of_13 : decode cX4_of 13 = .ok (.aload_n 0, 1) := by decide +kernel
theorem dX4_of_14 : decode cX4_of 14 = .ok (.getfield 9, 3) := by decide +kernel
theorem dX4_of_17 : decode cX4_of 17 = .ok (.iload_n 1, 1) := by decide +kernel
theorem dX4_of_18 : decode cX4_of 18 = .ok (.laload, 1) := by decide +kernel
theorem dX4_of_19 : decode cX4_of 19 = .ok (.goto 4, 3) := by decide +kernel
theorem dX4_of_22 : decode cX4_of 22 = .ok (.lconst 0, 1) := by decide +kernel
theorem dX4_of_23 : decode cX4_of 23 = .ok (.lreturn, 1) := by decide +kernel
theorem dX4_fewestPayments_0 : decode cX4_fewestPayments 0 = .ok (.aload_n 0, 1) := by decide +kernel
theorem dX4_fewestPayments_1 : decode cX4_fewestPayments 1 = .ok (.invokevirtual 77, 3) := by decide +kernel
theorem dX4_fewestPayments_4 : decode cX4_fewestPayments 4 = .ok (.istore_n 1, 1) := by decide +kernel
theorem dX4_fewestPayments_5 : decode cX4_fewestPayments 5 = .ok (.iconst 1, 1) := by decide +kernel
theorem dX4_fewestPayments_6 : decode cX4_fewestPayments 6 = .ok (.iload_n 1, 1) := by decide +kernel
theorem dX4_fewestPayments_7 : decode cX4_fewestPayments 7 = .ok (.ishl, 1) := by decide +kernel
theorem dX4_fewestPayments_8 : decode cX4_fewestPayments 8 = .ok (.iconst 1, 1) := by decide +kernel
theorem dX4_fewestPayments_9 : decode cX4_fewestPayments 9 = .ok (.isub, 1) := by decide +kernel
theorem dX4_fewestPayments_10 : decode cX4_fewestPayments 10 = .ok (.istore_n 2, 1) := by decide +kernel
theorem dX4_fewestPayments_11 : decode cX4_fewestPayments 11 = .ok (.iconst 1, 1) := by decide +kernel
theorem dX4_fewestPayments_12 : decode cX4_fewestPayments 12 = .ok (.istore_n 3, 1) := by decide +kernel
theorem dX4_fewestPayments_13 : decode cX4_fewestPayments 13 = .ok (.iload_n 3, 1) := by decide +kernel
theorem dX4_fewestPayments_14 : decode cX4_fewestPayments 14 = .ok (.iload_n 2, 1) := by decide +kernel
theorem dX4_fewestPayments_15 : decode cX4_fewestPayments 15 = .ok (.if_icmp .gt 15, 3) := by decide +kernel
theorem dX4_fewestPayments_18 : decode cX4_fewestPayments 18 = .ok (.aload_n 0, 1) := by decide +kernel
theorem dX4_fewestPayments_19 : decode cX4_fewestPayments 19 = .ok (.iload_n 3, 1) := by decide +kernel
theorem dX4_fewestPayments_20 : decode cX4_fewestPayments 20 = .ok (.iload_n 1, 1) := by decide +kernel
theorem dX4_fewestPayments_21 : decode cX4_fewestPayments 21 = .ok (.invokevirtual 81, 3) := by decide +kernel
theorem dX4_fewestPayments_24 : decode cX4_fewestPayments 24 = .ok (.iinc 3 1, 3) := by decide +kernel
theorem dX4_fewestPayments_27 : decode cX4_fewestPayments 27 = .ok (.goto (-14), 3) := by decide +kernel
theorem dX4_fewestPayments_30 : decode cX4_fewestPayments 30 = .ok (.iload_n 2, 1) := by decide +kernel
theorem dX4_fewestPayments_31 : decode cX4_fewestPayments 31 = .ok (.ifCond .lt 23, 3) := by decide +kernel
theorem dX4_fewestPayments_34 : decode cX4_fewestPayments 34 = .ok (.iload_n 2, 1) := by decide +kernel
theorem dX4_fewestPayments_35 : decode cX4_fewestPayments 35 = .ok (.aload_n 0, 1) := by decide +kernel
theorem dX4_fewestPayments_36 : decode cX4_fewestPayments 36 = .ok (.getfield 24, 3) := by decide +kernel
theorem dX4_fewestPayments_39 : decode cX4_fewestPayments 39 = .ok (.arraylength, 1) := by decide +kernel
theorem dX4_fewestPayments_40 : decode cX4_fewestPayments 40 = .ok (.if_icmp .ge 14, 3) := by decide +kernel
theorem dX4_fewestPayments_43 : decode cX4_fewestPayments 43 = .ok (.iload_n 1, 1) := by decide +kernel
theorem dX4_fewestPayments_44 : decode cX4_fewestPayments 44 = .ok (.aload_n 0, 1) := by decide +kernel
theorem dX4_fewestPayments_45 : decode cX4_fewestPayments 45 = .ok (.getfield 24, 3) := by decide +kernel
theorem dX4_fewestPayments_48 : decode cX4_fewestPayments 48 = .ok (.iload_n 2, 1) := by decide +kernel
theorem dX4_fewestPayments_49 : decode cX4_fewestPayments 49 = .ok (.iaload, 1) := by decide +kernel
theorem dX4_fewestPayments_50 : decode cX4_fewestPayments 50 = .ok (.isub, 1) := by decide +kernel
theorem dX4_fewestPayments_51 : decode cX4_fewestPayments 51 = .ok (.goto 4, 3) := by decide +kernel
theorem dX4_fewestPayments_54 : decode cX4_fewestPayments 54 = .ok (.iconst 0, 1) := by decide +kernel
theorem dX4_fewestPayments_55 : decode cX4_fewestPayments 55 = .ok (.ireturn, 1) := by decide +kernel
theorem dX4_weighSet_0 : decode cX4_weighSet 0 = .ok (.iload_n 1, 1) := by decide +kernel
theorem dX4_weighSet_1 : decode cX4_weighSet 1 = .ok (.ifCond .lt 21, 3) := by decide +kernel
theorem dX4_weighSet_4 : decode cX4_weighSet 4 = .ok (.iload_n 1, 1) := by decide +kernel
theorem dX4_weighSet_5 : decode cX4_weighSet 5 = .ok (.aload_n 0, 1) := by decide +kernel
theorem dX4_weighSet_6 : decode cX4_weighSet 6 = .ok (.getfield 21, 3) := by decide +kernel
theorem dX4_weighSet_9 : decode cX4_weighSet 9 = .ok (.arraylength, 1) := by decide +kernel
theorem dX4_weighSet_10 : decode cX4_weighSet 10 = .ok (.if_icmp .ge 12, 3) := by decide +kernel
theorem dX4_weighSet_13 : decode cX4_weighSet 13 = .ok (.iload_n 1, 1) := by decide +kernel
theorem dX4_weighSet_14 : decode cX4_weighSet 14 = .ok (.aload_n 0, 1) := by decide +kernel
theorem dX4_weighSet_15 : decode cX4_weighSet 15 = .ok (.getfield 24, 3) := by decide +kernel
theorem dX4_weighSet_18 : decode cX4_weighSet 18 = .ok (.arraylength, 1) := by decide +kernel
theorem dX4_weighSet_19 : decode cX4_weighSet 19 = .ok (.if_icmp .lt 4, 3) := by decide +kernel
theorem dX4_weighSet_22 : decode cX4_weighSet 22 = .ok (.return_, 1) := by decide +kernel
theorem dX4_weighSet_23 : decode cX4_weighSet 23 = .ok (.iconst 0, 1) := by decide +kernel
theorem dX4_weighSet_24 : decode cX4_weighSet 24 = .ok (.istore_n 3, 1) := by decide +kernel
theorem dX4_weighSet_25 : decode cX4_weighSet 25 = .ok (.iconst 0, 1) := by decide +kernel
theorem dX4_weighSet_26 : decode cX4_weighSet 26 = .ok (.istore 4, 2) := by decide +kernel
theorem dX4_weighSet_28 : decode cX4_weighSet 28 = .ok (.iload 4, 2) := by decide +kernel
theorem dX4_weighSet_30 : decode cX4_weighSet 30 = .ok (.iload_n 2, 1) := by decide +kernel
theorem dX4_weighSet_31 : decode cX4_weighSet 31 = .ok (.if_icmp .ge 73, 3) := by decide +kernel
theorem dX4_weighSet_34 : decode cX4_weighSet 34 = .ok (.iload 4, 2) := by decide +kernel
theorem dX4_weighSet_36 : decode cX4_weighSet 36 = .ok (.aload_n 0, 1) := by decide +kernel
theorem dX4_weighSet_37 : decode cX4_weighSet 37 = .ok (.getfield 18, 3) := by decide +kernel
theorem dX4_weighSet_40 : decode cX4_weighSet 40 = .ok (.arraylength, 1) := by decide +kernel
theorem dX4_weighSet_41 : decode cX4_weighSet 41 = .ok (.if_icmp .ge 63, 3) := by decide +kernel
theorem dX4_weighSet_44 : decode cX4_weighSet 44 = .ok (.iload_n 1, 1) := by decide +kernel
theorem dX4_weighSet_45 : decode cX4_weighSet 45 = .ok (.iconst 1, 1) := by decide +kernel
theorem dX4_weighSet_46 : decode cX4_weighSet 46 = .ok (.iload 4, 2) := by decide +kernel
theorem dX4_weighSet_48 : decode cX4_weighSet 48 = .ok (.ishl, 1) := by decide +kernel
theorem dX4_weighSet_49 : decode cX4_weighSet 49 = .ok (.iconst (-1), 1) := by decide +kernel
theorem dX4_weighSet_50 : decode cX4_weighSet 50 = .ok (.ixor, 1) := by decide +kernel
theorem dX4_weighSet_51 : decode cX4_weighSet 51 = .ok (.iand, 1) := by decide +kernel
theorem dX4_weighSet_52 : decode cX4_weighSet 52 = .ok (.istore 5, 2) := by decide +kernel
theorem dX4_weighSet_54 : decode cX4_weighSet 54 = .ok (.iload 5, 2) := by decide +kernel
theorem dX4_weighSet_56 : decode cX4_weighSet 56 = .ok (.ifCond .lt 42, 3) := by decide +kernel
theorem dX4_weighSet_59 : decode cX4_weighSet 59 = .ok (.iload 5, 2) := by decide +kernel
theorem dX4_weighSet_61 : decode cX4_weighSet 61 = .ok (.iload_n 1, 1) := by decide +kernel
theorem dX4_weighSet_62 : decode cX4_weighSet 62 = .ok (.if_icmp .ge 36, 3) := by decide +kernel
theorem dX4_weighSet_65 : decode cX4_weighSet 65 = .ok (.aload_n 0, 1) := by decide +kernel
theorem dX4_weighSet_66 : decode cX4_weighSet 66 = .ok (.getfield 21, 3) := by decide +kernel
theorem dX4_weighSet_69 : decode cX4_weighSet 69 = .ok (.iload_n 1, 1) := by decide +kernel
theorem dX4_weighSet_70 : decode cX4_weighSet 70 = .ok (.aload_n 0, 1) := by decide +kernel
theorem dX4_weighSet_71 : decode cX4_weighSet 71 = .ok (.getfield 21, 3) := by decide +kernel
theorem dX4_weighSet_74 : decode cX4_weighSet 74 = .ok (.iload 5, 2) := by decide +kernel
theorem dX4_weighSet_76 : decode cX4_weighSet 76 = .ok (.laload, 1) := by decide +kernel
theorem dX4_weighSet_77 : decode cX4_weighSet 77 = .ok (.aload_n 0, 1) := by decide +kernel
theorem dX4_weighSet_78 : decode cX4_weighSet 78 = .ok (.getfield 18, 3) := by decide +kernel
theorem dX4_weighSet_81 : decode cX4_weighSet 81 = .ok (.iload 4, 2) := by decide +kernel
theorem dX4_weighSet_83 : decode cX4_weighSet 83 = .ok (.laload, 1) := by decide +kernel
theorem dX4_weighSet_84 : decode cX4_weighSet 84 = .ok (.ladd, 1) := by decide +kernel
theorem dX4_weighSet_85 : decode cX4_weighSet 85 = .ok (.lastore, 1) := by decide +kernel
theorem dX4_weighSet_86 : decode cX4_weighSet 86 = .ok (.iload_n 3, 1) := by decide +kernel
theorem dX4_weighSet_87 : decode cX4_weighSet 87 = .ok (.aload_n 0, 1) := by decide +kernel
theorem dX4_weighSet_88 : decode cX4_weighSet 88 = .ok (.getfield 24, 3) := by decide +kernel
theorem dX4_weighSet_91 : decode cX4_weighSet 91 = .ok (.iload 5, 2) := by decide +kernel
theorem dX4_weighSet_93 : decode cX4_weighSet 93 = .ok (.iaload, 1) := by decide +kernel
theorem dX4_weighSet_94 : decode cX4_weighSet 94 = .ok (.invokestatic 85, 3) := by decide +kernel
theorem dX4_weighSet_97 : decode cX4_weighSet 97 = .ok (.istore_n 3, 1) := by decide +kernel
theorem dX4_weighSet_98 : decode cX4_weighSet 98 = .ok (.iinc 4 1, 3) := by decide +kernel
theorem dX4_weighSet_101 : decode cX4_weighSet 101 = .ok (.goto (-73), 3) := by decide +kernel
theorem dX4_weighSet_104 : decode cX4_weighSet 104 = .ok (.aload_n 0, 1) := by decide +kernel
theorem dX4_weighSet_105 : decode cX4_weighSet 105 = .ok (.getfield 24, 3) := by decide +kernel
theorem dX4_weighSet_108 : decode cX4_weighSet 108 = .ok (.iload_n 1, 1) := by decide +kernel
theorem dX4_weighSet_109 : decode cX4_weighSet 109 = .ok (.iload_n 3, 1) := by decide +kernel
theorem dX4_weighSet_110 : decode cX4_weighSet 110 = .ok (.aload_n 0, 1) := by decide +kernel
theorem dX4_weighSet_111 : decode cX4_weighSet 111 = .ok (.getfield 21, 3) := by decide +kernel
theorem dX4_weighSet_114 : decode cX4_weighSet 114 = .ok (.iload_n 1, 1) := by decide +kernel
theorem dX4_weighSet_115 : decode cX4_weighSet 115 = .ok (.laload, 1) := by decide +kernel
theorem dX4_weighSet_116 : decode cX4_weighSet 116 = .ok (.lconst 0, 1) := by decide +kernel
theorem dX4_weighSet_117 : decode cX4_weighSet 117 = .ok (.lcmp, 1) := by decide +kernel
theorem dX4_weighSet_118 : decode cX4_weighSet 118 = .ok (.ifCond .ne 7, 3) := by decide +kernel
theorem dX4_weighSet_121 : decode cX4_weighSet 121 = .ok (.iconst 1, 1) := by decide +kernel
theorem dX4_weighSet_122 : decode cX4_weighSet 122 = .ok (.goto 4, 3) := by decide +kernel
theorem dX4_weighSet_125 : decode cX4_weighSet 125 = .ok (.iconst 0, 1) := by decide +kernel
theorem dX4_weighSet_126 : decode cX4_weighSet 126 = .ok (.iadd, 1) := by decide +kernel
theorem dX4_weighSet_127 : decode cX4_weighSet 127 = .ok (.iastore, 1) := by decide +kernel
theorem dX4_weighSet_128 : decode cX4_weighSet 128 = .ok (.return_, 1) := by decide +kernel
theorem dX4_gatherUneven_0 : decode cX4_gatherUneven 0 = .ok (.iconst 0, 1) := by decide +kernel
theorem dX4_gatherUneven_1 : decode cX4_gatherUneven 1 = .ok (.istore_n 1, 1) := by decide +kernel
theorem dX4_gatherUneven_2 : decode cX4_gatherUneven 2 = .ok (.iconst 0, 1) := by decide +kernel
theorem dX4_gatherUneven_3 : decode cX4_gatherUneven 3 = .ok (.istore_n 2, 1) := by decide +kernel
theorem dX4_gatherUneven_4 : decode cX4_gatherUneven 4 = .ok (.iload_n 2, 1) := by decide +kernel
theorem dX4_gatherUneven_5 : decode cX4_gatherUneven 5 = .ok (.aload_n 0, 1) := by decide +kernel
theorem dX4_gatherUneven_6 : decode cX4_gatherUneven 6 = .ok (.getfield 9, 3) := by decide +kernel
theorem dX4_gatherUneven_9 : decode cX4_gatherUneven 9 = .ok (.arraylength, 1) := by decide +kernel
theorem dX4_gatherUneven_10 : decode cX4_gatherUneven 10 = .ok (.if_icmp .ge 44, 3) := by decide +kernel
theorem dX4_gatherUneven_13 : decode cX4_gatherUneven 13 = .ok (.aload_n 0, 1) := by decide +kernel
theorem dX4_gatherUneven_14 : decode cX4_gatherUneven 14 = .ok (.getfield 9, 3) := by decide +kernel
theorem dX4_gatherUneven_17 : decode cX4_gatherUneven 17 = .ok (.iload_n 2, 1) := by decide +kernel
theorem dX4_gatherUneven_18 : decode cX4_gatherUneven 18 = .ok (.laload, 1) := by decide +kernel
theorem dX4_gatherUneven_19 : decode cX4_gatherUneven 19 = .ok (.lconst 0, 1) := by decide +kernel
theorem dX4_gatherUneven_20 : decode cX4_gatherUneven 20 = .ok (.lcmp, 1) := by decide +kernel
theorem dX4_gatherUneven_21 : decode cX4_gatherUneven 21 = .ok (.ifCond .eq 27, 3) := by decide +kernel
theorem dX4_gatherUneven_24 : decode cX4_gatherUneven 24 = .ok (.iload_n 1, 1) := by decide +kernel
theorem dX4_gatherUneven_25 : decode cX4_gatherUneven 25 = .ok (.aload_n 0, 1) := by decide +kernel
theorem dX4_gatherUneven_26 : decode cX4_gatherUneven 26 = .ok (.getfield 18, 3) := by decide +kernel
theorem dX4_gatherUneven_29 : decode cX4_gatherUneven 29 = .ok (.arraylength, 1) := by decide +kernel
theorem dX4_gatherUneven_30 : decode cX4_gatherUneven 30 = .ok (.if_icmp .ge 18, 3) := by decide +kernel
theorem dX4_gatherUneven_33 : decode cX4_gatherUneven 33 = .ok (.aload_n 0, 1) := by decide +kernel
theorem dX4_gatherUneven_34 : decode cX4_gatherUneven 34 = .ok (.getfield 18, 3) := by decide +kernel
theorem dX4_gatherUneven_37 : decode cX4_gatherUneven 37 = .ok (.iload_n 1, 1) := by decide +kernel
theorem dX4_gatherUneven_38 : decode cX4_gatherUneven 38 = .ok (.aload_n 0, 1) := by decide +kernel
theorem dX4_gatherUneven_39 : decode cX4_gatherUneven 39 = .ok (.getfield 9, 3) := by decide +kernel
theorem dX4_gatherUneven_42 : decode cX4_gatherUneven 42 = .ok (.iload_n 2, 1) := by decide +kernel
theorem dX4_gatherUneven_43 : decode cX4_gatherUneven 43 = .ok (.laload, 1) := by decide +kernel
theorem dX4_gatherUneven_44 : decode cX4_gatherUneven 44 = .ok (.lastore, 1) := by decide +kernel
theorem dX4_gatherUneven_45 : decode cX4_gatherUneven 45 = .ok (.iinc 1 1, 3) := by decide +kernel
theorem dX4_gatherUneven_48 : decode cX4_gatherUneven 48 = .ok (.iinc 2 1, 3) := by decide +kernel
theorem dX4_gatherUneven_51 : decode cX4_gatherUneven 51 = .ok (.goto (-47), 3) := by decide +kernel
theorem dX4_gatherUneven_54 : decode cX4_gatherUneven 54 = .ok (.iload_n 1, 1) := by decide +kernel
theorem dX4_gatherUneven_55 : decode cX4_gatherUneven 55 = .ok (.ireturn, 1) := by decide +kernel
theorem dX4_layRing_0 : decode cX4_layRing 0 = .ok (.iconst 0, 1) := by decide +kernel
theorem dX4_layRing_1 : decode cX4_layRing 1 = .ok (.istore_n 1, 1) := by decide +kernel
theorem dX4_layRing_2 : decode cX4_layRing 2 = .ok (.iconst 0, 1) := by decide +kernel
theorem dX4_layRing_3 : decode cX4_layRing 3 = .ok (.istore_n 2, 1) := by decide +kernel
theorem dX4_layRing_4 : decode cX4_layRing 4 = .ok (.iload_n 2, 1) := by decide +kernel
theorem dX4_layRing_5 : decode cX4_layRing 5 = .ok (.aload_n 0, 1) := by decide +kernel
theorem dX4_layRing_6 : decode cX4_layRing 6 = .ok (.getfield 34, 3) := by decide +kernel
theorem dX4_layRing_9 : decode cX4_layRing 9 = .ok (.getfield 90, 3) := by decide +kernel
theorem dX4_layRing_12 : decode cX4_layRing 12 = .ok (.getfield 54, 3) := by decide +kernel
theorem dX4_layRing_15 : decode cX4_layRing 15 = .ok (.if_icmp .ge 36, 3) := by decide +kernel
theorem dX4_layRing_18 : decode cX4_layRing 18 = .ok (.aload_n 0, 1) := by decide +kernel
theorem dX4_layRing_19 : decode cX4_layRing 19 = .ok (.iload_n 2, 1) := by decide +kernel
theorem dX4_layRing_20 : decode cX4_layRing 20 = .ok (.invokevirtual 93, 3) := by decide +kernel
theorem dX4_layRing_23 : decode cX4_layRing 23 = .ok (.istore_n 3, 1) := by decide +kernel
theorem dX4_layRing_24 : decode cX4_layRing 24 = .ok (.iload_n 3, 1) := by decide +kernel
theorem dX4_layRing_25 : decode cX4_layRing 25 = .ok (.ifCond .le 20, 3) := by decide +kernel
theorem dX4_layRing_28 : decode cX4_layRing 28 = .ok (.iload_n 1, 1) := by decide +kernel
theorem dX4_layRing_29 : decode cX4_layRing 29 = .ok (.ifCond .eq 8, 3) := by decide +kernel
theorem dX4_layRing_32 : decode cX4_layRing 32 = .ok (.iload_n 3, 1) := by decide +kernel
theorem dX4_layRing_33 : decode cX4_layRing 33 = .ok (.iload_n 1, 1) := by decide +kernel
theorem dX4_layRing_34 : decode cX4_layRing 34 = .ok (.if_icmp .ge 11, 3) := by decide +kernel
theorem dX4_layRing_37 : decode cX4_layRing 37 = .ok (.iload_n 3, 1) := by decide +kernel
theorem dX4_layRing_38 : decode cX4_layRing 38 = .ok (.istore_n 1, 1) := by decide +kernel
theorem dX4_layRing_39 : decode cX4_layRing 39 = .ok (.aload_n 0, 1) := by decide +kernel
theorem dX4_layRing_40 : decode cX4_layRing 40 = .ok (.iload_n 2, 1) := by decide +kernel
theorem dX4_layRing_41 : decode cX4_layRing 41 = .ok (.iload_n 3, 1) := by decide +kernel
theorem dX4_layRing_42 : decode cX4_layRing 42 = .ok (.invokevirtual 97, 3) := by decide +kernel
theorem dX4_layRing_45 : decode cX4_layRing 45 = .ok (.iinc 2 1, 3) := by decide +kernel
theorem dX4_layRing_48 : decode cX4_layRing 48 = .ok (.goto (-44), 3) := by decide +kernel
theorem dX4_layRing_51 : decode cX4_layRing 51 = .ok (.iload_n 1, 1) := by decide +kernel
theorem dX4_layRing_52 : decode cX4_layRing 52 = .ok (.ireturn, 1) := by decide +kernel
theorem dX4_inRing_0 : decode cX4_inRing 0 = .ok (.iload_n 1, 1) := by decide +kernel
theorem dX4_inRing_1 : decode cX4_inRing 1 = .ok (.ifCond .lt 21, 3) := by decide +kernel
theorem dX4_inRing_4 : decode cX4_inRing 4 = .ok (.iload_n 1, 1) := by decide +kernel
theorem dX4_inRing_5 : decode cX4_inRing 5 = .ok (.aload_n 0, 1) := by decide +kernel
theorem dX4_inRing_6 : decode cX4_inRing 6 = .ok (.getfield 31, 3) := by decide +kernel
theorem dX4_inRing_9 : decode cX4_inRing 9 = .ok (.arraylength, 1) := by decide +kernel
theorem dX4_inRing_10 : decode cX4_inRing 10 = .ok (.if_icmp .ge 12, 3) := by decide +kernel
theorem dX4_inRing_13 : decode cX4_inRing 13 = .ok (.aload_n 0, 1) := by decide +kernel
theorem dX4_inRing_14 : decode cX4_inRing 14 = .ok (.getfield 31, 3) := by decide +kernel
theorem dX4_inRing_17 : decode cX4_inRing 17 = .ok (.iload_n 1, 1) := by decide +kernel
theorem dX4_inRing_18 : decode cX4_inRing 18 = .ok (.iaload, 1) := by decide +kernel
theorem dX4_inRing_19 : decode cX4_inRing 19 = .ok (.goto 4, 3) := by decide +kernel
theorem dX4_inRing_22 : decode cX4_inRing 22 = .ok (.iconst (-1), 1) := by decide +kernel
theorem dX4_inRing_23 : decode cX4_inRing 23 = .ok (.ireturn, 1) := by decide +kernel
theorem dX4_lengthFrom_0 : decode cX4_lengthFrom 0 = .ok (.aload_n 0, 1) := by decide +kernel
theorem dX4_lengthFrom_1 : decode cX4_lengthFrom 1 = .ok (.getfield 28, 3) := by decide +kernel
theorem dX4_lengthFrom_4 : decode cX4_lengthFrom 4 = .ok (.iconst 0, 1) := by decide +kernel
theorem dX4_lengthFrom_5 : decode cX4_lengthFrom 5 = .ok (.invokestatic 100, 3) := by decide +kernel
theorem dX4_lengthFrom_8 : decode cX4_lengthFrom 8 = .ok (.iconst 1, 1) := by decide +kernel
theorem dX4_lengthFrom_9 : decode cX4_lengthFrom 9 = .ok (.istore_n 2, 1) := by decide +kernel
theorem dX4_lengthFrom_10 : decode cX4_lengthFrom 10 = .ok (.iload_n 2, 1) := by decide +kernel
theorem dX4_lengthFrom_11 : decode cX4_lengthFrom 11 = .ok (.aload_n 0, 1) := by decide +kernel
theorem dX4_lengthFrom_12 : decode cX4_lengthFrom 12 = .ok (.getfield 28, 3) := by decide +kernel
theorem dX4_lengthFrom_15 : decode cX4_lengthFrom 15 = .ok (.arraylength, 1) := by decide +kernel
theorem dX4_lengthFrom_16 : decode cX4_lengthFrom 16 = .ok (.if_icmp .ge 58, 3) := by decide +kernel
theorem dX4_lengthFrom_19 : decode cX4_lengthFrom 19 = .ok (.iload_n 1, 1) := by decide +kernel
theorem dX4_lengthFrom_20 : decode cX4_lengthFrom 20 = .ok (.iconst 1, 1) := by decide +kernel
theorem dX4_lengthFrom_21 : decode cX4_lengthFrom 21 = .ok (.iadd, 1) := by decide +kernel
theorem dX4_lengthFrom_22 : decode cX4_lengthFrom 22 = .ok (.istore_n 3, 1) := by decide +kernel
theorem dX4_lengthFrom_23 : decode cX4_lengthFrom 23 = .ok (.iload_n 3, 1) := by decide +kernel
theorem dX4_lengthFrom_24 : decode cX4_lengthFrom 24 = .ok (.aload_n 0, 1) := by decide +kernel
theorem dX4_lengthFrom_25 : decode cX4_lengthFrom 25 = .ok (.getfield 28, 3) := by decide +kernel
theorem dX4_lengthFrom_28 : decode cX4_lengthFrom 28 = .ok (.arraylength, 1) := by decide +kernel
theorem dX4_lengthFrom_29 : decode cX4_lengthFrom 29 = .ok (.if_icmp .ge 39, 3) := by decide +kernel
theorem dX4_lengthFrom_32 : decode cX4_lengthFrom 32 = .ok (.iload_n 3, 1) := by decide +kernel
theorem dX4_lengthFrom_33 : decode cX4_lengthFrom 33 = .ok (.ifCond .lt 29, 3) := by decide +kernel
theorem dX4_lengthFrom_36 : decode cX4_lengthFrom 36 = .ok (.aload_n 0, 1) := by decide +kernel
theorem dX4_lengthFrom_37 : decode cX4_lengthFrom 37 = .ok (.getfield 28, 3) := by decide +kernel
theorem dX4_lengthFrom_40 : decode cX4_lengthFrom 40 = .ok (.iload_n 3, 1) := by decide +kernel
theorem dX4_lengthFrom_41 : decode cX4_lengthFrom 41 = .ok (.iaload, 1) := by decide +kernel
theorem dX4_lengthFrom_42 : decode cX4_lengthFrom 42 = .ok (.ifCond .ne 20, 3) := by decide +kernel
theorem dX4_lengthFrom_45 : decode cX4_lengthFrom 45 = .ok (.aload_n 0, 1) := by decide +kernel
theorem dX4_lengthFrom_46 : decode cX4_lengthFrom 46 = .ok (.iload_n 3, 1) := by decide +kernel
theorem dX4_lengthFrom_47 : decode cX4_lengthFrom 47 = .ok (.iload_n 1, 1) := by decide +kernel
theorem dX4_lengthFrom_48 : decode cX4_lengthFrom 48 = .ok (.iload_n 2, 1) := by decide +kernel
theorem dX4_lengthFrom_49 : decode cX4_lengthFrom 49 = .ok (.invokevirtual 103, 3) := by decide +kernel
theorem dX4_lengthFrom_52 : decode cX4_lengthFrom 52 = .ok (.ifCond .eq 10, 3) := by decide +kernel
theorem dX4_lengthFrom_55 : decode cX4_lengthFrom 55 = .ok (.aload_n 0, 1) := by decide +kernel
theorem dX4_lengthFrom_56 : decode cX4_lengthFrom 56 = .ok (.getfield 28, 3) := by decide +kernel
theorem dX4_lengthFrom_59 : decode cX4_lengthFrom 59 = .ok (.iload_n 3, 1) := by decide +kernel
theorem dX4_lengthFrom_60 : decode cX4_lengthFrom 60 = .ok (.iload_n 2, 1) := by decide +kernel
theorem dX4_lengthFrom_61 : decode cX4_lengthFrom 61 = .ok (.iastore, 1) := by decide +kernel
theorem dX4_lengthFrom_62 : decode cX4_lengthFrom 62 = .ok (.iinc 3 1, 3) := by decide +kernel
theorem dX4_lengthFrom_65 : decode cX4_lengthFrom 65 = .ok (.goto (-42), 3) := by decide +kernel
theorem dX4_lengthFrom_68 : decode cX4_lengthFrom 68 = .ok (.iinc 2 1, 3) := by decide +kernel
theorem dX4_lengthFrom_71 : decode cX4_lengthFrom 71 = .ok (.goto (-61), 3) := by decide +kernel
theorem dX4_lengthFrom_74 : decode cX4_lengthFrom 74 = .ok (.iconst 0, 1) := by decide +kernel
theorem dX4_lengthFrom_75 : decode cX4_lengthFrom 75 = .ok (.istore_n 2, 1) := by decide +kernel
theorem dX4_lengthFrom_76 : decode cX4_lengthFrom 76 = .ok (.iload_n 1, 1) := by decide +kernel
theorem dX4_lengthFrom_77 : decode cX4_lengthFrom 77 = .ok (.iconst 1, 1) := by decide +kernel
theorem dX4_lengthFrom_78 : decode cX4_lengthFrom 78 = .ok (.iadd, 1) := by decide +kernel
theorem dX4_lengthFrom_79 : decode cX4_lengthFrom 79 = .ok (.istore_n 3, 1) := by decide +kernel
theorem dX4_lengthFrom_80 : decode cX4_lengthFrom 80 = .ok (.iload_n 3, 1) := by decide +kernel
theorem dX4_lengthFrom_81 : decode cX4_lengthFrom 81 = .ok (.aload_n 0, 1) := by decide +kernel
theorem dX4_lengthFrom_82 : decode cX4_lengthFrom 82 = .ok (.getfield 28, 3) := by decide +kernel
theorem dX4_lengthFrom_85 : decode cX4_lengthFrom 85 = .ok (.arraylength, 1) := by decide +kernel
theorem dX4_lengthFrom_86 : decode cX4_lengthFrom 86 = .ok (.if_icmp .ge 59, 3) := by decide +kernel
theorem dX4_lengthFrom_89 : decode cX4_lengthFrom 89 = .ok (.iload_n 3, 1) := by decide +kernel
theorem dX4_lengthFrom_90 : decode cX4_lengthFrom 90 = .ok (.ifCond .lt 49, 3) := by decide +kernel
theorem dX4_lengthFrom_93 : decode cX4_lengthFrom 93 = .ok (.aload_n 0, 1) := by decide +kernel
theorem dX4_lengthFrom_94 : decode cX4_lengthFrom 94 = .ok (.getfield 28, 3) := by decide +kernel
theorem dX4_lengthFrom_97 : decode cX4_lengthFrom 97 = .ok (.iload_n 3, 1) := by decide +kernel
theorem dX4_lengthFrom_98 : decode cX4_lengthFrom 98 = .ok (.iaload, 1) := by decide +kernel
theorem dX4_lengthFrom_99 : decode cX4_lengthFrom 99 = .ok (.ifCond .le 40, 3) := by decide +kernel
theorem dX4_lengthFrom_102 : decode cX4_lengthFrom 102 = .ok (.aload_n 0, 1) := by decide +kernel
theorem dX4_lengthFrom_103 : decode cX4_lengthFrom 103 = .ok (.iload_n 1, 1) := by decide +kernel
theorem dX4_lengthFrom_104 : decode cX4_lengthFrom 104 = .ok (.iload_n 3, 1) := by decide +kernel
theorem dX4_lengthFrom_105 : decode cX4_lengthFrom 105 = .ok (.invokevirtual 107, 3) := by decide +kernel
theorem dX4_lengthFrom_108 : decode cX4_lengthFrom 108 = .ok (.ifCond .eq 31, 3) := by decide +kernel
theorem dX4_lengthFrom_111 : decode cX4_lengthFrom 111 = .ok (.iload_n 2, 1) := by decide +kernel
theorem dX4_lengthFrom_112 : decode cX4_lengthFrom 112 = .ok (.ifCond .ne 14, 3) := by decide +kernel
theorem dX4_lengthFrom_115 : decode cX4_lengthFrom 115 = .ok (.aload_n 0, 1) := by decide +kernel
theorem dX4_lengthFrom_116 : decode cX4_lengthFrom 116 = .ok (.getfield 28, 3) := by decide +kernel
theorem dX4_lengthFrom_119 : decode cX4_lengthFrom 119 = .ok (.iload_n 3, 1) := by decide +kernel
theorem dX4_lengthFrom_120 : decode cX4_lengthFrom 120 = .ok (.iaload, 1) := by decide +kernel
theorem dX4_lengthFrom_121 : decode cX4_lengthFrom 121 = .ok (.iconst 1, 1) := by decide +kernel
theorem dX4_lengthFrom_122 : decode cX4_lengthFrom 122 = .ok (.iadd, 1) := by decide +kernel
theorem dX4_lengthFrom_123 : decode cX4_lengthFrom 123 = .ok (.goto 15, 3) := by decide +kernel
theorem dX4_lengthFrom_126 : decode cX4_lengthFrom 126 = .ok (.iload_n 2, 1) := by decide +kernel
theorem dX4_lengthFrom_127 : decode cX4_lengthFrom 127 = .ok (.aload_n 0, 1) := by decide +kernel
theorem dX4_lengthFrom_128 : decode cX4_lengthFrom 128 = .ok (.getfield 28, 3) := by decide +kernel
theorem dX4_lengthFrom_131 : decode cX4_lengthFrom 131 = .ok (.iload_n 3, 1) := by decide +kernel
theorem dX4_lengthFrom_132 : decode cX4_lengthFrom 132 = .ok (.iaload, 1) := by decide +kernel
theorem dX4_lengthFrom_133 : decode cX4_lengthFrom 133 = .ok (.iconst 1, 1) := by decide +kernel
theorem dX4_lengthFrom_134 : decode cX4_lengthFrom 134 = .ok (.iadd, 1) := by decide +kernel
theorem dX4_lengthFrom_135 : decode cX4_lengthFrom 135 = .ok (.invokestatic 111, 3) := by decide +kernel
theorem dX4_lengthFrom_138 : decode cX4_lengthFrom 138 = .ok (.istore_n 2, 1) := by decide +kernel
theorem dX4_lengthFrom_139 : decode cX4_lengthFrom 139 = .ok (.iinc 3 1, 3) := by decide +kernel
theorem dX4_lengthFrom_142 : decode cX4_lengthFrom 142 = .ok (.goto (-62), 3) := by decide +kernel
theorem dX4_lengthFrom_145 : decode cX4_lengthFrom 145 = .ok (.iload_n 2, 1) := by decide +kernel
theorem dX4_lengthFrom_146 : decode cX4_lengthFrom 146 = .ok (.ireturn, 1) := by decide +kernel
theorem dX4_isNear_0 : decode cX4_isNear 0 = .ok (.iload_n 3, 1) := by decide +kernel
theorem dX4_isNear_1 : decode cX4_isNear 1 = .ok (.iconst 1, 1) := by decide +kernel
theorem dX4_isNear_2 : decode cX4_isNear 2 = .ok (.if_icmp .ne 10, 3) := by decide +kernel
theorem dX4_isNear_5 : decode cX4_isNear 5 = .ok (.aload_n 0, 1) := by decide +kernel
theorem dX4_isNear_6 : decode cX4_isNear 6 = .ok (.iload_n 1, 1) := by decide +kernel
theorem dX4_isNear_7 : decode cX4_isNear 7 = .ok (.iload_n 2, 1) := by decide +kernel
theorem dX4_isNear_8 : decode cX4_isNear 8 = .ok (.invokevirtual 107, 3) := by decide +kernel
theorem dX4_isNear_11 : decode cX4_isNear 11 = .ok (.ireturn, 1) := by decide +kernel
theorem dX4_isNear_12 : decode cX4_isNear 12 = .ok (.iload_n 2, 1) := by decide +kernel
theorem dX4_isNear_13 : decode cX4_isNear 13 = .ok (.iconst 1, 1) := by decide +kernel
theorem dX4_isNear_14 : decode cX4_isNear 14 = .ok (.iadd, 1) := by decide +kernel
theorem dX4_isNear_15 : decode cX4_isNear 15 = .ok (.istore 4, 2) := by decide +kernel
theorem dX4_isNear_17 : decode cX4_isNear 17 = .ok (.iload 4, 2) := by decide +kernel
theorem dX4_isNear_19 : decode cX4_isNear 19 = .ok (.aload_n 0, 1) := by decide +kernel
theorem dX4_isNear_20 : decode cX4_isNear 20 = .ok (.getfield 28, 3) := by decide +kernel
theorem dX4_isNear_23 : decode cX4_isNear 23 = .ok (.arraylength, 1) := by decide +kernel
theorem dX4_isNear_24 : decode cX4_isNear 24 = .ok (.if_icmp .ge 39, 3) := by decide +kernel
theorem dX4_isNear_27 : decode cX4_isNear 27 = .ok (.iload 4, 2) := by decide +kernel
theorem dX4_isNear_29 : decode cX4_isNear 29 = .ok (.ifCond .lt 28, 3) := by decide +kernel
theorem dX4_isNear_32 : decode cX4_isNear 32 = .ok (.aload_n 0, 1) := by decide +kernel
theorem dX4_isNear_33 : decode cX4_isNear 33 = .ok (.getfield 28, 3) := by decide +kernel
theorem dX4_isNear_36 : decode cX4_isNear 36 = .ok (.iload 4, 2) := by decide +kernel
theorem dX4_isNear_38 : decode cX4_isNear 38 = .ok (.iaload, 1) := by decide +kernel
theorem dX4_isNear_39 : decode cX4_isNear 39 = .ok (.iload_n 3, 1) := by decide +kernel
theorem dX4_isNear_40 : decode cX4_isNear 40 = .ok (.iconst 1, 1) := by decide +kernel
theorem dX4_isNear_41 : decode cX4_isNear 41 = .ok (.isub, 1) := by decide +kernel
theorem dX4_isNear_42 : decode cX4_isNear 42 = .ok (.if_icmp .ne 15, 3) := by decide +kernel
theorem dX4_isNear_45 : decode cX4_isNear 45 = .ok (.aload_n 0, 1) := by decide +kernel
theorem dX4_isNear_46 : decode cX4_isNear 46 = .ok (.iload_n 1, 1) := by decide +kernel
theorem dX4_isNear_47 : decode cX4_isNear 47 = .ok (.iload 4, 2) := by decide +kernel
theorem dX4_isNear_49 : decode cX4_isNear 49 = .ok (.invokevirtual 107, 3) := by decide +kernel
theorem dX4_isNear_52 : decode cX4_isNear 52 = .ok (.ifCond .eq 5, 3) := by decide +kernel
theorem dX4_isNear_55 : decode cX4_isNear 55 = .ok (.iconst 1, 1) := by decide +kernel
theorem dX4_isNear_56 : decode cX4_isNear 56 = .ok (.ireturn, 1) := by decide +kernel
theorem dX4_isNear_57 : decode cX4_isNear 57 = .ok (.iinc 4 1, 3) := by decide +kernel
theorem dX4_isNear_60 : decode cX4_isNear 60 = .ok (.goto (-43), 3) := by decide +kernel
theorem dX4_isNear_63 : decode cX4_isNear 63 = .ok (.iconst 0, 1) := by decide +kernel
theorem dX4_isNear_64 : decode cX4_isNear 64 = .ok (.ireturn, 1) := by decide +kernel
theorem dX4_follow_0 : decode cX4_follow 0 = .ok (.iload_n 1, 1) := by decide +kernel
theorem dX4_follow_1 : decode cX4_follow 1 = .ok (.istore_n 3, 1) := by decide +kernel
theorem dX4_follow_2 : decode cX4_follow 2 = .ok (.iconst 0, 1) := by decide +kernel
theorem dX4_follow_3 : decode cX4_follow 3 = .ok (.istore 4, 2) := by decide +kernel
theorem dX4_follow_5 : decode cX4_follow 5 = .ok (.iload 4, 2) := by decide +kernel
theorem dX4_follow_7 : decode cX4_follow 7 = .ok (.iload_n 2, 1) := by decide +kernel
theorem dX4_follow_8 : decode cX4_follow 8 = .ok (.if_icmp .ge 40, 3) := by decide +kernel
theorem dX4_follow_11 : decode cX4_follow 11 = .ok (.iload 4, 2) := by decide +kernel
theorem dX4_follow_13 : decode cX4_follow 13 = .ok (.aload_n 0, 1) := by decide +kernel
theorem dX4_follow_14 : decode cX4_follow 14 = .ok (.getfield 31, 3) := by decide +kernel
theorem dX4_follow_17 : decode cX4_follow 17 = .ok (.arraylength, 1) := by decide +kernel
theorem dX4_follow_18 : decode cX4_follow 18 = .ok (.if_icmp .ge 30, 3) := by decide +kernel
theorem dX4_follow_21 : decode cX4_follow 21 = .ok (.aload_n 0, 1) := by decide +kernel
theorem dX4_follow_22 : decode cX4_follow 22 = .ok (.getfield 31, 3) := by decide +kernel
theorem dX4_follow_25 : decode cX4_follow 25 = .ok (.iload 4, 2) := by decide +kernel
theorem dX4_follow_27 : decode cX4_follow 27 = .ok (.iload_n 3, 1) := by decide +kernel
theorem dX4_follow_28 : decode cX4_follow 28 = .ok (.iastore, 1) := by decide +kernel
theorem dX4_follow_29 : decode cX4_follow 29 = .ok (.aload_n 0, 1) := by decide +kernel
theorem dX4_follow_30 : decode cX4_follow 30 = .ok (.iload_n 3, 1) := by decide +kernel
theorem dX4_follow_31 : decode cX4_follow 31 = .ok (.iload_n 1, 1) := by decide +kernel
theorem dX4_follow_32 : decode cX4_follow 32 = .ok (.iload_n 2, 1) := by decide +kernel
theorem dX4_follow_33 : decode cX4_follow 33 = .ok (.iload 4, 2) := by decide +kernel
theorem dX4_follow_35 : decode cX4_follow 35 = .ok (.isub, 1) := by decide +kernel
theorem dX4_follow_36 : decode cX4_follow 36 = .ok (.iconst 1, 1) := by decide +kernel
theorem dX4_follow_37 : decode cX4_follow 37 = .ok (.isub, 1) := by decide +kernel
theorem dX4_follow_38 : decode cX4_follow 38 = .ok (.invokevirtual 114, 3) := by decide +kernel
theorem dX4_follow_41 : decode cX4_follow 41 = .ok (.istore_n 3, 1) := by decide +kernel
theorem dX4_follow_42 : decode cX4_follow 42 = .ok (.iinc 4 1, 3) := by decide +kernel
theorem dX4_follow_45 : decode cX4_follow 45 = .ok (.goto (-40), 3) := by decide +kernel
theorem dX4_follow_48 : decode cX4_follow 48 = .ok (.return_, 1) := by decide +kernel
theorem dX4_firstStep_0 : decode cX4_firstStep 0 = .ok (.iload_n 2, 1) := by decide +kernel
theorem dX4_firstStep_1 : decode cX4_firstStep 1 = .ok (.iconst 1, 1) := by decide +kernel
theorem dX4_firstStep_2 : decode cX4_firstStep 2 = .ok (.iadd, 1) := by decide +kernel
theorem dX4_firstStep_3 : decode cX4_firstStep 3 = .ok (.istore 4, 2) := by decide +kernel
theorem dX4_firstStep_5 : decode cX4_firstStep 5 = .ok (.iload 4, 2) := by decide +kernel
theorem dX4_firstStep_7 : decode cX4_firstStep 7 = .ok (.aload_n 0, 1) := by decide +kernel
theorem dX4_firstStep_8 : decode cX4_firstStep 8 = .ok (.getfield 28, 3) := by decide +kernel
theorem dX4_firstStep_11 : decode cX4_firstStep 11 = .ok (.arraylength, 1) := by decide +kernel
theorem dX4_firstStep_12 : decode cX4_firstStep 12 = .ok (.if_icmp .ge 38, 3) := by decide +kernel
theorem dX4_firstStep_15 : decode cX4_firstStep 15 = .ok (.iload 4, 2) := by decide +kernel
theorem dX4_firstStep_17 : decode cX4_firstStep 17 = .ok (.ifCond .lt 27, 3) := by decide +kernel
theorem dX4_firstStep_20 : decode cX4_firstStep 20 = .ok (.aload_n 0, 1) := by decide +kernel
theorem dX4_firstStep_21 : decode cX4_firstStep 21 = .ok (.getfield 28, 3) := by decide +kernel
theorem dX4_firstStep_24 : decode cX4_firstStep 24 = .ok (.iload 4, 2) := by decide +kernel
theorem dX4_firstStep_26 : decode cX4_firstStep 26 = .ok (.iaload, 1) := by decide +kernel
theorem dX4_firstStep_27 : decode cX4_firstStep 27 = .ok (.iload_n 3, 1) := by decide +kernel
theorem dX4_firstStep_28 : decode cX4_firstStep 28 = .ok (.if_icmp .ne 16, 3) := by decide +kernel
theorem dX4_firstStep_31 : decode cX4_firstStep 31 = .ok (.aload_n 0, 1) := by decide +kernel
theorem dX4_firstStep_32 : decode cX4_firstStep 32 = .ok (.iload_n 1, 1) := by decide +kernel
theorem dX4_firstStep_33 : decode cX4_firstStep 33 = .ok (.iload 4, 2) := by decide +kernel
theorem dX4_firstStep_35 : decode cX4_firstStep 35 = .ok (.invokevirtual 107, 3) := by decide +kernel
theorem dX4_firstStep_38 : decode cX4_firstStep 38 = .ok (.ifCond .eq 6, 3) := by decide +kernel
theorem dX4_firstStep_41 : decode cX4_firstStep 41 = .ok (.iload 4, 2) := by decide +kernel
theorem dX4_firstStep_43 : decode cX4_firstStep 43 = .ok (.ireturn, 1) := by decide +kernel
theorem dX4_firstStep_44 : decode cX4_firstStep 44 = .ok (.iinc 4 1, 3) := by decide +kernel
theorem dX4_firstStep_47 : decode cX4_firstStep 47 = .ok (.goto (-42), 3) := by decide +kernel
theorem dX4_firstStep_50 : decode cX4_firstStep 50 = .ok (.iload_n 2, 1) := by decide +kernel
theorem dX4_firstStep_51 : decode cX4_firstStep 51 = .ok (.ireturn, 1) := by decide +kernel
theorem dX5_init_0 : decode cX5_init 0 = .ok (.aload_n 0, 1) := by decide +kernel
theorem dX5_init_1 : decode cX5_init 1 = .ok (.invokespecial 3, 3) := by decide +kernel
theorem dX5_init_4 : decode cX5_init 4 = .ok (.aload_n 0, 1) := by decide +kernel
theorem dX5_init_5 : decode cX5_init 5 = .ok (.bipush 54, 2) := by decide +kernel
theorem dX5_init_7 : decode cX5_init 7 = .ok (.newarray .long, 2) := by decide +kernel
theorem dX5_init_9 : decode cX5_init 9 = .ok (.putfield 9, 3) := by decide +kernel
theorem dX5_init_12 : decode cX5_init 12 = .ok (.aload_n 0, 1) := by decide +kernel
theorem dX5_init_13 : decode cX5_init 13 = .ok (.aload_n 1, 1) := by decide +kernel
theorem dX5_init_14 : decode cX5_init 14 = .ok (.putfield 15, 3) := by decide +kernel
theorem dX5_init_17 : decode cX5_init 17 = .ok (.aload_n 0, 1) := by decide +kernel
theorem dX5_init_18 : decode cX5_init 18 = .ok (.aload_n 2, 1) := by decide +kernel
theorem dX5_init_19 : decode cX5_init 19 = .ok (.putfield 19, 3) := by decide +kernel
theorem dX5_init_22 : decode cX5_init 22 = .ok (.return_, 1) := by decide +kernel
theorem dX5_value_0 : decode cX5_value 0 = .ok (.iconst 0, 1) := by decide +kernel
theorem dX5_value_1 : decode cX5_value 1 = .ok (.istore_n 2, 1) := by decide +kernel
theorem dX5_value_2 : decode cX5_value 2 = .ok (.iload_n 2, 1) := by decide +kernel
theorem dX5_value_3 : decode cX5_value 3 = .ok (.aload_n 0, 1) := by decide +kernel
theorem dX5_value_4 : decode cX5_value 4 = .ok (.getfield 15, 3) := by decide +kernel
theorem dX5_value_7 : decode cX5_value 7 = .ok (.getfield 23, 3) := by decide +kernel
theorem dX5_value_10 : decode cX5_value 10 = .ok (.getfield 29, 3) := by decide +kernel
theorem dX5_value_13 : decode cX5_value 13 = .ok (.if_icmp .ge 77, 3) := by decide +kernel
theorem dX5_value_16 : decode cX5_value 16 = .ok (.aload_n 0, 1) := by decide +kernel
theorem dX5_value_17 : decode cX5_value 17 = .ok (.getfield 15, 3) := by decide +kernel
theorem dX5_value_20 : decode cX5_value 20 = .ok (.getfield 23, 3) := by decide +kernel
theorem dX5_value_23 : decode cX5_value 23 = .ok (.iload_n 2, 1) := by decide +kernel
theorem dX5_value_24 : decode cX5_value 24 = .ok (.iconst 0, 1) := by decide +kernel
theorem dX5_value_25 : decode cX5_value 25 = .ok (.invokevirtual 35, 3) := by decide +kernel
theorem dX5_value_28 : decode cX5_value 28 = .ok (.istore_n 3, 1) := by decide +kernel
theorem dX5_value_29 : decode cX5_value 29 = .ok (.aload_n 0, 1) := by decide +kernel
theorem dX5_value_30 : decode cX5_value 30 = .ok (.getfield 15, 3) := by decide +kernel
theorem dX5_value_33 : decode cX5_value 33 = .ok (.getfield 23, 3) := by decide +kernel
theorem dX5_value_36 : decode cX5_value 36 = .ok (.iload_n 2, 1) := by decide +kernel
theorem dX5_value_37 : decode cX5_value 37 = .ok (.iconst 1, 1) := by decide +kernel
theorem dX5_value_38 : decode cX5_value 38 = .ok (.invokevirtual 35, 3) := by decide +kernel
theorem dX5_value_41 : decode cX5_value 41 = .ok (.istore 4, 2) := by decide +kernel
theorem dX5_value_43 : decode cX5_value 43 = .ok (.aload_n 0, 1) := by decide +kernel
theorem dX5_value_44 : decode cX5_value 44 = .ok (.iload_n 2, 1) := by decide +kernel
theorem dX5_value_45 : decode cX5_value 45 = .ok (.iconst 0, 1) := by decide +kernel
theorem dX5_value_46 : decode cX5_value 46 = .ok (.aload_n 0, 1) := by decide +kernel
theorem dX5_value_47 : decode cX5_value 47 = .ok (.getfield 19, 3) := by decide +kernel
theorem dX5_value_50 : decode cX5_value 50 = .ok (.iload_n 3, 1) := by decide +kernel
theorem dX5_value_51 : decode cX5_value 51 = .ok (.iload 4, 2) := by decide +kernel
theorem dX5_value_53 : decode cX5_value 53 = .ok (.iload_n 1, 1) := by decide +kernel
theorem dX5_value_54 : decode cX5_value 54 = .ok (.invokevirtual 39, 3) := by decide +kernel
theorem dX5_value_57 : decode cX5_value 57 = .ok (.i2l, 1) := by decide +kernel
theorem dX5_value_58 : decode cX5_value 58 = .ok (.invokevirtual 45, 3) := by decide +kernel
theorem dX5_value_61 : decode cX5_value 61 = .ok (.aload_n 0, 1) := by decide +kernel
theorem dX5_value_62 : decode cX5_value 62 = .ok (.iload_n 2, 1) := by decide +kernel
theorem dX5_value_63 : decode cX5_value 63 = .ok (.iconst 1, 1) := by decide +kernel
theorem dX5_value_64 : decode cX5_value 64 = .ok (.aload_n 0, 1) := by decide +kernel
theorem dX5_value_65 : decode cX5_value 65 = .ok (.getfield 19, 3) := by decide +kernel
theorem dX5_value_68 : decode cX5_value 68 = .ok (.iload 4, 2) := by decide +kernel
theorem dX5_value_70 : decode cX5_value 70 = .ok (.invokevirtual 49, 3) := by decide +kernel
theorem dX5_value_73 : decode cX5_value 73 = .ok (.i2l, 1) := by decide +kernel
theorem dX5_value_74 : decode cX5_value 74 = .ok (.invokevirtual 45, 3) := by decide +kernel
theorem dX5_value_77 : decode cX5_value 77 = .ok (.aload_n 0, 1) := by decide +kernel
theorem dX5_value_78 : decode cX5_value 78 = .ok (.iload_n 2, 1) := by decide +kernel
theorem dX5_value_79 : decode cX5_value 79 = .ok (.iconst 2, 1) := by decide +kernel
theorem dX5_value_80 : decode cX5_value 80 = .ok (.lconst 0, 1) := by decide +kernel
theorem dX5_value_81 : decode cX5_value 81 = .ok (.invokevirtual 45, 3) := by decide +kernel
theorem dX5_value_84 : decode cX5_value 84 = .ok (.iinc 2 1, 3) := by decide +kernel
theorem dX5_value_87 : decode cX5_value 87 = .ok (.goto (-85), 3) := by decide +kernel
theorem dX5_value_90 : decode cX5_value 90 = .ok (.return_, 1) := by decide +kernel
theorem dX5_setSilver_0 : decode cX5_setSilver 0 = .ok (.iconst 0, 1) := by decide +kernel
theorem dX5_setSilver_1 : decode cX5_setSilver 1 = .ok (.istore 5, 2) := by decide +kernel
theorem dX5_setSilver_3 : decode cX5_setSilver 3 = .ok (.iload 5, 2) := by decide +kernel
theorem dX5_setSilver_5 : decode cX5_setSilver 5 = .ok (.iconst 3, 1) := by decide +kernel
theorem dX5_setSilver_6 : decode cX5_setSilver 6 = .ok (.if_icmp .ge 90, 3) := by decide +kernel
theorem dX5_setSilver_9 : decode cX5_setSilver 9 = .ok (.lload_n 3, 1) := by decide +kernel
theorem dX5_setSilver_10 : decode cX5_setSilver 10 = .ok (.aload_n 0, 1) := by decide +kernel
theorem dX5_setSilver_11 : decode cX5_setSilver 11 = .ok (.getfield 15, 3) := by decide +kernel
theorem dX5_setSilver_14 : decode cX5_setSilver 14 = .ok (.getfield 53, 3) := by decide +kernel
theorem dX5_setSilver_17 : decode cX5_setSilver 17 = .ok (.iconst 0, 1) := by decide +kernel
theorem dX5_setSilver_18 : decode cX5_setSilver 18 = .ok (.iload 5, 2) := by decide +kernel
theorem dX5_setSilver_20 : decode cX5_setSilver 20 = .ok (.invokevirtual 35, 3) := by decide +kernel
theorem dX5_setSilver_23 : decode cX5_setSilver 23 = .ok (.i2l, 1) := by decide +kernel
theorem dX5_setSilver_24 : decode cX5_setSilver 24 = .ok (.lmul, 1) := by decide +kernel
theorem dX5_setSilver_25 : decode cX5_setSilver 25 = .ok (.ldc2_w 56, 3) := by decide +kernel
theorem dX5_setSilver_28 : decode cX5_setSilver 28 = .ok (.ldiv, 1) := by decide +kernel
theorem dX5_setSilver_29 : decode cX5_setSilver 29 = .ok (.aload_n 0, 1) := by decide +kernel
theorem dX5_setSilver_30 : decode cX5_setSilver 30 = .ok (.getfield 15, 3) := by decide +kernel
theorem dX5_setSilver_33 : decode cX5_setSilver 33 = .ok (.getfield 23, 3) := by decide +kernel
theorem dX5_setSilver_36 : decode cX5_setSilver 36 = .ok (.iload_n 1, 1) := by decide +kernel
theorem dX5_setSilver_37 : decode cX5_setSilver 37 = .ok (.iconst 2, 1) := by decide +kernel
theorem dX5_setSilver_38 : decode cX5_setSilver 38 = .ok (.invokevirtual 35, 3) := by decide +kernel
theorem dX5_setSilver_41 : decode cX5_setSilver 41 = .ok (.i2l, 1) := by decide +kernel
theorem dX5_setSilver_42 : decode cX5_setSilver 42 = .ok (.lsub, 1) := by decide +kernel
theorem dX5_setSilver_43 : decode cX5_setSilver 43 = .ok (.lstore 6, 2) := by decide +kernel
theorem dX5_setSilver_45 : decode cX5_setSilver 45 = .ok (.iload_n 1, 1) := by decide +kernel
theorem dX5_setSilver_46 : decode cX5_setSilver 46 = .ok (.iconst 3, 1) := by decide +kernel
theorem dX5_setSilver_47 : decode cX5_setSilver 47 = .ok (.imul, 1) := by decide +kernel
theorem dX5_setSilver_48 : decode cX5_setSilver 48 = .ok (.iload_n 2, 1) := by decide +kernel
theorem dX5_setSilver_49 : decode cX5_setSilver 49 = .ok (.iadd, 1) := by decide +kernel
theorem dX5_setSilver_50 : decode cX5_setSilver 50 = .ok (.iconst 3, 1) := by decide +kernel
theorem dX5_setSilver_51 : decode cX5_setSilver 51 = .ok (.imul, 1) := by decide +kernel
theorem dX5_setSilver_52 : decode cX5_setSilver 52 = .ok (.iload 5, 2) := by decide +kernel
theorem dX5_setSilver_54 : decode cX5_setSilver 54 = .ok (.iadd, 1) := by decide +kernel
theorem dX5_setSilver_55 : decode cX5_setSilver 55 = .ok (.istore 8, 2) := by decide +kernel
theorem dX5_setSilver_57 : decode cX5_setSilver 57 = .ok (.iload 8, 2) := by decide +kernel
theorem dX5_setSilver_59 : decode cX5_setSilver 59 = .ok (.ifCond .lt 31, 3) := by decide +kernel
theorem dX5_setSilver_62 : decode cX5_setSilver 62 = .ok (.iload 8, 2) := by decide +kernel
theorem dX5_setSilver_64 : decode cX5_setSilver 64 = .ok (.aload_n 0, 1) := by decide +kernel
theorem dX5_setSilver_65 : decode cX5_setSilver 65 = .ok (.getfield 9, 3) := by decide +kernel
theorem dX5_setSilver_68 : decode cX5_setSilver 68 = .ok (.arraylength, 1) := by decide +kernel
theorem dX5_setSilver_69 : decode cX5_setSilver 69 = .ok (.if_icmp .ge 21, 3) := by decide +kernel
theorem dX5_setSilver_72 : decode cX5_setSilver 72 = .ok (.aload_n 0, 1) := by decide +kernel
theorem dX5_setSilver_73 : decode cX5_setSilver 73 = .ok (.getfield 9, 3) := by decide +kernel
theorem dX5_setSilver_76 : decode cX5_setSilver 76 = .ok (.iload 8, 2) := by decide +kernel
theorem dX5_setSilver_78 : decode cX5_setSilver 78 = .ok (.iload_n 2, 1) := by decide +kernel
theorem dX5_setSilver_79 : decode cX5_setSilver 79 = .ok (.iconst 2, 1) := by decide +kernel
theorem dX5_setSilver_80 : decode cX5_setSilver 80 = .ok (.if_icmp .ne 7, 3) := by decide +kernel
theorem dX5_setSilver_83 : decode cX5_setSilver 83 = .ok (.lconst 0, 1) := by decide +kernel
theorem dX5_setSilver_84 : decode cX5_setSilver 84 = .ok (.goto 5, 3) := by decide +kernel
theorem dX5_setSilver_87 : decode cX5_setSilver 87 = .ok (.lload 6, 2) := by decide +kernel
theorem dX5_setSilver_89 : decode cX5_setSilver 89 = .ok (.lastore, 1) := by decide +kernel
theorem dX5_setSilver_90 : decode cX5_setSilver 90 = .ok (.iinc 5 1, 3) := by decide +kernel
theorem dX5_setSilver_93 : decode cX5_setSilver 93 = .ok (.goto (-90), 3) := by decide +kernel
theorem dX5_setSilver_96 : decode cX5_setSilver 96 = .ok (.return_, 1) := by decide +kernel
theorem dX5_silverOf_0 : decode cX5_silverOf 0 = .ok (.iload_n 1, 1) := by decide +kernel
theorem dX5_silverOf_1 : decode cX5_silverOf 1 = .ok (.iconst 3, 1) := by decide +kernel
theorem dX5_silverOf_2 : decode cX5_silverOf 2 = .ok (.imul, 1) := by decide +kernel
theorem dX5_silverOf_3 : decode cX5_silverOf 3 = .ok (.iload_n 2, 1) := by decide +kernel
theorem dX5_silverOf_4 : decode cX5_silverOf 4 = .ok (.iadd, 1) := by decide +kernel
theorem dX5_silverOf_5 : decode cX5_silverOf 5 = .ok (.iconst 3, 1) := by decide +kernel
theorem dX5_silverOf_6 : decode cX5_silverOf 6 = .ok (.imul, 1) := by decide +kernel
theorem dX5_silverOf_7 : decode cX5_silverOf 7 = .ok (.iload_n 3, 1) := by decide +kernel
theorem dX5_silverOf_8 : decode cX5_silverOf 8 = .ok (.iadd, 1) := by decide +kernel
theorem dX5_silverOf_9 : decode cX5_silverOf 9 = .ok (.istore 4, 2) := by decide +kernel
theorem dX5_silverOf_11 : decode cX5_silverOf 11 = .ok (.iload 4, 2) := by decide +kernel
theorem dX5_silverOf_13 : decode cX5_silverOf 13 = .ok (.ifCond .lt 23, 3) := by decide +kernel
theorem dX5_silverOf_16 : decode cX5_silverOf 16 = .ok (.iload 4, 2) := by decide +kernel
theorem dX5_silverOf_18 : decode cX5_silverOf 18 = .ok (.aload_n 0, 1) := by decide +kernel
theorem dX5_silverOf_19 : decode cX5_silverOf 19 = .ok (.getfield 9, 3) := by decide +kernel
theorem dX5_silverOf_22 : decode cX5_silverOf 22 = .ok (.arraylength, 1) := by decide +kernel
theorem dX5_silverOf_23 : decode cX5_silverOf 23 = .ok (.if_icmp .ge 13, 3) := by decide +kernel
theorem dX5_silverOf_26 : decode cX5_silverOf 26 = .ok (.aload_n 0, 1) := by decide +kernel
theorem dX5_silverOf_27 : decode cX5_silverOf 27 = .ok (.getfield 9, 3) := by decide +kernel
theorem dX5_silverOf_30 : decode cX5_silverOf 30 = .ok (.iload 4, 2) := by decide +kernel
theorem dX5_silverOf_32 : decode cX5_silverOf 32 = .ok (.laload, 1) := by decide +kernel
theorem dX5_silverOf_33 : decode cX5_silverOf 33 = .ok (.goto 4, 3) := by decide +kernel
theorem dX5_silverOf_36 : decode cX5_silverOf 36 = .ok (.lconst 0, 1) := by decide +kernel
theorem dX5_silverOf_37 : decode cX5_silverOf 37 = .ok (.lreturn, 1) := by decide +kernel
theorem dX5_choose_0 : decode cX5_choose 0 = .ok (.iconst 1, 1) := by decide +kernel
theorem dX5_choose_1 : decode cX5_choose 1 = .ok (.istore_n 1, 1) := by decide +kernel
theorem dX5_choose_2 : decode cX5_choose 2 = .ok (.iconst 0, 1) := by decide +kernel
theorem dX5_choose_3 : decode cX5_choose 3 = .ok (.istore_n 2, 1) := by decide +kernel
theorem dX5_choose_4 : decode cX5_choose 4 = .ok (.iload_n 2, 1) := by decide +kernel
theorem dX5_choose_5 : decode cX5_choose 5 = .ok (.aload_n 0, 1) := by decide +kernel
theorem dX5_choose_6 : decode cX5_choose 6 = .ok (.getfield 15, 3) := by decide +kernel
theorem dX5_choose_9 : decode cX5_choose 9 = .ok (.getfield 23, 3) := by decide +kernel
theorem dX5_choose_12 : decode cX5_choose 12 = .ok (.getfield 29, 3) := by decide +kernel
theorem dX5_choose_15 : decode cX5_choose 15 = .ok (.if_icmp .ge 13, 3) := by decide +kernel
theorem dX5_choose_18 : decode cX5_choose 18 = .ok (.iload_n 1, 1) := by decide +kernel
theorem dX5_choose_19 : decode cX5_choose 19 = .ok (.iconst 3, 1) := by decide +kernel
theorem dX5_choose_20 : decode cX5_choose 20 = .ok (.imul, 1) := by decide +kernel
theorem dX5_choose_21 : decode cX5_choose 21 = .ok (.istore_n 1, 1) := by decide +kernel
theorem dX5_choose_22 : decode cX5_choose 22 = .ok (.iinc 2 1, 3) := by decide +kernel
theorem dX5_choose_25 : decode cX5_choose 25 = .ok (.goto (-21), 3) := by decide +kernel
theorem dX5_choose_28 : decode cX5_choose 28 = .ok (.aload_n 0, 1) := by decide +kernel
theorem dX5_choose_29 : decode cX5_choose 29 = .ok (.iconst 0, 1) := by decide +kernel
theorem dX5_choose_30 : decode cX5_choose 30 = .ok (.putfield 58, 3) := by decide +kernel
theorem dX5_choose_33 : decode cX5_choose 33 = .ok (.aload_n 0, 1) := by decide +kernel
theorem dX5_choose_34 : decode cX5_choose 34 = .ok (.aload_n 0, 1) := by decide +kernel
theorem dX5_choose_35 : decode cX5_choose 35 = .ok (.iconst 0, 1) := by decide +kernel
theorem dX5_choose_36 : decode cX5_choose 36 = .ok (.invokevirtual 61, 3) := by decide +kernel
theorem dX5_choose_39 : decode cX5_choose 39 = .ok (.putfield 65, 3) := by decide +kernel
theorem dX5_choose_42 : decode cX5_choose 42 = .ok (.iconst 1, 1) := by decide +kernel
theorem dX5_choose_43 : decode cX5_choose 43 = .ok (.istore_n 2, 1) := by decide +kernel
theorem dX5_choose_44 : decode cX5_choose 44 = .ok (.iload_n 2, 1) := by decide +kernel
theorem dX5_choose_45 : decode cX5_choose 45 = .ok (.iload_n 1, 1) := by decide +kernel
theorem dX5_choose_46 : decode cX5_choose 46 = .ok (.if_icmp .ge 34, 3) := by decide +kernel
theorem dX5_choose_49 : decode cX5_choose 49 = .ok (.aload_n 0, 1) := by decide +kernel
theorem dX5_choose_50 : decode cX5_choose 50 = .ok (.iload_n 2, 1) := by decide +kernel
theorem dX5_choose_51 : decode cX5_choose 51 = .ok (.invokevirtual 61, 3) := by decide +kernel
theorem dX5_choose_54 : decode cX5_choose 54 = .ok (.lstore_n 3, 1) := by decide +kernel
theorem dX5_choose_55 : decode cX5_choose 55 = .ok (.lload_n 3, 1) := by decide +kernel
theorem dX5_choose_56 : decode cX5_choose 56 = .ok (.aload_n 0, 1) := by decide +kernel
theorem dX5_choose_57 : decode cX5_choose 57 = .ok (.getfield 65, 3) := by decide +kernel
theorem dX5_choose_60 : decode cX5_choose 60 = .ok (.lcmp, 1) := by decide +kernel
theorem dX5_choose_61 : decode cX5_choose 61 = .ok (.ifCond .le 13, 3) := by decide +kernel
theorem dX5_choose_64 : decode cX5_choose 64 = .ok (.aload_n 0, 1) := by decide +kernel
theorem dX5_choose_65 : decode cX5_choose 65 = .ok (.lload_n 3, 1) := by decide +kernel
theorem dX5_choose_66 : decode cX5_choose 66 = .ok (.putfield 65, 3) := by decide +kernel
theorem dX5_choose_69 : decode cX5_choose 69 = .ok (.aload_n 0, 1) := by decide +kernel
theorem dX5_choose_70 : decode cX5_choose 70 = .ok (.iload_n 2, 1) := by decide +kernel
theorem dX5_choose_71 : decode cX5_choose 71 = .ok (.putfield 58, 3) := by decide +kernel
theorem dX5_choose_74 : decode cX5_choose 74 = .ok (.iinc 2 1, 3) := by decide +kernel
theorem dX5_choose_77 : decode cX5_choose 77 = .ok (.goto (-33), 3) := by decide +kernel
theorem dX5_choose_80 : decode cX5_choose 80 = .ok (.return_, 1) := by decide +kernel
theorem dX5_worstOf_0 : decode cX5_worstOf 0 = .ok (.lconst 0, 1) := by decide +kernel
theorem dX5_worstOf_1 : decode cX5_worstOf 1 = .ok (.lstore_n 2, 1) := by decide +kernel
theorem dX5_worstOf_2 : decode cX5_worstOf 2 = .ok (.lconst 0, 1) := by decide +kernel
theorem dX5_worstOf_3 : decode cX5_worstOf 3 = .ok (.lstore 4, 2) := by decide +kernel
theorem dX5_worstOf_5 : decode cX5_worstOf 5 = .ok (.lconst 0, 1) := by decide +kernel
theorem dX5_worstOf_6 : decode cX5_worstOf 6 = .ok (.lstore 6, 2) := by decide +kernel
theorem dX5_worstOf_8 : decode cX5_worstOf 8 = .ok (.iload_n 1, 1) := by decide +kernel
theorem dX5_worstOf_9 : decode cX5_worstOf 9 = .ok (.istore 8, 2) := by decide +kernel
theorem dX5_worstOf_11 : decode cX5_worstOf 11 = .ok (.aload_n 0, 1) := by decide +kernel
theorem dX5_worstOf_12 : decode cX5_worstOf 12 = .ok (.getfield 15, 3) := by decide +kernel
theorem dX5_worstOf_15 : decode cX5_worstOf 15 = .ok (.getfield 23, 3) := by decide +kernel
theorem dX5_worstOf_18 : decode cX5_worstOf 18 = .ok (.getfield 29, 3) := by decide +kernel
theorem dX5_worstOf_21 : decode cX5_worstOf 21 = .ok (.iconst 1, 1) := by decide +kernel
theorem dX5_worstOf_22 : decode cX5_worstOf 22 = .ok (.isub, 1) := by decide +kernel
theorem dX5_worstOf_23 : decode cX5_worstOf 23 = .ok (.istore 9, 2) := by decide +kernel
theorem dX5_worstOf_25 : decode cX5_worstOf 25 = .ok (.iload 9, 2) := by decide +kernel
theorem dX5_worstOf_27 : decode cX5_worstOf 27 = .ok (.ifCond .lt 61, 3) := by decide +kernel
theorem dX5_worstOf_30 : decode cX5_worstOf 30 = .ok (.iload 8, 2) := by decide +kernel
theorem dX5_worstOf_32 : decode cX5_worstOf 32 = .ok (.iconst 3, 1) := by decide +kernel
theorem dX5_worstOf_33 : decode cX5_worstOf 33 = .ok (.irem, 1) := by decide +kernel
theorem dX5_worstOf_34 : decode cX5_worstOf 34 = .ok (.istore 10, 2) := by decide +kernel
theorem dX5_worstOf_36 : decode cX5_worstOf 36 = .ok (.iload 8, 2) := by decide +kernel
theorem dX5_worstOf_38 : decode cX5_worstOf 38 = .ok (.iconst 3, 1) := by decide +kernel
theorem dX5_worstOf_39 : decode cX5_worstOf 39 = .ok (.idiv, 1) := by decide +kernel
theorem dX5_worstOf_40 : decode cX5_worstOf 40 = .ok (.istore 8, 2) := by decide +kernel
theorem dX5_worstOf_42 : decode cX5_worstOf 42 = .ok (.lload_n 2, 1) := by decide +kernel
theorem dX5_worstOf_43 : decode cX5_worstOf 43 = .ok (.aload_n 0, 1) := by decide +kernel
theorem dX5_worstOf_44 : decode cX5_worstOf 44 = .ok (.iload 9, 2) := by decide +kernel
theorem dX5_worstOf_46 : decode cX5_worstOf 46 = .ok (.iload 10, 2) := by decide +kernel
theorem dX5_worstOf_48 : decode cX5_worstOf 48 = .ok (.iconst 0, 1) := by decide +kernel
theorem dX5_worstOf_49 : decode cX5_worstOf 49 = .ok (.invokevirtual 69, 3) := by decide +kernel
theorem dX5_worstOf_52 : decode cX5_worstOf 52 = .ok (.ladd, 1) := by decide +kernel
theorem dX5_worstOf_53 : decode cX5_worstOf 53 = .ok (.lstore_n 2, 1) := by decide +kernel
theorem dX5_worstOf_54 : decode cX5_worstOf 54 = .ok (.lload 4, 2) := by decide +kernel
theorem dX5_worstOf_56 : decode cX5_worstOf 56 = .ok (.aload_n 0, 1) := by decide +kernel
theorem dX5_worstOf_57 : decode cX5_worstOf 57 = .ok (.iload 9, 2) := by decide +kernel
theorem dX5_worstOf_59 : decode cX5_worstOf 59 = .ok (.iload 10, 2) := by decide +kernel
theorem dX5_worstOf_61 : decode cX5_worstOf 61 = .ok (.iconst 1, 1) := by decide +kernel
theorem dX5_worstOf_62 : decode cX5_worstOf 62 = .ok (.invokevirtual 69, 3) := by decide +kernel
theorem dX5_worstOf_65 : decode cX5_worstOf 65 = .ok (.ladd, 1) := by decide +kernel
theorem dX5_worstOf_66 : decode cX5_worstOf 66 = .ok (.lstore 4, 2) := by decide +kernel
theorem dX5_worstOf_68 : decode cX5_worstOf 68 = .ok (.lload 6, 2) := by decide +kernel
theorem dX5_worstOf_70 : decode cX5_worstOf 70 = .ok (.aload_n 0, 1) := by decide +kernel
theorem dX5_worstOf_71 : decode cX5_worstOf 71 = .ok (.iload 9, 2) := by decide +kernel
theorem dX5_worstOf_73 : decode cX5_worstOf 73 = .ok (.iload 10, 2) := by decide +kernel
theorem dX5_worstOf_75 : decode cX5_worstOf 75 = .ok (.iconst 2, 1) := by decide +kernel
theorem dX5_worstOf_76 : decode cX5_worstOf 76 = .ok (.invokevirtual 69, 3) := by decide +kernel
theorem dX5_worstOf_79 : decode cX5_worstOf 79 = .ok (.ladd, 1) := by decide +kernel
theorem dX5_worstOf_80 : decode cX5_worstOf 80 = .ok (.lstore 6, 2) := by decide +kernel
theorem dX5_worstOf_82 : decode cX5_worstOf 82 = .ok (.iinc 9 (-1), 3) := by decide +kernel
theorem dX5_worstOf_85 : decode cX5_worstOf 85 = .ok (.goto (-60), 3) := by decide +kernel
theorem dX5_worstOf_88 : decode cX5_worstOf 88 = .ok (.lload_n 2, 1) := by decide +kernel
theorem dX5_worstOf_89 : decode cX5_worstOf 89 = .ok (.lload 4, 2) := by decide +kernel
theorem dX5_worstOf_91 : decode cX5_worstOf 91 = .ok (.lload 6, 2) := by decide +kernel
theorem dX5_worstOf_93 : decode cX5_worstOf 93 = .ok (.invokestatic 73, 3) := by decide +kernel
theorem dX5_worstOf_96 : decode cX5_worstOf 96 = .ok (.invokestatic 73, 3) := by decide +kernel
theorem dX5_worstOf_99 : decode cX5_worstOf 99 = .ok (.lreturn, 1) := by decide +kernel
theorem dX5_wayOf_0 : decode cX5_wayOf 0 = .ok (.iload_n 1, 1) := by decide +kernel
theorem dX5_wayOf_1 : decode cX5_wayOf 1 = .ok (.istore_n 3, 1) := by decide +kernel
theorem dX5_wayOf_2 : decode cX5_wayOf 2 = .ok (.aload_n 0, 1) := by decide +kernel
theorem dX5_wayOf_3 : decode cX5_wayOf 3 = .ok (.getfield 15, 3) := by decide +kernel
theorem dX5_wayOf_6 : decode cX5_wayOf 6 = .ok (.getfield 23, 3) := by decide +kernel
theorem dX5_wayOf_9 : decode cX5_wayOf 9 = .ok (.getfield 29, 3) := by decide +kernel
theorem dX5_wayOf_12 : decode cX5_wayOf 12 = .ok (.iconst 1, 1) := by decide +kernel
theorem dX5_wayOf_13 : decode cX5_wayOf 13 = .ok (.isub, 1) := by decide +kernel
theorem dX5_wayOf_14 : decode cX5_wayOf 14 = .ok (.istore 4, 2) := by decide +kernel
theorem dX5_wayOf_16 : decode cX5_wayOf 16 = .ok (.iload 4, 2) := by decide +kernel
theorem dX5_wayOf_18 : decode cX5_wayOf 18 = .ok (.iload_n 2, 1) := by decide +kernel
theorem dX5_wayOf_19 : decode cX5_wayOf 19 = .ok (.if_icmp .le 13, 3) := by decide +kernel
theorem dX5_wayOf_22 : decode cX5_wayOf 22 = .ok (.iload_n 3, 1) := by decide +kernel
theorem dX5_wayOf_23 : decode cX5_wayOf 23 = .ok (.iconst 3, 1) := by decide +kernel
theorem dX5_wayOf_24 : decode cX5_wayOf 24 = .ok (.idiv, 1) := by decide +kernel
theorem dX5_wayOf_25 : decode cX5_wayOf 25 = .ok (.istore_n 3, 1) := by decide +kernel
theorem dX5_wayOf_26 : decode cX5_wayOf 26 = .ok (.iinc 4 (-1), 3) := by decide +kernel
theorem dX5_wayOf_29 : decode cX5_wayOf 29 = .ok (.goto (-13), 3) := by decide +kernel
theorem dX5_wayOf_32 : decode cX5_wayOf 32 = .ok (.iload_n 3, 1) := by decide +kernel
theorem dX5_wayOf_33 : decode cX5_wayOf 33 = .ok (.iconst 3, 1) := by decide +kernel
theorem dX5_wayOf_34 : decode cX5_wayOf 34 = .ok (.irem, 1) := by decide +kernel
theorem dX5_wayOf_35 : decode cX5_wayOf 35 = .ok (.ireturn, 1) := by decide +kernel
theorem dX6_init_0 : decode cX6_init 0 = .ok (.aload_n 0, 1) := by decide +kernel
theorem dX6_init_1 : decode cX6_init 1 = .ok (.invokespecial 3, 3) := by decide +kernel
theorem dX6_init_4 : decode cX6_init 4 = .ok (.aload_n 0, 1) := by decide +kernel
theorem dX6_init_5 : decode cX6_init 5 = .ok (.bipush 30, 2) := by decide +kernel
theorem dX6_init_7 : decode cX6_init 7 = .ok (.newarray .int, 2) := by decide +kernel
theorem dX6_init_9 : decode cX6_init 9 = .ok (.putfield 9, 3) := by decide +kernel
theorem dX6_init_12 : decode cX6_init 12 = .ok (.aload_n 0, 1) := by decide +kernel
theorem dX6_init_13 : decode cX6_init 13 = .ok (.aload_n 1, 1) := by decide +kernel
theorem dX6_init_14 : decode cX6_init 14 = .ok (.putfield 15, 3) := by decide +kernel
theorem dX6_init_17 : decode cX6_init 17 = .ok (.return_, 1) := by decide +kernel
theorem dX6_fill_0 : decode cX6_fill 0 = .ok (.aload_n 0, 1) := by decide +kernel
theorem dX6_fill_1 : decode cX6_fill 1 = .ok (.getfield 9, 3) := by decide +kernel
theorem dX6_fill_4 : decode cX6_fill 4 = .ok (.iconst 0, 1) := by decide +kernel
theorem dX6_fill_5 : decode cX6_fill 5 = .ok (.invokestatic 19, 3) := by decide +kernel
theorem dX6_fill_8 : decode cX6_fill 8 = .ok (.iconst 1, 1) := by decide +kernel
theorem dX6_fill_9 : decode cX6_fill 9 = .ok (.istore_n 1, 1) := by decide +kernel
theorem dX6_fill_10 : decode cX6_fill 10 = .ok (.iconst 0, 1) := by decide +kernel
theorem dX6_fill_11 : decode cX6_fill 11 = .ok (.istore_n 2, 1) := by decide +kernel
theorem dX6_fill_12 : decode cX6_fill 12 = .ok (.iload_n 2, 1) := by decide +kernel
theorem dX6_fill_13 : decode cX6_fill 13 = .ok (.sipush 241, 3) := by decide +kernel
theorem dX6_fill_16 : decode cX6_fill 16 = .ok (.if_icmp .ge 109, 3) := by decide +kernel
theorem dX6_fill_19 : decode cX6_fill 19 = .ok (.iload_n 1, 1) := by decide +kernel
theorem dX6_fill_20 : decode cX6_fill 20 = .ok (.ifCond .eq 105, 3) := by decide +kernel
theorem dX6_fill_23 : decode cX6_fill 23 = .ok (.iconst 0, 1) := by decide +kernel
theorem dX6_fill_24 : decode cX6_fill 24 = .ok (.istore_n 1, 1) := by decide +kernel
theorem dX6_fill_25 : decode cX6_fill 25 = .ok (.iconst 0, 1) := by decide +kernel
theorem dX6_fill_26 : decode cX6_fill 26 = .ok (.istore_n 3, 1) := by decide +kernel
theorem dX6_fill_27 : decode cX6_fill 27 = .ok (.iload_n 3, 1) := by decide +kernel
theorem dX6_fill_28 : decode cX6_fill 28 = .ok (.aload_n 0, 1) := by decide +kernel
theorem dX6_fill_29 : decode cX6_fill 29 = .ok (.getfield 15, 3) := by decide +kernel
theorem dX6_fill_32 : decode cX6_fill 32 = .ok (.getfield 25, 3) := by decide +kernel
theorem dX6_fill_35 : decode cX6_fill 35 = .ok (.getfield 31, 3) := by decide +kernel
theorem dX6_fill_38 : decode cX6_fill 38 = .ok (.if_icmp .ge 81, 3) := by decide +kernel
theorem dX6_fill_41 : decode cX6_fill 41 = .ok (.iload_n 3, 1) := by decide +kernel
theorem dX6_fill_42 : decode cX6_fill 42 = .ok (.aload_n 0, 1) := by decide +kernel
theorem dX6_fill_43 : decode cX6_fill 43 = .ok (.getfield 9, 3) := by decide +kernel
theorem dX6_fill_46 : decode cX6_fill 46 = .ok (.arraylength, 1) := by decide +kernel
theorem dX6_fill_47 : decode cX6_fill 47 = .ok (.if_icmp .ge 72, 3) := by decide +kernel
theorem dX6_fill_50 : decode cX6_fill 50 = .ok (.aload_n 0, 1) := by decide +kernel
theorem dX6_fill_51 : decode cX6_fill 51 = .ok (.getfield 15, 3) := by decide +kernel
theorem dX6_fill_54 : decode cX6_fill 54 = .ok (.getfield 25, 3) := by decide +kernel
theorem dX6_fill_57 : decode cX6_fill 57 = .ok (.iload_n 3, 1) := by decide +kernel
theorem dX6_fill_58 : decode cX6_fill 58 = .ok (.iconst 0, 1) := by decide +kernel
theorem dX6_fill_59 : decode cX6_fill 59 = .ok (.invokevirtual 37, 3) := by decide +kernel
theorem dX6_fill_62 : decode cX6_fill 62 = .ok (.istore 4, 2) := by decide +kernel
theorem dX6_fill_64 : decode cX6_fill 64 = .ok (.aload_n 0, 1) := by decide +kernel
theorem dX6_fill_65 : decode cX6_fill 65 = .ok (.iload 4, 2) := by decide +kernel
theorem dX6_fill_67 : decode cX6_fill 67 = .ok (.aload_n 0, 1) := by decide +kernel
theorem dX6_fill_68 : decode cX6_fill 68 = .ok (.getfield 15, 3) := by decide +kernel
theorem dX6_fill_71 : decode cX6_fill 71 = .ok (.getfield 25, 3) := by decide +kernel
theorem dX6_fill_74 : decode cX6_fill 74 = .ok (.iload_n 3, 1) := by decide +kernel
theorem dX6_fill_75 : decode cX6_fill 75 = .ok (.iconst 2, 1) := by decide +kernel
theorem dX6_fill_76 : decode cX6_fill 76 = .ok (.invokevirtual 37, 3) := by decide +kernel
theorem dX6_fill_79 : decode cX6_fill 79 = .ok (.invokevirtual 41, 3) := by decide +kernel
theorem dX6_fill_82 : decode cX6_fill 82 = .ok (.istore 5, 2) := by decide +kernel
theorem dX6_fill_84 : decode cX6_fill 84 = .ok (.iload_n 1, 1) := by decide +kernel
theorem dX6_fill_85 : decode cX6_fill 85 = .ok (.ifCond .ne 14, 3) := by decide +kernel
theorem dX6_fill_88 : decode cX6_fill 88 = .ok (.iload 5, 2) := by decide +kernel
theorem dX6_fill_90 : decode cX6_fill 90 = .ok (.aload_n 0, 1) := by decide +kernel
theorem dX6_fill_91 : decode cX6_fill 91 = .ok (.getfield 9, 3) := by decide +kernel
theorem dX6_fill_94 : decode cX6_fill 94 = .ok (.iload_n 3, 1) := by decide +kernel
theorem dX6_fill_95 : decode cX6_fill 95 = .ok (.iaload, 1) := by decide +kernel
theorem dX6_fill_96 : decode cX6_fill 96 = .ok (.if_icmp .eq 7, 3) := by decide +kernel
theorem dX6_fill_99 : decode cX6_fill 99 = .ok (.iconst 1, 1) := by decide +kernel
theorem dX6_fill_100 : decode cX6_fill 100 = .ok (.goto 4, 3) := by decide +kernel
theorem dX6_fill_103 : decode cX6_fill 103 = .ok (.iconst 0, 1) := by decide +kernel
theorem dX6_fill_104 : decode cX6_fill 104 = .ok (.istore_n 1, 1) := by decide +kernel
theorem dX6_fill_105 : decode cX6_fill 105 = .ok (.aload_n 0, 1) := by decide +kernel
theorem dX6_fill_106 : decode cX6_fill 106 = .ok (.getfield 9, 3) := by decide +kernel
theorem dX6_fill_109 : decode cX6_fill 109 = .ok (.iload_n 3, 1) := by decide +kernel
theorem dX6_fill_110 : decode cX6_fill 110 = .ok (.iload 5, 2) := by decide +kernel
theorem dX6_fill_112 : decode cX6_fill 112 = .ok (.iastore, 1) := by decide +kernel
theorem dX6_fill_113 : decode cX6_fill 113 = .ok (.iinc 3 1, 3) := by decide +kernel
theorem dX6_fill_116 : decode cX6_fill 116 = .ok (.goto (-89), 3) := by decide +kernel
theorem dX6_fill_119 : decode cX6_fill 119 = .ok (.iinc 2 1, 3) := by decide +kernel
theorem dX6_fill_122 : decode cX6_fill 122 = .ok (.goto (-110), 3) := by decide +kernel
theorem dX6_fill_125 : decode cX6_fill 125 = .ok (.return_, 1) := by decide +kernel
theorem dX6_knownTo_0 : decode cX6_knownTo 0 = .ok (.iconst 0, 1) := by decide +kernel
theorem dX6_knownTo_1 : decode cX6_knownTo 1 = .ok (.istore_n 3, 1) := by decide +kernel
theorem dX6_knownTo_2 : decode cX6_knownTo 2 = .ok (.iconst 0, 1) := by decide +kernel
theorem dX6_knownTo_3 : decode cX6_knownTo 3 = .ok (.istore 4, 2) := by decide +kernel
theorem dX6_knownTo_5 : decode cX6_knownTo 5 = .ok (.iload 4, 2) := by decide +kernel
theorem dX6_knownTo_7 : decode cX6_knownTo 7 = .ok (.aload_n 0, 1) := by decide +kernel
theorem dX6_knownTo_8 : decode cX6_knownTo 8 = .ok (.getfield 15, 3) := by decide +kernel
theorem dX6_knownTo_11 : decode cX6_knownTo 11 = .ok (.getfield 25, 3) := by decide +kernel
theorem dX6_knownTo_14 : decode cX6_knownTo 14 = .ok (.getfield 31, 3) := by decide +kernel
theorem dX6_knownTo_17 : decode cX6_knownTo 17 = .ok (.if_icmp .ge 118, 3) := by decide +kernel
theorem dX6_knownTo_20 : decode cX6_knownTo 20 = .ok (.aload_n 0, 1) := by decide +kernel
theorem dX6_knownTo_21 : decode cX6_knownTo 21 = .ok (.getfield 15, 3) := by decide +kernel
theorem dX6_knownTo_24 : decode cX6_knownTo 24 = .ok (.getfield 25, 3) := by decide +kernel
theorem dX6_knownTo_27 : decode cX6_knownTo 27 = .ok (.iload 4, 2) := by decide +kernel
theorem dX6_knownTo_29 : decode cX6_knownTo 29 = .ok (.iconst 0, 1) := by decide +kernel
theorem dX6_knownTo_30 : decode cX6_knownTo 30 = .ok (.invokevirtual 37, 3) := by decide +kernel
theorem dX6_knownTo_33 : decode cX6_knownTo 33 = .ok (.iload_n 1, 1) := by decide +kernel
theorem dX6_knownTo_34 : decode cX6_knownTo 34 = .ok (.if_icmp .ne 52, 3) := by decide +kernel
theorem dX6_knownTo_37 : decode cX6_knownTo 37 = .ok (.aload_n 0, 1) := by decide +kernel
theorem dX6_knownTo_38 : decode cX6_knownTo 38 = .ok (.getfield 15, 3) := by decide +kernel
theorem dX6_knownTo_41 : decode cX6_knownTo 41 = .ok (.getfield 25, 3) := by decide +kernel
theorem dX6_knownTo_44 : decode cX6_knownTo 44 = .ok (.iload 4, 2) := by decide +kernel
theorem dX6_knownTo_46 : decode cX6_knownTo 46 = .ok (.iconst 2, 1) := by decide +kernel
theorem dX6_knownTo_47 : decode cX6_knownTo 47 = .ok (.invokevirtual 37, 3) := by decide +kernel
theorem dX6_knownTo_50 : decode cX6_knownTo 50 = .ok (.iload_n 2, 1) := by decide +kernel
theorem dX6_knownTo_51 : decode cX6_knownTo 51 = .ok (.if_icmp .gt 35, 3) := by decide +kernel
theorem dX6_knownTo_54 : decode cX6_knownTo 54 = .ok (.aload_n 0, 1) := by decide +kernel
theorem dX6_knownTo_55 : decode cX6_knownTo 55 = .ok (.getfield 15, 3) := by decide +kernel
theorem dX6_knownTo_58 : decode cX6_knownTo 58 = .ok (.getfield 25, 3) := by decide +kernel
theorem dX6_knownTo_61 : decode cX6_knownTo 61 = .ok (.iload 4, 2) := by decide +kernel
theorem dX6_knownTo_63 : decode cX6_knownTo 63 = .ok (.iconst 4, 1) := by decide +kernel
theorem dX6_knownTo_64 : decode cX6_knownTo 64 = .ok (.invokevirtual 37, 3) := by decide +kernel
theorem dX6_knownTo_67 : decode cX6_knownTo 67 = .ok (.istore 5, 2) := by decide +kernel
theorem dX6_knownTo_69 : decode cX6_knownTo 69 = .ok (.iload_n 3, 1) := by decide +kernel
theorem dX6_knownTo_70 : decode cX6_knownTo 70 = .ok (.iload 5, 2) := by decide +kernel
theorem dX6_knownTo_72 : decode cX6_knownTo 72 = .ok (.iconst (-1), 1) := by decide +kernel
theorem dX6_knownTo_73 : decode cX6_knownTo 73 = .ok (.if_icmp .ne 7, 3) := by decide +kernel
theorem dX6_knownTo_76 : decode cX6_knownTo 76 = .ok (.iconst 0, 1) := by decide +kernel
theorem dX6_knownTo_77 : decode cX6_knownTo 77 = .ok (.goto 7, 3) := by decide +kernel
theorem dX6_knownTo_80 : decode cX6_knownTo 80 = .ok (.iconst 1, 1) := by decide +kernel
theorem dX6_knownTo_81 : decode cX6_knownTo 81 = .ok (.iload 5, 2) := by decide +kernel
theorem dX6_knownTo_83 : decode cX6_knownTo 83 = .ok (.ishl, 1) := by decide +kernel
theorem dX6_knownTo_84 : decode cX6_knownTo 84 = .ok (.ior, 1) := by decide +kernel
theorem dX6_knownTo_85 : decode cX6_knownTo 85 = .ok (.istore_n 3, 1) := by decide +kernel
theorem dX6_knownTo_86 : decode cX6_knownTo 86 = .ok (.aload_n 0, 1) := by decide +kernel
theorem dX6_knownTo_87 : decode cX6_knownTo 87 = .ok (.getfield 15, 3) := by decide +kernel
theorem dX6_knownTo_90 : decode cX6_knownTo 90 = .ok (.getfield 25, 3) := by decide +kernel
theorem dX6_knownTo_93 : decode cX6_knownTo 93 = .ok (.iload 4, 2) := by decide +kernel
theorem dX6_knownTo_95 : decode cX6_knownTo 95 = .ok (.iconst 1, 1) := by decide +kernel
theorem dX6_knownTo_96 : decode cX6_knownTo 96 = .ok (.invokevirtual 37, 3) := by decide +kernel
theorem dX6_knownTo_99 : decode cX6_knownTo 99 = .ok (.iload_n 1, 1) := by decide +kernel
theorem dX6_knownTo_100 : decode cX6_knownTo 100 = .ok (.if_icmp .ne 29, 3) := by decide +kernel
theorem dX6_knownTo_103 : decode cX6_knownTo 103 = .ok (.aload_n 0, 1) := by decide +kernel
theorem dX6_knownTo_104 : decode cX6_knownTo 104 = .ok (.getfield 15, 3) := by decide +kernel
theorem dX6_knownTo_107 : decode cX6_knownTo 107 = .ok (.getfield 25, 3) := by decide +kernel
theorem dX6_knownTo_110 : decode cX6_knownTo 110 = .ok (.iload 4, 2) := by decide +kernel
theorem dX6_knownTo_112 : decode cX6_knownTo 112 = .ok (.iconst 3, 1) := by decide +kernel
theorem dX6_knownTo_113 : decode cX6_knownTo 113 = .ok (.invokevirtual 37, 3) := by decide +kernel
theorem dX6_knownTo_116 : decode cX6_knownTo 116 = .ok (.iload_n 2, 1) := by decide +kernel
theorem dX6_knownTo_117 : decode cX6_knownTo 117 = .ok (.if_icmp .gt 12, 3) := by decide +kernel
theorem dX6_knownTo_120 : decode cX6_knownTo 120 = .ok (.iload_n 3, 1) := by decide +kernel
theorem dX6_knownTo_121 : decode cX6_knownTo 121 = .ok (.aload_n 0, 1) := by decide +kernel
theorem dX6_knownTo_122 : decode cX6_knownTo 122 = .ok (.iload 4, 2) := by decide +kernel
theorem dX6_knownTo_124 : decode cX6_knownTo 124 = .ok (.invokevirtual 44, 3) := by decide +kernel
theorem dX6_knownTo_127 : decode cX6_knownTo 127 = .ok (.ior, 1) := by decide +kernel
theorem dX6_knownTo_128 : decode cX6_knownTo 128 = .ok (.istore_n 3, 1) := by decide +kernel
theorem dX6_knownTo_129 : decode cX6_knownTo 129 = .ok (.iinc 4 1, 3) := by decide +kernel
theorem dX6_knownTo_132 : decode cX6_knownTo 132 = .ok (.goto (-127), 3) := by decide +kernel
theorem dX6_knownTo_135 : decode cX6_knownTo 135 = .ok (.iload_n 3, 1) := by decide +kernel
theorem dX6_knownTo_136 : decode cX6_knownTo 136 = .ok (.ireturn, 1) := by decide +kernel
theorem dX6_carriedBy_0 : decode cX6_carriedBy 0 = .ok (.iload_n 1, 1) := by decide +kernel
theorem dX6_carriedBy_1 : decode cX6_carriedBy 1 = .ok (.ifCond .lt 21, 3) := by decide +kernel
theorem dX6_carriedBy_4 : decode cX6_carriedBy 4 = .ok (.iload_n 1, 1) := by decide +kernel
theorem dX6_carriedBy_5 : decode cX6_carriedBy 5 = .ok (.aload_n 0, 1) := by decide +kernel
theorem dX6_carriedBy_6 : decode cX6_carriedBy 6 = .ok (.getfield 9, 3) := by decide +kernel
theorem dX6_carriedBy_9 : decode cX6_carriedBy 9 = .ok (.arraylength, 1) := by decide +kernel
theorem dX6_carriedBy_10 : decode cX6_carriedBy 10 = .ok (.if_icmp .ge 12, 3) := by decide +kernel
theorem dX6_carriedBy_13 : decode cX6_carriedBy 13 = .ok (.aload_n 0, 1) := by decide +kernel
theorem dX6_carriedBy_14 : decode cX6_carriedBy 14 = .ok (.getfield 9, 3) := by decide +kernel
theorem dX6_carriedBy_17 : decode cX6_carriedBy 17 = .ok (.iload_n 1, 1) := by decide +kernel
theorem dX6_carriedBy_18 : decode cX6_carriedBy 18 = .ok (.iaload, 1) := by decide +kernel
theorem dX6_carriedBy_19 : decode cX6_carriedBy 19 = .ok (.goto 4, 3) := by decide +kernel
theorem dX6_carriedBy_22 : decode cX6_carriedBy 22 = .ok (.iconst 0, 1) := by decide +kernel
theorem dX6_carriedBy_23 : decode cX6_carriedBy 23 = .ok (.ireturn, 1) := by decide +kernel
theorem dX7_init_0 : decode cX7_init 0 = .ok (.aload_n 0, 1) := by decide +kernel
theorem dX7_init_1 : decode cX7_init 1 = .ok (.invokespecial 3, 3) := by decide +kernel
theorem dX7_init_4 : decode cX7_init 4 = .ok (.aload_n 0, 1) := by decide +kernel
theorem dX7_init_5 : decode cX7_init 5 = .ok (.bipush 50, 2) := by decide +kernel
theorem dX7_init_7 : decode cX7_init 7 = .ok (.newarray .int, 2) := by decide +kernel
theorem dX7_init_9 : decode cX7_init 9 = .ok (.putfield 9, 3) := by decide +kernel
theorem dX7_init_12 : decode cX7_init 12 = .ok (.aload_n 0, 1) := by decide +kernel
theorem dX7_init_13 : decode cX7_init 13 = .ok (.bipush 50, 2) := by decide +kernel
theorem dX7_init_15 : decode cX7_init 15 = .ok (.newarray .int, 2) := by decide +kernel
theorem dX7_init_17 : decode cX7_init 17 = .ok (.putfield 15, 3) := by decide +kernel
theorem dX7_init_20 : decode cX7_init 20 = .ok (.return_, 1) := by decide +kernel
theorem dX7_read_0 : decode cX7_read 0 = .ok (.aload_n 0, 1) := by decide +kernel
theorem dX7_read_1 : decode cX7_read 1 = .ok (.iconst 0, 1) := by decide +kernel
theorem dX7_read_2 : decode cX7_read 2 = .ok (.putfield 18, 3) := by decide +kernel
theorem dX7_read_5 : decode cX7_read 5 = .ok (.aload_n 0, 1) := by decide +kernel
theorem dX7_read_6 : decode cX7_read 6 = .ok (.iconst 0, 1) := by decide +kernel
theorem dX7_read_7 : decode cX7_read 7 = .ok (.putfield 22, 3) := by decide +kernel
theorem dX7_read_10 : decode cX7_read 10 = .ok (.aload_n 0, 1) := by decide +kernel
theorem dX7_read_11 : decode cX7_read 11 = .ok (.iconst 0, 1) := by decide +kernel
theorem dX7_read_12 : decode cX7_read 12 = .ok (.putfield 25, 3) := by decide +kernel
theorem dX7_read_15 : decode cX7_read 15 = .ok (.aload_n 0, 1) := by decide +kernel
theorem dX7_read_16 : decode cX7_read 16 = .ok (.iconst 1, 1) := by decide +kernel
theorem dX7_read_17 : decode cX7_read 17 = .ok (.putfield 28, 3) := by decide +kernel
theorem dX7_read_20 : decode cX7_read 20 = .ok (.aload_n 0, 1) := by decide +kernel
theorem dX7_read_21 : decode cX7_read 21 = .ok (.iconst 0, 1) := by decide +kernel
theorem dX7_read_22 : decode cX7_read 22 = .ok (.putfield 32, 3) := by decide +kernel
theorem dX7_read_25 : decode cX7_read 25 = .ok (.aload_n 0, 1) := by decide +kernel
theorem dX7_read_26 : decode cX7_read 26 = .ok (.iconst (-1), 1) := by decide +kernel
theorem dX7_read_27 : decode cX7_read 27 = .ok (.putfield 35, 3) := by decide +kernel
theorem dX7_read_30 : decode cX7_read 30 = .ok (.aload_n 1, 1) := by decide +kernel
theorem dX7_read_31 : decode cX7_read 31 = .ok (.iload_n 2, 1) := by decide +kernel
theorem dX7_read_32 : decode cX7_read 32 = .ok (.iconst 0, 1) := by decide +kernel
theorem dX7_read_33 : decode cX7_read 33 = .ok (.invokevirtual 38, 3) := by decide +kernel
theorem dX7_read_36 : decode cX7_read 36 = .ok (.istore_n 3, 1) := by decide +kernel
theorem dX7_read_37 : decode cX7_read 37 = .ok (.iconst 0, 1) := by decide +kernel
theorem dX7_read_38 : decode cX7_read 38 = .ok (.istore 4, 2) := by decide +kernel
theorem dX7_read_40 : decode cX7_read 40 = .ok (.iload 4, 2) := by decide +kernel
theorem dX7_read_42 : decode cX7_read 42 = .ok (.iload_n 3, 1) := by decide +kernel
theorem dX7_read_43 : decode cX7_read 43 = .ok (.if_icmp .ge 32, 3) := by decide +kernel
theorem dX7_read_46 : decode cX7_read 46 = .ok (.aload_n 0, 1) := by decide +kernel
theorem dX7_read_47 : decode cX7_read 47 = .ok (.getfield 35, 3) := by decide +kernel
theorem dX7_read_50 : decode cX7_read 50 = .ok (.iconst (-1), 1) := by decide +kernel
theorem dX7_read_51 : decode cX7_read 51 = .ok (.if_icmp .ne 24, 3) := by decide +kernel
theorem dX7_read_54 : decode cX7_read 54 = .ok (.aload_n 0, 1) := by decide +kernel
theorem dX7_read_55 : decode cX7_read 55 = .ok (.iload 4, 2) := by decide +kernel
theorem dX7_read_57 : decode cX7_read 57 = .ok (.aload_n 1, 1) := by decide +kernel
theorem dX7_read_58 : decode cX7_read 58 = .ok (.iload_n 2, 1) := by decide +kernel
theorem dX7_read_59 : decode cX7_read 59 = .ok (.iconst 1, 1) := by decide +kernel
theorem dX7_read_60 : decode cX7_read 60 = .ok (.iload 4, 2) := by decide +kernel
theorem dX7_read_62 : decode cX7_read 62 = .ok (.iadd, 1) := by decide +kernel
theorem dX7_read_63 : decode cX7_read 63 = .ok (.invokevirtual 38, 3) := by decide +kernel
theorem dX7_read_66 : decode cX7_read 66 = .ok (.invokevirtual 44, 3) := by decide +kernel
theorem dX7_read_69 : decode cX7_read 69 = .ok (.iinc 4 1, 3) := by decide +kernel
theorem dX7_read_72 : decode cX7_read 72 = .ok (.goto (-32), 3) := by decide +kernel
theorem dX7_read_75 : decode cX7_read 75 = .ok (.aload_n 0, 1) := by decide +kernel
theorem dX7_read_76 : decode cX7_read 76 = .ok (.getfield 35, 3) := by decide +kernel
theorem dX7_read_79 : decode cX7_read 79 = .ok (.iconst (-1), 1) := by decide +kernel
theorem dX7_read_80 : decode cX7_read 80 = .ok (.if_icmp .ne 8, 3) := by decide +kernel
theorem dX7_read_83 : decode cX7_read 83 = .ok (.aload_n 0, 1) := by decide +kernel
theorem dX7_read_84 : decode cX7_read 84 = .ok (.iload_n 3, 1) := by decide +kernel
theorem dX7_read_85 : decode cX7_read 85 = .ok (.invokevirtual 48, 3) := by decide +kernel
theorem dX7_read_88 : decode cX7_read 88 = .ok (.aload_n 0, 1) := by decide +kernel
theorem dX7_read_89 : decode cX7_read 89 = .ok (.getfield 35, 3) := by decide +kernel
theorem dX7_read_92 : decode cX7_read 92 = .ok (.ireturn, 1) := by decide +kernel
theorem dX7_take_0 : decode cX7_take 0 = .ok (.iload_n 2, 1) := by decide +kernel
theorem dX7_take_1 : decode cX7_take 1 = .ok (.bipush 48, 2) := by decide +kernel
theorem dX7_take_3 : decode cX7_take 3 = .ok (.if_icmp .lt 19, 3) := by decide +kernel
theorem dX7_take_6 : decode cX7_take 6 = .ok (.iload_n 2, 1) := by decide +kernel
theorem dX7_take_7 : decode cX7_take 7 = .ok (.bipush 57, 2) := by decide +kernel
theorem dX7_take_9 : decode cX7_take 9 = .ok (.if_icmp .gt 13, 3) := by decide +kernel
theorem dX7_take_12 : decode cX7_take 12 = .ok (.aload_n 0, 1) := by decide +kernel
theorem dX7_take_13 : decode cX7_take 13 = .ok (.iload_n 1, 1) := by decide +kernel
theorem dX7_take_14 : decode cX7_take 14 = .ok (.iload_n 2, 1) := by decide +kernel
theorem dX7_take_15 : decode cX7_take 15 = .ok (.bipush 48, 2) := by decide +kernel
theorem dX7_take_17 : decode cX7_take 17 = .ok (.isub, 1) := by decide +kernel
theorem dX7_take_18 : decode cX7_take 18 = .ok (.invokevirtual 52, 3) := by decide +kernel
theorem dX7_take_21 : decode cX7_take 21 = .ok (.return_, 1) := by decide +kernel
theorem dX7_take_22 : decode cX7_take 22 = .ok (.aload_n 0, 1) := by decide +kernel
theorem dX7_take_23 : decode cX7_take 23 = .ok (.invokevirtual 55, 3) := by decide +kernel
theorem dX7_take_26 : decode cX7_take 26 = .ok (.iload_n 2, 1) := by decide +kernel
theorem dX7_take_27 : decode cX7_take 27 = .ok (.bipush 32, 2) := by decide +kernel
theorem dX7_take_29 : decode cX7_take 29 = .ok (.if_icmp .ne 4, 3) := by decide +kernel
theorem dX7_take_32 : decode cX7_take 32 = .ok (.return_, 1) := by decide +kernel
theorem dX7_take_33 : decode cX7_take 33 = .ok (.aload_n 0, 1) := by decide +kernel
theorem dX7_take_34 : decode cX7_take 34 = .ok (.getfield 28, 3) := by decide +kernel
theorem dX7_take_37 : decode cX7_take 37 = .ok (.ifCond .eq 12, 3) := by decide +kernel
theorem dX7_take_40 : decode cX7_take 40 = .ok (.aload_n 0, 1) := by decide +kernel
theorem dX7_take_41 : decode cX7_take 41 = .ok (.iload_n 1, 1) := by decide +kernel
theorem dX7_take_42 : decode cX7_take 42 = .ok (.iload_n 2, 1) := by decide +kernel
theorem dX7_take_43 : decode cX7_take 43 = .ok (.invokevirtual 58, 3) := by decide +kernel
theorem dX7_take_46 : decode cX7_take 46 = .ok (.goto 9, 3) := by decide +kernel
theorem dX7_take_49 : decode cX7_take 49 = .ok (.aload_n 0, 1) := by decide +kernel
theorem dX7_take_50 : decode cX7_take 50 = .ok (.iload_n 1, 1) := by decide +kernel
theorem dX7_take_51 : decode cX7_take 51 = .ok (.iload_n 2, 1) := by decide +kernel
theorem dX7_take_52 : decode cX7_take 52 = .ok (.invokevirtual 61, 3) := by decide +kernel
theorem dX7_take_55 : decode cX7_take 55 = .ok (.return_, 1) := by decide +kernel
theorem dX7_takeDigit_0 : decode cX7_takeDigit 0 = .ok (.aload_n 0, 1) := by decide +kernel
theorem dX7_takeDigit_1 : decode cX7_takeDigit 1 = .ok (.getfield 32, 3) := by decide +kernel
theorem dX7_takeDigit_4 : decode cX7_takeDigit 4 = .ok (.ifCond .ne 23, 3) := by decide +kernel
theorem dX7_takeDigit_7 : decode cX7_takeDigit 7 = .ok (.aload_n 0, 1) := by decide +kernel
theorem dX7_takeDigit_8 : decode cX7_takeDigit 8 = .ok (.getfield 28, 3) := by decide +kernel
theorem dX7_takeDigit_11 : decode cX7_takeDigit 11 = .ok (.ifCond .ne 16, 3) := by decide +kernel
theorem dX7_takeDigit_14 : decode cX7_takeDigit 14 = .ok (.aload_n 0, 1) := by decide +kernel
theorem dX7_takeDigit_15 : decode cX7_takeDigit 15 = .ok (.bipush 10, 2) := by decide +kernel
theorem dX7_takeDigit_17 : decode cX7_takeDigit 17 = .ok (.iload_n 1, 1) := by decide +kernel
theorem dX7_takeDigit_18 : decode cX7_takeDigit 18 = .ok (.imul, 1) := by decide +kernel
theorem dX7_takeDigit_19 : decode cX7_takeDigit 19 = .ok (.iconst 1, 1) := by decide +kernel
theorem dX7_takeDigit_20 : decode cX7_takeDigit 20 = .ok (.iadd, 1) := by decide +kernel
theorem dX7_takeDigit_21 : decode cX7_takeDigit 21 = .ok (.putfield 35, 3) := by decide +kernel
theorem dX7_takeDigit_24 : decode cX7_takeDigit 24 = .ok (.goto 86, 3) := by decide +kernel
theorem dX7_takeDigit_27 : decode cX7_takeDigit 27 = .ok (.aload_n 0, 1) := by decide +kernel
theorem dX7_takeDigit_28 : decode cX7_takeDigit 28 = .ok (.getfield 32, 3) := by decide +kernel
theorem dX7_takeDigit_31 : decode cX7_takeDigit 31 = .ok (.bipush 6, 2) := by decide +kernel
theorem dX7_takeDigit_33 : decode cX7_takeDigit 33 = .ok (.if_icmp .ne 19, 3) := by decide +kernel
theorem dX7_takeDigit_36 : decode cX7_takeDigit 36 = .ok (.aload_n 0, 1) := by decide +kernel
theorem dX7_takeDigit_37 : decode cX7_takeDigit 37 = .ok (.bipush 10, 2) := by decide +kernel
theorem dX7_takeDigit_39 : decode cX7_takeDigit 39 = .ok (.aload_n 0, 1) := by decide +kernel
theorem dX7_takeDigit_40 : decode cX7_takeDigit 40 = .ok (.getfield 64, 3) := by decide +kernel
theorem dX7_takeDigit_43 : decode cX7_takeDigit 43 = .ok (.imul, 1) := by decide +kernel
theorem dX7_takeDigit_44 : decode cX7_takeDigit 44 = .ok (.iconst 2, 1) := by decide +kernel
theorem dX7_takeDigit_45 : decode cX7_takeDigit 45 = .ok (.iadd, 1) := by decide +kernel
theorem dX7_takeDigit_46 : decode cX7_takeDigit 46 = .ok (.putfield 35, 3) := by decide +kernel
theorem dX7_takeDigit_49 : decode cX7_takeDigit 49 = .ok (.goto 61, 3) := by decide +kernel
theorem dX7_takeDigit_52 : decode cX7_takeDigit 52 = .ok (.aload_n 0, 1) := by decide +kernel
theorem dX7_takeDigit_53 : decode cX7_takeDigit 53 = .ok (.aload_n 0, 1) := by decide +kernel
theorem dX7_takeDigit_54 : decode cX7_takeDigit 54 = .ok (.getfield 32, 3) := by decide +kernel
theorem dX7_takeDigit_57 : decode cX7_takeDigit 57 = .ok (.ifCond .ne 7, 3) := by decide +kernel
theorem dX7_takeDigit_60 : decode cX7_takeDigit 60 = .ok (.iload_n 1, 1) := by decide +kernel
theorem dX7_takeDigit_61 : decode cX7_takeDigit 61 = .ok (.goto 7, 3) := by decide +kernel
theorem dX7_takeDigit_64 : decode cX7_takeDigit 64 = .ok (.aload_n 0, 1) := by decide +kernel
theorem dX7_takeDigit_65 : decode cX7_takeDigit 65 = .ok (.getfield 64, 3) := by decide +kernel
theorem dX7_takeDigit_68 : decode cX7_takeDigit 68 = .ok (.putfield 64, 3) := by decide +kernel
theorem dX7_takeDigit_71 : decode cX7_takeDigit 71 = .ok (.aload_n 0, 1) := by decide +kernel
theorem dX7_takeDigit_72 : decode cX7_takeDigit 72 = .ok (.aload_n 0, 1) := by decide +kernel
theorem dX7_takeDigit_73 : decode cX7_takeDigit 73 = .ok (.getfield 32, 3) := by decide +kernel
theorem dX7_takeDigit_76 : decode cX7_takeDigit 76 = .ok (.ifCond .ne 7, 3) := by decide +kernel
theorem dX7_takeDigit_79 : decode cX7_takeDigit 79 = .ok (.iload_n 2, 1) := by decide +kernel
theorem dX7_takeDigit_80 : decode cX7_takeDigit 80 = .ok (.goto 12, 3) := by decide +kernel
theorem dX7_takeDigit_83 : decode cX7_takeDigit 83 = .ok (.bipush 10, 2) := by decide +kernel
theorem dX7_takeDigit_85 : decode cX7_takeDigit 85 = .ok (.aload_n 0, 1) := by decide +kernel
theorem dX7_takeDigit_86 : decode cX7_takeDigit 86 = .ok (.getfield 67, 3) := by decide +kernel
theorem dX7_takeDigit_89 : decode cX7_takeDigit 89 = .ok (.imul, 1) := by decide +kernel
theorem dX7_takeDigit_90 : decode cX7_takeDigit 90 = .ok (.iload_n 2, 1) := by decide +kernel
theorem dX7_takeDigit_91 : decode cX7_takeDigit 91 = .ok (.iadd, 1) := by decide +kernel
theorem dX7_takeDigit_92 : decode cX7_takeDigit 92 = .ok (.putfield 67, 3) := by decide +kernel
theorem dX7_takeDigit_95 : decode cX7_takeDigit 95 = .ok (.aload_n 0, 1) := by decide +kernel
theorem dX7_takeDigit_96 : decode cX7_takeDigit 96 = .ok (.dup, 1) := by decide +kernel
theorem dX7_takeDigit_97 : decode cX7_takeDigit 97 = .ok (.getfield 32, 3) := by decide +kernel
theorem dX7_takeDigit_100 : decode cX7_takeDigit 100 = .ok (.iconst 1, 1) := by decide +kernel
theorem dX7_takeDigit_101 : decode cX7_takeDigit 101 = .ok (.iadd, 1) := by decide +kernel
theorem dX7_takeDigit_102 : decode cX7_takeDigit 102 = .ok (.putfield 32, 3) := by decide +kernel
theorem dX7_takeDigit_105 : decode cX7_takeDigit 105 = .ok (.aload_n 0, 1) := by decide +kernel
theorem dX7_takeDigit_106 : decode cX7_takeDigit 106 = .ok (.iconst 0, 1) := by decide +kernel
theorem dX7_takeDigit_107 : decode cX7_takeDigit 107 = .ok (.putfield 28, 3) := by decide +kernel
theorem dX7_takeDigit_110 : decode cX7_takeDigit 110 = .ok (.return_, 1) := by decide +kernel
theorem dX7_endNumber_0 : decode cX7_endNumber 0 = .ok (.aload_n 0, 1) := by decide +kernel
theorem dX7_endNumber_1 : decode cX7_endNumber 1 = .ok (.getfield 32, 3) := by decide +kernel
theorem dX7_endNumber_4 : decode cX7_endNumber 4 = .ok (.ifCond .le 16, 3) := by decide +kernel
theorem dX7_endNumber_7 : decode cX7_endNumber 7 = .ok (.aload_n 0, 1) := by decide +kernel
theorem dX7_endNumber_8 : decode cX7_endNumber 8 = .ok (.aload_n 0, 1) := by decide +kernel
theorem dX7_endNumber_9 : decode cX7_endNumber 9 = .ok (.getfield 67, 3) := by decide +kernel
theorem dX7_endNumber_12 : decode cX7_endNumber 12 = .ok (.invokevirtual 70, 3) := by decide +kernel
theorem dX7_endNumber_15 : decode cX7_endNumber 15 = .ok (.aload_n 0, 1) := by decide +kernel
theorem dX7_endNumber_16 : decode cX7_endNumber 16 = .ok (.iconst 0, 1) := by decide +kernel
theorem dX7_endNumber_17 : decode cX7_endNumber 17 = .ok (.putfield 32, 3) := by decide +kernel
theorem dX7_endNumber_20 : decode cX7_endNumber 20 = .ok (.return_, 1) := by decide +kernel
theorem dX7_takeUnit_0 : decode cX7_takeUnit 0 = .ok (.iload_n 2, 1) := by decide +kernel
theorem dX7_takeUnit_1 : decode cX7_takeUnit 1 = .ok (.lookupswitch 114 #[(33, 89), (40, 106), (45, 97), (103, 75), (107, 75), (115, 75), (116, 75), (119, 75)], 75) := by decide +kernel
theorem dX7_takeUnit_76 : decode cX7_takeUnit 76 = .ok (.aload_n 0, 1) := by decide +kernel
theorem dX7_takeUnit_77 : decode cX7_takeUnit 77 = .ok (.iload_n 2, 1) := by decide +kernel
theorem dX7_takeUnit_78 : decode cX7_takeUnit 78 = .ok (.ineg, 1) := by decide +kernel
theorem dX7_takeUnit_79 : decode cX7_takeUnit 79 = .ok (.invokevirtual 70, 3) := by decide +kernel
theorem dX7_takeUnit_82 : decode cX7_takeUnit 82 = .ok (.aload_n 0, 1) := by decide +kernel
theorem dX7_takeUnit_83 : decode cX7_takeUnit 83 = .ok (.iconst 0, 1) := by decide +kernel
theorem dX7_takeUnit_84 : decode cX7_takeUnit 84 = .ok (.putfield 28, 3) := by decide +kernel
theorem dX7_takeUnit_87 : decode cX7_takeUnit 87 = .ok (.goto 38, 3) := by decide +kernel
theorem dX7_takeUnit_90 : decode cX7_takeUnit 90 = .ok (.aload_n 0, 1) := by decide +kernel
theorem dX7_takeUnit_91 : decode cX7_takeUnit 91 = .ok (.iload_n 2, 1) := by decide +kernel
theorem dX7_takeUnit_92 : decode cX7_takeUnit 92 = .ok (.invokevirtual 73, 3) := by decide +kernel
theorem dX7_takeUnit_95 : decode cX7_takeUnit 95 = .ok (.goto 30, 3) := by decide +kernel
theorem dX7_takeUnit_98 : decode cX7_takeUnit 98 = .ok (.aload_n 0, 1) := by decide +kernel
theorem dX7_takeUnit_99 : decode cX7_takeUnit 99 = .ok (.bipush 126, 2) := by decide +kernel
theorem dX7_takeUnit_101 : decode cX7_takeUnit 101 = .ok (.invokevirtual 73, 3) := by decide +kernel
theorem dX7_takeUnit_104 : decode cX7_takeUnit 104 = .ok (.goto 21, 3) := by decide +kernel
theorem dX7_takeUnit_107 : decode cX7_takeUnit 107 = .ok (.aload_n 0, 1) := by decide +kernel
theorem dX7_takeUnit_108 : decode cX7_takeUnit 108 = .ok (.iload_n 1, 1) := by decide +kernel
theorem dX7_takeUnit_109 : decode cX7_takeUnit 109 = .ok (.invokevirtual 76, 3) := by decide +kernel
theorem dX7_takeUnit_112 : decode cX7_takeUnit 112 = .ok (.goto 13, 3) := by decide +kernel
theorem dX7_takeUnit_115 : decode cX7_takeUnit 115 = .ok (.aload_n 0, 1) := by decide +kernel
theorem dX7_takeUnit_116 : decode cX7_takeUnit 116 = .ok (.bipush 10, 2) := by decide +kernel
theorem dX7_takeUnit_118 : decode cX7_takeUnit 118 = .ok (.iload_n 1, 1) := by decide +kernel
theorem dX7_takeUnit_119 : decode cX7_takeUnit 119 = .ok (.imul, 1) := by decide +kernel
theorem dX7_takeUnit_120 : decode cX7_takeUnit 120 = .ok (.iconst 1, 1) := by decide +kernel
theorem dX7_takeUnit_121 : decode cX7_takeUnit 121 = .ok (.iadd, 1) := by decide +kernel
theorem dX7_takeUnit_122 : decode cX7_takeUnit 122 = .ok (.putfield 35, 3) := by decide +kernel
theorem dX7_takeUnit_125 : decode cX7_takeUnit 125 = .ok (.return_, 1) := by decide +kernel
theorem dX7_openOne_0 : decode cX7_openOne 0 = .ok (.aload_n 0, 1) := by decide +kernel
theorem dX7_openOne_1 : decode cX7_openOne 1 = .ok (.getfield 25, 3) := by decide +kernel
theorem dX7_openOne_4 : decode cX7_openOne 4 = .ok (.bipush 8, 2) := by decide +kernel
theorem dX7_openOne_6 : decode cX7_openOne 6 = .ok (.if_icmp .ne 16, 3) := by decide +kernel
theorem dX7_openOne_9 : decode cX7_openOne 9 = .ok (.aload_n 0, 1) := by decide +kernel
theorem dX7_openOne_10 : decode cX7_openOne 10 = .ok (.bipush 10, 2) := by decide +kernel
theorem dX7_openOne_12 : decode cX7_openOne 12 = .ok (.iload_n 1, 1) := by decide +kernel
theorem dX7_openOne_13 : decode cX7_openOne 13 = .ok (.imul, 1) := by decide +kernel
theorem dX7_openOne_14 : decode cX7_openOne 14 = .ok (.iconst 3, 1) := by decide +kernel
theorem dX7_openOne_15 : decode cX7_openOne 15 = .ok (.iadd, 1) := by decide +kernel
theorem dX7_openOne_16 : decode cX7_openOne 16 = .ok (.putfield 35, 3) := by decide +kernel
theorem dX7_openOne_19 : decode cX7_openOne 19 = .ok (.goto 19, 3) := by decide +kernel
theorem dX7_openOne_22 : decode cX7_openOne 22 = .ok (.aload_n 0, 1) := by decide +kernel
theorem dX7_openOne_23 : decode cX7_openOne 23 = .ok (.dup, 1) := by decide +kernel
theorem dX7_openOne_24 : decode cX7_openOne 24 = .ok (.getfield 25, 3) := by decide +kernel
theorem dX7_openOne_27 : decode cX7_openOne 27 = .ok (.iconst 1, 1) := by decide +kernel
theorem dX7_openOne_28 : decode cX7_openOne 28 = .ok (.iadd, 1) := by decide +kernel
theorem dX7_openOne_29 : decode cX7_openOne 29 = .ok (.putfield 25, 3) := by decide +kernel
theorem dX7_openOne_32 : decode cX7_openOne 32 = .ok (.aload_n 0, 1) := by decide +kernel
theorem dX7_openOne_33 : decode cX7_openOne 33 = .ok (.bipush 40, 2) := by decide +kernel
theorem dX7_openOne_35 : decode cX7_openOne 35 = .ok (.invokevirtual 73, 3) := by decide +kernel
theorem dX7_openOne_38 : decode cX7_openOne 38 = .ok (.return_, 1) := by decide +kernel
theorem dX7_takeJoint_0 : decode cX7_takeJoint 0 = .ok (.iload_n 2, 1) := by decide +kernel
theorem dX7_takeJoint_1 : decode cX7_takeJoint 1 = .ok (.bipush 41, 2) := by decide +kernel
theorem dX7_takeJoint_3 : decode cX7_takeJoint 3 = .ok (.if_icmp .ne 11, 3) := by decide +kernel
theorem dX7_takeJoint_6 : decode cX7_takeJoint 6 = .ok (.aload_n 0, 1) := by decide +kernel
theorem dX7_takeJoint_7 : decode cX7_takeJoint 7 = .ok (.iload_n 1, 1) := by decide +kernel
theorem dX7_takeJoint_8 : decode cX7_takeJoint 8 = .ok (.invokevirtual 79, 3) := by decide +kernel
theorem dX7_takeJoint_11 : decode cX7_takeJoint 11 = .ok (.goto 47, 3) := by decide +kernel
theorem dX7_takeJoint_14 : decode cX7_takeJoint 14 = .ok (.iload_n 2, 1) := by decide +kernel
theorem dX7_takeJoint_15 : decode cX7_takeJoint 15 = .ok (.bipush 58, 2) := by decide +kernel
theorem dX7_takeJoint_17 : decode cX7_takeJoint 17 = .ok (.if_icmp .ne 11, 3) := by decide +kernel
theorem dX7_takeJoint_20 : decode cX7_takeJoint 20 = .ok (.aload_n 0, 1) := by decide +kernel
theorem dX7_takeJoint_21 : decode cX7_takeJoint 21 = .ok (.iload_n 1, 1) := by decide +kernel
theorem dX7_takeJoint_22 : decode cX7_takeJoint 22 = .ok (.invokevirtual 82, 3) := by decide +kernel
theorem dX7_takeJoint_25 : decode cX7_takeJoint 25 = .ok (.goto 33, 3) := by decide +kernel
theorem dX7_takeJoint_28 : decode cX7_takeJoint 28 = .ok (.iload_n 2, 1) := by decide +kernel
theorem dX7_takeJoint_29 : decode cX7_takeJoint 29 = .ok (.bipush 63, 2) := by decide +kernel
theorem dX7_takeJoint_31 : decode cX7_takeJoint 31 = .ok (.if_icmp .ne 21, 3) := by decide +kernel
theorem dX7_takeJoint_34 : decode cX7_takeJoint 34 = .ok (.aload_n 0, 1) := by decide +kernel
theorem dX7_takeJoint_35 : decode cX7_takeJoint 35 = .ok (.iconst 2, 1) := by decide +kernel
theorem dX7_takeJoint_36 : decode cX7_takeJoint 36 = .ok (.invokevirtual 85, 3) := by decide +kernel
theorem dX7_takeJoint_39 : decode cX7_takeJoint 39 = .ok (.aload_n 0, 1) := by decide +kernel
theorem dX7_takeJoint_40 : decode cX7_takeJoint 40 = .ok (.iload_n 2, 1) := by decide +kernel
theorem dX7_takeJoint_41 : decode cX7_takeJoint 41 = .ok (.invokevirtual 73, 3) := by decide +kernel
theorem dX7_takeJoint_44 : decode cX7_takeJoint 44 = .ok (.aload_n 0, 1) := by decide +kernel
theorem dX7_takeJoint_45 : decode cX7_takeJoint 45 = .ok (.iconst 1, 1) := by decide +kernel
theorem dX7_takeJoint_46 : decode cX7_takeJoint 46 = .ok (.putfield 28, 3) := by decide +kernel
theorem dX7_takeJoint_49 : decode cX7_takeJoint 49 = .ok (.goto 9, 3) := by decide +kernel
theorem dX7_takeJoint_52 : decode cX7_takeJoint 52 = .ok (.aload_n 0, 1) := by decide +kernel
theorem dX7_takeJoint_53 : decode cX7_takeJoint 53 = .ok (.iload_n 1, 1) := by decide +kernel
theorem dX7_takeJoint_54 : decode cX7_takeJoint 54 = .ok (.iload_n 2, 1) := by decide +kernel
theorem dX7_takeJoint_55 : decode cX7_takeJoint 55 = .ok (.invokevirtual 88, 3) := by decide +kernel
theorem dX7_takeJoint_58 : decode cX7_takeJoint 58 = .ok (.return_, 1) := by decide +kernel
theorem dX7_closeOne_0 : decode cX7_closeOne 0 = .ok (.aload_n 0, 1) := by decide +kernel
theorem dX7_closeOne_1 : decode cX7_closeOne 1 = .ok (.iconst 1, 1) := by decide +kernel
theorem dX7_closeOne_2 : decode cX7_closeOne 2 = .ok (.invokevirtual 85, 3) := by decide +kernel
theorem dX7_closeOne_5 : decode cX7_closeOne 5 = .ok (.aload_n 0, 1) := by decide +kernel
theorem dX7_closeOne_6 : decode cX7_closeOne 6 = .ok (.invokevirtual 91, 3) := by decide +kernel
theorem dX7_closeOne_9 : decode cX7_closeOne 9 = .ok (.bipush 40, 2) := by decide +kernel
theorem dX7_closeOne_11 : decode cX7_closeOne 11 = .ok (.if_icmp .ne 26, 3) := by decide +kernel
theorem dX7_closeOne_14 : decode cX7_closeOne 14 = .ok (.aload_n 0, 1) := by decide +kernel
theorem dX7_closeOne_15 : decode cX7_closeOne 15 = .ok (.dup, 1) := by decide +kernel
theorem dX7_closeOne_16 : decode cX7_closeOne 16 = .ok (.getfield 22, 3) := by decide +kernel
theorem dX7_closeOne_19 : decode cX7_closeOne 19 = .ok (.iconst 1, 1) := by decide +kernel
theorem dX7_closeOne_20 : decode cX7_closeOne 20 = .ok (.isub, 1) := by decide +kernel
theorem dX7_closeOne_21 : decode cX7_closeOne 21 = .ok (.putfield 22, 3) := by decide +kernel
theorem dX7_closeOne_24 : decode cX7_closeOne 24 = .ok (.aload_n 0, 1) := by decide +kernel
theorem dX7_closeOne_25 : decode cX7_closeOne 25 = .ok (.dup, 1) := by decide +kernel
theorem dX7_closeOne_26 : decode cX7_closeOne 26 = .ok (.getfield 25, 3) := by decide +kernel
theorem dX7_closeOne_29 : decode cX7_closeOne 29 = .ok (.iconst 1, 1) := by decide +kernel
theorem dX7_closeOne_30 : decode cX7_closeOne 30 = .ok (.isub, 1) := by decide +kernel
theorem dX7_closeOne_31 : decode cX7_closeOne 31 = .ok (.putfield 25, 3) := by decide +kernel
theorem dX7_closeOne_34 : decode cX7_closeOne 34 = .ok (.goto 13, 3) := by decide +kernel
theorem dX7_closeOne_37 : decode cX7_closeOne 37 = .ok (.aload_n 0, 1) := by decide +kernel
theorem dX7_closeOne_38 : decode cX7_closeOne 38 = .ok (.bipush 10, 2) := by decide +kernel
theorem dX7_closeOne_40 : decode cX7_closeOne 40 = .ok (.iload_n 1, 1) := by decide +kernel
theorem dX7_closeOne_41 : decode cX7_closeOne 41 = .ok (.imul, 1) := by decide +kernel
theorem dX7_closeOne_42 : decode cX7_closeOne 42 = .ok (.iconst 1, 1) := by decide +kernel
theorem dX7_closeOne_43 : decode cX7_closeOne 43 = .ok (.iadd, 1) := by decide +kernel
theorem dX7_closeOne_44 : decode cX7_closeOne 44 = .ok (.putfield 35, 3) := by decide +kernel
theorem dX7_closeOne_47 : decode cX7_closeOne 47 = .ok (.return_, 1) := by decide +kernel
theorem dX7_turn_0 : decode cX7_turn 0 = .ok (.aload_n 0, 1) := by decide +kernel
theorem dX7_turn_1 : decode cX7_turn 1 = .ok (.iconst 1, 1) := by decide +kernel
theorem dX7_turn_2 : decode cX7_turn 2 = .ok (.invokevirtual 85, 3) := by decide +kernel
theorem dX7_turn_5 : decode cX7_turn 5 = .ok (.aload_n 0, 1) := by decide +kernel
theorem dX7_turn_6 : decode cX7_turn 6 = .ok (.invokevirtual 91, 3) := by decide +kernel
theorem dX7_turn_9 : decode cX7_turn 9 = .ok (.bipush 63, 2) := by decide +kernel
theorem dX7_turn_11 : decode cX7_turn 11 = .ok (.if_icmp .ne 27, 3) := by decide +kernel
theorem dX7_turn_14 : decode cX7_turn 14 = .ok (.aload_n 0, 1) := by decide +kernel
theorem dX7_turn_15 : decode cX7_turn 15 = .ok (.dup, 1) := by decide +kernel
theorem dX7_turn_16 : decode cX7_turn 16 = .ok (.getfield 22, 3) := by decide +kernel
theorem dX7_turn_19 : decode cX7_turn 19 = .ok (.iconst 1, 1) := by decide +kernel
theorem dX7_turn_20 : decode cX7_turn 20 = .ok (.isub, 1) := by decide +kernel
theorem dX7_turn_21 : decode cX7_turn 21 = .ok (.putfield 22, 3) := by decide +kernel
theorem dX7_turn_24 : decode cX7_turn 24 = .ok (.aload_n 0, 1) := by decide +kernel
theorem dX7_turn_25 : decode cX7_turn 25 = .ok (.bipush 58, 2) := by decide +kernel
theorem dX7_turn_27 : decode cX7_turn 27 = .ok (.invokevirtual 73, 3) := by decide +kernel
theorem dX7_turn_30 : decode cX7_turn 30 = .ok (.aload_n 0, 1) := by decide +kernel
theorem dX7_turn_31 : decode cX7_turn 31 = .ok (.iconst 1, 1) := by decide +kernel
theorem dX7_turn_32 : decode cX7_turn 32 = .ok (.putfield 28, 3) := by decide +kernel
theorem dX7_turn_35 : decode cX7_turn 35 = .ok (.goto 13, 3) := by decide +kernel
theorem dX7_turn_38 : decode cX7_turn 38 = .ok (.aload_n 0, 1) := by decide +kernel
theorem dX7_turn_39 : decode cX7_turn 39 = .ok (.bipush 10, 2) := by decide +kernel
theorem dX7_turn_41 : decode cX7_turn 41 = .ok (.iload_n 1, 1) := by decide +kernel
theorem dX7_turn_42 : decode cX7_turn 42 = .ok (.imul, 1) := by decide +kernel
theorem dX7_turn_43 : decode cX7_turn 43 = .ok (.iconst 1, 1) := by decide +kernel
theorem dX7_turn_44 : decode cX7_turn 44 = .ok (.iadd, 1) := by decide +kernel
theorem dX7_turn_45 : decode cX7_turn 45 = .ok (.putfield 35, 3) := by decide +kernel
theorem dX7_turn_48 : decode cX7_turn 48 = .ok (.return_, 1) := by decide +kernel
theorem dX7_join_0 : decode cX7_join 0 = .ok (.iload_n 2, 1) := by decide +kernel
theorem dX7_join_1 : decode cX7_join 1 = .ok (.invokestatic 95, 3) := by decide +kernel
theorem dX7_join_4 : decode cX7_join 4 = .ok (.istore_n 3, 1) := by decide +kernel
theorem dX7_join_5 : decode cX7_join 5 = .ok (.iload_n 3, 1) := by decide +kernel
theorem dX7_join_6 : decode cX7_join 6 = .ok (.iconst 1, 1) := by decide +kernel
theorem dX7_join_7 : decode cX7_join 7 = .ok (.if_icmp .le 9, 3) := by decide +kernel
theorem dX7_join_10 : decode cX7_join 10 = .ok (.iload_n 3, 1) := by decide +kernel
theorem dX7_join_11 : decode cX7_join 11 = .ok (.bipush 7, 2) := by decide +kernel
theorem dX7_join_13 : decode cX7_join 13 = .ok (.if_icmp .lt 14, 3) := by decide +kernel
theorem dX7_join_16 : decode cX7_join 16 = .ok (.aload_n 0, 1) := by decide +kernel
theorem dX7_join_17 : decode cX7_join 17 = .ok (.bipush 10, 2) := by decide +kernel
theorem dX7_join_19 : decode cX7_join 19 = .ok (.iload_n 1, 1) := by decide +kernel
theorem dX7_join_20 : decode cX7_join 20 = .ok (.imul, 1) := by decide +kernel
theorem dX7_join_21 : decode cX7_join 21 = .ok (.iconst 1, 1) := by decide +kernel
theorem dX7_join_22 : decode cX7_join 22 = .ok (.iadd, 1) := by decide +kernel
theorem dX7_join_23 : decode cX7_join 23 = .ok (.putfield 35, 3) := by decide +kernel
theorem dX7_join_26 : decode cX7_join 26 = .ok (.return_, 1) := by decide +kernel
theorem dX7_join_27 : decode cX7_join 27 = .ok (.aload_n 0, 1) := by decide +kernel
theorem dX7_join_28 : decode cX7_join 28 = .ok (.iload_n 3, 1) := by decide +kernel
theorem dX7_join_29 : decode cX7_join 29 = .ok (.iconst 4, 1) := by decide +kernel
theorem dX7_join_30 : decode cX7_join 30 = .ok (.if_icmp .ne 7, 3) := by decide +kernel
theorem dX7_join_33 : decode cX7_join 33 = .ok (.iconst 5, 1) := by decide +kernel
theorem dX7_join_34 : decode cX7_join 34 = .ok (.goto 4, 3) := by decide +kernel
theorem dX7_join_37 : decode cX7_join 37 = .ok (.iload_n 3, 1) := by decide +kernel
theorem dX7_join_38 : decode cX7_join 38 = .ok (.invokevirtual 85, 3) := by decide +kernel
theorem dX7_join_41 : decode cX7_join 41 = .ok (.iload_n 3, 1) := by decide +kernel
theorem dX7_join_42 : decode cX7_join 42 = .ok (.iconst 4, 1) := by decide +kernel
theorem dX7_join_43 : decode cX7_join 43 = .ok (.if_icmp .ne 25, 3) := by decide +kernel
theorem dX7_join_46 : decode cX7_join 46 = .ok (.aload_n 0, 1) := by decide +kernel
theorem dX7_join_47 : decode cX7_join 47 = .ok (.invokevirtual 91, 3) := by decide +kernel
theorem dX7_join_50 : decode cX7_join 50 = .ok (.invokestatic 95, 3) := by decide +kernel
theorem dX7_join_53 : decode cX7_join 53 = .ok (.iconst 4, 1) := by decide +kernel
theorem dX7_join_54 : decode cX7_join 54 = .ok (.if_icmp .ne 14, 3) := by decide +kernel
theorem dX7_join_57 : decode cX7_join 57 = .ok (.aload_n 0, 1) := by decide +kernel
theorem dX7_join_58 : decode cX7_join 58 = .ok (.bipush 10, 2) := by decide +kernel
theorem dX7_join_60 : decode cX7_join 60 = .ok (.iload_n 1, 1) := by decide +kernel
theorem dX7_join_61 : decode cX7_join 61 = .ok (.imul, 1) := by decide +kernel
theorem dX7_join_62 : decode cX7_join 62 = .ok (.iconst 1, 1) := by decide +kernel
theorem dX7_join_63 : decode cX7_join 63 = .ok (.iadd, 1) := by decide +kernel
theorem dX7_join_64 : decode cX7_join 64 = .ok (.putfield 35, 3) := by decide +kernel
theorem dX7_join_67 : decode cX7_join 67 = .ok (.return_, 1) := by decide +kernel
theorem dX7_join_68 : decode cX7_join 68 = .ok (.aload_n 0, 1) := by decide +kernel
theorem dX7_join_69 : decode cX7_join 69 = .ok (.iload_n 2, 1) := by decide +kernel
theorem dX7_join_70 : decode cX7_join 70 = .ok (.invokevirtual 73, 3) := by decide +kernel
theorem dX7_join_73 : decode cX7_join 73 = .ok (.aload_n 0, 1) := by decide +kernel
theorem dX7_join_74 : decode cX7_join 74 = .ok (.iconst 1, 1) := by decide +kernel
theorem dX7_join_75 : decode cX7_join 75 = .ok (.putfield 28, 3) := by decide +kernel
theorem dX7_join_78 : decode cX7_join 78 = .ok (.return_, 1) := by decide +kernel
theorem dX7_end_0 : decode cX7_end 0 = .ok (.aload_n 0, 1) := by decide +kernel
theorem dX7_end_1 : decode cX7_end 1 = .ok (.invokevirtual 55, 3) := by decide +kernel
theorem dX7_end_4 : decode cX7_end 4 = .ok (.aload_n 0, 1) := by decide +kernel
theorem dX7_end_5 : decode cX7_end 5 = .ok (.iconst 1, 1) := by decide +kernel
theorem dX7_end_6 : decode cX7_end 6 = .ok (.invokevirtual 85, 3) := by decide +kernel
theorem dX7_end_9 : decode cX7_end 9 = .ok (.aload_n 0, 1) := by decide +kernel
theorem dX7_end_10 : decode cX7_end 10 = .ok (.getfield 28, 3) := by decide +kernel
theorem dX7_end_13 : decode cX7_end 13 = .ok (.ifCond .ne 10, 3) := by decide +kernel
theorem dX7_end_16 : decode cX7_end 16 = .ok (.aload_n 0, 1) := by decide +kernel
theorem dX7_end_17 : decode cX7_end 17 = .ok (.getfield 22, 3) := by decide +kernel
theorem dX7_end_20 : decode cX7_end 20 = .ok (.ifCond .le 13, 3) := by decide +kernel
theorem dX7_end_23 : decode cX7_end 23 = .ok (.aload_n 0, 1) := by decide +kernel
theorem dX7_end_24 : decode cX7_end 24 = .ok (.bipush 10, 2) := by decide +kernel
theorem dX7_end_26 : decode cX7_end 26 = .ok (.iload_n 1, 1) := by decide +kernel
theorem dX7_end_27 : decode cX7_end 27 = .ok (.imul, 1) := by decide +kernel
theorem dX7_end_28 : decode cX7_end 28 = .ok (.iconst 1, 1) := by decide +kernel
theorem dX7_end_29 : decode cX7_end 29 = .ok (.iadd, 1) := by decide +kernel
theorem dX7_end_30 : decode cX7_end 30 = .ok (.putfield 35, 3) := by decide +kernel
theorem dX7_end_33 : decode cX7_end 33 = .ok (.return_, 1) := by decide +kernel
theorem dX7_rank_0 : decode cX7_rank 0 = .ok (.iload_n 0, 1) := by decide +kernel
theorem dX7_rank_1 : decode cX7_rank 1 = .ok (.lookupswitch 123 #[(33, 120), (38, 111), (42, 117), (43, 115), (45, 115), (47, 117), (58, 107), (60, 113), (61, 113), (62, 113), (124, 109), (126, 120)], 107) := by decide +kernel
theorem dX7_rank_108 : decode cX7_rank 108 = .ok (.iconst 1, 1) := by decide +kernel
theorem dX7_rank_109 : decode cX7_rank 109 = .ok (.ireturn, 1) := by decide +kernel
theorem dX7_rank_110 : decode cX7_rank 110 = .ok (.iconst 2, 1) := by decide +kernel
theorem dX7_rank_111 : decode cX7_rank 111 = .ok (.ireturn, 1) := by decide +kernel
theorem dX7_rank_112 : decode cX7_rank 112 = .ok (.iconst 3, 1) := by decide +kernel
theorem dX7_rank_113 : decode cX7_rank 113 = .ok (.ireturn, 1) := by decide +kernel
theorem dX7_rank_114 : decode cX7_rank 114 = .ok (.iconst 4, 1) := by decide +kernel
theorem dX7_rank_115 : decode cX7_rank 115 = .ok (.ireturn, 1) := by decide +kernel
theorem dX7_rank_116 : decode cX7_rank 116 = .ok (.iconst 5, 1) := by decide +kernel
theorem dX7_rank_117 : decode cX7_rank 117 = .ok (.ireturn, 1) := by decide +kernel
theorem dX7_rank_118 : decode cX7_rank 118 = .ok (.bipush 6, 2) := by decide +kernel
theorem dX7_rank_120 : decode cX7_rank 120 = .ok (.ireturn, 1) := by decide +kernel
theorem dX7_rank_121 : decode cX7_rank 121 = .ok (.bipush 7, 2) := by decide +kernel
theorem dX7_rank_123 : decode cX7_rank 123 = .ok (.ireturn, 1) := by decide +kernel
theorem dX7_rank_124 : decode cX7_rank 124 = .ok (.iconst 0, 1) := by decide +kernel
theorem dX7_rank_125 : decode cX7_rank 125 = .ok (.ireturn, 1) := by decide +kernel
theorem dX7_release_0 : decode cX7_release 0 = .ok (.iconst 0, 1) := by decide +kernel
theorem dX7_release_1 : decode cX7_release 1 = .ok (.istore_n 2, 1) := by decide +kernel
theorem dX7_release_2 : decode cX7_release 2 = .ok (.iload_n 2, 1) := by decide +kernel
theorem dX7_release_3 : decode cX7_release 3 = .ok (.aload_n 0, 1) := by decide +kernel
theorem dX7_release_4 : decode cX7_release 4 = .ok (.getfield 15, 3) := by decide +kernel
theorem dX7_release_7 : decode cX7_release 7 = .ok (.arraylength, 1) := by decide +kernel
theorem dX7_release_8 : decode cX7_release 8 = .ok (.if_icmp .ge 52, 3) := by decide +kernel
theorem dX7_release_11 : decode cX7_release 11 = .ok (.aload_n 0, 1) := by decide +kernel
theorem dX7_release_12 : decode cX7_release 12 = .ok (.invokevirtual 91, 3) := by decide +kernel
theorem dX7_release_15 : decode cX7_release 15 = .ok (.invokestatic 95, 3) := by decide +kernel
theorem dX7_release_18 : decode cX7_release 18 = .ok (.iload_n 1, 1) := by decide +kernel
theorem dX7_release_19 : decode cX7_release 19 = .ok (.if_icmp .lt 41, 3) := by decide +kernel
theorem dX7_release_22 : decode cX7_release 22 = .ok (.aload_n 0, 1) := by decide +kernel
theorem dX7_release_23 : decode cX7_release 23 = .ok (.invokevirtual 91, 3) := by decide +kernel
theorem dX7_release_26 : decode cX7_release 26 = .ok (.istore_n 3, 1) := by decide +kernel
theorem dX7_release_27 : decode cX7_release 27 = .ok (.aload_n 0, 1) := by decide +kernel
theorem dX7_release_28 : decode cX7_release 28 = .ok (.iload_n 3, 1) := by decide +kernel
theorem dX7_release_29 : decode cX7_release 29 = .ok (.bipush 58, 2) := by decide +kernel
theorem dX7_release_31 : decode cX7_release 31 = .ok (.if_icmp .ne 8, 3) := by decide +kernel
theorem dX7_release_34 : decode cX7_release 34 = .ok (.bipush (-63), 2) := by decide +kernel
theorem dX7_release_36 : decode cX7_release 36 = .ok (.goto 5, 3) := by decide +kernel
theorem dX7_release_39 : decode cX7_release 39 = .ok (.iload_n 3, 1) := by decide +kernel
theorem dX7_release_40 : decode cX7_release 40 = .ok (.ineg, 1) := by decide +kernel
theorem dX7_release_41 : decode cX7_release 41 = .ok (.invokevirtual 70, 3) := by decide +kernel
theorem dX7_release_44 : decode cX7_release 44 = .ok (.aload_n 0, 1) := by decide +kernel
theorem dX7_release_45 : decode cX7_release 45 = .ok (.dup, 1) := by decide +kernel
theorem dX7_release_46 : decode cX7_release 46 = .ok (.getfield 22, 3) := by decide +kernel
theorem dX7_release_49 : decode cX7_release 49 = .ok (.iconst 1, 1) := by decide +kernel
theorem dX7_release_50 : decode cX7_release 50 = .ok (.isub, 1) := by decide +kernel
theorem dX7_release_51 : decode cX7_release 51 = .ok (.putfield 22, 3) := by decide +kernel
theorem dX7_release_54 : decode cX7_release 54 = .ok (.iinc 2 1, 3) := by decide +kernel
theorem dX7_release_57 : decode cX7_release 57 = .ok (.goto (-55), 3) := by decide +kernel
theorem dX7_release_60 : decode cX7_release 60 = .ok (.return_, 1) := by decide +kernel
theorem dX7_top_0 : decode cX7_top 0 = .ok (.aload_n 0, 1) := by decide +kernel
theorem dX7_top_1 : decode cX7_top 1 = .ok (.getfield 22, 3) := by decide +kernel
theorem dX7_top_4 : decode cX7_top 4 = .ok (.ifCond .le 29, 3) := by decide +kernel
theorem dX7_top_7 : decode cX7_top 7 = .ok (.aload_n 0, 1) := by decide +kernel
theorem dX7_top_8 : decode cX7_top 8 = .ok (.getfield 22, 3) := by decide +kernel
theorem dX7_top_11 : decode cX7_top 11 = .ok (.aload_n 0, 1) := by decide +kernel
theorem dX7_top_12 : decode cX7_top 12 = .ok (.getfield 15, 3) := by decide +kernel
theorem dX7_top_15 : decode cX7_top 15 = .ok (.arraylength, 1) := by decide +kernel
theorem dX7_top_16 : decode cX7_top 16 = .ok (.if_icmp .gt 17, 3) := by decide +kernel
theorem dX7_top_19 : decode cX7_top 19 = .ok (.aload_n 0, 1) := by decide +kernel
theorem dX7_top_20 : decode cX7_top 20 = .ok (.getfield 15, 3) := by decide +kernel
theorem dX7_top_23 : decode cX7_top 23 = .ok (.aload_n 0, 1) := by decide +kernel
theorem dX7_top_24 : decode cX7_top 24 = .ok (.getfield 22, 3) := by decide +kernel
theorem dX7_top_27 : decode cX7_top 27 = .ok (.iconst 1, 1) := by decide +kernel
theorem dX7_top_28 : decode cX7_top 28 = .ok (.isub, 1) := by decide +kernel
theorem dX7_top_29 : decode cX7_top 29 = .ok (.iaload, 1) := by decide +kernel
theorem dX7_top_30 : decode cX7_top 30 = .ok (.goto 4, 3) := by decide +kernel
theorem dX7_top_33 : decode cX7_top 33 = .ok (.iconst 0, 1) := by decide +kernel
theorem dX7_top_34 : decode cX7_top 34 = .ok (.ireturn, 1) := by decide +kernel
theorem dX7_push_0 : decode cX7_push 0 = .ok (.aload_n 0, 1) := by decide +kernel
theorem dX7_push_1 : decode cX7_push 1 = .ok (.getfield 22, 3) := by decide +kernel
theorem dX7_push_4 : decode cX7_push 4 = .ok (.ifCond .lt 35, 3) := by decide +kernel
theorem dX7_push_7 : decode cX7_push 7 = .ok (.aload_n 0, 1) := by decide +kernel
theorem dX7_push_8 : decode cX7_push 8 = .ok (.getfield 22, 3) := by decide +kernel
theorem dX7_push_11 : decode cX7_push 11 = .ok (.aload_n 0, 1) := by decide +kernel
theorem dX7_push_12 : decode cX7_push 12 = .ok (.getfield 15, 3) := by decide +kernel
theorem dX7_push_15 : decode cX7_push 15 = .ok (.arraylength, 1) := by decide +kernel
theorem dX7_push_16 : decode cX7_push 16 = .ok (.if_icmp .ge 23, 3) := by decide +kernel
