theorem dX9_readRow_82 : decode cX9_readRow 82 = .ok (.iaload, 1) := by decide +kernel
theorem dX9_readRow_83 : decode cX9_readRow 83 = .ok (.iconst 1, 1) := by decide +kernel
theorem dX9_readRow_84 : decode cX9_readRow 84 = .ok (.isub, 1) := by decide +kernel
theorem dX9_readRow_85 : decode cX9_readRow 85 = .ok (.invokevirtual 109, 3) := by decide +kernel
theorem dX9_readRow_88 : decode cX9_readRow 88 = .ok (.iastore, 1) := by decide +kernel
theorem dX9_readRow_89 : decode cX9_readRow 89 = .ok (.aload_n 0, 1) := by decide +kernel
theorem dX9_readRow_90 : decode cX9_readRow 90 = .ok (.getfield 23, 3) := by decide +kernel
theorem dX9_readRow_93 : decode cX9_readRow 93 = .ok (.iload_n 2, 1) := by decide +kernel
theorem dX9_readRow_94 : decode cX9_readRow 94 = .ok (.aload_n 0, 1) := by decide +kernel
theorem dX9_readRow_95 : decode cX9_readRow 95 = .ok (.aload_n 0, 1) := by decide +kernel
theorem dX9_readRow_96 : decode cX9_readRow 96 = .ok (.getfield 93, 3) := by decide +kernel
theorem dX9_readRow_99 : decode cX9_readRow 99 = .ok (.iconst 1, 1) := by decide +kernel
theorem dX9_readRow_100 : decode cX9_readRow 100 = .ok (.if_icmp .ne 33, 3) := by decide +kernel
theorem dX9_readRow_103 : decode cX9_readRow 103 = .ok (.aload_n 0, 1) := by decide +kernel
theorem dX9_readRow_104 : decode cX9_readRow 104 = .ok (.getfield 90, 3) := by decide +kernel
theorem dX9_readRow_107 : decode cX9_readRow 107 = .ok (.aload_n 0, 1) := by decide +kernel
theorem dX9_readRow_108 : decode cX9_readRow 108 = .ok (.getfield 13, 3) := by decide +kernel
theorem dX9_readRow_111 : decode cX9_readRow 111 = .ok (.iconst 1, 1) := by decide +kernel
theorem dX9_readRow_112 : decode cX9_readRow 112 = .ok (.iaload, 1) := by decide +kernel
theorem dX9_readRow_113 : decode cX9_readRow 113 = .ok (.if_icmp .ge 20, 3) := by decide +kernel
theorem dX9_readRow_116 : decode cX9_readRow 116 = .ok (.aload_n 0, 1) := by decide +kernel
theorem dX9_readRow_117 : decode cX9_readRow 117 = .ok (.getfield 90, 3) := by decide +kernel
theorem dX9_readRow_120 : decode cX9_readRow 120 = .ok (.aload_n 0, 1) := by decide +kernel
theorem dX9_readRow_121 : decode cX9_readRow 121 = .ok (.getfield 20, 3) := by decide +kernel
theorem dX9_readRow_124 : decode cX9_readRow 124 = .ok (.iload_n 2, 1) := by decide +kernel
theorem dX9_readRow_125 : decode cX9_readRow 125 = .ok (.iaload, 1) := by decide +kernel
theorem dX9_readRow_126 : decode cX9_readRow 126 = .ok (.if_icmp .eq 7, 3) := by decide +kernel
theorem dX9_readRow_129 : decode cX9_readRow 129 = .ok (.iconst 1, 1) := by decide +kernel
theorem dX9_readRow_130 : decode cX9_readRow 130 = .ok (.goto 4, 3) := by decide +kernel
theorem dX9_readRow_133 : decode cX9_readRow 133 = .ok (.iconst 0, 1) := by decide +kernel
theorem dX9_readRow_134 : decode cX9_readRow 134 = .ok (.invokevirtual 102, 3) := by decide +kernel
theorem dX9_readRow_137 : decode cX9_readRow 137 = .ok (.iastore, 1) := by decide +kernel
theorem dX9_readRow_138 : decode cX9_readRow 138 = .ok (.aload_n 0, 1) := by decide +kernel
theorem dX9_readRow_139 : decode cX9_readRow 139 = .ok (.getfield 26, 3) := by decide +kernel
theorem dX9_readRow_142 : decode cX9_readRow 142 = .ok (.iload_n 2, 1) := by decide +kernel
theorem dX9_readRow_143 : decode cX9_readRow 143 = .ok (.aload_n 0, 1) := by decide +kernel
theorem dX9_readRow_144 : decode cX9_readRow 144 = .ok (.iconst 1, 1) := by decide +kernel
theorem dX9_readRow_145 : decode cX9_readRow 145 = .ok (.bipush 40, 2) := by decide +kernel
theorem dX9_readRow_147 : decode cX9_readRow 147 = .ok (.invokevirtual 109, 3) := by decide +kernel
theorem dX9_readRow_150 : decode cX9_readRow 150 = .ok (.iastore, 1) := by decide +kernel
theorem dX9_readRow_151 : decode cX9_readRow 151 = .ok (.aload_n 0, 1) := by decide +kernel
theorem dX9_readRow_152 : decode cX9_readRow 152 = .ok (.getfield 17, 3) := by decide +kernel
theorem dX9_readRow_155 : decode cX9_readRow 155 = .ok (.iconst 1, 1) := by decide +kernel
theorem dX9_readRow_156 : decode cX9_readRow 156 = .ok (.dup2, 1) := by decide +kernel
theorem dX9_readRow_157 : decode cX9_readRow 157 = .ok (.iaload, 1) := by decide +kernel
theorem dX9_readRow_158 : decode cX9_readRow 158 = .ok (.iconst 1, 1) := by decide +kernel
theorem dX9_readRow_159 : decode cX9_readRow 159 = .ok (.iadd, 1) := by decide +kernel
theorem dX9_readRow_160 : decode cX9_readRow 160 = .ok (.iastore, 1) := by decide +kernel
theorem dX9_readRow_161 : decode cX9_readRow 161 = .ok (.goto 106, 3) := by decide +kernel
theorem dX9_readRow_164 : decode cX9_readRow 164 = .ok (.aload_n 0, 1) := by decide +kernel
theorem dX9_readRow_165 : decode cX9_readRow 165 = .ok (.getfield 32, 3) := by decide +kernel
theorem dX9_readRow_168 : decode cX9_readRow 168 = .ok (.aload_n 0, 1) := by decide +kernel
theorem dX9_readRow_169 : decode cX9_readRow 169 = .ok (.getfield 29, 3) := by decide +kernel
theorem dX9_readRow_172 : decode cX9_readRow 172 = .ok (.iconst 1, 1) := by decide +kernel
theorem dX9_readRow_173 : decode cX9_readRow 173 = .ok (.iaload, 1) := by decide +kernel
theorem dX9_readRow_174 : decode cX9_readRow 174 = .ok (.aload_n 0, 1) := by decide +kernel
theorem dX9_readRow_175 : decode cX9_readRow 175 = .ok (.iconst 0, 1) := by decide +kernel
theorem dX9_readRow_176 : decode cX9_readRow 176 = .ok (.bipush 9, 2) := by decide +kernel
theorem dX9_readRow_178 : decode cX9_readRow 178 = .ok (.invokevirtual 109, 3) := by decide +kernel
theorem dX9_readRow_181 : decode cX9_readRow 181 = .ok (.iastore, 1) := by decide +kernel
theorem dX9_readRow_182 : decode cX9_readRow 182 = .ok (.aload_n 0, 1) := by decide +kernel
theorem dX9_readRow_183 : decode cX9_readRow 183 = .ok (.getfield 35, 3) := by decide +kernel
theorem dX9_readRow_186 : decode cX9_readRow 186 = .ok (.aload_n 0, 1) := by decide +kernel
theorem dX9_readRow_187 : decode cX9_readRow 187 = .ok (.getfield 29, 3) := by decide +kernel
theorem dX9_readRow_190 : decode cX9_readRow 190 = .ok (.iconst 1, 1) := by decide +kernel
theorem dX9_readRow_191 : decode cX9_readRow 191 = .ok (.iaload, 1) := by decide +kernel
theorem dX9_readRow_192 : decode cX9_readRow 192 = .ok (.aload_n 0, 1) := by decide +kernel
theorem dX9_readRow_193 : decode cX9_readRow 193 = .ok (.iconst 0, 1) := by decide +kernel
theorem dX9_readRow_194 : decode cX9_readRow 194 = .ok (.aload_n 0, 1) := by decide +kernel
theorem dX9_readRow_195 : decode cX9_readRow 195 = .ok (.getfield 13, 3) := by decide +kernel
theorem dX9_readRow_198 : decode cX9_readRow 198 = .ok (.iconst 1, 1) := by decide +kernel
theorem dX9_readRow_199 : decode cX9_readRow 199 = .ok (.iaload, 1) := by decide +kernel
theorem dX9_readRow_200 : decode cX9_readRow 200 = .ok (.iconst 1, 1) := by decide +kernel
theorem dX9_readRow_201 : decode cX9_readRow 201 = .ok (.isub, 1) := by decide +kernel
theorem dX9_readRow_202 : decode cX9_readRow 202 = .ok (.invokevirtual 109, 3) := by decide +kernel
theorem dX9_readRow_205 : decode cX9_readRow 205 = .ok (.iastore, 1) := by decide +kernel
theorem dX9_readRow_206 : decode cX9_readRow 206 = .ok (.aload_n 0, 1) := by decide +kernel
theorem dX9_readRow_207 : decode cX9_readRow 207 = .ok (.getfield 29, 3) := by decide +kernel
theorem dX9_readRow_210 : decode cX9_readRow 210 = .ok (.iconst 1, 1) := by decide +kernel
theorem dX9_readRow_211 : decode cX9_readRow 211 = .ok (.dup2, 1) := by decide +kernel
theorem dX9_readRow_212 : decode cX9_readRow 212 = .ok (.iaload, 1) := by decide +kernel
theorem dX9_readRow_213 : decode cX9_readRow 213 = .ok (.iconst 1, 1) := by decide +kernel
theorem dX9_readRow_214 : decode cX9_readRow 214 = .ok (.iadd, 1) := by decide +kernel
theorem dX9_readRow_215 : decode cX9_readRow 215 = .ok (.iastore, 1) := by decide +kernel
theorem dX9_readRow_216 : decode cX9_readRow 216 = .ok (.goto 51, 3) := by decide +kernel
theorem dX9_readRow_219 : decode cX9_readRow 219 = .ok (.aload_n 0, 1) := by decide +kernel
theorem dX9_readRow_220 : decode cX9_readRow 220 = .ok (.getfield 38, 3) := by decide +kernel
theorem dX9_readRow_223 : decode cX9_readRow 223 = .ok (.iconst 1, 1) := by decide +kernel
theorem dX9_readRow_224 : decode cX9_readRow 224 = .ok (.aload_n 0, 1) := by decide +kernel
theorem dX9_readRow_225 : decode cX9_readRow 225 = .ok (.iconst 1, 1) := by decide +kernel
theorem dX9_readRow_226 : decode cX9_readRow 226 = .ok (.bipush 9, 2) := by decide +kernel
theorem dX9_readRow_228 : decode cX9_readRow 228 = .ok (.invokevirtual 109, 3) := by decide +kernel
theorem dX9_readRow_231 : decode cX9_readRow 231 = .ok (.iastore, 1) := by decide +kernel
theorem dX9_readRow_232 : decode cX9_readRow 232 = .ok (.aload_n 0, 1) := by decide +kernel
theorem dX9_readRow_233 : decode cX9_readRow 233 = .ok (.dup, 1) := by decide +kernel
theorem dX9_readRow_234 : decode cX9_readRow 234 = .ok (.getfield 106, 3) := by decide +kernel
theorem dX9_readRow_237 : decode cX9_readRow 237 = .ok (.iconst 1, 1) := by decide +kernel
theorem dX9_readRow_238 : decode cX9_readRow 238 = .ok (.ior, 1) := by decide +kernel
theorem dX9_readRow_239 : decode cX9_readRow 239 = .ok (.putfield 106, 3) := by decide +kernel
theorem dX9_readRow_242 : decode cX9_readRow 242 = .ok (.goto 25, 3) := by decide +kernel
theorem dX9_readRow_245 : decode cX9_readRow 245 = .ok (.aload_n 0, 1) := by decide +kernel
theorem dX9_readRow_246 : decode cX9_readRow 246 = .ok (.getfield 41, 3) := by decide +kernel
theorem dX9_readRow_249 : decode cX9_readRow 249 = .ok (.iconst 1, 1) := by decide +kernel
theorem dX9_readRow_250 : decode cX9_readRow 250 = .ok (.aload_n 0, 1) := by decide +kernel
theorem dX9_readRow_251 : decode cX9_readRow 251 = .ok (.iconst 0, 1) := by decide +kernel
theorem dX9_readRow_252 : decode cX9_readRow 252 = .ok (.iconst 3, 1) := by decide +kernel
theorem dX9_readRow_253 : decode cX9_readRow 253 = .ok (.invokevirtual 109, 3) := by decide +kernel
theorem dX9_readRow_256 : decode cX9_readRow 256 = .ok (.iastore, 1) := by decide +kernel
theorem dX9_readRow_257 : decode cX9_readRow 257 = .ok (.aload_n 0, 1) := by decide +kernel
theorem dX9_readRow_258 : decode cX9_readRow 258 = .ok (.dup, 1) := by decide +kernel
theorem dX9_readRow_259 : decode cX9_readRow 259 = .ok (.getfield 106, 3) := by decide +kernel
theorem dX9_readRow_262 : decode cX9_readRow 262 = .ok (.iconst 2, 1) := by decide +kernel
theorem dX9_readRow_263 : decode cX9_readRow 263 = .ok (.ior, 1) := by decide +kernel
theorem dX9_readRow_264 : decode cX9_readRow 264 = .ok (.putfield 106, 3) := by decide +kernel
theorem dX9_readRow_267 : decode cX9_readRow 267 = .ok (.return_, 1) := by decide +kernel
theorem dX9_plain_0 : decode cX9_plain 0 = .ok (.aload_n 0, 1) := by decide +kernel
theorem dX9_plain_1 : decode cX9_plain 1 = .ok (.getfield 13, 3) := by decide +kernel
theorem dX9_plain_4 : decode cX9_plain 4 = .ok (.iconst 1, 1) := by decide +kernel
theorem dX9_plain_5 : decode cX9_plain 5 = .ok (.iconst 2, 1) := by decide +kernel
theorem dX9_plain_6 : decode cX9_plain 6 = .ok (.iastore, 1) := by decide +kernel
theorem dX9_plain_7 : decode cX9_plain 7 = .ok (.aload_n 0, 1) := by decide +kernel
theorem dX9_plain_8 : decode cX9_plain 8 = .ok (.getfield 17, 3) := by decide +kernel
theorem dX9_plain_11 : decode cX9_plain 11 = .ok (.iconst 1, 1) := by decide +kernel
theorem dX9_plain_12 : decode cX9_plain 12 = .ok (.iconst 0, 1) := by decide +kernel
theorem dX9_plain_13 : decode cX9_plain 13 = .ok (.iastore, 1) := by decide +kernel
theorem dX9_plain_14 : decode cX9_plain 14 = .ok (.aload_n 0, 1) := by decide +kernel
theorem dX9_plain_15 : decode cX9_plain 15 = .ok (.getfield 29, 3) := by decide +kernel
theorem dX9_plain_18 : decode cX9_plain 18 = .ok (.iconst 1, 1) := by decide +kernel
theorem dX9_plain_19 : decode cX9_plain 19 = .ok (.iconst 0, 1) := by decide +kernel
theorem dX9_plain_20 : decode cX9_plain 20 = .ok (.iastore, 1) := by decide +kernel
theorem dX9_plain_21 : decode cX9_plain 21 = .ok (.aload_n 0, 1) := by decide +kernel
theorem dX9_plain_22 : decode cX9_plain 22 = .ok (.getfield 38, 3) := by decide +kernel
theorem dX9_plain_25 : decode cX9_plain 25 = .ok (.iconst 1, 1) := by decide +kernel
theorem dX9_plain_26 : decode cX9_plain 26 = .ok (.iconst 4, 1) := by decide +kernel
theorem dX9_plain_27 : decode cX9_plain 27 = .ok (.iastore, 1) := by decide +kernel
theorem dX9_plain_28 : decode cX9_plain 28 = .ok (.aload_n 0, 1) := by decide +kernel
theorem dX9_plain_29 : decode cX9_plain 29 = .ok (.getfield 41, 3) := by decide +kernel
theorem dX9_plain_32 : decode cX9_plain 32 = .ok (.iconst 1, 1) := by decide +kernel
theorem dX9_plain_33 : decode cX9_plain 33 = .ok (.iconst 1, 1) := by decide +kernel
theorem dX9_plain_34 : decode cX9_plain 34 = .ok (.iastore, 1) := by decide +kernel
theorem dX9_plain_35 : decode cX9_plain 35 = .ok (.aload_n 0, 1) := by decide +kernel
theorem dX9_plain_36 : decode cX9_plain 36 = .ok (.iconst 0, 1) := by decide +kernel
theorem dX9_plain_37 : decode cX9_plain 37 = .ok (.putfield 106, 3) := by decide +kernel
theorem dX9_plain_40 : decode cX9_plain 40 = .ok (.return_, 1) := by decide +kernel
theorem dX9_takeDraft_0 : decode cX9_takeDraft 0 = .ok (.aload_n 0, 1) := by decide +kernel
theorem dX9_takeDraft_1 : decode cX9_takeDraft 1 = .ok (.getfield 13, 3) := by decide +kernel
theorem dX9_takeDraft_4 : decode cX9_takeDraft 4 = .ok (.iconst 0, 1) := by decide +kernel
theorem dX9_takeDraft_5 : decode cX9_takeDraft 5 = .ok (.aload_n 0, 1) := by decide +kernel
theorem dX9_takeDraft_6 : decode cX9_takeDraft 6 = .ok (.getfield 13, 3) := by decide +kernel
theorem dX9_takeDraft_9 : decode cX9_takeDraft 9 = .ok (.iconst 1, 1) := by decide +kernel
theorem dX9_takeDraft_10 : decode cX9_takeDraft 10 = .ok (.iaload, 1) := by decide +kernel
theorem dX9_takeDraft_11 : decode cX9_takeDraft 11 = .ok (.iastore, 1) := by decide +kernel
theorem dX9_takeDraft_12 : decode cX9_takeDraft 12 = .ok (.aload_n 0, 1) := by decide +kernel
theorem dX9_takeDraft_13 : decode cX9_takeDraft 13 = .ok (.getfield 17, 3) := by decide +kernel
theorem dX9_takeDraft_16 : decode cX9_takeDraft 16 = .ok (.iconst 0, 1) := by decide +kernel
theorem dX9_takeDraft_17 : decode cX9_takeDraft 17 = .ok (.aload_n 0, 1) := by decide +kernel
theorem dX9_takeDraft_18 : decode cX9_takeDraft 18 = .ok (.getfield 17, 3) := by decide +kernel
theorem dX9_takeDraft_21 : decode cX9_takeDraft 21 = .ok (.iconst 1, 1) := by decide +kernel
theorem dX9_takeDraft_22 : decode cX9_takeDraft 22 = .ok (.iaload, 1) := by decide +kernel
theorem dX9_takeDraft_23 : decode cX9_takeDraft 23 = .ok (.iastore, 1) := by decide +kernel
theorem dX9_takeDraft_24 : decode cX9_takeDraft 24 = .ok (.aload_n 0, 1) := by decide +kernel
theorem dX9_takeDraft_25 : decode cX9_takeDraft 25 = .ok (.getfield 29, 3) := by decide +kernel
theorem dX9_takeDraft_28 : decode cX9_takeDraft 28 = .ok (.iconst 0, 1) := by decide +kernel
theorem dX9_takeDraft_29 : decode cX9_takeDraft 29 = .ok (.aload_n 0, 1) := by decide +kernel
theorem dX9_takeDraft_30 : decode cX9_takeDraft 30 = .ok (.getfield 29, 3) := by decide +kernel
theorem dX9_takeDraft_33 : decode cX9_takeDraft 33 = .ok (.iconst 1, 1) := by decide +kernel
theorem dX9_takeDraft_34 : decode cX9_takeDraft 34 = .ok (.iaload, 1) := by decide +kernel
theorem dX9_takeDraft_35 : decode cX9_takeDraft 35 = .ok (.iastore, 1) := by decide +kernel
theorem dX9_takeDraft_36 : decode cX9_takeDraft 36 = .ok (.aload_n 0, 1) := by decide +kernel
theorem dX9_takeDraft_37 : decode cX9_takeDraft 37 = .ok (.getfield 38, 3) := by decide +kernel
theorem dX9_takeDraft_40 : decode cX9_takeDraft 40 = .ok (.iconst 0, 1) := by decide +kernel
theorem dX9_takeDraft_41 : decode cX9_takeDraft 41 = .ok (.aload_n 0, 1) := by decide +kernel
theorem dX9_takeDraft_42 : decode cX9_takeDraft 42 = .ok (.getfield 38, 3) := by decide +kernel
theorem dX9_takeDraft_45 : decode cX9_takeDraft 45 = .ok (.iconst 1, 1) := by decide +kernel
theorem dX9_takeDraft_46 : decode cX9_takeDraft 46 = .ok (.iaload, 1) := by decide +kernel
theorem dX9_takeDraft_47 : decode cX9_takeDraft 47 = .ok (.iastore, 1) := by decide +kernel
theorem dX9_takeDraft_48 : decode cX9_takeDraft 48 = .ok (.aload_n 0, 1) := by decide +kernel
theorem dX9_takeDraft_49 : decode cX9_takeDraft 49 = .ok (.getfield 41, 3) := by decide +kernel
theorem dX9_takeDraft_52 : decode cX9_takeDraft 52 = .ok (.iconst 0, 1) := by decide +kernel
theorem dX9_takeDraft_53 : decode cX9_takeDraft 53 = .ok (.aload_n 0, 1) := by decide +kernel
theorem dX9_takeDraft_54 : decode cX9_takeDraft 54 = .ok (.getfield 41, 3) := by decide +kernel
theorem dX9_takeDraft_57 : decode cX9_takeDraft 57 = .ok (.iconst 1, 1) := by decide +kernel
theorem dX9_takeDraft_58 : decode cX9_takeDraft 58 = .ok (.iaload, 1) := by decide +kernel
theorem dX9_takeDraft_59 : decode cX9_takeDraft 59 = .ok (.iastore, 1) := by decide +kernel
theorem dX9_takeDraft_60 : decode cX9_takeDraft 60 = .ok (.iconst 0, 1) := by decide +kernel
theorem dX9_takeDraft_61 : decode cX9_takeDraft 61 = .ok (.istore_n 1, 1) := by decide +kernel
theorem dX9_takeDraft_62 : decode cX9_takeDraft 62 = .ok (.iload_n 1, 1) := by decide +kernel
theorem dX9_takeDraft_63 : decode cX9_takeDraft 63 = .ok (.bipush 8, 2) := by decide +kernel
theorem dX9_takeDraft_65 : decode cX9_takeDraft 65 = .ok (.if_icmp .ge 54, 3) := by decide +kernel
theorem dX9_takeDraft_68 : decode cX9_takeDraft 68 = .ok (.aload_n 0, 1) := by decide +kernel
theorem dX9_takeDraft_69 : decode cX9_takeDraft 69 = .ok (.getfield 20, 3) := by decide +kernel
theorem dX9_takeDraft_72 : decode cX9_takeDraft 72 = .ok (.iload_n 1, 1) := by decide +kernel
theorem dX9_takeDraft_73 : decode cX9_takeDraft 73 = .ok (.aload_n 0, 1) := by decide +kernel
theorem dX9_takeDraft_74 : decode cX9_takeDraft 74 = .ok (.getfield 20, 3) := by decide +kernel
theorem dX9_takeDraft_77 : decode cX9_takeDraft 77 = .ok (.bipush 8, 2) := by decide +kernel
theorem dX9_takeDraft_79 : decode cX9_takeDraft 79 = .ok (.iload_n 1, 1) := by decide +kernel
theorem dX9_takeDraft_80 : decode cX9_takeDraft 80 = .ok (.iadd, 1) := by decide +kernel
theorem dX9_takeDraft_81 : decode cX9_takeDraft 81 = .ok (.iaload, 1) := by decide +kernel
theorem dX9_takeDraft_82 : decode cX9_takeDraft 82 = .ok (.iastore, 1) := by decide +kernel
theorem dX9_takeDraft_83 : decode cX9_takeDraft 83 = .ok (.aload_n 0, 1) := by decide +kernel
theorem dX9_takeDraft_84 : decode cX9_takeDraft 84 = .ok (.getfield 23, 3) := by decide +kernel
theorem dX9_takeDraft_87 : decode cX9_takeDraft 87 = .ok (.iload_n 1, 1) := by decide +kernel
theorem dX9_takeDraft_88 : decode cX9_takeDraft 88 = .ok (.aload_n 0, 1) := by decide +kernel
theorem dX9_takeDraft_89 : decode cX9_takeDraft 89 = .ok (.getfield 23, 3) := by decide +kernel
theorem dX9_takeDraft_92 : decode cX9_takeDraft 92 = .ok (.bipush 8, 2) := by decide +kernel
theorem dX9_takeDraft_94 : decode cX9_takeDraft 94 = .ok (.iload_n 1, 1) := by decide +kernel
theorem dX9_takeDraft_95 : decode cX9_takeDraft 95 = .ok (.iadd, 1) := by decide +kernel
theorem dX9_takeDraft_96 : decode cX9_takeDraft 96 = .ok (.iaload, 1) := by decide +kernel
theorem dX9_takeDraft_97 : decode cX9_takeDraft 97 = .ok (.iastore, 1) := by decide +kernel
theorem dX9_takeDraft_98 : decode cX9_takeDraft 98 = .ok (.aload_n 0, 1) := by decide +kernel
theorem dX9_takeDraft_99 : decode cX9_takeDraft 99 = .ok (.getfield 26, 3) := by decide +kernel
theorem dX9_takeDraft_102 : decode cX9_takeDraft 102 = .ok (.iload_n 1, 1) := by decide +kernel
theorem dX9_takeDraft_103 : decode cX9_takeDraft 103 = .ok (.aload_n 0, 1) := by decide +kernel
theorem dX9_takeDraft_104 : decode cX9_takeDraft 104 = .ok (.getfield 26, 3) := by decide +kernel
theorem dX9_takeDraft_107 : decode cX9_takeDraft 107 = .ok (.bipush 8, 2) := by decide +kernel
theorem dX9_takeDraft_109 : decode cX9_takeDraft 109 = .ok (.iload_n 1, 1) := by decide +kernel
theorem dX9_takeDraft_110 : decode cX9_takeDraft 110 = .ok (.iadd, 1) := by decide +kernel
theorem dX9_takeDraft_111 : decode cX9_takeDraft 111 = .ok (.iaload, 1) := by decide +kernel
theorem dX9_takeDraft_112 : decode cX9_takeDraft 112 = .ok (.iastore, 1) := by decide +kernel
theorem dX9_takeDraft_113 : decode cX9_takeDraft 113 = .ok (.iinc 1 1, 3) := by decide +kernel
theorem dX9_takeDraft_116 : decode cX9_takeDraft 116 = .ok (.goto (-54), 3) := by decide +kernel
theorem dX9_takeDraft_119 : decode cX9_takeDraft 119 = .ok (.iconst 0, 1) := by decide +kernel
theorem dX9_takeDraft_120 : decode cX9_takeDraft 120 = .ok (.istore_n 1, 1) := by decide +kernel
theorem dX9_takeDraft_121 : decode cX9_takeDraft 121 = .ok (.iload_n 1, 1) := by decide +kernel
theorem dX9_takeDraft_122 : decode cX9_takeDraft 122 = .ok (.iconst 5, 1) := by decide +kernel
theorem dX9_takeDraft_123 : decode cX9_takeDraft 123 = .ok (.if_icmp .ge 47, 3) := by decide +kernel
theorem dX9_takeDraft_126 : decode cX9_takeDraft 126 = .ok (.aload_n 0, 1) := by decide +kernel
theorem dX9_takeDraft_127 : decode cX9_takeDraft 127 = .ok (.getfield 44, 3) := by decide +kernel
theorem dX9_takeDraft_130 : decode cX9_takeDraft 130 = .ok (.iconst 0, 1) := by decide +kernel
theorem dX9_takeDraft_131 : decode cX9_takeDraft 131 = .ok (.iload_n 1, 1) := by decide +kernel
theorem dX9_takeDraft_132 : decode cX9_takeDraft 132 = .ok (.iadd, 1) := by decide +kernel
theorem dX9_takeDraft_133 : decode cX9_takeDraft 133 = .ok (.aload_n 0, 1) := by decide +kernel
theorem dX9_takeDraft_134 : decode cX9_takeDraft 134 = .ok (.getfield 35, 3) := by decide +kernel
theorem dX9_takeDraft_137 : decode cX9_takeDraft 137 = .ok (.iload_n 1, 1) := by decide +kernel
theorem dX9_takeDraft_138 : decode cX9_takeDraft 138 = .ok (.iaload, 1) := by decide +kernel
theorem dX9_takeDraft_139 : decode cX9_takeDraft 139 = .ok (.iastore, 1) := by decide +kernel
theorem dX9_takeDraft_140 : decode cX9_takeDraft 140 = .ok (.aload_n 0, 1) := by decide +kernel
theorem dX9_takeDraft_141 : decode cX9_takeDraft 141 = .ok (.getfield 44, 3) := by decide +kernel
theorem dX9_takeDraft_144 : decode cX9_takeDraft 144 = .ok (.iconst 5, 1) := by decide +kernel
theorem dX9_takeDraft_145 : decode cX9_takeDraft 145 = .ok (.iload_n 1, 1) := by decide +kernel
theorem dX9_takeDraft_146 : decode cX9_takeDraft 146 = .ok (.iadd, 1) := by decide +kernel
theorem dX9_takeDraft_147 : decode cX9_takeDraft 147 = .ok (.aload_n 0, 1) := by decide +kernel
theorem dX9_takeDraft_148 : decode cX9_takeDraft 148 = .ok (.getfield 32, 3) := by decide +kernel
theorem dX9_takeDraft_151 : decode cX9_takeDraft 151 = .ok (.iload_n 1, 1) := by decide +kernel
theorem dX9_takeDraft_152 : decode cX9_takeDraft 152 = .ok (.iaload, 1) := by decide +kernel
theorem dX9_takeDraft_153 : decode cX9_takeDraft 153 = .ok (.iastore, 1) := by decide +kernel
theorem dX9_takeDraft_154 : decode cX9_takeDraft 154 = .ok (.aload_n 0, 1) := by decide +kernel
theorem dX9_takeDraft_155 : decode cX9_takeDraft 155 = .ok (.getfield 44, 3) := by decide +kernel
theorem dX9_takeDraft_158 : decode cX9_takeDraft 158 = .ok (.bipush 10, 2) := by decide +kernel
theorem dX9_takeDraft_160 : decode cX9_takeDraft 160 = .ok (.iload_n 1, 1) := by decide +kernel
theorem dX9_takeDraft_161 : decode cX9_takeDraft 161 = .ok (.iadd, 1) := by decide +kernel
theorem dX9_takeDraft_162 : decode cX9_takeDraft 162 = .ok (.iconst 0, 1) := by decide +kernel
theorem dX9_takeDraft_163 : decode cX9_takeDraft 163 = .ok (.iastore, 1) := by decide +kernel
theorem dX9_takeDraft_164 : decode cX9_takeDraft 164 = .ok (.iinc 1 1, 3) := by decide +kernel
theorem dX9_takeDraft_167 : decode cX9_takeDraft 167 = .ok (.goto (-46), 3) := by decide +kernel
theorem dX9_takeDraft_170 : decode cX9_takeDraft 170 = .ok (.aload_n 0, 1) := by decide +kernel
theorem dX9_takeDraft_171 : decode cX9_takeDraft 171 = .ok (.getfield 44, 3) := by decide +kernel
theorem dX9_takeDraft_174 : decode cX9_takeDraft 174 = .ok (.bipush 15, 2) := by decide +kernel
theorem dX9_takeDraft_176 : decode cX9_takeDraft 176 = .ok (.iconst 0, 1) := by decide +kernel
theorem dX9_takeDraft_177 : decode cX9_takeDraft 177 = .ok (.iastore, 1) := by decide +kernel
theorem dX9_takeDraft_178 : decode cX9_takeDraft 178 = .ok (.aload_n 0, 1) := by decide +kernel
theorem dX9_takeDraft_179 : decode cX9_takeDraft 179 = .ok (.getfield 44, 3) := by decide +kernel
theorem dX9_takeDraft_182 : decode cX9_takeDraft 182 = .ok (.bipush 16, 2) := by decide +kernel
theorem dX9_takeDraft_184 : decode cX9_takeDraft 184 = .ok (.iconst 0, 1) := by decide +kernel
theorem dX9_takeDraft_185 : decode cX9_takeDraft 185 = .ok (.iastore, 1) := by decide +kernel
theorem dX9_takeDraft_186 : decode cX9_takeDraft 186 = .ok (.aload_n 0, 1) := by decide +kernel
theorem dX9_takeDraft_187 : decode cX9_takeDraft 187 = .ok (.iconst 0, 1) := by decide +kernel
theorem dX9_takeDraft_188 : decode cX9_takeDraft 188 = .ok (.putfield 113, 3) := by decide +kernel
theorem dX9_takeDraft_191 : decode cX9_takeDraft 191 = .ok (.aload_n 0, 1) := by decide +kernel
theorem dX9_takeDraft_192 : decode cX9_takeDraft 192 = .ok (.getfield 47, 3) := by decide +kernel
theorem dX9_takeDraft_195 : decode cX9_takeDraft 195 = .ok (.iconst 0, 1) := by decide +kernel
theorem dX9_takeDraft_196 : decode cX9_takeDraft 196 = .ok (.iconst 0, 1) := by decide +kernel
theorem dX9_takeDraft_197 : decode cX9_takeDraft 197 = .ok (.bastore, 1) := by decide +kernel
theorem dX9_takeDraft_198 : decode cX9_takeDraft 198 = .ok (.aload_n 0, 1) := by decide +kernel
theorem dX9_takeDraft_199 : decode cX9_takeDraft 199 = .ok (.getfield 47, 3) := by decide +kernel
theorem dX9_takeDraft_202 : decode cX9_takeDraft 202 = .ok (.iconst 1, 1) := by decide +kernel
theorem dX9_takeDraft_203 : decode cX9_takeDraft 203 = .ok (.iconst 0, 1) := by decide +kernel
theorem dX9_takeDraft_204 : decode cX9_takeDraft 204 = .ok (.bastore, 1) := by decide +kernel
theorem dX9_takeDraft_205 : decode cX9_takeDraft 205 = .ok (.return_, 1) := by decide +kernel
theorem dX9_capital_0 : decode cX9_capital 0 = .ok (.aload_n 0, 1) := by decide +kernel
theorem dX9_capital_1 : decode cX9_capital 1 = .ok (.iconst 0, 1) := by decide +kernel
theorem dX9_capital_2 : decode cX9_capital 2 = .ok (.putfield 80, 3) := by decide +kernel
theorem dX9_capital_5 : decode cX9_capital 5 = .ok (.aload_n 0, 1) := by decide +kernel
theorem dX9_capital_6 : decode cX9_capital 6 = .ok (.bipush (-9), 2) := by decide +kernel
theorem dX9_capital_8 : decode cX9_capital 8 = .ok (.putfield 96, 3) := by decide +kernel
theorem dX9_capital_11 : decode cX9_capital 11 = .ok (.aload_n 0, 1) := by decide +kernel
theorem dX9_capital_12 : decode cX9_capital 12 = .ok (.invokevirtual 66, 3) := by decide +kernel
theorem dX9_capital_15 : decode cX9_capital 15 = .ok (.iconst 0, 1) := by decide +kernel
theorem dX9_capital_16 : decode cX9_capital 16 = .ok (.istore_n 1, 1) := by decide +kernel
theorem dX9_capital_17 : decode cX9_capital 17 = .ok (.aload_n 0, 1) := by decide +kernel
theorem dX9_capital_18 : decode cX9_capital 18 = .ok (.invokevirtual 99, 3) := by decide +kernel
theorem dX9_capital_21 : decode cX9_capital 21 = .ok (.aload_n 0, 1) := by decide +kernel
theorem dX9_capital_22 : decode cX9_capital 22 = .ok (.getfield 96, 3) := by decide +kernel
theorem dX9_capital_25 : decode cX9_capital 25 = .ok (.bipush (-9), 2) := by decide +kernel
theorem dX9_capital_27 : decode cX9_capital 27 = .ok (.if_icmp .ne 65, 3) := by decide +kernel
theorem dX9_capital_30 : decode cX9_capital 30 = .ok (.aload_n 0, 1) := by decide +kernel
theorem dX9_capital_31 : decode cX9_capital 31 = .ok (.getfield 93, 3) := by decide +kernel
theorem dX9_capital_34 : decode cX9_capital 34 = .ok (.iconst 3, 1) := by decide +kernel
theorem dX9_capital_35 : decode cX9_capital 35 = .ok (.if_icmp .eq 57, 3) := by decide +kernel
theorem dX9_capital_38 : decode cX9_capital 38 = .ok (.aload_n 0, 1) := by decide +kernel
theorem dX9_capital_39 : decode cX9_capital 39 = .ok (.getfield 93, 3) := by decide +kernel
theorem dX9_capital_42 : decode cX9_capital 42 = .ok (.istore_n 2, 1) := by decide +kernel
theorem dX9_capital_43 : decode cX9_capital 43 = .ok (.aload_n 0, 1) := by decide +kernel
theorem dX9_capital_44 : decode cX9_capital 44 = .ok (.aload_n 0, 1) := by decide +kernel
theorem dX9_capital_45 : decode cX9_capital 45 = .ok (.iload_n 2, 1) := by decide +kernel
theorem dX9_capital_46 : decode cX9_capital 46 = .ok (.iload_n 1, 1) := by decide +kernel
theorem dX9_capital_47 : decode cX9_capital 47 = .ok (.invokevirtual 116, 3) := by decide +kernel
theorem dX9_capital_50 : decode cX9_capital 50 = .ok (.invokevirtual 102, 3) := by decide +kernel
theorem dX9_capital_53 : decode cX9_capital 53 = .ok (.pop, 1) := by decide +kernel
theorem dX9_capital_54 : decode cX9_capital 54 = .ok (.aload_n 0, 1) := by decide +kernel
theorem dX9_capital_55 : decode cX9_capital 55 = .ok (.getfield 96, 3) := by decide +kernel
theorem dX9_capital_58 : decode cX9_capital 58 = .ok (.bipush (-9), 2) := by decide +kernel
theorem dX9_capital_60 : decode cX9_capital 60 = .ok (.if_icmp .ne 29, 3) := by decide +kernel
theorem dX9_capital_63 : decode cX9_capital 63 = .ok (.aload_n 0, 1) := by decide +kernel
theorem dX9_capital_64 : decode cX9_capital 64 = .ok (.iload_n 2, 1) := by decide +kernel
theorem dX9_capital_65 : decode cX9_capital 65 = .ok (.invokevirtual 120, 3) := by decide +kernel
theorem dX9_capital_68 : decode cX9_capital 68 = .ok (.aload_n 0, 1) := by decide +kernel
theorem dX9_capital_69 : decode cX9_capital 69 = .ok (.aload_n 0, 1) := by decide +kernel
theorem dX9_capital_70 : decode cX9_capital 70 = .ok (.getfield 93, 3) := by decide +kernel
theorem dX9_capital_73 : decode cX9_capital 73 = .ok (.iconst 2, 1) := by decide +kernel
theorem dX9_capital_74 : decode cX9_capital 74 = .ok (.if_icmp .ne 7, 3) := by decide +kernel
theorem dX9_capital_77 : decode cX9_capital 77 = .ok (.iconst 1, 1) := by decide +kernel
theorem dX9_capital_78 : decode cX9_capital 78 = .ok (.goto 4, 3) := by decide +kernel
theorem dX9_capital_81 : decode cX9_capital 81 = .ok (.iconst 0, 1) := by decide +kernel
theorem dX9_capital_82 : decode cX9_capital 82 = .ok (.invokevirtual 102, 3) := by decide +kernel
theorem dX9_capital_85 : decode cX9_capital 85 = .ok (.pop, 1) := by decide +kernel
theorem dX9_capital_86 : decode cX9_capital 86 = .ok (.iinc 1 1, 3) := by decide +kernel
theorem dX9_capital_89 : decode cX9_capital 89 = .ok (.goto (-68), 3) := by decide +kernel
theorem dX9_capital_92 : decode cX9_capital 92 = .ok (.aload_n 0, 1) := by decide +kernel
theorem dX9_capital_93 : decode cX9_capital 93 = .ok (.getfield 96, 3) := by decide +kernel
theorem dX9_capital_96 : decode cX9_capital 96 = .ok (.bipush (-9), 2) := by decide +kernel
theorem dX9_capital_98 : decode cX9_capital 98 = .ok (.if_icmp .eq 11, 3) := by decide +kernel
theorem dX9_capital_101 : decode cX9_capital 101 = .ok (.bipush (-10), 2) := by decide +kernel
theorem dX9_capital_103 : decode cX9_capital 103 = .ok (.aload_n 0, 1) := by decide +kernel
theorem dX9_capital_104 : decode cX9_capital 104 = .ok (.getfield 96, 3) := by decide +kernel
theorem dX9_capital_107 : decode cX9_capital 107 = .ok (.isub, 1) := by decide +kernel
theorem dX9_capital_108 : decode cX9_capital 108 = .ok (.ireturn, 1) := by decide +kernel
theorem dX9_capital_109 : decode cX9_capital 109 = .ok (.aload_n 0, 1) := by decide +kernel
theorem dX9_capital_110 : decode cX9_capital 110 = .ok (.invokevirtual 69, 3) := by decide +kernel
theorem dX9_capital_113 : decode cX9_capital 113 = .ok (.aload_n 0, 1) := by decide +kernel
theorem dX9_capital_114 : decode cX9_capital 114 = .ok (.iconst 0, 1) := by decide +kernel
theorem dX9_capital_115 : decode cX9_capital 115 = .ok (.putfield 76, 3) := by decide +kernel
theorem dX9_capital_118 : decode cX9_capital 118 = .ok (.iload_n 1, 1) := by decide +kernel
theorem dX9_capital_119 : decode cX9_capital 119 = .ok (.ireturn, 1) := by decide +kernel
theorem dX9_isLane_0 : decode cX9_isLane 0 = .ok (.iload_n 1, 1) := by decide +kernel
theorem dX9_isLane_1 : decode cX9_isLane 1 = .ok (.iconst 0, 1) := by decide +kernel
theorem dX9_isLane_2 : decode cX9_isLane 2 = .ok (.aload_n 0, 1) := by decide +kernel
theorem dX9_isLane_3 : decode cX9_isLane 3 = .ok (.getfield 17, 3) := by decide +kernel
theorem dX9_isLane_6 : decode cX9_isLane 6 = .ok (.iconst 0, 1) := by decide +kernel
theorem dX9_isLane_7 : decode cX9_isLane 7 = .ok (.iaload, 1) := by decide +kernel
theorem dX9_isLane_8 : decode cX9_isLane 8 = .ok (.iconst 1, 1) := by decide +kernel
theorem dX9_isLane_9 : decode cX9_isLane 9 = .ok (.isub, 1) := by decide +kernel
theorem dX9_isLane_10 : decode cX9_isLane 10 = .ok (.invokestatic 72, 3) := by decide +kernel
theorem dX9_isLane_13 : decode cX9_isLane 13 = .ok (.ireturn, 1) := by decide +kernel
theorem dX9_isPerson_0 : decode cX9_isPerson 0 = .ok (.iload_n 1, 1) := by decide +kernel
theorem dX9_isPerson_1 : decode cX9_isPerson 1 = .ok (.iconst 0, 1) := by decide +kernel
theorem dX9_isPerson_2 : decode cX9_isPerson 2 = .ok (.aload_n 0, 1) := by decide +kernel
theorem dX9_isPerson_3 : decode cX9_isPerson 3 = .ok (.getfield 29, 3) := by decide +kernel
theorem dX9_isPerson_6 : decode cX9_isPerson 6 = .ok (.iconst 0, 1) := by decide +kernel
theorem dX9_isPerson_7 : decode cX9_isPerson 7 = .ok (.iaload, 1) := by decide +kernel
theorem dX9_isPerson_8 : decode cX9_isPerson 8 = .ok (.iconst 1, 1) := by decide +kernel
theorem dX9_isPerson_9 : decode cX9_isPerson 9 = .ok (.isub, 1) := by decide +kernel
theorem dX9_isPerson_10 : decode cX9_isPerson 10 = .ok (.invokestatic 72, 3) := by decide +kernel
theorem dX9_isPerson_13 : decode cX9_isPerson 13 = .ok (.ireturn, 1) := by decide +kernel
theorem dX9_isPlace_0 : decode cX9_isPlace 0 = .ok (.iload_n 1, 1) := by decide +kernel
theorem dX9_isPlace_1 : decode cX9_isPlace 1 = .ok (.iconst 0, 1) := by decide +kernel
theorem dX9_isPlace_2 : decode cX9_isPlace 2 = .ok (.aload_n 0, 1) := by decide +kernel
theorem dX9_isPlace_3 : decode cX9_isPlace 3 = .ok (.getfield 13, 3) := by decide +kernel
theorem dX9_isPlace_6 : decode cX9_isPlace 6 = .ok (.iconst 0, 1) := by decide +kernel
theorem dX9_isPlace_7 : decode cX9_isPlace 7 = .ok (.iaload, 1) := by decide +kernel
theorem dX9_isPlace_8 : decode cX9_isPlace 8 = .ok (.iconst 1, 1) := by decide +kernel
theorem dX9_isPlace_9 : decode cX9_isPlace 9 = .ok (.isub, 1) := by decide +kernel
theorem dX9_isPlace_10 : decode cX9_isPlace 10 = .ok (.invokestatic 72, 3) := by decide +kernel
theorem dX9_isPlace_13 : decode cX9_isPlace 13 = .ok (.ireturn, 1) := by decide +kernel
theorem dX9_manyOf_0 : decode cX9_manyOf 0 = .ok (.iconst 0, 1) := by decide +kernel
theorem dX9_manyOf_1 : decode cX9_manyOf 1 = .ok (.istore_n 1, 1) := by decide +kernel
theorem dX9_manyOf_2 : decode cX9_manyOf 2 = .ok (.iconst 0, 1) := by decide +kernel
theorem dX9_manyOf_3 : decode cX9_manyOf 3 = .ok (.istore_n 2, 1) := by decide +kernel
theorem dX9_manyOf_4 : decode cX9_manyOf 4 = .ok (.iload_n 2, 1) := by decide +kernel
theorem dX9_manyOf_5 : decode cX9_manyOf 5 = .ok (.bipush 8, 2) := by decide +kernel
theorem dX9_manyOf_7 : decode cX9_manyOf 7 = .ok (.if_icmp .ge 17, 3) := by decide +kernel
theorem dX9_manyOf_10 : decode cX9_manyOf 10 = .ok (.iload_n 1, 1) := by decide +kernel
theorem dX9_manyOf_11 : decode cX9_manyOf 11 = .ok (.iload_n 0, 1) := by decide +kernel
theorem dX9_manyOf_12 : decode cX9_manyOf 12 = .ok (.iload_n 2, 1) := by decide +kernel
theorem dX9_manyOf_13 : decode cX9_manyOf 13 = .ok (.ishr, 1) := by decide +kernel
theorem dX9_manyOf_14 : decode cX9_manyOf 14 = .ok (.iconst 1, 1) := by decide +kernel
theorem dX9_manyOf_15 : decode cX9_manyOf 15 = .ok (.iand, 1) := by decide +kernel
theorem dX9_manyOf_16 : decode cX9_manyOf 16 = .ok (.iadd, 1) := by decide +kernel
theorem dX9_manyOf_17 : decode cX9_manyOf 17 = .ok (.istore_n 1, 1) := by decide +kernel
theorem dX9_manyOf_18 : decode cX9_manyOf 18 = .ok (.iinc 2 1, 3) := by decide +kernel
theorem dX9_manyOf_21 : decode cX9_manyOf 21 = .ok (.goto (-17), 3) := by decide +kernel
theorem dX9_manyOf_24 : decode cX9_manyOf 24 = .ok (.iload_n 1, 1) := by decide +kernel
theorem dX9_manyOf_25 : decode cX9_manyOf 25 = .ok (.ireturn, 1) := by decide +kernel
theorem dX9_wide_0 : decode cX9_wide 0 = .ok (.aload_n 0, 1) := by decide +kernel
theorem dX9_wide_1 : decode cX9_wide 1 = .ok (.getfield 38, 3) := by decide +kernel
theorem dX9_wide_4 : decode cX9_wide 4 = .ok (.iconst 0, 1) := by decide +kernel
theorem dX9_wide_5 : decode cX9_wide 5 = .ok (.iaload, 1) := by decide +kernel
theorem dX9_wide_6 : decode cX9_wide 6 = .ok (.iconst 2, 1) := by decide +kernel
theorem dX9_wide_7 : decode cX9_wide 7 = .ok (.aload_n 0, 1) := by decide +kernel
theorem dX9_wide_8 : decode cX9_wide 8 = .ok (.getfield 44, 3) := by decide +kernel
theorem dX9_wide_11 : decode cX9_wide 11 = .ok (.iconst 5, 1) := by decide +kernel
theorem dX9_wide_12 : decode cX9_wide 12 = .ok (.iload_n 1, 1) := by decide +kernel
theorem dX9_wide_13 : decode cX9_wide 13 = .ok (.iadd, 1) := by decide +kernel
theorem dX9_wide_14 : decode cX9_wide 14 = .ok (.iaload, 1) := by decide +kernel
theorem dX9_wide_15 : decode cX9_wide 15 = .ok (.imul, 1) := by decide +kernel
theorem dX9_wide_16 : decode cX9_wide 16 = .ok (.iadd, 1) := by decide +kernel
theorem dX9_wide_17 : decode cX9_wide 17 = .ok (.ireturn, 1) := by decide +kernel
theorem dX9_isClosed_0 : decode cX9_isClosed 0 = .ok (.aload_n 0, 1) := by decide +kernel
theorem dX9_isClosed_1 : decode cX9_isClosed 1 = .ok (.getfield 44, 3) := by decide +kernel
theorem dX9_isClosed_4 : decode cX9_isClosed 4 = .ok (.bipush 15, 2) := by decide +kernel
theorem dX9_isClosed_6 : decode cX9_isClosed 6 = .ok (.iaload, 1) := by decide +kernel
theorem dX9_isClosed_7 : decode cX9_isClosed 7 = .ok (.iload_n 1, 1) := by decide +kernel
theorem dX9_isClosed_8 : decode cX9_isClosed 8 = .ok (.ishr, 1) := by decide +kernel
theorem dX9_isClosed_9 : decode cX9_isClosed 9 = .ok (.iconst 1, 1) := by decide +kernel
theorem dX9_isClosed_10 : decode cX9_isClosed 10 = .ok (.iand, 1) := by decide +kernel
theorem dX9_isClosed_11 : decode cX9_isClosed 11 = .ok (.iconst 1, 1) := by decide +kernel
theorem dX9_isClosed_12 : decode cX9_isClosed 12 = .ok (.if_icmp .ne 7, 3) := by decide +kernel
theorem dX9_isClosed_15 : decode cX9_isClosed 15 = .ok (.iconst 1, 1) := by decide +kernel
theorem dX9_isClosed_16 : decode cX9_isClosed 16 = .ok (.goto 4, 3) := by decide +kernel
theorem dX9_isClosed_19 : decode cX9_isClosed 19 = .ok (.iconst 0, 1) := by decide +kernel
theorem dX9_isClosed_20 : decode cX9_isClosed 20 = .ok (.ireturn, 1) := by decide +kernel
theorem dX9_ends_0 : decode cX9_ends 0 = .ok (.aload_n 0, 1) := by decide +kernel
theorem dX9_ends_1 : decode cX9_ends 1 = .ok (.getfield 20, 3) := by decide +kernel
theorem dX9_ends_4 : decode cX9_ends 4 = .ok (.iload_n 1, 1) := by decide +kernel
theorem dX9_ends_5 : decode cX9_ends 5 = .ok (.iaload, 1) := by decide +kernel
theorem dX9_ends_6 : decode cX9_ends 6 = .ok (.iload_n 2, 1) := by decide +kernel
theorem dX9_ends_7 : decode cX9_ends 7 = .ok (.if_icmp .eq 13, 3) := by decide +kernel
theorem dX9_ends_10 : decode cX9_ends 10 = .ok (.aload_n 0, 1) := by decide +kernel
theorem dX9_ends_11 : decode cX9_ends 11 = .ok (.getfield 23, 3) := by decide +kernel
theorem dX9_ends_14 : decode cX9_ends 14 = .ok (.iload_n 1, 1) := by decide +kernel
theorem dX9_ends_15 : decode cX9_ends 15 = .ok (.iaload, 1) := by decide +kernel
theorem dX9_ends_16 : decode cX9_ends 16 = .ok (.iload_n 2, 1) := by decide +kernel
theorem dX9_ends_17 : decode cX9_ends 17 = .ok (.if_icmp .ne 7, 3) := by decide +kernel
theorem dX9_ends_20 : decode cX9_ends 20 = .ok (.iconst 1, 1) := by decide +kernel
theorem dX9_ends_21 : decode cX9_ends 21 = .ok (.goto 4, 3) := by decide +kernel
theorem dX9_ends_24 : decode cX9_ends 24 = .ok (.iconst 0, 1) := by decide +kernel
theorem dX9_ends_25 : decode cX9_ends 25 = .ok (.ireturn, 1) := by decide +kernel
theorem dX9_other_0 : decode cX9_other 0 = .ok (.aload_n 0, 1) := by decide +kernel
theorem dX9_other_1 : decode cX9_other 1 = .ok (.getfield 20, 3) := by decide +kernel
theorem dX9_other_4 : decode cX9_other 4 = .ok (.iload_n 1, 1) := by decide +kernel
theorem dX9_other_5 : decode cX9_other 5 = .ok (.iaload, 1) := by decide +kernel
theorem dX9_other_6 : decode cX9_other 6 = .ok (.iload_n 2, 1) := by decide +kernel
theorem dX9_other_7 : decode cX9_other 7 = .ok (.if_icmp .ne 12, 3) := by decide +kernel
theorem dX9_other_10 : decode cX9_other 10 = .ok (.aload_n 0, 1) := by decide +kernel
theorem dX9_other_11 : decode cX9_other 11 = .ok (.getfield 23, 3) := by decide +kernel
theorem dX9_other_14 : decode cX9_other 14 = .ok (.iload_n 1, 1) := by decide +kernel
theorem dX9_other_15 : decode cX9_other 15 = .ok (.iaload, 1) := by decide +kernel
theorem dX9_other_16 : decode cX9_other 16 = .ok (.goto 9, 3) := by decide +kernel
theorem dX9_other_19 : decode cX9_other 19 = .ok (.aload_n 0, 1) := by decide +kernel
theorem dX9_other_20 : decode cX9_other 20 = .ok (.getfield 20, 3) := by decide +kernel
theorem dX9_other_23 : decode cX9_other 23 = .ok (.iload_n 1, 1) := by decide +kernel
theorem dX9_other_24 : decode cX9_other 24 = .ok (.iaload, 1) := by decide +kernel
theorem dX9_other_25 : decode cX9_other 25 = .ok (.ireturn, 1) := by decide +kernel
theorem dX9_canGo_0 : decode cX9_canGo 0 = .ok (.iload_n 3, 1) := by decide +kernel
theorem dX9_canGo_1 : decode cX9_canGo 1 = .ok (.iload_n 2, 1) := by decide +kernel
theorem dX9_canGo_2 : decode cX9_canGo 2 = .ok (.ishr, 1) := by decide +kernel
theorem dX9_canGo_3 : decode cX9_canGo 3 = .ok (.iconst 1, 1) := by decide +kernel
theorem dX9_canGo_4 : decode cX9_canGo 4 = .ok (.iand, 1) := by decide +kernel
theorem dX9_canGo_5 : decode cX9_canGo 5 = .ok (.ifCond .ne 21, 3) := by decide +kernel
theorem dX9_canGo_8 : decode cX9_canGo 8 = .ok (.aload_n 0, 1) := by decide +kernel
theorem dX9_canGo_9 : decode cX9_canGo 9 = .ok (.iload_n 1, 1) := by decide +kernel
theorem dX9_canGo_10 : decode cX9_canGo 10 = .ok (.invokevirtual 124, 3) := by decide +kernel
theorem dX9_canGo_13 : decode cX9_canGo 13 = .ok (.aload_n 0, 1) := by decide +kernel
theorem dX9_canGo_14 : decode cX9_canGo 14 = .ok (.getfield 26, 3) := by decide +kernel
theorem dX9_canGo_17 : decode cX9_canGo 17 = .ok (.iload_n 2, 1) := by decide +kernel
theorem dX9_canGo_18 : decode cX9_canGo 18 = .ok (.iaload, 1) := by decide +kernel
theorem dX9_canGo_19 : decode cX9_canGo 19 = .ok (.if_icmp .gt 7, 3) := by decide +kernel
theorem dX9_canGo_22 : decode cX9_canGo 22 = .ok (.iconst 1, 1) := by decide +kernel
theorem dX9_canGo_23 : decode cX9_canGo 23 = .ok (.goto 4, 3) := by decide +kernel
theorem dX9_canGo_26 : decode cX9_canGo 26 = .ok (.iconst 0, 1) := by decide +kernel
theorem dX9_canGo_27 : decode cX9_canGo 27 = .ok (.ireturn, 1) := by decide +kernel
theorem dX9_reach_0 : decode cX9_reach 0 = .ok (.iconst 1, 1) := by decide +kernel
theorem dX9_reach_1 : decode cX9_reach 1 = .ok (.aload_n 0, 1) := by decide +kernel
theorem dX9_reach_2 : decode cX9_reach 2 = .ok (.getfield 44, 3) := by decide +kernel
theorem dX9_reach_5 : decode cX9_reach 5 = .ok (.iconst 0, 1) := by decide +kernel
theorem dX9_reach_6 : decode cX9_reach 6 = .ok (.iload_n 1, 1) := by decide +kernel
theorem dX9_reach_7 : decode cX9_reach 7 = .ok (.iadd, 1) := by decide +kernel
theorem dX9_reach_8 : decode cX9_reach 8 = .ok (.iaload, 1) := by decide +kernel
theorem dX9_reach_9 : decode cX9_reach 9 = .ok (.ishl, 1) := by decide +kernel
theorem dX9_reach_10 : decode cX9_reach 10 = .ok (.istore_n 3, 1) := by decide +kernel
theorem dX9_reach_11 : decode cX9_reach 11 = .ok (.iconst 0, 1) := by decide +kernel
theorem dX9_reach_12 : decode cX9_reach 12 = .ok (.istore 4, 2) := by decide +kernel
theorem dX9_reach_14 : decode cX9_reach 14 = .ok (.iload 4, 2) := by decide +kernel
theorem dX9_reach_16 : decode cX9_reach 16 = .ok (.bipush 8, 2) := by decide +kernel
theorem dX9_reach_18 : decode cX9_reach 18 = .ok (.if_icmp .ge 87, 3) := by decide +kernel
theorem dX9_reach_21 : decode cX9_reach 21 = .ok (.iconst 0, 1) := by decide +kernel
theorem dX9_reach_22 : decode cX9_reach 22 = .ok (.istore 5, 2) := by decide +kernel
theorem dX9_reach_24 : decode cX9_reach 24 = .ok (.iload 5, 2) := by decide +kernel
theorem dX9_reach_26 : decode cX9_reach 26 = .ok (.aload_n 0, 1) := by decide +kernel
theorem dX9_reach_27 : decode cX9_reach 27 = .ok (.getfield 17, 3) := by decide +kernel
theorem dX9_reach_30 : decode cX9_reach 30 = .ok (.iconst 0, 1) := by decide +kernel
theorem dX9_reach_31 : decode cX9_reach 31 = .ok (.iaload, 1) := by decide +kernel
theorem dX9_reach_32 : decode cX9_reach 32 = .ok (.if_icmp .ge 67, 3) := by decide +kernel
theorem dX9_reach_35 : decode cX9_reach 35 = .ok (.aload_n 0, 1) := by decide +kernel
theorem dX9_reach_36 : decode cX9_reach 36 = .ok (.iload_n 1, 1) := by decide +kernel
theorem dX9_reach_37 : decode cX9_reach 37 = .ok (.iload 5, 2) := by decide +kernel
theorem dX9_reach_39 : decode cX9_reach 39 = .ok (.iload_n 2, 1) := by decide +kernel
theorem dX9_reach_40 : decode cX9_reach 40 = .ok (.invokevirtual 128, 3) := by decide +kernel
theorem dX9_reach_43 : decode cX9_reach 43 = .ok (.ifCond .eq 50, 3) := by decide +kernel
theorem dX9_reach_46 : decode cX9_reach 46 = .ok (.iload_n 3, 1) := by decide +kernel
theorem dX9_reach_47 : decode cX9_reach 47 = .ok (.aload_n 0, 1) := by decide +kernel
theorem dX9_reach_48 : decode cX9_reach 48 = .ok (.getfield 20, 3) := by decide +kernel
theorem dX9_reach_51 : decode cX9_reach 51 = .ok (.iload 5, 2) := by decide +kernel
theorem dX9_reach_53 : decode cX9_reach 53 = .ok (.iaload, 1) := by decide +kernel
theorem dX9_reach_54 : decode cX9_reach 54 = .ok (.ishr, 1) := by decide +kernel
theorem dX9_reach_55 : decode cX9_reach 55 = .ok (.iconst 1, 1) := by decide +kernel
theorem dX9_reach_56 : decode cX9_reach 56 = .ok (.iand, 1) := by decide +kernel
theorem dX9_reach_57 : decode cX9_reach 57 = .ok (.iload_n 3, 1) := by decide +kernel
theorem dX9_reach_58 : decode cX9_reach 58 = .ok (.aload_n 0, 1) := by decide +kernel
theorem dX9_reach_59 : decode cX9_reach 59 = .ok (.getfield 23, 3) := by decide +kernel
theorem dX9_reach_62 : decode cX9_reach 62 = .ok (.iload 5, 2) := by decide +kernel
theorem dX9_reach_64 : decode cX9_reach 64 = .ok (.iaload, 1) := by decide +kernel
theorem dX9_reach_65 : decode cX9_reach 65 = .ok (.ishr, 1) := by decide +kernel
theorem dX9_reach_66 : decode cX9_reach 66 = .ok (.iconst 1, 1) := by decide +kernel
theorem dX9_reach_67 : decode cX9_reach 67 = .ok (.iand, 1) := by decide +kernel
theorem dX9_reach_68 : decode cX9_reach 68 = .ok (.if_icmp .eq 25, 3) := by decide +kernel
theorem dX9_reach_71 : decode cX9_reach 71 = .ok (.iload_n 3, 1) := by decide +kernel
theorem dX9_reach_72 : decode cX9_reach 72 = .ok (.iconst 1, 1) := by decide +kernel
theorem dX9_reach_73 : decode cX9_reach 73 = .ok (.aload_n 0, 1) := by decide +kernel
theorem dX9_reach_74 : decode cX9_reach 74 = .ok (.getfield 20, 3) := by decide +kernel
theorem dX9_reach_77 : decode cX9_reach 77 = .ok (.iload 5, 2) := by decide +kernel
theorem dX9_reach_79 : decode cX9_reach 79 = .ok (.iaload, 1) := by decide +kernel
theorem dX9_reach_80 : decode cX9_reach 80 = .ok (.ishl, 1) := by decide +kernel
theorem dX9_reach_81 : decode cX9_reach 81 = .ok (.iconst 1, 1) := by decide +kernel
theorem dX9_reach_82 : decode cX9_reach 82 = .ok (.aload_n 0, 1) := by decide +kernel
theorem dX9_reach_83 : decode cX9_reach 83 = .ok (.getfield 23, 3) := by decide +kernel
theorem dX9_reach_86 : decode cX9_reach 86 = .ok (.iload 5, 2) := by decide +kernel
theorem dX9_reach_88 : decode cX9_reach 88 = .ok (.iaload, 1) := by decide +kernel
theorem dX9_reach_89 : decode cX9_reach 89 = .ok (.ishl, 1) := by decide +kernel
theorem dX9_reach_90 : decode cX9_reach 90 = .ok (.ior, 1) := by decide +kernel
theorem dX9_reach_91 : decode cX9_reach 91 = .ok (.ior, 1) := by decide +kernel
theorem dX9_reach_92 : decode cX9_reach 92 = .ok (.istore_n 3, 1) := by decide +kernel
theorem dX9_reach_93 : decode cX9_reach 93 = .ok (.iinc 5 1, 3) := by decide +kernel
theorem dX9_reach_96 : decode cX9_reach 96 = .ok (.goto (-72), 3) := by decide +kernel
theorem dX9_reach_99 : decode cX9_reach 99 = .ok (.iinc 4 1, 3) := by decide +kernel
theorem dX9_reach_102 : decode cX9_reach 102 = .ok (.goto (-88), 3) := by decide +kernel
theorem dX9_reach_105 : decode cX9_reach 105 = .ok (.iload_n 3, 1) := by decide +kernel
theorem dX9_reach_106 : decode cX9_reach 106 = .ok (.ireturn, 1) := by decide +kernel
theorem dX9_reaches_0 : decode cX9_reaches 0 = .ok (.aload_n 0, 1) := by decide +kernel
theorem dX9_reaches_1 : decode cX9_reaches 1 = .ok (.iload_n 1, 1) := by decide +kernel
theorem dX9_reaches_2 : decode cX9_reaches 2 = .ok (.iload_n 3, 1) := by decide +kernel
theorem dX9_reaches_3 : decode cX9_reaches 3 = .ok (.invokevirtual 131, 3) := by decide +kernel
theorem dX9_reaches_6 : decode cX9_reaches 6 = .ok (.iload_n 2, 1) := by decide +kernel
theorem dX9_reaches_7 : decode cX9_reaches 7 = .ok (.ishr, 1) := by decide +kernel
theorem dX9_reaches_8 : decode cX9_reaches 8 = .ok (.iconst 1, 1) := by decide +kernel
theorem dX9_reaches_9 : decode cX9_reaches 9 = .ok (.iand, 1) := by decide +kernel
theorem dX9_reaches_10 : decode cX9_reaches 10 = .ok (.iconst 1, 1) := by decide +kernel
theorem dX9_reaches_11 : decode cX9_reaches 11 = .ok (.if_icmp .ne 7, 3) := by decide +kernel
theorem dX9_reaches_14 : decode cX9_reaches 14 = .ok (.iconst 1, 1) := by decide +kernel
theorem dX9_reaches_15 : decode cX9_reaches 15 = .ok (.goto 4, 3) := by decide +kernel
theorem dX9_reaches_18 : decode cX9_reaches 18 = .ok (.iconst 0, 1) := by decide +kernel
theorem dX9_reaches_19 : decode cX9_reaches 19 = .ok (.ireturn, 1) := by decide +kernel
theorem dX9_lane_0 : decode cX9_lane 0 = .ok (.aload_n 0, 1) := by decide +kernel
theorem dX9_lane_1 : decode cX9_lane 1 = .ok (.iload_n 1, 1) := by decide +kernel
theorem dX9_lane_2 : decode cX9_lane 2 = .ok (.invokevirtual 134, 3) := by decide +kernel
theorem dX9_lane_5 : decode cX9_lane 5 = .ok (.ifCond .eq 12, 3) := by decide +kernel
theorem dX9_lane_8 : decode cX9_lane 8 = .ok (.iload_n 2, 1) := by decide +kernel
theorem dX9_lane_9 : decode cX9_lane 9 = .ok (.iconst 0, 1) := by decide +kernel
theorem dX9_lane_10 : decode cX9_lane 10 = .ok (.iconst 3, 1) := by decide +kernel
theorem dX9_lane_11 : decode cX9_lane 11 = .ok (.invokestatic 72, 3) := by decide +kernel
theorem dX9_lane_14 : decode cX9_lane 14 = .ok (.ifCond .ne 5, 3) := by decide +kernel
theorem dX9_lane_17 : decode cX9_lane 17 = .ok (.iconst (-1), 1) := by decide +kernel
theorem dX9_lane_18 : decode cX9_lane 18 = .ok (.ireturn, 1) := by decide +kernel
theorem dX9_lane_19 : decode cX9_lane 19 = .ok (.iload_n 2, 1) := by decide +kernel
theorem dX9_lane_20 : decode cX9_lane 20 = .ok (.ifCond .ne 12, 3) := by decide +kernel
theorem dX9_lane_23 : decode cX9_lane 23 = .ok (.aload_n 0, 1) := by decide +kernel
theorem dX9_lane_24 : decode cX9_lane 24 = .ok (.getfield 20, 3) := by decide +kernel
theorem dX9_lane_27 : decode cX9_lane 27 = .ok (.iload_n 1, 1) := by decide +kernel
theorem dX9_lane_28 : decode cX9_lane 28 = .ok (.iaload, 1) := by decide +kernel
theorem dX9_lane_29 : decode cX9_lane 29 = .ok (.goto 44, 3) := by decide +kernel
theorem dX9_lane_32 : decode cX9_lane 32 = .ok (.iload_n 2, 1) := by decide +kernel
theorem dX9_lane_33 : decode cX9_lane 33 = .ok (.iconst 1, 1) := by decide +kernel
theorem dX9_lane_34 : decode cX9_lane 34 = .ok (.if_icmp .ne 12, 3) := by decide +kernel
theorem dX9_lane_37 : decode cX9_lane 37 = .ok (.aload_n 0, 1) := by decide +kernel
theorem dX9_lane_38 : decode cX9_lane 38 = .ok (.getfield 23, 3) := by decide +kernel
theorem dX9_lane_41 : decode cX9_lane 41 = .ok (.iload_n 1, 1) := by decide +kernel
theorem dX9_lane_42 : decode cX9_lane 42 = .ok (.iaload, 1) := by decide +kernel
theorem dX9_lane_43 : decode cX9_lane 43 = .ok (.goto 30, 3) := by decide +kernel
theorem dX9_lane_46 : decode cX9_lane 46 = .ok (.iload_n 2, 1) := by decide +kernel
theorem dX9_lane_47 : decode cX9_lane 47 = .ok (.iconst 2, 1) := by decide +kernel
theorem dX9_lane_48 : decode cX9_lane 48 = .ok (.if_icmp .ne 12, 3) := by decide +kernel
theorem dX9_lane_51 : decode cX9_lane 51 = .ok (.aload_n 0, 1) := by decide +kernel
theorem dX9_lane_52 : decode cX9_lane 52 = .ok (.getfield 26, 3) := by decide +kernel
theorem dX9_lane_55 : decode cX9_lane 55 = .ok (.iload_n 1, 1) := by decide +kernel
theorem dX9_lane_56 : decode cX9_lane 56 = .ok (.iaload, 1) := by decide +kernel
theorem dX9_lane_57 : decode cX9_lane 57 = .ok (.goto 16, 3) := by decide +kernel
theorem dX9_lane_60 : decode cX9_lane 60 = .ok (.aload_n 0, 1) := by decide +kernel
theorem dX9_lane_61 : decode cX9_lane 61 = .ok (.iload_n 1, 1) := by decide +kernel
theorem dX9_lane_62 : decode cX9_lane 62 = .ok (.invokevirtual 138, 3) := by decide +kernel
theorem dX9_lane_65 : decode cX9_lane 65 = .ok (.ifCond .eq 7, 3) := by decide +kernel
theorem dX9_lane_68 : decode cX9_lane 68 = .ok (.iconst 1, 1) := by decide +kernel
theorem dX9_lane_69 : decode cX9_lane 69 = .ok (.goto 4, 3) := by decide +kernel
theorem dX9_lane_72 : decode cX9_lane 72 = .ok (.iconst 0, 1) := by decide +kernel
theorem dX9_lane_73 : decode cX9_lane 73 = .ok (.ireturn, 1) := by decide +kernel
theorem dX9_person_0 : decode cX9_person 0 = .ok (.aload_n 0, 1) := by decide +kernel
theorem dX9_person_1 : decode cX9_person 1 = .ok (.iload_n 1, 1) := by decide +kernel
theorem dX9_person_2 : decode cX9_person 2 = .ok (.invokevirtual 141, 3) := by decide +kernel
theorem dX9_person_5 : decode cX9_person 5 = .ok (.ifCond .ne 5, 3) := by decide +kernel
theorem dX9_person_8 : decode cX9_person 8 = .ok (.iconst (-1), 1) := by decide +kernel
theorem dX9_person_9 : decode cX9_person 9 = .ok (.ireturn, 1) := by decide +kernel
theorem dX9_person_10 : decode cX9_person 10 = .ok (.iload_n 2, 1) := by decide +kernel
theorem dX9_person_11 : decode cX9_person 11 = .ok (.tableswitch 80 0 4 #[33, 42, 51, 57, 67], 33) := by decide +kernel
theorem dX9_person_44 : decode cX9_person 44 = .ok (.aload_n 0, 1) := by decide +kernel
theorem dX9_person_45 : decode cX9_person 45 = .ok (.getfield 44, 3) := by decide +kernel
theorem dX9_person_48 : decode cX9_person 48 = .ok (.iconst 5, 1) := by decide +kernel
theorem dX9_person_49 : decode cX9_person 49 = .ok (.iload_n 1, 1) := by decide +kernel
theorem dX9_person_50 : decode cX9_person 50 = .ok (.iadd, 1) := by decide +kernel
theorem dX9_person_51 : decode cX9_person 51 = .ok (.iaload, 1) := by decide +kernel
theorem dX9_person_52 : decode cX9_person 52 = .ok (.ireturn, 1) := by decide +kernel
theorem dX9_person_53 : decode cX9_person 53 = .ok (.aload_n 0, 1) := by decide +kernel
theorem dX9_person_54 : decode cX9_person 54 = .ok (.getfield 44, 3) := by decide +kernel
theorem dX9_person_57 : decode cX9_person 57 = .ok (.iconst 0, 1) := by decide +kernel
theorem dX9_person_58 : decode cX9_person 58 = .ok (.iload_n 1, 1) := by decide +kernel
theorem dX9_person_59 : decode cX9_person 59 = .ok (.iadd, 1) := by decide +kernel
theorem dX9_person_60 : decode cX9_person 60 = .ok (.iaload, 1) := by decide +kernel
theorem dX9_person_61 : decode cX9_person 61 = .ok (.ireturn, 1) := by decide +kernel
theorem dX9_person_62 : decode cX9_person 62 = .ok (.aload_n 0, 1) := by decide +kernel
theorem dX9_person_63 : decode cX9_person 63 = .ok (.iload_n 1, 1) := by decide +kernel
theorem dX9_person_64 : decode cX9_person 64 = .ok (.invokevirtual 124, 3) := by decide +kernel
theorem dX9_person_67 : decode cX9_person 67 = .ok (.ireturn, 1) := by decide +kernel
theorem dX9_person_68 : decode cX9_person 68 = .ok (.aload_n 0, 1) := by decide +kernel
theorem dX9_person_69 : decode cX9_person 69 = .ok (.getfield 44, 3) := by decide +kernel
theorem dX9_person_72 : decode cX9_person 72 = .ok (.bipush 10, 2) := by decide +kernel
theorem dX9_person_74 : decode cX9_person 74 = .ok (.iload_n 1, 1) := by decide +kernel
theorem dX9_person_75 : decode cX9_person 75 = .ok (.iadd, 1) := by decide +kernel
theorem dX9_person_76 : decode cX9_person 76 = .ok (.iaload, 1) := by decide +kernel
theorem dX9_person_77 : decode cX9_person 77 = .ok (.ireturn, 1) := by decide +kernel
theorem dX9_person_78 : decode cX9_person 78 = .ok (.aload_n 0, 1) := by decide +kernel
theorem dX9_person_79 : decode cX9_person 79 = .ok (.iload_n 1, 1) := by decide +kernel
theorem dX9_person_80 : decode cX9_person 80 = .ok (.aload_n 0, 1) := by decide +kernel
theorem dX9_person_81 : decode cX9_person 81 = .ok (.getfield 44, 3) := by decide +kernel
theorem dX9_person_84 : decode cX9_person 84 = .ok (.bipush 15, 2) := by decide +kernel
theorem dX9_person_86 : decode cX9_person 86 = .ok (.iaload, 1) := by decide +kernel
theorem dX9_person_87 : decode cX9_person 87 = .ok (.invokevirtual 131, 3) := by decide +kernel
theorem dX9_person_90 : decode cX9_person 90 = .ok (.ireturn, 1) := by decide +kernel
theorem dX9_person_91 : decode cX9_person 91 = .ok (.iconst (-1), 1) := by decide +kernel
theorem dX9_person_92 : decode cX9_person 92 = .ok (.ireturn, 1) := by decide +kernel
theorem dX9_know_0 : decode cX9_know 0 = .ok (.aload_n 0, 1) := by decide +kernel
theorem dX9_know_1 : decode cX9_know 1 = .ok (.getfield 44, 3) := by decide +kernel
theorem dX9_know_4 : decode cX9_know 4 = .ok (.bipush 16, 2) := by decide +kernel
theorem dX9_know_6 : decode cX9_know 6 = .ok (.iaload, 1) := by decide +kernel
theorem dX9_know_7 : decode cX9_know 7 = .ok (.bipush 10, 2) := by decide +kernel
theorem dX9_know_9 : decode cX9_know 9 = .ok (.if_icmp .ne 47, 3) := by decide +kernel
theorem dX9_know_12 : decode cX9_know 12 = .ok (.iconst 0, 1) := by decide +kernel
theorem dX9_know_13 : decode cX9_know 13 = .ok (.istore_n 1, 1) := by decide +kernel
theorem dX9_know_14 : decode cX9_know 14 = .ok (.iload_n 1, 1) := by decide +kernel
theorem dX9_know_15 : decode cX9_know 15 = .ok (.sipush 144, 3) := by decide +kernel
theorem dX9_know_18 : decode cX9_know 18 = .ok (.if_icmp .ge 27, 3) := by decide +kernel
theorem dX9_know_21 : decode cX9_know 21 = .ok (.aload_n 0, 1) := by decide +kernel
theorem dX9_know_22 : decode cX9_know 22 = .ok (.getfield 44, 3) := by decide +kernel
theorem dX9_know_25 : decode cX9_know 25 = .ok (.bipush 17, 2) := by decide +kernel
theorem dX9_know_27 : decode cX9_know 27 = .ok (.iload_n 1, 1) := by decide +kernel
theorem dX9_know_28 : decode cX9_know 28 = .ok (.iadd, 1) := by decide +kernel
theorem dX9_know_29 : decode cX9_know 29 = .ok (.aload_n 0, 1) := by decide +kernel
theorem dX9_know_30 : decode cX9_know 30 = .ok (.getfield 44, 3) := by decide +kernel
theorem dX9_know_33 : decode cX9_know 33 = .ok (.bipush 33, 2) := by decide +kernel
theorem dX9_know_35 : decode cX9_know 35 = .ok (.iload_n 1, 1) := by decide +kernel
theorem dX9_know_36 : decode cX9_know 36 = .ok (.iadd, 1) := by decide +kernel
theorem dX9_know_37 : decode cX9_know 37 = .ok (.iaload, 1) := by decide +kernel
theorem dX9_know_38 : decode cX9_know 38 = .ok (.iastore, 1) := by decide +kernel
theorem dX9_know_39 : decode cX9_know 39 = .ok (.iinc 1 1, 3) := by decide +kernel
theorem dX9_know_42 : decode cX9_know 42 = .ok (.goto (-28), 3) := by decide +kernel
theorem dX9_know_45 : decode cX9_know 45 = .ok (.aload_n 0, 1) := by decide +kernel
theorem dX9_know_46 : decode cX9_know 46 = .ok (.getfield 44, 3) := by decide +kernel
theorem dX9_know_49 : decode cX9_know 49 = .ok (.bipush 16, 2) := by decide +kernel
theorem dX9_know_51 : decode cX9_know 51 = .ok (.dup2, 1) := by decide +kernel
theorem dX9_know_52 : decode cX9_know 52 = .ok (.iaload, 1) := by decide +kernel
theorem dX9_know_53 : decode cX9_know 53 = .ok (.iconst 1, 1) := by decide +kernel
theorem dX9_know_54 : decode cX9_know 54 = .ok (.isub, 1) := by decide +kernel
theorem dX9_know_55 : decode cX9_know 55 = .ok (.iastore, 1) := by decide +kernel
theorem dX9_know_56 : decode cX9_know 56 = .ok (.iconst 0, 1) := by decide +kernel
theorem dX9_know_57 : decode cX9_know 57 = .ok (.istore_n 1, 1) := by decide +kernel
theorem dX9_know_58 : decode cX9_know 58 = .ok (.iload_n 1, 1) := by decide +kernel
theorem dX9_know_59 : decode cX9_know 59 = .ok (.bipush 16, 2) := by decide +kernel
theorem dX9_know_61 : decode cX9_know 61 = .ok (.if_icmp .ge 35, 3) := by decide +kernel
theorem dX9_know_64 : decode cX9_know 64 = .ok (.aload_n 0, 1) := by decide +kernel
theorem dX9_know_65 : decode cX9_know 65 = .ok (.getfield 44, 3) := by decide +kernel
theorem dX9_know_68 : decode cX9_know 68 = .ok (.bipush 17, 2) := by decide +kernel
theorem dX9_know_70 : decode cX9_know 70 = .ok (.bipush 16, 2) := by decide +kernel
theorem dX9_know_72 : decode cX9_know 72 = .ok (.aload_n 0, 1) := by decide +kernel
theorem dX9_know_73 : decode cX9_know 73 = .ok (.getfield 44, 3) := by decide +kernel
theorem dX9_know_76 : decode cX9_know 76 = .ok (.bipush 16, 2) := by decide +kernel
theorem dX9_know_78 : decode cX9_know 78 = .ok (.iaload, 1) := by decide +kernel
theorem dX9_know_79 : decode cX9_know 79 = .ok (.imul, 1) := by decide +kernel
theorem dX9_know_80 : decode cX9_know 80 = .ok (.iadd, 1) := by decide +kernel
theorem dX9_know_81 : decode cX9_know 81 = .ok (.iload_n 1, 1) := by decide +kernel
theorem dX9_know_82 : decode cX9_know 82 = .ok (.iadd, 1) := by decide +kernel
theorem dX9_know_83 : decode cX9_know 83 = .ok (.aload_n 0, 1) := by decide +kernel
theorem dX9_know_84 : decode cX9_know 84 = .ok (.getfield 44, 3) := by decide +kernel
theorem dX9_know_87 : decode cX9_know 87 = .ok (.iload_n 1, 1) := by decide +kernel
theorem dX9_know_88 : decode cX9_know 88 = .ok (.iaload, 1) := by decide +kernel
theorem dX9_know_89 : decode cX9_know 89 = .ok (.iastore, 1) := by decide +kernel
theorem dX9_know_90 : decode cX9_know 90 = .ok (.iinc 1 1, 3) := by decide +kernel
theorem dX9_know_93 : decode cX9_know 93 = .ok (.goto (-35), 3) := by decide +kernel
theorem dX9_know_96 : decode cX9_know 96 = .ok (.aload_n 0, 1) := by decide +kernel
theorem dX9_know_97 : decode cX9_know 97 = .ok (.getfield 44, 3) := by decide +kernel
theorem dX9_know_100 : decode cX9_know 100 = .ok (.bipush 16, 2) := by decide +kernel
theorem dX9_know_102 : decode cX9_know 102 = .ok (.dup2, 1) := by decide +kernel
theorem dX9_know_103 : decode cX9_know 103 = .ok (.iaload, 1) := by decide +kernel
theorem dX9_know_104 : decode cX9_know 104 = .ok (.iconst 1, 1) := by decide +kernel
theorem dX9_know_105 : decode cX9_know 105 = .ok (.iadd, 1) := by decide +kernel
theorem dX9_know_106 : decode cX9_know 106 = .ok (.iastore, 1) := by decide +kernel
theorem dX9_know_107 : decode cX9_know 107 = .ok (.return_, 1) := by decide +kernel
theorem dX9_goes_0 : decode cX9_goes 0 = .ok (.aload_n 0, 1) := by decide +kernel
theorem dX9_goes_1 : decode cX9_goes 1 = .ok (.iload_n 1, 1) := by decide +kernel
theorem dX9_goes_2 : decode cX9_goes 2 = .ok (.invokevirtual 141, 3) := by decide +kernel
theorem dX9_goes_5 : decode cX9_goes 5 = .ok (.ifCond .eq 11, 3) := by decide +kernel
theorem dX9_goes_8 : decode cX9_goes 8 = .ok (.aload_n 0, 1) := by decide +kernel
theorem dX9_goes_9 : decode cX9_goes 9 = .ok (.iload_n 2, 1) := by decide +kernel
theorem dX9_goes_10 : decode cX9_goes 10 = .ok (.invokevirtual 134, 3) := by decide +kernel
theorem dX9_goes_13 : decode cX9_goes 13 = .ok (.ifCond .ne 5, 3) := by decide +kernel
theorem dX9_goes_16 : decode cX9_goes 16 = .ok (.iconst (-1), 1) := by decide +kernel
theorem dX9_goes_17 : decode cX9_goes 17 = .ok (.ireturn, 1) := by decide +kernel
theorem dX9_goes_18 : decode cX9_goes 18 = .ok (.aload_n 0, 1) := by decide +kernel
theorem dX9_goes_19 : decode cX9_goes 19 = .ok (.iload_n 2, 1) := by decide +kernel
theorem dX9_goes_20 : decode cX9_goes 20 = .ok (.aload_n 0, 1) := by decide +kernel
theorem dX9_goes_21 : decode cX9_goes 21 = .ok (.getfield 44, 3) := by decide +kernel
theorem dX9_goes_24 : decode cX9_goes 24 = .ok (.iconst 0, 1) := by decide +kernel
theorem dX9_goes_25 : decode cX9_goes 25 = .ok (.iload_n 1, 1) := by decide +kernel
theorem dX9_goes_26 : decode cX9_goes 26 = .ok (.iadd, 1) := by decide +kernel
theorem dX9_goes_27 : decode cX9_goes 27 = .ok (.iaload, 1) := by decide +kernel
theorem dX9_goes_28 : decode cX9_goes 28 = .ok (.invokevirtual 144, 3) := by decide +kernel
theorem dX9_goes_31 : decode cX9_goes 31 = .ok (.ifCond .eq 19, 3) := by decide +kernel
theorem dX9_goes_34 : decode cX9_goes 34 = .ok (.aload_n 0, 1) := by decide +kernel
theorem dX9_goes_35 : decode cX9_goes 35 = .ok (.iload_n 1, 1) := by decide +kernel
theorem dX9_goes_36 : decode cX9_goes 36 = .ok (.iload_n 2, 1) := by decide +kernel
theorem dX9_goes_37 : decode cX9_goes 37 = .ok (.aload_n 0, 1) := by decide +kernel
theorem dX9_goes_38 : decode cX9_goes 38 = .ok (.getfield 44, 3) := by decide +kernel
theorem dX9_goes_41 : decode cX9_goes 41 = .ok (.bipush 15, 2) := by decide +kernel
theorem dX9_goes_43 : decode cX9_goes 43 = .ok (.iaload, 1) := by decide +kernel
theorem dX9_goes_44 : decode cX9_goes 44 = .ok (.invokevirtual 128, 3) := by decide +kernel
theorem dX9_goes_47 : decode cX9_goes 47 = .ok (.ifCond .ne 6, 3) := by decide +kernel
theorem dX9_goes_50 : decode cX9_goes 50 = .ok (.bipush (-2), 2) := by decide +kernel
theorem dX9_goes_52 : decode cX9_goes 52 = .ok (.ireturn, 1) := by decide +kernel
theorem dX9_goes_53 : decode cX9_goes 53 = .ok (.aload_n 0, 1) := by decide +kernel
theorem dX9_goes_54 : decode cX9_goes 54 = .ok (.invokevirtual 147, 3) := by decide +kernel
theorem dX9_goes_57 : decode cX9_goes 57 = .ok (.aload_n 0, 1) := by decide +kernel
theorem dX9_goes_58 : decode cX9_goes 58 = .ok (.getfield 44, 3) := by decide +kernel
theorem dX9_goes_61 : decode cX9_goes 61 = .ok (.iconst 0, 1) := by decide +kernel
theorem dX9_goes_62 : decode cX9_goes 62 = .ok (.iload_n 1, 1) := by decide +kernel
theorem dX9_goes_63 : decode cX9_goes 63 = .ok (.iadd, 1) := by decide +kernel
theorem dX9_goes_64 : decode cX9_goes 64 = .ok (.aload_n 0, 1) := by decide +kernel
theorem dX9_goes_65 : decode cX9_goes 65 = .ok (.iload_n 2, 1) := by decide +kernel
theorem dX9_goes_66 : decode cX9_goes 66 = .ok (.aload_n 0, 1) := by decide +kernel
theorem dX9_goes_67 : decode cX9_goes 67 = .ok (.getfield 44, 3) := by decide +kernel
theorem dX9_goes_70 : decode cX9_goes 70 = .ok (.iconst 0, 1) := by decide +kernel
theorem dX9_goes_71 : decode cX9_goes 71 = .ok (.iload_n 1, 1) := by decide +kernel
theorem dX9_goes_72 : decode cX9_goes 72 = .ok (.iadd, 1) := by decide +kernel
theorem dX9_goes_73 : decode cX9_goes 73 = .ok (.iaload, 1) := by decide +kernel
theorem dX9_goes_74 : decode cX9_goes 74 = .ok (.invokevirtual 150, 3) := by decide +kernel
theorem dX9_goes_77 : decode cX9_goes 77 = .ok (.iastore, 1) := by decide +kernel
theorem dX9_goes_78 : decode cX9_goes 78 = .ok (.aload_n 0, 1) := by decide +kernel
theorem dX9_goes_79 : decode cX9_goes 79 = .ok (.getfield 44, 3) := by decide +kernel
theorem dX9_goes_82 : decode cX9_goes 82 = .ok (.iconst 0, 1) := by decide +kernel
theorem dX9_goes_83 : decode cX9_goes 83 = .ok (.iload_n 1, 1) := by decide +kernel
theorem dX9_goes_84 : decode cX9_goes 84 = .ok (.iadd, 1) := by decide +kernel
theorem dX9_goes_85 : decode cX9_goes 85 = .ok (.iaload, 1) := by decide +kernel
theorem dX9_goes_86 : decode cX9_goes 86 = .ok (.ireturn, 1) := by decide +kernel
theorem dX9_outcome_0 : decode cX9_outcome 0 = .ok (.aload_n 0, 1) := by decide +kernel
theorem dX9_outcome_1 : decode cX9_outcome 1 = .ok (.iload_n 3, 1) := by decide +kernel
theorem dX9_outcome_2 : decode cX9_outcome 2 = .ok (.invokevirtual 138, 3) := by decide +kernel
theorem dX9_outcome_5 : decode cX9_outcome 5 = .ok (.ifCond .eq 5, 3) := by decide +kernel
theorem dX9_outcome_8 : decode cX9_outcome 8 = .ok (.iconst 5, 1) := by decide +kernel
theorem dX9_outcome_9 : decode cX9_outcome 9 = .ok (.ireturn, 1) := by decide +kernel
theorem dX9_outcome_10 : decode cX9_outcome 10 = .ok (.aload_n 0, 1) := by decide +kernel
theorem dX9_outcome_11 : decode cX9_outcome 11 = .ok (.iload_n 1, 1) := by decide +kernel
theorem dX9_outcome_12 : decode cX9_outcome 12 = .ok (.invokevirtual 124, 3) := by decide +kernel
theorem dX9_outcome_15 : decode cX9_outcome 15 = .ok (.aload_n 0, 1) := by decide +kernel
theorem dX9_outcome_16 : decode cX9_outcome 16 = .ok (.getfield 26, 3) := by decide +kernel
theorem dX9_outcome_19 : decode cX9_outcome 19 = .ok (.iload_n 3, 1) := by decide +kernel
theorem dX9_outcome_20 : decode cX9_outcome 20 = .ok (.iaload, 1) := by decide +kernel
theorem dX9_outcome_21 : decode cX9_outcome 21 = .ok (.if_icmp .gt 17, 3) := by decide +kernel
theorem dX9_outcome_24 : decode cX9_outcome 24 = .ok (.aload_n 0, 1) := by decide +kernel
theorem dX9_outcome_25 : decode cX9_outcome 25 = .ok (.iload_n 2, 1) := by decide +kernel
theorem dX9_outcome_26 : decode cX9_outcome 26 = .ok (.invokevirtual 124, 3) := by decide +kernel
theorem dX9_outcome_29 : decode cX9_outcome 29 = .ok (.aload_n 0, 1) := by decide +kernel
theorem dX9_outcome_30 : decode cX9_outcome 30 = .ok (.getfield 26, 3) := by decide +kernel
theorem dX9_outcome_33 : decode cX9_outcome 33 = .ok (.iload_n 3, 1) := by decide +kernel
theorem dX9_outcome_34 : decode cX9_outcome 34 = .ok (.iaload, 1) := by decide +kernel
theorem dX9_outcome_35 : decode cX9_outcome 35 = .ok (.if_icmp .le 5, 3) := by decide +kernel
theorem dX9_outcome_38 : decode cX9_outcome 38 = .ok (.iconst 4, 1) := by decide +kernel
theorem dX9_outcome_39 : decode cX9_outcome 39 = .ok (.ireturn, 1) := by decide +kernel
theorem dX9_outcome_40 : decode cX9_outcome 40 = .ok (.aload_n 0, 1) := by decide +kernel
theorem dX9_outcome_41 : decode cX9_outcome 41 = .ok (.iload_n 1, 1) := by decide +kernel
theorem dX9_outcome_42 : decode cX9_outcome 42 = .ok (.invokevirtual 124, 3) := by decide +kernel
theorem dX9_outcome_45 : decode cX9_outcome 45 = .ok (.aload_n 0, 1) := by decide +kernel
theorem dX9_outcome_46 : decode cX9_outcome 46 = .ok (.iload_n 2, 1) := by decide +kernel
theorem dX9_outcome_47 : decode cX9_outcome 47 = .ok (.invokevirtual 124, 3) := by decide +kernel
theorem dX9_outcome_50 : decode cX9_outcome 50 = .ok (.iadd, 1) := by decide +kernel
theorem dX9_outcome_51 : decode cX9_outcome 51 = .ok (.aload_n 0, 1) := by decide +kernel
theorem dX9_outcome_52 : decode cX9_outcome 52 = .ok (.getfield 26, 3) := by decide +kernel
theorem dX9_outcome_55 : decode cX9_outcome 55 = .ok (.iload_n 3, 1) := by decide +kernel
theorem dX9_outcome_56 : decode cX9_outcome 56 = .ok (.iaload, 1) := by decide +kernel
theorem dX9_outcome_57 : decode cX9_outcome 57 = .ok (.if_icmp .gt 5, 3) := by decide +kernel
theorem dX9_outcome_60 : decode cX9_outcome 60 = .ok (.iconst 0, 1) := by decide +kernel
theorem dX9_outcome_61 : decode cX9_outcome 61 = .ok (.ireturn, 1) := by decide +kernel
theorem dX9_outcome_62 : decode cX9_outcome 62 = .ok (.aload_n 0, 1) := by decide +kernel
theorem dX9_outcome_63 : decode cX9_outcome 63 = .ok (.getfield 44, 3) := by decide +kernel
theorem dX9_outcome_66 : decode cX9_outcome 66 = .ok (.iconst 5, 1) := by decide +kernel
theorem dX9_outcome_67 : decode cX9_outcome 67 = .ok (.iload_n 1, 1) := by decide +kernel
theorem dX9_outcome_68 : decode cX9_outcome 68 = .ok (.iadd, 1) := by decide +kernel
theorem dX9_outcome_69 : decode cX9_outcome 69 = .ok (.iaload, 1) := by decide +kernel
theorem dX9_outcome_70 : decode cX9_outcome 70 = .ok (.istore 4, 2) := by decide +kernel
theorem dX9_outcome_72 : decode cX9_outcome 72 = .ok (.aload_n 0, 1) := by decide +kernel
theorem dX9_outcome_73 : decode cX9_outcome 73 = .ok (.getfield 44, 3) := by decide +kernel
theorem dX9_outcome_76 : decode cX9_outcome 76 = .ok (.iconst 5, 1) := by decide +kernel
theorem dX9_outcome_77 : decode cX9_outcome 77 = .ok (.iload_n 2, 1) := by decide +kernel
theorem dX9_outcome_78 : decode cX9_outcome 78 = .ok (.iadd, 1) := by decide +kernel
theorem dX9_outcome_79 : decode cX9_outcome 79 = .ok (.iaload, 1) := by decide +kernel
theorem dX9_outcome_80 : decode cX9_outcome 80 = .ok (.istore 5, 2) := by decide +kernel
theorem dX9_outcome_82 : decode cX9_outcome 82 = .ok (.iload 4, 2) := by decide +kernel
theorem dX9_outcome_84 : decode cX9_outcome 84 = .ok (.iload 5, 2) := by decide +kernel
theorem dX9_outcome_86 : decode cX9_outcome 86 = .ok (.if_icmp .le 7, 3) := by decide +kernel
theorem dX9_outcome_89 : decode cX9_outcome 89 = .ok (.iconst 1, 1) := by decide +kernel
theorem dX9_outcome_90 : decode cX9_outcome 90 = .ok (.goto 15, 3) := by decide +kernel
theorem dX9_outcome_93 : decode cX9_outcome 93 = .ok (.iload 4, 2) := by decide +kernel
theorem dX9_outcome_95 : decode cX9_outcome 95 = .ok (.iload 5, 2) := by decide +kernel
theorem dX9_outcome_97 : decode cX9_outcome 97 = .ok (.if_icmp .ge 7, 3) := by decide +kernel
theorem dX9_outcome_100 : decode cX9_outcome 100 = .ok (.iconst 2, 1) := by decide +kernel
theorem dX9_outcome_101 : decode cX9_outcome 101 = .ok (.goto 4, 3) := by decide +kernel
theorem dX9_outcome_104 : decode cX9_outcome 104 = .ok (.iconst 3, 1) := by decide +kernel
theorem dX9_outcome_105 : decode cX9_outcome 105 = .ok (.ireturn, 1) := by decide +kernel
theorem dX9_meets_0 : decode cX9_meets 0 = .ok (.aload_n 0, 1) := by decide +kernel
theorem dX9_meets_1 : decode cX9_meets 1 = .ok (.iload_n 1, 1) := by decide +kernel
theorem dX9_meets_2 : decode cX9_meets 2 = .ok (.invokevirtual 141, 3) := by decide +kernel
theorem dX9_meets_5 : decode cX9_meets 5 = .ok (.ifCond .eq 24, 3) := by decide +kernel
theorem dX9_meets_8 : decode cX9_meets 8 = .ok (.aload_n 0, 1) := by decide +kernel
theorem dX9_meets_9 : decode cX9_meets 9 = .ok (.iload_n 2, 1) := by decide +kernel
theorem dX9_meets_10 : decode cX9_meets 10 = .ok (.invokevirtual 141, 3) := by decide +kernel
theorem dX9_meets_13 : decode cX9_meets 13 = .ok (.ifCond .eq 16, 3) := by decide +kernel
theorem dX9_meets_16 : decode cX9_meets 16 = .ok (.iload_n 1, 1) := by decide +kernel
theorem dX9_meets_17 : decode cX9_meets 17 = .ok (.iload_n 2, 1) := by decide +kernel
theorem dX9_meets_18 : decode cX9_meets 18 = .ok (.if_icmp .eq 11, 3) := by decide +kernel
theorem dX9_meets_21 : decode cX9_meets 21 = .ok (.aload_n 0, 1) := by decide +kernel
theorem dX9_meets_22 : decode cX9_meets 22 = .ok (.iload_n 3, 1) := by decide +kernel
theorem dX9_meets_23 : decode cX9_meets 23 = .ok (.invokevirtual 134, 3) := by decide +kernel
theorem dX9_meets_26 : decode cX9_meets 26 = .ok (.ifCond .ne 5, 3) := by decide +kernel
theorem dX9_meets_29 : decode cX9_meets 29 = .ok (.iconst (-1), 1) := by decide +kernel
theorem dX9_meets_30 : decode cX9_meets 30 = .ok (.ireturn, 1) := by decide +kernel
theorem dX9_meets_31 : decode cX9_meets 31 = .ok (.aload_n 0, 1) := by decide +kernel
theorem dX9_meets_32 : decode cX9_meets 32 = .ok (.iload_n 1, 1) := by decide +kernel
theorem dX9_meets_33 : decode cX9_meets 33 = .ok (.iload_n 2, 1) := by decide +kernel
theorem dX9_meets_34 : decode cX9_meets 34 = .ok (.iload_n 3, 1) := by decide +kernel
theorem dX9_meets_35 : decode cX9_meets 35 = .ok (.invokevirtual 153, 3) := by decide +kernel
theorem dX9_meets_38 : decode cX9_meets 38 = .ok (.istore 4, 2) := by decide +kernel
theorem dX9_meets_40 : decode cX9_meets 40 = .ok (.aload_n 0, 1) := by decide +kernel
theorem dX9_meets_41 : decode cX9_meets 41 = .ok (.getfield 44, 3) := by decide +kernel
theorem dX9_meets_44 : decode cX9_meets 44 = .ok (.iconst 0, 1) := by decide +kernel
theorem dX9_meets_45 : decode cX9_meets 45 = .ok (.iload_n 1, 1) := by decide +kernel
theorem dX9_meets_46 : decode cX9_meets 46 = .ok (.iadd, 1) := by decide +kernel
theorem dX9_meets_47 : decode cX9_meets 47 = .ok (.iaload, 1) := by decide +kernel
theorem dX9_meets_48 : decode cX9_meets 48 = .ok (.istore 5, 2) := by decide +kernel
theorem dX9_meets_50 : decode cX9_meets 50 = .ok (.aload_n 0, 1) := by decide +kernel
theorem dX9_meets_51 : decode cX9_meets 51 = .ok (.getfield 44, 3) := by decide +kernel
theorem dX9_meets_54 : decode cX9_meets 54 = .ok (.iconst 0, 1) := by decide +kernel
theorem dX9_meets_55 : decode cX9_meets 55 = .ok (.iload_n 2, 1) := by decide +kernel
theorem dX9_meets_56 : decode cX9_meets 56 = .ok (.iadd, 1) := by decide +kernel
theorem dX9_meets_57 : decode cX9_meets 57 = .ok (.iaload, 1) := by decide +kernel
theorem dX9_meets_58 : decode cX9_meets 58 = .ok (.istore 6, 2) := by decide +kernel
theorem dX9_meets_60 : decode cX9_meets 60 = .ok (.iload 4, 2) := by decide +kernel
theorem dX9_meets_62 : decode cX9_meets 62 = .ok (.iconst 3, 1) := by decide +kernel
theorem dX9_meets_63 : decode cX9_meets 63 = .ok (.if_icmp .gt 25, 3) := by decide +kernel
theorem dX9_meets_66 : decode cX9_meets 66 = .ok (.aload_n 0, 1) := by decide +kernel
theorem dX9_meets_67 : decode cX9_meets 67 = .ok (.iload_n 3, 1) := by decide +kernel
theorem dX9_meets_68 : decode cX9_meets 68 = .ok (.iload 5, 2) := by decide +kernel
theorem dX9_meets_70 : decode cX9_meets 70 = .ok (.invokevirtual 144, 3) := by decide +kernel
theorem dX9_meets_73 : decode cX9_meets 73 = .ok (.ifCond .eq 15, 3) := by decide +kernel
theorem dX9_meets_76 : decode cX9_meets 76 = .ok (.aload_n 0, 1) := by decide +kernel
theorem dX9_meets_77 : decode cX9_meets 77 = .ok (.iload_n 3, 1) := by decide +kernel
theorem dX9_meets_78 : decode cX9_meets 78 = .ok (.iload 5, 2) := by decide +kernel
theorem dX9_meets_80 : decode cX9_meets 80 = .ok (.invokevirtual 150, 3) := by decide +kernel
theorem dX9_meets_83 : decode cX9_meets 83 = .ok (.iload 6, 2) := by decide +kernel
theorem dX9_meets_85 : decode cX9_meets 85 = .ok (.if_icmp .eq 6, 3) := by decide +kernel
theorem dX9_meets_88 : decode cX9_meets 88 = .ok (.bipush (-2), 2) := by decide +kernel
theorem dX9_meets_90 : decode cX9_meets 90 = .ok (.ireturn, 1) := by decide +kernel
theorem dX9_meets_91 : decode cX9_meets 91 = .ok (.aload_n 0, 1) := by decide +kernel
theorem dX9_meets_92 : decode cX9_meets 92 = .ok (.invokevirtual 147, 3) := by decide +kernel
theorem dX9_meets_95 : decode cX9_meets 95 = .ok (.aload_n 0, 1) := by decide +kernel
theorem dX9_meets_96 : decode cX9_meets 96 = .ok (.getfield 44, 3) := by decide +kernel
theorem dX9_meets_99 : decode cX9_meets 99 = .ok (.iconst 0, 1) := by decide +kernel
theorem dX9_meets_100 : decode cX9_meets 100 = .ok (.iload_n 1, 1) := by decide +kernel
theorem dX9_meets_101 : decode cX9_meets 101 = .ok (.iadd, 1) := by decide +kernel
theorem dX9_meets_102 : decode cX9_meets 102 = .ok (.iload 4, 2) := by decide +kernel
theorem dX9_meets_104 : decode cX9_meets 104 = .ok (.iconst 2, 1) := by decide +kernel
theorem dX9_meets_105 : decode cX9_meets 105 = .ok (.if_icmp .ge 8, 3) := by decide +kernel
theorem dX9_meets_108 : decode cX9_meets 108 = .ok (.iload 6, 2) := by decide +kernel
theorem dX9_meets_110 : decode cX9_meets 110 = .ok (.goto 5, 3) := by decide +kernel
theorem dX9_meets_113 : decode cX9_meets 113 = .ok (.iload 5, 2) := by decide +kernel
theorem dX9_meets_115 : decode cX9_meets 115 = .ok (.iastore, 1) := by decide +kernel
theorem dX9_meets_116 : decode cX9_meets 116 = .ok (.aload_n 0, 1) := by decide +kernel
theorem dX9_meets_117 : decode cX9_meets 117 = .ok (.getfield 44, 3) := by decide +kernel
theorem dX9_meets_120 : decode cX9_meets 120 = .ok (.iconst 0, 1) := by decide +kernel
theorem dX9_meets_121 : decode cX9_meets 121 = .ok (.iload_n 2, 1) := by decide +kernel
theorem dX9_meets_122 : decode cX9_meets 122 = .ok (.iadd, 1) := by decide +kernel
theorem dX9_meets_123 : decode cX9_meets 123 = .ok (.iload 4, 2) := by decide +kernel
theorem dX9_meets_125 : decode cX9_meets 125 = .ok (.ifCond .eq 9, 3) := by decide +kernel
theorem dX9_meets_128 : decode cX9_meets 128 = .ok (.iload 4, 2) := by decide +kernel
theorem dX9_meets_130 : decode cX9_meets 130 = .ok (.iconst 2, 1) := by decide +kernel
theorem dX9_meets_131 : decode cX9_meets 131 = .ok (.if_icmp .ne 8, 3) := by decide +kernel
theorem dX9_meets_134 : decode cX9_meets 134 = .ok (.iload 5, 2) := by decide +kernel
theorem dX9_meets_136 : decode cX9_meets 136 = .ok (.goto 5, 3) := by decide +kernel
theorem dX9_meets_139 : decode cX9_meets 139 = .ok (.iload 6, 2) := by decide +kernel
theorem dX9_meets_141 : decode cX9_meets 141 = .ok (.iastore, 1) := by decide +kernel
theorem dX9_meets_142 : decode cX9_meets 142 = .ok (.aload_n 0, 1) := by decide +kernel
theorem dX9_meets_143 : decode cX9_meets 143 = .ok (.getfield 44, 3) := by decide +kernel
theorem dX9_meets_146 : decode cX9_meets 146 = .ok (.bipush 10, 2) := by decide +kernel
theorem dX9_meets_148 : decode cX9_meets 148 = .ok (.iload_n 1, 1) := by decide +kernel
theorem dX9_meets_149 : decode cX9_meets 149 = .ok (.iadd, 1) := by decide +kernel
theorem dX9_meets_150 : decode cX9_meets 150 = .ok (.dup2, 1) := by decide +kernel
theorem dX9_meets_151 : decode cX9_meets 151 = .ok (.iaload, 1) := by decide +kernel
theorem dX9_meets_152 : decode cX9_meets 152 = .ok (.iload 4, 2) := by decide +kernel
theorem dX9_meets_154 : decode cX9_meets 154 = .ok (.iconst 2, 1) := by decide +kernel
theorem dX9_meets_155 : decode cX9_meets 155 = .ok (.if_icmp .ne 7, 3) := by decide +kernel
theorem dX9_meets_158 : decode cX9_meets 158 = .ok (.iconst 1, 1) := by decide +kernel
theorem dX9_meets_159 : decode cX9_meets 159 = .ok (.goto 4, 3) := by decide +kernel
theorem dX9_meets_162 : decode cX9_meets 162 = .ok (.iconst 0, 1) := by decide +kernel
theorem dX9_meets_163 : decode cX9_meets 163 = .ok (.iadd, 1) := by decide +kernel
theorem dX9_meets_164 : decode cX9_meets 164 = .ok (.iastore, 1) := by decide +kernel
theorem dX9_meets_165 : decode cX9_meets 165 = .ok (.aload_n 0, 1) := by decide +kernel
theorem dX9_meets_166 : decode cX9_meets 166 = .ok (.getfield 44, 3) := by decide +kernel
theorem dX9_meets_169 : decode cX9_meets 169 = .ok (.bipush 10, 2) := by decide +kernel
theorem dX9_meets_171 : decode cX9_meets 171 = .ok (.iload_n 2, 1) := by decide +kernel
theorem dX9_meets_172 : decode cX9_meets 172 = .ok (.iadd, 1) := by decide +kernel
theorem dX9_meets_173 : decode cX9_meets 173 = .ok (.dup2, 1) := by decide +kernel
theorem dX9_meets_174 : decode cX9_meets 174 = .ok (.iaload, 1) := by decide +kernel
theorem dX9_meets_175 : decode cX9_meets 175 = .ok (.iload 4, 2) := by decide +kernel
theorem dX9_meets_177 : decode cX9_meets 177 = .ok (.iconst 1, 1) := by decide +kernel
theorem dX9_meets_178 : decode cX9_meets 178 = .ok (.if_icmp .ne 7, 3) := by decide +kernel
theorem dX9_meets_181 : decode cX9_meets 181 = .ok (.iconst 1, 1) := by decide +kernel
theorem dX9_meets_182 : decode cX9_meets 182 = .ok (.goto 4, 3) := by decide +kernel
theorem dX9_meets_185 : decode cX9_meets 185 = .ok (.iconst 0, 1) := by decide +kernel
theorem dX9_meets_186 : decode cX9_meets 186 = .ok (.iadd, 1) := by decide +kernel
theorem dX9_meets_187 : decode cX9_meets 187 = .ok (.iastore, 1) := by decide +kernel
theorem dX9_meets_188 : decode cX9_meets 188 = .ok (.aload_n 0, 1) := by decide +kernel
theorem dX9_meets_189 : decode cX9_meets 189 = .ok (.getfield 44, 3) := by decide +kernel
theorem dX9_meets_192 : decode cX9_meets 192 = .ok (.bipush 15, 2) := by decide +kernel
theorem dX9_meets_194 : decode cX9_meets 194 = .ok (.dup2, 1) := by decide +kernel
theorem dX9_meets_195 : decode cX9_meets 195 = .ok (.iaload, 1) := by decide +kernel
theorem dX9_meets_196 : decode cX9_meets 196 = .ok (.iload 4, 2) := by decide +kernel
theorem dX9_meets_198 : decode cX9_meets 198 = .ok (.iconst 3, 1) := by decide +kernel
theorem dX9_meets_199 : decode cX9_meets 199 = .ok (.if_icmp .ne 9, 3) := by decide +kernel
theorem dX9_meets_202 : decode cX9_meets 202 = .ok (.iconst 1, 1) := by decide +kernel
theorem dX9_meets_203 : decode cX9_meets 203 = .ok (.iload_n 3, 1) := by decide +kernel
theorem dX9_meets_204 : decode cX9_meets 204 = .ok (.ishl, 1) := by decide +kernel
theorem dX9_meets_205 : decode cX9_meets 205 = .ok (.goto 4, 3) := by decide +kernel
theorem dX9_meets_208 : decode cX9_meets 208 = .ok (.iconst 0, 1) := by decide +kernel
theorem dX9_meets_209 : decode cX9_meets 209 = .ok (.ior, 1) := by decide +kernel
theorem dX9_meets_210 : decode cX9_meets 210 = .ok (.iastore, 1) := by decide +kernel
theorem dX9_meets_211 : decode cX9_meets 211 = .ok (.iload 4, 2) := by decide +kernel
theorem dX9_meets_213 : decode cX9_meets 213 = .ok (.ireturn, 1) := by decide +kernel
theorem dX9_claims_0 : decode cX9_claims 0 = .ok (.aload_n 0, 1) := by decide +kernel
theorem dX9_claims_1 : decode cX9_claims 1 = .ok (.iload_n 1, 1) := by decide +kernel
theorem dX9_claims_2 : decode cX9_claims 2 = .ok (.invokevirtual 141, 3) := by decide +kernel
theorem dX9_claims_5 : decode cX9_claims 5 = .ok (.ifCond .eq 16, 3) := by decide +kernel
theorem dX9_claims_8 : decode cX9_claims 8 = .ok (.aload_n 0, 1) := by decide +kernel
theorem dX9_claims_9 : decode cX9_claims 9 = .ok (.iload_n 2, 1) := by decide +kernel
theorem dX9_claims_10 : decode cX9_claims 10 = .ok (.invokevirtual 141, 3) := by decide +kernel
theorem dX9_claims_13 : decode cX9_claims 13 = .ok (.ifCond .eq 8, 3) := by decide +kernel
theorem dX9_claims_16 : decode cX9_claims 16 = .ok (.iload_n 1, 1) := by decide +kernel
theorem dX9_claims_17 : decode cX9_claims 17 = .ok (.iload_n 2, 1) := by decide +kernel
theorem dX9_claims_18 : decode cX9_claims 18 = .ok (.if_icmp .ne 5, 3) := by decide +kernel
theorem dX9_claims_21 : decode cX9_claims 21 = .ok (.iconst (-1), 1) := by decide +kernel
theorem dX9_claims_22 : decode cX9_claims 22 = .ok (.ireturn, 1) := by decide +kernel
theorem dX9_claims_23 : decode cX9_claims 23 = .ok (.aload_n 0, 1) := by decide +kernel
theorem dX9_claims_24 : decode cX9_claims 24 = .ok (.getfield 44, 3) := by decide +kernel
theorem dX9_claims_27 : decode cX9_claims 27 = .ok (.iconst 5, 1) := by decide +kernel
theorem dX9_claims_28 : decode cX9_claims 28 = .ok (.iload_n 1, 1) := by decide +kernel
theorem dX9_claims_29 : decode cX9_claims 29 = .ok (.iadd, 1) := by decide +kernel
theorem dX9_claims_30 : decode cX9_claims 30 = .ok (.iaload, 1) := by decide +kernel
theorem dX9_claims_31 : decode cX9_claims 31 = .ok (.istore_n 3, 1) := by decide +kernel
theorem dX9_claims_32 : decode cX9_claims 32 = .ok (.aload_n 0, 1) := by decide +kernel
theorem dX9_claims_33 : decode cX9_claims 33 = .ok (.getfield 44, 3) := by decide +kernel
theorem dX9_claims_36 : decode cX9_claims 36 = .ok (.iconst 5, 1) := by decide +kernel
theorem dX9_claims_37 : decode cX9_claims 37 = .ok (.iload_n 2, 1) := by decide +kernel
theorem dX9_claims_38 : decode cX9_claims 38 = .ok (.iadd, 1) := by decide +kernel
theorem dX9_claims_39 : decode cX9_claims 39 = .ok (.iaload, 1) := by decide +kernel
theorem dX9_claims_40 : decode cX9_claims 40 = .ok (.istore 4, 2) := by decide +kernel
theorem dX9_claims_42 : decode cX9_claims 42 = .ok (.aload_n 0, 1) := by decide +kernel
theorem dX9_claims_43 : decode cX9_claims 43 = .ok (.getfield 44, 3) := by decide +kernel
theorem dX9_claims_46 : decode cX9_claims 46 = .ok (.iconst 0, 1) := by decide +kernel
theorem dX9_claims_47 : decode cX9_claims 47 = .ok (.iload_n 1, 1) := by decide +kernel
theorem dX9_claims_48 : decode cX9_claims 48 = .ok (.iadd, 1) := by decide +kernel
theorem dX9_claims_49 : decode cX9_claims 49 = .ok (.iaload, 1) := by decide +kernel
theorem dX9_claims_50 : decode cX9_claims 50 = .ok (.aload_n 0, 1) := by decide +kernel
theorem dX9_claims_51 : decode cX9_claims 51 = .ok (.getfield 44, 3) := by decide +kernel
theorem dX9_claims_54 : decode cX9_claims 54 = .ok (.iconst 0, 1) := by decide +kernel
theorem dX9_claims_55 : decode cX9_claims 55 = .ok (.iload_n 2, 1) := by decide +kernel
theorem dX9_claims_56 : decode cX9_claims 56 = .ok (.iadd, 1) := by decide +kernel
theorem dX9_claims_57 : decode cX9_claims 57 = .ok (.iaload, 1) := by decide +kernel
theorem dX9_claims_58 : decode cX9_claims 58 = .ok (.if_icmp .ne 20, 3) := by decide +kernel
theorem dX9_claims_61 : decode cX9_claims 61 = .ok (.iload_n 3, 1) := by decide +kernel
theorem dX9_claims_62 : decode cX9_claims 62 = .ok (.iload 4, 2) := by decide +kernel
theorem dX9_claims_64 : decode cX9_claims 64 = .ok (.if_icmp .le 14, 3) := by decide +kernel
theorem dX9_claims_67 : decode cX9_claims 67 = .ok (.iload_n 3, 1) := by decide +kernel
theorem dX9_claims_68 : decode cX9_claims 68 = .ok (.bipush 9, 2) := by decide +kernel
theorem dX9_claims_70 : decode cX9_claims 70 = .ok (.if_icmp .eq 8, 3) := by decide +kernel
theorem dX9_claims_73 : decode cX9_claims 73 = .ok (.iload 4, 2) := by decide +kernel
theorem dX9_claims_75 : decode cX9_claims 75 = .ok (.ifCond .ne 6, 3) := by decide +kernel
theorem dX9_claims_78 : decode cX9_claims 78 = .ok (.bipush (-2), 2) := by decide +kernel
theorem dX9_claims_80 : decode cX9_claims 80 = .ok (.ireturn, 1) := by decide +kernel
theorem dX9_claims_81 : decode cX9_claims 81 = .ok (.aload_n 0, 1) := by decide +kernel
theorem dX9_claims_82 : decode cX9_claims 82 = .ok (.invokevirtual 147, 3) := by decide +kernel
theorem dX9_claims_85 : decode cX9_claims 85 = .ok (.aload_n 0, 1) := by decide +kernel
theorem dX9_claims_86 : decode cX9_claims 86 = .ok (.getfield 44, 3) := by decide +kernel
theorem dX9_claims_89 : decode cX9_claims 89 = .ok (.iconst 5, 1) := by decide +kernel
theorem dX9_claims_90 : decode cX9_claims 90 = .ok (.iload_n 1, 1) := by decide +kernel
theorem dX9_claims_91 : decode cX9_claims 91 = .ok (.iadd, 1) := by decide +kernel
theorem dX9_claims_92 : decode cX9_claims 92 = .ok (.dup2, 1) := by decide +kernel
theorem dX9_claims_93 : decode cX9_claims 93 = .ok (.iaload, 1) := by decide +kernel
theorem dX9_claims_94 : decode cX9_claims 94 = .ok (.iconst 1, 1) := by decide +kernel
theorem dX9_claims_95 : decode cX9_claims 95 = .ok (.iadd, 1) := by decide +kernel
theorem dX9_claims_96 : decode cX9_claims 96 = .ok (.iastore, 1) := by decide +kernel
theorem dX9_claims_97 : decode cX9_claims 97 = .ok (.aload_n 0, 1) := by decide +kernel
theorem dX9_claims_98 : decode cX9_claims 98 = .ok (.getfield 44, 3) := by decide +kernel
theorem dX9_claims_101 : decode cX9_claims 101 = .ok (.iconst 5, 1) := by decide +kernel
theorem dX9_claims_102 : decode cX9_claims 102 = .ok (.iload_n 2, 1) := by decide +kernel
theorem dX9_claims_103 : decode cX9_claims 103 = .ok (.iadd, 1) := by decide +kernel
theorem dX9_claims_104 : decode cX9_claims 104 = .ok (.dup2, 1) := by decide +kernel
theorem dX9_claims_105 : decode cX9_claims 105 = .ok (.iaload, 1) := by decide +kernel
theorem dX9_claims_106 : decode cX9_claims 106 = .ok (.iconst 1, 1) := by decide +kernel
theorem dX9_claims_107 : decode cX9_claims 107 = .ok (.isub, 1) := by decide +kernel
theorem dX9_claims_108 : decode cX9_claims 108 = .ok (.iastore, 1) := by decide +kernel
theorem dX9_claims_109 : decode cX9_claims 109 = .ok (.aload_n 0, 1) := by decide +kernel
theorem dX9_claims_110 : decode cX9_claims 110 = .ok (.getfield 44, 3) := by decide +kernel
theorem dX9_claims_113 : decode cX9_claims 113 = .ok (.iconst 5, 1) := by decide +kernel
theorem dX9_claims_114 : decode cX9_claims 114 = .ok (.iload_n 1, 1) := by decide +kernel
theorem dX9_claims_115 : decode cX9_claims 115 = .ok (.iadd, 1) := by decide +kernel
theorem dX9_claims_116 : decode cX9_claims 116 = .ok (.iaload, 1) := by decide +kernel
theorem dX9_claims_117 : decode cX9_claims 117 = .ok (.ireturn, 1) := by decide +kernel
theorem dX9_patents_0 : decode cX9_patents 0 = .ok (.aload_n 0, 1) := by decide +kernel
theorem dX9_patents_1 : decode cX9_patents 1 = .ok (.iload_n 1, 1) := by decide +kernel
theorem dX9_patents_2 : decode cX9_patents 2 = .ok (.invokevirtual 141, 3) := by decide +kernel
theorem dX9_patents_5 : decode cX9_patents 5 = .ok (.ifCond .eq 13, 3) := by decide +kernel
theorem dX9_patents_8 : decode cX9_patents 8 = .ok (.iload_n 2, 1) := by decide +kernel
theorem dX9_patents_9 : decode cX9_patents 9 = .ok (.iconst 0, 1) := by decide +kernel
theorem dX9_patents_10 : decode cX9_patents 10 = .ok (.bipush 9, 2) := by decide +kernel
theorem dX9_patents_12 : decode cX9_patents 12 = .ok (.invokestatic 72, 3) := by decide +kernel
theorem dX9_patents_15 : decode cX9_patents 15 = .ok (.ifCond .ne 5, 3) := by decide +kernel
theorem dX9_patents_18 : decode cX9_patents 18 = .ok (.iconst (-1), 1) := by decide +kernel
theorem dX9_patents_19 : decode cX9_patents 19 = .ok (.ireturn, 1) := by decide +kernel
theorem dX9_patents_20 : decode cX9_patents 20 = .ok (.aload_n 0, 1) := by decide +kernel
theorem dX9_patents_21 : decode cX9_patents 21 = .ok (.getfield 44, 3) := by decide +kernel
theorem dX9_patents_24 : decode cX9_patents 24 = .ok (.iconst 5, 1) := by decide +kernel
theorem dX9_patents_25 : decode cX9_patents 25 = .ok (.iload_n 1, 1) := by decide +kernel
theorem dX9_patents_26 : decode cX9_patents 26 = .ok (.iadd, 1) := by decide +kernel
theorem dX9_patents_27 : decode cX9_patents 27 = .ok (.iaload, 1) := by decide +kernel
theorem dX9_patents_28 : decode cX9_patents 28 = .ok (.istore_n 3, 1) := by decide +kernel
theorem dX9_patents_29 : decode cX9_patents 29 = .ok (.iload_n 3, 1) := by decide +kernel
theorem dX9_patents_30 : decode cX9_patents 30 = .ok (.iload_n 2, 1) := by decide +kernel
theorem dX9_patents_31 : decode cX9_patents 31 = .ok (.if_icmp .ne 6, 3) := by decide +kernel
theorem dX9_patents_34 : decode cX9_patents 34 = .ok (.bipush (-2), 2) := by decide +kernel
theorem dX9_patents_36 : decode cX9_patents 36 = .ok (.ireturn, 1) := by decide +kernel
theorem dX9_patents_37 : decode cX9_patents 37 = .ok (.aload_n 0, 1) := by decide +kernel
theorem dX9_patents_38 : decode cX9_patents 38 = .ok (.invokevirtual 147, 3) := by decide +kernel
theorem dX9_patents_41 : decode cX9_patents 41 = .ok (.aload_n 0, 1) := by decide +kernel
theorem dX9_patents_42 : decode cX9_patents 42 = .ok (.getfield 44, 3) := by decide +kernel
theorem dX9_patents_45 : decode cX9_patents 45 = .ok (.iconst 5, 1) := by decide +kernel
theorem dX9_patents_46 : decode cX9_patents 46 = .ok (.iload_n 1, 1) := by decide +kernel
theorem dX9_patents_47 : decode cX9_patents 47 = .ok (.iadd, 1) := by decide +kernel
theorem dX9_patents_48 : decode cX9_patents 48 = .ok (.iload_n 2, 1) := by decide +kernel
theorem dX9_patents_49 : decode cX9_patents 49 = .ok (.iastore, 1) := by decide +kernel
theorem dX9_patents_50 : decode cX9_patents 50 = .ok (.iload_n 3, 1) := by decide +kernel
theorem dX9_patents_51 : decode cX9_patents 51 = .ok (.ireturn, 1) := by decide +kernel
theorem dX9_shuts_0 : decode cX9_shuts 0 = .ok (.aload_n 0, 1) := by decide +kernel
theorem dX9_shuts_1 : decode cX9_shuts 1 = .ok (.iload_n 1, 1) := by decide +kernel
theorem dX9_shuts_2 : decode cX9_shuts 2 = .ok (.invokevirtual 134, 3) := by decide +kernel
theorem dX9_shuts_5 : decode cX9_shuts 5 = .ok (.ifCond .eq 12, 3) := by decide +kernel
theorem dX9_shuts_8 : decode cX9_shuts 8 = .ok (.iload_n 2, 1) := by decide +kernel
theorem dX9_shuts_9 : decode cX9_shuts 9 = .ok (.iconst 0, 1) := by decide +kernel
theorem dX9_shuts_10 : decode cX9_shuts 10 = .ok (.iconst 1, 1) := by decide +kernel
theorem dX9_shuts_11 : decode cX9_shuts 11 = .ok (.invokestatic 72, 3) := by decide +kernel
theorem dX9_shuts_14 : decode cX9_shuts 14 = .ok (.ifCond .ne 5, 3) := by decide +kernel
theorem dX9_shuts_17 : decode cX9_shuts 17 = .ok (.iconst (-1), 1) := by decide +kernel
theorem dX9_shuts_18 : decode cX9_shuts 18 = .ok (.ireturn, 1) := by decide +kernel
theorem dX9_shuts_19 : decode cX9_shuts 19 = .ok (.aload_n 0, 1) := by decide +kernel
theorem dX9_shuts_20 : decode cX9_shuts 20 = .ok (.getfield 44, 3) := by decide +kernel
theorem dX9_shuts_23 : decode cX9_shuts 23 = .ok (.bipush 15, 2) := by decide +kernel
theorem dX9_shuts_25 : decode cX9_shuts 25 = .ok (.iaload, 1) := by decide +kernel
theorem dX9_shuts_26 : decode cX9_shuts 26 = .ok (.iload_n 1, 1) := by decide +kernel
theorem dX9_shuts_27 : decode cX9_shuts 27 = .ok (.ishr, 1) := by decide +kernel
theorem dX9_shuts_28 : decode cX9_shuts 28 = .ok (.iconst 1, 1) := by decide +kernel
theorem dX9_shuts_29 : decode cX9_shuts 29 = .ok (.iand, 1) := by decide +kernel
theorem dX9_shuts_30 : decode cX9_shuts 30 = .ok (.iload_n 2, 1) := by decide +kernel
theorem dX9_shuts_31 : decode cX9_shuts 31 = .ok (.if_icmp .ne 6, 3) := by decide +kernel
theorem dX9_shuts_34 : decode cX9_shuts 34 = .ok (.bipush (-2), 2) := by decide +kernel
theorem dX9_shuts_36 : decode cX9_shuts 36 = .ok (.ireturn, 1) := by decide +kernel
theorem dX9_shuts_37 : decode cX9_shuts 37 = .ok (.aload_n 0, 1) := by decide +kernel
theorem dX9_shuts_38 : decode cX9_shuts 38 = .ok (.invokevirtual 147, 3) := by decide +kernel
theorem dX9_shuts_41 : decode cX9_shuts 41 = .ok (.aload_n 0, 1) := by decide +kernel
theorem dX9_shuts_42 : decode cX9_shuts 42 = .ok (.getfield 44, 3) := by decide +kernel
theorem dX9_shuts_45 : decode cX9_shuts 45 = .ok (.bipush 15, 2) := by decide +kernel
theorem dX9_shuts_47 : decode cX9_shuts 47 = .ok (.dup2, 1) := by decide +kernel
theorem dX9_shuts_48 : decode cX9_shuts 48 = .ok (.iaload, 1) := by decide +kernel
theorem dX9_shuts_49 : decode cX9_shuts 49 = .ok (.iconst 1, 1) := by decide +kernel
theorem dX9_shuts_50 : decode cX9_shuts 50 = .ok (.iload_n 1, 1) := by decide +kernel
theorem dX9_shuts_51 : decode cX9_shuts 51 = .ok (.ishl, 1) := by decide +kernel
theorem dX9_shuts_52 : decode cX9_shuts 52 = .ok (.ixor, 1) := by decide +kernel
theorem dX9_shuts_53 : decode cX9_shuts 53 = .ok (.iastore, 1) := by decide +kernel
theorem dX9_shuts_54 : decode cX9_shuts 54 = .ok (.aload_n 0, 1) := by decide +kernel
theorem dX9_shuts_55 : decode cX9_shuts 55 = .ok (.getfield 44, 3) := by decide +kernel
theorem dX9_shuts_58 : decode cX9_shuts 58 = .ok (.bipush 15, 2) := by decide +kernel
theorem dX9_shuts_60 : decode cX9_shuts 60 = .ok (.iaload, 1) := by decide +kernel
theorem dX9_shuts_61 : decode cX9_shuts 61 = .ok (.invokestatic 157, 3) := by decide +kernel
theorem dX9_shuts_64 : decode cX9_shuts 64 = .ok (.ireturn, 1) := by decide +kernel
theorem dX9_undo_0 : decode cX9_undo 0 = .ok (.aload_n 0, 1) := by decide +kernel
theorem dX9_undo_1 : decode cX9_undo 1 = .ok (.getfield 44, 3) := by decide +kernel
theorem dX9_undo_4 : decode cX9_undo 4 = .ok (.bipush 16, 2) := by decide +kernel
theorem dX9_undo_6 : decode cX9_undo 6 = .ok (.iaload, 1) := by decide +kernel
theorem dX9_undo_7 : decode cX9_undo 7 = .ok (.ifCond .ne 6, 3) := by decide +kernel
theorem dX9_undo_10 : decode cX9_undo 10 = .ok (.bipush (-2), 2) := by decide +kernel
theorem dX9_undo_12 : decode cX9_undo 12 = .ok (.ireturn, 1) := by decide +kernel
theorem dX9_undo_13 : decode cX9_undo 13 = .ok (.aload_n 0, 1) := by decide +kernel
theorem dX9_undo_14 : decode cX9_undo 14 = .ok (.getfield 44, 3) := by decide +kernel
theorem dX9_undo_17 : decode cX9_undo 17 = .ok (.bipush 16, 2) := by decide +kernel
theorem dX9_undo_19 : decode cX9_undo 19 = .ok (.dup2, 1) := by decide +kernel
theorem dX9_undo_20 : decode cX9_undo 20 = .ok (.iaload, 1) := by decide +kernel
theorem dX9_undo_21 : decode cX9_undo 21 = .ok (.iconst 1, 1) := by decide +kernel
theorem dX9_undo_22 : decode cX9_undo 22 = .ok (.isub, 1) := by decide +kernel
theorem dX9_undo_23 : decode cX9_undo 23 = .ok (.iastore, 1) := by decide +kernel
theorem dX9_undo_24 : decode cX9_undo 24 = .ok (.iconst 0, 1) := by decide +kernel
theorem dX9_undo_25 : decode cX9_undo 25 = .ok (.istore_n 1, 1) := by decide +kernel
theorem dX9_undo_26 : decode cX9_undo 26 = .ok (.iload_n 1, 1) := by decide +kernel
theorem dX9_undo_27 : decode cX9_undo 27 = .ok (.bipush 16, 2) := by decide +kernel
theorem dX9_undo_29 : decode cX9_undo 29 = .ok (.if_icmp .ge 35, 3) := by decide +kernel
theorem dX9_undo_32 : decode cX9_undo 32 = .ok (.aload_n 0, 1) := by decide +kernel
theorem dX9_undo_33 : decode cX9_undo 33 = .ok (.getfield 44, 3) := by decide +kernel
theorem dX9_undo_36 : decode cX9_undo 36 = .ok (.iload_n 1, 1) := by decide +kernel
theorem dX9_undo_37 : decode cX9_undo 37 = .ok (.aload_n 0, 1) := by decide +kernel
theorem dX9_undo_38 : decode cX9_undo 38 = .ok (.getfield 44, 3) := by decide +kernel
theorem dX9_undo_41 : decode cX9_undo 41 = .ok (.bipush 17, 2) := by decide +kernel
theorem dX9_undo_43 : decode cX9_undo 43 = .ok (.bipush 16, 2) := by decide +kernel
theorem dX9_undo_45 : decode cX9_undo 45 = .ok (.aload_n 0, 1) := by decide +kernel
theorem dX9_undo_46 : decode cX9_undo 46 = .ok (.getfield 44, 3) := by decide +kernel
theorem dX9_undo_49 : decode cX9_undo 49 = .ok (.bipush 16, 2) := by decide +kernel
theorem dX9_undo_51 : decode cX9_undo 51 = .ok (.iaload, 1) := by decide +kernel
theorem dX9_undo_52 : decode cX9_undo 52 = .ok (.imul, 1) := by decide +kernel
theorem dX9_undo_53 : decode cX9_undo 53 = .ok (.iadd, 1) := by decide +kernel
theorem dX9_undo_54 : decode cX9_undo 54 = .ok (.iload_n 1, 1) := by decide +kernel
theorem dX9_undo_55 : decode cX9_undo 55 = .ok (.iadd, 1) := by decide +kernel
theorem dX9_undo_56 : decode cX9_undo 56 = .ok (.iaload, 1) := by decide +kernel
theorem dX9_undo_57 : decode cX9_undo 57 = .ok (.iastore, 1) := by decide +kernel
theorem dX9_undo_58 : decode cX9_undo 58 = .ok (.iinc 1 1, 3) := by decide +kernel
theorem dX9_undo_61 : decode cX9_undo 61 = .ok (.goto (-35), 3) := by decide +kernel
theorem dX9_undo_64 : decode cX9_undo 64 = .ok (.aload_n 0, 1) := by decide +kernel
theorem dX9_undo_65 : decode cX9_undo 65 = .ok (.getfield 44, 3) := by decide +kernel
theorem dX9_undo_68 : decode cX9_undo 68 = .ok (.bipush 16, 2) := by decide +kernel
theorem dX9_undo_70 : decode cX9_undo 70 = .ok (.iaload, 1) := by decide +kernel
theorem dX9_undo_71 : decode cX9_undo 71 = .ok (.ireturn, 1) := by decide +kernel
theorem dX9_now_0 : decode cX9_now 0 = .ok (.iconst 0, 1) := by decide +kernel
theorem dX9_now_1 : decode cX9_now 1 = .ok (.istore_n 2, 1) := by decide +kernel
theorem dX9_now_2 : decode cX9_now 2 = .ok (.iload_n 1, 1) := by decide +kernel
theorem dX9_now_3 : decode cX9_now 3 = .ok (.tableswitch 149 0 3 #[29, 37, 69, 100], 29) := by decide +kernel
theorem dX9_now_32 : decode cX9_now 32 = .ok (.aload_n 0, 1) := by decide +kernel
theorem dX9_now_33 : decode cX9_now 33 = .ok (.getfield 44, 3) := by decide +kernel
theorem dX9_now_36 : decode cX9_now 36 = .ok (.bipush 15, 2) := by decide +kernel
theorem dX9_now_38 : decode cX9_now 38 = .ok (.iaload, 1) := by decide +kernel
theorem dX9_now_39 : decode cX9_now 39 = .ok (.ireturn, 1) := by decide +kernel
theorem dX9_now_40 : decode cX9_now 40 = .ok (.iconst 0, 1) := by decide +kernel
theorem dX9_now_41 : decode cX9_now 41 = .ok (.istore_n 3, 1) := by decide +kernel
theorem dX9_now_42 : decode cX9_now 42 = .ok (.iload_n 3, 1) := by decide +kernel
theorem dX9_now_43 : decode cX9_now 43 = .ok (.aload_n 0, 1) := by decide +kernel
theorem dX9_now_44 : decode cX9_now 44 = .ok (.getfield 29, 3) := by decide +kernel
theorem dX9_now_47 : decode cX9_now 47 = .ok (.iconst 0, 1) := by decide +kernel
theorem dX9_now_48 : decode cX9_now 48 = .ok (.iaload, 1) := by decide +kernel
theorem dX9_now_49 : decode cX9_now 49 = .ok (.if_icmp .ge 21, 3) := by decide +kernel
theorem dX9_now_52 : decode cX9_now 52 = .ok (.iload_n 2, 1) := by decide +kernel
theorem dX9_now_53 : decode cX9_now 53 = .ok (.aload_n 0, 1) := by decide +kernel
theorem dX9_now_54 : decode cX9_now 54 = .ok (.getfield 44, 3) := by decide +kernel
theorem dX9_now_57 : decode cX9_now 57 = .ok (.bipush 10, 2) := by decide +kernel
theorem dX9_now_59 : decode cX9_now 59 = .ok (.iload_n 3, 1) := by decide +kernel
theorem dX9_now_60 : decode cX9_now 60 = .ok (.iadd, 1) := by decide +kernel
theorem dX9_now_61 : decode cX9_now 61 = .ok (.iaload, 1) := by decide +kernel
theorem dX9_now_62 : decode cX9_now 62 = .ok (.iadd, 1) := by decide +kernel
theorem dX9_now_63 : decode cX9_now 63 = .ok (.istore_n 2, 1) := by decide +kernel
theorem dX9_now_64 : decode cX9_now 64 = .ok (.iinc 3 1, 3) := by decide +kernel
theorem dX9_now_67 : decode cX9_now 67 = .ok (.goto (-25), 3) := by decide +kernel
theorem dX9_now_70 : decode cX9_now 70 = .ok (.iload_n 2, 1) := by decide +kernel
theorem dX9_now_71 : decode cX9_now 71 = .ok (.ireturn, 1) := by decide +kernel
theorem dX9_now_72 : decode cX9_now 72 = .ok (.iconst 0, 1) := by decide +kernel
theorem dX9_now_73 : decode cX9_now 73 = .ok (.istore_n 3, 1) := by decide +kernel
theorem dX9_now_74 : decode cX9_now 74 = .ok (.iload_n 3, 1) := by decide +kernel
theorem dX9_now_75 : decode cX9_now 75 = .ok (.aload_n 0, 1) := by decide +kernel
theorem dX9_now_76 : decode cX9_now 76 = .ok (.getfield 29, 3) := by decide +kernel
theorem dX9_now_79 : decode cX9_now 79 = .ok (.iconst 0, 1) := by decide +kernel
theorem dX9_now_80 : decode cX9_now 80 = .ok (.iaload, 1) := by decide +kernel
theorem dX9_now_81 : decode cX9_now 81 = .ok (.if_icmp .ge 20, 3) := by decide +kernel
theorem dX9_now_84 : decode cX9_now 84 = .ok (.iload_n 2, 1) := by decide +kernel
theorem dX9_now_85 : decode cX9_now 85 = .ok (.aload_n 0, 1) := by decide +kernel
theorem dX9_now_86 : decode cX9_now 86 = .ok (.getfield 44, 3) := by decide +kernel
theorem dX9_now_89 : decode cX9_now 89 = .ok (.iconst 5, 1) := by decide +kernel
theorem dX9_now_90 : decode cX9_now 90 = .ok (.iload_n 3, 1) := by decide +kernel
theorem dX9_now_91 : decode cX9_now 91 = .ok (.iadd, 1) := by decide +kernel
theorem dX9_now_92 : decode cX9_now 92 = .ok (.iaload, 1) := by decide +kernel
theorem dX9_now_93 : decode cX9_now 93 = .ok (.iadd, 1) := by decide +kernel
theorem dX9_now_94 : decode cX9_now 94 = .ok (.istore_n 2, 1) := by decide +kernel
theorem dX9_now_95 : decode cX9_now 95 = .ok (.iinc 3 1, 3) := by decide +kernel
theorem dX9_now_98 : decode cX9_now 98 = .ok (.goto (-24), 3) := by decide +kernel
theorem dX9_now_101 : decode cX9_now 101 = .ok (.iload_n 2, 1) := by decide +kernel
theorem dX9_now_102 : decode cX9_now 102 = .ok (.ireturn, 1) := by decide +kernel
theorem dX9_now_103 : decode cX9_now 103 = .ok (.iconst 0, 1) := by decide +kernel
theorem dX9_now_104 : decode cX9_now 104 = .ok (.istore_n 3, 1) := by decide +kernel
theorem dX9_now_105 : decode cX9_now 105 = .ok (.iload_n 3, 1) := by decide +kernel
theorem dX9_now_106 : decode cX9_now 106 = .ok (.aload_n 0, 1) := by decide +kernel
theorem dX9_now_107 : decode cX9_now 107 = .ok (.getfield 29, 3) := by decide +kernel
theorem dX9_now_110 : decode cX9_now 110 = .ok (.iconst 0, 1) := by decide +kernel
theorem dX9_now_111 : decode cX9_now 111 = .ok (.iaload, 1) := by decide +kernel
theorem dX9_now_112 : decode cX9_now 112 = .ok (.if_icmp .ge 38, 3) := by decide +kernel
theorem dX9_now_115 : decode cX9_now 115 = .ok (.iload_n 2, 1) := by decide +kernel
theorem dX9_now_116 : decode cX9_now 116 = .ok (.aload_n 0, 1) := by decide +kernel
theorem dX9_now_117 : decode cX9_now 117 = .ok (.iload_n 3, 1) := by decide +kernel
theorem dX9_now_118 : decode cX9_now 118 = .ok (.invokevirtual 160, 3) := by decide +kernel
theorem dX9_now_121 : decode cX9_now 121 = .ok (.aload_n 0, 1) := by decide +kernel
theorem dX9_now_122 : decode cX9_now 122 = .ok (.getfield 44, 3) := by decide +kernel
theorem dX9_now_125 : decode cX9_now 125 = .ok (.iconst 5, 1) := by decide +kernel
theorem dX9_now_126 : decode cX9_now 126 = .ok (.iload_n 3, 1) := by decide +kernel
theorem dX9_now_127 : decode cX9_now 127 = .ok (.iadd, 1) := by decide +kernel
theorem dX9_now_128 : decode cX9_now 128 = .ok (.iaload, 1) := by decide +kernel
theorem dX9_now_129 : decode cX9_now 129 = .ok (.ishr, 1) := by decide +kernel
theorem dX9_now_130 : decode cX9_now 130 = .ok (.iconst 1, 1) := by decide +kernel
theorem dX9_now_131 : decode cX9_now 131 = .ok (.iand, 1) := by decide +kernel
theorem dX9_now_132 : decode cX9_now 132 = .ok (.ifCond .ne 9, 3) := by decide +kernel
theorem dX9_now_135 : decode cX9_now 135 = .ok (.iconst 1, 1) := by decide +kernel
theorem dX9_now_136 : decode cX9_now 136 = .ok (.iload_n 3, 1) := by decide +kernel
theorem dX9_now_137 : decode cX9_now 137 = .ok (.ishl, 1) := by decide +kernel
theorem dX9_now_138 : decode cX9_now 138 = .ok (.goto 4, 3) := by decide +kernel
theorem dX9_now_141 : decode cX9_now 141 = .ok (.iconst 0, 1) := by decide +kernel
theorem dX9_now_142 : decode cX9_now 142 = .ok (.ior, 1) := by decide +kernel
theorem dX9_now_143 : decode cX9_now 143 = .ok (.istore_n 2, 1) := by decide +kernel
theorem dX9_now_144 : decode cX9_now 144 = .ok (.iinc 3 1, 3) := by decide +kernel
theorem dX9_now_147 : decode cX9_now 147 = .ok (.goto (-42), 3) := by decide +kernel
theorem dX9_now_150 : decode cX9_now 150 = .ok (.iload_n 2, 1) := by decide +kernel
theorem dX9_now_151 : decode cX9_now 151 = .ok (.ireturn, 1) := by decide +kernel
theorem dX9_now_152 : decode cX9_now 152 = .ok (.iconst (-1), 1) := by decide +kernel
theorem dX9_now_153 : decode cX9_now 153 = .ok (.ireturn, 1) := by decide +kernel
theorem dX9_costOf_0 : decode cX9_costOf 0 = .ok (.aload_n 0, 1) := by decide +kernel
theorem dX9_costOf_1 : decode cX9_costOf 1 = .ok (.iload_n 2, 1) := by decide +kernel
theorem dX9_costOf_2 : decode cX9_costOf 2 = .ok (.invokevirtual 138, 3) := by decide +kernel
theorem dX9_costOf_5 : decode cX9_costOf 5 = .ok (.ifCond .eq 6, 3) := by decide +kernel
theorem dX9_costOf_8 : decode cX9_costOf 8 = .ok (.ldc 163, 2) := by decide +kernel
theorem dX9_costOf_10 : decode cX9_costOf 10 = .ok (.ireturn, 1) := by decide +kernel
theorem dX9_costOf_11 : decode cX9_costOf 11 = .ok (.aload_n 0, 1) := by decide +kernel
theorem dX9_costOf_12 : decode cX9_costOf 12 = .ok (.iload_n 1, 1) := by decide +kernel
theorem dX9_costOf_13 : decode cX9_costOf 13 = .ok (.invokevirtual 124, 3) := by decide +kernel
theorem dX9_costOf_16 : decode cX9_costOf 16 = .ok (.aload_n 0, 1) := by decide +kernel
theorem dX9_costOf_17 : decode cX9_costOf 17 = .ok (.getfield 26, 3) := by decide +kernel
theorem dX9_costOf_20 : decode cX9_costOf 20 = .ok (.iload_n 2, 1) := by decide +kernel
theorem dX9_costOf_21 : decode cX9_costOf 21 = .ok (.iaload, 1) := by decide +kernel
theorem dX9_costOf_22 : decode cX9_costOf 22 = .ok (.isub, 1) := by decide +kernel
theorem dX9_costOf_23 : decode cX9_costOf 23 = .ok (.istore 4, 2) := by decide +kernel
theorem dX9_costOf_25 : decode cX9_costOf 25 = .ok (.iload_n 3, 1) := by decide +kernel
theorem dX9_costOf_26 : decode cX9_costOf 26 = .ok (.ifCond .eq 17, 3) := by decide +kernel
theorem dX9_costOf_29 : decode cX9_costOf 29 = .ok (.iload 4, 2) := by decide +kernel
theorem dX9_costOf_31 : decode cX9_costOf 31 = .ok (.ifCond .le 8, 3) := by decide +kernel
theorem dX9_costOf_34 : decode cX9_costOf 34 = .ok (.iload 4, 2) := by decide +kernel
theorem dX9_costOf_36 : decode cX9_costOf 36 = .ok (.goto 18, 3) := by decide +kernel
theorem dX9_costOf_39 : decode cX9_costOf 39 = .ok (.iconst 0, 1) := by decide +kernel
theorem dX9_costOf_40 : decode cX9_costOf 40 = .ok (.goto 14, 3) := by decide +kernel
theorem dX9_costOf_43 : decode cX9_costOf 43 = .ok (.iload 4, 2) := by decide +kernel
theorem dX9_costOf_45 : decode cX9_costOf 45 = .ok (.ifCond .le 8, 3) := by decide +kernel
theorem dX9_costOf_48 : decode cX9_costOf 48 = .ok (.ldc 163, 2) := by decide +kernel
theorem dX9_costOf_50 : decode cX9_costOf 50 = .ok (.goto 4, 3) := by decide +kernel
theorem dX9_costOf_53 : decode cX9_costOf 53 = .ok (.iconst 1, 1) := by decide +kernel
theorem dX9_costOf_54 : decode cX9_costOf 54 = .ok (.ireturn, 1) := by decide +kernel
theorem dX9_measure_0 : decode cX9_measure 0 = .ok (.iconst 0, 1) := by decide +kernel
theorem dX9_measure_1 : decode cX9_measure 1 = .ok (.istore 4, 2) := by decide +kernel
theorem dX9_measure_3 : decode cX9_measure 3 = .ok (.iload 4, 2) := by decide +kernel
theorem dX9_measure_5 : decode cX9_measure 5 = .ok (.bipush 8, 2) := by decide +kernel
theorem dX9_measure_7 : decode cX9_measure 7 = .ok (.if_icmp .ge 28, 3) := by decide +kernel
theorem dX9_measure_10 : decode cX9_measure 10 = .ok (.aload_n 0, 1) := by decide +kernel
theorem dX9_measure_11 : decode cX9_measure 11 = .ok (.getfield 51, 3) := by decide +kernel
theorem dX9_measure_14 : decode cX9_measure 14 = .ok (.iload 4, 2) := by decide +kernel
theorem dX9_measure_16 : decode cX9_measure 16 = .ok (.iload 4, 2) := by decide +kernel
theorem dX9_measure_18 : decode cX9_measure 18 = .ok (.iload_n 2, 1) := by decide +kernel
theorem dX9_measure_19 : decode cX9_measure 19 = .ok (.if_icmp .ne 7, 3) := by decide +kernel
theorem dX9_measure_22 : decode cX9_measure 22 = .ok (.iconst 0, 1) := by decide +kernel
theorem dX9_measure_23 : decode cX9_measure 23 = .ok (.goto 5, 3) := by decide +kernel
theorem dX9_measure_26 : decode cX9_measure 26 = .ok (.ldc 163, 2) := by decide +kernel
theorem dX9_measure_28 : decode cX9_measure 28 = .ok (.iastore, 1) := by decide +kernel
theorem dX9_measure_29 : decode cX9_measure 29 = .ok (.iinc 4 1, 3) := by decide +kernel
theorem dX9_measure_32 : decode cX9_measure 32 = .ok (.goto (-29), 3) := by decide +kernel
theorem dX9_measure_35 : decode cX9_measure 35 = .ok (.iconst 0, 1) := by decide +kernel
theorem dX9_measure_36 : decode cX9_measure 36 = .ok (.istore 4, 2) := by decide +kernel
theorem dX9_measure_38 : decode cX9_measure 38 = .ok (.iload 4, 2) := by decide +kernel
theorem dX9_measure_40 : decode cX9_measure 40 = .ok (.bipush 8, 2) := by decide +kernel
theorem dX9_measure_42 : decode cX9_measure 42 = .ok (.if_icmp .ge 151, 3) := by decide +kernel
theorem dX9_measure_45 : decode cX9_measure 45 = .ok (.iconst 0, 1) := by decide +kernel
theorem dX9_measure_46 : decode cX9_measure 46 = .ok (.istore 5, 2) := by decide +kernel
theorem dX9_measure_48 : decode cX9_measure 48 = .ok (.iload 5, 2) := by decide +kernel
theorem dX9_measure_50 : decode cX9_measure 50 = .ok (.aload_n 0, 1) := by decide +kernel
theorem dX9_measure_51 : decode cX9_measure 51 = .ok (.getfield 17, 3) := by decide +kernel
theorem dX9_measure_54 : decode cX9_measure 54 = .ok (.iconst 0, 1) := by decide +kernel
theorem dX9_measure_55 : decode cX9_measure 55 = .ok (.iaload, 1) := by decide +kernel
theorem dX9_measure_56 : decode cX9_measure 56 = .ok (.if_icmp .ge 131, 3) := by decide +kernel
theorem dX9_measure_59 : decode cX9_measure 59 = .ok (.aload_n 0, 1) := by decide +kernel
theorem dX9_measure_60 : decode cX9_measure 60 = .ok (.iload_n 1, 1) := by decide +kernel
theorem dX9_measure_61 : decode cX9_measure 61 = .ok (.iload 5, 2) := by decide +kernel
theorem dX9_measure_63 : decode cX9_measure 63 = .ok (.iload_n 3, 1) := by decide +kernel
theorem dX9_measure_64 : decode cX9_measure 64 = .ok (.invokevirtual 164, 3) := by decide +kernel
theorem dX9_measure_67 : decode cX9_measure 67 = .ok (.istore 6, 2) := by decide +kernel
theorem dX9_measure_69 : decode cX9_measure 69 = .ok (.aload_n 0, 1) := by decide +kernel
theorem dX9_measure_70 : decode cX9_measure 70 = .ok (.getfield 20, 3) := by decide +kernel
theorem dX9_measure_73 : decode cX9_measure 73 = .ok (.iload 5, 2) := by decide +kernel
theorem dX9_measure_75 : decode cX9_measure 75 = .ok (.iaload, 1) := by decide +kernel
theorem dX9_measure_76 : decode cX9_measure 76 = .ok (.istore 7, 2) := by decide +kernel
theorem dX9_measure_78 : decode cX9_measure 78 = .ok (.aload_n 0, 1) := by decide +kernel
theorem dX9_measure_79 : decode cX9_measure 79 = .ok (.getfield 23, 3) := by decide +kernel
theorem dX9_measure_82 : decode cX9_measure 82 = .ok (.iload 5, 2) := by decide +kernel
theorem dX9_measure_84 : decode cX9_measure 84 = .ok (.iaload, 1) := by decide +kernel
theorem dX9_measure_85 : decode cX9_measure 85 = .ok (.istore 8, 2) := by decide +kernel
theorem dX9_measure_87 : decode cX9_measure 87 = .ok (.aload_n 0, 1) := by decide +kernel
theorem dX9_measure_88 : decode cX9_measure 88 = .ok (.getfield 51, 3) := by decide +kernel
theorem dX9_measure_91 : decode cX9_measure 91 = .ok (.iload 7, 2) := by decide +kernel
theorem dX9_measure_93 : decode cX9_measure 93 = .ok (.aload_n 0, 1) := by decide +kernel
theorem dX9_measure_94 : decode cX9_measure 94 = .ok (.getfield 51, 3) := by decide +kernel
theorem dX9_measure_97 : decode cX9_measure 97 = .ok (.iload 8, 2) := by decide +kernel
theorem dX9_measure_99 : decode cX9_measure 99 = .ok (.iaload, 1) := by decide +kernel
theorem dX9_measure_100 : decode cX9_measure 100 = .ok (.iload 6, 2) := by decide +kernel
theorem dX9_measure_102 : decode cX9_measure 102 = .ok (.iadd, 1) := by decide +kernel
theorem dX9_measure_103 : decode cX9_measure 103 = .ok (.aload_n 0, 1) := by decide +kernel
theorem dX9_measure_104 : decode cX9_measure 104 = .ok (.getfield 51, 3) := by decide +kernel
theorem dX9_measure_107 : decode cX9_measure 107 = .ok (.iload 7, 2) := by decide +kernel
theorem dX9_measure_109 : decode cX9_measure 109 = .ok (.iaload, 1) := by decide +kernel
theorem dX9_measure_110 : decode cX9_measure 110 = .ok (.if_icmp .ge 16, 3) := by decide +kernel
theorem dX9_measure_113 : decode cX9_measure 113 = .ok (.aload_n 0, 1) := by decide +kernel
theorem dX9_measure_114 : decode cX9_measure 114 = .ok (.getfield 51, 3) := by decide +kernel
theorem dX9_measure_117 : decode cX9_measure 117 = .ok (.iload 8, 2) := by decide +kernel
theorem dX9_measure_119 : decode cX9_measure 119 = .ok (.iaload, 1) := by decide +kernel
theorem dX9_measure_120 : decode cX9_measure 120 = .ok (.iload 6, 2) := by decide +kernel
theorem dX9_measure_122 : decode cX9_measure 122 = .ok (.iadd, 1) := by decide +kernel
theorem dX9_measure_123 : decode cX9_measure 123 = .ok (.goto 10, 3) := by decide +kernel
theorem dX9_measure_126 : decode cX9_measure 126 = .ok (.aload_n 0, 1) := by decide +kernel
theorem dX9_measure_127 : decode cX9_measure 127 = .ok (.getfield 51, 3) := by decide +kernel
theorem dX9_measure_130 : decode cX9_measure 130 = .ok (.iload 7, 2) := by decide +kernel
theorem dX9_measure_132 : decode cX9_measure 132 = .ok (.iaload, 1) := by decide +kernel
theorem dX9_measure_133 : decode cX9_measure 133 = .ok (.iastore, 1) := by decide +kernel
theorem dX9_measure_134 : decode cX9_measure 134 = .ok (.aload_n 0, 1) := by decide +kernel
theorem dX9_measure_135 : decode cX9_measure 135 = .ok (.getfield 51, 3) := by decide +kernel
theorem dX9_measure_138 : decode cX9_measure 138 = .ok (.iload 8, 2) := by decide +kernel
theorem dX9_measure_140 : decode cX9_measure 140 = .ok (.aload_n 0, 1) := by decide +kernel
theorem dX9_measure_141 : decode cX9_measure 141 = .ok (.getfield 51, 3) := by decide +kernel
theorem dX9_measure_144 : decode cX9_measure 144 = .ok (.iload 7, 2) := by decide +kernel
theorem dX9_measure_146 : decode cX9_measure 146 = .ok (.iaload, 1) := by decide +kernel
theorem dX9_measure_147 : decode cX9_measure 147 = .ok (.iload 6, 2) := by decide +kernel
theorem dX9_measure_149 : decode cX9_measure 149 = .ok (.iadd, 1) := by decide +kernel
theorem dX9_measure_150 : decode cX9_measure 150 = .ok (.aload_n 0, 1) := by decide +kernel
theorem dX9_measure_151 : decode cX9_measure 151 = .ok (.getfield 51, 3) := by decide +kernel
theorem dX9_measure_154 : decode cX9_measure 154 = .ok (.iload 8, 2) := by decide +kernel
theorem dX9_measure_156 : decode cX9_measure 156 = .ok (.iaload, 1) := by decide +kernel
theorem dX9_measure_157 : decode cX9_measure 157 = .ok (.if_icmp .ge 16, 3) := by decide +kernel
theorem dX9_measure_160 : decode cX9_measure 160 = .ok (.aload_n 0, 1) := by decide +kernel
theorem dX9_measure_161 : decode cX9_measure 161 = .ok (.getfield 51, 3) := by decide +kernel
theorem dX9_measure_164 : decode cX9_measure 164 = .ok (.iload 7, 2) := by decide +kernel
theorem dX9_measure_166 : decode cX9_measure 166 = .ok (.iaload, 1) := by decide +kernel
theorem dX9_measure_167 : decode cX9_measure 167 = .ok (.iload 6, 2) := by decide +kernel
theorem dX9_measure_169 : decode cX9_measure 169 = .ok (.iadd, 1) := by decide +kernel
theorem dX9_measure_170 : decode cX9_measure 170 = .ok (.goto 10, 3) := by decide +kernel
theorem dX9_measure_173 : decode cX9_measure 173 = .ok (.aload_n 0, 1) := by decide +kernel
theorem dX9_measure_174 : decode cX9_measure 174 = .ok (.getfield 51, 3) := by decide +kernel
theorem dX9_measure_177 : decode cX9_measure 177 = .ok (.iload 8, 2) := by decide +kernel
theorem dX9_measure_179 : decode cX9_measure 179 = .ok (.iaload, 1) := by decide +kernel
theorem dX9_measure_180 : decode cX9_measure 180 = .ok (.iastore, 1) := by decide +kernel
theorem dX9_measure_181 : decode cX9_measure 181 = .ok (.iinc 5 1, 3) := by decide +kernel
theorem dX9_measure_184 : decode cX9_measure 184 = .ok (.goto (-136), 3) := by decide +kernel
theorem dX9_measure_187 : decode cX9_measure 187 = .ok (.iinc 4 1, 3) := by decide +kernel
theorem dX9_measure_190 : decode cX9_measure 190 = .ok (.goto (-152), 3) := by decide +kernel
theorem dX9_measure_193 : decode cX9_measure 193 = .ok (.return_, 1) := by decide +kernel
theorem dX9_way_0 : decode cX9_way 0 = .ok (.aload_n 0, 1) := by decide +kernel
theorem dX9_way_1 : decode cX9_way 1 = .ok (.iload_n 1, 1) := by decide +kernel
theorem dX9_way_2 : decode cX9_way 2 = .ok (.invokevirtual 141, 3) := by decide +kernel
theorem dX9_way_5 : decode cX9_way 5 = .ok (.ifCond .eq 16, 3) := by decide +kernel
theorem dX9_way_8 : decode cX9_way 8 = .ok (.aload_n 0, 1) := by decide +kernel
theorem dX9_way_9 : decode cX9_way 9 = .ok (.iload_n 2, 1) := by decide +kernel
theorem dX9_way_10 : decode cX9_way 10 = .ok (.invokevirtual 168, 3) := by decide +kernel
theorem dX9_way_13 : decode cX9_way 13 = .ok (.ifCond .eq 8, 3) := by decide +kernel
theorem dX9_way_16 : decode cX9_way 16 = .ok (.iload_n 3, 1) := by decide +kernel
theorem dX9_way_17 : decode cX9_way 17 = .ok (.iconst (-1), 1) := by decide +kernel
theorem dX9_way_18 : decode cX9_way 18 = .ok (.if_icmp .ge 5, 3) := by decide +kernel
theorem dX9_way_21 : decode cX9_way 21 = .ok (.iconst (-1), 1) := by decide +kernel
theorem dX9_way_22 : decode cX9_way 22 = .ok (.ireturn, 1) := by decide +kernel
theorem dX9_way_23 : decode cX9_way 23 = .ok (.aload_n 0, 1) := by decide +kernel
theorem dX9_way_24 : decode cX9_way 24 = .ok (.iload_n 1, 1) := by decide +kernel
theorem dX9_way_25 : decode cX9_way 25 = .ok (.iload_n 2, 1) := by decide +kernel
theorem dX9_way_26 : decode cX9_way 26 = .ok (.iconst 0, 1) := by decide +kernel
theorem dX9_way_27 : decode cX9_way 27 = .ok (.invokevirtual 171, 3) := by decide +kernel
theorem dX9_way_30 : decode cX9_way 30 = .ok (.aload_n 0, 1) := by decide +kernel
theorem dX9_way_31 : decode cX9_way 31 = .ok (.getfield 44, 3) := by decide +kernel
theorem dX9_way_34 : decode cX9_way 34 = .ok (.iconst 0, 1) := by decide +kernel
theorem dX9_way_35 : decode cX9_way 35 = .ok (.iload_n 1, 1) := by decide +kernel
theorem dX9_way_36 : decode cX9_way 36 = .ok (.iadd, 1) := by decide +kernel
theorem dX9_way_37 : decode cX9_way 37 = .ok (.iaload, 1) := by decide +kernel
theorem dX9_way_38 : decode cX9_way 38 = .ok (.istore 4, 2) := by decide +kernel
theorem dX9_way_40 : decode cX9_way 40 = .ok (.aload_n 0, 1) := by decide +kernel
theorem dX9_way_41 : decode cX9_way 41 = .ok (.getfield 51, 3) := by decide +kernel
theorem dX9_way_44 : decode cX9_way 44 = .ok (.iload 4, 2) := by decide +kernel
theorem dX9_way_46 : decode cX9_way 46 = .ok (.iaload, 1) := by decide +kernel
theorem dX9_way_47 : decode cX9_way 47 = .ok (.istore 5, 2) := by decide +kernel
theorem dX9_way_49 : decode cX9_way 49 = .ok (.iload 5, 2) := by decide +kernel
theorem dX9_way_51 : decode cX9_way 51 = .ok (.ldc 163, 2) := by decide +kernel
theorem dX9_way_53 : decode cX9_way 53 = .ok (.if_icmp .ge 9, 3) := by decide +kernel
theorem dX9_way_56 : decode cX9_way 56 = .ok (.iload_n 3, 1) := by decide +kernel
theorem dX9_way_57 : decode cX9_way 57 = .ok (.iload 5, 2) := by decide +kernel
theorem dX9_way_59 : decode cX9_way 59 = .ok (.if_icmp .lt 6, 3) := by decide +kernel
theorem dX9_way_62 : decode cX9_way 62 = .ok (.bipush (-9), 2) := by decide +kernel
theorem dX9_way_64 : decode cX9_way 64 = .ok (.ireturn, 1) := by decide +kernel
theorem dX9_way_65 : decode cX9_way 65 = .ok (.iload 5, 2) := by decide +kernel
theorem dX9_way_67 : decode cX9_way 67 = .ok (.istore 6, 2) := by decide +kernel
theorem dX9_way_69 : decode cX9_way 69 = .ok (.iconst 0, 1) := by decide +kernel
theorem dX9_way_70 : decode cX9_way 70 = .ok (.istore 7, 2) := by decide +kernel
theorem dX9_way_72 : decode cX9_way 72 = .ok (.iload 7, 2) := by decide +kernel
theorem dX9_way_74 : decode cX9_way 74 = .ok (.iload_n 3, 1) := by decide +kernel
theorem dX9_way_75 : decode cX9_way 75 = .ok (.if_icmp .gt 74, 3) := by decide +kernel
theorem dX9_way_78 : decode cX9_way 78 = .ok (.iconst 0, 1) := by decide +kernel
theorem dX9_way_79 : decode cX9_way 79 = .ok (.istore 6, 2) := by decide +kernel
theorem dX9_way_81 : decode cX9_way 81 = .ok (.aload_n 0, 1) := by decide +kernel
theorem dX9_way_82 : decode cX9_way 82 = .ok (.iload 6, 2) := by decide +kernel
theorem dX9_way_84 : decode cX9_way 84 = .ok (.iload 4, 2) := by decide +kernel
theorem dX9_way_86 : decode cX9_way 86 = .ok (.invokevirtual 144, 3) := by decide +kernel
theorem dX9_way_89 : decode cX9_way 89 = .ok (.ifCond .eq 38, 3) := by decide +kernel
theorem dX9_way_92 : decode cX9_way 92 = .ok (.aload_n 0, 1) := by decide +kernel
theorem dX9_way_93 : decode cX9_way 93 = .ok (.iload_n 1, 1) := by decide +kernel
theorem dX9_way_94 : decode cX9_way 94 = .ok (.iload 6, 2) := by decide +kernel
theorem dX9_way_96 : decode cX9_way 96 = .ok (.iconst 0, 1) := by decide +kernel
theorem dX9_way_97 : decode cX9_way 97 = .ok (.invokevirtual 164, 3) := by decide +kernel
theorem dX9_way_100 : decode cX9_way 100 = .ok (.iconst 1, 1) := by decide +kernel
theorem dX9_way_101 : decode cX9_way 101 = .ok (.if_icmp .ne 26, 3) := by decide +kernel
theorem dX9_way_104 : decode cX9_way 104 = .ok (.aload_n 0, 1) := by decide +kernel
theorem dX9_way_105 : decode cX9_way 105 = .ok (.getfield 51, 3) := by decide +kernel
theorem dX9_way_108 : decode cX9_way 108 = .ok (.aload_n 0, 1) := by decide +kernel
theorem dX9_way_109 : decode cX9_way 109 = .ok (.iload 6, 2) := by decide +kernel
theorem dX9_way_111 : decode cX9_way 111 = .ok (.iload 4, 2) := by decide +kernel
theorem dX9_way_113 : decode cX9_way 113 = .ok (.invokevirtual 150, 3) := by decide +kernel
theorem dX9_way_116 : decode cX9_way 116 = .ok (.iaload, 1) := by decide +kernel
theorem dX9_way_117 : decode cX9_way 117 = .ok (.iload 5, 2) := by decide +kernel
theorem dX9_way_119 : decode cX9_way 119 = .ok (.iload 7, 2) := by decide +kernel
theorem dX9_way_121 : decode cX9_way 121 = .ok (.isub, 1) := by decide +kernel
theorem dX9_way_122 : decode cX9_way 122 = .ok (.iconst 1, 1) := by decide +kernel
theorem dX9_way_123 : decode cX9_way 123 = .ok (.isub, 1) := by decide +kernel
theorem dX9_way_124 : decode cX9_way 124 = .ok (.if_icmp .eq 9, 3) := by decide +kernel
theorem dX9_way_127 : decode cX9_way 127 = .ok (.iinc 6 1, 3) := by decide +kernel
theorem dX9_way_130 : decode cX9_way 130 = .ok (.goto (-49), 3) := by decide +kernel
theorem dX9_way_133 : decode cX9_way 133 = .ok (.aload_n 0, 1) := by decide +kernel
theorem dX9_way_134 : decode cX9_way 134 = .ok (.iload 6, 2) := by decide +kernel
theorem dX9_way_136 : decode cX9_way 136 = .ok (.iload 4, 2) := by decide +kernel
theorem dX9_way_138 : decode cX9_way 138 = .ok (.invokevirtual 150, 3) := by decide +kernel
theorem dX9_way_141 : decode cX9_way 141 = .ok (.istore 4, 2) := by decide +kernel
theorem dX9_way_143 : decode cX9_way 143 = .ok (.iinc 7 1, 3) := by decide +kernel
theorem dX9_way_146 : decode cX9_way 146 = .ok (.goto (-74), 3) := by decide +kernel
theorem dX9_way_149 : decode cX9_way 149 = .ok (.iload 6, 2) := by decide +kernel
theorem dX9_way_151 : decode cX9_way 151 = .ok (.ireturn, 1) := by decide +kernel
theorem dX9_lacks_0 : decode cX9_lacks 0 = .ok (.aload_n 0, 1) := by decide +kernel
theorem dX9_lacks_1 : decode cX9_lacks 1 = .ok (.iload_n 1, 1) := by decide +kernel
theorem dX9_lacks_2 : decode cX9_lacks 2 = .ok (.invokevirtual 141, 3) := by decide +kernel
theorem dX9_lacks_5 : decode cX9_lacks 5 = .ok (.ifCond .eq 11, 3) := by decide +kernel
theorem dX9_lacks_8 : decode cX9_lacks 8 = .ok (.aload_n 0, 1) := by decide +kernel
theorem dX9_lacks_9 : decode cX9_lacks 9 = .ok (.iload_n 2, 1) := by decide +kernel
theorem dX9_lacks_10 : decode cX9_lacks 10 = .ok (.invokevirtual 168, 3) := by decide +kernel
theorem dX9_lacks_13 : decode cX9_lacks 13 = .ok (.ifCond .ne 5, 3) := by decide +kernel
theorem dX9_lacks_16 : decode cX9_lacks 16 = .ok (.iconst (-1), 1) := by decide +kernel
theorem dX9_lacks_17 : decode cX9_lacks 17 = .ok (.ireturn, 1) := by decide +kernel
theorem dX9_lacks_18 : decode cX9_lacks 18 = .ok (.aload_n 0, 1) := by decide +kernel
theorem dX9_lacks_19 : decode cX9_lacks 19 = .ok (.iload_n 1, 1) := by decide +kernel
theorem dX9_lacks_20 : decode cX9_lacks 20 = .ok (.iload_n 2, 1) := by decide +kernel
theorem dX9_lacks_21 : decode cX9_lacks 21 = .ok (.iconst 1, 1) := by decide +kernel
theorem dX9_lacks_22 : decode cX9_lacks 22 = .ok (.invokevirtual 171, 3) := by decide +kernel
theorem dX9_lacks_25 : decode cX9_lacks 25 = .ok (.aload_n 0, 1) := by decide +kernel
theorem dX9_lacks_26 : decode cX9_lacks 26 = .ok (.getfield 51, 3) := by decide +kernel
theorem dX9_lacks_29 : decode cX9_lacks 29 = .ok (.aload_n 0, 1) := by decide +kernel
theorem dX9_lacks_30 : decode cX9_lacks 30 = .ok (.getfield 44, 3) := by decide +kernel
theorem dX9_lacks_33 : decode cX9_lacks 33 = .ok (.iconst 0, 1) := by decide +kernel
theorem dX9_lacks_34 : decode cX9_lacks 34 = .ok (.iload_n 1, 1) := by decide +kernel
theorem dX9_lacks_35 : decode cX9_lacks 35 = .ok (.iadd, 1) := by decide +kernel
theorem dX9_lacks_36 : decode cX9_lacks 36 = .ok (.iaload, 1) := by decide +kernel
theorem dX9_lacks_37 : decode cX9_lacks 37 = .ok (.iaload, 1) := by decide +kernel
theorem dX9_lacks_38 : decode cX9_lacks 38 = .ok (.ldc 163, 2) := by decide +kernel
theorem dX9_lacks_40 : decode cX9_lacks 40 = .ok (.if_icmp .lt 8, 3) := by decide +kernel
theorem dX9_lacks_43 : decode cX9_lacks 43 = .ok (.bipush (-9), 2) := by decide +kernel
theorem dX9_lacks_45 : decode cX9_lacks 45 = .ok (.goto 16, 3) := by decide +kernel
theorem dX9_lacks_48 : decode cX9_lacks 48 = .ok (.aload_n 0, 1) := by decide +kernel
theorem dX9_lacks_49 : decode cX9_lacks 49 = .ok (.getfield 51, 3) := by decide +kernel
theorem dX9_lacks_52 : decode cX9_lacks 52 = .ok (.aload_n 0, 1) := by decide +kernel
theorem dX9_lacks_53 : decode cX9_lacks 53 = .ok (.getfield 44, 3) := by decide +kernel
theorem dX9_lacks_56 : decode cX9_lacks 56 = .ok (.iconst 0, 1) := by decide +kernel
theorem dX9_lacks_57 : decode cX9_lacks 57 = .ok (.iload_n 1, 1) := by decide +kernel
theorem dX9_lacks_58 : decode cX9_lacks 58 = .ok (.iadd, 1) := by decide +kernel
theorem dX9_lacks_59 : decode cX9_lacks 59 = .ok (.iaload, 1) := by decide +kernel
theorem dX9_lacks_60 : decode cX9_lacks 60 = .ok (.iaload, 1) := by decide +kernel
theorem dX9_lacks_61 : decode cX9_lacks 61 = .ok (.ireturn, 1) := by decide +kernel
theorem dX9_must_0 : decode cX9_must 0 = .ok (.aload_n 0, 1) := by decide +kernel
theorem dX9_must_1 : decode cX9_must 1 = .ok (.iload_n 1, 1) := by decide +kernel
theorem dX9_must_2 : decode cX9_must 2 = .ok (.invokevirtual 141, 3) := by decide +kernel
theorem dX9_must_5 : decode cX9_must 5 = .ok (.ifCond .eq 11, 3) := by decide +kernel
theorem dX9_must_8 : decode cX9_must 8 = .ok (.aload_n 0, 1) := by decide +kernel
theorem dX9_must_9 : decode cX9_must 9 = .ok (.iload_n 2, 1) := by decide +kernel
theorem dX9_must_10 : decode cX9_must 10 = .ok (.invokevirtual 168, 3) := by decide +kernel
theorem dX9_must_13 : decode cX9_must 13 = .ok (.ifCond .ne 5, 3) := by decide +kernel
theorem dX9_must_16 : decode cX9_must 16 = .ok (.iconst (-1), 1) := by decide +kernel
theorem dX9_must_17 : decode cX9_must 17 = .ok (.ireturn, 1) := by decide +kernel
theorem dX9_must_18 : decode cX9_must 18 = .ok (.iconst 0, 1) := by decide +kernel
theorem dX9_must_19 : decode cX9_must 19 = .ok (.istore_n 3, 1) := by decide +kernel
theorem dX9_must_20 : decode cX9_must 20 = .ok (.iconst 0, 1) := by decide +kernel
theorem dX9_must_21 : decode cX9_must 21 = .ok (.istore 4, 2) := by decide +kernel
theorem dX9_must_23 : decode cX9_must 23 = .ok (.iload 4, 2) := by decide +kernel
theorem dX9_must_25 : decode cX9_must 25 = .ok (.aload_n 0, 1) := by decide +kernel
theorem dX9_must_26 : decode cX9_must 26 = .ok (.getfield 17, 3) := by decide +kernel
theorem dX9_must_29 : decode cX9_must 29 = .ok (.iconst 0, 1) := by decide +kernel
theorem dX9_must_30 : decode cX9_must 30 = .ok (.iaload, 1) := by decide +kernel
theorem dX9_must_31 : decode cX9_must 31 = .ok (.if_icmp .ge 41, 3) := by decide +kernel
theorem dX9_must_34 : decode cX9_must 34 = .ok (.iload_n 3, 1) := by decide +kernel
theorem dX9_must_35 : decode cX9_must 35 = .ok (.aload_n 0, 1) := by decide +kernel
theorem dX9_must_36 : decode cX9_must 36 = .ok (.iload_n 1, 1) := by decide +kernel
theorem dX9_must_37 : decode cX9_must 37 = .ok (.iload_n 2, 1) := by decide +kernel
theorem dX9_must_38 : decode cX9_must 38 = .ok (.aload_n 0, 1) := by decide +kernel
theorem dX9_must_39 : decode cX9_must 39 = .ok (.getfield 44, 3) := by decide +kernel
theorem dX9_must_42 : decode cX9_must 42 = .ok (.bipush 15, 2) := by decide +kernel
theorem dX9_must_44 : decode cX9_must 44 = .ok (.iaload, 1) := by decide +kernel
theorem dX9_must_45 : decode cX9_must 45 = .ok (.iconst 1, 1) := by decide +kernel
theorem dX9_must_46 : decode cX9_must 46 = .ok (.iload 4, 2) := by decide +kernel
theorem dX9_must_48 : decode cX9_must 48 = .ok (.ishl, 1) := by decide +kernel
theorem dX9_must_49 : decode cX9_must 49 = .ok (.ior, 1) := by decide +kernel
theorem dX9_must_50 : decode cX9_must 50 = .ok (.invokevirtual 175, 3) := by decide +kernel
theorem dX9_must_53 : decode cX9_must 53 = .ok (.ifCond .ne 10, 3) := by decide +kernel
theorem dX9_must_56 : decode cX9_must 56 = .ok (.iconst 1, 1) := by decide +kernel
theorem dX9_must_57 : decode cX9_must 57 = .ok (.iload 4, 2) := by decide +kernel
theorem dX9_must_59 : decode cX9_must 59 = .ok (.ishl, 1) := by decide +kernel
theorem dX9_must_60 : decode cX9_must 60 = .ok (.goto 4, 3) := by decide +kernel
theorem dX9_must_63 : decode cX9_must 63 = .ok (.iconst 0, 1) := by decide +kernel
theorem dX9_must_64 : decode cX9_must 64 = .ok (.ior, 1) := by decide +kernel
theorem dX9_must_65 : decode cX9_must 65 = .ok (.istore_n 3, 1) := by decide +kernel
theorem dX9_must_66 : decode cX9_must 66 = .ok (.iinc 4 1, 3) := by decide +kernel
theorem dX9_must_69 : decode cX9_must 69 = .ok (.goto (-46), 3) := by decide +kernel
theorem dX9_must_72 : decode cX9_must 72 = .ok (.aload_n 0, 1) := by decide +kernel
theorem dX9_must_73 : decode cX9_must 73 = .ok (.iload_n 1, 1) := by decide +kernel
theorem dX9_must_74 : decode cX9_must 74 = .ok (.iload_n 2, 1) := by decide +kernel
theorem dX9_must_75 : decode cX9_must 75 = .ok (.aload_n 0, 1) := by decide +kernel
theorem dX9_must_76 : decode cX9_must 76 = .ok (.getfield 44, 3) := by decide +kernel
theorem dX9_must_79 : decode cX9_must 79 = .ok (.bipush 15, 2) := by decide +kernel
theorem dX9_must_81 : decode cX9_must 81 = .ok (.iaload, 1) := by decide +kernel
theorem dX9_must_82 : decode cX9_must 82 = .ok (.invokevirtual 175, 3) := by decide +kernel
theorem dX9_must_85 : decode cX9_must 85 = .ok (.ifCond .eq 7, 3) := by decide +kernel
theorem dX9_must_88 : decode cX9_must 88 = .ok (.iload_n 3, 1) := by decide +kernel
theorem dX9_must_89 : decode cX9_must 89 = .ok (.goto 4, 3) := by decide +kernel
theorem dX9_must_92 : decode cX9_must 92 = .ok (.iconst 0, 1) := by decide +kernel
theorem dX9_must_93 : decode cX9_must 93 = .ok (.ireturn, 1) := by decide +kernel
theorem dX9_odds_0 : decode cX9_odds 0 = .ok (.aload_n 0, 1) := by decide +kernel
theorem dX9_odds_1 : decode cX9_odds 1 = .ok (.iload_n 1, 1) := by decide +kernel
theorem dX9_odds_2 : decode cX9_odds 2 = .ok (.invokevirtual 141, 3) := by decide +kernel
theorem dX9_odds_5 : decode cX9_odds 5 = .ok (.ifCond .eq 31, 3) := by decide +kernel
theorem dX9_odds_8 : decode cX9_odds 8 = .ok (.aload_n 0, 1) := by decide +kernel
theorem dX9_odds_9 : decode cX9_odds 9 = .ok (.iload_n 2, 1) := by decide +kernel
theorem dX9_odds_10 : decode cX9_odds 10 = .ok (.invokevirtual 168, 3) := by decide +kernel
theorem dX9_odds_13 : decode cX9_odds 13 = .ok (.ifCond .eq 23, 3) := by decide +kernel
theorem dX9_odds_16 : decode cX9_odds 16 = .ok (.iload_n 3, 1) := by decide +kernel
theorem dX9_odds_17 : decode cX9_odds 17 = .ok (.iconst 0, 1) := by decide +kernel
theorem dX9_odds_18 : decode cX9_odds 18 = .ok (.bipush 10, 2) := by decide +kernel
theorem dX9_odds_20 : decode cX9_odds 20 = .ok (.invokestatic 72, 3) := by decide +kernel
theorem dX9_odds_23 : decode cX9_odds 23 = .ok (.ifCond .eq 13, 3) := by decide +kernel
theorem dX9_odds_26 : decode cX9_odds 26 = .ok (.iload 4, 2) := by decide +kernel
theorem dX9_odds_28 : decode cX9_odds 28 = .ok (.iconst 0, 1) := by decide +kernel
theorem dX9_odds_29 : decode cX9_odds 29 = .ok (.iconst 1, 1) := by decide +kernel
theorem dX9_odds_30 : decode cX9_odds 30 = .ok (.invokestatic 72, 3) := by decide +kernel
theorem dX9_odds_33 : decode cX9_odds 33 = .ok (.ifCond .ne 5, 3) := by decide +kernel
theorem dX9_odds_36 : decode cX9_odds 36 = .ok (.iconst (-1), 1) := by decide +kernel
theorem dX9_odds_37 : decode cX9_odds 37 = .ok (.ireturn, 1) := by decide +kernel
theorem dX9_odds_38 : decode cX9_odds 38 = .ok (.iconst 0, 1) := by decide +kernel
theorem dX9_odds_39 : decode cX9_odds 39 = .ok (.istore 5, 2) := by decide +kernel
theorem dX9_odds_41 : decode cX9_odds 41 = .ok (.iconst 1, 1) := by decide +kernel
theorem dX9_odds_42 : decode cX9_odds 42 = .ok (.istore 6, 2) := by decide +kernel
theorem dX9_odds_44 : decode cX9_odds 44 = .ok (.iconst 0, 1) := by decide +kernel
theorem dX9_odds_45 : decode cX9_odds 45 = .ok (.istore 7, 2) := by decide +kernel
theorem dX9_odds_47 : decode cX9_odds 47 = .ok (.iload 7, 2) := by decide +kernel
theorem dX9_odds_49 : decode cX9_odds 49 = .ok (.aload_n 0, 1) := by decide +kernel
theorem dX9_odds_50 : decode cX9_odds 50 = .ok (.getfield 17, 3) := by decide +kernel
theorem dX9_odds_53 : decode cX9_odds 53 = .ok (.iconst 0, 1) := by decide +kernel
theorem dX9_odds_54 : decode cX9_odds 54 = .ok (.iaload, 1) := by decide +kernel
theorem dX9_odds_55 : decode cX9_odds 55 = .ok (.if_icmp .ge 29, 3) := by decide +kernel
theorem dX9_odds_58 : decode cX9_odds 58 = .ok (.iload 6, 2) := by decide +kernel
theorem dX9_odds_60 : decode cX9_odds 60 = .ok (.aload_n 0, 1) := by decide +kernel
theorem dX9_odds_61 : decode cX9_odds 61 = .ok (.iload 7, 2) := by decide +kernel
theorem dX9_odds_63 : decode cX9_odds 63 = .ok (.invokevirtual 138, 3) := by decide +kernel
theorem dX9_odds_66 : decode cX9_odds 66 = .ok (.ifCond .eq 7, 3) := by decide +kernel
theorem dX9_odds_69 : decode cX9_odds 69 = .ok (.iconst 1, 1) := by decide +kernel
theorem dX9_odds_70 : decode cX9_odds 70 = .ok (.goto 5, 3) := by decide +kernel
theorem dX9_odds_73 : decode cX9_odds 73 = .ok (.bipush 10, 2) := by decide +kernel
theorem dX9_odds_75 : decode cX9_odds 75 = .ok (.imul, 1) := by decide +kernel
theorem dX9_odds_76 : decode cX9_odds 76 = .ok (.istore 6, 2) := by decide +kernel
theorem dX9_odds_78 : decode cX9_odds 78 = .ok (.iinc 7 1, 3) := by decide +kernel
theorem dX9_odds_81 : decode cX9_odds 81 = .ok (.goto (-34), 3) := by decide +kernel
theorem dX9_odds_84 : decode cX9_odds 84 = .ok (.iconst 0, 1) := by decide +kernel
theorem dX9_odds_85 : decode cX9_odds 85 = .ok (.istore 7, 2) := by decide +kernel
theorem dX9_odds_87 : decode cX9_odds 87 = .ok (.iload 7, 2) := by decide +kernel
theorem dX9_odds_89 : decode cX9_odds 89 = .ok (.iconst 1, 1) := by decide +kernel
theorem dX9_odds_90 : decode cX9_odds 90 = .ok (.aload_n 0, 1) := by decide +kernel
theorem dX9_odds_91 : decode cX9_odds 91 = .ok (.getfield 17, 3) := by decide +kernel
theorem dX9_odds_94 : decode cX9_odds 94 = .ok (.iconst 0, 1) := by decide +kernel
theorem dX9_odds_95 : decode cX9_odds 95 = .ok (.iaload, 1) := by decide +kernel
theorem dX9_odds_96 : decode cX9_odds 96 = .ok (.ishl, 1) := by decide +kernel
theorem dX9_odds_97 : decode cX9_odds 97 = .ok (.if_icmp .ge 121, 3) := by decide +kernel
theorem dX9_odds_100 : decode cX9_odds 100 = .ok (.iload 7, 2) := by decide +kernel
theorem dX9_odds_102 : decode cX9_odds 102 = .ok (.aload_n 0, 1) := by decide +kernel
theorem dX9_odds_103 : decode cX9_odds 103 = .ok (.getfield 44, 3) := by decide +kernel
theorem dX9_odds_106 : decode cX9_odds 106 = .ok (.bipush 15, 2) := by decide +kernel
theorem dX9_odds_108 : decode cX9_odds 108 = .ok (.iaload, 1) := by decide +kernel
theorem dX9_odds_109 : decode cX9_odds 109 = .ok (.iand, 1) := by decide +kernel
theorem dX9_odds_110 : decode cX9_odds 110 = .ok (.ifCond .ne 7, 3) := by decide +kernel
theorem dX9_odds_113 : decode cX9_odds 113 = .ok (.iconst 1, 1) := by decide +kernel
theorem dX9_odds_114 : decode cX9_odds 114 = .ok (.goto 4, 3) := by decide +kernel
theorem dX9_odds_117 : decode cX9_odds 117 = .ok (.iconst 0, 1) := by decide +kernel
theorem dX9_odds_118 : decode cX9_odds 118 = .ok (.istore 8, 2) := by decide +kernel
theorem dX9_odds_120 : decode cX9_odds 120 = .ok (.iconst 0, 1) := by decide +kernel
theorem dX9_odds_121 : decode cX9_odds 121 = .ok (.istore 9, 2) := by decide +kernel
theorem dX9_odds_123 : decode cX9_odds 123 = .ok (.iload 9, 2) := by decide +kernel
theorem dX9_odds_125 : decode cX9_odds 125 = .ok (.aload_n 0, 1) := by decide +kernel
theorem dX9_odds_126 : decode cX9_odds 126 = .ok (.getfield 17, 3) := by decide +kernel
theorem dX9_odds_129 : decode cX9_odds 129 = .ok (.iconst 0, 1) := by decide +kernel
theorem dX9_odds_130 : decode cX9_odds 130 = .ok (.iaload, 1) := by decide +kernel
theorem dX9_odds_131 : decode cX9_odds 131 = .ok (.if_icmp .ge 46, 3) := by decide +kernel
theorem dX9_odds_134 : decode cX9_odds 134 = .ok (.iload 8, 2) := by decide +kernel
theorem dX9_odds_136 : decode cX9_odds 136 = .ok (.aload_n 0, 1) := by decide +kernel
theorem dX9_odds_137 : decode cX9_odds 137 = .ok (.iload 9, 2) := by decide +kernel
theorem dX9_odds_139 : decode cX9_odds 139 = .ok (.invokevirtual 138, 3) := by decide +kernel
theorem dX9_odds_142 : decode cX9_odds 142 = .ok (.ifCond .eq 7, 3) := by decide +kernel
theorem dX9_odds_145 : decode cX9_odds 145 = .ok (.iconst 1, 1) := by decide +kernel
theorem dX9_odds_146 : decode cX9_odds 146 = .ok (.goto 22, 3) := by decide +kernel
theorem dX9_odds_149 : decode cX9_odds 149 = .ok (.iload 7, 2) := by decide +kernel
theorem dX9_odds_151 : decode cX9_odds 151 = .ok (.iload 9, 2) := by decide +kernel
theorem dX9_odds_153 : decode cX9_odds 153 = .ok (.ishr, 1) := by decide +kernel
theorem dX9_odds_154 : decode cX9_odds 154 = .ok (.iconst 1, 1) := by decide +kernel
theorem dX9_odds_155 : decode cX9_odds 155 = .ok (.iand, 1) := by decide +kernel
theorem dX9_odds_156 : decode cX9_odds 156 = .ok (.iconst 1, 1) := by decide +kernel
theorem dX9_odds_157 : decode cX9_odds 157 = .ok (.if_icmp .ne 7, 3) := by decide +kernel
theorem dX9_odds_160 : decode cX9_odds 160 = .ok (.iload_n 3, 1) := by decide +kernel
theorem dX9_odds_161 : decode cX9_odds 161 = .ok (.goto 7, 3) := by decide +kernel
theorem dX9_odds_164 : decode cX9_odds 164 = .ok (.bipush 10, 2) := by decide +kernel
theorem dX9_odds_166 : decode cX9_odds 166 = .ok (.iload_n 3, 1) := by decide +kernel
theorem dX9_odds_167 : decode cX9_odds 167 = .ok (.isub, 1) := by decide +kernel
theorem dX9_odds_168 : decode cX9_odds 168 = .ok (.imul, 1) := by decide +kernel
theorem dX9_odds_169 : decode cX9_odds 169 = .ok (.istore 8, 2) := by decide +kernel
theorem dX9_odds_171 : decode cX9_odds 171 = .ok (.iinc 9 1, 3) := by decide +kernel
theorem dX9_odds_174 : decode cX9_odds 174 = .ok (.goto (-51), 3) := by decide +kernel
theorem dX9_odds_177 : decode cX9_odds 177 = .ok (.iload 5, 2) := by decide +kernel
theorem dX9_odds_179 : decode cX9_odds 179 = .ok (.iload 8, 2) := by decide +kernel
theorem dX9_odds_181 : decode cX9_odds 181 = .ok (.ifCond .le 27, 3) := by decide +kernel
theorem dX9_odds_184 : decode cX9_odds 184 = .ok (.aload_n 0, 1) := by decide +kernel
theorem dX9_odds_185 : decode cX9_odds 185 = .ok (.iload_n 1, 1) := by decide +kernel
theorem dX9_odds_186 : decode cX9_odds 186 = .ok (.iload_n 2, 1) := by decide +kernel
theorem dX9_odds_187 : decode cX9_odds 187 = .ok (.aload_n 0, 1) := by decide +kernel
theorem dX9_odds_188 : decode cX9_odds 188 = .ok (.getfield 44, 3) := by decide +kernel
theorem dX9_odds_191 : decode cX9_odds 191 = .ok (.bipush 15, 2) := by decide +kernel
theorem dX9_odds_193 : decode cX9_odds 193 = .ok (.iaload, 1) := by decide +kernel
theorem dX9_odds_194 : decode cX9_odds 194 = .ok (.iload 7, 2) := by decide +kernel
theorem dX9_odds_196 : decode cX9_odds 196 = .ok (.ior, 1) := by decide +kernel
theorem dX9_odds_197 : decode cX9_odds 197 = .ok (.invokevirtual 175, 3) := by decide +kernel
theorem dX9_odds_200 : decode cX9_odds 200 = .ok (.ifCond .eq 8, 3) := by decide +kernel
theorem dX9_odds_203 : decode cX9_odds 203 = .ok (.iload 8, 2) := by decide +kernel
theorem dX9_odds_205 : decode cX9_odds 205 = .ok (.goto 4, 3) := by decide +kernel
theorem dX9_odds_208 : decode cX9_odds 208 = .ok (.iconst 0, 1) := by decide +kernel
theorem dX9_odds_209 : decode cX9_odds 209 = .ok (.iadd, 1) := by decide +kernel
theorem dX9_odds_210 : decode cX9_odds 210 = .ok (.istore 5, 2) := by decide +kernel
theorem dX9_odds_212 : decode cX9_odds 212 = .ok (.iinc 7 1, 3) := by decide +kernel
theorem dX9_odds_215 : decode cX9_odds 215 = .ok (.goto (-128), 3) := by decide +kernel
theorem dX9_odds_218 : decode cX9_odds 218 = .ok (.iload 5, 2) := by decide +kernel
theorem dX9_odds_220 : decode cX9_odds 220 = .ok (.istore 7, 2) := by decide +kernel
theorem dX9_odds_222 : decode cX9_odds 222 = .ok (.iload 6, 2) := by decide +kernel
theorem dX9_odds_224 : decode cX9_odds 224 = .ok (.istore 8, 2) := by decide +kernel
theorem dX9_odds_226 : decode cX9_odds 226 = .ok (.iload 8, 2) := by decide +kernel
theorem dX9_odds_228 : decode cX9_odds 228 = .ok (.ifCond .eq 21, 3) := by decide +kernel
theorem dX9_odds_231 : decode cX9_odds 231 = .ok (.iload 7, 2) := by decide +kernel
theorem dX9_odds_233 : decode cX9_odds 233 = .ok (.iload 8, 2) := by decide +kernel
theorem dX9_odds_235 : decode cX9_odds 235 = .ok (.irem, 1) := by decide +kernel
theorem dX9_odds_236 : decode cX9_odds 236 = .ok (.istore 9, 2) := by decide +kernel
theorem dX9_odds_238 : decode cX9_odds 238 = .ok (.iload 8, 2) := by decide +kernel
theorem dX9_odds_240 : decode cX9_odds 240 = .ok (.istore 7, 2) := by decide +kernel
theorem dX9_odds_242 : decode cX9_odds 242 = .ok (.iload 9, 2) := by decide +kernel
theorem dX9_odds_244 : decode cX9_odds 244 = .ok (.istore 8, 2) := by decide +kernel
theorem dX9_odds_246 : decode cX9_odds 246 = .ok (.goto (-20), 3) := by decide +kernel
theorem dX9_odds_249 : decode cX9_odds 249 = .ok (.iload 4, 2) := by decide +kernel
theorem dX9_odds_251 : decode cX9_odds 251 = .ok (.ifCond .ne 11, 3) := by decide +kernel
theorem dX9_odds_254 : decode cX9_odds 254 = .ok (.iload 5, 2) := by decide +kernel
theorem dX9_odds_256 : decode cX9_odds 256 = .ok (.iload 7, 2) := by decide +kernel
theorem dX9_odds_258 : decode cX9_odds 258 = .ok (.idiv, 1) := by decide +kernel
theorem dX9_odds_259 : decode cX9_odds 259 = .ok (.goto 8, 3) := by decide +kernel
theorem dX9_odds_262 : decode cX9_odds 262 = .ok (.iload 6, 2) := by decide +kernel
theorem dX9_odds_264 : decode cX9_odds 264 = .ok (.iload 7, 2) := by decide +kernel
theorem dX9_odds_266 : decode cX9_odds 266 = .ok (.idiv, 1) := by decide +kernel
theorem dX9_odds_267 : decode cX9_odds 267 = .ok (.ireturn, 1) := by decide +kernel
theorem dX9_meeting_0 : decode cX9_meeting 0 = .ok (.aload_n 0, 1) := by decide +kernel
theorem dX9_meeting_1 : decode cX9_meeting 1 = .ok (.iload_n 1, 1) := by decide +kernel
theorem dX9_meeting_2 : decode cX9_meeting 2 = .ok (.invokevirtual 141, 3) := by decide +kernel
theorem dX9_meeting_5 : decode cX9_meeting 5 = .ok (.ifCond .eq 34, 3) := by decide +kernel
theorem dX9_meeting_8 : decode cX9_meeting 8 = .ok (.aload_n 0, 1) := by decide +kernel
theorem dX9_meeting_9 : decode cX9_meeting 9 = .ok (.iload_n 2, 1) := by decide +kernel
theorem dX9_meeting_10 : decode cX9_meeting 10 = .ok (.invokevirtual 141, 3) := by decide +kernel
theorem dX9_meeting_13 : decode cX9_meeting 13 = .ok (.ifCond .eq 26, 3) := by decide +kernel
theorem dX9_meeting_16 : decode cX9_meeting 16 = .ok (.iload_n 1, 1) := by decide +kernel
theorem dX9_meeting_17 : decode cX9_meeting 17 = .ok (.iload_n 2, 1) := by decide +kernel
theorem dX9_meeting_18 : decode cX9_meeting 18 = .ok (.if_icmp .eq 21, 3) := by decide +kernel
theorem dX9_meeting_21 : decode cX9_meeting 21 = .ok (.aload_n 0, 1) := by decide +kernel
theorem dX9_meeting_22 : decode cX9_meeting 22 = .ok (.iload_n 3, 1) := by decide +kernel
theorem dX9_meeting_23 : decode cX9_meeting 23 = .ok (.invokevirtual 134, 3) := by decide +kernel
theorem dX9_meeting_26 : decode cX9_meeting 26 = .ok (.ifCond .eq 13, 3) := by decide +kernel
