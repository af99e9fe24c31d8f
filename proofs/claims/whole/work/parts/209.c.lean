theorem d12_tellsAll_0 : zd cX12_tellsAll 0 (.aload_n 0) 1 1 := by decide +kernel
theorem d12_tellsAll_1 : zd cX12_tellsAll 1 (.aload_n 0) 1 2 := by decide +kernel
theorem d12_tellsAll_2 : zd cX12_tellsAll 2 (.getfield 62) 3 5 := by decide +kernel
theorem d12_tellsAll_5 : zd cX12_tellsAll 5 (.putfield 13) 3 8 := by decide +kernel
theorem d12_tellsAll_8 : zd cX12_tellsAll 8 (.aload_n 0) 1 9 := by decide +kernel
theorem d12_tellsAll_9 : zd cX12_tellsAll 9 (.aload_n 0) 1 10 := by decide +kernel
theorem d12_tellsAll_10 : zd cX12_tellsAll 10 (.getfield 65) 3 13 := by decide +kernel
theorem d12_tellsAll_13 : zd cX12_tellsAll 13 (.putfield 16) 3 16 := by decide +kernel
theorem d12_tellsAll_16 : zd cX12_tellsAll 16 (.aload_n 0) 1 17 := by decide +kernel
theorem d12_tellsAll_17 : zd cX12_tellsAll 17 (.aload_n 0) 1 18 := by decide +kernel
theorem d12_tellsAll_18 : zd cX12_tellsAll 18 (.getfield 68) 3 21 := by decide +kernel
theorem d12_tellsAll_21 : zd cX12_tellsAll 21 (.putfield 19) 3 24 := by decide +kernel
theorem d12_tellsAll_24 : zd cX12_tellsAll 24 (.aload_n 0) 1 25 := by decide +kernel
theorem d12_tellsAll_25 : zd cX12_tellsAll 25 (.aload_n 0) 1 26 := by decide +kernel
theorem d12_tellsAll_26 : zd cX12_tellsAll 26 (.getfield 71) 3 29 := by decide +kernel
theorem d12_tellsAll_29 : zd cX12_tellsAll 29 (.putfield 22) 3 32 := by decide +kernel
theorem d12_tellsAll_32 : zd cX12_tellsAll 32 (.aload_n 0) 1 33 := by decide +kernel
theorem d12_tellsAll_33 : zd cX12_tellsAll 33 (.aload_n 0) 1 34 := by decide +kernel
theorem d12_tellsAll_34 : zd cX12_tellsAll 34 (.getfield 74) 3 37 := by decide +kernel
theorem d12_tellsAll_37 : zd cX12_tellsAll 37 (.putfield 25) 3 40 := by decide +kernel
theorem d12_tellsAll_40 : zd cX12_tellsAll 40 (.iconst 0) 1 41 := by decide +kernel
theorem d12_tellsAll_41 : zd cX12_tellsAll 41 (.istore_n 1) 1 42 := by decide +kernel
theorem d12_tellsAll_42 : zd cX12_tellsAll 42 (.iload_n 1) 1 43 := by decide +kernel
theorem d12_tellsAll_43 : zd cX12_tellsAll 43 (.aload_n 0) 1 44 := by decide +kernel
theorem d12_tellsAll_44 : zd cX12_tellsAll 44 (.getfield 13) 3 47 := by decide +kernel
theorem d12_tellsAll_47 : zj cX12_tellsAll 47 (.if_icmp .ge 45) 45 50 92 := by decide +kernel
theorem d12_tellsAll_50 : zd cX12_tellsAll 50 (.aload_n 0) 1 51 := by decide +kernel
theorem d12_tellsAll_51 : zd cX12_tellsAll 51 (.getfield 28) 3 54 := by decide +kernel
theorem d12_tellsAll_54 : zd cX12_tellsAll 54 (.iload_n 1) 1 55 := by decide +kernel
theorem d12_tellsAll_55 : zd cX12_tellsAll 55 (.aload_n 0) 1 56 := by decide +kernel
theorem d12_tellsAll_56 : zd cX12_tellsAll 56 (.getfield 77) 3 59 := by decide +kernel
theorem d12_tellsAll_59 : zd cX12_tellsAll 59 (.iload_n 1) 1 60 := by decide +kernel
theorem d12_tellsAll_60 : zd cX12_tellsAll 60 (.iaload) 1 61 := by decide +kernel
theorem d12_tellsAll_61 : zd cX12_tellsAll 61 (.iastore) 1 62 := by decide +kernel
theorem d12_tellsAll_62 : zd cX12_tellsAll 62 (.aload_n 0) 1 63 := by decide +kernel
theorem d12_tellsAll_63 : zd cX12_tellsAll 63 (.getfield 32) 3 66 := by decide +kernel
theorem d12_tellsAll_66 : zd cX12_tellsAll 66 (.iload_n 1) 1 67 := by decide +kernel
theorem d12_tellsAll_67 : zd cX12_tellsAll 67 (.aload_n 0) 1 68 := by decide +kernel
theorem d12_tellsAll_68 : zd cX12_tellsAll 68 (.getfield 80) 3 71 := by decide +kernel
theorem d12_tellsAll_71 : zd cX12_tellsAll 71 (.iload_n 1) 1 72 := by decide +kernel
theorem d12_tellsAll_72 : zd cX12_tellsAll 72 (.iaload) 1 73 := by decide +kernel
theorem d12_tellsAll_73 : zd cX12_tellsAll 73 (.iastore) 1 74 := by decide +kernel
theorem d12_tellsAll_74 : zd cX12_tellsAll 74 (.aload_n 0) 1 75 := by decide +kernel
theorem d12_tellsAll_75 : zd cX12_tellsAll 75 (.getfield 35) 3 78 := by decide +kernel
theorem d12_tellsAll_78 : zd cX12_tellsAll 78 (.iload_n 1) 1 79 := by decide +kernel
theorem d12_tellsAll_79 : zd cX12_tellsAll 79 (.aload_n 0) 1 80 := by decide +kernel
theorem d12_tellsAll_80 : zd cX12_tellsAll 80 (.getfield 83) 3 83 := by decide +kernel
theorem d12_tellsAll_83 : zd cX12_tellsAll 83 (.iload_n 1) 1 84 := by decide +kernel
theorem d12_tellsAll_84 : zd cX12_tellsAll 84 (.iaload) 1 85 := by decide +kernel
theorem d12_tellsAll_85 : zd cX12_tellsAll 85 (.iastore) 1 86 := by decide +kernel
theorem d12_tellsAll_86 : zd cX12_tellsAll 86 (.iinc 1 1) 3 89 := by decide +kernel
theorem d12_tellsAll_89 : zj cX12_tellsAll 89 (.goto (-47)) (-47) 92 42 := by decide +kernel
theorem d12_tellsAll_92 : zd cX12_tellsAll 92 (.iconst 0) 1 93 := by decide +kernel
theorem d12_tellsAll_93 : zd cX12_tellsAll 93 (.istore_n 1) 1 94 := by decide +kernel
theorem d12_tellsAll_94 : zd cX12_tellsAll 94 (.iload_n 1) 1 95 := by decide +kernel
theorem d12_tellsAll_95 : zd cX12_tellsAll 95 (.aload_n 0) 1 96 := by decide +kernel
theorem d12_tellsAll_96 : zd cX12_tellsAll 96 (.getfield 16) 3 99 := by decide +kernel
theorem d12_tellsAll_99 : zj cX12_tellsAll 99 (.if_icmp .ge 163) 163 102 262 := by decide +kernel
theorem d12_tellsAll_102 : zd cX12_tellsAll 102 (.aload_n 0) 1 103 := by decide +kernel
theorem d12_tellsAll_103 : zd cX12_tellsAll 103 (.getfield 44) 3 106 := by decide +kernel
theorem d12_tellsAll_106 : zd cX12_tellsAll 106 (.iload_n 1) 1 107 := by decide +kernel
theorem d12_tellsAll_107 : zd cX12_tellsAll 107 (.aload_n 0) 1 108 := by decide +kernel
theorem d12_tellsAll_108 : zd cX12_tellsAll 108 (.getfield 92) 3 111 := by decide +kernel
theorem d12_tellsAll_111 : zd cX12_tellsAll 111 (.iload_n 1) 1 112 := by decide +kernel
theorem d12_tellsAll_112 : zd cX12_tellsAll 112 (.iaload) 1 113 := by decide +kernel
theorem d12_tellsAll_113 : zd cX12_tellsAll 113 (.iastore) 1 114 := by decide +kernel
theorem d12_tellsAll_114 : zd cX12_tellsAll 114 (.aload_n 0) 1 115 := by decide +kernel
theorem d12_tellsAll_115 : zd cX12_tellsAll 115 (.getfield 47) 3 118 := by decide +kernel
theorem d12_tellsAll_118 : zd cX12_tellsAll 118 (.iload_n 1) 1 119 := by decide +kernel
theorem d12_tellsAll_119 : zd cX12_tellsAll 119 (.aload_n 0) 1 120 := by decide +kernel
theorem d12_tellsAll_120 : zd cX12_tellsAll 120 (.getfield 95) 3 123 := by decide +kernel
theorem d12_tellsAll_123 : zd cX12_tellsAll 123 (.iload_n 1) 1 124 := by decide +kernel
theorem d12_tellsAll_124 : zd cX12_tellsAll 124 (.iaload) 1 125 := by decide +kernel
theorem d12_tellsAll_125 : zd cX12_tellsAll 125 (.iastore) 1 126 := by decide +kernel
theorem d12_tellsAll_126 : zd cX12_tellsAll 126 (.iconst 0) 1 127 := by decide +kernel
theorem d12_tellsAll_127 : zd cX12_tellsAll 127 (.istore_n 2) 1 128 := by decide +kernel
theorem d12_tellsAll_128 : zd cX12_tellsAll 128 (.iload_n 2) 1 129 := by decide +kernel
theorem d12_tellsAll_129 : zd cX12_tellsAll 129 (.iconst 2) 1 130 := by decide +kernel
theorem d12_tellsAll_130 : zj cX12_tellsAll 130 (.if_icmp .ge 126) 126 133 256 := by decide +kernel
theorem d12_tellsAll_133 : zd cX12_tellsAll 133 (.aload_n 0) 1 134 := by decide +kernel
theorem d12_tellsAll_134 : zd cX12_tellsAll 134 (.getfield 38) 3 137 := by decide +kernel
theorem d12_tellsAll_137 : zd cX12_tellsAll 137 (.iconst 4) 1 138 := by decide +kernel
theorem d12_tellsAll_138 : zd cX12_tellsAll 138 (.iload_n 1) 1 139 := by decide +kernel
theorem d12_tellsAll_139 : zd cX12_tellsAll 139 (.imul) 1 140 := by decide +kernel
theorem d12_tellsAll_140 : zd cX12_tellsAll 140 (.iconst 2) 1 141 := by decide +kernel
theorem d12_tellsAll_141 : zd cX12_tellsAll 141 (.iload_n 2) 1 142 := by decide +kernel
theorem d12_tellsAll_142 : zd cX12_tellsAll 142 (.imul) 1 143 := by decide +kernel
theorem d12_tellsAll_143 : zd cX12_tellsAll 143 (.iadd) 1 144 := by decide +kernel
theorem d12_tellsAll_144 : zd cX12_tellsAll 144 (.aload_n 0) 1 145 := by decide +kernel
theorem d12_tellsAll_145 : zd cX12_tellsAll 145 (.getfield 86) 3 148 := by decide +kernel
theorem d12_tellsAll_148 : zd cX12_tellsAll 148 (.iconst 4) 1 149 := by decide +kernel
theorem d12_tellsAll_149 : zd cX12_tellsAll 149 (.iload_n 1) 1 150 := by decide +kernel
theorem d12_tellsAll_150 : zd cX12_tellsAll 150 (.imul) 1 151 := by decide +kernel
theorem d12_tellsAll_151 : zd cX12_tellsAll 151 (.iconst 2) 1 152 := by decide +kernel
theorem d12_tellsAll_152 : zd cX12_tellsAll 152 (.iload_n 2) 1 153 := by decide +kernel
theorem d12_tellsAll_153 : zd cX12_tellsAll 153 (.imul) 1 154 := by decide +kernel
theorem d12_tellsAll_154 : zd cX12_tellsAll 154 (.iadd) 1 155 := by decide +kernel
theorem d12_tellsAll_155 : zd cX12_tellsAll 155 (.iaload) 1 156 := by decide +kernel
theorem d12_tellsAll_156 : zd cX12_tellsAll 156 (.iastore) 1 157 := by decide +kernel
theorem d12_tellsAll_157 : zd cX12_tellsAll 157 (.aload_n 0) 1 158 := by decide +kernel
theorem d12_tellsAll_158 : zd cX12_tellsAll 158 (.getfield 38) 3 161 := by decide +kernel
theorem d12_tellsAll_161 : zd cX12_tellsAll 161 (.iconst 4) 1 162 := by decide +kernel
theorem d12_tellsAll_162 : zd cX12_tellsAll 162 (.iload_n 1) 1 163 := by decide +kernel
theorem d12_tellsAll_163 : zd cX12_tellsAll 163 (.imul) 1 164 := by decide +kernel
theorem d12_tellsAll_164 : zd cX12_tellsAll 164 (.iconst 2) 1 165 := by decide +kernel
theorem d12_tellsAll_165 : zd cX12_tellsAll 165 (.iload_n 2) 1 166 := by decide +kernel
theorem d12_tellsAll_166 : zd cX12_tellsAll 166 (.imul) 1 167 := by decide +kernel
theorem d12_tellsAll_167 : zd cX12_tellsAll 167 (.iadd) 1 168 := by decide +kernel
theorem d12_tellsAll_168 : zd cX12_tellsAll 168 (.iconst 1) 1 169 := by decide +kernel
theorem d12_tellsAll_169 : zd cX12_tellsAll 169 (.iadd) 1 170 := by decide +kernel
theorem d12_tellsAll_170 : zd cX12_tellsAll 170 (.aload_n 0) 1 171 := by decide +kernel
theorem d12_tellsAll_171 : zd cX12_tellsAll 171 (.getfield 86) 3 174 := by decide +kernel
theorem d12_tellsAll_174 : zd cX12_tellsAll 174 (.iconst 4) 1 175 := by decide +kernel
theorem d12_tellsAll_175 : zd cX12_tellsAll 175 (.iload_n 1) 1 176 := by decide +kernel
theorem d12_tellsAll_176 : zd cX12_tellsAll 176 (.imul) 1 177 := by decide +kernel
theorem d12_tellsAll_177 : zd cX12_tellsAll 177 (.iconst 2) 1 178 := by decide +kernel
theorem d12_tellsAll_178 : zd cX12_tellsAll 178 (.iload_n 2) 1 179 := by decide +kernel
theorem d12_tellsAll_179 : zd cX12_tellsAll 179 (.imul) 1 180 := by decide +kernel
theorem d12_tellsAll_180 : zd cX12_tellsAll 180 (.iadd) 1 181 := by decide +kernel
theorem d12_tellsAll_181 : zd cX12_tellsAll 181 (.iconst 1) 1 182 := by decide +kernel
theorem d12_tellsAll_182 : zd cX12_tellsAll 182 (.iadd) 1 183 := by decide +kernel
theorem d12_tellsAll_183 : zd cX12_tellsAll 183 (.iaload) 1 184 := by decide +kernel
theorem d12_tellsAll_184 : zd cX12_tellsAll 184 (.iastore) 1 185 := by decide +kernel
theorem d12_tellsAll_185 : zd cX12_tellsAll 185 (.aload_n 0) 1 186 := by decide +kernel
theorem d12_tellsAll_186 : zd cX12_tellsAll 186 (.getfield 41) 3 189 := by decide +kernel
theorem d12_tellsAll_189 : zd cX12_tellsAll 189 (.iconst 2) 1 190 := by decide +kernel
theorem d12_tellsAll_190 : zd cX12_tellsAll 190 (.iload_n 1) 1 191 := by decide +kernel
theorem d12_tellsAll_191 : zd cX12_tellsAll 191 (.imul) 1 192 := by decide +kernel
theorem d12_tellsAll_192 : zd cX12_tellsAll 192 (.iload_n 2) 1 193 := by decide +kernel
theorem d12_tellsAll_193 : zd cX12_tellsAll 193 (.iadd) 1 194 := by decide +kernel
theorem d12_tellsAll_194 : zd cX12_tellsAll 194 (.aload_n 0) 1 195 := by decide +kernel
theorem d12_tellsAll_195 : zd cX12_tellsAll 195 (.getfield 89) 3 198 := by decide +kernel
theorem d12_tellsAll_198 : zd cX12_tellsAll 198 (.iconst 2) 1 199 := by decide +kernel
theorem d12_tellsAll_199 : zd cX12_tellsAll 199 (.iload_n 1) 1 200 := by decide +kernel
theorem d12_tellsAll_200 : zd cX12_tellsAll 200 (.imul) 1 201 := by decide +kernel
theorem d12_tellsAll_201 : zd cX12_tellsAll 201 (.iload_n 2) 1 202 := by decide +kernel
theorem d12_tellsAll_202 : zd cX12_tellsAll 202 (.iadd) 1 203 := by decide +kernel
theorem d12_tellsAll_203 : zd cX12_tellsAll 203 (.iaload) 1 204 := by decide +kernel
theorem d12_tellsAll_204 : zd cX12_tellsAll 204 (.iastore) 1 205 := by decide +kernel
theorem d12_tellsAll_205 : zd cX12_tellsAll 205 (.bipush 6) 2 207 := by decide +kernel
theorem d12_tellsAll_207 : zd cX12_tellsAll 207 (.aload_n 0) 1 208 := by decide +kernel
theorem d12_tellsAll_208 : zd cX12_tellsAll 208 (.getfield 38) 3 211 := by decide +kernel
theorem d12_tellsAll_211 : zd cX12_tellsAll 211 (.iconst 4) 1 212 := by decide +kernel
theorem d12_tellsAll_212 : zd cX12_tellsAll 212 (.iload_n 1) 1 213 := by decide +kernel
theorem d12_tellsAll_213 : zd cX12_tellsAll 213 (.imul) 1 214 := by decide +kernel
theorem d12_tellsAll_214 : zd cX12_tellsAll 214 (.iconst 2) 1 215 := by decide +kernel
theorem d12_tellsAll_215 : zd cX12_tellsAll 215 (.iload_n 2) 1 216 := by decide +kernel
theorem d12_tellsAll_216 : zd cX12_tellsAll 216 (.imul) 1 217 := by decide +kernel
theorem d12_tellsAll_217 : zd cX12_tellsAll 217 (.iadd) 1 218 := by decide +kernel
theorem d12_tellsAll_218 : zd cX12_tellsAll 218 (.iaload) 1 219 := by decide +kernel
theorem d12_tellsAll_219 : zd cX12_tellsAll 219 (.imul) 1 220 := by decide +kernel
theorem d12_tellsAll_220 : zd cX12_tellsAll 220 (.aload_n 0) 1 221 := by decide +kernel
theorem d12_tellsAll_221 : zd cX12_tellsAll 221 (.getfield 38) 3 224 := by decide +kernel
theorem d12_tellsAll_224 : zd cX12_tellsAll 224 (.iconst 4) 1 225 := by decide +kernel
theorem d12_tellsAll_225 : zd cX12_tellsAll 225 (.iload_n 1) 1 226 := by decide +kernel
theorem d12_tellsAll_226 : zd cX12_tellsAll 226 (.imul) 1 227 := by decide +kernel
theorem d12_tellsAll_227 : zd cX12_tellsAll 227 (.iconst 2) 1 228 := by decide +kernel
theorem d12_tellsAll_228 : zd cX12_tellsAll 228 (.iload_n 2) 1 229 := by decide +kernel
theorem d12_tellsAll_229 : zd cX12_tellsAll 229 (.imul) 1 230 := by decide +kernel
theorem d12_tellsAll_230 : zd cX12_tellsAll 230 (.iadd) 1 231 := by decide +kernel
theorem d12_tellsAll_231 : zd cX12_tellsAll 231 (.iconst 1) 1 232 := by decide +kernel
theorem d12_tellsAll_232 : zd cX12_tellsAll 232 (.iadd) 1 233 := by decide +kernel
theorem d12_tellsAll_233 : zd cX12_tellsAll 233 (.iaload) 1 234 := by decide +kernel
theorem d12_tellsAll_234 : zd cX12_tellsAll 234 (.iadd) 1 235 := by decide +kernel
theorem d12_tellsAll_235 : zd cX12_tellsAll 235 (.istore_n 3) 1 236 := by decide +kernel
theorem d12_tellsAll_236 : zd cX12_tellsAll 236 (.aload_n 0) 1 237 := by decide +kernel
theorem d12_tellsAll_237 : zd cX12_tellsAll 237 (.getfield 56) 3 240 := by decide +kernel
theorem d12_tellsAll_240 : zd cX12_tellsAll 240 (.iload_n 3) 1 241 := by decide +kernel
theorem d12_tellsAll_241 : zd cX12_tellsAll 241 (.iload_n 1) 1 242 := by decide +kernel
theorem d12_tellsAll_242 : zd cX12_tellsAll 242 (.iastore) 1 243 := by decide +kernel
theorem d12_tellsAll_243 : zd cX12_tellsAll 243 (.aload_n 0) 1 244 := by decide +kernel
theorem d12_tellsAll_244 : zd cX12_tellsAll 244 (.getfield 59) 3 247 := by decide +kernel
theorem d12_tellsAll_247 : zd cX12_tellsAll 247 (.iload_n 3) 1 248 := by decide +kernel
theorem d12_tellsAll_248 : zd cX12_tellsAll 248 (.iload_n 2) 1 249 := by decide +kernel
theorem d12_tellsAll_249 : zd cX12_tellsAll 249 (.iastore) 1 250 := by decide +kernel
theorem d12_tellsAll_250 : zd cX12_tellsAll 250 (.iinc 2 1) 3 253 := by decide +kernel
theorem d12_tellsAll_253 : zj cX12_tellsAll 253 (.goto (-125)) (-125) 256 128 := by decide +kernel
theorem d12_tellsAll_256 : zd cX12_tellsAll 256 (.iinc 1 1) 3 259 := by decide +kernel
theorem d12_tellsAll_259 : zj cX12_tellsAll 259 (.goto (-165)) (-165) 262 94 := by decide +kernel
theorem d12_tellsAll_262 : zd cX12_tellsAll 262 (.iconst 0) 1 263 := by decide +kernel
theorem d12_tellsAll_263 : zd cX12_tellsAll 263 (.istore_n 1) 1 264 := by decide +kernel
theorem d12_tellsAll_264 : zd cX12_tellsAll 264 (.iload_n 1) 1 265 := by decide +kernel
theorem d12_tellsAll_265 : zd cX12_tellsAll 265 (.aload_n 0) 1 266 := by decide +kernel
theorem d12_tellsAll_266 : zd cX12_tellsAll 266 (.getfield 19) 3 269 := by decide +kernel
theorem d12_tellsAll_269 : zj cX12_tellsAll 269 (.if_icmp .ge 21) 21 272 290 := by decide +kernel
theorem d12_tellsAll_272 : zd cX12_tellsAll 272 (.aload_n 0) 1 273 := by decide +kernel
theorem d12_tellsAll_273 : zd cX12_tellsAll 273 (.getfield 50) 3 276 := by decide +kernel
theorem d12_tellsAll_276 : zd cX12_tellsAll 276 (.iload_n 1) 1 277 := by decide +kernel
theorem d12_tellsAll_277 : zd cX12_tellsAll 277 (.aload_n 0) 1 278 := by decide +kernel
theorem d12_tellsAll_278 : zd cX12_tellsAll 278 (.getfield 98) 3 281 := by decide +kernel
theorem d12_tellsAll_281 : zd cX12_tellsAll 281 (.iload_n 1) 1 282 := by decide +kernel
theorem d12_tellsAll_282 : zd cX12_tellsAll 282 (.iaload) 1 283 := by decide +kernel
theorem d12_tellsAll_283 : zd cX12_tellsAll 283 (.iastore) 1 284 := by decide +kernel
theorem d12_tellsAll_284 : zd cX12_tellsAll 284 (.iinc 1 1) 3 287 := by decide +kernel
theorem d12_tellsAll_287 : zj cX12_tellsAll 287 (.goto (-23)) (-23) 290 264 := by decide +kernel
theorem d12_tellsAll_290 : zd cX12_tellsAll 290 (.iconst 0) 1 291 := by decide +kernel
theorem d12_tellsAll_291 : zd cX12_tellsAll 291 (.istore_n 1) 1 292 := by decide +kernel
theorem d12_tellsAll_292 : zd cX12_tellsAll 292 (.iload_n 1) 1 293 := by decide +kernel
theorem d12_tellsAll_293 : zd cX12_tellsAll 293 (.bipush 96) 2 295 := by decide +kernel
theorem d12_tellsAll_295 : zj cX12_tellsAll 295 (.if_icmp .ge 21) 21 298 316 := by decide +kernel
theorem d12_tellsAll_298 : zd cX12_tellsAll 298 (.aload_n 0) 1 299 := by decide +kernel
theorem d12_tellsAll_299 : zd cX12_tellsAll 299 (.getfield 53) 3 302 := by decide +kernel
theorem d12_tellsAll_302 : zd cX12_tellsAll 302 (.iload_n 1) 1 303 := by decide +kernel
theorem d12_tellsAll_303 : zd cX12_tellsAll 303 (.aload_n 0) 1 304 := by decide +kernel
theorem d12_tellsAll_304 : zd cX12_tellsAll 304 (.getfield 101) 3 307 := by decide +kernel
theorem d12_tellsAll_307 : zd cX12_tellsAll 307 (.iload_n 1) 1 308 := by decide +kernel
theorem d12_tellsAll_308 : zd cX12_tellsAll 308 (.iaload) 1 309 := by decide +kernel
theorem d12_tellsAll_309 : zd cX12_tellsAll 309 (.iastore) 1 310 := by decide +kernel
theorem d12_tellsAll_310 : zd cX12_tellsAll 310 (.iinc 1 1) 3 313 := by decide +kernel
theorem d12_tellsAll_313 : zj cX12_tellsAll 313 (.goto (-21)) (-21) 316 292 := by decide +kernel
theorem d12_tellsAll_316 : zd cX12_tellsAll 316 (.return_) 1 317 := by decide +kernel
set_option maxHeartbeats 4000000 in
set_option maxRecDepth 20000 in
theorem c12_tellsAll (l : Launch) (D : zDt) (Sh : zSh) (top : Nat) (hO : zOK Sh) (o_ : Nat) (μ : zM) (μ_ : zM) (ho : (Sh o_).1 = 19) (h : f12_tellsAll o_ μ = some μ_) : zMet l D zK1 yX12_tellsAll cX12_tellsAll 4 none (zrm 0 0) [.ref o_] Sh top μ none Sh top μ_ 0 0 := by
  refine zMet_of (by decide) (Nat.le_of_ble_eq_true rfl) fun X hX1 hX2 fx fin => ?_
  subst hX1; subst hX2
  replace fx : zFix X cX12_tellsAll RX12 (zrm 0 0) 4 := fx
  show zZ zK1 X (zT0 Sh top) μ 0 [(0, .ref o_)] []
  unfold f12_tellsAll at h
  refine z_aload_n fx (k := 0) (i := 0) rfl rfl d12_tellsAll_0 ?_
  refine z_aload_n fx (k := 0) (i := 0) rfl rfl d12_tellsAll_1 ?_
  refine z_getI fx 12 17 1217 ho lf12_62 ⟨fk12_17, rfl⟩ d12_tellsAll_2 ?_
  obtain ⟨μ1, e1, h⟩ := zinv h
  refine z_putI fx (ci := 12) 1 ho lf12_13 fp12_1 e1 d12_tellsAll_5 ?_
  refine z_aload_n fx (k := 0) (i := 0) rfl rfl d12_tellsAll_8 ?_
  refine z_aload_n fx (k := 0) (i := 0) rfl rfl d12_tellsAll_9 ?_
  refine z_getI fx 12 18 1218 ho lf12_65 ⟨fk12_18, rfl⟩ d12_tellsAll_10 ?_
  obtain ⟨μ2, e2, h⟩ := zinv h
  refine z_putI fx (ci := 12) 2 ho lf12_16 fp12_2 e2 d12_tellsAll_13 ?_
  refine z_aload_n fx (k := 0) (i := 0) rfl rfl d12_tellsAll_16 ?_
  refine z_aload_n fx (k := 0) (i := 0) rfl rfl d12_tellsAll_17 ?_
  refine z_getI fx 12 19 1219 ho lf12_68 ⟨fk12_19, rfl⟩ d12_tellsAll_18 ?_
  obtain ⟨μ3, e3, h⟩ := zinv h
  refine z_putI fx (ci := 12) 3 ho lf12_19 fp12_3 e3 d12_tellsAll_21 ?_
  refine z_aload_n fx (k := 0) (i := 0) rfl rfl d12_tellsAll_24 ?_
  refine z_aload_n fx (k := 0) (i := 0) rfl rfl d12_tellsAll_25 ?_
  refine z_getI fx 12 20 1220 ho lf12_71 ⟨fk12_20, rfl⟩ d12_tellsAll_26 ?_
  obtain ⟨μ4, e4, h⟩ := zinv h
  refine z_putI fx (ci := 12) 4 ho lf12_22 fp12_4 e4 d12_tellsAll_29 ?_
  refine z_aload_n fx (k := 0) (i := 0) rfl rfl d12_tellsAll_32 ?_
  refine z_aload_n fx (k := 0) (i := 0) rfl rfl d12_tellsAll_33 ?_
  refine z_getI fx 12 21 1221 ho lf12_74 ⟨fk12_21, rfl⟩ d12_tellsAll_34 ?_
  obtain ⟨μ5, e5, h⟩ := zinv h
  refine z_putI fx (ci := 12) 5 ho lf12_25 fp12_5 e5 d12_tellsAll_37 ?_
  refine z_iconst fx (v := 0) ic0 d12_tellsAll_40 ?_
  refine z_istore_n fx (k := 1) (i := 1) rfl rfl (lv' := [(0, .ref o_), (1, .int 0)]) rfl rfl d12_tellsAll_41 ?_
  obtain ⟨v_b_8, μ9, e70, h⟩ := zinv2 h
  have kx9 : zZ zK1 X (zT0 Sh top) μ9 92 [(0, .ref o_), (1, .int v_b_8)] [] := by
    refine z_take 1 (lv' := [(0, .ref o_)]) rfl ?_
    refine z_iconst fx (v := 0) ic0 d12_tellsAll_92 ?_
    refine z_istore_n fx (k := 1) (i := 1) rfl rfl (lv' := [(0, .ref o_), (1, .int 0)]) rfl rfl d12_tellsAll_93 ?_
    obtain ⟨v_l_19, μ20, e69, h⟩ := zinv2 h
    have kx22 : zZ zK1 X (zT0 Sh top) μ20 262 [(0, .ref o_), (1, .int v_l_19)] [] := by
      refine z_take 1 (lv' := [(0, .ref o_)]) rfl ?_
      refine z_iconst fx (v := 0) ic0 d12_tellsAll_262 ?_
      refine z_istore_n fx (k := 1) (i := 1) rfl rfl (lv' := [(0, .ref o_), (1, .int 0)]) rfl rfl d12_tellsAll_263 ?_
      obtain ⟨v_h_44, μ45, e68, h⟩ := zinv2 h
      have kx52 : zZ zK1 X (zT0 Sh top) μ45 290 [(0, .ref o_), (1, .int v_h_44)] [] := by
        refine z_take 1 (lv' := [(0, .ref o_)]) rfl ?_
        refine z_iconst fx (v := 0) ic0 d12_tellsAll_290 ?_
        refine z_istore_n fx (k := 1) (i := 1) rfl rfl (lv' := [(0, .ref o_), (1, .int 0)]) rfl rfl d12_tellsAll_291 ?_
        obtain ⟨v_k_51, μ52, e67, h⟩ := zinv2 h
        have kx61 : zZ zK1 X (zT0 Sh top) μ52 316 [(0, .ref o_), (1, .int v_k_51)] [] := by
          refine z_take 1 (lv' := [(0, .ref o_)]) rfl ?_
          cases h
          exact z_return fx fin d12_tellsAll_316
        clear h
        have klr60 : ∀ (n : Nat) (v_k_49 : Int32) (μ50 : zM), zloop (fun s => f12_tellsAll_L5 o_ s.1 s.2) n (v_k_49, μ50) = some (v_k_51, μ52) → zZ zK1 X (zT0 Sh top) μ50 292 [(0, .ref o_), (1, .int v_k_49)] [] := by
          intro n
          induction n with
          | zero => intro v_k_49 μ50 hl59; cases hl59
          | succ n ih62 =>
            intro v_k_49 μ50 hl59
            obtain ⟨y, e58, hl59⟩ := zloop_inv hl59
            replace e58 : f12_tellsAll_L5 o_ v_k_49 μ50 = some y := e58
            unfold f12_tellsAll_L5 at e58
            refine z_iload_n fx (k := 1) (i := 1) rfl rfl d12_tellsAll_292 ?_
            refine z_bipush fx (v := 96) bp96 d12_tellsAll_293 ?_
            refine z_icmp_ge fx d12_tellsAll_295 (fun c63 => ?_) (fun c63 => ?_)
            · replace e58 := zif_f c63 e58
              cases e58
              cases hl59
              exact kx61
            · replace e58 := zif_t c63 e58
              refine z_aload_n fx (k := 0) (i := 0) rfl rfl d12_tellsAll_298 ?_
              refine z_getO fx 12 14 9 ho lf12_53 fk12_14 d12_tellsAll_299 ?_
              refine z_iload_n fx (k := 1) (i := 1) rfl rfl d12_tellsAll_302 ?_
              refine z_aload_n fx (k := 0) (i := 0) rfl rfl d12_tellsAll_303 ?_
              refine z_getO fx 12 30 20 ho lf12_101 fk12_30 d12_tellsAll_304 ?_
              refine z_iload_n fx (k := 1) (i := 1) rfl rfl d12_tellsAll_307 ?_
              obtain ⟨t53, e64, e58⟩ := zinv e58
              refine z_iald fx (ok12_30 hO ho) e64 d12_tellsAll_308 ?_
              obtain ⟨μ54, e65, e58⟩ := zinv e58
              refine z_iast fx (ok12_14 hO ho) e65 d12_tellsAll_309 ?_
              obtain ⟨v_k_55, e66, e58⟩ := zinv e58
              replace e66 := Option.some.inj e66
              refine z_iinc fx (i := 1) (x := v_k_49) (v := v_k_55) rfl (by rw [in1]; exact e66) rfl (lv' := [(0, .ref o_), (1, .int v_k_55)]) rfl rfl d12_tellsAll_310 ?_
              cases e58
              refine z_goto fx d12_tellsAll_313 ?_
              exact ih62 _ _ hl59
        exact klr60 _ _ _ e67
      clear h
      have klr51 : ∀ (n : Nat) (v_h_42 : Int32) (μ43 : zM), zloop (fun s => f12_tellsAll_L4 o_ s.1 s.2) n (v_h_42, μ43) = some (v_h_44, μ45) → zZ zK1 X (zT0 Sh top) μ43 264 [(0, .ref o_), (1, .int v_h_42)] [] := by
        intro n
        induction n with
        | zero => intro v_h_42 μ43 hl50; cases hl50
        | succ n ih53 =>
          intro v_h_42 μ43 hl50
          obtain ⟨y, e49, hl50⟩ := zloop_inv hl50
          replace e49 : f12_tellsAll_L4 o_ v_h_42 μ43 = some y := e49
          unfold f12_tellsAll_L4 at e49
          refine z_iload_n fx (k := 1) (i := 1) rfl rfl d12_tellsAll_264 ?_
          refine z_aload_n fx (k := 0) (i := 0) rfl rfl d12_tellsAll_265 ?_
          refine z_getI fx 12 3 1203 ho lf12_19 ⟨fk12_3, rfl⟩ d12_tellsAll_266 ?_
          refine z_icmp_ge fx d12_tellsAll_269 (fun c54 => ?_) (fun c54 => ?_)
          · replace e49 := zif_f c54 e49
            cases e49
            cases hl50
            exact kx52
          · replace e49 := zif_t c54 e49
            refine z_aload_n fx (k := 0) (i := 0) rfl rfl d12_tellsAll_272 ?_
            refine z_getO fx 12 13 8 ho lf12_50 fk12_13 d12_tellsAll_273 ?_
            refine z_iload_n fx (k := 1) (i := 1) rfl rfl d12_tellsAll_276 ?_
            refine z_aload_n fx (k := 0) (i := 0) rfl rfl d12_tellsAll_277 ?_
            refine z_getO fx 12 29 19 ho lf12_98 fk12_29 d12_tellsAll_278 ?_
            refine z_iload_n fx (k := 1) (i := 1) rfl rfl d12_tellsAll_281 ?_
            obtain ⟨t46, e55, e49⟩ := zinv e49
            refine z_iald fx (ok12_29 hO ho) e55 d12_tellsAll_282 ?_
            obtain ⟨μ47, e56, e49⟩ := zinv e49
            refine z_iast fx (ok12_13 hO ho) e56 d12_tellsAll_283 ?_
            obtain ⟨v_h_48, e57, e49⟩ := zinv e49
            replace e57 := Option.some.inj e57
            refine z_iinc fx (i := 1) (x := v_h_42) (v := v_h_48) rfl (by rw [in1]; exact e57) rfl (lv' := [(0, .ref o_), (1, .int v_h_48)]) rfl rfl d12_tellsAll_284 ?_
            cases e49
            refine z_goto fx d12_tellsAll_287 ?_
            exact ih53 _ _ hl50
      exact klr51 _ _ _ e68
    clear h
    have klr21 : ∀ (n : Nat) (v_l_17 : Int32) (μ18 : zM), zloop (fun s => f12_tellsAll_L2 o_ s.1 s.2) n (v_l_17, μ18) = some (v_l_19, μ20) → zZ zK1 X (zT0 Sh top) μ18 94 [(0, .ref o_), (1, .int v_l_17)] [] := by
      intro n
      induction n with
      | zero => intro v_l_17 μ18 hl20; cases hl20
      | succ n ih23 =>
        intro v_l_17 μ18 hl20
        obtain ⟨y, e19, hl20⟩ := zloop_inv hl20
        replace e19 : f12_tellsAll_L2 o_ v_l_17 μ18 = some y := e19
        unfold f12_tellsAll_L2 at e19
        refine z_iload_n fx (k := 1) (i := 1) rfl rfl d12_tellsAll_94 ?_
        refine z_aload_n fx (k := 0) (i := 0) rfl rfl d12_tellsAll_95 ?_
        refine z_getI fx 12 2 1202 ho lf12_16 ⟨fk12_2, rfl⟩ d12_tellsAll_96 ?_
        refine z_icmp_ge fx d12_tellsAll_99 (fun c24 => ?_) (fun c24 => ?_)
        · replace e19 := zif_f c24 e19
          cases e19
          cases hl20
          exact kx22
        · replace e19 := zif_t c24 e19
          refine z_aload_n fx (k := 0) (i := 0) rfl rfl d12_tellsAll_102 ?_
          refine z_getO fx 12 11 6 ho lf12_44 fk12_11 d12_tellsAll_103 ?_
          refine z_iload_n fx (k := 1) (i := 1) rfl rfl d12_tellsAll_106 ?_
          refine z_aload_n fx (k := 0) (i := 0) rfl rfl d12_tellsAll_107 ?_
          refine z_getO fx 12 27 17 ho lf12_92 fk12_27 d12_tellsAll_108 ?_
          refine z_iload_n fx (k := 1) (i := 1) rfl rfl d12_tellsAll_111 ?_
          obtain ⟨t21, e25, e19⟩ := zinv e19
          refine z_iald fx (ok12_27 hO ho) e25 d12_tellsAll_112 ?_
          obtain ⟨μ22, e26, e19⟩ := zinv e19
          refine z_iast fx (ok12_11 hO ho) e26 d12_tellsAll_113 ?_
          refine z_aload_n fx (k := 0) (i := 0) rfl rfl d12_tellsAll_114 ?_
          refine z_getO fx 12 12 7 ho lf12_47 fk12_12 d12_tellsAll_115 ?_
          refine z_iload_n fx (k := 1) (i := 1) rfl rfl d12_tellsAll_118 ?_
          refine z_aload_n fx (k := 0) (i := 0) rfl rfl d12_tellsAll_119 ?_
          refine z_getO fx 12 28 18 ho lf12_95 fk12_28 d12_tellsAll_120 ?_
          refine z_iload_n fx (k := 1) (i := 1) rfl rfl d12_tellsAll_123 ?_
          obtain ⟨t23, e27, e19⟩ := zinv e19
          refine z_iald fx (ok12_28 hO ho) e27 d12_tellsAll_124 ?_
          obtain ⟨μ24, e28, e19⟩ := zinv e19
          refine z_iast fx (ok12_12 hO ho) e28 d12_tellsAll_125 ?_
          refine z_iconst fx (v := 0) ic0 d12_tellsAll_126 ?_
          refine z_istore_n fx (k := 2) (i := 2) rfl rfl (lv' := [(0, .ref o_), (1, .int v_l_17), (2, .int 0)]) rfl rfl d12_tellsAll_127 ?_
          obtain ⟨v_e_27, μ28, e48, e19⟩ := zinv2 e19
          have kx32 : zZ zK1 X (zT0 Sh top) μ28 256 [(0, .ref o_), (1, .int v_l_17), (2, .int v_e_27)] [] := by
            refine z_take 2 (lv' := [(0, .ref o_), (1, .int v_l_17)]) rfl ?_
            obtain ⟨v_l_41, e47, e19⟩ := zinv e19
            replace e47 := Option.some.inj e47
            refine z_iinc fx (i := 1) (x := v_l_17) (v := v_l_41) rfl (by rw [in1]; exact e47) rfl (lv' := [(0, .ref o_), (1, .int v_l_41)]) rfl rfl d12_tellsAll_256 ?_
            cases e19
            refine z_goto fx d12_tellsAll_259 ?_
            exact ih23 _ _ hl20
          clear e19
          have klr31 : ∀ (n : Nat) (v_e_25 : Int32) (μ26 : zM), zloop (fun s => f12_tellsAll_L3 o_ v_l_17 s.1 s.2) n (v_e_25, μ26) = some (v_e_27, μ28) → zZ zK1 X (zT0 Sh top) μ26 128 [(0, .ref o_), (1, .int v_l_17), (2, .int v_e_25)] [] := by
            intro n
            induction n with
            | zero => intro v_e_25 μ26 hl30; cases hl30
            | succ n ih33 =>
              intro v_e_25 μ26 hl30
              obtain ⟨y, e29, hl30⟩ := zloop_inv hl30
              replace e29 : f12_tellsAll_L3 o_ v_l_17 v_e_25 μ26 = some y := e29
              unfold f12_tellsAll_L3 at e29
              refine z_iload_n fx (k := 2) (i := 2) rfl rfl d12_tellsAll_128 ?_
              refine z_iconst fx (v := 2) ic2 d12_tellsAll_129 ?_
              refine z_icmp_ge fx d12_tellsAll_130 (fun c34 => ?_) (fun c34 => ?_)
              · replace e29 := zif_f c34 e29
                cases e29
                cases hl30
                exact kx32
              · replace e29 := zif_t c34 e29
                refine z_aload_n fx (k := 0) (i := 0) rfl rfl d12_tellsAll_133 ?_
                refine z_getO fx 12 9 4 ho lf12_38 fk12_9 d12_tellsAll_134 ?_
                refine z_iconst fx (v := 4) ic4 d12_tellsAll_137 ?_
                refine z_iload_n fx (k := 1) (i := 1) rfl rfl d12_tellsAll_138 ?_
                refine z_imul fx d12_tellsAll_139 ?_
                refine z_iconst fx (v := 2) ic2 d12_tellsAll_140 ?_
                refine z_iload_n fx (k := 2) (i := 2) rfl rfl d12_tellsAll_141 ?_
                refine z_imul fx d12_tellsAll_142 ?_
                refine z_iadd fx d12_tellsAll_143 ?_
                refine z_aload_n fx (k := 0) (i := 0) rfl rfl d12_tellsAll_144 ?_
                refine z_getO fx 12 25 15 ho lf12_86 fk12_25 d12_tellsAll_145 ?_
                refine z_iconst fx (v := 4) ic4 d12_tellsAll_148 ?_
                refine z_iload_n fx (k := 1) (i := 1) rfl rfl d12_tellsAll_149 ?_
                refine z_imul fx d12_tellsAll_150 ?_
                refine z_iconst fx (v := 2) ic2 d12_tellsAll_151 ?_
                refine z_iload_n fx (k := 2) (i := 2) rfl rfl d12_tellsAll_152 ?_
                refine z_imul fx d12_tellsAll_153 ?_
                refine z_iadd fx d12_tellsAll_154 ?_
                obtain ⟨t29, e35, e29⟩ := zinv e29
                refine z_iald fx (ok12_25 hO ho) e35 d12_tellsAll_155 ?_
                obtain ⟨μ30, e36, e29⟩ := zinv e29
                refine z_iast fx (ok12_9 hO ho) e36 d12_tellsAll_156 ?_
                refine z_aload_n fx (k := 0) (i := 0) rfl rfl d12_tellsAll_157 ?_
                refine z_getO fx 12 9 4 ho lf12_38 fk12_9 d12_tellsAll_158 ?_
                refine z_iconst fx (v := 4) ic4 d12_tellsAll_161 ?_
                refine z_iload_n fx (k := 1) (i := 1) rfl rfl d12_tellsAll_162 ?_
                refine z_imul fx d12_tellsAll_163 ?_
                refine z_iconst fx (v := 2) ic2 d12_tellsAll_164 ?_
                refine z_iload_n fx (k := 2) (i := 2) rfl rfl d12_tellsAll_165 ?_
                refine z_imul fx d12_tellsAll_166 ?_
                refine z_iadd fx d12_tellsAll_167 ?_
                refine z_iconst fx (v := 1) ic1 d12_tellsAll_168 ?_
                refine z_iadd fx d12_tellsAll_169 ?_
                refine z_aload_n fx (k := 0) (i := 0) rfl rfl d12_tellsAll_170 ?_
                refine z_getO fx 12 25 15 ho lf12_86 fk12_25 d12_tellsAll_171 ?_
                refine z_iconst fx (v := 4) ic4 d12_tellsAll_174 ?_
                refine z_iload_n fx (k := 1) (i := 1) rfl rfl d12_tellsAll_175 ?_
                refine z_imul fx d12_tellsAll_176 ?_
                refine z_iconst fx (v := 2) ic2 d12_tellsAll_177 ?_
                refine z_iload_n fx (k := 2) (i := 2) rfl rfl d12_tellsAll_178 ?_
                refine z_imul fx d12_tellsAll_179 ?_
                refine z_iadd fx d12_tellsAll_180 ?_
                refine z_iconst fx (v := 1) ic1 d12_tellsAll_181 ?_
                refine z_iadd fx d12_tellsAll_182 ?_
                obtain ⟨t31, e37, e29⟩ := zinv e29
                refine z_iald fx (ok12_25 hO ho) e37 d12_tellsAll_183 ?_
                obtain ⟨μ32, e38, e29⟩ := zinv e29
                refine z_iast fx (ok12_9 hO ho) e38 d12_tellsAll_184 ?_
                refine z_aload_n fx (k := 0) (i := 0) rfl rfl d12_tellsAll_185 ?_
                refine z_getO fx 12 10 5 ho lf12_41 fk12_10 d12_tellsAll_186 ?_
                refine z_iconst fx (v := 2) ic2 d12_tellsAll_189 ?_
                refine z_iload_n fx (k := 1) (i := 1) rfl rfl d12_tellsAll_190 ?_
                refine z_imul fx d12_tellsAll_191 ?_
                refine z_iload_n fx (k := 2) (i := 2) rfl rfl d12_tellsAll_192 ?_
                refine z_iadd fx d12_tellsAll_193 ?_
                refine z_aload_n fx (k := 0) (i := 0) rfl rfl d12_tellsAll_194 ?_
                refine z_getO fx 12 26 16 ho lf12_89 fk12_26 d12_tellsAll_195 ?_
                refine z_iconst fx (v := 2) ic2 d12_tellsAll_198 ?_
                refine z_iload_n fx (k := 1) (i := 1) rfl rfl d12_tellsAll_199 ?_
                refine z_imul fx d12_tellsAll_200 ?_
                refine z_iload_n fx (k := 2) (i := 2) rfl rfl d12_tellsAll_201 ?_
                refine z_iadd fx d12_tellsAll_202 ?_
                obtain ⟨t33, e39, e29⟩ := zinv e29
                refine z_iald fx (ok12_26 hO ho) e39 d12_tellsAll_203 ?_
                obtain ⟨μ34, e40, e29⟩ := zinv e29
                refine z_iast fx (ok12_10 hO ho) e40 d12_tellsAll_204 ?_
                refine z_bipush fx (v := 6) bp6 d12_tellsAll_205 ?_
                refine z_aload_n fx (k := 0) (i := 0) rfl rfl d12_tellsAll_207 ?_
                refine z_getO fx 12 9 4 ho lf12_38 fk12_9 d12_tellsAll_208 ?_
                refine z_iconst fx (v := 4) ic4 d12_tellsAll_211 ?_
                refine z_iload_n fx (k := 1) (i := 1) rfl rfl d12_tellsAll_212 ?_
                refine z_imul fx d12_tellsAll_213 ?_
                refine z_iconst fx (v := 2) ic2 d12_tellsAll_214 ?_
                refine z_iload_n fx (k := 2) (i := 2) rfl rfl d12_tellsAll_215 ?_
                refine z_imul fx d12_tellsAll_216 ?_
                refine z_iadd fx d12_tellsAll_217 ?_
                obtain ⟨t35, e41, e29⟩ := zinv e29
                refine z_iald fx (ok12_9 hO ho) e41 d12_tellsAll_218 ?_
                refine z_imul fx d12_tellsAll_219 ?_
                refine z_aload_n fx (k := 0) (i := 0) rfl rfl d12_tellsAll_220 ?_
                refine z_getO fx 12 9 4 ho lf12_38 fk12_9 d12_tellsAll_221 ?_
                refine z_iconst fx (v := 4) ic4 d12_tellsAll_224 ?_
                refine z_iload_n fx (k := 1) (i := 1) rfl rfl d12_tellsAll_225 ?_
                refine z_imul fx d12_tellsAll_226 ?_
                refine z_iconst fx (v := 2) ic2 d12_tellsAll_227 ?_
                refine z_iload_n fx (k := 2) (i := 2) rfl rfl d12_tellsAll_228 ?_
                refine z_imul fx d12_tellsAll_229 ?_
                refine z_iadd fx d12_tellsAll_230 ?_
                refine z_iconst fx (v := 1) ic1 d12_tellsAll_231 ?_
                refine z_iadd fx d12_tellsAll_232 ?_
                obtain ⟨t36, e42, e29⟩ := zinv e29
                refine z_iald fx (ok12_9 hO ho) e42 d12_tellsAll_233 ?_
                refine z_iadd fx d12_tellsAll_234 ?_
                obtain ⟨v_p_37, e43, e29⟩ := zinv e29
                replace e43 := Option.some.inj e43
                refine z_top (congrArg Value.int e43) ?_
                refine z_istore_n fx (k := 3) (i := 3) rfl rfl (lv' := [(0, .ref o_), (1, .int v_l_17), (2, .int v_e_25), (3, .int v_p_37)]) rfl rfl d12_tellsAll_235 ?_
                refine z_aload_n fx (k := 0) (i := 0) rfl rfl d12_tellsAll_236 ?_
                refine z_getO fx 12 15 10 ho lf12_56 fk12_15 d12_tellsAll_237 ?_
                refine z_iload_n fx (k := 3) (i := 3) rfl rfl d12_tellsAll_240 ?_
                refine z_iload_n fx (k := 1) (i := 1) rfl rfl d12_tellsAll_241 ?_
                obtain ⟨μ38, e44, e29⟩ := zinv e29
                refine z_iast fx (ok12_15 hO ho) e44 d12_tellsAll_242 ?_
                refine z_aload_n fx (k := 0) (i := 0) rfl rfl d12_tellsAll_243 ?_
                refine z_getO fx 12 16 11 ho lf12_59 fk12_16 d12_tellsAll_244 ?_
                refine z_iload_n fx (k := 3) (i := 3) rfl rfl d12_tellsAll_247 ?_
                refine z_iload_n fx (k := 2) (i := 2) rfl rfl d12_tellsAll_248 ?_
                obtain ⟨μ39, e45, e29⟩ := zinv e29
                refine z_iast fx (ok12_16 hO ho) e45 d12_tellsAll_249 ?_
                refine z_take 3 (lv' := [(0, .ref o_), (1, .int v_l_17), (2, .int v_e_25)]) rfl ?_
                obtain ⟨v_e_40, e46, e29⟩ := zinv e29
                replace e46 := Option.some.inj e46
                refine z_iinc fx (i := 2) (x := v_e_25) (v := v_e_40) rfl (by rw [in1]; exact e46) rfl (lv' := [(0, .ref o_), (1, .int v_l_17), (2, .int v_e_40)]) rfl rfl d12_tellsAll_250 ?_
                cases e29
                refine z_goto fx d12_tellsAll_253 ?_
                exact ih33 _ _ hl30
          exact klr31 _ _ _ e48
    exact klr21 _ _ _ e69
  clear h
  have klr8 : ∀ (n : Nat) (v_b_6 : Int32) (μ7 : zM), zloop (fun s => f12_tellsAll_L1 o_ s.1 s.2) n (v_b_6, μ7) = some (v_b_8, μ9) → zZ zK1 X (zT0 Sh top) μ7 42 [(0, .ref o_), (1, .int v_b_6)] [] := by
    intro n
    induction n with
    | zero => intro v_b_6 μ7 hl7; cases hl7
    | succ n ih10 =>
      intro v_b_6 μ7 hl7
      obtain ⟨y, e6, hl7⟩ := zloop_inv hl7
      replace e6 : f12_tellsAll_L1 o_ v_b_6 μ7 = some y := e6
      unfold f12_tellsAll_L1 at e6
      refine z_iload_n fx (k := 1) (i := 1) rfl rfl d12_tellsAll_42 ?_
      refine z_aload_n fx (k := 0) (i := 0) rfl rfl d12_tellsAll_43 ?_
      refine z_getI fx 12 1 1201 ho lf12_13 ⟨fk12_1, rfl⟩ d12_tellsAll_44 ?_
      refine z_icmp_ge fx d12_tellsAll_47 (fun c11 => ?_) (fun c11 => ?_)
      · replace e6 := zif_f c11 e6
        cases e6
        cases hl7
        exact kx9
      · replace e6 := zif_t c11 e6
        refine z_aload_n fx (k := 0) (i := 0) rfl rfl d12_tellsAll_50 ?_
        refine z_getO fx 12 6 1 ho lf12_28 fk12_6 d12_tellsAll_51 ?_
        refine z_iload_n fx (k := 1) (i := 1) rfl rfl d12_tellsAll_54 ?_
        refine z_aload_n fx (k := 0) (i := 0) rfl rfl d12_tellsAll_55 ?_
        refine z_getO fx 12 22 12 ho lf12_77 fk12_22 d12_tellsAll_56 ?_
        refine z_iload_n fx (k := 1) (i := 1) rfl rfl d12_tellsAll_59 ?_
        obtain ⟨t10, e12, e6⟩ := zinv e6
        refine z_iald fx (ok12_22 hO ho) e12 d12_tellsAll_60 ?_
        obtain ⟨μ11, e13, e6⟩ := zinv e6
        refine z_iast fx (ok12_6 hO ho) e13 d12_tellsAll_61 ?_
        refine z_aload_n fx (k := 0) (i := 0) rfl rfl d12_tellsAll_62 ?_
        refine z_getO fx 12 7 2 ho lf12_32 fk12_7 d12_tellsAll_63 ?_
        refine z_iload_n fx (k := 1) (i := 1) rfl rfl d12_tellsAll_66 ?_
        refine z_aload_n fx (k := 0) (i := 0) rfl rfl d12_tellsAll_67 ?_
        refine z_getO fx 12 23 13 ho lf12_80 fk12_23 d12_tellsAll_68 ?_
        refine z_iload_n fx (k := 1) (i := 1) rfl rfl d12_tellsAll_71 ?_
        obtain ⟨t12, e14, e6⟩ := zinv e6
        refine z_iald fx (ok12_23 hO ho) e14 d12_tellsAll_72 ?_
        obtain ⟨μ13, e15, e6⟩ := zinv e6
        refine z_iast fx (ok12_7 hO ho) e15 d12_tellsAll_73 ?_
        refine z_aload_n fx (k := 0) (i := 0) rfl rfl d12_tellsAll_74 ?_
        refine z_getO fx 12 8 3 ho lf12_35 fk12_8 d12_tellsAll_75 ?_
        refine z_iload_n fx (k := 1) (i := 1) rfl rfl d12_tellsAll_78 ?_
        refine z_aload_n fx (k := 0) (i := 0) rfl rfl d12_tellsAll_79 ?_
        refine z_getO fx 12 24 14 ho lf12_83 fk12_24 d12_tellsAll_80 ?_
        refine z_iload_n fx (k := 1) (i := 1) rfl rfl d12_tellsAll_83 ?_
        obtain ⟨t14, e16, e6⟩ := zinv e6
        refine z_iald fx (ok12_24 hO ho) e16 d12_tellsAll_84 ?_
        obtain ⟨μ15, e17, e6⟩ := zinv e6
        refine z_iast fx (ok12_8 hO ho) e17 d12_tellsAll_85 ?_
        obtain ⟨v_b_16, e18, e6⟩ := zinv e6
        replace e18 := Option.some.inj e18
        refine z_iinc fx (i := 1) (x := v_b_6) (v := v_b_16) rfl (by rw [in1]; exact e18) rfl (lv' := [(0, .ref o_), (1, .int v_b_16)]) rfl rfl d12_tellsAll_86 ?_
        cases e6
        refine z_goto fx d12_tellsAll_89 ?_
        exact ih10 _ _ hl7
  exact klr8 _ _ _ e70
theorem d12_puts_0 : zd cX12_puts 0 (.aload_n 0) 1 1 := by decide +kernel
theorem d12_puts_1 : zd cX12_puts 1 (.getfield 137) 3 4 := by decide +kernel
theorem d12_puts_4 : zd cX12_puts 4 (.aload_n 0) 1 5 := by decide +kernel
theorem d12_puts_5 : zd cX12_puts 5 (.getfield 144) 3 8 := by decide +kernel
theorem d12_puts_8 : zd cX12_puts 8 (.iload_n 1) 1 9 := by decide +kernel
theorem d12_puts_9 : zd cX12_puts 9 (.iadd) 1 10 := by decide +kernel
theorem d12_puts_10 : zd cX12_puts 10 (.iload_n 2) 1 11 := by decide +kernel
theorem d12_puts_11 : zd cX12_puts 11 (.iastore) 1 12 := by decide +kernel
theorem d12_puts_12 : zd cX12_puts 12 (.return_) 1 13 := by decide +kernel
set_option maxHeartbeats 4000000 in
set_option maxRecDepth 20000 in
theorem c12_puts (l : Launch) (D : zDt) (Sh : zSh) (top : Nat) (hO : zOK Sh) (o_ : Nat) (v_k : Int32) (v_v : Int32) (μ : zM) (μ_ : zM) (ho : (Sh o_).1 = 19) (h : f12_puts o_ v_k v_v μ = some μ_) : zMet l D zK1 yX12_puts cX12_puts 3 none (zrm 0 0) [.ref o_, .int v_k, .int v_v] Sh top μ none Sh top μ_ 0 0 := by
  refine zMet_of (by decide) (Nat.le_of_ble_eq_true rfl) fun X hX1 hX2 fx fin => ?_
  subst hX1; subst hX2
  replace fx : zFix X cX12_puts RX12 (zrm 0 0) 3 := fx
  show zZ zK1 X (zT0 Sh top) μ 0 [(0, .ref o_), (1, .int v_k), (2, .int v_v)] []
  unfold f12_puts at h
  refine z_aload_n fx (k := 0) (i := 0) rfl rfl d12_puts_0 ?_
  refine z_getO fx 12 42 24 ho lf12_137 fk12_42 d12_puts_1 ?_
  refine z_aload_n fx (k := 0) (i := 0) rfl rfl d12_puts_4 ?_
  refine z_getI fx 12 44 1244 ho lf12_144 ⟨fk12_44, rfl⟩ d12_puts_5 ?_
  refine z_iload_n fx (k := 1) (i := 1) rfl rfl d12_puts_8 ?_
  refine z_iadd fx d12_puts_9 ?_
  refine z_iload_n fx (k := 2) (i := 2) rfl rfl d12_puts_10 ?_
  obtain ⟨μ1, e1, h⟩ := zinv h
  refine z_iast fx (ok12_42 hO ho) e1 d12_puts_11 ?_
  cases h
  exact z_return fx fin d12_puts_12
theorem d12_clears_0 : zd cX12_clears 0 (.iconst 0) 1 1 := by decide +kernel
theorem d12_clears_1 : zd cX12_clears 1 (.istore_n 1) 1 2 := by decide +kernel
theorem d12_clears_2 : zd cX12_clears 2 (.iload_n 1) 1 3 := by decide +kernel
theorem d12_clears_3 : zd cX12_clears 3 (.sipush 2874) 3 6 := by decide +kernel
theorem d12_clears_6 : zj cX12_clears 6 (.if_icmp .ge 15) 15 9 21 := by decide +kernel
theorem d12_clears_9 : zd cX12_clears 9 (.aload_n 0) 1 10 := by decide +kernel
theorem d12_clears_10 : zd cX12_clears 10 (.iload_n 1) 1 11 := by decide +kernel
theorem d12_clears_11 : zd cX12_clears 11 (.iconst 0) 1 12 := by decide +kernel
theorem d12_clears_12 : zd cX12_clears 12 (.invokevirtual 310) 3 15 := by decide +kernel
theorem d12_clears_15 : zd cX12_clears 15 (.iinc 1 1) 3 18 := by decide +kernel
theorem d12_clears_18 : zj cX12_clears 18 (.goto (-16)) (-16) 21 2 := by decide +kernel
theorem d12_clears_21 : zd cX12_clears 21 (.iconst 0) 1 22 := by decide +kernel
theorem d12_clears_22 : zd cX12_clears 22 (.istore_n 1) 1 23 := by decide +kernel
theorem d12_clears_23 : zd cX12_clears 23 (.iload_n 1) 1 24 := by decide +kernel
theorem d12_clears_24 : zd cX12_clears 24 (.bipush 64) 2 26 := by decide +kernel
theorem d12_clears_26 : zj cX12_clears 26 (.if_icmp .ge 21) 21 29 47 := by decide +kernel
theorem d12_clears_29 : zd cX12_clears 29 (.aload_n 0) 1 30 := by decide +kernel
theorem d12_clears_30 : zd cX12_clears 30 (.sipush 986) 3 33 := by decide +kernel
theorem d12_clears_33 : zd cX12_clears 33 (.iconst 2) 1 34 := by decide +kernel
theorem d12_clears_34 : zd cX12_clears 34 (.iload_n 1) 1 35 := by decide +kernel
theorem d12_clears_35 : zd cX12_clears 35 (.imul) 1 36 := by decide +kernel
theorem d12_clears_36 : zd cX12_clears 36 (.iadd) 1 37 := by decide +kernel
theorem d12_clears_37 : zd cX12_clears 37 (.iconst (-1)) 1 38 := by decide +kernel
theorem d12_clears_38 : zd cX12_clears 38 (.invokevirtual 310) 3 41 := by decide +kernel
theorem d12_clears_41 : zd cX12_clears 41 (.iinc 1 1) 3 44 := by decide +kernel
theorem d12_clears_44 : zj cX12_clears 44 (.goto (-21)) (-21) 47 23 := by decide +kernel
theorem d12_clears_47 : zd cX12_clears 47 (.return_) 1 48 := by decide +kernel
set_option maxHeartbeats 4000000 in
set_option maxRecDepth 20000 in
theorem c12_clears (l : Launch) (D : zDt) (Sh : zSh) (top : Nat) (hO : zOK Sh) (o_ : Nat) (μ : zM) (μ_ : zM) (ho : (Sh o_).1 = 19) (h : f12_clears o_ μ = some μ_) : zMet l D zK1 yX12_clears cX12_clears 2 none (zrm 1 22) [.ref o_] Sh top μ none Sh top μ_ 0 0 := by
  refine zMet_of (by decide) (Nat.le_of_ble_eq_true rfl) fun X hX1 hX2 fx fin => ?_
  subst hX1; subst hX2
  replace fx : zFix X cX12_clears RX12 (zrm 1 22) 2 := fx
  show zZ zK1 X (zT0 Sh top) μ 0 [(0, .ref o_)] []
  unfold f12_clears at h
  refine z_iconst fx (v := 0) ic0 d12_clears_0 ?_
  refine z_istore_n fx (k := 1) (i := 1) rfl rfl (lv' := [(0, .ref o_), (1, .int 0)]) rfl rfl d12_clears_1 ?_
  obtain ⟨v_k_3, μ4, e18, h⟩ := zinv2 h
  have kx4 : zZ zK1 X (zT0 Sh top) μ4 21 [(0, .ref o_), (1, .int v_k_3)] [] := by
    refine z_take 1 (lv' := [(0, .ref o_)]) rfl ?_
    refine z_iconst fx (v := 0) ic0 d12_clears_21 ?_
    refine z_istore_n fx (k := 1) (i := 1) rfl rfl (lv' := [(0, .ref o_), (1, .int 0)]) rfl rfl d12_clears_22 ?_
    obtain ⟨v_k_9, μ10, e17, h⟩ := zinv2 h
    have kx12 : zZ zK1 X (zT0 Sh top) μ10 47 [(0, .ref o_), (1, .int v_k_9)] [] := by
      refine z_take 1 (lv' := [(0, .ref o_)]) rfl ?_
      cases h
      exact z_return fx fin d12_clears_47
    clear h
    have klr11 : ∀ (n : Nat) (v_k_7 : Int32) (μ8 : zM), zloop (fun s => f12_clears_L2 o_ s.1 s.2) n (v_k_7, μ8) = some (v_k_9, μ10) → zZ zK1 X (zT0 Sh top) μ8 23 [(0, .ref o_), (1, .int v_k_7)] [] := by
      intro n
      induction n with
      | zero => intro v_k_7 μ8 hl10; cases hl10
      | succ n ih13 =>
        intro v_k_7 μ8 hl10
        obtain ⟨y, e9, hl10⟩ := zloop_inv hl10
        replace e9 : f12_clears_L2 o_ v_k_7 μ8 = some y := e9
        unfold f12_clears_L2 at e9
        refine z_iload_n fx (k := 1) (i := 1) rfl rfl d12_clears_23 ?_
        refine z_bipush fx (v := 64) bp64 d12_clears_24 ?_
        refine z_icmp_ge fx d12_clears_26 (fun c14 => ?_) (fun c14 => ?_)
        · replace e9 := zif_f c14 e9
          cases e9
          cases hl10
          exact kx12
        · replace e9 := zif_t c14 e9
          refine z_aload_n fx (k := 0) (i := 0) rfl rfl d12_clears_29 ?_
          refine z_sipush fx (v := 986) sp986 d12_clears_30 ?_
          refine z_iconst fx (v := 2) ic2 d12_clears_33 ?_
          refine z_iload_n fx (k := 1) (i := 1) rfl rfl d12_clears_34 ?_
          refine z_imul fx d12_clears_35 ?_
          refine z_iadd fx d12_clears_36 ?_
          refine z_iconst fx (v := (-1)) icm1 d12_clears_37 ?_
          obtain ⟨μ11, e15, e9⟩ := zinv e9
          refine z_cVv fx (c12_puts (zLo X) (zDo X) Sh top hO o_ (986 + (2 * v_k_7)) (-1) μ8 _ ho e15) mv12_puts ml12_310 ho rfl rfl rfl rfl d12_clears_38 ?_
          obtain ⟨v_k_12, e16, e9⟩ := zinv e9
          replace e16 := Option.some.inj e16
          refine z_iinc fx (i := 1) (x := v_k_7) (v := v_k_12) rfl (by rw [in1]; exact e16) rfl (lv' := [(0, .ref o_), (1, .int v_k_12)]) rfl rfl d12_clears_41 ?_
          cases e9
          refine z_goto fx d12_clears_44 ?_
          exact ih13 _ _ hl10
    exact klr11 _ _ _ e17
  clear h
  have klr3 : ∀ (n : Nat) (v_k_1 : Int32) (μ2 : zM), zloop (fun s => f12_clears_L1 o_ s.1 s.2) n (v_k_1, μ2) = some (v_k_3, μ4) → zZ zK1 X (zT0 Sh top) μ2 2 [(0, .ref o_), (1, .int v_k_1)] [] := by
    intro n
    induction n with
    | zero => intro v_k_1 μ2 hl2; cases hl2
    | succ n ih5 =>
      intro v_k_1 μ2 hl2
      obtain ⟨y, e1, hl2⟩ := zloop_inv hl2
      replace e1 : f12_clears_L1 o_ v_k_1 μ2 = some y := e1
      unfold f12_clears_L1 at e1
      refine z_iload_n fx (k := 1) (i := 1) rfl rfl d12_clears_2 ?_
      refine z_sipush fx (v := 2874) sp2874 d12_clears_3 ?_
      refine z_icmp_ge fx d12_clears_6 (fun c6 => ?_) (fun c6 => ?_)
      · replace e1 := zif_f c6 e1
        cases e1
        cases hl2
        exact kx4
      · replace e1 := zif_t c6 e1
        refine z_aload_n fx (k := 0) (i := 0) rfl rfl d12_clears_9 ?_
        refine z_iload_n fx (k := 1) (i := 1) rfl rfl d12_clears_10 ?_
        refine z_iconst fx (v := 0) ic0 d12_clears_11 ?_
        obtain ⟨μ5, e7, e1⟩ := zinv e1
        refine z_cVv fx (c12_puts (zLo X) (zDo X) Sh top hO o_ v_k_1 0 μ2 _ ho e7) mv12_puts ml12_310 ho rfl rfl rfl rfl d12_clears_12 ?_
        obtain ⟨v_k_6, e8, e1⟩ := zinv e1
        replace e8 := Option.some.inj e8
        refine z_iinc fx (i := 1) (x := v_k_1) (v := v_k_6) rfl (by rw [in1]; exact e8) rfl (lv' := [(0, .ref o_), (1, .int v_k_6)]) rfl rfl d12_clears_15 ?_
        cases e1
        refine z_goto fx d12_clears_18 ?_
        exact ih5 _ _ hl2
  exact klr3 _ _ _ e18
theorem d12_bridgeAt_0 : zd cX12_bridgeAt 0 (.iconst 4) 1 1 := by decide +kernel
theorem d12_bridgeAt_1 : zd cX12_bridgeAt 1 (.bipush 12) 2 3 := by decide +kernel
theorem d12_bridgeAt_3 : zd cX12_bridgeAt 3 (.iload_n 0) 1 4 := by decide +kernel
theorem d12_bridgeAt_4 : zd cX12_bridgeAt 4 (.imul) 1 5 := by decide +kernel
theorem d12_bridgeAt_5 : zd cX12_bridgeAt 5 (.iadd) 1 6 := by decide +kernel
theorem d12_bridgeAt_6 : zd cX12_bridgeAt 6 (.iload_n 1) 1 7 := by decide +kernel
theorem d12_bridgeAt_7 : zd cX12_bridgeAt 7 (.iadd) 1 8 := by decide +kernel
theorem d12_bridgeAt_8 : zd cX12_bridgeAt 8 (.ireturn) 1 9 := by decide +kernel
set_option maxHeartbeats 4000000 in
set_option maxRecDepth 20000 in
theorem c12_bridgeAt (l : Launch) (D : zDt) (Sh : zSh) (top : Nat) (hO : zOK Sh) (v_b : Int32) (v_what : Int32) (μ : zM) (r_ : Int32)  (h : f12_bridgeAt v_b v_what μ = some r_) : zMet l D zK1 yX12_bridgeAt cX12_bridgeAt 2 (some .int) (zrm 0 0) [.int v_b, .int v_what] Sh top μ (some (.int r_)) Sh top μ 0 0 := by
  refine zMet_of (by decide) (Nat.le_of_ble_eq_true rfl) fun X hX1 hX2 fx fin => ?_
  subst hX1; subst hX2
  replace fx : zFix X cX12_bridgeAt RX12 (zrm 0 0) 2 := fx
  show zZ zK1 X (zT0 Sh top) μ 0 [(0, .int v_b), (1, .int v_what)] []
  unfold f12_bridgeAt at h
  refine z_iconst fx (v := 4) ic4 d12_bridgeAt_0 ?_
  refine z_bipush fx (v := 12) bp12 d12_bridgeAt_1 ?_
  refine z_iload_n fx (k := 0) (i := 0) rfl rfl d12_bridgeAt_3 ?_
  refine z_imul fx d12_bridgeAt_4 ?_
  refine z_iadd fx d12_bridgeAt_5 ?_
  refine z_iload_n fx (k := 1) (i := 1) rfl rfl d12_bridgeAt_6 ?_
  refine z_iadd fx d12_bridgeAt_7 ?_
  cases h
  exact z_ireturn fx fin d12_bridgeAt_8
theorem d12_its_0 : zd cX12_its 0 (.aload_n 0) 1 1 := by decide +kernel
theorem d12_its_1 : zd cX12_its 1 (.getfield 137) 3 4 := by decide +kernel
theorem d12_its_4 : zd cX12_its 4 (.aload_n 0) 1 5 := by decide +kernel
theorem d12_its_5 : zd cX12_its 5 (.getfield 144) 3 8 := by decide +kernel
theorem d12_its_8 : zd cX12_its 8 (.iload_n 1) 1 9 := by decide +kernel
theorem d12_its_9 : zd cX12_its 9 (.iadd) 1 10 := by decide +kernel
theorem d12_its_10 : zd cX12_its 10 (.iaload) 1 11 := by decide +kernel
theorem d12_its_11 : zd cX12_its 11 (.ireturn) 1 12 := by decide +kernel
set_option maxHeartbeats 4000000 in
set_option maxRecDepth 20000 in
theorem c12_its (l : Launch) (D : zDt) (Sh : zSh) (top : Nat) (hO : zOK Sh) (o_ : Nat) (v_k : Int32) (μ : zM) (r_ : Int32) (ho : (Sh o_).1 = 19) (h : f12_its o_ v_k μ = some r_) : zMet l D zK1 yX12_its cX12_its 2 (some .int) (zrm 0 0) [.ref o_, .int v_k] Sh top μ (some (.int r_)) Sh top μ 0 0 := by
  refine zMet_of (by decide) (Nat.le_of_ble_eq_true rfl) fun X hX1 hX2 fx fin => ?_
  subst hX1; subst hX2
  replace fx : zFix X cX12_its RX12 (zrm 0 0) 2 := fx
  show zZ zK1 X (zT0 Sh top) μ 0 [(0, .ref o_), (1, .int v_k)] []
  unfold f12_its at h
  refine z_aload_n fx (k := 0) (i := 0) rfl rfl d12_its_0 ?_
  refine z_getO fx 12 42 24 ho lf12_137 fk12_42 d12_its_1 ?_
  refine z_aload_n fx (k := 0) (i := 0) rfl rfl d12_its_4 ?_
  refine z_getI fx 12 44 1244 ho lf12_144 ⟨fk12_44, rfl⟩ d12_its_5 ?_
  refine z_iload_n fx (k := 1) (i := 1) rfl rfl d12_its_8 ?_
  refine z_iadd fx d12_its_9 ?_
  obtain ⟨t1, e1, h⟩ := zinv h
  refine z_iald fx (ok12_42 hO ho) e1 d12_its_10 ?_
  cases h
  exact z_ireturn fx fin d12_its_11
theorem d12_of_0 : zd cX12_of 0 (.aload_n 0) 1 1 := by decide +kernel
theorem d12_of_1 : zd cX12_of 1 (.iload_n 1) 1 2 := by decide +kernel
theorem d12_of_2 : zd cX12_of 2 (.iload_n 2) 1 3 := by decide +kernel
theorem d12_of_3 : zd cX12_of 3 (.invokestatic 307) 3 6 := by decide +kernel
theorem d12_of_6 : zd cX12_of 6 (.invokevirtual 316) 3 9 := by decide +kernel
theorem d12_of_9 : zd cX12_of 9 (.ireturn) 1 10 := by decide +kernel
set_option maxHeartbeats 4000000 in
set_option maxRecDepth 20000 in
theorem c12_of (l : Launch) (D : zDt) (Sh : zSh) (top : Nat) (hO : zOK Sh) (o_ : Nat) (v_b : Int32) (v_what : Int32) (μ : zM) (r_ : Int32) (ho : (Sh o_).1 = 19) (h : f12_of o_ v_b v_what μ = some r_) : zMet l D zK1 yX12_of cX12_of 3 (some .int) (zrm 1 21) [.ref o_, .int v_b, .int v_what] Sh top μ (some (.int r_)) Sh top μ 0 0 := by
  refine zMet_of (by decide) (Nat.le_of_ble_eq_true rfl) fun X hX1 hX2 fx fin => ?_
  subst hX1; subst hX2
  replace fx : zFix X cX12_of RX12 (zrm 1 21) 3 := fx
  show zZ zK1 X (zT0 Sh top) μ 0 [(0, .ref o_), (1, .int v_b), (2, .int v_what)] []
  unfold f12_of at h
  refine z_aload_n fx (k := 0) (i := 0) rfl rfl d12_of_0 ?_
  refine z_iload_n fx (k := 1) (i := 1) rfl rfl d12_of_1 ?_
  refine z_iload_n fx (k := 2) (i := 2) rfl rfl d12_of_2 ?_
  obtain ⟨t1, e1, h⟩ := zinv h
  refine z_cSr fx (c12_bridgeAt (zLo X) (zDo X) Sh top hO v_b v_what μ _  e1) ms12_bridgeAt ml12_307 rfl rfl rfl rfl d12_of_3 ?_
  obtain ⟨t2, e2, h⟩ := zinv h
  refine z_cVr fx (c12_its (zLo X) (zDo X) Sh top hO o_ t1 μ _ ho e2) mv12_its ml12_316 ho rfl rfl rfl rfl d12_of_6 ?_
  cases h
  exact z_ireturn fx fin d12_of_9
theorem d12_isOn_0 : zd cX12_isOn 0 (.aload_n 0) 1 1 := by decide +kernel
theorem d12_isOn_1 : zd cX12_isOn 1 (.iload_n 1) 1 2 := by decide +kernel
theorem d12_isOn_2 : zd cX12_isOn 2 (.iconst 0) 1 3 := by decide +kernel
theorem d12_isOn_3 : zd cX12_isOn 3 (.invokevirtual 319) 3 6 := by decide +kernel
theorem d12_isOn_6 : zd cX12_isOn 6 (.iconst 1) 1 7 := by decide +kernel
theorem d12_isOn_7 : zj cX12_isOn 7 (.if_icmp .ne 7) 7 10 14 := by decide +kernel
theorem d12_isOn_10 : zd cX12_isOn 10 (.iconst 1) 1 11 := by decide +kernel
theorem d12_isOn_11 : zj cX12_isOn 11 (.goto 4) 4 14 15 := by decide +kernel
theorem d12_isOn_14 : zd cX12_isOn 14 (.iconst 0) 1 15 := by decide +kernel
theorem d12_isOn_15 : zd cX12_isOn 15 (.ireturn) 1 16 := by decide +kernel
set_option maxHeartbeats 4000000 in
set_option maxRecDepth 20000 in
theorem c12_isOn (l : Launch) (D : zDt) (Sh : zSh) (top : Nat) (hO : zOK Sh) (o_ : Nat) (v_b : Int32) (μ : zM) (r_ : Bool) (ho : (Sh o_).1 = 19) (h : f12_isOn o_ v_b μ = some r_) : zMet l D zK1 yX12_isOn cX12_isOn 2 (some .boolean) (zrm 2 43) [.ref o_, .int v_b] Sh top μ (some (.int (bI r_))) Sh top μ 0 0 := by
  refine zMet_of (by decide) (Nat.le_of_ble_eq_true rfl) fun X hX1 hX2 fx fin => ?_
  subst hX1; subst hX2
  replace fx : zFix X cX12_isOn RX12 (zrm 2 43) 2 := fx
  show zZ zK1 X (zT0 Sh top) μ 0 [(0, .ref o_), (1, .int v_b)] []
  unfold f12_isOn at h
  obtain ⟨b1, e1, h⟩ := zinv h
  have k2 : zZ zK1 X (zT0 Sh top) μ 15 [(0, .ref o_), (1, .int v_b)] [.int (bI b1)] := by
    cases h
    exact z_zreturn fx fin d12_isOn_15
  have kt3 : b1 = true → zZ zK1 X (zT0 Sh top) μ 10 [(0, .ref o_), (1, .int v_b)] [] := by
    intro hc
    refine z_iconst fx (v := 1) ic1 d12_isOn_10 ?_
    refine z_goto fx d12_isOn_11 ?_
    exact z_top (congrArg Value.int (show 1 = bI b1 by rw [hc]; rfl)) k2
  have kf3 : b1 = false → zZ zK1 X (zT0 Sh top) μ 14 [(0, .ref o_), (1, .int v_b)] [] := by
    intro hc
    refine z_iconst fx (v := 0) ic0 d12_isOn_14 ?_
    exact z_top (congrArg Value.int (show 0 = bI b1 by rw [hc]; rfl)) k2
  refine z_aload_n fx (k := 0) (i := 0) rfl rfl d12_isOn_0 ?_
  refine z_iload_n fx (k := 1) (i := 1) rfl rfl d12_isOn_1 ?_
  refine z_iconst fx (v := 0) ic0 d12_isOn_2 ?_
  obtain ⟨t2, e4, e1⟩ := zinv e1
  refine z_cVr fx (c12_of (zLo X) (zDo X) Sh top hO o_ v_b 0 μ _ ho e4) mv12_of ml12_319 ho rfl rfl rfl rfl d12_isOn_3 ?_
  refine z_iconst fx (v := 1) ic1 d12_isOn_6 ?_
  cases e1
  refine z_icmp_ne fx d12_isOn_7 (fun c5 => ?_) (fun c5 => ?_)
  · exact kf3 c5
  · exact kt3 c5
theorem d12_isUpLink_0 : zd cX12_isUpLink 0 (.aload_n 0) 1 1 := by decide +kernel
theorem d12_isUpLink_1 : zd cX12_isUpLink 1 (.sipush 964) 3 4 := by decide +kernel
theorem d12_isUpLink_4 : zd cX12_isUpLink 4 (.iload_n 1) 1 5 := by decide +kernel
theorem d12_isUpLink_5 : zd cX12_isUpLink 5 (.iadd) 1 6 := by decide +kernel
theorem d12_isUpLink_6 : zd cX12_isUpLink 6 (.invokevirtual 316) 3 9 := by decide +kernel
theorem d12_isUpLink_9 : zd cX12_isUpLink 9 (.iconst 1) 1 10 := by decide +kernel
theorem d12_isUpLink_10 : zj cX12_isUpLink 10 (.if_icmp .ne 39) 39 13 49 := by decide +kernel
theorem d12_isUpLink_13 : zd cX12_isUpLink 13 (.aload_n 0) 1 14 := by decide +kernel
theorem d12_isUpLink_14 : zd cX12_isUpLink 14 (.aload_n 0) 1 15 := by decide +kernel
theorem d12_isUpLink_15 : zd cX12_isUpLink 15 (.getfield 38) 3 18 := by decide +kernel
theorem d12_isUpLink_18 : zd cX12_isUpLink 18 (.iconst 4) 1 19 := by decide +kernel
theorem d12_isUpLink_19 : zd cX12_isUpLink 19 (.iload_n 1) 1 20 := by decide +kernel
theorem d12_isUpLink_20 : zd cX12_isUpLink 20 (.imul) 1 21 := by decide +kernel
theorem d12_isUpLink_21 : zd cX12_isUpLink 21 (.iaload) 1 22 := by decide +kernel
theorem d12_isUpLink_22 : zd cX12_isUpLink 22 (.invokevirtual 328) 3 25 := by decide +kernel
theorem d12_isUpLink_25 : zj cX12_isUpLink 25 (.ifCond .eq 24) 24 28 49 := by decide +kernel
theorem d12_isUpLink_28 : zd cX12_isUpLink 28 (.aload_n 0) 1 29 := by decide +kernel
theorem d12_isUpLink_29 : zd cX12_isUpLink 29 (.aload_n 0) 1 30 := by decide +kernel
theorem d12_isUpLink_30 : zd cX12_isUpLink 30 (.getfield 38) 3 33 := by decide +kernel
theorem d12_isUpLink_33 : zd cX12_isUpLink 33 (.iconst 4) 1 34 := by decide +kernel
theorem d12_isUpLink_34 : zd cX12_isUpLink 34 (.iload_n 1) 1 35 := by decide +kernel
theorem d12_isUpLink_35 : zd cX12_isUpLink 35 (.imul) 1 36 := by decide +kernel
theorem d12_isUpLink_36 : zd cX12_isUpLink 36 (.iconst 2) 1 37 := by decide +kernel
theorem d12_isUpLink_37 : zd cX12_isUpLink 37 (.iadd) 1 38 := by decide +kernel
theorem d12_isUpLink_38 : zd cX12_isUpLink 38 (.iaload) 1 39 := by decide +kernel
theorem d12_isUpLink_39 : zd cX12_isUpLink 39 (.invokevirtual 328) 3 42 := by decide +kernel
theorem d12_isUpLink_42 : zj cX12_isUpLink 42 (.ifCond .eq 7) 7 45 49 := by decide +kernel
theorem d12_isUpLink_45 : zd cX12_isUpLink 45 (.iconst 1) 1 46 := by decide +kernel
theorem d12_isUpLink_46 : zj cX12_isUpLink 46 (.goto 4) 4 49 50 := by decide +kernel
theorem d12_isUpLink_49 : zd cX12_isUpLink 49 (.iconst 0) 1 50 := by decide +kernel
theorem d12_isUpLink_50 : zd cX12_isUpLink 50 (.ireturn) 1 51 := by decide +kernel
set_option maxHeartbeats 4000000 in
set_option maxRecDepth 20000 in
theorem c12_isUpLink (l : Launch) (D : zDt) (Sh : zSh) (top : Nat) (hO : zOK Sh) (o_ : Nat) (v_l : Int32) (μ : zM) (r_ : Bool) (ho : (Sh o_).1 = 19) (h : f12_isUpLink o_ v_l μ = some r_) : zMet l D zK1 yX12_isUpLink cX12_isUpLink 2 (some .boolean) (zrm 3 64) [.ref o_, .int v_l] Sh top μ (some (.int (bI r_))) Sh top μ 0 0 := by
  refine zMet_of (by decide) (Nat.le_of_ble_eq_true rfl) fun X hX1 hX2 fx fin => ?_
  subst hX1; subst hX2
  replace fx : zFix X cX12_isUpLink RX12 (zrm 3 64) 2 := fx
  show zZ zK1 X (zT0 Sh top) μ 0 [(0, .ref o_), (1, .int v_l)] []
  unfold f12_isUpLink at h
  obtain ⟨b1, e1, h⟩ := zinv h
  have k2 : zZ zK1 X (zT0 Sh top) μ 50 [(0, .ref o_), (1, .int v_l)] [.int (bI b1)] := by
    cases h
    exact z_zreturn fx fin d12_isUpLink_50
  have kt3 : b1 = true → zZ zK1 X (zT0 Sh top) μ 45 [(0, .ref o_), (1, .int v_l)] [] := by
    intro hc
    refine z_iconst fx (v := 1) ic1 d12_isUpLink_45 ?_
    refine z_goto fx d12_isUpLink_46 ?_
    exact z_top (congrArg Value.int (show 1 = bI b1 by rw [hc]; rfl)) k2
  have kf3 : b1 = false → zZ zK1 X (zT0 Sh top) μ 49 [(0, .ref o_), (1, .int v_l)] [] := by
    intro hc
    refine z_iconst fx (v := 0) ic0 d12_isUpLink_49 ?_
    exact z_top (congrArg Value.int (show 0 = bI b1 by rw [hc]; rfl)) k2
  obtain ⟨b2, e4, e1⟩ := zinv e1
  have kt5 : b2 = true → zZ zK1 X (zT0 Sh top) μ 28 [(0, .ref o_), (1, .int v_l)] [] := by
    intro hc
    replace e1 := zif_t hc e1
    refine z_aload_n fx (k := 0) (i := 0) rfl rfl d12_isUpLink_28 ?_
    refine z_aload_n fx (k := 0) (i := 0) rfl rfl d12_isUpLink_29 ?_
    refine z_getO fx 12 9 4 ho lf12_38 fk12_9 d12_isUpLink_30 ?_
    refine z_iconst fx (v := 4) ic4 d12_isUpLink_33 ?_
    refine z_iload_n fx (k := 1) (i := 1) rfl rfl d12_isUpLink_34 ?_
    refine z_imul fx d12_isUpLink_35 ?_
    refine z_iconst fx (v := 2) ic2 d12_isUpLink_36 ?_
    refine z_iadd fx d12_isUpLink_37 ?_
    obtain ⟨t3, e6, e1⟩ := zinv e1
    refine z_iald fx (ok12_9 hO ho) e6 d12_isUpLink_38 ?_
    obtain ⟨t4, e7, e1⟩ := zinv e1
    refine z_cVr fx (c12_isOn (zLo X) (zDo X) Sh top hO o_ t3 μ _ ho e7) mv12_isOn ml12_328 ho rfl rfl rfl rfl d12_isUpLink_39 ?_
    cases e1
    refine z_ifb_eq fx d12_isUpLink_42 (fun c8 => ?_) (fun c8 => ?_)
    · exact kf3 c8
    · exact kt3 c8
  have kf5 : b2 = false → zZ zK1 X (zT0 Sh top) μ 49 [(0, .ref o_), (1, .int v_l)] [] := by
    intro hc
    replace e1 := zif_f hc e1
    cases e1
    exact kf3 rfl
  clear e1
  obtain ⟨b5, e9, e4⟩ := zinv e4
  have kt10 : b5 = true → zZ zK1 X (zT0 Sh top) μ 13 [(0, .ref o_), (1, .int v_l)] [] := by
    intro hc
    replace e4 := zif_t hc e4
    refine z_aload_n fx (k := 0) (i := 0) rfl rfl d12_isUpLink_13 ?_
    refine z_aload_n fx (k := 0) (i := 0) rfl rfl d12_isUpLink_14 ?_
    refine z_getO fx 12 9 4 ho lf12_38 fk12_9 d12_isUpLink_15 ?_
    refine z_iconst fx (v := 4) ic4 d12_isUpLink_18 ?_
    refine z_iload_n fx (k := 1) (i := 1) rfl rfl d12_isUpLink_19 ?_
    refine z_imul fx d12_isUpLink_20 ?_
    obtain ⟨t6, e11, e4⟩ := zinv e4
    refine z_iald fx (ok12_9 hO ho) e11 d12_isUpLink_21 ?_
    obtain ⟨t7, e12, e4⟩ := zinv e4
    refine z_cVr fx (c12_isOn (zLo X) (zDo X) Sh top hO o_ t6 μ _ ho e12) mv12_isOn ml12_328 ho rfl rfl rfl rfl d12_isUpLink_22 ?_
    cases e4
    refine z_ifb_eq fx d12_isUpLink_25 (fun c13 => ?_) (fun c13 => ?_)
    · exact kf5 c13
    · exact kt5 c13
  have kf10 : b5 = false → zZ zK1 X (zT0 Sh top) μ 49 [(0, .ref o_), (1, .int v_l)] [] := by
    intro hc
    replace e4 := zif_f hc e4
    cases e4
    exact kf5 rfl
  clear e4
  refine z_aload_n fx (k := 0) (i := 0) rfl rfl d12_isUpLink_0 ?_
  refine z_sipush fx (v := 964) sp964 d12_isUpLink_1 ?_
  refine z_iload_n fx (k := 1) (i := 1) rfl rfl d12_isUpLink_4 ?_
  refine z_iadd fx d12_isUpLink_5 ?_
  obtain ⟨t8, e14, e9⟩ := zinv e9
  refine z_cVr fx (c12_its (zLo X) (zDo X) Sh top hO o_ (964 + v_l) μ _ ho e14) mv12_its ml12_316 ho rfl rfl rfl rfl d12_isUpLink_6 ?_
  refine z_iconst fx (v := 1) ic1 d12_isUpLink_9 ?_
  cases e9
  refine z_icmp_ne fx d12_isUpLink_10 (fun c15 => ?_) (fun c15 => ?_)
  · exact kf10 c15
  · exact kt10 c15
theorem d12_placeOf_0 : zd cX12_placeOf 0 (.bipush 6) 2 2 := by decide +kernel
theorem d12_placeOf_2 : zd cX12_placeOf 2 (.iload_n 0) 1 3 := by decide +kernel
theorem d12_placeOf_3 : zd cX12_placeOf 3 (.imul) 1 4 := by decide +kernel
theorem d12_placeOf_4 : zd cX12_placeOf 4 (.iload_n 1) 1 5 := by decide +kernel
theorem d12_placeOf_5 : zd cX12_placeOf 5 (.iadd) 1 6 := by decide +kernel
theorem d12_placeOf_6 : zd cX12_placeOf 6 (.ireturn) 1 7 := by decide +kernel
set_option maxHeartbeats 4000000 in
set_option maxRecDepth 20000 in
theorem c12_placeOf (l : Launch) (D : zDt) (Sh : zSh) (top : Nat) (hO : zOK Sh) (v_b : Int32) (v_p : Int32) (μ : zM) (r_ : Int32)  (h : f12_placeOf v_b v_p μ = some r_) : zMet l D zK1 yX12_placeOf cX12_placeOf 2 (some .int) (zrm 0 0) [.int v_b, .int v_p] Sh top μ (some (.int r_)) Sh top μ 0 0 := by
  refine zMet_of (by decide) (Nat.le_of_ble_eq_true rfl) fun X hX1 hX2 fx fin => ?_
  subst hX1; subst hX2
  replace fx : zFix X cX12_placeOf RX12 (zrm 0 0) 2 := fx
  show zZ zK1 X (zT0 Sh top) μ 0 [(0, .int v_b), (1, .int v_p)] []
  unfold f12_placeOf at h
  refine z_bipush fx (v := 6) bp6 d12_placeOf_0 ?_
  refine z_iload_n fx (k := 0) (i := 0) rfl rfl d12_placeOf_2 ?_
  refine z_imul fx d12_placeOf_3 ?_
  refine z_iload_n fx (k := 1) (i := 1) rfl rfl d12_placeOf_4 ?_
  refine z_iadd fx d12_placeOf_5 ?_
  cases h
  exact z_ireturn fx fin d12_placeOf_6
theorem d12_portOfEnd_0 : zd cX12_portOfEnd 0 (.aload_n 0) 1 1 := by decide +kernel
theorem d12_portOfEnd_1 : zd cX12_portOfEnd 1 (.getfield 38) 3 4 := by decide +kernel
theorem d12_portOfEnd_4 : zd cX12_portOfEnd 4 (.iconst 4) 1 5 := by decide +kernel
theorem d12_portOfEnd_5 : zd cX12_portOfEnd 5 (.iload_n 1) 1 6 := by decide +kernel
theorem d12_portOfEnd_6 : zd cX12_portOfEnd 6 (.imul) 1 7 := by decide +kernel
theorem d12_portOfEnd_7 : zd cX12_portOfEnd 7 (.iconst 2) 1 8 := by decide +kernel
theorem d12_portOfEnd_8 : zd cX12_portOfEnd 8 (.iload_n 2) 1 9 := by decide +kernel
theorem d12_portOfEnd_9 : zd cX12_portOfEnd 9 (.imul) 1 10 := by decide +kernel
theorem d12_portOfEnd_10 : zd cX12_portOfEnd 10 (.iadd) 1 11 := by decide +kernel
theorem d12_portOfEnd_11 : zd cX12_portOfEnd 11 (.iaload) 1 12 := by decide +kernel
theorem d12_portOfEnd_12 : zd cX12_portOfEnd 12 (.aload_n 0) 1 13 := by decide +kernel
theorem d12_portOfEnd_13 : zd cX12_portOfEnd 13 (.getfield 38) 3 16 := by decide +kernel
theorem d12_portOfEnd_16 : zd cX12_portOfEnd 16 (.iconst 4) 1 17 := by decide +kernel
theorem d12_portOfEnd_17 : zd cX12_portOfEnd 17 (.iload_n 1) 1 18 := by decide +kernel
theorem d12_portOfEnd_18 : zd cX12_portOfEnd 18 (.imul) 1 19 := by decide +kernel
theorem d12_portOfEnd_19 : zd cX12_portOfEnd 19 (.iconst 2) 1 20 := by decide +kernel
theorem d12_portOfEnd_20 : zd cX12_portOfEnd 20 (.iload_n 2) 1 21 := by decide +kernel
theorem d12_portOfEnd_21 : zd cX12_portOfEnd 21 (.imul) 1 22 := by decide +kernel
theorem d12_portOfEnd_22 : zd cX12_portOfEnd 22 (.iadd) 1 23 := by decide +kernel
theorem d12_portOfEnd_23 : zd cX12_portOfEnd 23 (.iconst 1) 1 24 := by decide +kernel
theorem d12_portOfEnd_24 : zd cX12_portOfEnd 24 (.iadd) 1 25 := by decide +kernel
theorem d12_portOfEnd_25 : zd cX12_portOfEnd 25 (.iaload) 1 26 := by decide +kernel
theorem d12_portOfEnd_26 : zd cX12_portOfEnd 26 (.invokestatic 325) 3 29 := by decide +kernel
theorem d12_portOfEnd_29 : zd cX12_portOfEnd 29 (.ireturn) 1 30 := by decide +kernel
set_option maxHeartbeats 4000000 in
set_option maxRecDepth 20000 in
theorem c12_portOfEnd (l : Launch) (D : zDt) (Sh : zSh) (top : Nat) (hO : zOK Sh) (o_ : Nat) (v_l : Int32) (v_e : Int32) (μ : zM) (r_ : Int32) (ho : (Sh o_).1 = 19) (h : f12_portOfEnd o_ v_l v_e μ = some r_) : zMet l D zK1 yX12_portOfEnd cX12_portOfEnd 3 (some .int) (zrm 1 21) [.ref o_, .int v_l, .int v_e] Sh top μ (some (.int r_)) Sh top μ 0 0 := by
  refine zMet_of (by decide) (Nat.le_of_ble_eq_true rfl) fun X hX1 hX2 fx fin => ?_
  subst hX1; subst hX2
  replace fx : zFix X cX12_portOfEnd RX12 (zrm 1 21) 3 := fx
  show zZ zK1 X (zT0 Sh top) μ 0 [(0, .ref o_), (1, .int v_l), (2, .int v_e)] []
  unfold f12_portOfEnd at h
  refine z_aload_n fx (k := 0) (i := 0) rfl rfl d12_portOfEnd_0 ?_
  refine z_getO fx 12 9 4 ho lf12_38 fk12_9 d12_portOfEnd_1 ?_
  refine z_iconst fx (v := 4) ic4 d12_portOfEnd_4 ?_
  refine z_iload_n fx (k := 1) (i := 1) rfl rfl d12_portOfEnd_5 ?_
  refine z_imul fx d12_portOfEnd_6 ?_
  refine z_iconst fx (v := 2) ic2 d12_portOfEnd_7 ?_
  refine z_iload_n fx (k := 2) (i := 2) rfl rfl d12_portOfEnd_8 ?_
  refine z_imul fx d12_portOfEnd_9 ?_
  refine z_iadd fx d12_portOfEnd_10 ?_
  obtain ⟨t1, e1, h⟩ := zinv h
  refine z_iald fx (ok12_9 hO ho) e1 d12_portOfEnd_11 ?_
  refine z_aload_n fx (k := 0) (i := 0) rfl rfl d12_portOfEnd_12 ?_
  refine z_getO fx 12 9 4 ho lf12_38 fk12_9 d12_portOfEnd_13 ?_
  refine z_iconst fx (v := 4) ic4 d12_portOfEnd_16 ?_
  refine z_iload_n fx (k := 1) (i := 1) rfl rfl d12_portOfEnd_17 ?_
  refine z_imul fx d12_portOfEnd_18 ?_
  refine z_iconst fx (v := 2) ic2 d12_portOfEnd_19 ?_
  refine z_iload_n fx (k := 2) (i := 2) rfl rfl d12_portOfEnd_20 ?_
  refine z_imul fx d12_portOfEnd_21 ?_
  refine z_iadd fx d12_portOfEnd_22 ?_
  refine z_iconst fx (v := 1) ic1 d12_portOfEnd_23 ?_
  refine z_iadd fx d12_portOfEnd_24 ?_
  obtain ⟨t2, e2, h⟩ := zinv h
  refine z_iald fx (ok12_9 hO ho) e2 d12_portOfEnd_25 ?_
  obtain ⟨t3, e3, h⟩ := zinv h
  refine z_cSr fx (c12_placeOf (zLo X) (zDo X) Sh top hO t1 t2 μ _  e3) ms12_placeOf ml12_325 rfl rfl rfl rfl d12_portOfEnd_26 ?_
  cases h
  exact z_ireturn fx fin d12_portOfEnd_29
theorem d12_sets_0 : zd cX12_sets 0 (.aload_n 0) 1 1 := by decide +kernel
theorem d12_sets_1 : zd cX12_sets 1 (.bipush 100) 2 3 := by decide +kernel
theorem d12_sets_3 : zd cX12_sets 3 (.bipush 18) 2 5 := by decide +kernel
theorem d12_sets_5 : zd cX12_sets 5 (.iload_n 1) 1 6 := by decide +kernel
theorem d12_sets_6 : zd cX12_sets 6 (.imul) 1 7 := by decide +kernel
theorem d12_sets_7 : zd cX12_sets 7 (.iadd) 1 8 := by decide +kernel
theorem d12_sets_8 : zd cX12_sets 8 (.iload_n 2) 1 9 := by decide +kernel
theorem d12_sets_9 : zd cX12_sets 9 (.iadd) 1 10 := by decide +kernel
theorem d12_sets_10 : zd cX12_sets 10 (.iload_n 3) 1 11 := by decide +kernel
theorem d12_sets_11 : zd cX12_sets 11 (.invokevirtual 310) 3 14 := by decide +kernel
theorem d12_sets_14 : zd cX12_sets 14 (.return_) 1 15 := by decide +kernel
set_option maxHeartbeats 4000000 in
set_option maxRecDepth 20000 in
theorem c12_sets (l : Launch) (D : zDt) (Sh : zSh) (top : Nat) (hO : zOK Sh) (o_ : Nat) (v_p : Int32) (v_what : Int32) (v_v : Int32) (μ : zM) (μ_ : zM) (ho : (Sh o_).1 = 19) (h : f12_sets o_ v_p v_what v_v μ = some μ_) : zMet l D zK1 yX12_sets cX12_sets 4 none (zrm 1 22) [.ref o_, .int v_p, .int v_what, .int v_v] Sh top μ none Sh top μ_ 0 0 := by
  refine zMet_of (by decide) (Nat.le_of_ble_eq_true rfl) fun X hX1 hX2 fx fin => ?_
  subst hX1; subst hX2
  replace fx : zFix X cX12_sets RX12 (zrm 1 22) 4 := fx
  show zZ zK1 X (zT0 Sh top) μ 0 [(0, .ref o_), (1, .int v_p), (2, .int v_what), (3, .int v_v)] []
  unfold f12_sets at h
  refine z_aload_n fx (k := 0) (i := 0) rfl rfl d12_sets_0 ?_
  refine z_bipush fx (v := 100) bp100 d12_sets_1 ?_
  refine z_bipush fx (v := 18) bp18 d12_sets_3 ?_
  refine z_iload_n fx (k := 1) (i := 1) rfl rfl d12_sets_5 ?_
  refine z_imul fx d12_sets_6 ?_
  refine z_iadd fx d12_sets_7 ?_
  refine z_iload_n fx (k := 2) (i := 2) rfl rfl d12_sets_8 ?_
  refine z_iadd fx d12_sets_9 ?_
  refine z_iload_n fx (k := 3) (i := 3) rfl rfl d12_sets_10 ?_
  obtain ⟨μ1, e1, h⟩ := zinv h
  refine z_cVv fx (c12_puts (zLo X) (zDo X) Sh top hO o_ ((100 + (18 * v_p)) + v_what) v_v μ _ ho e1) mv12_puts ml12_310 ho rfl rfl rfl rfl d12_sets_11 ?_
  cases h
  exact z_return fx fin d12_sets_14
theorem d12_isFresh_0 : zd cX12_isFresh 0 (.iconst 0) 1 1 := by decide +kernel
theorem d12_isFresh_1 : zd cX12_isFresh 1 (.istore_n 2) 1 2 := by decide +kernel
theorem d12_isFresh_2 : zd cX12_isFresh 2 (.iload_n 2) 1 3 := by decide +kernel
theorem d12_isFresh_3 : zd cX12_isFresh 3 (.bipush 18) 2 5 := by decide +kernel
theorem d12_isFresh_5 : zj cX12_isFresh 5 (.if_icmp .ge 16) 16 8 21 := by decide +kernel
theorem d12_isFresh_8 : zd cX12_isFresh 8 (.aload_n 0) 1 9 := by decide +kernel
theorem d12_isFresh_9 : zd cX12_isFresh 9 (.iload_n 1) 1 10 := by decide +kernel
theorem d12_isFresh_10 : zd cX12_isFresh 10 (.iload_n 2) 1 11 := by decide +kernel
theorem d12_isFresh_11 : zd cX12_isFresh 11 (.iconst 0) 1 12 := by decide +kernel
theorem d12_isFresh_12 : zd cX12_isFresh 12 (.invokevirtual 344) 3 15 := by decide +kernel
theorem d12_isFresh_15 : zd cX12_isFresh 15 (.iinc 2 1) 3 18 := by decide +kernel
theorem d12_isFresh_18 : zj cX12_isFresh 18 (.goto (-16)) (-16) 21 2 := by decide +kernel
theorem d12_isFresh_21 : zd cX12_isFresh 21 (.return_) 1 22 := by decide +kernel
set_option maxHeartbeats 4000000 in
set_option maxRecDepth 20000 in
theorem c12_isFresh (l : Launch) (D : zDt) (Sh : zSh) (top : Nat) (hO : zOK Sh) (o_ : Nat) (v_p : Int32) (μ : zM) (μ_ : zM) (ho : (Sh o_).1 = 19) (h : f12_isFresh o_ v_p μ = some μ_) : zMet l D zK1 yX12_isFresh cX12_isFresh 3 none (zrm 2 45) [.ref o_, .int v_p] Sh top μ none Sh top μ_ 0 0 := by
  refine zMet_of (by decide) (Nat.le_of_ble_eq_true rfl) fun X hX1 hX2 fx fin => ?_
  subst hX1; subst hX2
  replace fx : zFix X cX12_isFresh RX12 (zrm 2 45) 3 := fx
  show zZ zK1 X (zT0 Sh top) μ 0 [(0, .ref o_), (1, .int v_p)] []
  unfold f12_isFresh at h
  refine z_iconst fx (v := 0) ic0 d12_isFresh_0 ?_
  refine z_istore_n fx (k := 2) (i := 2) rfl rfl (lv' := [(0, .ref o_), (1, .int v_p), (2, .int 0)]) rfl rfl d12_isFresh_1 ?_
  obtain ⟨v_k_3, μ4, e9, h⟩ := zinv2 h
  have kx4 : zZ zK1 X (zT0 Sh top) μ4 21 [(0, .ref o_), (1, .int v_p), (2, .int v_k_3)] [] := by
    refine z_take 2 (lv' := [(0, .ref o_), (1, .int v_p)]) rfl ?_
    cases h
    exact z_return fx fin d12_isFresh_21
  clear h
  have klr3 : ∀ (n : Nat) (v_k_1 : Int32) (μ2 : zM), zloop (fun s => f12_isFresh_L1 o_ v_p s.1 s.2) n (v_k_1, μ2) = some (v_k_3, μ4) → zZ zK1 X (zT0 Sh top) μ2 2 [(0, .ref o_), (1, .int v_p), (2, .int v_k_1)] [] := by
    intro n
    induction n with
    | zero => intro v_k_1 μ2 hl2; cases hl2
    | succ n ih5 =>
      intro v_k_1 μ2 hl2
      obtain ⟨y, e1, hl2⟩ := zloop_inv hl2
      replace e1 : f12_isFresh_L1 o_ v_p v_k_1 μ2 = some y := e1
      unfold f12_isFresh_L1 at e1
      refine z_iload_n fx (k := 2) (i := 2) rfl rfl d12_isFresh_2 ?_
      refine z_bipush fx (v := 18) bp18 d12_isFresh_3 ?_
      refine z_icmp_ge fx d12_isFresh_5 (fun c6 => ?_) (fun c6 => ?_)
      · replace e1 := zif_f c6 e1
        cases e1
        cases hl2
        exact kx4
      · replace e1 := zif_t c6 e1
        refine z_aload_n fx (k := 0) (i := 0) rfl rfl d12_isFresh_8 ?_
        refine z_iload_n fx (k := 1) (i := 1) rfl rfl d12_isFresh_9 ?_
        refine z_iload_n fx (k := 2) (i := 2) rfl rfl d12_isFresh_10 ?_
        refine z_iconst fx (v := 0) ic0 d12_isFresh_11 ?_
        obtain ⟨μ5, e7, e1⟩ := zinv e1
        refine z_cVv fx (c12_sets (zLo X) (zDo X) Sh top hO o_ v_p v_k_1 0 μ2 _ ho e7) mv12_sets ml12_344 ho rfl rfl rfl rfl d12_isFresh_12 ?_
        obtain ⟨v_k_6, e8, e1⟩ := zinv e1
        replace e8 := Option.some.inj e8
        refine z_iinc fx (i := 2) (x := v_k_1) (v := v_k_6) rfl (by rw [in1]; exact e8) rfl (lv' := [(0, .ref o_), (1, .int v_p), (2, .int v_k_6)]) rfl rfl d12_isFresh_15 ?_
        cases e1
        refine z_goto fx d12_isFresh_18 ?_
        exact ih5 _ _ hl2
  exact klr3 _ _ _ e9
theorem d12_comesUp_0 : zd cX12_comesUp 0 (.aload_n 0) 1 1 := by decide +kernel
theorem d12_comesUp_1 : zd cX12_comesUp 1 (.iload_n 1) 1 2 := by decide +kernel
theorem d12_comesUp_2 : zd cX12_comesUp 2 (.invokevirtual 363) 3 5 := by decide +kernel
theorem d12_comesUp_5 : zd cX12_comesUp 5 (.aload_n 0) 1 6 := by decide +kernel
theorem d12_comesUp_6 : zd cX12_comesUp 6 (.iload_n 1) 1 7 := by decide +kernel
theorem d12_comesUp_7 : zd cX12_comesUp 7 (.iconst 5) 1 8 := by decide +kernel
theorem d12_comesUp_8 : zd cX12_comesUp 8 (.aload_n 0) 1 9 := by decide +kernel
theorem d12_comesUp_9 : zd cX12_comesUp 9 (.getfield 41) 3 12 := by decide +kernel
theorem d12_comesUp_12 : zd cX12_comesUp 12 (.iconst 2) 1 13 := by decide +kernel
theorem d12_comesUp_13 : zd cX12_comesUp 13 (.aload_n 0) 1 14 := by decide +kernel
theorem d12_comesUp_14 : zd cX12_comesUp 14 (.getfield 56) 3 17 := by decide +kernel
theorem d12_comesUp_17 : zd cX12_comesUp 17 (.iload_n 1) 1 18 := by decide +kernel
theorem d12_comesUp_18 : zd cX12_comesUp 18 (.iaload) 1 19 := by decide +kernel
theorem d12_comesUp_19 : zd cX12_comesUp 19 (.imul) 1 20 := by decide +kernel
theorem d12_comesUp_20 : zd cX12_comesUp 20 (.aload_n 0) 1 21 := by decide +kernel
theorem d12_comesUp_21 : zd cX12_comesUp 21 (.getfield 59) 3 24 := by decide +kernel
theorem d12_comesUp_24 : zd cX12_comesUp 24 (.iload_n 1) 1 25 := by decide +kernel
theorem d12_comesUp_25 : zd cX12_comesUp 25 (.iaload) 1 26 := by decide +kernel
theorem d12_comesUp_26 : zd cX12_comesUp 26 (.iadd) 1 27 := by decide +kernel
theorem d12_comesUp_27 : zd cX12_comesUp 27 (.iaload) 1 28 := by decide +kernel
theorem d12_comesUp_28 : zd cX12_comesUp 28 (.invokevirtual 344) 3 31 := by decide +kernel
theorem d12_comesUp_31 : zd cX12_comesUp 31 (.return_) 1 32 := by decide +kernel
set_option maxHeartbeats 4000000 in
set_option maxRecDepth 20000 in
theorem c12_comesUp (l : Launch) (D : zDt) (Sh : zSh) (top : Nat) (hO : zOK Sh) (o_ : Nat) (v_p : Int32) (μ : zM) (μ_ : zM) (ho : (Sh o_).1 = 19) (h : f12_comesUp o_ v_p μ = some μ_) : zMet l D zK1 yX12_comesUp cX12_comesUp 2 none (zrm 3 67) [.ref o_, .int v_p] Sh top μ none Sh top μ_ 0 0 := by
  refine zMet_of (by decide) (Nat.le_of_ble_eq_true rfl) fun X hX1 hX2 fx fin => ?_
  subst hX1; subst hX2
  replace fx : zFix X cX12_comesUp RX12 (zrm 3 67) 2 := fx
  show zZ zK1 X (zT0 Sh top) μ 0 [(0, .ref o_), (1, .int v_p)] []
  unfold f12_comesUp at h
  refine z_aload_n fx (k := 0) (i := 0) rfl rfl d12_comesUp_0 ?_
  refine z_iload_n fx (k := 1) (i := 1) rfl rfl d12_comesUp_1 ?_
  obtain ⟨μ1, e1, h⟩ := zinv h
  refine z_cVv fx (c12_isFresh (zLo X) (zDo X) Sh top hO o_ v_p μ _ ho e1) mv12_isFresh ml12_363 ho rfl rfl rfl rfl d12_comesUp_2 ?_
  refine z_aload_n fx (k := 0) (i := 0) rfl rfl d12_comesUp_5 ?_
  refine z_iload_n fx (k := 1) (i := 1) rfl rfl d12_comesUp_6 ?_
  refine z_iconst fx (v := 5) ic5 d12_comesUp_7 ?_
  refine z_aload_n fx (k := 0) (i := 0) rfl rfl d12_comesUp_8 ?_
  refine z_getO fx 12 10 5 ho lf12_41 fk12_10 d12_comesUp_9 ?_
  refine z_iconst fx (v := 2) ic2 d12_comesUp_12 ?_
  refine z_aload_n fx (k := 0) (i := 0) rfl rfl d12_comesUp_13 ?_
  refine z_getO fx 12 15 10 ho lf12_56 fk12_15 d12_comesUp_14 ?_
  refine z_iload_n fx (k := 1) (i := 1) rfl rfl d12_comesUp_17 ?_
  obtain ⟨t2, e2, h⟩ := zinv h
  refine z_iald fx (ok12_15 hO ho) e2 d12_comesUp_18 ?_
  refine z_imul fx d12_comesUp_19 ?_
  refine z_aload_n fx (k := 0) (i := 0) rfl rfl d12_comesUp_20 ?_
  refine z_getO fx 12 16 11 ho lf12_59 fk12_16 d12_comesUp_21 ?_
  refine z_iload_n fx (k := 1) (i := 1) rfl rfl d12_comesUp_24 ?_
  obtain ⟨t3, e3, h⟩ := zinv h
  refine z_iald fx (ok12_16 hO ho) e3 d12_comesUp_25 ?_
  refine z_iadd fx d12_comesUp_26 ?_
  obtain ⟨t4, e4, h⟩ := zinv h
  refine z_iald fx (ok12_10 hO ho) e4 d12_comesUp_27 ?_
  obtain ⟨μ5, e5, h⟩ := zinv h
  refine z_cVv fx (c12_sets (zLo X) (zDo X) Sh top hO o_ v_p 5 t4 μ1 _ ho e5) mv12_sets ml12_344 ho rfl rfl rfl rfl d12_comesUp_28 ?_
  cases h
  exact z_return fx fin d12_comesUp_31
theorem d12_idOf_0 : zd cX12_idOf 0 (.bipush 16) 2 2 := by decide +kernel
theorem d12_idOf_2 : zd cX12_idOf 2 (.aload_n 0) 1 3 := by decide +kernel
theorem d12_idOf_3 : zd cX12_idOf 3 (.iload_n 1) 1 4 := by decide +kernel
theorem d12_idOf_4 : zd cX12_idOf 4 (.iconst 1) 1 5 := by decide +kernel
theorem d12_idOf_5 : zd cX12_idOf 5 (.invokevirtual 319) 3 8 := by decide +kernel
theorem d12_idOf_8 : zd cX12_idOf 8 (.imul) 1 9 := by decide +kernel
theorem d12_idOf_9 : zd cX12_idOf 9 (.iload_n 1) 1 10 := by decide +kernel
theorem d12_idOf_10 : zd cX12_idOf 10 (.iadd) 1 11 := by decide +kernel
theorem d12_idOf_11 : zd cX12_idOf 11 (.ireturn) 1 12 := by decide +kernel
set_option maxHeartbeats 4000000 in
set_option maxRecDepth 20000 in
theorem c12_idOf (l : Launch) (D : zDt) (Sh : zSh) (top : Nat) (hO : zOK Sh) (o_ : Nat) (v_b : Int32) (μ : zM) (r_ : Int32) (ho : (Sh o_).1 = 19) (h : f12_idOf o_ v_b μ = some r_) : zMet l D zK1 yX12_idOf cX12_idOf 2 (some .int) (zrm 2 43) [.ref o_, .int v_b] Sh top μ (some (.int r_)) Sh top μ 0 0 := by
  refine zMet_of (by decide) (Nat.le_of_ble_eq_true rfl) fun X hX1 hX2 fx fin => ?_
  subst hX1; subst hX2
  replace fx : zFix X cX12_idOf RX12 (zrm 2 43) 2 := fx
  show zZ zK1 X (zT0 Sh top) μ 0 [(0, .ref o_), (1, .int v_b)] []
  unfold f12_idOf at h
  refine z_bipush fx (v := 16) bp16 d12_idOf_0 ?_
  refine z_aload_n fx (k := 0) (i := 0) rfl rfl d12_idOf_2 ?_
  refine z_iload_n fx (k := 1) (i := 1) rfl rfl d12_idOf_3 ?_
  refine z_iconst fx (v := 1) ic1 d12_idOf_4 ?_
  obtain ⟨t1, e1, h⟩ := zinv h
  refine z_cVr fx (c12_of (zLo X) (zDo X) Sh top hO o_ v_b 1 μ _ ho e1) mv12_of ml12_319 ho rfl rfl rfl rfl d12_idOf_5 ?_
  refine z_imul fx d12_idOf_8 ?_
  refine z_iload_n fx (k := 1) (i := 1) rfl rfl d12_idOf_9 ?_
  refine z_iadd fx d12_idOf_10 ?_
  cases h
  exact z_ireturn fx fin d12_idOf_11
theorem d12_isUp_0 : zd cX12_isUp 0 (.aload_n 0) 1 1 := by decide +kernel
theorem d12_isUp_1 : zd cX12_isUp 1 (.aload_n 0) 1 2 := by decide +kernel
theorem d12_isUp_2 : zd cX12_isUp 2 (.getfield 56) 3 5 := by decide +kernel
theorem d12_isUp_5 : zd cX12_isUp 5 (.iload_n 1) 1 6 := by decide +kernel
theorem d12_isUp_6 : zd cX12_isUp 6 (.iaload) 1 7 := by decide +kernel
theorem d12_isUp_7 : zd cX12_isUp 7 (.invokevirtual 331) 3 10 := by decide +kernel
theorem d12_isUp_10 : zd cX12_isUp 10 (.ireturn) 1 11 := by decide +kernel
set_option maxHeartbeats 4000000 in
set_option maxRecDepth 20000 in
theorem c12_isUp (l : Launch) (D : zDt) (Sh : zSh) (top : Nat) (hO : zOK Sh) (o_ : Nat) (v_p : Int32) (μ : zM) (r_ : Bool) (ho : (Sh o_).1 = 19) (h : f12_isUp o_ v_p μ = some r_) : zMet l D zK1 yX12_isUp cX12_isUp 2 (some .boolean) (zrm 4 85) [.ref o_, .int v_p] Sh top μ (some (.int (bI r_))) Sh top μ 0 0 := by
  refine zMet_of (by decide) (Nat.le_of_ble_eq_true rfl) fun X hX1 hX2 fx fin => ?_
  subst hX1; subst hX2
  replace fx : zFix X cX12_isUp RX12 (zrm 4 85) 2 := fx
  show zZ zK1 X (zT0 Sh top) μ 0 [(0, .ref o_), (1, .int v_p)] []
  unfold f12_isUp at h
  refine z_aload_n fx (k := 0) (i := 0) rfl rfl d12_isUp_0 ?_
  refine z_aload_n fx (k := 0) (i := 0) rfl rfl d12_isUp_1 ?_
  refine z_getO fx 12 15 10 ho lf12_56 fk12_15 d12_isUp_2 ?_
  refine z_iload_n fx (k := 1) (i := 1) rfl rfl d12_isUp_5 ?_
  obtain ⟨t1, e1, h⟩ := zinv h
  refine z_iald fx (ok12_15 hO ho) e1 d12_isUp_6 ?_
  obtain ⟨t2, e2, h⟩ := zinv h
  refine z_cVr fx (c12_isUpLink (zLo X) (zDo X) Sh top hO o_ t1 μ _ ho e2) mv12_isUpLink ml12_331 ho rfl rfl rfl rfl d12_isUp_7 ?_
  cases h
  exact z_zreturn fx fin d12_isUp_10
theorem d12_portOf_0 : zd cX12_portOf 0 (.aload_n 0) 1 1 := by decide +kernel
theorem d12_portOf_1 : zd cX12_portOf 1 (.bipush 100) 2 3 := by decide +kernel
theorem d12_portOf_3 : zd cX12_portOf 3 (.bipush 18) 2 5 := by decide +kernel
theorem d12_portOf_5 : zd cX12_portOf 5 (.iload_n 1) 1 6 := by decide +kernel
theorem d12_portOf_6 : zd cX12_portOf 6 (.imul) 1 7 := by decide +kernel
theorem d12_portOf_7 : zd cX12_portOf 7 (.iadd) 1 8 := by decide +kernel
theorem d12_portOf_8 : zd cX12_portOf 8 (.iload_n 2) 1 9 := by decide +kernel
theorem d12_portOf_9 : zd cX12_portOf 9 (.iadd) 1 10 := by decide +kernel
theorem d12_portOf_10 : zd cX12_portOf 10 (.invokevirtual 316) 3 13 := by decide +kernel
theorem d12_portOf_13 : zd cX12_portOf 13 (.ireturn) 1 14 := by decide +kernel
set_option maxHeartbeats 4000000 in
set_option maxRecDepth 20000 in
theorem c12_portOf (l : Launch) (D : zDt) (Sh : zSh) (top : Nat) (hO : zOK Sh) (o_ : Nat) (v_p : Int32) (v_what : Int32) (μ : zM) (r_ : Int32) (ho : (Sh o_).1 = 19) (h : f12_portOf o_ v_p v_what μ = some r_) : zMet l D zK1 yX12_portOf cX12_portOf 3 (some .int) (zrm 1 21) [.ref o_, .int v_p, .int v_what] Sh top μ (some (.int r_)) Sh top μ 0 0 := by
  refine zMet_of (by decide) (Nat.le_of_ble_eq_true rfl) fun X hX1 hX2 fx fin => ?_
  subst hX1; subst hX2
  replace fx : zFix X cX12_portOf RX12 (zrm 1 21) 3 := fx
  show zZ zK1 X (zT0 Sh top) μ 0 [(0, .ref o_), (1, .int v_p), (2, .int v_what)] []
  unfold f12_portOf at h
  refine z_aload_n fx (k := 0) (i := 0) rfl rfl d12_portOf_0 ?_
  refine z_bipush fx (v := 100) bp100 d12_portOf_1 ?_
  refine z_bipush fx (v := 18) bp18 d12_portOf_3 ?_
  refine z_iload_n fx (k := 1) (i := 1) rfl rfl d12_portOf_5 ?_
  refine z_imul fx d12_portOf_6 ?_
  refine z_iadd fx d12_portOf_7 ?_
  refine z_iload_n fx (k := 2) (i := 2) rfl rfl d12_portOf_8 ?_
  refine z_iadd fx d12_portOf_9 ?_
  obtain ⟨t1, e1, h⟩ := zinv h
  refine z_cVr fx (c12_its (zLo X) (zDo X) Sh top hO o_ ((100 + (18 * v_p)) + v_what) μ _ ho e1) mv12_its ml12_316 ho rfl rfl rfl rfl d12_portOf_10 ?_
  cases h
  exact z_ireturn fx fin d12_portOf_13
theorem d12_isLess_0 : zd cX12_isLess 0 (.iload_n 0) 1 1 := by decide +kernel
theorem d12_isLess_1 : zd cX12_isLess 1 (.iload 4) 2 3 := by decide +kernel
theorem d12_isLess_3 : zj cX12_isLess 3 (.if_icmp .eq 15) 15 6 18 := by decide +kernel
theorem d12_isLess_6 : zd cX12_isLess 6 (.iload_n 0) 1 7 := by decide +kernel
theorem d12_isLess_7 : zd cX12_isLess 7 (.iload 4) 2 9 := by decide +kernel
theorem d12_isLess_9 : zj cX12_isLess 9 (.if_icmp .ge 7) 7 12 16 := by decide +kernel
theorem d12_isLess_12 : zd cX12_isLess 12 (.iconst 1) 1 13 := by decide +kernel
theorem d12_isLess_13 : zj cX12_isLess 13 (.goto 4) 4 16 17 := by decide +kernel
theorem d12_isLess_16 : zd cX12_isLess 16 (.iconst 0) 1 17 := by decide +kernel
theorem d12_isLess_17 : zd cX12_isLess 17 (.ireturn) 1 18 := by decide +kernel
theorem d12_isLess_18 : zd cX12_isLess 18 (.iload_n 1) 1 19 := by decide +kernel
theorem d12_isLess_19 : zd cX12_isLess 19 (.iload 5) 2 21 := by decide +kernel
theorem d12_isLess_21 : zj cX12_isLess 21 (.if_icmp .eq 15) 15 24 36 := by decide +kernel
theorem d12_isLess_24 : zd cX12_isLess 24 (.iload_n 1) 1 25 := by decide +kernel
theorem d12_isLess_25 : zd cX12_isLess 25 (.iload 5) 2 27 := by decide +kernel
theorem d12_isLess_27 : zj cX12_isLess 27 (.if_icmp .ge 7) 7 30 34 := by decide +kernel
theorem d12_isLess_30 : zd cX12_isLess 30 (.iconst 1) 1 31 := by decide +kernel
theorem d12_isLess_31 : zj cX12_isLess 31 (.goto 4) 4 34 35 := by decide +kernel
theorem d12_isLess_34 : zd cX12_isLess 34 (.iconst 0) 1 35 := by decide +kernel
theorem d12_isLess_35 : zd cX12_isLess 35 (.ireturn) 1 36 := by decide +kernel
theorem d12_isLess_36 : zd cX12_isLess 36 (.iload_n 2) 1 37 := by decide +kernel
theorem d12_isLess_37 : zd cX12_isLess 37 (.iload 6) 2 39 := by decide +kernel
theorem d12_isLess_39 : zj cX12_isLess 39 (.if_icmp .eq 15) 15 42 54 := by decide +kernel
theorem d12_isLess_42 : zd cX12_isLess 42 (.iload_n 2) 1 43 := by decide +kernel
theorem d12_isLess_43 : zd cX12_isLess 43 (.iload 6) 2 45 := by decide +kernel
theorem d12_isLess_45 : zj cX12_isLess 45 (.if_icmp .ge 7) 7 48 52 := by decide +kernel
theorem d12_isLess_48 : zd cX12_isLess 48 (.iconst 1) 1 49 := by decide +kernel
theorem d12_isLess_49 : zj cX12_isLess 49 (.goto 4) 4 52 53 := by decide +kernel
theorem d12_isLess_52 : zd cX12_isLess 52 (.iconst 0) 1 53 := by decide +kernel
theorem d12_isLess_53 : zd cX12_isLess 53 (.ireturn) 1 54 := by decide +kernel
theorem d12_isLess_54 : zd cX12_isLess 54 (.iload_n 3) 1 55 := by decide +kernel
theorem d12_isLess_55 : zd cX12_isLess 55 (.iload 7) 2 57 := by decide +kernel
theorem d12_isLess_57 : zj cX12_isLess 57 (.if_icmp .ge 7) 7 60 64 := by decide +kernel
theorem d12_isLess_60 : zd cX12_isLess 60 (.iconst 1) 1 61 := by decide +kernel
theorem d12_isLess_61 : zj cX12_isLess 61 (.goto 4) 4 64 65 := by decide +kernel
theorem d12_isLess_64 : zd cX12_isLess 64 (.iconst 0) 1 65 := by decide +kernel
theorem d12_isLess_65 : zd cX12_isLess 65 (.ireturn) 1 66 := by decide +kernel
set_option maxHeartbeats 4000000 in
set_option maxRecDepth 20000 in
theorem c12_isLess (l : Launch) (D : zDt) (Sh : zSh) (top : Nat) (hO : zOK Sh) (v_a : Int32) (v_b : Int32) (v_c : Int32) (v_d : Int32) (v_a1 : Int32) (v_b1 : Int32) (v_c1 : Int32) (v_d1 : Int32) (μ : zM) (r_ : Bool)  (h : f12_isLess v_a v_b v_c v_d v_a1 v_b1 v_c1 v_d1 μ = some r_) : zMet l D zK1 yX12_isLess cX12_isLess 8 (some .boolean) (zrm 0 0) [.int v_a, .int v_b, .int v_c, .int v_d, .int v_a1, .int v_b1, .int v_c1, .int v_d1] Sh top μ (some (.int (bI r_))) Sh top μ 0 0 := by
  refine zMet_of (by decide) (Nat.le_of_ble_eq_true rfl) fun X hX1 hX2 fx fin => ?_
  subst hX1; subst hX2
  replace fx : zFix X cX12_isLess RX12 (zrm 0 0) 8 := fx
  show zZ zK1 X (zT0 Sh top) μ 0 [(0, .int v_a), (1, .int v_b), (2, .int v_c), (3, .int v_d), (4, .int v_a1), (5, .int v_b1), (6, .int v_c1), (7, .int v_d1)] []
  unfold f12_isLess at h
  refine z_iload_n fx (k := 0) (i := 0) rfl rfl d12_isLess_0 ?_
  refine z_iload fx (i := 4) rfl d12_isLess_1 ?_
  refine z_icmp_eq fx d12_isLess_3 (fun c1 => ?_) (fun c1 => ?_)
  · replace h := zif_t c1 h
    refine z_iload_n fx (k := 1) (i := 1) rfl rfl d12_isLess_18 ?_
    refine z_iload fx (i := 5) rfl d12_isLess_19 ?_
    refine z_icmp_eq fx d12_isLess_21 (fun c2 => ?_) (fun c2 => ?_)
    · replace h := zif_t c2 h
      refine z_iload_n fx (k := 2) (i := 2) rfl rfl d12_isLess_36 ?_
      refine z_iload fx (i := 6) rfl d12_isLess_37 ?_
      refine z_icmp_eq fx d12_isLess_39 (fun c3 => ?_) (fun c3 => ?_)
      · replace h := zif_t c3 h
        obtain ⟨b1, e4, h⟩ := zinv h
        replace e4 := Option.some.inj e4
        have k5 : zZ zK1 X (zT0 Sh top) μ 65 [(0, .int v_a), (1, .int v_b), (2, .int v_c), (3, .int v_d), (4, .int v_a1), (5, .int v_b1), (6, .int v_c1), (7, .int v_d1)] [.int (bI b1)] := by
          cases h
          exact z_zreturn fx fin d12_isLess_65
        refine z_iload_n fx (k := 3) (i := 3) rfl rfl d12_isLess_54 ?_
        refine z_iload fx (i := 7) rfl d12_isLess_55 ?_
        refine z_icmp_ge fx d12_isLess_57 (fun c6 => ?_) (fun c6 => ?_)
        · refine z_iconst fx (v := 0) ic0 d12_isLess_64 ?_
          exact z_top (congrArg Value.int (show 0 = bI b1 by rw [← e4]; simp [c6, bI])) k5
        · refine z_iconst fx (v := 1) ic1 d12_isLess_60 ?_
          refine z_goto fx d12_isLess_61 ?_
          exact z_top (congrArg Value.int (show 1 = bI b1 by rw [← e4]; simp [c6, bI])) k5
      · replace h := zif_f c3 h
        obtain ⟨b2, e7, h⟩ := zinv h
        replace e7 := Option.some.inj e7
        have k8 : zZ zK1 X (zT0 Sh top) μ 53 [(0, .int v_a), (1, .int v_b), (2, .int v_c), (3, .int v_d), (4, .int v_a1), (5, .int v_b1), (6, .int v_c1), (7, .int v_d1)] [.int (bI b2)] := by
          cases h
          exact z_zreturn fx fin d12_isLess_53
        refine z_iload_n fx (k := 2) (i := 2) rfl rfl d12_isLess_42 ?_
        refine z_iload fx (i := 6) rfl d12_isLess_43 ?_
        refine z_icmp_ge fx d12_isLess_45 (fun c9 => ?_) (fun c9 => ?_)
        · refine z_iconst fx (v := 0) ic0 d12_isLess_52 ?_
          exact z_top (congrArg Value.int (show 0 = bI b2 by rw [← e7]; simp [c9, bI])) k8
        · refine z_iconst fx (v := 1) ic1 d12_isLess_48 ?_
          refine z_goto fx d12_isLess_49 ?_
          exact z_top (congrArg Value.int (show 1 = bI b2 by rw [← e7]; simp [c9, bI])) k8
    · replace h := zif_f c2 h
      obtain ⟨b3, e10, h⟩ := zinv h
      replace e10 := Option.some.inj e10
      have k11 : zZ zK1 X (zT0 Sh top) μ 35 [(0, .int v_a), (1, .int v_b), (2, .int v_c), (3, .int v_d), (4, .int v_a1), (5, .int v_b1), (6, .int v_c1), (7, .int v_d1)] [.int (bI b3)] := by
        cases h
        exact z_zreturn fx fin d12_isLess_35
      refine z_iload_n fx (k := 1) (i := 1) rfl rfl d12_isLess_24 ?_
      refine z_iload fx (i := 5) rfl d12_isLess_25 ?_
      refine z_icmp_ge fx d12_isLess_27 (fun c12 => ?_) (fun c12 => ?_)
      · refine z_iconst fx (v := 0) ic0 d12_isLess_34 ?_
        exact z_top (congrArg Value.int (show 0 = bI b3 by rw [← e10]; simp [c12, bI])) k11
      · refine z_iconst fx (v := 1) ic1 d12_isLess_30 ?_
        refine z_goto fx d12_isLess_31 ?_
        exact z_top (congrArg Value.int (show 1 = bI b3 by rw [← e10]; simp [c12, bI])) k11
  · replace h := zif_f c1 h
    obtain ⟨b4, e13, h⟩ := zinv h
    replace e13 := Option.some.inj e13
    have k14 : zZ zK1 X (zT0 Sh top) μ 17 [(0, .int v_a), (1, .int v_b), (2, .int v_c), (3, .int v_d), (4, .int v_a1), (5, .int v_b1), (6, .int v_c1), (7, .int v_d1)] [.int (bI b4)] := by
      cases h
      exact z_zreturn fx fin d12_isLess_17
    refine z_iload_n fx (k := 0) (i := 0) rfl rfl d12_isLess_6 ?_
    refine z_iload fx (i := 4) rfl d12_isLess_7 ?_
    refine z_icmp_ge fx d12_isLess_9 (fun c15 => ?_) (fun c15 => ?_)
    · refine z_iconst fx (v := 0) ic0 d12_isLess_16 ?_
      exact z_top (congrArg Value.int (show 0 = bI b4 by rw [← e13]; simp [c15, bI])) k14
    · refine z_iconst fx (v := 1) ic1 d12_isLess_12 ?_
      refine z_goto fx d12_isLess_13 ?_
      exact z_top (congrArg Value.int (show 1 = bI b4 by rw [← e13]; simp [c15, bI])) k14
theorem d12_leastPort_0 : zd cX12_leastPort 0 (.aload_n 0) 1 1 := by decide +kernel
theorem d12_leastPort_1 : zd cX12_leastPort 1 (.iload_n 1) 1 2 := by decide +kernel
theorem d12_leastPort_2 : zd cX12_leastPort 2 (.invokevirtual 337) 3 5 := by decide +kernel
theorem d12_leastPort_5 : zd cX12_leastPort 5 (.istore_n 2) 1 6 := by decide +kernel
theorem d12_leastPort_6 : zd cX12_leastPort 6 (.iconst (-1)) 1 7 := by decide +kernel
theorem d12_leastPort_7 : zd cX12_leastPort 7 (.istore_n 3) 1 8 := by decide +kernel
theorem d12_leastPort_8 : zd cX12_leastPort 8 (.iload_n 1) 1 9 := by decide +kernel
theorem d12_leastPort_9 : zd cX12_leastPort 9 (.iconst 0) 1 10 := by decide +kernel
theorem d12_leastPort_10 : zd cX12_leastPort 10 (.invokestatic 325) 3 13 := by decide +kernel
theorem d12_leastPort_13 : zd cX12_leastPort 13 (.istore 4) 2 15 := by decide +kernel
theorem d12_leastPort_15 : zd cX12_leastPort 15 (.iload 4) 2 17 := by decide +kernel
theorem d12_leastPort_17 : zd cX12_leastPort 17 (.iload_n 1) 1 18 := by decide +kernel
theorem d12_leastPort_18 : zd cX12_leastPort 18 (.aload_n 0) 1 19 := by decide +kernel
theorem d12_leastPort_19 : zd cX12_leastPort 19 (.getfield 35) 3 22 := by decide +kernel
theorem d12_leastPort_22 : zd cX12_leastPort 22 (.iload_n 1) 1 23 := by decide +kernel
theorem d12_leastPort_23 : zd cX12_leastPort 23 (.iaload) 1 24 := by decide +kernel
theorem d12_leastPort_24 : zd cX12_leastPort 24 (.invokestatic 325) 3 27 := by decide +kernel
theorem d12_leastPort_27 : zj cX12_leastPort 27 (.if_icmp .ge 143) 143 30 170 := by decide +kernel
theorem d12_leastPort_30 : zd cX12_leastPort 30 (.aload_n 0) 1 31 := by decide +kernel
theorem d12_leastPort_31 : zd cX12_leastPort 31 (.iload 4) 2 33 := by decide +kernel
theorem d12_leastPort_33 : zd cX12_leastPort 33 (.invokevirtual 393) 3 36 := by decide +kernel
theorem d12_leastPort_36 : zj cX12_leastPort 36 (.ifCond .eq 128) 128 39 164 := by decide +kernel
theorem d12_leastPort_39 : zd cX12_leastPort 39 (.aload_n 0) 1 40 := by decide +kernel
theorem d12_leastPort_40 : zd cX12_leastPort 40 (.iload 4) 2 42 := by decide +kernel
theorem d12_leastPort_42 : zd cX12_leastPort 42 (.bipush 10) 2 44 := by decide +kernel
theorem d12_leastPort_44 : zd cX12_leastPort 44 (.invokevirtual 334) 3 47 := by decide +kernel
theorem d12_leastPort_47 : zj cX12_leastPort 47 (.ifCond .eq 117) 117 50 164 := by decide +kernel
theorem d12_leastPort_50 : zd cX12_leastPort 50 (.aload_n 0) 1 51 := by decide +kernel
theorem d12_leastPort_51 : zd cX12_leastPort 51 (.iload 4) 2 53 := by decide +kernel
theorem d12_leastPort_53 : zd cX12_leastPort 53 (.bipush 13) 2 55 := by decide +kernel
theorem d12_leastPort_55 : zd cX12_leastPort 55 (.invokevirtual 334) 3 58 := by decide +kernel
theorem d12_leastPort_58 : zd cX12_leastPort 58 (.iload_n 2) 1 59 := by decide +kernel
theorem d12_leastPort_59 : zj cX12_leastPort 59 (.if_icmp .ne 6) 6 62 65 := by decide +kernel
theorem d12_leastPort_62 : zj cX12_leastPort 62 (.goto 102) 102 65 164 := by decide +kernel
theorem d12_leastPort_65 : zd cX12_leastPort 65 (.iload_n 3) 1 66 := by decide +kernel
theorem d12_leastPort_66 : zd cX12_leastPort 66 (.iconst (-1)) 1 67 := by decide +kernel
theorem d12_leastPort_67 : zj cX12_leastPort 67 (.if_icmp .eq 94) 94 70 161 := by decide +kernel
theorem d12_leastPort_70 : zd cX12_leastPort 70 (.aload_n 0) 1 71 := by decide +kernel
theorem d12_leastPort_71 : zd cX12_leastPort 71 (.iload 4) 2 73 := by decide +kernel
theorem d12_leastPort_73 : zd cX12_leastPort 73 (.bipush 11) 2 75 := by decide +kernel
theorem d12_leastPort_75 : zd cX12_leastPort 75 (.invokevirtual 334) 3 78 := by decide +kernel
theorem d12_leastPort_78 : zd cX12_leastPort 78 (.aload_n 0) 1 79 := by decide +kernel
theorem d12_leastPort_79 : zd cX12_leastPort 79 (.iload 4) 2 81 := by decide +kernel
theorem d12_leastPort_81 : zd cX12_leastPort 81 (.bipush 12) 2 83 := by decide +kernel
theorem d12_leastPort_83 : zd cX12_leastPort 83 (.invokevirtual 334) 3 86 := by decide +kernel
theorem d12_leastPort_86 : zd cX12_leastPort 86 (.aload_n 0) 1 87 := by decide +kernel
theorem d12_leastPort_87 : zd cX12_leastPort 87 (.getfield 44) 3 90 := by decide +kernel
theorem d12_leastPort_90 : zd cX12_leastPort 90 (.aload_n 0) 1 91 := by decide +kernel
theorem d12_leastPort_91 : zd cX12_leastPort 91 (.getfield 56) 3 94 := by decide +kernel
theorem d12_leastPort_94 : zd cX12_leastPort 94 (.iload 4) 2 96 := by decide +kernel
theorem d12_leastPort_96 : zd cX12_leastPort 96 (.iaload) 1 97 := by decide +kernel
theorem d12_leastPort_97 : zd cX12_leastPort 97 (.iaload) 1 98 := by decide +kernel
theorem d12_leastPort_98 : zd cX12_leastPort 98 (.iadd) 1 99 := by decide +kernel
theorem d12_leastPort_99 : zd cX12_leastPort 99 (.aload_n 0) 1 100 := by decide +kernel
theorem d12_leastPort_100 : zd cX12_leastPort 100 (.iload 4) 2 102 := by decide +kernel
theorem d12_leastPort_102 : zd cX12_leastPort 102 (.bipush 13) 2 104 := by decide +kernel
theorem d12_leastPort_104 : zd cX12_leastPort 104 (.invokevirtual 334) 3 107 := by decide +kernel
theorem d12_leastPort_107 : zd cX12_leastPort 107 (.aload_n 0) 1 108 := by decide +kernel
theorem d12_leastPort_108 : zd cX12_leastPort 108 (.iload 4) 2 110 := by decide +kernel
theorem d12_leastPort_110 : zd cX12_leastPort 110 (.bipush 14) 2 112 := by decide +kernel
theorem d12_leastPort_112 : zd cX12_leastPort 112 (.invokevirtual 334) 3 115 := by decide +kernel
theorem d12_leastPort_115 : zd cX12_leastPort 115 (.aload_n 0) 1 116 := by decide +kernel
theorem d12_leastPort_116 : zd cX12_leastPort 116 (.iload_n 3) 1 117 := by decide +kernel
theorem d12_leastPort_117 : zd cX12_leastPort 117 (.bipush 11) 2 119 := by decide +kernel
theorem d12_leastPort_119 : zd cX12_leastPort 119 (.invokevirtual 334) 3 122 := by decide +kernel
theorem d12_leastPort_122 : zd cX12_leastPort 122 (.aload_n 0) 1 123 := by decide +kernel
theorem d12_leastPort_123 : zd cX12_leastPort 123 (.iload_n 3) 1 124 := by decide +kernel
theorem d12_leastPort_124 : zd cX12_leastPort 124 (.bipush 12) 2 126 := by decide +kernel
theorem d12_leastPort_126 : zd cX12_leastPort 126 (.invokevirtual 334) 3 129 := by decide +kernel
theorem d12_leastPort_129 : zd cX12_leastPort 129 (.aload_n 0) 1 130 := by decide +kernel
theorem d12_leastPort_130 : zd cX12_leastPort 130 (.getfield 44) 3 133 := by decide +kernel
theorem d12_leastPort_133 : zd cX12_leastPort 133 (.aload_n 0) 1 134 := by decide +kernel
theorem d12_leastPort_134 : zd cX12_leastPort 134 (.getfield 56) 3 137 := by decide +kernel
theorem d12_leastPort_137 : zd cX12_leastPort 137 (.iload_n 3) 1 138 := by decide +kernel
theorem d12_leastPort_138 : zd cX12_leastPort 138 (.iaload) 1 139 := by decide +kernel
theorem d12_leastPort_139 : zd cX12_leastPort 139 (.iaload) 1 140 := by decide +kernel
theorem d12_leastPort_140 : zd cX12_leastPort 140 (.iadd) 1 141 := by decide +kernel
theorem d12_leastPort_141 : zd cX12_leastPort 141 (.aload_n 0) 1 142 := by decide +kernel
theorem d12_leastPort_142 : zd cX12_leastPort 142 (.iload_n 3) 1 143 := by decide +kernel
theorem d12_leastPort_143 : zd cX12_leastPort 143 (.bipush 13) 2 145 := by decide +kernel
theorem d12_leastPort_145 : zd cX12_leastPort 145 (.invokevirtual 334) 3 148 := by decide +kernel
theorem d12_leastPort_148 : zd cX12_leastPort 148 (.aload_n 0) 1 149 := by decide +kernel
theorem d12_leastPort_149 : zd cX12_leastPort 149 (.iload_n 3) 1 150 := by decide +kernel
theorem d12_leastPort_150 : zd cX12_leastPort 150 (.bipush 14) 2 152 := by decide +kernel
theorem d12_leastPort_152 : zd cX12_leastPort 152 (.invokevirtual 334) 3 155 := by decide +kernel
theorem d12_leastPort_155 : zd cX12_leastPort 155 (.invokestatic 340) 3 158 := by decide +kernel
theorem d12_leastPort_158 : zj cX12_leastPort 158 (.ifCond .eq 6) 6 161 164 := by decide +kernel
theorem d12_leastPort_161 : zd cX12_leastPort 161 (.iload 4) 2 163 := by decide +kernel
theorem d12_leastPort_163 : zd cX12_leastPort 163 (.istore_n 3) 1 164 := by decide +kernel
theorem d12_leastPort_164 : zd cX12_leastPort 164 (.iinc 4 1) 3 167 := by decide +kernel
theorem d12_leastPort_167 : zj cX12_leastPort 167 (.goto (-152)) (-152) 170 15 := by decide +kernel
theorem d12_leastPort_170 : zd cX12_leastPort 170 (.iload_n 3) 1 171 := by decide +kernel
theorem d12_leastPort_171 : zd cX12_leastPort 171 (.iconst (-1)) 1 172 := by decide +kernel
theorem d12_leastPort_172 : zj cX12_leastPort 172 (.if_icmp .eq 18) 18 175 190 := by decide +kernel
theorem d12_leastPort_175 : zd cX12_leastPort 175 (.aload_n 0) 1 176 := by decide +kernel
theorem d12_leastPort_176 : zd cX12_leastPort 176 (.iload_n 3) 1 177 := by decide +kernel
theorem d12_leastPort_177 : zd cX12_leastPort 177 (.bipush 11) 2 179 := by decide +kernel
theorem d12_leastPort_179 : zd cX12_leastPort 179 (.invokevirtual 334) 3 182 := by decide +kernel
theorem d12_leastPort_182 : zd cX12_leastPort 182 (.iload_n 2) 1 183 := by decide +kernel
theorem d12_leastPort_183 : zj cX12_leastPort 183 (.if_icmp .ge 7) 7 186 190 := by decide +kernel
theorem d12_leastPort_186 : zd cX12_leastPort 186 (.iload_n 3) 1 187 := by decide +kernel
theorem d12_leastPort_187 : zj cX12_leastPort 187 (.goto 4) 4 190 191 := by decide +kernel
theorem d12_leastPort_190 : zd cX12_leastPort 190 (.iconst (-1)) 1 191 := by decide +kernel
theorem d12_leastPort_191 : zd cX12_leastPort 191 (.ireturn) 1 192 := by decide +kernel
set_option maxHeartbeats 4000000 in
set_option maxRecDepth 20000 in
theorem c12_leastPort (l : Launch) (D : zDt) (Sh : zSh) (top : Nat) (hO : zOK Sh) (o_ : Nat) (v_b : Int32) (μ : zM) (r_ : Int32) (ho : (Sh o_).1 = 19) (h : f12_leastPort o_ v_b μ = some r_) : zMet l D zK1 yX12_leastPort cX12_leastPort 5 (some .int) (zrm 5 106) [.ref o_, .int v_b] Sh top μ (some (.int r_)) Sh top μ 0 0 := by
  refine zMet_of (by decide) (Nat.le_of_ble_eq_true rfl) fun X hX1 hX2 fx fin => ?_
  subst hX1; subst hX2
  replace fx : zFix X cX12_leastPort RX12 (zrm 5 106) 5 := fx
  show zZ zK1 X (zT0 Sh top) μ 0 [(0, .ref o_), (1, .int v_b)] []
  unfold f12_leastPort at h
  refine z_aload_n fx (k := 0) (i := 0) rfl rfl d12_leastPort_0 ?_
  refine z_iload_n fx (k := 1) (i := 1) rfl rfl d12_leastPort_1 ?_
  obtain ⟨t1, e1, h⟩ := zinv h
  refine z_cVr fx (c12_idOf (zLo X) (zDo X) Sh top hO o_ v_b μ _ ho e1) mv12_idOf ml12_337 ho rfl rfl rfl rfl d12_leastPort_2 ?_
  refine z_istore_n fx (k := 2) (i := 2) rfl rfl (lv' := [(0, .ref o_), (1, .int v_b), (2, .int t1)]) rfl rfl d12_leastPort_5 ?_
  refine z_iconst fx (v := (-1)) icm1 d12_leastPort_6 ?_
  refine z_istore_n fx (k := 3) (i := 3) rfl rfl (lv' := [(0, .ref o_), (1, .int v_b), (2, .int t1), (3, .int (-1))]) rfl rfl d12_leastPort_7 ?_
  refine z_iload_n fx (k := 1) (i := 1) rfl rfl d12_leastPort_8 ?_
  refine z_iconst fx (v := 0) ic0 d12_leastPort_9 ?_
  obtain ⟨t2, e2, h⟩ := zinv h
  refine z_cSr fx (c12_placeOf (zLo X) (zDo X) Sh top hO v_b 0 μ _  e2) ms12_placeOf ml12_325 rfl rfl rfl rfl d12_leastPort_10 ?_
  refine z_istore fx (i := 4) rfl (lv' := [(0, .ref o_), (1, .int v_b), (2, .int t1), (3, .int (-1)), (4, .int t2)]) rfl rfl d12_leastPort_13 ?_
  obtain ⟨v_best_5, v_p_6, e50, h⟩ := zinv2 h
  have kx6 : zZ zK1 X (zT0 Sh top) μ 170 [(0, .ref o_), (1, .int v_b), (2, .int t1), (3, .int v_best_5), (4, .int v_p_6)] [] := by
    refine z_take 4 (lv' := [(0, .ref o_), (1, .int v_b), (2, .int t1), (3, .int v_best_5)]) rfl ?_
    obtain ⟨x32, e43, h⟩ := zinv h
    have k44 : zZ zK1 X (zT0 Sh top) μ 191 [(0, .ref o_), (1, .int v_b), (2, .int t1), (3, .int v_best_5)] [.int x32] := by
      cases h
      exact z_ireturn fx fin d12_leastPort_191
    obtain ⟨b33, e46, e43⟩ := zinv e43
    have kt45 : b33 = true → zZ zK1 X (zT0 Sh top) μ 186 [(0, .ref o_), (1, .int v_b), (2, .int t1), (3, .int v_best_5)] [] := by
      intro hc
      replace e43 := zif_t hc e43
      refine z_iload_n fx (k := 3) (i := 3) rfl rfl d12_leastPort_186 ?_
      cases e43
      refine z_goto fx d12_leastPort_187 ?_
      exact k44
    have kf45 : b33 = false → zZ zK1 X (zT0 Sh top) μ 190 [(0, .ref o_), (1, .int v_b), (2, .int t1), (3, .int v_best_5)] [] := by
      intro hc
      replace e43 := zif_f hc e43
      refine z_iconst fx (v := (-1)) icm1 d12_leastPort_190 ?_
      cases e43
      exact k44
    clear e43
    refine z_iload_n fx (k := 3) (i := 3) rfl rfl d12_leastPort_170 ?_
    refine z_iconst fx (v := (-1)) icm1 d12_leastPort_171 ?_
    refine z_icmp_eq fx d12_leastPort_172 (fun c47 => ?_) (fun c47 => ?_)
    · replace e46 := zif_t c47 e46
      cases e46
      exact kf45 rfl
    · replace e46 := zif_f c47 e46
      refine z_aload_n fx (k := 0) (i := 0) rfl rfl d12_leastPort_175 ?_
      refine z_iload_n fx (k := 3) (i := 3) rfl rfl d12_leastPort_176 ?_
      refine z_bipush fx (v := 11) bp11 d12_leastPort_177 ?_
      obtain ⟨t34, e48, e46⟩ := zinv e46
      refine z_cVr fx (c12_portOf (zLo X) (zDo X) Sh top hO o_ v_best_5 11 μ _ ho e48) mv12_portOf ml12_334 ho rfl rfl rfl rfl d12_leastPort_179 ?_
      refine z_iload_n fx (k := 2) (i := 2) rfl rfl d12_leastPort_182 ?_
      cases e46
      refine z_icmp_ge fx d12_leastPort_183 (fun c49 => ?_) (fun c49 => ?_)
      · exact kf45 c49
      · exact kt45 c49
  clear h
  have klr5 : ∀ (n : Nat) (v_best_3 : Int32) (v_p_4 : Int32), zloop (fun s => f12_leastPort_L1 o_ v_b μ t1 s.1 s.2) n (v_best_3, v_p_4) = some (v_best_5, v_p_6) → zZ zK1 X (zT0 Sh top) μ 15 [(0, .ref o_), (1, .int v_b), (2, .int t1), (3, .int v_best_3), (4, .int v_p_4)] [] := by
    intro n
    induction n with
    | zero => intro v_best_3 v_p_4 hl4; cases hl4
    | succ n ih7 =>
      intro v_best_3 v_p_4 hl4
      obtain ⟨y, e3, hl4⟩ := zloop_inv hl4
      replace e3 : f12_leastPort_L1 o_ v_b μ t1 v_best_3 v_p_4 = some y := e3
      unfold f12_leastPort_L1 at e3
      refine z_iload fx (i := 4) rfl d12_leastPort_15 ?_
      refine z_iload_n fx (k := 1) (i := 1) rfl rfl d12_leastPort_17 ?_
      refine z_aload_n fx (k := 0) (i := 0) rfl rfl d12_leastPort_18 ?_
      refine z_getO fx 12 8 3 ho lf12_35 fk12_8 d12_leastPort_19 ?_
      refine z_iload_n fx (k := 1) (i := 1) rfl rfl d12_leastPort_22 ?_
      obtain ⟨t7, e8, e3⟩ := zinv e3
      refine z_iald fx (ok12_8 hO ho) e8 d12_leastPort_23 ?_
      obtain ⟨t8, e9, e3⟩ := zinv e3
      refine z_cSr fx (c12_placeOf (zLo X) (zDo X) Sh top hO v_b t7 μ _  e9) ms12_placeOf ml12_325 rfl rfl rfl rfl d12_leastPort_24 ?_
      refine z_icmp_ge fx d12_leastPort_27 (fun c10 => ?_) (fun c10 => ?_)
      · replace e3 := zif_f c10 e3
        cases e3
        cases hl4
        exact kx6
      · replace e3 := zif_t c10 e3
        obtain ⟨b9, e12, e3⟩ := zinv e3
        have kt11 : b9 = true → zZ zK1 X (zT0 Sh top) μ 164 [(0, .ref o_), (1, .int v_b), (2, .int t1), (3, .int v_best_3), (4, .int v_p_4)] [] := by
          intro hc
          replace e3 := zif_t hc e3
          obtain ⟨v_p_10, e13, e3⟩ := zinv e3
          replace e13 := Option.some.inj e13
          refine z_iinc fx (i := 4) (x := v_p_4) (v := v_p_10) rfl (by rw [in1]; exact e13) rfl (lv' := [(0, .ref o_), (1, .int v_b), (2, .int t1), (3, .int v_best_3), (4, .int v_p_10)]) rfl rfl d12_leastPort_164 ?_
          cases e3
          refine z_goto fx d12_leastPort_167 ?_
          exact ih7 _ _ hl4
        have kf11 : b9 = false → zZ zK1 X (zT0 Sh top) μ 65 [(0, .ref o_), (1, .int v_b), (2, .int t1), (3, .int v_best_3), (4, .int v_p_4)] [] := by
          intro hc
          replace e3 := zif_f hc e3
          obtain ⟨b11, e15, e3⟩ := zinv e3
          have kt14 : b11 = true → zZ zK1 X (zT0 Sh top) μ 161 [(0, .ref o_), (1, .int v_b), (2, .int t1), (3, .int v_best_3), (4, .int v_p_4)] [] := by
            intro hc
            replace e3 := zif_t hc e3
            refine z_iload fx (i := 4) rfl d12_leastPort_161 ?_
            refine z_istore_n fx (k := 3) (i := 3) rfl rfl (lv' := [(0, .ref o_), (1, .int v_b), (2, .int t1), (3, .int v_p_4), (4, .int v_p_4)]) rfl rfl d12_leastPort_163 ?_
            obtain ⟨v_p_12, e16, e3⟩ := zinv e3
            replace e16 := Option.some.inj e16
            refine z_iinc fx (i := 4) (x := v_p_4) (v := v_p_12) rfl (by rw [in1]; exact e16) rfl (lv' := [(0, .ref o_), (1, .int v_b), (2, .int t1), (3, .int v_p_4), (4, .int v_p_12)]) rfl rfl d12_leastPort_164 ?_
            cases e3
            refine z_goto fx d12_leastPort_167 ?_
            exact ih7 _ _ hl4
          have kf14 : b11 = false → zZ zK1 X (zT0 Sh top) μ 164 [(0, .ref o_), (1, .int v_b), (2, .int t1), (3, .int v_best_3), (4, .int v_p_4)] [] := by
            intro hc
            replace e3 := zif_f hc e3
            obtain ⟨v_p_13, e17, e3⟩ := zinv e3
            replace e17 := Option.some.inj e17
            refine z_iinc fx (i := 4) (x := v_p_4) (v := v_p_13) rfl (by rw [in1]; exact e17) rfl (lv' := [(0, .ref o_), (1, .int v_b), (2, .int t1), (3, .int v_best_3), (4, .int v_p_13)]) rfl rfl d12_leastPort_164 ?_
            cases e3
            refine z_goto fx d12_leastPort_167 ?_
            exact ih7 _ _ hl4
          clear e3
          refine z_iload_n fx (k := 3) (i := 3) rfl rfl d12_leastPort_65 ?_
          refine z_iconst fx (v := (-1)) icm1 d12_leastPort_66 ?_
          refine z_icmp_eq fx d12_leastPort_67 (fun c18 => ?_) (fun c18 => ?_)
          · replace e15 := zif_t c18 e15
            cases e15
            exact kt14 rfl
          · replace e15 := zif_f c18 e15
            refine z_aload_n fx (k := 0) (i := 0) rfl rfl d12_leastPort_70 ?_
            refine z_iload fx (i := 4) rfl d12_leastPort_71 ?_
            refine z_bipush fx (v := 11) bp11 d12_leastPort_73 ?_
            obtain ⟨t14, e19, e15⟩ := zinv e15
            refine z_cVr fx (c12_portOf (zLo X) (zDo X) Sh top hO o_ v_p_4 11 μ _ ho e19) mv12_portOf ml12_334 ho rfl rfl rfl rfl d12_leastPort_75 ?_
            refine z_aload_n fx (k := 0) (i := 0) rfl rfl d12_leastPort_78 ?_
            refine z_iload fx (i := 4) rfl d12_leastPort_79 ?_
            refine z_bipush fx (v := 12) bp12 d12_leastPort_81 ?_
            obtain ⟨t15, e20, e15⟩ := zinv e15
            refine z_cVr fx (c12_portOf (zLo X) (zDo X) Sh top hO o_ v_p_4 12 μ _ ho e20) mv12_portOf ml12_334 ho rfl rfl rfl rfl d12_leastPort_83 ?_
            refine z_aload_n fx (k := 0) (i := 0) rfl rfl d12_leastPort_86 ?_
            refine z_getO fx 12 11 6 ho lf12_44 fk12_11 d12_leastPort_87 ?_
            refine z_aload_n fx (k := 0) (i := 0) rfl rfl d12_leastPort_90 ?_
            refine z_getO fx 12 15 10 ho lf12_56 fk12_15 d12_leastPort_91 ?_
            refine z_iload fx (i := 4) rfl d12_leastPort_94 ?_
            obtain ⟨t16, e21, e15⟩ := zinv e15
            refine z_iald fx (ok12_15 hO ho) e21 d12_leastPort_96 ?_
            obtain ⟨t17, e22, e15⟩ := zinv e15
            refine z_iald fx (ok12_11 hO ho) e22 d12_leastPort_97 ?_
            refine z_iadd fx d12_leastPort_98 ?_
            refine z_aload_n fx (k := 0) (i := 0) rfl rfl d12_leastPort_99 ?_
            refine z_iload fx (i := 4) rfl d12_leastPort_100 ?_
            refine z_bipush fx (v := 13) bp13 d12_leastPort_102 ?_
            obtain ⟨t18, e23, e15⟩ := zinv e15
            refine z_cVr fx (c12_portOf (zLo X) (zDo X) Sh top hO o_ v_p_4 13 μ _ ho e23) mv12_portOf ml12_334 ho rfl rfl rfl rfl d12_leastPort_104 ?_
            refine z_aload_n fx (k := 0) (i := 0) rfl rfl d12_leastPort_107 ?_
            refine z_iload fx (i := 4) rfl d12_leastPort_108 ?_
            refine z_bipush fx (v := 14) bp14 d12_leastPort_110 ?_
            obtain ⟨t19, e24, e15⟩ := zinv e15
            refine z_cVr fx (c12_portOf (zLo X) (zDo X) Sh top hO o_ v_p_4 14 μ _ ho e24) mv12_portOf ml12_334 ho rfl rfl rfl rfl d12_leastPort_112 ?_
            refine z_aload_n fx (k := 0) (i := 0) rfl rfl d12_leastPort_115 ?_
            refine z_iload_n fx (k := 3) (i := 3) rfl rfl d12_leastPort_116 ?_
            refine z_bipush fx (v := 11) bp11 d12_leastPort_117 ?_
            obtain ⟨t20, e25, e15⟩ := zinv e15
            refine z_cVr fx (c12_portOf (zLo X) (zDo X) Sh top hO o_ v_best_3 11 μ _ ho e25) mv12_portOf ml12_334 ho rfl rfl rfl rfl d12_leastPort_119 ?_
            refine z_aload_n fx (k := 0) (i := 0) rfl rfl d12_leastPort_122 ?_
            refine z_iload_n fx (k := 3) (i := 3) rfl rfl d12_leastPort_123 ?_
            refine z_bipush fx (v := 12) bp12 d12_leastPort_124 ?_
            obtain ⟨t21, e26, e15⟩ := zinv e15
            refine z_cVr fx (c12_portOf (zLo X) (zDo X) Sh top hO o_ v_best_3 12 μ _ ho e26) mv12_portOf ml12_334 ho rfl rfl rfl rfl d12_leastPort_126 ?_
            refine z_aload_n fx (k := 0) (i := 0) rfl rfl d12_leastPort_129 ?_
            refine z_getO fx 12 11 6 ho lf12_44 fk12_11 d12_leastPort_130 ?_
            refine z_aload_n fx (k := 0) (i := 0) rfl rfl d12_leastPort_133 ?_
            refine z_getO fx 12 15 10 ho lf12_56 fk12_15 d12_leastPort_134 ?_
            refine z_iload_n fx (k := 3) (i := 3) rfl rfl d12_leastPort_137 ?_
            obtain ⟨t22, e27, e15⟩ := zinv e15
            refine z_iald fx (ok12_15 hO ho) e27 d12_leastPort_138 ?_
            obtain ⟨t23, e28, e15⟩ := zinv e15
            refine z_iald fx (ok12_11 hO ho) e28 d12_leastPort_139 ?_
            refine z_iadd fx d12_leastPort_140 ?_
            refine z_aload_n fx (k := 0) (i := 0) rfl rfl d12_leastPort_141 ?_
            refine z_iload_n fx (k := 3) (i := 3) rfl rfl d12_leastPort_142 ?_
            refine z_bipush fx (v := 13) bp13 d12_leastPort_143 ?_
            obtain ⟨t24, e29, e15⟩ := zinv e15
            refine z_cVr fx (c12_portOf (zLo X) (zDo X) Sh top hO o_ v_best_3 13 μ _ ho e29) mv12_portOf ml12_334 ho rfl rfl rfl rfl d12_leastPort_145 ?_
            refine z_aload_n fx (k := 0) (i := 0) rfl rfl d12_leastPort_148 ?_
            refine z_iload_n fx (k := 3) (i := 3) rfl rfl d12_leastPort_149 ?_
            refine z_bipush fx (v := 14) bp14 d12_leastPort_150 ?_
            obtain ⟨t25, e30, e15⟩ := zinv e15
            refine z_cVr fx (c12_portOf (zLo X) (zDo X) Sh top hO o_ v_best_3 14 μ _ ho e30) mv12_portOf ml12_334 ho rfl rfl rfl rfl d12_leastPort_152 ?_
            obtain ⟨t26, e31, e15⟩ := zinv e15
            refine z_cSr fx (c12_isLess (zLo X) (zDo X) Sh top hO t14 (t15 + t17) t18 t19 t20 (t21 + t23) t24 t25 μ _  e31) ms12_isLess ml12_340 rfl rfl rfl rfl d12_leastPort_155 ?_
            cases e15
            refine z_ifb_eq fx d12_leastPort_158 (fun c32 => ?_) (fun c32 => ?_)
            · exact kf14 c32
            · exact kt14 c32
        clear e3
        obtain ⟨b27, e33, e12⟩ := zinv e12
        have kf34 : b27 = false → zZ zK1 X (zT0 Sh top) μ 50 [(0, .ref o_), (1, .int v_b), (2, .int t1), (3, .int v_best_3), (4, .int v_p_4)] [] := by
          intro hc
          replace e12 := zif_f hc e12
          refine z_aload_n fx (k := 0) (i := 0) rfl rfl d12_leastPort_50 ?_
          refine z_iload fx (i := 4) rfl d12_leastPort_51 ?_
          refine z_bipush fx (v := 13) bp13 d12_leastPort_53 ?_
          obtain ⟨t28, e35, e12⟩ := zinv e12
          refine z_cVr fx (c12_portOf (zLo X) (zDo X) Sh top hO o_ v_p_4 13 μ _ ho e35) mv12_portOf ml12_334 ho rfl rfl rfl rfl d12_leastPort_55 ?_
          refine z_iload_n fx (k := 2) (i := 2) rfl rfl d12_leastPort_58 ?_
          cases e12
          refine z_icmp_ne fx d12_leastPort_59 (fun c36 => ?_) (fun c36 => ?_)
          · exact kf11 c36
          · refine z_goto fx d12_leastPort_62 ?_
            exact kt11 c36
        have kt34 : b27 = true → zZ zK1 X (zT0 Sh top) μ 164 [(0, .ref o_), (1, .int v_b), (2, .int t1), (3, .int v_best_3), (4, .int v_p_4)] [] := by
          intro hc
          replace e12 := zif_t hc e12
          cases e12
          exact kt11 rfl
        clear e12
        obtain ⟨b29, e37, e33⟩ := zinv e33
        have kf38 : b29 = false → zZ zK1 X (zT0 Sh top) μ 39 [(0, .ref o_), (1, .int v_b), (2, .int t1), (3, .int v_best_3), (4, .int v_p_4)] [] := by
          intro hc
          replace e33 := zif_f hc e33
          refine z_aload_n fx (k := 0) (i := 0) rfl rfl d12_leastPort_39 ?_
          refine z_iload fx (i := 4) rfl d12_leastPort_40 ?_
          refine z_bipush fx (v := 10) bp10 d12_leastPort_42 ?_
          obtain ⟨t30, e39, e33⟩ := zinv e33
          refine z_cVr fx (c12_portOf (zLo X) (zDo X) Sh top hO o_ v_p_4 10 μ _ ho e39) mv12_portOf ml12_334 ho rfl rfl rfl rfl d12_leastPort_44 ?_
          cases e33
          refine z_if_eq fx d12_leastPort_47 (fun c40 => ?_) (fun c40 => ?_)
          · exact kt34 c40
          · exact kf34 c40
        have kt38 : b29 = true → zZ zK1 X (zT0 Sh top) μ 164 [(0, .ref o_), (1, .int v_b), (2, .int t1), (3, .int v_best_3), (4, .int v_p_4)] [] := by
          intro hc
          replace e33 := zif_t hc e33
          cases e33
          exact kt34 rfl
        clear e33
        refine z_aload_n fx (k := 0) (i := 0) rfl rfl d12_leastPort_30 ?_
        refine z_iload fx (i := 4) rfl d12_leastPort_31 ?_
        obtain ⟨t31, e41, e37⟩ := zinv e37
        refine z_cVr fx (c12_isUp (zLo X) (zDo X) Sh top hO o_ v_p_4 μ _ ho e41) mv12_isUp ml12_393 ho rfl rfl rfl rfl d12_leastPort_33 ?_
        cases e37
        refine z_ifb_eq fx d12_leastPort_36 (fun c42 => ?_) (fun c42 => ?_)
        · exact kt38 (by rw [c42]; rfl)
        · exact kf38 (by rw [c42]; rfl)
  exact klr5 _ _ _ e50
theorem d12_isLessThanOurs_0 : zd cX12_isLessThanOurs 0 (.iload_n 1) 1 1 := by decide +kernel
theorem d12_isLessThanOurs_1 : zd cX12_isLessThanOurs 1 (.bipush 6) 2 3 := by decide +kernel
theorem d12_isLessThanOurs_3 : zd cX12_isLessThanOurs 3 (.idiv) 1 4 := by decide +kernel
theorem d12_isLessThanOurs_4 : zd cX12_isLessThanOurs 4 (.istore 6) 2 6 := by decide +kernel
theorem d12_isLessThanOurs_6 : zd cX12_isLessThanOurs 6 (.iload_n 2) 1 7 := by decide +kernel
theorem d12_isLessThanOurs_7 : zd cX12_isLessThanOurs 7 (.iload_n 3) 1 8 := by decide +kernel
theorem d12_isLessThanOurs_8 : zd cX12_isLessThanOurs 8 (.iload 4) 2 10 := by decide +kernel
theorem d12_isLessThanOurs_10 : zd cX12_isLessThanOurs 10 (.iload 5) 2 12 := by decide +kernel
theorem d12_isLessThanOurs_12 : zd cX12_isLessThanOurs 12 (.aload_n 0) 1 13 := by decide +kernel
theorem d12_isLessThanOurs_13 : zd cX12_isLessThanOurs 13 (.iload 6) 2 15 := by decide +kernel
theorem d12_isLessThanOurs_15 : zd cX12_isLessThanOurs 15 (.iconst 3) 1 16 := by decide +kernel
theorem d12_isLessThanOurs_16 : zd cX12_isLessThanOurs 16 (.invokevirtual 319) 3 19 := by decide +kernel
theorem d12_isLessThanOurs_19 : zd cX12_isLessThanOurs 19 (.aload_n 0) 1 20 := by decide +kernel
theorem d12_isLessThanOurs_20 : zd cX12_isLessThanOurs 20 (.iload 6) 2 22 := by decide +kernel
theorem d12_isLessThanOurs_22 : zd cX12_isLessThanOurs 22 (.iconst 4) 1 23 := by decide +kernel
theorem d12_isLessThanOurs_23 : zd cX12_isLessThanOurs 23 (.invokevirtual 319) 3 26 := by decide +kernel
theorem d12_isLessThanOurs_26 : zd cX12_isLessThanOurs 26 (.aload_n 0) 1 27 := by decide +kernel
theorem d12_isLessThanOurs_27 : zd cX12_isLessThanOurs 27 (.iload 6) 2 29 := by decide +kernel
theorem d12_isLessThanOurs_29 : zd cX12_isLessThanOurs 29 (.invokevirtual 337) 3 32 := by decide +kernel
theorem d12_isLessThanOurs_32 : zd cX12_isLessThanOurs 32 (.iload_n 1) 1 33 := by decide +kernel
theorem d12_isLessThanOurs_33 : zd cX12_isLessThanOurs 33 (.bipush 6) 2 35 := by decide +kernel
theorem d12_isLessThanOurs_35 : zd cX12_isLessThanOurs 35 (.irem) 1 36 := by decide +kernel
theorem d12_isLessThanOurs_36 : zd cX12_isLessThanOurs 36 (.invokestatic 340) 3 39 := by decide +kernel
theorem d12_isLessThanOurs_39 : zd cX12_isLessThanOurs 39 (.ireturn) 1 40 := by decide +kernel
set_option maxHeartbeats 4000000 in
set_option maxRecDepth 20000 in
theorem c12_isLessThanOurs (l : Launch) (D : zDt) (Sh : zSh) (top : Nat) (hO : zOK Sh) (o_ : Nat) (v_p : Int32) (v_root : Int32) (v_far : Int32) (v_id : Int32) (v_number : Int32) (μ : zM) (r_ : Bool) (ho : (Sh o_).1 = 19) (h : f12_isLessThanOurs o_ v_p v_root v_far v_id v_number μ = some r_) : zMet l D zK1 yX12_isLessThanOurs cX12_isLessThanOurs 7 (some .boolean) (zrm 3 64) [.ref o_, .int v_p, .int v_root, .int v_far, .int v_id, .int v_number] Sh top μ (some (.int (bI r_))) Sh top μ 0 0 := by
  refine zMet_of (by decide) (Nat.le_of_ble_eq_true rfl) fun X hX1 hX2 fx fin => ?_
  subst hX1; subst hX2
  replace fx : zFix X cX12_isLessThanOurs RX12 (zrm 3 64) 7 := fx
  show zZ zK1 X (zT0 Sh top) μ 0 [(0, .ref o_), (1, .int v_p), (2, .int v_root), (3, .int v_far), (4, .int v_id), (5, .int v_number)] []
  unfold f12_isLessThanOurs at h
  refine z_iload_n fx (k := 1) (i := 1) rfl rfl d12_isLessThanOurs_0 ?_
  refine z_bipush fx (v := 6) bp6 d12_isLessThanOurs_1 ?_
  obtain ⟨t1, e1, h⟩ := zinv h
  refine z_idiv fx e1 d12_isLessThanOurs_3 ?_
  refine z_istore fx (i := 6) rfl (lv' := [(0, .ref o_), (1, .int v_p), (2, .int v_root), (3, .int v_far), (4, .int v_id), (5, .int v_number), (6, .int t1)]) rfl rfl d12_isLessThanOurs_4 ?_
  refine z_iload_n fx (k := 2) (i := 2) rfl rfl d12_isLessThanOurs_6 ?_
  refine z_iload_n fx (k := 3) (i := 3) rfl rfl d12_isLessThanOurs_7 ?_
  refine z_iload fx (i := 4) rfl d12_isLessThanOurs_8 ?_
  refine z_iload fx (i := 5) rfl d12_isLessThanOurs_10 ?_
  refine z_aload_n fx (k := 0) (i := 0) rfl rfl d12_isLessThanOurs_12 ?_
  refine z_iload fx (i := 6) rfl d12_isLessThanOurs_13 ?_
  refine z_iconst fx (v := 3) ic3 d12_isLessThanOurs_15 ?_
  obtain ⟨t2, e2, h⟩ := zinv h
  refine z_cVr fx (c12_of (zLo X) (zDo X) Sh top hO o_ t1 3 μ _ ho e2) mv12_of ml12_319 ho rfl rfl rfl rfl d12_isLessThanOurs_16 ?_
  refine z_aload_n fx (k := 0) (i := 0) rfl rfl d12_isLessThanOurs_19 ?_
  refine z_iload fx (i := 6) rfl d12_isLessThanOurs_20 ?_
  refine z_iconst fx (v := 4) ic4 d12_isLessThanOurs_22 ?_
  obtain ⟨t3, e3, h⟩ := zinv h
  refine z_cVr fx (c12_of (zLo X) (zDo X) Sh top hO o_ t1 4 μ _ ho e3) mv12_of ml12_319 ho rfl rfl rfl rfl d12_isLessThanOurs_23 ?_
  refine z_aload_n fx (k := 0) (i := 0) rfl rfl d12_isLessThanOurs_26 ?_
  refine z_iload fx (i := 6) rfl d12_isLessThanOurs_27 ?_
  obtain ⟨t4, e4, h⟩ := zinv h
  refine z_cVr fx (c12_idOf (zLo X) (zDo X) Sh top hO o_ t1 μ _ ho e4) mv12_idOf ml12_337 ho rfl rfl rfl rfl d12_isLessThanOurs_29 ?_
  refine z_iload_n fx (k := 1) (i := 1) rfl rfl d12_isLessThanOurs_32 ?_
  refine z_bipush fx (v := 6) bp6 d12_isLessThanOurs_33 ?_
  obtain ⟨t5, e5, h⟩ := zinv h
  refine z_irem fx e5 d12_isLessThanOurs_35 ?_
  obtain ⟨t6, e6, h⟩ := zinv h
  refine z_cSr fx (c12_isLess (zLo X) (zDo X) Sh top hO v_root v_far v_id v_number t2 t3 t4 t5 μ _  e6) ms12_isLess ml12_340 rfl rfl rfl rfl d12_isLessThanOurs_36 ?_
  cases h
  exact z_zreturn fx fin d12_isLessThanOurs_39
theorem d12_roleFor_0 : zd cX12_roleFor 0 (.aload_n 0) 1 1 := by decide +kernel
theorem d12_roleFor_1 : zd cX12_roleFor 1 (.iload_n 1) 1 2 := by decide +kernel
theorem d12_roleFor_2 : zd cX12_roleFor 2 (.invokevirtual 393) 3 5 := by decide +kernel
theorem d12_roleFor_5 : zj cX12_roleFor 5 (.ifCond .ne 5) 5 8 10 := by decide +kernel
theorem d12_roleFor_8 : zd cX12_roleFor 8 (.iconst 0) 1 9 := by decide +kernel
theorem d12_roleFor_9 : zd cX12_roleFor 9 (.ireturn) 1 10 := by decide +kernel
theorem d12_roleFor_10 : zd cX12_roleFor 10 (.iload_n 1) 1 11 := by decide +kernel
theorem d12_roleFor_11 : zd cX12_roleFor 11 (.iload_n 2) 1 12 := by decide +kernel
theorem d12_roleFor_12 : zj cX12_roleFor 12 (.if_icmp .ne 5) 5 15 17 := by decide +kernel
theorem d12_roleFor_15 : zd cX12_roleFor 15 (.iconst 1) 1 16 := by decide +kernel
theorem d12_roleFor_16 : zd cX12_roleFor 16 (.ireturn) 1 17 := by decide +kernel
theorem d12_roleFor_17 : zd cX12_roleFor 17 (.aload_n 0) 1 18 := by decide +kernel
theorem d12_roleFor_18 : zd cX12_roleFor 18 (.iload_n 1) 1 19 := by decide +kernel
theorem d12_roleFor_19 : zd cX12_roleFor 19 (.bipush 10) 2 21 := by decide +kernel
theorem d12_roleFor_21 : zd cX12_roleFor 21 (.invokevirtual 334) 3 24 := by decide +kernel
theorem d12_roleFor_24 : zj cX12_roleFor 24 (.ifCond .eq 39) 39 27 63 := by decide +kernel
theorem d12_roleFor_27 : zd cX12_roleFor 27 (.aload_n 0) 1 28 := by decide +kernel
theorem d12_roleFor_28 : zd cX12_roleFor 28 (.iload_n 1) 1 29 := by decide +kernel
theorem d12_roleFor_29 : zd cX12_roleFor 29 (.aload_n 0) 1 30 := by decide +kernel
theorem d12_roleFor_30 : zd cX12_roleFor 30 (.iload_n 1) 1 31 := by decide +kernel
theorem d12_roleFor_31 : zd cX12_roleFor 31 (.bipush 11) 2 33 := by decide +kernel
theorem d12_roleFor_33 : zd cX12_roleFor 33 (.invokevirtual 334) 3 36 := by decide +kernel
theorem d12_roleFor_36 : zd cX12_roleFor 36 (.aload_n 0) 1 37 := by decide +kernel
theorem d12_roleFor_37 : zd cX12_roleFor 37 (.iload_n 1) 1 38 := by decide +kernel
theorem d12_roleFor_38 : zd cX12_roleFor 38 (.bipush 12) 2 40 := by decide +kernel
theorem d12_roleFor_40 : zd cX12_roleFor 40 (.invokevirtual 334) 3 43 := by decide +kernel
theorem d12_roleFor_43 : zd cX12_roleFor 43 (.aload_n 0) 1 44 := by decide +kernel
theorem d12_roleFor_44 : zd cX12_roleFor 44 (.iload_n 1) 1 45 := by decide +kernel
theorem d12_roleFor_45 : zd cX12_roleFor 45 (.bipush 13) 2 47 := by decide +kernel
theorem d12_roleFor_47 : zd cX12_roleFor 47 (.invokevirtual 334) 3 50 := by decide +kernel
theorem d12_roleFor_50 : zd cX12_roleFor 50 (.aload_n 0) 1 51 := by decide +kernel
theorem d12_roleFor_51 : zd cX12_roleFor 51 (.iload_n 1) 1 52 := by decide +kernel
theorem d12_roleFor_52 : zd cX12_roleFor 52 (.bipush 14) 2 54 := by decide +kernel
theorem d12_roleFor_54 : zd cX12_roleFor 54 (.invokevirtual 334) 3 57 := by decide +kernel
theorem d12_roleFor_57 : zd cX12_roleFor 57 (.invokevirtual 396) 3 60 := by decide +kernel
theorem d12_roleFor_60 : zj cX12_roleFor 60 (.ifCond .ne 5) 5 63 65 := by decide +kernel
theorem d12_roleFor_63 : zd cX12_roleFor 63 (.iconst 2) 1 64 := by decide +kernel
theorem d12_roleFor_64 : zd cX12_roleFor 64 (.ireturn) 1 65 := by decide +kernel
theorem d12_roleFor_65 : zd cX12_roleFor 65 (.aload_n 0) 1 66 := by decide +kernel
theorem d12_roleFor_66 : zd cX12_roleFor 66 (.iload_n 1) 1 67 := by decide +kernel
theorem d12_roleFor_67 : zd cX12_roleFor 67 (.bipush 13) 2 69 := by decide +kernel
theorem d12_roleFor_69 : zd cX12_roleFor 69 (.invokevirtual 334) 3 72 := by decide +kernel
theorem d12_roleFor_72 : zd cX12_roleFor 72 (.aload_n 0) 1 73 := by decide +kernel
theorem d12_roleFor_73 : zd cX12_roleFor 73 (.iload_n 1) 1 74 := by decide +kernel
theorem d12_roleFor_74 : zd cX12_roleFor 74 (.bipush 6) 2 76 := by decide +kernel
theorem d12_roleFor_76 : zd cX12_roleFor 76 (.idiv) 1 77 := by decide +kernel
theorem d12_roleFor_77 : zd cX12_roleFor 77 (.invokevirtual 337) 3 80 := by decide +kernel
theorem d12_roleFor_80 : zj cX12_roleFor 80 (.if_icmp .ne 7) 7 83 87 := by decide +kernel
theorem d12_roleFor_83 : zd cX12_roleFor 83 (.iconst 4) 1 84 := by decide +kernel
theorem d12_roleFor_84 : zj cX12_roleFor 84 (.goto 4) 4 87 88 := by decide +kernel
theorem d12_roleFor_87 : zd cX12_roleFor 87 (.iconst 3) 1 88 := by decide +kernel
theorem d12_roleFor_88 : zd cX12_roleFor 88 (.ireturn) 1 89 := by decide +kernel
set_option maxHeartbeats 4000000 in
set_option maxRecDepth 20000 in
theorem c12_roleFor (l : Launch) (D : zDt) (Sh : zSh) (top : Nat) (hO : zOK Sh) (o_ : Nat) (v_p : Int32) (v_root : Int32) (μ : zM) (r_ : Int32) (ho : (Sh o_).1 = 19) (h : f12_roleFor o_ v_p v_root μ = some r_) : zMet l D zK1 yX12_roleFor cX12_roleFor 3 (some .int) (zrm 5 106) [.ref o_, .int v_p, .int v_root] Sh top μ (some (.int r_)) Sh top μ 0 0 := by
  refine zMet_of (by decide) (Nat.le_of_ble_eq_true rfl) fun X hX1 hX2 fx fin => ?_
  subst hX1; subst hX2
  replace fx : zFix X cX12_roleFor RX12 (zrm 5 106) 3 := fx
  show zZ zK1 X (zT0 Sh top) μ 0 [(0, .ref o_), (1, .int v_p), (2, .int v_root)] []
  unfold f12_roleFor at h
  refine z_aload_n fx (k := 0) (i := 0) rfl rfl d12_roleFor_0 ?_
  refine z_iload_n fx (k := 1) (i := 1) rfl rfl d12_roleFor_1 ?_
  obtain ⟨t1, e1, h⟩ := zinv h
  refine z_cVr fx (c12_isUp (zLo X) (zDo X) Sh top hO o_ v_p μ _ ho e1) mv12_isUp ml12_393 ho rfl rfl rfl rfl d12_roleFor_2 ?_
  refine z_ifb_ne fx d12_roleFor_5 (fun c2 => ?_) (fun c2 => ?_)
  · replace h := zif_t c2 h
    refine z_iload_n fx (k := 1) (i := 1) rfl rfl d12_roleFor_10 ?_
    refine z_iload_n fx (k := 2) (i := 2) rfl rfl d12_roleFor_11 ?_
    refine z_icmp_ne fx d12_roleFor_12 (fun c3 => ?_) (fun c3 => ?_)
    · replace h := zif_f c3 h
      obtain ⟨b2, e5, h⟩ := zinv h
      have kt4 : b2 = true → zZ zK1 X (zT0 Sh top) μ 63 [(0, .ref o_), (1, .int v_p), (2, .int v_root)] [] := by
        intro hc
        replace h := zif_t hc h
        refine z_iconst fx (v := 2) ic2 d12_roleFor_63 ?_
        cases h
        exact z_ireturn fx fin d12_roleFor_64
      have kf4 : b2 = false → zZ zK1 X (zT0 Sh top) μ 65 [(0, .ref o_), (1, .int v_p), (2, .int v_root)] [] := by
        intro hc
        replace h := zif_f hc h
        obtain ⟨x3, e6, h⟩ := zinv h
        have k7 : zZ zK1 X (zT0 Sh top) μ 88 [(0, .ref o_), (1, .int v_p), (2, .int v_root)] [.int x3] := by
          cases h
          exact z_ireturn fx fin d12_roleFor_88
        refine z_aload_n fx (k := 0) (i := 0) rfl rfl d12_roleFor_65 ?_
        refine z_iload_n fx (k := 1) (i := 1) rfl rfl d12_roleFor_66 ?_
        refine z_bipush fx (v := 13) bp13 d12_roleFor_67 ?_
        obtain ⟨t4, e8, e6⟩ := zinv e6
        refine z_cVr fx (c12_portOf (zLo X) (zDo X) Sh top hO o_ v_p 13 μ _ ho e8) mv12_portOf ml12_334 ho rfl rfl rfl rfl d12_roleFor_69 ?_
        refine z_aload_n fx (k := 0) (i := 0) rfl rfl d12_roleFor_72 ?_
        refine z_iload_n fx (k := 1) (i := 1) rfl rfl d12_roleFor_73 ?_
        refine z_bipush fx (v := 6) bp6 d12_roleFor_74 ?_
        obtain ⟨t5, e9, e6⟩ := zinv e6
        refine z_idiv fx e9 d12_roleFor_76 ?_
        obtain ⟨t6, e10, e6⟩ := zinv e6
        refine z_cVr fx (c12_idOf (zLo X) (zDo X) Sh top hO o_ t5 μ _ ho e10) mv12_idOf ml12_337 ho rfl rfl rfl rfl d12_roleFor_77 ?_
        refine z_icmp_ne fx d12_roleFor_80 (fun c11 => ?_) (fun c11 => ?_)
        · replace e6 := zif_f c11 e6
          refine z_iconst fx (v := 3) ic3 d12_roleFor_87 ?_
          cases e6
          exact k7
        · replace e6 := zif_t c11 e6
          refine z_iconst fx (v := 4) ic4 d12_roleFor_83 ?_
          cases e6
          refine z_goto fx d12_roleFor_84 ?_
          exact k7
      clear h
      obtain ⟨b7, e12, e5⟩ := zinv e5
      have kf13 : b7 = false → zZ zK1 X (zT0 Sh top) μ 27 [(0, .ref o_), (1, .int v_p), (2, .int v_root)] [] := by
        intro hc
        replace e5 := zif_f hc e5
        refine z_aload_n fx (k := 0) (i := 0) rfl rfl d12_roleFor_27 ?_
        refine z_iload_n fx (k := 1) (i := 1) rfl rfl d12_roleFor_28 ?_
        refine z_aload_n fx (k := 0) (i := 0) rfl rfl d12_roleFor_29 ?_
        refine z_iload_n fx (k := 1) (i := 1) rfl rfl d12_roleFor_30 ?_
        refine z_bipush fx (v := 11) bp11 d12_roleFor_31 ?_
        obtain ⟨t8, e14, e5⟩ := zinv e5
        refine z_cVr fx (c12_portOf (zLo X) (zDo X) Sh top hO o_ v_p 11 μ _ ho e14) mv12_portOf ml12_334 ho rfl rfl rfl rfl d12_roleFor_33 ?_
        refine z_aload_n fx (k := 0) (i := 0) rfl rfl d12_roleFor_36 ?_
        refine z_iload_n fx (k := 1) (i := 1) rfl rfl d12_roleFor_37 ?_
        refine z_bipush fx (v := 12) bp12 d12_roleFor_38 ?_
        obtain ⟨t9, e15, e5⟩ := zinv e5
        refine z_cVr fx (c12_portOf (zLo X) (zDo X) Sh top hO o_ v_p 12 μ _ ho e15) mv12_portOf ml12_334 ho rfl rfl rfl rfl d12_roleFor_40 ?_
        refine z_aload_n fx (k := 0) (i := 0) rfl rfl d12_roleFor_43 ?_
        refine z_iload_n fx (k := 1) (i := 1) rfl rfl d12_roleFor_44 ?_
        refine z_bipush fx (v := 13) bp13 d12_roleFor_45 ?_
        obtain ⟨t10, e16, e5⟩ := zinv e5
        refine z_cVr fx (c12_portOf (zLo X) (zDo X) Sh top hO o_ v_p 13 μ _ ho e16) mv12_portOf ml12_334 ho rfl rfl rfl rfl d12_roleFor_47 ?_
        refine z_aload_n fx (k := 0) (i := 0) rfl rfl d12_roleFor_50 ?_
        refine z_iload_n fx (k := 1) (i := 1) rfl rfl d12_roleFor_51 ?_
        refine z_bipush fx (v := 14) bp14 d12_roleFor_52 ?_
        obtain ⟨t11, e17, e5⟩ := zinv e5
        refine z_cVr fx (c12_portOf (zLo X) (zDo X) Sh top hO o_ v_p 14 μ _ ho e17) mv12_portOf ml12_334 ho rfl rfl rfl rfl d12_roleFor_54 ?_
        obtain ⟨t12, e18, e5⟩ := zinv e5
        refine z_cVr fx (c12_isLessThanOurs (zLo X) (zDo X) Sh top hO o_ v_p t8 t9 t10 t11 μ _ ho e18) mv12_isLessThanOurs ml12_396 ho rfl rfl rfl rfl d12_roleFor_57 ?_
        cases e5
        refine z_ifb_ne fx d12_roleFor_60 (fun c19 => ?_) (fun c19 => ?_)
        · exact kf4 (by rw [c19]; rfl)
        · exact kt4 (by rw [c19]; rfl)
      have kt13 : b7 = true → zZ zK1 X (zT0 Sh top) μ 63 [(0, .ref o_), (1, .int v_p), (2, .int v_root)] [] := by
        intro hc
        replace e5 := zif_t hc e5
        cases e5
        exact kt4 rfl
      clear e5
      refine z_aload_n fx (k := 0) (i := 0) rfl rfl d12_roleFor_17 ?_
      refine z_iload_n fx (k := 1) (i := 1) rfl rfl d12_roleFor_18 ?_
      refine z_bipush fx (v := 10) bp10 d12_roleFor_19 ?_
      obtain ⟨t13, e20, e12⟩ := zinv e12
      refine z_cVr fx (c12_portOf (zLo X) (zDo X) Sh top hO o_ v_p 10 μ _ ho e20) mv12_portOf ml12_334 ho rfl rfl rfl rfl d12_roleFor_21 ?_
      cases e12
      refine z_if_eq fx d12_roleFor_24 (fun c21 => ?_) (fun c21 => ?_)
      · exact kt13 c21
      · exact kf13 c21
    · replace h := zif_t c3 h
      refine z_iconst fx (v := 1) ic1 d12_roleFor_15 ?_
      cases h
      exact z_ireturn fx fin d12_roleFor_16
  · replace h := zif_f c2 h
    refine z_iconst fx (v := 0) ic0 d12_roleFor_8 ?_
    cases h
    exact z_ireturn fx fin d12_roleFor_9
theorem d12_isState_0 : zd cX12_isState 0 (.aload_n 0) 1 1 := by decide +kernel
theorem d12_isState_1 : zd cX12_isState 1 (.iload_n 1) 1 2 := by decide +kernel
theorem d12_isState_2 : zd cX12_isState 2 (.iconst 1) 1 3 := by decide +kernel
theorem d12_isState_3 : zd cX12_isState 3 (.iload_n 2) 1 4 := by decide +kernel
theorem d12_isState_4 : zd cX12_isState 4 (.invokevirtual 344) 3 7 := by decide +kernel
theorem d12_isState_7 : zd cX12_isState 7 (.aload_n 0) 1 8 := by decide +kernel
theorem d12_isState_8 : zd cX12_isState 8 (.iconst 3) 1 9 := by decide +kernel
theorem d12_isState_9 : zd cX12_isState 9 (.invokevirtual 316) 3 12 := by decide +kernel
theorem d12_isState_12 : zd cX12_isState 12 (.bipush 40) 2 14 := by decide +kernel
theorem d12_isState_14 : zj cX12_isState 14 (.if_icmp .ne 45) 45 17 59 := by decide +kernel
theorem d12_isState_17 : zd cX12_isState 17 (.iconst 0) 1 18 := by decide +kernel
theorem d12_isState_18 : zd cX12_isState 18 (.istore_n 3) 1 19 := by decide +kernel
theorem d12_isState_19 : zd cX12_isState 19 (.iload_n 3) 1 20 := by decide +kernel
theorem d12_isState_20 : zd cX12_isState 20 (.sipush 156) 3 23 := by decide +kernel
theorem d12_isState_23 : zj cX12_isState 23 (.if_icmp .ge 29) 29 26 52 := by decide +kernel
theorem d12_isState_26 : zd cX12_isState 26 (.aload_n 0) 1 27 := by decide +kernel
theorem d12_isState_27 : zd cX12_isState 27 (.sipush 1114) 3 30 := by decide +kernel
theorem d12_isState_30 : zd cX12_isState 30 (.iload_n 3) 1 31 := by decide +kernel
theorem d12_isState_31 : zd cX12_isState 31 (.iadd) 1 32 := by decide +kernel
theorem d12_isState_32 : zd cX12_isState 32 (.aload_n 0) 1 33 := by decide +kernel
theorem d12_isState_33 : zd cX12_isState 33 (.sipush 1114) 3 36 := by decide +kernel
theorem d12_isState_36 : zd cX12_isState 36 (.iload_n 3) 1 37 := by decide +kernel
theorem d12_isState_37 : zd cX12_isState 37 (.iadd) 1 38 := by decide +kernel
theorem d12_isState_38 : zd cX12_isState 38 (.iconst 4) 1 39 := by decide +kernel
theorem d12_isState_39 : zd cX12_isState 39 (.iadd) 1 40 := by decide +kernel
theorem d12_isState_40 : zd cX12_isState 40 (.invokevirtual 316) 3 43 := by decide +kernel
theorem d12_isState_43 : zd cX12_isState 43 (.invokevirtual 310) 3 46 := by decide +kernel
theorem d12_isState_46 : zd cX12_isState 46 (.iinc 3 1) 3 49 := by decide +kernel
theorem d12_isState_49 : zj cX12_isState 49 (.goto (-30)) (-30) 52 19 := by decide +kernel
theorem d12_isState_52 : zd cX12_isState 52 (.aload_n 0) 1 53 := by decide +kernel
theorem d12_isState_53 : zd cX12_isState 53 (.iconst 3) 1 54 := by decide +kernel
theorem d12_isState_54 : zd cX12_isState 54 (.bipush 39) 2 56 := by decide +kernel
theorem d12_isState_56 : zd cX12_isState 56 (.invokevirtual 310) 3 59 := by decide +kernel
theorem d12_isState_59 : zd cX12_isState 59 (.sipush 1114) 3 62 := by decide +kernel
theorem d12_isState_62 : zd cX12_isState 62 (.iconst 4) 1 63 := by decide +kernel
theorem d12_isState_63 : zd cX12_isState 63 (.aload_n 0) 1 64 := by decide +kernel
theorem d12_isState_64 : zd cX12_isState 64 (.iconst 3) 1 65 := by decide +kernel
theorem d12_isState_65 : zd cX12_isState 65 (.invokevirtual 316) 3 68 := by decide +kernel
theorem d12_isState_68 : zd cX12_isState 68 (.imul) 1 69 := by decide +kernel
theorem d12_isState_69 : zd cX12_isState 69 (.iadd) 1 70 := by decide +kernel
theorem d12_isState_70 : zd cX12_isState 70 (.istore_n 3) 1 71 := by decide +kernel
theorem d12_isState_71 : zd cX12_isState 71 (.aload_n 0) 1 72 := by decide +kernel
theorem d12_isState_72 : zd cX12_isState 72 (.iload_n 3) 1 73 := by decide +kernel
theorem d12_isState_73 : zd cX12_isState 73 (.aload_n 0) 1 74 := by decide +kernel
theorem d12_isState_74 : zd cX12_isState 74 (.iconst 0) 1 75 := by decide +kernel
theorem d12_isState_75 : zd cX12_isState 75 (.invokevirtual 316) 3 78 := by decide +kernel
theorem d12_isState_78 : zd cX12_isState 78 (.invokevirtual 310) 3 81 := by decide +kernel
theorem d12_isState_81 : zd cX12_isState 81 (.aload_n 0) 1 82 := by decide +kernel
theorem d12_isState_82 : zd cX12_isState 82 (.iload_n 3) 1 83 := by decide +kernel
theorem d12_isState_83 : zd cX12_isState 83 (.iconst 1) 1 84 := by decide +kernel
theorem d12_isState_84 : zd cX12_isState 84 (.iadd) 1 85 := by decide +kernel
theorem d12_isState_85 : zd cX12_isState 85 (.iload_n 1) 1 86 := by decide +kernel
theorem d12_isState_86 : zd cX12_isState 86 (.bipush 6) 2 88 := by decide +kernel
theorem d12_isState_88 : zd cX12_isState 88 (.idiv) 1 89 := by decide +kernel
theorem d12_isState_89 : zd cX12_isState 89 (.invokevirtual 310) 3 92 := by decide +kernel
theorem d12_isState_92 : zd cX12_isState 92 (.aload_n 0) 1 93 := by decide +kernel
theorem d12_isState_93 : zd cX12_isState 93 (.iload_n 3) 1 94 := by decide +kernel
theorem d12_isState_94 : zd cX12_isState 94 (.iconst 2) 1 95 := by decide +kernel
theorem d12_isState_95 : zd cX12_isState 95 (.iadd) 1 96 := by decide +kernel
theorem d12_isState_96 : zd cX12_isState 96 (.iload_n 1) 1 97 := by decide +kernel
theorem d12_isState_97 : zd cX12_isState 97 (.bipush 6) 2 99 := by decide +kernel
theorem d12_isState_99 : zd cX12_isState 99 (.irem) 1 100 := by decide +kernel
theorem d12_isState_100 : zd cX12_isState 100 (.invokevirtual 310) 3 103 := by decide +kernel
theorem d12_isState_103 : zd cX12_isState 103 (.aload_n 0) 1 104 := by decide +kernel
theorem d12_isState_104 : zd cX12_isState 104 (.iload_n 3) 1 105 := by decide +kernel
theorem d12_isState_105 : zd cX12_isState 105 (.iconst 3) 1 106 := by decide +kernel
theorem d12_isState_106 : zd cX12_isState 106 (.iadd) 1 107 := by decide +kernel
theorem d12_isState_107 : zd cX12_isState 107 (.iload_n 2) 1 108 := by decide +kernel
theorem d12_isState_108 : zd cX12_isState 108 (.invokevirtual 310) 3 111 := by decide +kernel
theorem d12_isState_111 : zd cX12_isState 111 (.aload_n 0) 1 112 := by decide +kernel
theorem d12_isState_112 : zd cX12_isState 112 (.iconst 3) 1 113 := by decide +kernel
theorem d12_isState_113 : zd cX12_isState 113 (.aload_n 0) 1 114 := by decide +kernel
theorem d12_isState_114 : zd cX12_isState 114 (.iconst 3) 1 115 := by decide +kernel
theorem d12_isState_115 : zd cX12_isState 115 (.invokevirtual 316) 3 118 := by decide +kernel
theorem d12_isState_118 : zd cX12_isState 118 (.iconst 1) 1 119 := by decide +kernel
theorem d12_isState_119 : zd cX12_isState 119 (.iadd) 1 120 := by decide +kernel
theorem d12_isState_120 : zd cX12_isState 120 (.invokevirtual 310) 3 123 := by decide +kernel
theorem d12_isState_123 : zd cX12_isState 123 (.return_) 1 124 := by decide +kernel
set_option maxHeartbeats 4000000 in
set_option maxRecDepth 20000 in
theorem c12_isState (l : Launch) (D : zDt) (Sh : zSh) (top : Nat) (hO : zOK Sh) (o_ : Nat) (v_p : Int32) (v_state : Int32) (μ : zM) (μ_ : zM) (ho : (Sh o_).1 = 19) (h : f12_isState o_ v_p v_state μ = some μ_) : zMet l D zK1 yX12_isState cX12_isState 4 none (zrm 2 45) [.ref o_, .int v_p, .int v_state] Sh top μ none Sh top μ_ 0 0 := by
  refine zMet_of (by decide) (Nat.le_of_ble_eq_true rfl) fun X hX1 hX2 fx fin => ?_
  subst hX1; subst hX2
  replace fx : zFix X cX12_isState RX12 (zrm 2 45) 4 := fx
  show zZ zK1 X (zT0 Sh top) μ 0 [(0, .ref o_), (1, .int v_p), (2, .int v_state)] []
  unfold f12_isState at h
  refine z_aload_n fx (k := 0) (i := 0) rfl rfl d12_isState_0 ?_
  refine z_iload_n fx (k := 1) (i := 1) rfl rfl d12_isState_1 ?_
  refine z_iconst fx (v := 1) ic1 d12_isState_2 ?_
  refine z_iload_n fx (k := 2) (i := 2) rfl rfl d12_isState_3 ?_
  obtain ⟨μ1, e1, h⟩ := zinv h
  refine z_cVv fx (c12_sets (zLo X) (zDo X) Sh top hO o_ v_p 1 v_state μ _ ho e1) mv12_sets ml12_344 ho rfl rfl rfl rfl d12_isState_4 ?_
  obtain ⟨μ2, e2, h⟩ := zinv h
  have k3 : zZ zK1 X (zT0 Sh top) μ2 59 [(0, .ref o_), (1, .int v_p), (2, .int v_state)] [] := by
    refine z_sipush fx (v := 1114) sp1114 d12_isState_59 ?_
    refine z_iconst fx (v := 4) ic4 d12_isState_62 ?_
    refine z_aload_n fx (k := 0) (i := 0) rfl rfl d12_isState_63 ?_
    refine z_iconst fx (v := 3) ic3 d12_isState_64 ?_
    obtain ⟨t3, e4, h⟩ := zinv h
    refine z_cVr fx (c12_its (zLo X) (zDo X) Sh top hO o_ 3 μ2 _ ho e4) mv12_its ml12_316 ho rfl rfl rfl rfl d12_isState_65 ?_
    refine z_imul fx d12_isState_68 ?_
    refine z_iadd fx d12_isState_69 ?_
    obtain ⟨v_k_4, e5, h⟩ := zinv h
    replace e5 := Option.some.inj e5
    refine z_top (congrArg Value.int e5) ?_
    refine z_istore_n fx (k := 3) (i := 3) rfl rfl (lv' := [(0, .ref o_), (1, .int v_p), (2, .int v_state), (3, .int v_k_4)]) rfl rfl d12_isState_70 ?_
    refine z_aload_n fx (k := 0) (i := 0) rfl rfl d12_isState_71 ?_
    refine z_iload_n fx (k := 3) (i := 3) rfl rfl d12_isState_72 ?_
    refine z_aload_n fx (k := 0) (i := 0) rfl rfl d12_isState_73 ?_
    refine z_iconst fx (v := 0) ic0 d12_isState_74 ?_
    obtain ⟨t5, e6, h⟩ := zinv h
    refine z_cVr fx (c12_its (zLo X) (zDo X) Sh top hO o_ 0 μ2 _ ho e6) mv12_its ml12_316 ho rfl rfl rfl rfl d12_isState_75 ?_
    obtain ⟨μ6, e7, h⟩ := zinv h
    refine z_cVv fx (c12_puts (zLo X) (zDo X) Sh top hO o_ v_k_4 t5 μ2 _ ho e7) mv12_puts ml12_310 ho rfl rfl rfl rfl d12_isState_78 ?_
    refine z_aload_n fx (k := 0) (i := 0) rfl rfl d12_isState_81 ?_
    refine z_iload_n fx (k := 3) (i := 3) rfl rfl d12_isState_82 ?_
    refine z_iconst fx (v := 1) ic1 d12_isState_83 ?_
    refine z_iadd fx d12_isState_84 ?_
    refine z_iload_n fx (k := 1) (i := 1) rfl rfl d12_isState_85 ?_
    refine z_bipush fx (v := 6) bp6 d12_isState_86 ?_
    obtain ⟨t7, e8, h⟩ := zinv h
    refine z_idiv fx e8 d12_isState_88 ?_
    obtain ⟨μ8, e9, h⟩ := zinv h
    refine z_cVv fx (c12_puts (zLo X) (zDo X) Sh top hO o_ (v_k_4 + 1) t7 μ6 _ ho e9) mv12_puts ml12_310 ho rfl rfl rfl rfl d12_isState_89 ?_
    refine z_aload_n fx (k := 0) (i := 0) rfl rfl d12_isState_92 ?_
    refine z_iload_n fx (k := 3) (i := 3) rfl rfl d12_isState_93 ?_
    refine z_iconst fx (v := 2) ic2 d12_isState_94 ?_
    refine z_iadd fx d12_isState_95 ?_
    refine z_iload_n fx (k := 1) (i := 1) rfl rfl d12_isState_96 ?_
    refine z_bipush fx (v := 6) bp6 d12_isState_97 ?_
    obtain ⟨t9, e10, h⟩ := zinv h
    refine z_irem fx e10 d12_isState_99 ?_
    obtain ⟨μ10, e11, h⟩ := zinv h
    refine z_cVv fx (c12_puts (zLo X) (zDo X) Sh top hO o_ (v_k_4 + 2) t9 μ8 _ ho e11) mv12_puts ml12_310 ho rfl rfl rfl rfl d12_isState_100 ?_
    refine z_aload_n fx (k := 0) (i := 0) rfl rfl d12_isState_103 ?_
    refine z_iload_n fx (k := 3) (i := 3) rfl rfl d12_isState_104 ?_
    refine z_iconst fx (v := 3) ic3 d12_isState_105 ?_
    refine z_iadd fx d12_isState_106 ?_
    refine z_iload_n fx (k := 2) (i := 2) rfl rfl d12_isState_107 ?_
    obtain ⟨μ11, e12, h⟩ := zinv h
    refine z_cVv fx (c12_puts (zLo X) (zDo X) Sh top hO o_ (v_k_4 + 3) v_state μ10 _ ho e12) mv12_puts ml12_310 ho rfl rfl rfl rfl d12_isState_108 ?_
    refine z_aload_n fx (k := 0) (i := 0) rfl rfl d12_isState_111 ?_
    refine z_iconst fx (v := 3) ic3 d12_isState_112 ?_
    refine z_aload_n fx (k := 0) (i := 0) rfl rfl d12_isState_113 ?_
    refine z_iconst fx (v := 3) ic3 d12_isState_114 ?_
    obtain ⟨t12, e13, h⟩ := zinv h
    refine z_cVr fx (c12_its (zLo X) (zDo X) Sh top hO o_ 3 μ11 _ ho e13) mv12_its ml12_316 ho rfl rfl rfl rfl d12_isState_115 ?_
    refine z_iconst fx (v := 1) ic1 d12_isState_118 ?_
    refine z_iadd fx d12_isState_119 ?_
    obtain ⟨μ13, e14, h⟩ := zinv h
    refine z_cVv fx (c12_puts (zLo X) (zDo X) Sh top hO o_ 3 (t12 + 1) μ11 _ ho e14) mv12_puts ml12_310 ho rfl rfl rfl rfl d12_isState_120 ?_
    cases h
    exact z_return fx fin d12_isState_123
  clear h
  refine z_aload_n fx (k := 0) (i := 0) rfl rfl d12_isState_7 ?_
  refine z_iconst fx (v := 3) ic3 d12_isState_8 ?_
  obtain ⟨t14, e15, e2⟩ := zinv e2
  refine z_cVr fx (c12_its (zLo X) (zDo X) Sh top hO o_ 3 μ1 _ ho e15) mv12_its ml12_316 ho rfl rfl rfl rfl d12_isState_9 ?_
  refine z_bipush fx (v := 40) bp40 d12_isState_12 ?_
  refine z_icmp_ne fx d12_isState_14 (fun c16 => ?_) (fun c16 => ?_)
  · replace e2 := zif_f c16 e2
    cases e2
    exact k3
  · replace e2 := zif_t c16 e2
    refine z_iconst fx (v := 0) ic0 d12_isState_17 ?_
    refine z_istore_n fx (k := 3) (i := 3) rfl rfl (lv' := [(0, .ref o_), (1, .int v_p), (2, .int v_state), (3, .int 0)]) rfl rfl d12_isState_18 ?_
    obtain ⟨v_k_17, μ18, e27, e2⟩ := zinv2 e2
    have kx20 : zZ zK1 X (zT0 Sh top) μ18 52 [(0, .ref o_), (1, .int v_p), (2, .int v_state), (3, .int v_k_17)] [] := by
      refine z_take 3 (lv' := [(0, .ref o_), (1, .int v_p), (2, .int v_state)]) rfl ?_
      refine z_aload_n fx (k := 0) (i := 0) rfl rfl d12_isState_52 ?_
      refine z_iconst fx (v := 3) ic3 d12_isState_53 ?_
      refine z_bipush fx (v := 39) bp39 d12_isState_54 ?_
      obtain ⟨μ22, e26, e2⟩ := zinv e2
      refine z_cVv fx (c12_puts (zLo X) (zDo X) Sh top hO o_ 3 39 μ18 _ ho e26) mv12_puts ml12_310 ho rfl rfl rfl rfl d12_isState_56 ?_
      cases e2
      exact k3
    clear e2
    have klr19 : ∀ (n : Nat) (v_k_15 : Int32) (μ16 : zM), zloop (fun s => f12_isState_L1 o_ s.1 s.2) n (v_k_15, μ16) = some (v_k_17, μ18) → zZ zK1 X (zT0 Sh top) μ16 19 [(0, .ref o_), (1, .int v_p), (2, .int v_state), (3, .int v_k_15)] [] := by
      intro n
      induction n with
      | zero => intro v_k_15 μ16 hl18; cases hl18
      | succ n ih21 =>
        intro v_k_15 μ16 hl18
        obtain ⟨y, e17, hl18⟩ := zloop_inv hl18
        replace e17 : f12_isState_L1 o_ v_k_15 μ16 = some y := e17
        unfold f12_isState_L1 at e17
        refine z_iload_n fx (k := 3) (i := 3) rfl rfl d12_isState_19 ?_
        refine z_sipush fx (v := 156) sp156 d12_isState_20 ?_
        refine z_icmp_ge fx d12_isState_23 (fun c22 => ?_) (fun c22 => ?_)
        · replace e17 := zif_f c22 e17
          cases e17
          cases hl18
          exact kx20
        · replace e17 := zif_t c22 e17
          refine z_aload_n fx (k := 0) (i := 0) rfl rfl d12_isState_26 ?_
          refine z_sipush fx (v := 1114) sp1114 d12_isState_27 ?_
          refine z_iload_n fx (k := 3) (i := 3) rfl rfl d12_isState_30 ?_
          refine z_iadd fx d12_isState_31 ?_
          refine z_aload_n fx (k := 0) (i := 0) rfl rfl d12_isState_32 ?_
          refine z_sipush fx (v := 1114) sp1114 d12_isState_33 ?_
          refine z_iload_n fx (k := 3) (i := 3) rfl rfl d12_isState_36 ?_
          refine z_iadd fx d12_isState_37 ?_
          refine z_iconst fx (v := 4) ic4 d12_isState_38 ?_
          refine z_iadd fx d12_isState_39 ?_
          obtain ⟨t19, e23, e17⟩ := zinv e17
          refine z_cVr fx (c12_its (zLo X) (zDo X) Sh top hO o_ ((1114 + v_k_15) + 4) μ16 _ ho e23) mv12_its ml12_316 ho rfl rfl rfl rfl d12_isState_40 ?_
          obtain ⟨μ20, e24, e17⟩ := zinv e17
          refine z_cVv fx (c12_puts (zLo X) (zDo X) Sh top hO o_ (1114 + v_k_15) t19 μ16 _ ho e24) mv12_puts ml12_310 ho rfl rfl rfl rfl d12_isState_43 ?_
          obtain ⟨v_k_21, e25, e17⟩ := zinv e17
          replace e25 := Option.some.inj e25
          refine z_iinc fx (i := 3) (x := v_k_15) (v := v_k_21) rfl (by rw [in1]; exact e25) rfl (lv' := [(0, .ref o_), (1, .int v_p), (2, .int v_state), (3, .int v_k_21)]) rfl rfl d12_isState_46 ?_
          cases e17
          refine z_goto fx d12_isState_49 ?_
          exact ih21 _ _ hl18
    exact klr19 _ _ _ e27
theorem d12_addressAt_0 : zd cX12_addressAt 0 (.sipush 986) 3 3 := by decide +kernel
theorem d12_addressAt_3 : zd cX12_addressAt 3 (.iconst 2) 1 4 := by decide +kernel
theorem d12_addressAt_4 : zd cX12_addressAt 4 (.bipush 8) 2 6 := by decide +kernel
theorem d12_addressAt_6 : zd cX12_addressAt 6 (.iload_n 0) 1 7 := by decide +kernel
theorem d12_addressAt_7 : zd cX12_addressAt 7 (.imul) 1 8 := by decide +kernel
theorem d12_addressAt_8 : zd cX12_addressAt 8 (.iload_n 1) 1 9 := by decide +kernel
theorem d12_addressAt_9 : zd cX12_addressAt 9 (.iadd) 1 10 := by decide +kernel
theorem d12_addressAt_10 : zd cX12_addressAt 10 (.imul) 1 11 := by decide +kernel
theorem d12_addressAt_11 : zd cX12_addressAt 11 (.iadd) 1 12 := by decide +kernel
theorem d12_addressAt_12 : zd cX12_addressAt 12 (.ireturn) 1 13 := by decide +kernel
set_option maxHeartbeats 4000000 in
set_option maxRecDepth 20000 in
theorem c12_addressAt (l : Launch) (D : zDt) (Sh : zSh) (top : Nat) (hO : zOK Sh) (v_b : Int32) (v_h : Int32) (μ : zM) (r_ : Int32)  (h : f12_addressAt v_b v_h μ = some r_) : zMet l D zK1 yX12_addressAt cX12_addressAt 2 (some .int) (zrm 0 0) [.int v_b, .int v_h] Sh top μ (some (.int r_)) Sh top μ 0 0 := by
  refine zMet_of (by decide) (Nat.le_of_ble_eq_true rfl) fun X hX1 hX2 fx fin => ?_
  subst hX1; subst hX2
  replace fx : zFix X cX12_addressAt RX12 (zrm 0 0) 2 := fx
  show zZ zK1 X (zT0 Sh top) μ 0 [(0, .int v_b), (1, .int v_h)] []
  unfold f12_addressAt at h
  refine z_sipush fx (v := 986) sp986 d12_addressAt_0 ?_
  refine z_iconst fx (v := 2) ic2 d12_addressAt_3 ?_
  refine z_bipush fx (v := 8) bp8 d12_addressAt_4 ?_
  refine z_iload_n fx (k := 0) (i := 0) rfl rfl d12_addressAt_6 ?_
  refine z_imul fx d12_addressAt_7 ?_
  refine z_iload_n fx (k := 1) (i := 1) rfl rfl d12_addressAt_8 ?_
  refine z_iadd fx d12_addressAt_9 ?_
  refine z_imul fx d12_addressAt_10 ?_
  refine z_iadd fx d12_addressAt_11 ?_
  cases h
  exact z_ireturn fx fin d12_addressAt_12
theorem d12_spreads_0 : zd cX12_spreads 0 (.iload_n 1) 1 1 := by decide +kernel
theorem d12_spreads_1 : zd cX12_spreads 1 (.bipush 6) 2 3 := by decide +kernel
theorem d12_spreads_3 : zd cX12_spreads 3 (.idiv) 1 4 := by decide +kernel
theorem d12_spreads_4 : zd cX12_spreads 4 (.istore_n 2) 1 5 := by decide +kernel
theorem d12_spreads_5 : zd cX12_spreads 5 (.iload_n 2) 1 6 := by decide +kernel
theorem d12_spreads_6 : zd cX12_spreads 6 (.iconst 0) 1 7 := by decide +kernel
theorem d12_spreads_7 : zd cX12_spreads 7 (.invokestatic 325) 3 10 := by decide +kernel
theorem d12_spreads_10 : zd cX12_spreads 10 (.istore_n 3) 1 11 := by decide +kernel
theorem d12_spreads_11 : zd cX12_spreads 11 (.iload_n 3) 1 12 := by decide +kernel
theorem d12_spreads_12 : zd cX12_spreads 12 (.iload_n 2) 1 13 := by decide +kernel
theorem d12_spreads_13 : zd cX12_spreads 13 (.aload_n 0) 1 14 := by decide +kernel
theorem d12_spreads_14 : zd cX12_spreads 14 (.getfield 35) 3 17 := by decide +kernel
theorem d12_spreads_17 : zd cX12_spreads 17 (.iload_n 2) 1 18 := by decide +kernel
theorem d12_spreads_18 : zd cX12_spreads 18 (.iaload) 1 19 := by decide +kernel
theorem d12_spreads_19 : zd cX12_spreads 19 (.invokestatic 325) 3 22 := by decide +kernel
theorem d12_spreads_22 : zj cX12_spreads 22 (.if_icmp .ge 71) 71 25 93 := by decide +kernel
theorem d12_spreads_25 : zd cX12_spreads 25 (.aload_n 0) 1 26 := by decide +kernel
theorem d12_spreads_26 : zd cX12_spreads 26 (.iload_n 3) 1 27 := by decide +kernel
theorem d12_spreads_27 : zd cX12_spreads 27 (.iconst 0) 1 28 := by decide +kernel
theorem d12_spreads_28 : zd cX12_spreads 28 (.invokevirtual 334) 3 31 := by decide +kernel
theorem d12_spreads_31 : zd cX12_spreads 31 (.istore 4) 2 33 := by decide +kernel
theorem d12_spreads_33 : zd cX12_spreads 33 (.iload_n 3) 1 34 := by decide +kernel
theorem d12_spreads_34 : zd cX12_spreads 34 (.iload_n 1) 1 35 := by decide +kernel
theorem d12_spreads_35 : zj cX12_spreads 35 (.if_icmp .eq 52) 52 38 87 := by decide +kernel
theorem d12_spreads_38 : zd cX12_spreads 38 (.iload 4) 2 40 := by decide +kernel
theorem d12_spreads_40 : zd cX12_spreads 40 (.iconst 1) 1 41 := by decide +kernel
theorem d12_spreads_41 : zj cX12_spreads 41 (.if_icmp .eq 9) 9 44 50 := by decide +kernel
theorem d12_spreads_44 : zd cX12_spreads 44 (.iload 4) 2 46 := by decide +kernel
theorem d12_spreads_46 : zd cX12_spreads 46 (.iconst 2) 1 47 := by decide +kernel
theorem d12_spreads_47 : zj cX12_spreads 47 (.if_icmp .ne 40) 40 50 87 := by decide +kernel
theorem d12_spreads_50 : zd cX12_spreads 50 (.aload_n 0) 1 51 := by decide +kernel
theorem d12_spreads_51 : zd cX12_spreads 51 (.iload_n 3) 1 52 := by decide +kernel
theorem d12_spreads_52 : zd cX12_spreads 52 (.iconst 5) 1 53 := by decide +kernel
theorem d12_spreads_53 : zd cX12_spreads 53 (.invokevirtual 334) 3 56 := by decide +kernel
theorem d12_spreads_56 : zd cX12_spreads 56 (.iconst 1) 1 57 := by decide +kernel
theorem d12_spreads_57 : zj cX12_spreads 57 (.if_icmp .eq 30) 30 60 87 := by decide +kernel
theorem d12_spreads_60 : zd cX12_spreads 60 (.aload_n 0) 1 61 := by decide +kernel
theorem d12_spreads_61 : zd cX12_spreads 61 (.iload_n 3) 1 62 := by decide +kernel
theorem d12_spreads_62 : zd cX12_spreads 62 (.iconst 3) 1 63 := by decide +kernel
theorem d12_spreads_63 : zd cX12_spreads 63 (.invokevirtual 334) 3 66 := by decide +kernel
theorem d12_spreads_66 : zj cX12_spreads 66 (.ifCond .eq 6) 6 69 72 := by decide +kernel
theorem d12_spreads_69 : zj cX12_spreads 69 (.goto 18) 18 72 87 := by decide +kernel
theorem d12_spreads_72 : zd cX12_spreads 72 (.aload_n 0) 1 73 := by decide +kernel
theorem d12_spreads_73 : zd cX12_spreads 73 (.iload_n 3) 1 74 := by decide +kernel
theorem d12_spreads_74 : zd cX12_spreads 74 (.iconst 3) 1 75 := by decide +kernel
theorem d12_spreads_75 : zd cX12_spreads 75 (.iconst 2) 1 76 := by decide +kernel
theorem d12_spreads_76 : zd cX12_spreads 76 (.invokevirtual 344) 3 79 := by decide +kernel
theorem d12_spreads_79 : zd cX12_spreads 79 (.aload_n 0) 1 80 := by decide +kernel
theorem d12_spreads_80 : zd cX12_spreads 80 (.iload_n 3) 1 81 := by decide +kernel
theorem d12_spreads_81 : zd cX12_spreads 81 (.bipush 9) 2 83 := by decide +kernel
theorem d12_spreads_83 : zd cX12_spreads 83 (.iconst 1) 1 84 := by decide +kernel
theorem d12_spreads_84 : zd cX12_spreads 84 (.invokevirtual 344) 3 87 := by decide +kernel
theorem d12_spreads_87 : zd cX12_spreads 87 (.iinc 3 1) 3 90 := by decide +kernel
theorem d12_spreads_90 : zj cX12_spreads 90 (.goto (-79)) (-79) 93 11 := by decide +kernel
theorem d12_spreads_93 : zd cX12_spreads 93 (.aload_n 0) 1 94 := by decide +kernel
theorem d12_spreads_94 : zd cX12_spreads 94 (.iload_n 2) 1 95 := by decide +kernel
theorem d12_spreads_95 : zd cX12_spreads 95 (.iconst 2) 1 96 := by decide +kernel
theorem d12_spreads_96 : zd cX12_spreads 96 (.invokevirtual 319) 3 99 := by decide +kernel
theorem d12_spreads_99 : zd cX12_spreads 99 (.iconst 1) 1 100 := by decide +kernel
theorem d12_spreads_100 : zj cX12_spreads 100 (.if_icmp .ne 23) 23 103 123 := by decide +kernel
theorem d12_spreads_103 : zd cX12_spreads 103 (.aload_n 0) 1 104 := by decide +kernel
theorem d12_spreads_104 : zd cX12_spreads 104 (.iload_n 2) 1 105 := by decide +kernel
theorem d12_spreads_105 : zd cX12_spreads 105 (.bipush 7) 2 107 := by decide +kernel
theorem d12_spreads_107 : zd cX12_spreads 107 (.invokestatic 307) 3 110 := by decide +kernel
theorem d12_spreads_110 : zd cX12_spreads 110 (.aload_n 0) 1 111 := by decide +kernel
theorem d12_spreads_111 : zd cX12_spreads 111 (.getfield 22) 3 114 := by decide +kernel
theorem d12_spreads_114 : zd cX12_spreads 114 (.aload_n 0) 1 115 := by decide +kernel
theorem d12_spreads_115 : zd cX12_spreads 115 (.getfield 25) 3 118 := by decide +kernel
theorem d12_spreads_118 : zd cX12_spreads 118 (.iadd) 1 119 := by decide +kernel
theorem d12_spreads_119 : zd cX12_spreads 119 (.invokevirtual 310) 3 122 := by decide +kernel
theorem d12_spreads_122 : zd cX12_spreads 122 (.return_) 1 123 := by decide +kernel
theorem d12_spreads_123 : zd cX12_spreads 123 (.iconst 0) 1 124 := by decide +kernel
theorem d12_spreads_124 : zd cX12_spreads 124 (.istore_n 3) 1 125 := by decide +kernel
theorem d12_spreads_125 : zd cX12_spreads 125 (.iload_n 3) 1 126 := by decide +kernel
theorem d12_spreads_126 : zd cX12_spreads 126 (.aload_n 0) 1 127 := by decide +kernel
theorem d12_spreads_127 : zd cX12_spreads 127 (.getfield 19) 3 130 := by decide +kernel
theorem d12_spreads_130 : zj cX12_spreads 130 (.if_icmp .ge 88) 88 133 218 := by decide +kernel
theorem d12_spreads_133 : zd cX12_spreads 133 (.aload_n 0) 1 134 := by decide +kernel
theorem d12_spreads_134 : zd cX12_spreads 134 (.iload_n 2) 1 135 := by decide +kernel
theorem d12_spreads_135 : zd cX12_spreads 135 (.iload_n 3) 1 136 := by decide +kernel
theorem d12_spreads_136 : zd cX12_spreads 136 (.invokestatic 348) 3 139 := by decide +kernel
theorem d12_spreads_139 : zd cX12_spreads 139 (.invokevirtual 316) 3 142 := by decide +kernel
theorem d12_spreads_142 : zd cX12_spreads 142 (.istore 4) 2 144 := by decide +kernel
theorem d12_spreads_144 : zd cX12_spreads 144 (.iload 4) 2 146 := by decide +kernel
theorem d12_spreads_146 : zd cX12_spreads 146 (.iconst (-1)) 1 147 := by decide +kernel
theorem d12_spreads_147 : zj cX12_spreads 147 (.if_icmp .eq 65) 65 150 212 := by decide +kernel
theorem d12_spreads_150 : zd cX12_spreads 150 (.iload 4) 2 152 := by decide +kernel
theorem d12_spreads_152 : zd cX12_spreads 152 (.bipush 6) 2 154 := by decide +kernel
theorem d12_spreads_154 : zj cX12_spreads 154 (.if_icmp .eq 58) 58 157 212 := by decide +kernel
theorem d12_spreads_157 : zd cX12_spreads 157 (.iload 4) 2 159 := by decide +kernel
theorem d12_spreads_159 : zd cX12_spreads 159 (.iload_n 1) 1 160 := by decide +kernel
theorem d12_spreads_160 : zd cX12_spreads 160 (.bipush 6) 2 162 := by decide +kernel
theorem d12_spreads_162 : zd cX12_spreads 162 (.irem) 1 163 := by decide +kernel
theorem d12_spreads_163 : zj cX12_spreads 163 (.if_icmp .eq 49) 49 166 212 := by decide +kernel
theorem d12_spreads_166 : zd cX12_spreads 166 (.aload_n 0) 1 167 := by decide +kernel
theorem d12_spreads_167 : zd cX12_spreads 167 (.iload_n 2) 1 168 := by decide +kernel
theorem d12_spreads_168 : zd cX12_spreads 168 (.iload 4) 2 170 := by decide +kernel
theorem d12_spreads_170 : zd cX12_spreads 170 (.invokestatic 325) 3 173 := by decide +kernel
theorem d12_spreads_173 : zd cX12_spreads 173 (.iconst 5) 1 174 := by decide +kernel
theorem d12_spreads_174 : zd cX12_spreads 174 (.invokevirtual 334) 3 177 := by decide +kernel
theorem d12_spreads_177 : zd cX12_spreads 177 (.iconst 1) 1 178 := by decide +kernel
theorem d12_spreads_178 : zj cX12_spreads 178 (.if_icmp .ne 6) 6 181 184 := by decide +kernel
theorem d12_spreads_181 : zj cX12_spreads 181 (.goto 31) 31 184 212 := by decide +kernel
theorem d12_spreads_184 : zd cX12_spreads 184 (.aload_n 0) 1 185 := by decide +kernel
theorem d12_spreads_185 : zd cX12_spreads 185 (.iload_n 2) 1 186 := by decide +kernel
theorem d12_spreads_186 : zd cX12_spreads 186 (.iload_n 3) 1 187 := by decide +kernel
theorem d12_spreads_187 : zd cX12_spreads 187 (.invokestatic 348) 3 190 := by decide +kernel
theorem d12_spreads_190 : zd cX12_spreads 190 (.iconst (-1)) 1 191 := by decide +kernel
theorem d12_spreads_191 : zd cX12_spreads 191 (.invokevirtual 310) 3 194 := by decide +kernel
theorem d12_spreads_194 : zd cX12_spreads 194 (.aload_n 0) 1 195 := by decide +kernel
theorem d12_spreads_195 : zd cX12_spreads 195 (.iconst 1) 1 196 := by decide +kernel
theorem d12_spreads_196 : zd cX12_spreads 196 (.sipush 9999) 3 199 := by decide +kernel
theorem d12_spreads_199 : zd cX12_spreads 199 (.aload_n 0) 1 200 := by decide +kernel
theorem d12_spreads_200 : zd cX12_spreads 200 (.iconst 1) 1 201 := by decide +kernel
theorem d12_spreads_201 : zd cX12_spreads 201 (.invokevirtual 316) 3 204 := by decide +kernel
theorem d12_spreads_204 : zd cX12_spreads 204 (.iconst 1) 1 205 := by decide +kernel
theorem d12_spreads_205 : zd cX12_spreads 205 (.iadd) 1 206 := by decide +kernel
theorem d12_spreads_206 : zd cX12_spreads 206 (.invokestatic 360) 3 209 := by decide +kernel
theorem d12_spreads_209 : zd cX12_spreads 209 (.invokevirtual 310) 3 212 := by decide +kernel
theorem d12_spreads_212 : zd cX12_spreads 212 (.iinc 3 1) 3 215 := by decide +kernel
theorem d12_spreads_215 : zj cX12_spreads 215 (.goto (-90)) (-90) 218 125 := by decide +kernel
theorem d12_spreads_218 : zd cX12_spreads 218 (.return_) 1 219 := by decide +kernel
set_option maxHeartbeats 4000000 in
set_option maxRecDepth 20000 in
theorem c12_spreads (l : Launch) (D : zDt) (Sh : zSh) (top : Nat) (hO : zOK Sh) (o_ : Nat) (v_p : Int32) (μ : zM) (μ_ : zM) (ho : (Sh o_).1 = 19) (h : f12_spreads o_ v_p μ = some μ_) : zMet l D zK1 yX12_spreads cX12_spreads 5 none (zrm 2 45) [.ref o_, .int v_p] Sh top μ none Sh top μ_ 0 0 := by
  refine zMet_of (by decide) (Nat.le_of_ble_eq_true rfl) fun X hX1 hX2 fx fin => ?_
  subst hX1; subst hX2
  replace fx : zFix X cX12_spreads RX12 (zrm 2 45) 5 := fx
  show zZ zK1 X (zT0 Sh top) μ 0 [(0, .ref o_), (1, .int v_p)] []
  unfold f12_spreads at h
  refine z_iload_n fx (k := 1) (i := 1) rfl rfl d12_spreads_0 ?_
  refine z_bipush fx (v := 6) bp6 d12_spreads_1 ?_
  obtain ⟨t1, e1, h⟩ := zinv h
  refine z_idiv fx e1 d12_spreads_3 ?_
  refine z_istore_n fx (k := 2) (i := 2) rfl rfl (lv' := [(0, .ref o_), (1, .int v_p), (2, .int t1)]) rfl rfl d12_spreads_4 ?_
  refine z_iload_n fx (k := 2) (i := 2) rfl rfl d12_spreads_5 ?_
  refine z_iconst fx (v := 0) ic0 d12_spreads_6 ?_
  obtain ⟨t2, e2, h⟩ := zinv h
  refine z_cSr fx (c12_placeOf (zLo X) (zDo X) Sh top hO t1 0 μ _  e2) ms12_placeOf ml12_325 rfl rfl rfl rfl d12_spreads_7 ?_
  refine z_istore_n fx (k := 3) (i := 3) rfl rfl (lv' := [(0, .ref o_), (1, .int v_p), (2, .int t1), (3, .int t2)]) rfl rfl d12_spreads_10 ?_
  obtain ⟨v_q_5, μ6, e60, h⟩ := zinv2 h
  have kx6 : zZ zK1 X (zT0 Sh top) μ6 93 [(0, .ref o_), (1, .int v_p), (2, .int t1), (3, .int v_q_5)] [] := by
    refine z_take 3 (lv' := [(0, .ref o_), (1, .int v_p), (2, .int t1)]) rfl ?_
    refine z_aload_n fx (k := 0) (i := 0) rfl rfl d12_spreads_93 ?_
    refine z_iload_n fx (k := 2) (i := 2) rfl rfl d12_spreads_94 ?_
    refine z_iconst fx (v := 2) ic2 d12_spreads_95 ?_
    obtain ⟨t18, e28, h⟩ := zinv h
    refine z_cVr fx (c12_of (zLo X) (zDo X) Sh top hO o_ t1 2 μ6 _ ho e28) mv12_of ml12_319 ho rfl rfl rfl rfl d12_spreads_96 ?_
    refine z_iconst fx (v := 1) ic1 d12_spreads_99 ?_
    refine z_icmp_ne fx d12_spreads_100 (fun c29 => ?_) (fun c29 => ?_)
    · replace h := zif_f c29 h
      refine z_iconst fx (v := 0) ic0 d12_spreads_123 ?_
      refine z_istore_n fx (k := 3) (i := 3) rfl rfl (lv' := [(0, .ref o_), (1, .int v_p), (2, .int t1), (3, .int 0)]) rfl rfl d12_spreads_124 ?_
      obtain ⟨v_h_21, μ22, e57, h⟩ := zinv2 h
      have kx33 : zZ zK1 X (zT0 Sh top) μ22 218 [(0, .ref o_), (1, .int v_p), (2, .int t1), (3, .int v_h_21)] [] := by
        refine z_take 3 (lv' := [(0, .ref o_), (1, .int v_p), (2, .int t1)]) rfl ?_
        cases h
        exact z_return fx fin d12_spreads_218
      clear h
      have klr32 : ∀ (n : Nat) (v_h_19 : Int32) (μ20 : zM), zloop (fun s => f12_spreads_L2 o_ v_p t1 s.1 s.2) n (v_h_19, μ20) = some (v_h_21, μ22) → zZ zK1 X (zT0 Sh top) μ20 125 [(0, .ref o_), (1, .int v_p), (2, .int t1), (3, .int v_h_19)] [] := by
        intro n
        induction n with
        | zero => intro v_h_19 μ20 hl31; cases hl31
        | succ n ih34 =>
          intro v_h_19 μ20 hl31
          obtain ⟨y, e30, hl31⟩ := zloop_inv hl31
          replace e30 : f12_spreads_L2 o_ v_p t1 v_h_19 μ20 = some y := e30
          unfold f12_spreads_L2 at e30
          refine z_iload_n fx (k := 3) (i := 3) rfl rfl d12_spreads_125 ?_
          refine z_aload_n fx (k := 0) (i := 0) rfl rfl d12_spreads_126 ?_
          refine z_getI fx 12 3 1203 ho lf12_19 ⟨fk12_3, rfl⟩ d12_spreads_127 ?_
          refine z_icmp_ge fx d12_spreads_130 (fun c35 => ?_) (fun c35 => ?_)
          · replace e30 := zif_f c35 e30
            cases e30
            cases hl31
            exact kx33
          · replace e30 := zif_t c35 e30
            refine z_aload_n fx (k := 0) (i := 0) rfl rfl d12_spreads_133 ?_
            refine z_iload_n fx (k := 2) (i := 2) rfl rfl d12_spreads_134 ?_
            refine z_iload_n fx (k := 3) (i := 3) rfl rfl d12_spreads_135 ?_
            obtain ⟨t23, e36, e30⟩ := zinv e30
            refine z_cSr fx (c12_addressAt (zLo X) (zDo X) Sh top hO t1 v_h_19 μ20 _  e36) ms12_addressAt ml12_348 rfl rfl rfl rfl d12_spreads_136 ?_
            obtain ⟨t24, e37, e30⟩ := zinv e30
            refine z_cVr fx (c12_its (zLo X) (zDo X) Sh top hO o_ t23 μ20 _ ho e37) mv12_its ml12_316 ho rfl rfl rfl rfl d12_spreads_139 ?_
            refine z_istore fx (i := 4) rfl (lv' := [(0, .ref o_), (1, .int v_p), (2, .int t1), (3, .int v_h_19), (4, .int t24)]) rfl rfl d12_spreads_142 ?_
            obtain ⟨b25, e39, e30⟩ := zinv e30
            have kt38 : b25 = true → zZ zK1 X (zT0 Sh top) μ20 212 [(0, .ref o_), (1, .int v_p), (2, .int t1), (3, .int v_h_19), (4, .int t24)] [] := by
              intro hc
              replace e30 := zif_t hc e30
              refine z_take 4 (lv' := [(0, .ref o_), (1, .int v_p), (2, .int t1), (3, .int v_h_19)]) rfl ?_
              obtain ⟨v_h_26, e40, e30⟩ := zinv e30
              replace e40 := Option.some.inj e40
              refine z_iinc fx (i := 3) (x := v_h_19) (v := v_h_26) rfl (by rw [in1]; exact e40) rfl (lv' := [(0, .ref o_), (1, .int v_p), (2, .int t1), (3, .int v_h_26)]) rfl rfl d12_spreads_212 ?_
              cases e30
              refine z_goto fx d12_spreads_215 ?_
              exact ih34 _ _ hl31
            have kf38 : b25 = false → zZ zK1 X (zT0 Sh top) μ20 184 [(0, .ref o_), (1, .int v_p), (2, .int t1), (3, .int v_h_19), (4, .int t24)] [] := by
              intro hc
              replace e30 := zif_f hc e30
              refine z_aload_n fx (k := 0) (i := 0) rfl rfl d12_spreads_184 ?_
              refine z_iload_n fx (k := 2) (i := 2) rfl rfl d12_spreads_185 ?_
              refine z_iload_n fx (k := 3) (i := 3) rfl rfl d12_spreads_186 ?_
              obtain ⟨t27, e41, e30⟩ := zinv e30
              refine z_cSr fx (c12_addressAt (zLo X) (zDo X) Sh top hO t1 v_h_19 μ20 _  e41) ms12_addressAt ml12_348 rfl rfl rfl rfl d12_spreads_187 ?_
              refine z_iconst fx (v := (-1)) icm1 d12_spreads_190 ?_
              obtain ⟨μ28, e42, e30⟩ := zinv e30
              refine z_cVv fx (c12_puts (zLo X) (zDo X) Sh top hO o_ t27 (-1) μ20 _ ho e42) mv12_puts ml12_310 ho rfl rfl rfl rfl d12_spreads_191 ?_
              refine z_aload_n fx (k := 0) (i := 0) rfl rfl d12_spreads_194 ?_
              refine z_iconst fx (v := 1) ic1 d12_spreads_195 ?_
              refine z_sipush fx (v := 9999) sp9999 d12_spreads_196 ?_
              refine z_aload_n fx (k := 0) (i := 0) rfl rfl d12_spreads_199 ?_
              refine z_iconst fx (v := 1) ic1 d12_spreads_200 ?_
              obtain ⟨t29, e43, e30⟩ := zinv e30
              refine z_cVr fx (c12_its (zLo X) (zDo X) Sh top hO o_ 1 μ28 _ ho e43) mv12_its ml12_316 ho rfl rfl rfl rfl d12_spreads_201 ?_
              refine z_iconst fx (v := 1) ic1 d12_spreads_204 ?_
              refine z_iadd fx d12_spreads_205 ?_
              obtain ⟨t30, e44, e30⟩ := zinv e30
              refine z_cSr fx (c12_least (zLo X) (zDo X) Sh top hO 9999 (t29 + 1) μ28 _  e44) ms12_least ml12_360 rfl rfl rfl rfl d12_spreads_206 ?_
              obtain ⟨μ31, e45, e30⟩ := zinv e30
              refine z_cVv fx (c12_puts (zLo X) (zDo X) Sh top hO o_ 1 t30 μ28 _ ho e45) mv12_puts ml12_310 ho rfl rfl rfl rfl d12_spreads_209 ?_
              refine z_take 4 (lv' := [(0, .ref o_), (1, .int v_p), (2, .int t1), (3, .int v_h_19)]) rfl ?_
              obtain ⟨v_h_32, e46, e30⟩ := zinv e30
              replace e46 := Option.some.inj e46
              refine z_iinc fx (i := 3) (x := v_h_19) (v := v_h_32) rfl (by rw [in1]; exact e46) rfl (lv' := [(0, .ref o_), (1, .int v_p), (2, .int t1), (3, .int v_h_32)]) rfl rfl d12_spreads_212 ?_
              cases e30
              refine z_goto fx d12_spreads_215 ?_
              exact ih34 _ _ hl31
            clear e30
            obtain ⟨b33, e47, e39⟩ := zinv e39
            have kf48 : b33 = false → zZ zK1 X (zT0 Sh top) μ20 166 [(0, .ref o_), (1, .int v_p), (2, .int t1), (3, .int v_h_19), (4, .int t24)] [] := by
              intro hc
              replace e39 := zif_f hc e39
              refine z_aload_n fx (k := 0) (i := 0) rfl rfl d12_spreads_166 ?_
              refine z_iload_n fx (k := 2) (i := 2) rfl rfl d12_spreads_167 ?_
              refine z_iload fx (i := 4) rfl d12_spreads_168 ?_
              obtain ⟨t34, e49, e39⟩ := zinv e39
              refine z_cSr fx (c12_placeOf (zLo X) (zDo X) Sh top hO t1 t24 μ20 _  e49) ms12_placeOf ml12_325 rfl rfl rfl rfl d12_spreads_170 ?_
              refine z_iconst fx (v := 5) ic5 d12_spreads_173 ?_
              obtain ⟨t35, e50, e39⟩ := zinv e39
              refine z_cVr fx (c12_portOf (zLo X) (zDo X) Sh top hO o_ t34 5 μ20 _ ho e50) mv12_portOf ml12_334 ho rfl rfl rfl rfl d12_spreads_174 ?_
              refine z_iconst fx (v := 1) ic1 d12_spreads_177 ?_
              cases e39
              refine z_icmp_ne fx d12_spreads_178 (fun c51 => ?_) (fun c51 => ?_)
              · exact kf38 c51
              · refine z_goto fx d12_spreads_181 ?_
                exact kt38 c51
            have kt48 : b33 = true → zZ zK1 X (zT0 Sh top) μ20 212 [(0, .ref o_), (1, .int v_p), (2, .int t1), (3, .int v_h_19), (4, .int t24)] [] := by
              intro hc
              replace e39 := zif_t hc e39
              cases e39
              exact kt38 rfl
            clear e39
            have kf52 : ((ceq t24 (-1)) || (ceq t24 6)) = false → zZ zK1 X (zT0 Sh top) μ20 157 [(0, .ref o_), (1, .int v_p), (2, .int t1), (3, .int v_h_19), (4, .int t24)] [] := by
              intro hc
              replace e47 := zif_f hc e47
              refine z_iload fx (i := 4) rfl d12_spreads_157 ?_
              refine z_iload_n fx (k := 1) (i := 1) rfl rfl d12_spreads_159 ?_
              refine z_bipush fx (v := 6) bp6 d12_spreads_160 ?_
              obtain ⟨t36, e53, e47⟩ := zinv e47
              refine z_irem fx e53 d12_spreads_162 ?_
              cases e47
              refine z_icmp_eq fx d12_spreads_163 (fun c54 => ?_) (fun c54 => ?_)
              · exact kt48 c54
              · exact kf48 c54
            have kt52 : ((ceq t24 (-1)) || (ceq t24 6)) = true → zZ zK1 X (zT0 Sh top) μ20 212 [(0, .ref o_), (1, .int v_p), (2, .int t1), (3, .int v_h_19), (4, .int t24)] [] := by
              intro hc
              replace e47 := zif_t hc e47
              cases e47
              exact kt48 rfl
            refine z_iload fx (i := 4) rfl d12_spreads_144 ?_
            refine z_iconst fx (v := (-1)) icm1 d12_spreads_146 ?_
            refine z_icmp_eq fx d12_spreads_147 (fun c55 => ?_) (fun c55 => ?_)
            · exact kt52 (by simp [c55])
            · refine z_iload fx (i := 4) rfl d12_spreads_150 ?_
              refine z_bipush fx (v := 6) bp6 d12_spreads_152 ?_
              refine z_icmp_eq fx d12_spreads_154 (fun c56 => ?_) (fun c56 => ?_)
              · exact kt52 (by simp [c55, c56])
              · exact kf52 (by simp [c55, c56])
      exact klr32 _ _ _ e57
    · replace h := zif_t c29 h
      refine z_aload_n fx (k := 0) (i := 0) rfl rfl d12_spreads_103 ?_
      refine z_iload_n fx (k := 2) (i := 2) rfl rfl d12_spreads_104 ?_
      refine z_bipush fx (v := 7) bp7 d12_spreads_105 ?_
      obtain ⟨t37, e58, h⟩ := zinv h
      refine z_cSr fx (c12_bridgeAt (zLo X) (zDo X) Sh top hO t1 7 μ6 _  e58) ms12_bridgeAt ml12_307 rfl rfl rfl rfl d12_spreads_107 ?_
      refine z_aload_n fx (k := 0) (i := 0) rfl rfl d12_spreads_110 ?_
      refine z_getI fx 12 4 1204 ho lf12_22 ⟨fk12_4, rfl⟩ d12_spreads_111 ?_
      refine z_aload_n fx (k := 0) (i := 0) rfl rfl d12_spreads_114 ?_
      refine z_getI fx 12 5 1205 ho lf12_25 ⟨fk12_5, rfl⟩ d12_spreads_115 ?_
      refine z_iadd fx d12_spreads_118 ?_
      obtain ⟨μ38, e59, h⟩ := zinv h
      refine z_cVv fx (c12_puts (zLo X) (zDo X) Sh top hO o_ t37 ((gF μ6 1204 o_) + (gF μ6 1205 o_)) μ6 _ ho e59) mv12_puts ml12_310 ho rfl rfl rfl rfl d12_spreads_119 ?_
      cases h
      exact z_return fx fin d12_spreads_122
  clear h
  have klr5 : ∀ (n : Nat) (v_q_3 : Int32) (μ4 : zM), zloop (fun s => f12_spreads_L1 o_ v_p t1 s.1 s.2) n (v_q_3, μ4) = some (v_q_5, μ6) → zZ zK1 X (zT0 Sh top) μ4 11 [(0, .ref o_), (1, .int v_p), (2, .int t1), (3, .int v_q_3)] [] := by
    intro n
    induction n with
    | zero => intro v_q_3 μ4 hl4; cases hl4
    | succ n ih7 =>
      intro v_q_3 μ4 hl4
      obtain ⟨y, e3, hl4⟩ := zloop_inv hl4
      replace e3 : f12_spreads_L1 o_ v_p t1 v_q_3 μ4 = some y := e3
      unfold f12_spreads_L1 at e3
      refine z_iload_n fx (k := 3) (i := 3) rfl rfl d12_spreads_11 ?_
      refine z_iload_n fx (k := 2) (i := 2) rfl rfl d12_spreads_12 ?_
      refine z_aload_n fx (k := 0) (i := 0) rfl rfl d12_spreads_13 ?_
      refine z_getO fx 12 8 3 ho lf12_35 fk12_8 d12_spreads_14 ?_
      refine z_iload_n fx (k := 2) (i := 2) rfl rfl d12_spreads_17 ?_
      obtain ⟨t7, e8, e3⟩ := zinv e3
      refine z_iald fx (ok12_8 hO ho) e8 d12_spreads_18 ?_
      obtain ⟨t8, e9, e3⟩ := zinv e3
      refine z_cSr fx (c12_placeOf (zLo X) (zDo X) Sh top hO t1 t7 μ4 _  e9) ms12_placeOf ml12_325 rfl rfl rfl rfl d12_spreads_19 ?_
      refine z_icmp_ge fx d12_spreads_22 (fun c10 => ?_) (fun c10 => ?_)
      · replace e3 := zif_f c10 e3
        cases e3
        cases hl4
        exact kx6
      · replace e3 := zif_t c10 e3
        refine z_aload_n fx (k := 0) (i := 0) rfl rfl d12_spreads_25 ?_
        refine z_iload_n fx (k := 3) (i := 3) rfl rfl d12_spreads_26 ?_
        refine z_iconst fx (v := 0) ic0 d12_spreads_27 ?_
        obtain ⟨t9, e11, e3⟩ := zinv e3
        refine z_cVr fx (c12_portOf (zLo X) (zDo X) Sh top hO o_ v_q_3 0 μ4 _ ho e11) mv12_portOf ml12_334 ho rfl rfl rfl rfl d12_spreads_28 ?_
        refine z_istore fx (i := 4) rfl (lv' := [(0, .ref o_), (1, .int v_p), (2, .int t1), (3, .int v_q_3), (4, .int t9)]) rfl rfl d12_spreads_31 ?_
        obtain ⟨b10, e13, e3⟩ := zinv e3
        have kt12 : b10 = true → zZ zK1 X (zT0 Sh top) μ4 87 [(0, .ref o_), (1, .int v_p), (2, .int t1), (3, .int v_q_3), (4, .int t9)] [] := by
          intro hc
          replace e3 := zif_t hc e3
          refine z_take 4 (lv' := [(0, .ref o_), (1, .int v_p), (2, .int t1), (3, .int v_q_3)]) rfl ?_
          obtain ⟨v_q_11, e14, e3⟩ := zinv e3
          replace e14 := Option.some.inj e14
          refine z_iinc fx (i := 3) (x := v_q_3) (v := v_q_11) rfl (by rw [in1]; exact e14) rfl (lv' := [(0, .ref o_), (1, .int v_p), (2, .int t1), (3, .int v_q_11)]) rfl rfl d12_spreads_87 ?_
          cases e3
          refine z_goto fx d12_spreads_90 ?_
          exact ih7 _ _ hl4
        have kf12 : b10 = false → zZ zK1 X (zT0 Sh top) μ4 72 [(0, .ref o_), (1, .int v_p), (2, .int t1), (3, .int v_q_3), (4, .int t9)] [] := by
          intro hc
          replace e3 := zif_f hc e3
          refine z_aload_n fx (k := 0) (i := 0) rfl rfl d12_spreads_72 ?_
          refine z_iload_n fx (k := 3) (i := 3) rfl rfl d12_spreads_73 ?_
          refine z_iconst fx (v := 3) ic3 d12_spreads_74 ?_
          refine z_iconst fx (v := 2) ic2 d12_spreads_75 ?_
          obtain ⟨μ12, e15, e3⟩ := zinv e3
          refine z_cVv fx (c12_sets (zLo X) (zDo X) Sh top hO o_ v_q_3 3 2 μ4 _ ho e15) mv12_sets ml12_344 ho rfl rfl rfl rfl d12_spreads_76 ?_
          refine z_aload_n fx (k := 0) (i := 0) rfl rfl d12_spreads_79 ?_
          refine z_iload_n fx (k := 3) (i := 3) rfl rfl d12_spreads_80 ?_
          refine z_bipush fx (v := 9) bp9 d12_spreads_81 ?_
          refine z_iconst fx (v := 1) ic1 d12_spreads_83 ?_
          obtain ⟨μ13, e16, e3⟩ := zinv e3
          refine z_cVv fx (c12_sets (zLo X) (zDo X) Sh top hO o_ v_q_3 9 1 μ12 _ ho e16) mv12_sets ml12_344 ho rfl rfl rfl rfl d12_spreads_84 ?_
          refine z_take 4 (lv' := [(0, .ref o_), (1, .int v_p), (2, .int t1), (3, .int v_q_3)]) rfl ?_
          obtain ⟨v_q_14, e17, e3⟩ := zinv e3
          replace e17 := Option.some.inj e17
          refine z_iinc fx (i := 3) (x := v_q_3) (v := v_q_14) rfl (by rw [in1]; exact e17) rfl (lv' := [(0, .ref o_), (1, .int v_p), (2, .int t1), (3, .int v_q_14)]) rfl rfl d12_spreads_87 ?_
          cases e3
          refine z_goto fx d12_spreads_90 ?_
          exact ih7 _ _ hl4
        clear e3
        obtain ⟨b15, e18, e13⟩ := zinv e13
        have kf19 : b15 = false → zZ zK1 X (zT0 Sh top) μ4 60 [(0, .ref o_), (1, .int v_p), (2, .int t1), (3, .int v_q_3), (4, .int t9)] [] := by
          intro hc
          replace e13 := zif_f hc e13
          refine z_aload_n fx (k := 0) (i := 0) rfl rfl d12_spreads_60 ?_
          refine z_iload_n fx (k := 3) (i := 3) rfl rfl d12_spreads_61 ?_
          refine z_iconst fx (v := 3) ic3 d12_spreads_62 ?_
          obtain ⟨t16, e20, e13⟩ := zinv e13
          refine z_cVr fx (c12_portOf (zLo X) (zDo X) Sh top hO o_ v_q_3 3 μ4 _ ho e20) mv12_portOf ml12_334 ho rfl rfl rfl rfl d12_spreads_63 ?_
          cases e13
          refine z_if_eq fx d12_spreads_66 (fun c21 => ?_) (fun c21 => ?_)
          · exact kf12 (by rw [c21]; rfl)
          · refine z_goto fx d12_spreads_69 ?_
            exact kt12 (by rw [c21]; rfl)
        have kt19 : b15 = true → zZ zK1 X (zT0 Sh top) μ4 87 [(0, .ref o_), (1, .int v_p), (2, .int t1), (3, .int v_q_3), (4, .int t9)] [] := by
          intro hc
          replace e13 := zif_t hc e13
          cases e13
          exact kt12 rfl
        clear e13
        have kf22 : ((ceq v_q_3 v_p) || ((!(ceq t9 1)) && (!(ceq t9 2)))) = false → zZ zK1 X (zT0 Sh top) μ4 50 [(0, .ref o_), (1, .int v_p), (2, .int t1), (3, .int v_q_3), (4, .int t9)] [] := by
          intro hc
          replace e18 := zif_f hc e18
          refine z_aload_n fx (k := 0) (i := 0) rfl rfl d12_spreads_50 ?_
          refine z_iload_n fx (k := 3) (i := 3) rfl rfl d12_spreads_51 ?_
          refine z_iconst fx (v := 5) ic5 d12_spreads_52 ?_
          obtain ⟨t17, e23, e18⟩ := zinv e18
          refine z_cVr fx (c12_portOf (zLo X) (zDo X) Sh top hO o_ v_q_3 5 μ4 _ ho e23) mv12_portOf ml12_334 ho rfl rfl rfl rfl d12_spreads_53 ?_
          refine z_iconst fx (v := 1) ic1 d12_spreads_56 ?_
          cases e18
          refine z_icmp_eq fx d12_spreads_57 (fun c24 => ?_) (fun c24 => ?_)
          · exact kt19 c24
          · exact kf19 c24
        have kt22 : ((ceq v_q_3 v_p) || ((!(ceq t9 1)) && (!(ceq t9 2)))) = true → zZ zK1 X (zT0 Sh top) μ4 87 [(0, .ref o_), (1, .int v_p), (2, .int t1), (3, .int v_q_3), (4, .int t9)] [] := by
          intro hc
          replace e18 := zif_t hc e18
          cases e18
          exact kt19 rfl
        refine z_iload_n fx (k := 3) (i := 3) rfl rfl d12_spreads_33 ?_
        refine z_iload_n fx (k := 1) (i := 1) rfl rfl d12_spreads_34 ?_
        refine z_icmp_eq fx d12_spreads_35 (fun c25 => ?_) (fun c25 => ?_)
        · exact kt22 (by simp [c25])
        · refine z_iload fx (i := 4) rfl d12_spreads_38 ?_
          refine z_iconst fx (v := 1) ic1 d12_spreads_40 ?_
          refine z_icmp_eq fx d12_spreads_41 (fun c26 => ?_) (fun c26 => ?_)
          · exact kf22 (by simp [c25, c26])
          · refine z_iload fx (i := 4) rfl d12_spreads_44 ?_
            refine z_iconst fx (v := 2) ic2 d12_spreads_46 ?_
            refine z_icmp_ne fx d12_spreads_47 (fun c27 => ?_) (fun c27 => ?_)
            · exact kt22 (by simp [c25, c26, c27])
            · exact kf22 (by simp [c25, c26, c27])
  exact klr5 _ _ _ e60
theorem d12_opens_0 : zd cX12_opens 0 (.aload_n 0) 1 1 := by decide +kernel
theorem d12_opens_1 : zd cX12_opens 1 (.iload_n 1) 1 2 := by decide +kernel
theorem d12_opens_2 : zd cX12_opens 2 (.iconst 1) 1 3 := by decide +kernel
theorem d12_opens_3 : zd cX12_opens 3 (.invokevirtual 334) 3 6 := by decide +kernel
theorem d12_opens_6 : zd cX12_opens 6 (.iconst 2) 1 7 := by decide +kernel
theorem d12_opens_7 : zj cX12_opens 7 (.if_icmp .ne 4) 4 10 11 := by decide +kernel
theorem d12_opens_10 : zd cX12_opens 10 (.return_) 1 11 := by decide +kernel
theorem d12_opens_11 : zd cX12_opens 11 (.aload_n 0) 1 12 := by decide +kernel
theorem d12_opens_12 : zd cX12_opens 12 (.iload_n 1) 1 13 := by decide +kernel
theorem d12_opens_13 : zd cX12_opens 13 (.iconst 2) 1 14 := by decide +kernel
theorem d12_opens_14 : zd cX12_opens 14 (.invokevirtual 351) 3 17 := by decide +kernel
theorem d12_opens_17 : zd cX12_opens 17 (.aload_n 0) 1 18 := by decide +kernel
theorem d12_opens_18 : zd cX12_opens 18 (.iload_n 1) 1 19 := by decide +kernel
theorem d12_opens_19 : zd cX12_opens 19 (.iconst 2) 1 20 := by decide +kernel
theorem d12_opens_20 : zd cX12_opens 20 (.iconst 0) 1 21 := by decide +kernel
theorem d12_opens_21 : zd cX12_opens 21 (.invokevirtual 344) 3 24 := by decide +kernel
theorem d12_opens_24 : zd cX12_opens 24 (.aload_n 0) 1 25 := by decide +kernel
theorem d12_opens_25 : zd cX12_opens 25 (.iload_n 1) 1 26 := by decide +kernel
theorem d12_opens_26 : zd cX12_opens 26 (.iconst 5) 1 27 := by decide +kernel
theorem d12_opens_27 : zd cX12_opens 27 (.invokevirtual 334) 3 30 := by decide +kernel
theorem d12_opens_30 : zd cX12_opens 30 (.iconst 1) 1 31 := by decide +kernel
theorem d12_opens_31 : zj cX12_opens 31 (.if_icmp .ne 4) 4 34 35 := by decide +kernel
theorem d12_opens_34 : zd cX12_opens 34 (.return_) 1 35 := by decide +kernel
theorem d12_opens_35 : zd cX12_opens 35 (.aload_n 0) 1 36 := by decide +kernel
theorem d12_opens_36 : zd cX12_opens 36 (.iload_n 1) 1 37 := by decide +kernel
theorem d12_opens_37 : zd cX12_opens 37 (.iconst 3) 1 38 := by decide +kernel
theorem d12_opens_38 : zd cX12_opens 38 (.iconst 2) 1 39 := by decide +kernel
theorem d12_opens_39 : zd cX12_opens 39 (.invokevirtual 344) 3 42 := by decide +kernel
theorem d12_opens_42 : zd cX12_opens 42 (.aload_n 0) 1 43 := by decide +kernel
theorem d12_opens_43 : zd cX12_opens 43 (.iload_n 1) 1 44 := by decide +kernel
theorem d12_opens_44 : zd cX12_opens 44 (.bipush 9) 2 46 := by decide +kernel
theorem d12_opens_46 : zd cX12_opens 46 (.iconst 1) 1 47 := by decide +kernel
theorem d12_opens_47 : zd cX12_opens 47 (.invokevirtual 344) 3 50 := by decide +kernel
theorem d12_opens_50 : zd cX12_opens 50 (.aload_n 0) 1 51 := by decide +kernel
theorem d12_opens_51 : zd cX12_opens 51 (.iload_n 1) 1 52 := by decide +kernel
theorem d12_opens_52 : zd cX12_opens 52 (.invokevirtual 357) 3 55 := by decide +kernel
theorem d12_opens_55 : zd cX12_opens 55 (.return_) 1 56 := by decide +kernel
set_option maxHeartbeats 4000000 in
set_option maxRecDepth 20000 in
theorem c12_opens (l : Launch) (D : zDt) (Sh : zSh) (top : Nat) (hO : zOK Sh) (o_ : Nat) (v_p : Int32) (μ : zM) (μ_ : zM) (ho : (Sh o_).1 = 19) (h : f12_opens o_ v_p μ = some μ_) : zMet l D zK1 yX12_opens cX12_opens 2 none (zrm 3 69) [.ref o_, .int v_p] Sh top μ none Sh top μ_ 0 0 := by
  refine zMet_of (by decide) (Nat.le_of_ble_eq_true rfl) fun X hX1 hX2 fx fin => ?_
  subst hX1; subst hX2
  replace fx : zFix X cX12_opens RX12 (zrm 3 69) 2 := fx
  show zZ zK1 X (zT0 Sh top) μ 0 [(0, .ref o_), (1, .int v_p)] []
  unfold f12_opens at h
  refine z_aload_n fx (k := 0) (i := 0) rfl rfl d12_opens_0 ?_
  refine z_iload_n fx (k := 1) (i := 1) rfl rfl d12_opens_1 ?_
  refine z_iconst fx (v := 1) ic1 d12_opens_2 ?_
  obtain ⟨t1, e1, h⟩ := zinv h
  refine z_cVr fx (c12_portOf (zLo X) (zDo X) Sh top hO o_ v_p 1 μ _ ho e1) mv12_portOf ml12_334 ho rfl rfl rfl rfl d12_opens_3 ?_
  refine z_iconst fx (v := 2) ic2 d12_opens_6 ?_
  refine z_icmp_ne fx d12_opens_7 (fun c2 => ?_) (fun c2 => ?_)
  · replace h := zif_f c2 h
    refine z_aload_n fx (k := 0) (i := 0) rfl rfl d12_opens_11 ?_
    refine z_iload_n fx (k := 1) (i := 1) rfl rfl d12_opens_12 ?_
    refine z_iconst fx (v := 2) ic2 d12_opens_13 ?_
    obtain ⟨μ2, e3, h⟩ := zinv h
    refine z_cVv fx (c12_isState (zLo X) (zDo X) Sh top hO o_ v_p 2 μ _ ho e3) mv12_isState ml12_351 ho rfl rfl rfl rfl d12_opens_14 ?_
    refine z_aload_n fx (k := 0) (i := 0) rfl rfl d12_opens_17 ?_
    refine z_iload_n fx (k := 1) (i := 1) rfl rfl d12_opens_18 ?_
    refine z_iconst fx (v := 2) ic2 d12_opens_19 ?_
    refine z_iconst fx (v := 0) ic0 d12_opens_20 ?_
    obtain ⟨μ3, e4, h⟩ := zinv h
    refine z_cVv fx (c12_sets (zLo X) (zDo X) Sh top hO o_ v_p 2 0 μ2 _ ho e4) mv12_sets ml12_344 ho rfl rfl rfl rfl d12_opens_21 ?_
    refine z_aload_n fx (k := 0) (i := 0) rfl rfl d12_opens_24 ?_
    refine z_iload_n fx (k := 1) (i := 1) rfl rfl d12_opens_25 ?_
    refine z_iconst fx (v := 5) ic5 d12_opens_26 ?_
    obtain ⟨t4, e5, h⟩ := zinv h
    refine z_cVr fx (c12_portOf (zLo X) (zDo X) Sh top hO o_ v_p 5 μ3 _ ho e5) mv12_portOf ml12_334 ho rfl rfl rfl rfl d12_opens_27 ?_
    refine z_iconst fx (v := 1) ic1 d12_opens_30 ?_
    refine z_icmp_ne fx d12_opens_31 (fun c6 => ?_) (fun c6 => ?_)
    · replace h := zif_f c6 h
      refine z_aload_n fx (k := 0) (i := 0) rfl rfl d12_opens_35 ?_
      refine z_iload_n fx (k := 1) (i := 1) rfl rfl d12_opens_36 ?_
      refine z_iconst fx (v := 3) ic3 d12_opens_37 ?_
      refine z_iconst fx (v := 2) ic2 d12_opens_38 ?_
      obtain ⟨μ5, e7, h⟩ := zinv h
      refine z_cVv fx (c12_sets (zLo X) (zDo X) Sh top hO o_ v_p 3 2 μ3 _ ho e7) mv12_sets ml12_344 ho rfl rfl rfl rfl d12_opens_39 ?_
      refine z_aload_n fx (k := 0) (i := 0) rfl rfl d12_opens_42 ?_
      refine z_iload_n fx (k := 1) (i := 1) rfl rfl d12_opens_43 ?_
      refine z_bipush fx (v := 9) bp9 d12_opens_44 ?_
      refine z_iconst fx (v := 1) ic1 d12_opens_46 ?_
      obtain ⟨μ6, e8, h⟩ := zinv h
      refine z_cVv fx (c12_sets (zLo X) (zDo X) Sh top hO o_ v_p 9 1 μ5 _ ho e8) mv12_sets ml12_344 ho rfl rfl rfl rfl d12_opens_47 ?_
      refine z_aload_n fx (k := 0) (i := 0) rfl rfl d12_opens_50 ?_
      refine z_iload_n fx (k := 1) (i := 1) rfl rfl d12_opens_51 ?_
      obtain ⟨μ7, e9, h⟩ := zinv h
      refine z_cVv fx (c12_spreads (zLo X) (zDo X) Sh top hO o_ v_p μ6 _ ho e9) mv12_spreads ml12_357 ho rfl rfl rfl rfl d12_opens_52 ?_
      cases h
      exact z_return fx fin d12_opens_55
    · replace h := zif_t c6 h
      cases h
      exact z_return fx fin d12_opens_34
  · replace h := zif_t c2 h
    cases h
    exact z_return fx fin d12_opens_10
