theorem dL_same_145 : decode cL_same 145 = .ok (.iconst 4, 1) := by decide +kernel
theorem dL_same_146 : decode cL_same 146 = .ok (.iload 11, 2) := by decide +kernel
theorem dL_same_148 : decode cL_same 148 = .ok (.imul, 1) := by decide +kernel
theorem dL_same_149 : decode cL_same 149 = .ok (.iaload, 1) := by decide +kernel
theorem dL_same_150 : decode cL_same 150 = .ok (.ifCond .ge 8, 3) := by decide +kernel
theorem dL_same_153 : decode cL_same 153 = .ok (.bipush (-6), 2) := by decide +kernel
theorem dL_same_155 : decode cL_same 155 = .ok (.goto 9, 3) := by decide +kernel
theorem dL_same_158 : decode cL_same 158 = .ok (.aload_n 3, 1) := by decide +kernel
theorem dL_same_159 : decode cL_same 159 = .ok (.iconst 4, 1) := by decide +kernel
theorem dL_same_160 : decode cL_same 160 = .ok (.iload 11, 2) := by decide +kernel
theorem dL_same_162 : decode cL_same 162 = .ok (.imul, 1) := by decide +kernel
theorem dL_same_163 : decode cL_same 163 = .ok (.iaload, 1) := by decide +kernel
theorem dL_same_164 : decode cL_same 164 = .ok (.if_icmp .ne 81, 3) := by decide +kernel
theorem dL_same_167 : decode cL_same 167 = .ok (.aload_n 0, 1) := by decide +kernel
theorem dL_same_168 : decode cL_same 168 = .ok (.iload 11, 2) := by decide +kernel
theorem dL_same_170 : decode cL_same 170 = .ok (.iconst 1, 1) := by decide +kernel
theorem dL_same_171 : decode cL_same 171 = .ok (.invokevirtual 47, 3) := by decide +kernel
theorem dL_same_174 : decode cL_same 174 = .ok (.aload_n 3, 1) := by decide +kernel
theorem dL_same_175 : decode cL_same 175 = .ok (.iconst 4, 1) := by decide +kernel
theorem dL_same_176 : decode cL_same 176 = .ok (.iload 11, 2) := by decide +kernel
theorem dL_same_178 : decode cL_same 178 = .ok (.imul, 1) := by decide +kernel
theorem dL_same_179 : decode cL_same 179 = .ok (.iconst 1, 1) := by decide +kernel
theorem dL_same_180 : decode cL_same 180 = .ok (.iadd, 1) := by decide +kernel
theorem dL_same_181 : decode cL_same 181 = .ok (.iaload, 1) := by decide +kernel
theorem dL_same_182 : decode cL_same 182 = .ok (.if_icmp .ne 63, 3) := by decide +kernel
theorem dL_same_185 : decode cL_same 185 = .ok (.aload_n 0, 1) := by decide +kernel
theorem dL_same_186 : decode cL_same 186 = .ok (.iload 11, 2) := by decide +kernel
theorem dL_same_188 : decode cL_same 188 = .ok (.iconst 2, 1) := by decide +kernel
theorem dL_same_189 : decode cL_same 189 = .ok (.invokevirtual 47, 3) := by decide +kernel
theorem dL_same_192 : decode cL_same 192 = .ok (.aload_n 3, 1) := by decide +kernel
theorem dL_same_193 : decode cL_same 193 = .ok (.iconst 4, 1) := by decide +kernel
theorem dL_same_194 : decode cL_same 194 = .ok (.iload 11, 2) := by decide +kernel
theorem dL_same_196 : decode cL_same 196 = .ok (.imul, 1) := by decide +kernel
theorem dL_same_197 : decode cL_same 197 = .ok (.iconst 2, 1) := by decide +kernel
theorem dL_same_198 : decode cL_same 198 = .ok (.iadd, 1) := by decide +kernel
theorem dL_same_199 : decode cL_same 199 = .ok (.iaload, 1) := by decide +kernel
theorem dL_same_200 : decode cL_same 200 = .ok (.if_icmp .ne 45, 3) := by decide +kernel
theorem dL_same_203 : decode cL_same 203 = .ok (.aload_n 0, 1) := by decide +kernel
theorem dL_same_204 : decode cL_same 204 = .ok (.iload 11, 2) := by decide +kernel
theorem dL_same_206 : decode cL_same 206 = .ok (.iconst 3, 1) := by decide +kernel
theorem dL_same_207 : decode cL_same 207 = .ok (.invokevirtual 47, 3) := by decide +kernel
theorem dL_same_210 : decode cL_same 210 = .ok (.aload_n 3, 1) := by decide +kernel
theorem dL_same_211 : decode cL_same 211 = .ok (.iconst 4, 1) := by decide +kernel
theorem dL_same_212 : decode cL_same 212 = .ok (.iload 11, 2) := by decide +kernel
theorem dL_same_214 : decode cL_same 214 = .ok (.imul, 1) := by decide +kernel
theorem dL_same_215 : decode cL_same 215 = .ok (.iconst 3, 1) := by decide +kernel
theorem dL_same_216 : decode cL_same 216 = .ok (.iadd, 1) := by decide +kernel
theorem dL_same_217 : decode cL_same 217 = .ok (.iaload, 1) := by decide +kernel
theorem dL_same_218 : decode cL_same 218 = .ok (.if_icmp .ne 27, 3) := by decide +kernel
theorem dL_same_221 : decode cL_same 221 = .ok (.aload_n 0, 1) := by decide +kernel
theorem dL_same_222 : decode cL_same 222 = .ok (.iload 11, 2) := by decide +kernel
theorem dL_same_224 : decode cL_same 224 = .ok (.iconst 4, 1) := by decide +kernel
theorem dL_same_225 : decode cL_same 225 = .ok (.invokevirtual 47, 3) := by decide +kernel
theorem dL_same_228 : decode cL_same 228 = .ok (.iload 12, 2) := by decide +kernel
theorem dL_same_230 : decode cL_same 230 = .ok (.if_icmp .ne 15, 3) := by decide +kernel
theorem dL_same_233 : decode cL_same 233 = .ok (.aload_n 0, 1) := by decide +kernel
theorem dL_same_234 : decode cL_same 234 = .ok (.iload 11, 2) := by decide +kernel
theorem dL_same_236 : decode cL_same 236 = .ok (.iconst 5, 1) := by decide +kernel
theorem dL_same_237 : decode cL_same 237 = .ok (.invokevirtual 47, 3) := by decide +kernel
theorem dL_same_240 : decode cL_same 240 = .ok (.iload 13, 2) := by decide +kernel
theorem dL_same_242 : decode cL_same 242 = .ok (.if_icmp .eq 5, 3) := by decide +kernel
theorem dL_same_245 : decode cL_same 245 = .ok (.iconst 0, 1) := by decide +kernel
theorem dL_same_246 : decode cL_same 246 = .ok (.ireturn, 1) := by decide +kernel
theorem dL_same_247 : decode cL_same 247 = .ok (.iload 7, 2) := by decide +kernel
theorem dL_same_249 : decode cL_same 249 = .ok (.aload_n 3, 1) := by decide +kernel
theorem dL_same_250 : decode cL_same 250 = .ok (.iconst 4, 1) := by decide +kernel
theorem dL_same_251 : decode cL_same 251 = .ok (.iload 11, 2) := by decide +kernel
theorem dL_same_253 : decode cL_same 253 = .ok (.imul, 1) := by decide +kernel
theorem dL_same_254 : decode cL_same 254 = .ok (.iconst 1, 1) := by decide +kernel
theorem dL_same_255 : decode cL_same 255 = .ok (.iadd, 1) := by decide +kernel
theorem dL_same_256 : decode cL_same 256 = .ok (.iaload, 1) := by decide +kernel
theorem dL_same_257 : decode cL_same 257 = .ok (.iadd, 1) := by decide +kernel
theorem dL_same_258 : decode cL_same 258 = .ok (.istore 7, 2) := by decide +kernel
theorem dL_same_260 : decode cL_same 260 = .ok (.iload 8, 2) := by decide +kernel
theorem dL_same_262 : decode cL_same 262 = .ok (.aload_n 3, 1) := by decide +kernel
theorem dL_same_263 : decode cL_same 263 = .ok (.iconst 4, 1) := by decide +kernel
theorem dL_same_264 : decode cL_same 264 = .ok (.iload 11, 2) := by decide +kernel
theorem dL_same_266 : decode cL_same 266 = .ok (.imul, 1) := by decide +kernel
theorem dL_same_267 : decode cL_same 267 = .ok (.iconst 1, 1) := by decide +kernel
theorem dL_same_268 : decode cL_same 268 = .ok (.iadd, 1) := by decide +kernel
theorem dL_same_269 : decode cL_same 269 = .ok (.iaload, 1) := by decide +kernel
theorem dL_same_270 : decode cL_same 270 = .ok (.iconst 1, 1) := by decide +kernel
theorem dL_same_271 : decode cL_same 271 = .ok (.if_icmp .ne 24, 3) := by decide +kernel
theorem dL_same_274 : decode cL_same 274 = .ok (.aload_n 3, 1) := by decide +kernel
theorem dL_same_275 : decode cL_same 275 = .ok (.iconst 4, 1) := by decide +kernel
theorem dL_same_276 : decode cL_same 276 = .ok (.iload 11, 2) := by decide +kernel
theorem dL_same_278 : decode cL_same 278 = .ok (.imul, 1) := by decide +kernel
theorem dL_same_279 : decode cL_same 279 = .ok (.iconst 3, 1) := by decide +kernel
theorem dL_same_280 : decode cL_same 280 = .ok (.iadd, 1) := by decide +kernel
theorem dL_same_281 : decode cL_same 281 = .ok (.iaload, 1) := by decide +kernel
