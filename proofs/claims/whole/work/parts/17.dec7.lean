theorem d_X_init_178 : decode zy_X_init.2.1 178 = .ok (.aload_n 0, 1) := by decide +kernel
theorem d_X_init_179 : decode zy_X_init.2.1 179 = .ok (.getfield 65, 3) := by decide +kernel
theorem d_X_init_182 : decode zy_X_init.2.1 182 = .ok (.iload_n 1, 1) := by decide +kernel
theorem d_X_init_183 : decode zy_X_init.2.1 183 = .ok (.new 63, 3) := by decide +kernel
theorem d_X_init_186 : decode zy_X_init.2.1 186 = .ok (.dup, 1) := by decide +kernel
theorem d_X_init_187 : decode zy_X_init.2.1 187 = .ok (.invokespecial 84, 3) := by decide +kernel
theorem d_X_init_190 : decode zy_X_init.2.1 190 = .ok (.aastore, 1) := by decide +kernel
theorem d_X_init_191 : decode zy_X_init.2.1 191 = .ok (.iinc 1 1, 3) := by decide +kernel
theorem d_X_init_194 : decode zy_X_init.2.1 194 = .ok (.goto (-21), 3) := by decide +kernel
theorem d_X_init_197 : decode zy_X_init.2.1 197 = .ok (.aload_n 0, 1) := by decide +kernel
theorem d_X_init_198 : decode zy_X_init.2.1 198 = .ok (.new 85, 3) := by decide +kernel
theorem d_X_init_201 : decode zy_X_init.2.1 201 = .ok (.dup, 1) := by decide +kernel
theorem d_X_init_202 : decode zy_X_init.2.1 202 = .ok (.aload_n 0, 1) := by decide +kernel
theorem d_X_init_203 : decode zy_X_init.2.1 203 = .ok (.getfield 28, 3) := by decide +kernel
theorem d_X_init_206 : decode zy_X_init.2.1 206 = .ok (.iconst 0, 1) := by decide +kernel
theorem d_X_init_207 : decode zy_X_init.2.1 207 = .ok (.aaload, 1) := by decide +kernel
theorem d_X_init_208 : decode zy_X_init.2.1 208 = .ok (.invokespecial 87, 3) := by decide +kernel
theorem d_X_init_211 : decode zy_X_init.2.1 211 = .ok (.putfield 90, 3) := by decide +kernel
theorem d_X_init_214 : decode zy_X_init.2.1 214 = .ok (.iconst 0, 1) := by decide +kernel
theorem d_X_init_215 : decode zy_X_init.2.1 215 = .ok (.istore_n 1, 1) := by decide +kernel
theorem d_X_init_216 : decode zy_X_init.2.1 216 = .ok (.iload_n 1, 1) := by decide +kernel
theorem d_X_init_217 : decode zy_X_init.2.1 217 = .ok (.ldc 94, 2) := by decide +kernel
theorem d_X_init_219 : decode zy_X_init.2.1 219 = .ok (.invokevirtual 96, 3) := by decide +kernel
theorem d_X_init_222 : decode zy_X_init.2.1 222 = .ok (.if_icmp .ge (22), 3) := by decide +kernel
theorem d_X_init_225 : decode zy_X_init.2.1 225 = .ok (.aload_n 0, 1) := by decide +kernel
theorem d_X_init_226 : decode zy_X_init.2.1 226 = .ok (.getfield 90, 3) := by decide +kernel
theorem d_X_init_229 : decode zy_X_init.2.1 229 = .ok (.ldc 94, 2) := by decide +kernel
theorem d_X_init_231 : decode zy_X_init.2.1 231 = .ok (.iload_n 1, 1) := by decide +kernel
theorem d_X_init_232 : decode zy_X_init.2.1 232 = .ok (.invokevirtual 102, 3) := by decide +kernel
theorem d_X_init_235 : decode zy_X_init.2.1 235 = .ok (.invokevirtual 106, 3) := by decide +kernel
theorem d_X_init_238 : decode zy_X_init.2.1 238 = .ok (.iinc 1 1, 3) := by decide +kernel
theorem d_X_init_241 : decode zy_X_init.2.1 241 = .ok (.goto (-25), 3) := by decide +kernel
theorem d_X_init_244 : decode zy_X_init.2.1 244 = .ok (.aload_n 0, 1) := by decide +kernel
theorem d_X_init_245 : decode zy_X_init.2.1 245 = .ok (.getfield 90, 3) := by decide +kernel
theorem d_X_init_248 : decode zy_X_init.2.1 248 = .ok (.aload_n 0, 1) := by decide +kernel
theorem d_X_init_249 : decode zy_X_init.2.1 249 = .ok (.getfield 28, 3) := by decide +kernel
theorem d_X_init_252 : decode zy_X_init.2.1 252 = .ok (.iconst 0, 1) := by decide +kernel
theorem d_X_init_253 : decode zy_X_init.2.1 253 = .ok (.aaload, 1) := by decide +kernel
theorem d_X_init_254 : decode zy_X_init.2.1 254 = .ok (.invokevirtual 110, 3) := by decide +kernel
theorem d_X_init_257 : decode zy_X_init.2.1 257 = .ok (.pop, 1) := by decide +kernel
theorem d_X_init_258 : decode zy_X_init.2.1 258 = .ok (.aload_n 0, 1) := by decide +kernel
theorem d_X_init_259 : decode zy_X_init.2.1 259 = .ok (.iconst 1, 1) := by decide +kernel
theorem d_X_init_260 : decode zy_X_init.2.1 260 = .ok (.putfield 32, 3) := by decide +kernel
theorem d_X_init_263 : decode zy_X_init.2.1 263 = .ok (.return_, 1) := by decide +kernel
theorem d_X_text_0 : decode zy_X_text.2.1 0 = .ok (.aload_n 0, 1) := by decide +kernel
theorem d_X_text_1 : decode zy_X_text.2.1 1 = .ok (.getfield 32, 3) := by decide +kernel
theorem d_X_text_4 : decode zy_X_text.2.1 4 = .ok (.bipush 6, 2) := by decide +kernel
theorem d_X_text_6 : decode zy_X_text.2.1 6 = .ok (.if_icmp .lt (6), 3) := by decide +kernel
theorem d_X_text_9 : decode zy_X_text.2.1 9 = .ok (.bipush (-4), 2) := by decide +kernel
theorem d_X_text_11 : decode zy_X_text.2.1 11 = .ok (.ireturn, 1) := by decide +kernel
theorem d_X_text_12 : decode zy_X_text.2.1 12 = .ok (.aload_n 0, 1) := by decide +kernel
theorem d_X_text_13 : decode zy_X_text.2.1 13 = .ok (.getfield 90, 3) := by decide +kernel
theorem d_X_text_16 : decode zy_X_text.2.1 16 = .ok (.aload_n 0, 1) := by decide +kernel
theorem d_X_text_17 : decode zy_X_text.2.1 17 = .ok (.getfield 28, 3) := by decide +kernel
theorem d_X_text_20 : decode zy_X_text.2.1 20 = .ok (.aload_n 0, 1) := by decide +kernel
theorem d_X_text_21 : decode zy_X_text.2.1 21 = .ok (.getfield 32, 3) := by decide +kernel
theorem d_X_text_24 : decode zy_X_text.2.1 24 = .ok (.aaload, 1) := by decide +kernel
theorem d_X_text_25 : decode zy_X_text.2.1 25 = .ok (.invokevirtual 110, 3) := by decide +kernel
theorem d_X_text_28 : decode zy_X_text.2.1 28 = .ok (.istore_n 1, 1) := by decide +kernel
theorem d_X_text_29 : decode zy_X_text.2.1 29 = .ok (.iload_n 1, 1) := by decide +kernel
theorem d_X_text_30 : decode zy_X_text.2.1 30 = .ok (.iconst (-1), 1) := by decide +kernel
theorem d_X_text_31 : decode zy_X_text.2.1 31 = .ok (.if_icmp .eq (8), 3) := by decide +kernel
theorem d_X_text_34 : decode zy_X_text.2.1 34 = .ok (.bipush (-100), 2) := by decide +kernel
theorem d_X_text_36 : decode zy_X_text.2.1 36 = .ok (.iload_n 1, 1) := by decide +kernel
theorem d_X_text_37 : decode zy_X_text.2.1 37 = .ok (.isub, 1) := by decide +kernel
theorem d_X_text_38 : decode zy_X_text.2.1 38 = .ok (.ireturn, 1) := by decide +kernel
theorem d_X_text_39 : decode zy_X_text.2.1 39 = .ok (.aload_n 0, 1) := by decide +kernel
theorem d_X_text_40 : decode zy_X_text.2.1 40 = .ok (.dup, 1) := by decide +kernel
theorem d_X_text_41 : decode zy_X_text.2.1 41 = .ok (.getfield 32, 3) := by decide +kernel
theorem d_X_text_44 : decode zy_X_text.2.1 44 = .ok (.iconst 1, 1) := by decide +kernel
theorem d_X_text_45 : decode zy_X_text.2.1 45 = .ok (.iadd, 1) := by decide +kernel
theorem d_X_text_46 : decode zy_X_text.2.1 46 = .ok (.putfield 32, 3) := by decide +kernel
theorem d_X_text_49 : decode zy_X_text.2.1 49 = .ok (.aload_n 0, 1) := by decide +kernel
theorem d_X_text_50 : decode zy_X_text.2.1 50 = .ok (.getfield 32, 3) := by decide +kernel
theorem d_X_text_53 : decode zy_X_text.2.1 53 = .ok (.iconst 1, 1) := by decide +kernel
theorem d_X_text_54 : decode zy_X_text.2.1 54 = .ok (.isub, 1) := by decide +kernel
theorem d_X_text_55 : decode zy_X_text.2.1 55 = .ok (.ireturn, 1) := by decide +kernel
