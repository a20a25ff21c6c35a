theorem dL_counted_0 : decode cL_counted 0 = .ok (.bipush 6, 2) := by decide +kernel
theorem dL_counted_2 : decode cL_counted 2 = .ok (.newarray .int, 2) := by decide +kernel
theorem dL_counted_4 : decode cL_counted 4 = .ok (.astore 8, 2) := by decide +kernel
theorem dL_counted_6 : decode cL_counted 6 = .ok (.aload_n 1, 1) := by decide +kernel
theorem dL_counted_7 : decode cL_counted 7 = .ok (.aload 8, 2) := by decide +kernel
theorem dL_counted_9 : decode cL_counted 9 = .ok (.aload_n 2, 1) := by decide +kernel
theorem dL_counted_10 : decode cL_counted 10 = .ok (.aload_n 3, 1) := by decide +kernel
theorem dL_counted_11 : decode cL_counted 11 = .ok (.aload 4, 2) := by decide +kernel
theorem dL_counted_13 : decode cL_counted 13 = .ok (.aload 5, 2) := by decide +kernel
theorem dL_counted_15 : decode cL_counted 15 = .ok (.aload 6, 2) := by decide +kernel
theorem dL_counted_17 : decode cL_counted 17 = .ok (.aload 7, 2) := by decide +kernel
theorem dL_counted_19 : decode cL_counted 19 = .ok (.invokestatic 22, 3) := by decide +kernel
theorem dL_counted_22 : decode cL_counted 22 = .ok (.iload_n 0, 1) := by decide +kernel
theorem dL_counted_23 : decode cL_counted 23 = .ok (.bipush 9, 2) := by decide +kernel
theorem dL_counted_25 : decode cL_counted 25 = .ok (.if_icmp .ne 7, 3) := by decide +kernel
theorem dL_counted_28 : decode cL_counted 28 = .ok (.iconst (-1), 1) := by decide +kernel
theorem dL_counted_29 : decode cL_counted 29 = .ok (.goto 4, 3) := by decide +kernel
theorem dL_counted_32 : decode cL_counted 32 = .ok (.iconst 0, 1) := by decide +kernel
theorem dL_counted_33 : decode cL_counted 33 = .ok (.istore 9, 2) := by decide +kernel
theorem dL_counted_35 : decode cL_counted 35 = .ok (.iconst 0, 1) := by decide +kernel
theorem dL_counted_36 : decode cL_counted 36 = .ok (.istore 10, 2) := by decide +kernel
theorem dL_counted_38 : decode cL_counted 38 = .ok (.iconst 0, 1) := by decide +kernel
theorem dL_counted_39 : decode cL_counted 39 = .ok (.istore 11, 2) := by decide +kernel
theorem dL_counted_41 : decode cL_counted 41 = .ok (.iload 11, 2) := by decide +kernel
theorem dL_counted_43 : decode cL_counted 43 = .ok (.aload_n 2, 1) := by decide +kernel
theorem dL_counted_44 : decode cL_counted 44 = .ok (.iconst 0, 1) := by decide +kernel
theorem dL_counted_45 : decode cL_counted 45 = .ok (.iaload, 1) := by decide +kernel
theorem dL_counted_46 : decode cL_counted 46 = .ok (.if_icmp .ge 207, 3) := by decide +kernel
theorem dL_counted_49 : decode cL_counted 49 = .ok (.aload 7, 2) := by decide +kernel
theorem dL_counted_51 : decode cL_counted 51 = .ok (.iload 11, 2) := by decide +kernel
theorem dL_counted_53 : decode cL_counted 53 = .ok (.iaload, 1) := by decide +kernel
theorem dL_counted_54 : decode cL_counted 54 = .ok (.iload 11, 2) := by decide +kernel
theorem dL_counted_56 : decode cL_counted 56 = .ok (.if_icmp .ne 22, 3) := by decide +kernel
theorem dL_counted_59 : decode cL_counted 59 = .ok (.iload 11, 2) := by decide +kernel
theorem dL_counted_61 : decode cL_counted 61 = .ok (.iconst 3, 1) := by decide +kernel
theorem dL_counted_62 : decode cL_counted 62 = .ok (.aload_n 2, 1) := by decide +kernel
theorem dL_counted_63 : decode cL_counted 63 = .ok (.aload_n 3, 1) := by decide +kernel
theorem dL_counted_64 : decode cL_counted 64 = .ok (.aload 4, 2) := by decide +kernel
theorem dL_counted_66 : decode cL_counted 66 = .ok (.aload 5, 2) := by decide +kernel
theorem dL_counted_68 : decode cL_counted 68 = .ok (.aload 6, 2) := by decide +kernel
theorem dL_counted_70 : decode cL_counted 70 = .ok (.aload 7, 2) := by decide +kernel
theorem dL_counted_72 : decode cL_counted 72 = .ok (.invokestatic 18, 3) := by decide +kernel
theorem dL_counted_75 : decode cL_counted 75 = .ok (.goto 4, 3) := by decide +kernel
theorem dL_counted_78 : decode cL_counted 78 = .ok (.iconst 0, 1) := by decide +kernel
theorem dL_counted_79 : decode cL_counted 79 = .ok (.istore 12, 2) := by decide +kernel
theorem dL_counted_81 : decode cL_counted 81 = .ok (.iload_n 0, 1) := by decide +kernel
theorem dL_counted_82 : decode cL_counted 82 = .ok (.iconst 1, 1) := by decide +kernel
theorem dL_counted_83 : decode cL_counted 83 = .ok (.if_icmp .ne 30, 3) := by decide +kernel
theorem dL_counted_86 : decode cL_counted 86 = .ok (.iload 9, 2) := by decide +kernel
theorem dL_counted_88 : decode cL_counted 88 = .ok (.aload 6, 2) := by decide +kernel
theorem dL_counted_90 : decode cL_counted 90 = .ok (.iload 11, 2) := by decide +kernel
theorem dL_counted_92 : decode cL_counted 92 = .ok (.iaload, 1) := by decide +kernel
theorem dL_counted_93 : decode cL_counted 93 = .ok (.ifCond .eq 12, 3) := by decide +kernel
theorem dL_counted_96 : decode cL_counted 96 = .ok (.aload 6, 2) := by decide +kernel
theorem dL_counted_98 : decode cL_counted 98 = .ok (.iload 11, 2) := by decide +kernel
theorem dL_counted_100 : decode cL_counted 100 = .ok (.iaload, 1) := by decide +kernel
theorem dL_counted_101 : decode cL_counted 101 = .ok (.iconst 3, 1) := by decide +kernel
theorem dL_counted_102 : decode cL_counted 102 = .ok (.if_icmp .ne 7, 3) := by decide +kernel
theorem dL_counted_105 : decode cL_counted 105 = .ok (.iconst 1, 1) := by decide +kernel
theorem dL_counted_106 : decode cL_counted 106 = .ok (.goto 4, 3) := by decide +kernel
theorem dL_counted_109 : decode cL_counted 109 = .ok (.iconst 0, 1) := by decide +kernel
theorem dL_counted_110 : decode cL_counted 110 = .ok (.iadd, 1) := by decide +kernel
theorem dL_counted_111 : decode cL_counted 111 = .ok (.istore 9, 2) := by decide +kernel
theorem dL_counted_113 : decode cL_counted 113 = .ok (.iload_n 0, 1) := by decide +kernel
theorem dL_counted_114 : decode cL_counted 114 = .ok (.iconst 2, 1) := by decide +kernel
theorem dL_counted_115 : decode cL_counted 115 = .ok (.if_icmp .ne 31, 3) := by decide +kernel
theorem dL_counted_118 : decode cL_counted 118 = .ok (.iload 9, 2) := by decide +kernel
theorem dL_counted_120 : decode cL_counted 120 = .ok (.aload 6, 2) := by decide +kernel
theorem dL_counted_122 : decode cL_counted 122 = .ok (.iload 11, 2) := by decide +kernel
theorem dL_counted_124 : decode cL_counted 124 = .ok (.iaload, 1) := by decide +kernel
theorem dL_counted_125 : decode cL_counted 125 = .ok (.iconst 1, 1) := by decide +kernel
theorem dL_counted_126 : decode cL_counted 126 = .ok (.if_icmp .eq 12, 3) := by decide +kernel
theorem dL_counted_129 : decode cL_counted 129 = .ok (.aload 6, 2) := by decide +kernel
theorem dL_counted_131 : decode cL_counted 131 = .ok (.iload 11, 2) := by decide +kernel
theorem dL_counted_133 : decode cL_counted 133 = .ok (.iaload, 1) := by decide +kernel
theorem dL_counted_134 : decode cL_counted 134 = .ok (.iconst 2, 1) := by decide +kernel
theorem dL_counted_135 : decode cL_counted 135 = .ok (.if_icmp .ne 7, 3) := by decide +kernel
theorem dL_counted_138 : decode cL_counted 138 = .ok (.iconst 1, 1) := by decide +kernel
theorem dL_counted_139 : decode cL_counted 139 = .ok (.goto 4, 3) := by decide +kernel
theorem dL_counted_142 : decode cL_counted 142 = .ok (.iconst 0, 1) := by decide +kernel
theorem dL_counted_143 : decode cL_counted 143 = .ok (.iadd, 1) := by decide +kernel
theorem dL_counted_144 : decode cL_counted 144 = .ok (.istore 9, 2) := by decide +kernel
theorem dL_counted_146 : decode cL_counted 146 = .ok (.iload_n 0, 1) := by decide +kernel
theorem dL_counted_147 : decode cL_counted 147 = .ok (.iconst 3, 1) := by decide +kernel
theorem dL_counted_148 : decode cL_counted 148 = .ok (.if_icmp .ne 22, 3) := by decide +kernel
theorem dL_counted_151 : decode cL_counted 151 = .ok (.iload 9, 2) := by decide +kernel
theorem dL_counted_153 : decode cL_counted 153 = .ok (.iload 11, 2) := by decide +kernel
theorem dL_counted_155 : decode cL_counted 155 = .ok (.aload_n 3, 1) := by decide +kernel
theorem dL_counted_156 : decode cL_counted 156 = .ok (.invokestatic 14, 3) := by decide +kernel
theorem dL_counted_159 : decode cL_counted 159 = .ok (.ifCond .eq 7, 3) := by decide +kernel
theorem dL_counted_162 : decode cL_counted 162 = .ok (.iconst 1, 1) := by decide +kernel
theorem dL_counted_163 : decode cL_counted 163 = .ok (.goto 4, 3) := by decide +kernel
theorem dL_counted_166 : decode cL_counted 166 = .ok (.iconst 0, 1) := by decide +kernel
theorem dL_counted_167 : decode cL_counted 167 = .ok (.iadd, 1) := by decide +kernel
theorem dL_counted_168 : decode cL_counted 168 = .ok (.istore 9, 2) := by decide +kernel
theorem dL_counted_170 : decode cL_counted 170 = .ok (.iload_n 0, 1) := by decide +kernel
theorem dL_counted_171 : decode cL_counted 171 = .ok (.iconst 4, 1) := by decide +kernel
theorem dL_counted_172 : decode cL_counted 172 = .ok (.if_icmp .ne 21, 3) := by decide +kernel
theorem dL_counted_175 : decode cL_counted 175 = .ok (.iload 9, 2) := by decide +kernel
theorem dL_counted_177 : decode cL_counted 177 = .ok (.aload 6, 2) := by decide +kernel
theorem dL_counted_179 : decode cL_counted 179 = .ok (.iload 11, 2) := by decide +kernel
theorem dL_counted_181 : decode cL_counted 181 = .ok (.iaload, 1) := by decide +kernel
theorem dL_counted_182 : decode cL_counted 182 = .ok (.ifCond .ne 7, 3) := by decide +kernel
theorem dL_counted_185 : decode cL_counted 185 = .ok (.iconst 1, 1) := by decide +kernel
theorem dL_counted_186 : decode cL_counted 186 = .ok (.goto 4, 3) := by decide +kernel
theorem dL_counted_189 : decode cL_counted 189 = .ok (.iconst 0, 1) := by decide +kernel
theorem dL_counted_190 : decode cL_counted 190 = .ok (.iadd, 1) := by decide +kernel
theorem dL_counted_191 : decode cL_counted 191 = .ok (.istore 9, 2) := by decide +kernel
theorem dL_counted_193 : decode cL_counted 193 = .ok (.iload_n 0, 1) := by decide +kernel
theorem dL_counted_194 : decode cL_counted 194 = .ok (.bipush 8, 2) := by decide +kernel
theorem dL_counted_196 : decode cL_counted 196 = .ok (.if_icmp .ne 10, 3) := by decide +kernel
theorem dL_counted_199 : decode cL_counted 199 = .ok (.iload 9, 2) := by decide +kernel
theorem dL_counted_201 : decode cL_counted 201 = .ok (.iload 12, 2) := by decide +kernel
theorem dL_counted_203 : decode cL_counted 203 = .ok (.iadd, 1) := by decide +kernel
theorem dL_counted_204 : decode cL_counted 204 = .ok (.istore 9, 2) := by decide +kernel
theorem dL_counted_206 : decode cL_counted 206 = .ok (.iload_n 0, 1) := by decide +kernel
theorem dL_counted_207 : decode cL_counted 207 = .ok (.bipush 9, 2) := by decide +kernel
theorem dL_counted_209 : decode cL_counted 209 = .ok (.if_icmp .ne 38, 3) := by decide +kernel
theorem dL_counted_212 : decode cL_counted 212 = .ok (.aload 7, 2) := by decide +kernel
theorem dL_counted_214 : decode cL_counted 214 = .ok (.iload 11, 2) := by decide +kernel
theorem dL_counted_216 : decode cL_counted 216 = .ok (.iaload, 1) := by decide +kernel
theorem dL_counted_217 : decode cL_counted 217 = .ok (.iload 11, 2) := by decide +kernel
theorem dL_counted_219 : decode cL_counted 219 = .ok (.if_icmp .ne 28, 3) := by decide +kernel
theorem dL_counted_222 : decode cL_counted 222 = .ok (.iload 9, 2) := by decide +kernel
theorem dL_counted_224 : decode cL_counted 224 = .ok (.ifCond .lt 10, 3) := by decide +kernel
theorem dL_counted_227 : decode cL_counted 227 = .ok (.iload 12, 2) := by decide +kernel
theorem dL_counted_229 : decode cL_counted 229 = .ok (.iload 10, 2) := by decide +kernel
theorem dL_counted_231 : decode cL_counted 231 = .ok (.if_icmp .le 16, 3) := by decide +kernel
theorem dL_counted_234 : decode cL_counted 234 = .ok (.iload 11, 2) := by decide +kernel
theorem dL_counted_236 : decode cL_counted 236 = .ok (.aload 7, 2) := by decide +kernel
theorem dL_counted_238 : decode cL_counted 238 = .ok (.invokestatic 26, 3) := by decide +kernel
theorem dL_counted_241 : decode cL_counted 241 = .ok (.istore 9, 2) := by decide +kernel
theorem dL_counted_243 : decode cL_counted 243 = .ok (.iload 12, 2) := by decide +kernel
theorem dL_counted_245 : decode cL_counted 245 = .ok (.istore 10, 2) := by decide +kernel
theorem dL_counted_247 : decode cL_counted 247 = .ok (.iinc 11 1, 3) := by decide +kernel
theorem dL_counted_250 : decode cL_counted 250 = .ok (.goto (-209), 3) := by decide +kernel
theorem dL_counted_253 : decode cL_counted 253 = .ok (.iconst 0, 1) := by decide +kernel
theorem dL_counted_254 : decode cL_counted 254 = .ok (.istore 11, 2) := by decide +kernel
theorem dL_counted_256 : decode cL_counted 256 = .ok (.iload 11, 2) := by decide +kernel
theorem dL_counted_258 : decode cL_counted 258 = .ok (.aload_n 2, 1) := by decide +kernel
theorem dL_counted_259 : decode cL_counted 259 = .ok (.iconst 1, 1) := by decide +kernel
theorem dL_counted_260 : decode cL_counted 260 = .ok (.iaload, 1) := by decide +kernel
theorem dL_counted_261 : decode cL_counted 261 = .ok (.if_icmp .ge 33, 3) := by decide +kernel
theorem dL_counted_264 : decode cL_counted 264 = .ok (.iload_n 0, 1) := by decide +kernel
theorem dL_counted_265 : decode cL_counted 265 = .ok (.bipush 7, 2) := by decide +kernel
theorem dL_counted_267 : decode cL_counted 267 = .ok (.if_icmp .ne 27, 3) := by decide +kernel
theorem dL_counted_270 : decode cL_counted 270 = .ok (.iload 9, 2) := by decide +kernel
theorem dL_counted_272 : decode cL_counted 272 = .ok (.aload 8, 2) := by decide +kernel
theorem dL_counted_274 : decode cL_counted 274 = .ok (.iload 11, 2) := by decide +kernel
theorem dL_counted_276 : decode cL_counted 276 = .ok (.iaload, 1) := by decide +kernel
theorem dL_counted_277 : decode cL_counted 277 = .ok (.ifCond .lt 7, 3) := by decide +kernel
theorem dL_counted_280 : decode cL_counted 280 = .ok (.iconst 1, 1) := by decide +kernel
theorem dL_counted_281 : decode cL_counted 281 = .ok (.goto 4, 3) := by decide +kernel
theorem dL_counted_284 : decode cL_counted 284 = .ok (.iconst 0, 1) := by decide +kernel
theorem dL_counted_285 : decode cL_counted 285 = .ok (.iadd, 1) := by decide +kernel
theorem dL_counted_286 : decode cL_counted 286 = .ok (.istore 9, 2) := by decide +kernel
theorem dL_counted_288 : decode cL_counted 288 = .ok (.iinc 11 1, 3) := by decide +kernel
theorem dL_counted_291 : decode cL_counted 291 = .ok (.goto (-35), 3) := by decide +kernel
theorem dL_counted_294 : decode cL_counted 294 = .ok (.iload_n 0, 1) := by decide +kernel
theorem dL_counted_295 : decode cL_counted 295 = .ok (.ifCond .ne 9, 3) := by decide +kernel
theorem dL_counted_298 : decode cL_counted 298 = .ok (.aload_n 2, 1) := by decide +kernel
theorem dL_counted_299 : decode cL_counted 299 = .ok (.iconst 0, 1) := by decide +kernel
theorem dL_counted_300 : decode cL_counted 300 = .ok (.iaload, 1) := by decide +kernel
theorem dL_counted_301 : decode cL_counted 301 = .ok (.goto 31, 3) := by decide +kernel
theorem dL_counted_304 : decode cL_counted 304 = .ok (.iload_n 0, 1) := by decide +kernel
theorem dL_counted_305 : decode cL_counted 305 = .ok (.iconst 5, 1) := by decide +kernel
theorem dL_counted_306 : decode cL_counted 306 = .ok (.if_icmp .ne 12, 3) := by decide +kernel
theorem dL_counted_309 : decode cL_counted 309 = .ok (.aload_n 2, 1) := by decide +kernel
theorem dL_counted_310 : decode cL_counted 310 = .ok (.aload 7, 2) := by decide +kernel
theorem dL_counted_312 : decode cL_counted 312 = .ok (.invokestatic 29, 3) := by decide +kernel
theorem dL_counted_315 : decode cL_counted 315 = .ok (.goto 17, 3) := by decide +kernel
theorem dL_counted_318 : decode cL_counted 318 = .ok (.iload_n 0, 1) := by decide +kernel
theorem dL_counted_319 : decode cL_counted 319 = .ok (.bipush 6, 2) := by decide +kernel
theorem dL_counted_321 : decode cL_counted 321 = .ok (.if_icmp .ne 9, 3) := by decide +kernel
theorem dL_counted_324 : decode cL_counted 324 = .ok (.aload_n 2, 1) := by decide +kernel
theorem dL_counted_325 : decode cL_counted 325 = .ok (.iconst 1, 1) := by decide +kernel
theorem dL_counted_326 : decode cL_counted 326 = .ok (.iaload, 1) := by decide +kernel
theorem dL_counted_327 : decode cL_counted 327 = .ok (.goto 5, 3) := by decide +kernel
theorem dL_counted_330 : decode cL_counted 330 = .ok (.iload 9, 2) := by decide +kernel
theorem dL_counted_332 : decode cL_counted 332 = .ok (.ireturn, 1) := by decide +kernel
set_option maxHeartbeats 4000000 in
set_option maxRecDepth 100000 in
theorem w_L_counted_j247 {g0 : Nat} {w : WT} {l : Launch} {p : Program} {e : Env} {s : State} {m : MethodId} {args : Array Value} {below : List Frame} {meth : Method} {c : Code} (C : KC w p s m args meth c cL_counted 13 RL (some .int)) (hN : 99 ≤ wN w) (hg0 : isMa g0) (hgN : wN w = g0 + 1) {v0 : Int32} {v9 : Int32} {v10 : Int32} {v11 : Int32} {M : Mem} {L : Lng} {Q : State → Prop} {o : (Int32 × Int32 × Int32) ⊕ (Int32)} (hf : f_L_counted_j247 g0 v0 v9 v10 v11 M = some o) (hA : ∀ z, o = .inl z → AtC w p l e ({ frames := 4, cells := 1, slots := 6, locals := 107 } : Room) s m args below meth c Q 13 41 M L [(0, .int v0), (2, .ref (wAd w 93)), (3, .ref (wAd w 94)), (4, .ref (wAd w 95)), (5, .ref (wAd w 96)), (6, .ref (wAd w 97)), (7, .ref (wAd w 98)), (8, .ref (wAd w g0)), (9, .int z.1), (10, .int z.2.1), (11, .int z.2.2)] [] 1 6) (hE : ∀ y, o = .inr y → AtC w p l e ({ frames := 4, cells := 1, slots := 6, locals := 107 } : Room) s m args below meth c Q 13 253 M L [(0, .int v0), (2, .ref (wAd w 93)), (7, .ref (wAd w 98)), (8, .ref (wAd w g0)), (9, .int y)] [] 1 6) : AtC w p l e ({ frames := 4, cells := 1, slots := 6, locals := 107 } : Room) s m args below meth c Q 13 247 M L [(0, .int v0), (2, .ref (wAd w 93)), (3, .ref (wAd w 94)), (4, .ref (wAd w 95)), (5, .ref (wAd w 96)), (6, .ref (wAd w 97)), (7, .ref (wAd w 98)), (8, .ref (wAd w g0)), (9, .int v9), (10, .int v10), (11, .int v11)] [] 1 6 := by
  intro H locs ls hP hS hl
  unfold f_L_counted_j247 at hf
  refine lv_iinc (v := (v11 + 1)) (lv' := [(11, .int (v11 + 1)), (0, .int v0), (2, .ref (wAd w 93)), (3, .ref (wAd w 94)), (4, .ref (wAd w 95)), (5, .ref (wAd w 96)), (6, .ref (wAd w 97)), (7, .ref (wAd w 98)), (8, .ref (wAd w g0)), (9, .int v9), (10, .int v10)]) C.1 C.2.1 dL_counted_247 hl (k := 10) rfl rfl (by decide) rfl (fun ls hl => ?_)
  refine lv_goto (tgt := 41) C.1 C.2.1 dL_counted_250 (by decide) ?_
  cases hf
  exact hA _ rfl _ _ _ hP hS (lv_sub hl [1, 2, 3, 4, 5, 6, 7, 8, 9, 10, 0] rfl)
set_option maxHeartbeats 4000000 in
set_option maxRecDepth 100000 in
theorem w_L_counted_j234 {g0 : Nat} {w : WT} {l : Launch} {p : Program} {e : Env} {s : State} {m : MethodId} {args : Array Value} {below : List Frame} {meth : Method} {c : Code} (C : KC w p s m args meth c cL_counted 13 RL (some .int)) (hN : 99 ≤ wN w) (hg0 : isMa g0) (hgN : wN w = g0 + 1) {v0 : Int32} {v11 : Int32} {v12 : Int32} {M : Mem} {L : Lng} {Q : State → Prop} {o : (Int32 × Int32 × Int32) ⊕ (Int32)} (hf : f_L_counted_j234 g0 v0 v11 v12 M = some o) (hA : ∀ z, o = .inl z → AtC w p l e ({ frames := 4, cells := 1, slots := 6, locals := 107 } : Room) s m args below meth c Q 13 41 M L [(0, .int v0), (2, .ref (wAd w 93)), (3, .ref (wAd w 94)), (4, .ref (wAd w 95)), (5, .ref (wAd w 96)), (6, .ref (wAd w 97)), (7, .ref (wAd w 98)), (8, .ref (wAd w g0)), (9, .int z.1), (10, .int z.2.1), (11, .int z.2.2)] [] 1 6) (hE : ∀ y, o = .inr y → AtC w p l e ({ frames := 4, cells := 1, slots := 6, locals := 107 } : Room) s m args below meth c Q 13 253 M L [(0, .int v0), (2, .ref (wAd w 93)), (7, .ref (wAd w 98)), (8, .ref (wAd w g0)), (9, .int y)] [] 1 6) : AtC w p l e ({ frames := 4, cells := 1, slots := 6, locals := 107 } : Room) s m args below meth c Q 13 234 M L [(0, .int v0), (2, .ref (wAd w 93)), (3, .ref (wAd w 94)), (4, .ref (wAd w 95)), (5, .ref (wAd w 96)), (6, .ref (wAd w 97)), (7, .ref (wAd w 98)), (8, .ref (wAd w g0)), (11, .int v11), (12, .int v12)] [] 1 6 := by
  intro H locs ls hP hS hl
  unfold f_L_counted_j234 at hf
  refine lv_iload C.1 C.2.1 dL_counted_234 (lv_at hl 8 rfl) ?_
  refine lv_aload C.1 C.2.1 dL_counted_236 (lv_at hl 6 rfl) ?_
  obtain ⟨r16, hr16, hf⟩ := ob hf
  refine kci (kS (As := [.int v11, .ref (wAd w 98)]) (rest := []) C hl.1 hP hS (c_L_number w l C.2.2.2.2.2.2.2.2 hN (L := L) hr16) (gS q442 q443 q0 q444) hd_L_number ⟨rfl, rfl⟩ ⟨Nat.le_of_ble_eq_true rfl, Nat.le_of_ble_eq_true rfl⟩ rfl rfl (Nat.le_of_ble_eq_true rfl) dL_counted_238 ⟨Nat.le_of_ble_eq_true rfl, Nat.le_of_ble_eq_true rfl⟩) hS (fun H locs hP hS => ?_)
  refine lv_istore (lv' := [(9, .int r16), (0, .int v0), (2, .ref (wAd w 93)), (3, .ref (wAd w 94)), (4, .ref (wAd w 95)), (5, .ref (wAd w 96)), (6, .ref (wAd w 97)), (7, .ref (wAd w 98)), (8, .ref (wAd w g0)), (11, .int v11), (12, .int v12)]) C.1 C.2.1 dL_counted_241 hl (by decide) rfl (fun ls hl => ?_)
  refine lv_iload C.1 C.2.1 dL_counted_243 (lv_at hl 10 rfl) ?_
  refine lv_istore (lv' := [(10, .int v12), (9, .int r16), (0, .int v0), (2, .ref (wAd w 93)), (3, .ref (wAd w 94)), (4, .ref (wAd w 95)), (5, .ref (wAd w 96)), (6, .ref (wAd w 97)), (7, .ref (wAd w 98)), (8, .ref (wAd w g0)), (11, .int v11), (12, .int v12)]) C.1 C.2.1 dL_counted_245 hl (by decide) rfl (fun ls hl => ?_)
  exact w_L_counted_j247 C hN hg0 hgN hf hA hE _ _ _ hP hS (lv_sub hl [2, 3, 4, 5, 6, 7, 8, 9, 1, 0, 10] rfl)
set_option maxHeartbeats 4000000 in
set_option maxRecDepth 100000 in
theorem w_L_counted_j206 {g0 : Nat} {w : WT} {l : Launch} {p : Program} {e : Env} {s : State} {m : MethodId} {args : Array Value} {below : List Frame} {meth : Method} {c : Code} (C : KC w p s m args meth c cL_counted 13 RL (some .int)) (hN : 99 ≤ wN w) (hg0 : isMa g0) (hgN : wN w = g0 + 1) {v0 : Int32} {v9 : Int32} {v10 : Int32} {v11 : Int32} {v12 : Int32} {M : Mem} {L : Lng} {Q : State → Prop} {o : (Int32 × Int32 × Int32) ⊕ (Int32)} (hf : f_L_counted_j206 g0 v0 v9 v10 v11 v12 M = some o) (hA : ∀ z, o = .inl z → AtC w p l e ({ frames := 4, cells := 1, slots := 6, locals := 107 } : Room) s m args below meth c Q 13 41 M L [(0, .int v0), (2, .ref (wAd w 93)), (3, .ref (wAd w 94)), (4, .ref (wAd w 95)), (5, .ref (wAd w 96)), (6, .ref (wAd w 97)), (7, .ref (wAd w 98)), (8, .ref (wAd w g0)), (9, .int z.1), (10, .int z.2.1), (11, .int z.2.2)] [] 1 6) (hE : ∀ y, o = .inr y → AtC w p l e ({ frames := 4, cells := 1, slots := 6, locals := 107 } : Room) s m args below meth c Q 13 253 M L [(0, .int v0), (2, .ref (wAd w 93)), (7, .ref (wAd w 98)), (8, .ref (wAd w g0)), (9, .int y)] [] 1 6) : AtC w p l e ({ frames := 4, cells := 1, slots := 6, locals := 107 } : Room) s m args below meth c Q 13 206 M L [(0, .int v0), (2, .ref (wAd w 93)), (3, .ref (wAd w 94)), (4, .ref (wAd w 95)), (5, .ref (wAd w 96)), (6, .ref (wAd w 97)), (7, .ref (wAd w 98)), (8, .ref (wAd w g0)), (9, .int v9), (10, .int v10), (11, .int v11), (12, .int v12)] [] 1 6 := by
  intro H locs ls hP hS hl
  unfold f_L_counted_j206 at hf
  refine lv_iload_n C.1 C.2.1 dL_counted_206 rfl (lv_at hl 0 rfl) ?_
  refine lv_bipush (v := 9) C.1 C.2.1 dL_counted_207 (by decide) ?_
  refine lv_icmp_ne (tgt := 247) C.1 C.2.1 dL_counted_209 (by decide) (fun c12 => ?_) (fun c12 => ?_)
  · have hf := (if_neg c12).symm.trans hf
    exact w_L_counted_j247 C hN hg0 hgN hf hA hE _ _ _ hP hS (lv_sub hl [0, 1, 2, 3, 4, 5, 6, 7, 8, 9, 10] rfl)
  · have hf := (if_pos c12).symm.trans hf
    refine lv_aload C.1 C.2.1 dL_counted_212 (lv_at hl 6 rfl) ?_
    refine lv_iload C.1 C.2.1 dL_counted_214 (lv_at hl 10 rfl) ?_
    obtain ⟨x13, hx13, hf⟩ := ob hf
    refine k_iald C hP (Nat.lt_of_lt_of_le (Nat.le_of_ble_eq_true rfl) hN) (ar_L98 w L _) hx13 dL_counted_216 ?_
    refine lv_iload C.1 C.2.1 dL_counted_217 (lv_at hl 10 rfl) ?_
    refine lv_icmp_ne (tgt := 247) C.1 C.2.1 dL_counted_219 (by decide) (fun c14 => ?_) (fun c14 => ?_)
    · have hf := (if_neg c14).symm.trans hf
      exact w_L_counted_j247 C hN hg0 hgN hf hA hE _ _ _ hP hS (lv_sub hl [0, 1, 2, 3, 4, 5, 6, 7, 8, 9, 10] rfl)
    · have hf := (if_pos c14).symm.trans hf
      refine lv_iload C.1 C.2.1 dL_counted_222 (lv_at hl 8 rfl) ?_
      refine lv_if_lt (tgt := 234) C.1 C.2.1 dL_counted_224 (by decide) (fun c15 => ?_) (fun c15 => ?_)
      · have hf := (if_pos c15).symm.trans hf
        exact w_L_counted_j234 C hN hg0 hgN hf hA hE _ _ _ hP hS (lv_sub hl [0, 1, 2, 3, 4, 5, 6, 7, 10, 11] rfl)
      · have hf := (if_neg c15).symm.trans hf
        refine lv_iload C.1 C.2.1 dL_counted_227 (lv_at hl 11 rfl) ?_
        refine lv_iload C.1 C.2.1 dL_counted_229 (lv_at hl 9 rfl) ?_
        refine lv_icmp_le (tgt := 247) C.1 C.2.1 dL_counted_231 (by decide) (fun c17 => ?_) (fun c17 => ?_)
        · have hf := (if_pos c17).symm.trans hf
          exact w_L_counted_j247 C hN hg0 hgN hf hA hE _ _ _ hP hS (lv_sub hl [0, 1, 2, 3, 4, 5, 6, 7, 8, 9, 10] rfl)
        · have hf := (if_neg c17).symm.trans hf
          exact w_L_counted_j234 C hN hg0 hgN hf hA hE _ _ _ hP hS (lv_sub hl [0, 1, 2, 3, 4, 5, 6, 7, 10, 11] rfl)
set_option maxHeartbeats 4000000 in
set_option maxRecDepth 100000 in
theorem w_L_counted_j193 {g0 : Nat} {w : WT} {l : Launch} {p : Program} {e : Env} {s : State} {m : MethodId} {args : Array Value} {below : List Frame} {meth : Method} {c : Code} (C : KC w p s m args meth c cL_counted 13 RL (some .int)) (hN : 99 ≤ wN w) (hg0 : isMa g0) (hgN : wN w = g0 + 1) {v0 : Int32} {v9 : Int32} {v10 : Int32} {v11 : Int32} {v12 : Int32} {M : Mem} {L : Lng} {Q : State → Prop} {o : (Int32 × Int32 × Int32) ⊕ (Int32)} (hf : f_L_counted_j193 g0 v0 v9 v10 v11 v12 M = some o) (hA : ∀ z, o = .inl z → AtC w p l e ({ frames := 4, cells := 1, slots := 6, locals := 107 } : Room) s m args below meth c Q 13 41 M L [(0, .int v0), (2, .ref (wAd w 93)), (3, .ref (wAd w 94)), (4, .ref (wAd w 95)), (5, .ref (wAd w 96)), (6, .ref (wAd w 97)), (7, .ref (wAd w 98)), (8, .ref (wAd w g0)), (9, .int z.1), (10, .int z.2.1), (11, .int z.2.2)] [] 1 6) (hE : ∀ y, o = .inr y → AtC w p l e ({ frames := 4, cells := 1, slots := 6, locals := 107 } : Room) s m args below meth c Q 13 253 M L [(0, .int v0), (2, .ref (wAd w 93)), (7, .ref (wAd w 98)), (8, .ref (wAd w g0)), (9, .int y)] [] 1 6) : AtC w p l e ({ frames := 4, cells := 1, slots := 6, locals := 107 } : Room) s m args below meth c Q 13 193 M L [(0, .int v0), (2, .ref (wAd w 93)), (3, .ref (wAd w 94)), (4, .ref (wAd w 95)), (5, .ref (wAd w 96)), (6, .ref (wAd w 97)), (7, .ref (wAd w 98)), (8, .ref (wAd w g0)), (9, .int v9), (10, .int v10), (11, .int v11), (12, .int v12)] [] 1 6 := by
  intro H locs ls hP hS hl
  unfold f_L_counted_j193 at hf
  refine lv_iload_n C.1 C.2.1 dL_counted_193 rfl (lv_at hl 0 rfl) ?_
  refine lv_bipush (v := 8) C.1 C.2.1 dL_counted_194 (by decide) ?_
  refine lv_icmp_ne (tgt := 206) C.1 C.2.1 dL_counted_196 (by decide) (fun c11 => ?_) (fun c11 => ?_)
  · have hf := (if_neg c11).symm.trans hf
    exact w_L_counted_j206 C hN hg0 hgN hf hA hE _ _ _ hP hS hl
  · have hf := (if_pos c11).symm.trans hf
    refine lv_iload C.1 C.2.1 dL_counted_199 (lv_at hl 8 rfl) ?_
    refine lv_iload C.1 C.2.1 dL_counted_201 (lv_at hl 11 rfl) ?_
    refine lv_iadd C.1 C.2.1 dL_counted_203 ?_
    refine lv_istore (lv' := [(9, .int (v9 + v12)), (0, .int v0), (2, .ref (wAd w 93)), (3, .ref (wAd w 94)), (4, .ref (wAd w 95)), (5, .ref (wAd w 96)), (6, .ref (wAd w 97)), (7, .ref (wAd w 98)), (8, .ref (wAd w g0)), (10, .int v10), (11, .int v11), (12, .int v12)]) C.1 C.2.1 dL_counted_204 hl (by decide) rfl (fun ls hl => ?_)
    exact w_L_counted_j206 C hN hg0 hgN hf hA hE _ _ _ hP hS (lv_sub hl [1, 2, 3, 4, 5, 6, 7, 8, 0, 9, 10, 11] rfl)
set_option maxHeartbeats 4000000 in
set_option maxRecDepth 100000 in
theorem w_L_counted_j190 {g0 : Nat} {w : WT} {l : Launch} {p : Program} {e : Env} {s : State} {m : MethodId} {args : Array Value} {below : List Frame} {meth : Method} {c : Code} (C : KC w p s m args meth c cL_counted 13 RL (some .int)) (hN : 99 ≤ wN w) (hg0 : isMa g0) (hgN : wN w = g0 + 1) {v0 : Int32} {v10 : Int32} {v11 : Int32} {v12 : Int32} {s0 : Int32} {s1 : Int32} {M : Mem} {L : Lng} {Q : State → Prop} {o : (Int32 × Int32 × Int32) ⊕ (Int32)} (hf : f_L_counted_j190 g0 v0 v10 v11 v12 s0 s1 M = some o) (hA : ∀ z, o = .inl z → AtC w p l e ({ frames := 4, cells := 1, slots := 6, locals := 107 } : Room) s m args below meth c Q 13 41 M L [(0, .int v0), (2, .ref (wAd w 93)), (3, .ref (wAd w 94)), (4, .ref (wAd w 95)), (5, .ref (wAd w 96)), (6, .ref (wAd w 97)), (7, .ref (wAd w 98)), (8, .ref (wAd w g0)), (9, .int z.1), (10, .int z.2.1), (11, .int z.2.2)] [] 1 6) (hE : ∀ y, o = .inr y → AtC w p l e ({ frames := 4, cells := 1, slots := 6, locals := 107 } : Room) s m args below meth c Q 13 253 M L [(0, .int v0), (2, .ref (wAd w 93)), (7, .ref (wAd w 98)), (8, .ref (wAd w g0)), (9, .int y)] [] 1 6) : AtC w p l e ({ frames := 4, cells := 1, slots := 6, locals := 107 } : Room) s m args below meth c Q 13 190 M L [(0, .int v0), (2, .ref (wAd w 93)), (3, .ref (wAd w 94)), (4, .ref (wAd w 95)), (5, .ref (wAd w 96)), (6, .ref (wAd w 97)), (7, .ref (wAd w 98)), (8, .ref (wAd w g0)), (10, .int v10), (11, .int v11), (12, .int v12)] [.int s1, .int s0] 1 6 := by
  intro H locs ls hP hS hl
  unfold f_L_counted_j190 at hf
  refine lv_iadd C.1 C.2.1 dL_counted_190 ?_
  refine lv_istore (lv' := [(9, .int (s0 + s1)), (0, .int v0), (2, .ref (wAd w 93)), (3, .ref (wAd w 94)), (4, .ref (wAd w 95)), (5, .ref (wAd w 96)), (6, .ref (wAd w 97)), (7, .ref (wAd w 98)), (8, .ref (wAd w g0)), (10, .int v10), (11, .int v11), (12, .int v12)]) C.1 C.2.1 dL_counted_191 hl (by decide) rfl (fun ls hl => ?_)
  exact w_L_counted_j193 C hN hg0 hgN hf hA hE _ _ _ hP hS (lv_sub hl [1, 2, 3, 4, 5, 6, 7, 8, 0, 9, 10, 11] rfl)
set_option maxHeartbeats 4000000 in
set_option maxRecDepth 100000 in
theorem w_L_counted_j170 {g0 : Nat} {w : WT} {l : Launch} {p : Program} {e : Env} {s : State} {m : MethodId} {args : Array Value} {below : List Frame} {meth : Method} {c : Code} (C : KC w p s m args meth c cL_counted 13 RL (some .int)) (hN : 99 ≤ wN w) (hg0 : isMa g0) (hgN : wN w = g0 + 1) {v0 : Int32} {v9 : Int32} {v10 : Int32} {v11 : Int32} {v12 : Int32} {M : Mem} {L : Lng} {Q : State → Prop} {o : (Int32 × Int32 × Int32) ⊕ (Int32)} (hf : f_L_counted_j170 g0 v0 v9 v10 v11 v12 M = some o) (hA : ∀ z, o = .inl z → AtC w p l e ({ frames := 4, cells := 1, slots := 6, locals := 107 } : Room) s m args below meth c Q 13 41 M L [(0, .int v0), (2, .ref (wAd w 93)), (3, .ref (wAd w 94)), (4, .ref (wAd w 95)), (5, .ref (wAd w 96)), (6, .ref (wAd w 97)), (7, .ref (wAd w 98)), (8, .ref (wAd w g0)), (9, .int z.1), (10, .int z.2.1), (11, .int z.2.2)] [] 1 6) (hE : ∀ y, o = .inr y → AtC w p l e ({ frames := 4, cells := 1, slots := 6, locals := 107 } : Room) s m args below meth c Q 13 253 M L [(0, .int v0), (2, .ref (wAd w 93)), (7, .ref (wAd w 98)), (8, .ref (wAd w g0)), (9, .int y)] [] 1 6) : AtC w p l e ({ frames := 4, cells := 1, slots := 6, locals := 107 } : Room) s m args below meth c Q 13 170 M L [(0, .int v0), (2, .ref (wAd w 93)), (3, .ref (wAd w 94)), (4, .ref (wAd w 95)), (5, .ref (wAd w 96)), (6, .ref (wAd w 97)), (7, .ref (wAd w 98)), (8, .ref (wAd w g0)), (9, .int v9), (10, .int v10), (11, .int v11), (12, .int v12)] [] 1 6 := by
  intro H locs ls hP hS hl
  unfold f_L_counted_j170 at hf
  refine lv_iload_n C.1 C.2.1 dL_counted_170 rfl (lv_at hl 0 rfl) ?_
  refine lv_iconst (v := 4) C.1 C.2.1 dL_counted_171 (by decide) ?_
  refine lv_icmp_ne (tgt := 193) C.1 C.2.1 dL_counted_172 (by decide) (fun c10 => ?_) (fun c10 => ?_)
  · have hf := (if_neg c10).symm.trans hf
    exact w_L_counted_j193 C hN hg0 hgN hf hA hE _ _ _ hP hS hl
  · have hf := (if_pos c10).symm.trans hf
    refine lv_iload C.1 C.2.1 dL_counted_175 (lv_at hl 8 rfl) ?_
    refine lv_aload C.1 C.2.1 dL_counted_177 (lv_at hl 5 rfl) ?_
    refine lv_iload C.1 C.2.1 dL_counted_179 (lv_at hl 10 rfl) ?_
    obtain ⟨x18, hx18, hf⟩ := ob hf
    refine k_iald C hP (Nat.lt_of_lt_of_le (Nat.le_of_ble_eq_true rfl) hN) (ar_L97 w L _) hx18 dL_counted_181 ?_
    refine lv_if_ne (tgt := 189) C.1 C.2.1 dL_counted_182 (by decide) (fun c19 => ?_) (fun c19 => ?_)
    · have hf := (if_neg c19).symm.trans hf
      refine lv_iconst (v := 0) C.1 C.2.1 dL_counted_189 (by decide) ?_
      exact w_L_counted_j190 C hN hg0 hgN hf hA hE _ _ _ hP hS (lv_sub hl [0, 1, 2, 3, 4, 5, 6, 7, 9, 10, 11] rfl)
    · have hf := (if_pos c19).symm.trans hf
      refine lv_iconst (v := 1) C.1 C.2.1 dL_counted_185 (by decide) ?_
      refine lv_goto (tgt := 190) C.1 C.2.1 dL_counted_186 (by decide) ?_
      exact w_L_counted_j190 C hN hg0 hgN hf hA hE _ _ _ hP hS (lv_sub hl [0, 1, 2, 3, 4, 5, 6, 7, 9, 10, 11] rfl)
set_option maxHeartbeats 4000000 in
set_option maxRecDepth 100000 in
theorem w_L_counted_j167 {g0 : Nat} {w : WT} {l : Launch} {p : Program} {e : Env} {s : State} {m : MethodId} {args : Array Value} {below : List Frame} {meth : Method} {c : Code} (C : KC w p s m args meth c cL_counted 13 RL (some .int)) (hN : 99 ≤ wN w) (hg0 : isMa g0) (hgN : wN w = g0 + 1) {v0 : Int32} {v10 : Int32} {v11 : Int32} {v12 : Int32} {s0 : Int32} {s1 : Int32} {M : Mem} {L : Lng} {Q : State → Prop} {o : (Int32 × Int32 × Int32) ⊕ (Int32)} (hf : f_L_counted_j167 g0 v0 v10 v11 v12 s0 s1 M = some o) (hA : ∀ z, o = .inl z → AtC w p l e ({ frames := 4, cells := 1, slots := 6, locals := 107 } : Room) s m args below meth c Q 13 41 M L [(0, .int v0), (2, .ref (wAd w 93)), (3, .ref (wAd w 94)), (4, .ref (wAd w 95)), (5, .ref (wAd w 96)), (6, .ref (wAd w 97)), (7, .ref (wAd w 98)), (8, .ref (wAd w g0)), (9, .int z.1), (10, .int z.2.1), (11, .int z.2.2)] [] 1 6) (hE : ∀ y, o = .inr y → AtC w p l e ({ frames := 4, cells := 1, slots := 6, locals := 107 } : Room) s m args below meth c Q 13 253 M L [(0, .int v0), (2, .ref (wAd w 93)), (7, .ref (wAd w 98)), (8, .ref (wAd w g0)), (9, .int y)] [] 1 6) : AtC w p l e ({ frames := 4, cells := 1, slots := 6, locals := 107 } : Room) s m args below meth c Q 13 167 M L [(0, .int v0), (2, .ref (wAd w 93)), (3, .ref (wAd w 94)), (4, .ref (wAd w 95)), (5, .ref (wAd w 96)), (6, .ref (wAd w 97)), (7, .ref (wAd w 98)), (8, .ref (wAd w g0)), (10, .int v10), (11, .int v11), (12, .int v12)] [.int s1, .int s0] 1 6 := by
  intro H locs ls hP hS hl
  unfold f_L_counted_j167 at hf
  refine lv_iadd C.1 C.2.1 dL_counted_167 ?_
  refine lv_istore (lv' := [(9, .int (s0 + s1)), (0, .int v0), (2, .ref (wAd w 93)), (3, .ref (wAd w 94)), (4, .ref (wAd w 95)), (5, .ref (wAd w 96)), (6, .ref (wAd w 97)), (7, .ref (wAd w 98)), (8, .ref (wAd w g0)), (10, .int v10), (11, .int v11), (12, .int v12)]) C.1 C.2.1 dL_counted_168 hl (by decide) rfl (fun ls hl => ?_)
  exact w_L_counted_j170 C hN hg0 hgN hf hA hE _ _ _ hP hS (lv_sub hl [1, 2, 3, 4, 5, 6, 7, 8, 0, 9, 10, 11] rfl)
set_option maxHeartbeats 4000000 in
set_option maxRecDepth 100000 in
theorem w_L_counted_j146 {g0 : Nat} {w : WT} {l : Launch} {p : Program} {e : Env} {s : State} {m : MethodId} {args : Array Value} {below : List Frame} {meth : Method} {c : Code} (C : KC w p s m args meth c cL_counted 13 RL (some .int)) (hN : 99 ≤ wN w) (hg0 : isMa g0) (hgN : wN w = g0 + 1) {v0 : Int32} {v9 : Int32} {v10 : Int32} {v11 : Int32} {v12 : Int32} {M : Mem} {L : Lng} {Q : State → Prop} {o : (Int32 × Int32 × Int32) ⊕ (Int32)} (hf : f_L_counted_j146 g0 v0 v9 v10 v11 v12 M = some o) (hA : ∀ z, o = .inl z → AtC w p l e ({ frames := 4, cells := 1, slots := 6, locals := 107 } : Room) s m args below meth c Q 13 41 M L [(0, .int v0), (2, .ref (wAd w 93)), (3, .ref (wAd w 94)), (4, .ref (wAd w 95)), (5, .ref (wAd w 96)), (6, .ref (wAd w 97)), (7, .ref (wAd w 98)), (8, .ref (wAd w g0)), (9, .int z.1), (10, .int z.2.1), (11, .int z.2.2)] [] 1 6) (hE : ∀ y, o = .inr y → AtC w p l e ({ frames := 4, cells := 1, slots := 6, locals := 107 } : Room) s m args below meth c Q 13 253 M L [(0, .int v0), (2, .ref (wAd w 93)), (7, .ref (wAd w 98)), (8, .ref (wAd w g0)), (9, .int y)] [] 1 6) : AtC w p l e ({ frames := 4, cells := 1, slots := 6, locals := 107 } : Room) s m args below meth c Q 13 146 M L [(0, .int v0), (2, .ref (wAd w 93)), (3, .ref (wAd w 94)), (4, .ref (wAd w 95)), (5, .ref (wAd w 96)), (6, .ref (wAd w 97)), (7, .ref (wAd w 98)), (8, .ref (wAd w g0)), (9, .int v9), (10, .int v10), (11, .int v11), (12, .int v12)] [] 1 6 := by
  intro H locs ls hP hS hl
  unfold f_L_counted_j146 at hf
  refine lv_iload_n C.1 C.2.1 dL_counted_146 rfl (lv_at hl 0 rfl) ?_
  refine lv_iconst (v := 3) C.1 C.2.1 dL_counted_147 (by decide) ?_
  refine lv_icmp_ne (tgt := 170) C.1 C.2.1 dL_counted_148 (by decide) (fun c9 => ?_) (fun c9 => ?_)
  · have hf := (if_neg c9).symm.trans hf
    exact w_L_counted_j170 C hN hg0 hgN hf hA hE _ _ _ hP hS hl
  · have hf := (if_pos c9).symm.trans hf
    refine lv_iload C.1 C.2.1 dL_counted_151 (lv_at hl 8 rfl) ?_
    refine lv_iload C.1 C.2.1 dL_counted_153 (lv_at hl 10 rfl) ?_
    refine lv_aload_n C.1 C.2.1 dL_counted_155 rfl (lv_at hl 2 rfl) ?_
    obtain ⟨r20, hr20, hf⟩ := ob hf
    refine kci (kS (As := [.int v11, .ref (wAd w 94)]) (rest := [.int v9]) C hl.1 hP hS (c_L_rest w l C.2.2.2.2.2.2.2.2 (L := L) hr20) (gS q396 q397 q0 q398) hd_L_rest ⟨rfl, rfl⟩ ⟨Nat.le_of_ble_eq_true rfl, Nat.le_of_ble_eq_true rfl⟩ rfl rfl (Nat.le_of_ble_eq_true rfl) dL_counted_156 ⟨Nat.le_of_ble_eq_true rfl, Nat.le_of_ble_eq_true rfl⟩) hS (fun H locs hP hS => ?_)
    refine lv_if_eq (tgt := 166) C.1 C.2.1 dL_counted_159 (by decide) (fun c21 => ?_) (fun c21 => ?_)
    · have hf := (if_pos c21).symm.trans hf
      refine lv_iconst (v := 0) C.1 C.2.1 dL_counted_166 (by decide) ?_
      exact w_L_counted_j167 C hN hg0 hgN hf hA hE _ _ _ hP hS (lv_sub hl [0, 1, 2, 3, 4, 5, 6, 7, 9, 10, 11] rfl)
    · have hf := (if_neg c21).symm.trans hf
      refine lv_iconst (v := 1) C.1 C.2.1 dL_counted_162 (by decide) ?_
      refine lv_goto (tgt := 167) C.1 C.2.1 dL_counted_163 (by decide) ?_
      exact w_L_counted_j167 C hN hg0 hgN hf hA hE _ _ _ hP hS (lv_sub hl [0, 1, 2, 3, 4, 5, 6, 7, 9, 10, 11] rfl)
set_option maxHeartbeats 4000000 in
set_option maxRecDepth 100000 in
theorem w_L_counted_j143 {g0 : Nat} {w : WT} {l : Launch} {p : Program} {e : Env} {s : State} {m : MethodId} {args : Array Value} {below : List Frame} {meth : Method} {c : Code} (C : KC w p s m args meth c cL_counted 13 RL (some .int)) (hN : 99 ≤ wN w) (hg0 : isMa g0) (hgN : wN w = g0 + 1) {v0 : Int32} {v10 : Int32} {v11 : Int32} {v12 : Int32} {s0 : Int32} {s1 : Int32} {M : Mem} {L : Lng} {Q : State → Prop} {o : (Int32 × Int32 × Int32) ⊕ (Int32)} (hf : f_L_counted_j143 g0 v0 v10 v11 v12 s0 s1 M = some o) (hA : ∀ z, o = .inl z → AtC w p l e ({ frames := 4, cells := 1, slots := 6, locals := 107 } : Room) s m args below meth c Q 13 41 M L [(0, .int v0), (2, .ref (wAd w 93)), (3, .ref (wAd w 94)), (4, .ref (wAd w 95)), (5, .ref (wAd w 96)), (6, .ref (wAd w 97)), (7, .ref (wAd w 98)), (8, .ref (wAd w g0)), (9, .int z.1), (10, .int z.2.1), (11, .int z.2.2)] [] 1 6) (hE : ∀ y, o = .inr y → AtC w p l e ({ frames := 4, cells := 1, slots := 6, locals := 107 } : Room) s m args below meth c Q 13 253 M L [(0, .int v0), (2, .ref (wAd w 93)), (7, .ref (wAd w 98)), (8, .ref (wAd w g0)), (9, .int y)] [] 1 6) : AtC w p l e ({ frames := 4, cells := 1, slots := 6, locals := 107 } : Room) s m args below meth c Q 13 143 M L [(0, .int v0), (2, .ref (wAd w 93)), (3, .ref (wAd w 94)), (4, .ref (wAd w 95)), (5, .ref (wAd w 96)), (6, .ref (wAd w 97)), (7, .ref (wAd w 98)), (8, .ref (wAd w g0)), (10, .int v10), (11, .int v11), (12, .int v12)] [.int s1, .int s0] 1 6 := by
  intro H locs ls hP hS hl
  unfold f_L_counted_j143 at hf
  refine lv_iadd C.1 C.2.1 dL_counted_143 ?_
  refine lv_istore (lv' := [(9, .int (s0 + s1)), (0, .int v0), (2, .ref (wAd w 93)), (3, .ref (wAd w 94)), (4, .ref (wAd w 95)), (5, .ref (wAd w 96)), (6, .ref (wAd w 97)), (7, .ref (wAd w 98)), (8, .ref (wAd w g0)), (10, .int v10), (11, .int v11), (12, .int v12)]) C.1 C.2.1 dL_counted_144 hl (by decide) rfl (fun ls hl => ?_)
  exact w_L_counted_j146 C hN hg0 hgN hf hA hE _ _ _ hP hS (lv_sub hl [1, 2, 3, 4, 5, 6, 7, 8, 0, 9, 10, 11] rfl)
set_option maxHeartbeats 4000000 in
set_option maxRecDepth 100000 in
theorem w_L_counted_j138 {g0 : Nat} {w : WT} {l : Launch} {p : Program} {e : Env} {s : State} {m : MethodId} {args : Array Value} {below : List Frame} {meth : Method} {c : Code} (C : KC w p s m args meth c cL_counted 13 RL (some .int)) (hN : 99 ≤ wN w) (hg0 : isMa g0) (hgN : wN w = g0 + 1) {v0 : Int32} {v10 : Int32} {v11 : Int32} {v12 : Int32} {s0 : Int32} {M : Mem} {L : Lng} {Q : State → Prop} {o : (Int32 × Int32 × Int32) ⊕ (Int32)} (hf : f_L_counted_j138 g0 v0 v10 v11 v12 s0 M = some o) (hA : ∀ z, o = .inl z → AtC w p l e ({ frames := 4, cells := 1, slots := 6, locals := 107 } : Room) s m args below meth c Q 13 41 M L [(0, .int v0), (2, .ref (wAd w 93)), (3, .ref (wAd w 94)), (4, .ref (wAd w 95)), (5, .ref (wAd w 96)), (6, .ref (wAd w 97)), (7, .ref (wAd w 98)), (8, .ref (wAd w g0)), (9, .int z.1), (10, .int z.2.1), (11, .int z.2.2)] [] 1 6) (hE : ∀ y, o = .inr y → AtC w p l e ({ frames := 4, cells := 1, slots := 6, locals := 107 } : Room) s m args below meth c Q 13 253 M L [(0, .int v0), (2, .ref (wAd w 93)), (7, .ref (wAd w 98)), (8, .ref (wAd w g0)), (9, .int y)] [] 1 6) : AtC w p l e ({ frames := 4, cells := 1, slots := 6, locals := 107 } : Room) s m args below meth c Q 13 138 M L [(0, .int v0), (2, .ref (wAd w 93)), (3, .ref (wAd w 94)), (4, .ref (wAd w 95)), (5, .ref (wAd w 96)), (6, .ref (wAd w 97)), (7, .ref (wAd w 98)), (8, .ref (wAd w g0)), (10, .int v10), (11, .int v11), (12, .int v12)] [.int s0] 1 6 := by
  intro H locs ls hP hS hl
  unfold f_L_counted_j138 at hf
  refine lv_iconst (v := 1) C.1 C.2.1 dL_counted_138 (by decide) ?_
  refine lv_goto (tgt := 143) C.1 C.2.1 dL_counted_139 (by decide) ?_
  exact w_L_counted_j143 C hN hg0 hgN hf hA hE _ _ _ hP hS hl
set_option maxHeartbeats 4000000 in
set_option maxRecDepth 100000 in
theorem w_L_counted_j113 {g0 : Nat} {w : WT} {l : Launch} {p : Program} {e : Env} {s : State} {m : MethodId} {args : Array Value} {below : List Frame} {meth : Method} {c : Code} (C : KC w p s m args meth c cL_counted 13 RL (some .int)) (hN : 99 ≤ wN w) (hg0 : isMa g0) (hgN : wN w = g0 + 1) {v0 : Int32} {v9 : Int32} {v10 : Int32} {v11 : Int32} {v12 : Int32} {M : Mem} {L : Lng} {Q : State → Prop} {o : (Int32 × Int32 × Int32) ⊕ (Int32)} (hf : f_L_counted_j113 g0 v0 v9 v10 v11 v12 M = some o) (hA : ∀ z, o = .inl z → AtC w p l e ({ frames := 4, cells := 1, slots := 6, locals := 107 } : Room) s m args below meth c Q 13 41 M L [(0, .int v0), (2, .ref (wAd w 93)), (3, .ref (wAd w 94)), (4, .ref (wAd w 95)), (5, .ref (wAd w 96)), (6, .ref (wAd w 97)), (7, .ref (wAd w 98)), (8, .ref (wAd w g0)), (9, .int z.1), (10, .int z.2.1), (11, .int z.2.2)] [] 1 6) (hE : ∀ y, o = .inr y → AtC w p l e ({ frames := 4, cells := 1, slots := 6, locals := 107 } : Room) s m args below meth c Q 13 253 M L [(0, .int v0), (2, .ref (wAd w 93)), (7, .ref (wAd w 98)), (8, .ref (wAd w g0)), (9, .int y)] [] 1 6) : AtC w p l e ({ frames := 4, cells := 1, slots := 6, locals := 107 } : Room) s m args below meth c Q 13 113 M L [(0, .int v0), (2, .ref (wAd w 93)), (3, .ref (wAd w 94)), (4, .ref (wAd w 95)), (5, .ref (wAd w 96)), (6, .ref (wAd w 97)), (7, .ref (wAd w 98)), (8, .ref (wAd w g0)), (9, .int v9), (10, .int v10), (11, .int v11), (12, .int v12)] [] 1 6 := by
  intro H locs ls hP hS hl
  unfold f_L_counted_j113 at hf
  refine lv_iload_n C.1 C.2.1 dL_counted_113 rfl (lv_at hl 0 rfl) ?_
  refine lv_iconst (v := 2) C.1 C.2.1 dL_counted_114 (by decide) ?_
  refine lv_icmp_ne (tgt := 146) C.1 C.2.1 dL_counted_115 (by decide) (fun c8 => ?_) (fun c8 => ?_)
  · have hf := (if_neg c8).symm.trans hf
    exact w_L_counted_j146 C hN hg0 hgN hf hA hE _ _ _ hP hS hl
  · have hf := (if_pos c8).symm.trans hf
    refine lv_iload C.1 C.2.1 dL_counted_118 (lv_at hl 8 rfl) ?_
    refine lv_aload C.1 C.2.1 dL_counted_120 (lv_at hl 5 rfl) ?_
    refine lv_iload C.1 C.2.1 dL_counted_122 (lv_at hl 10 rfl) ?_
    obtain ⟨x22, hx22, hf⟩ := ob hf
    refine k_iald C hP (Nat.lt_of_lt_of_le (Nat.le_of_ble_eq_true rfl) hN) (ar_L97 w L _) hx22 dL_counted_124 ?_
    refine lv_iconst (v := 1) C.1 C.2.1 dL_counted_125 (by decide) ?_
    refine lv_icmp_eq (tgt := 138) C.1 C.2.1 dL_counted_126 (by decide) (fun c23 => ?_) (fun c23 => ?_)
    · have hf := (if_pos c23).symm.trans hf
      exact w_L_counted_j138 C hN hg0 hgN hf hA hE _ _ _ hP hS (lv_sub hl [0, 1, 2, 3, 4, 5, 6, 7, 9, 10, 11] rfl)
    · have hf := (if_neg c23).symm.trans hf
      refine lv_aload C.1 C.2.1 dL_counted_129 (lv_at hl 5 rfl) ?_
      refine lv_iload C.1 C.2.1 dL_counted_131 (lv_at hl 10 rfl) ?_
      obtain ⟨x24, hx24, hf⟩ := ob hf
      refine k_iald C hP (Nat.lt_of_lt_of_le (Nat.le_of_ble_eq_true rfl) hN) (ar_L97 w L _) hx24 dL_counted_133 ?_
      refine lv_iconst (v := 2) C.1 C.2.1 dL_counted_134 (by decide) ?_
      refine lv_icmp_ne (tgt := 142) C.1 C.2.1 dL_counted_135 (by decide) (fun c25 => ?_) (fun c25 => ?_)
      · have hf := (if_neg c25).symm.trans hf
        refine lv_iconst (v := 0) C.1 C.2.1 dL_counted_142 (by decide) ?_
        exact w_L_counted_j143 C hN hg0 hgN hf hA hE _ _ _ hP hS (lv_sub hl [0, 1, 2, 3, 4, 5, 6, 7, 9, 10, 11] rfl)
      · have hf := (if_pos c25).symm.trans hf
        exact w_L_counted_j138 C hN hg0 hgN hf hA hE _ _ _ hP hS (lv_sub hl [0, 1, 2, 3, 4, 5, 6, 7, 9, 10, 11] rfl)
set_option maxHeartbeats 4000000 in
set_option maxRecDepth 100000 in
theorem w_L_counted_j110 {g0 : Nat} {w : WT} {l : Launch} {p : Program} {e : Env} {s : State} {m : MethodId} {args : Array Value} {below : List Frame} {meth : Method} {c : Code} (C : KC w p s m args meth c cL_counted 13 RL (some .int)) (hN : 99 ≤ wN w) (hg0 : isMa g0) (hgN : wN w = g0 + 1) {v0 : Int32} {v10 : Int32} {v11 : Int32} {v12 : Int32} {s0 : Int32} {s1 : Int32} {M : Mem} {L : Lng} {Q : State → Prop} {o : (Int32 × Int32 × Int32) ⊕ (Int32)} (hf : f_L_counted_j110 g0 v0 v10 v11 v12 s0 s1 M = some o) (hA : ∀ z, o = .inl z → AtC w p l e ({ frames := 4, cells := 1, slots := 6, locals := 107 } : Room) s m args below meth c Q 13 41 M L [(0, .int v0), (2, .ref (wAd w 93)), (3, .ref (wAd w 94)), (4, .ref (wAd w 95)), (5, .ref (wAd w 96)), (6, .ref (wAd w 97)), (7, .ref (wAd w 98)), (8, .ref (wAd w g0)), (9, .int z.1), (10, .int z.2.1), (11, .int z.2.2)] [] 1 6) (hE : ∀ y, o = .inr y → AtC w p l e ({ frames := 4, cells := 1, slots := 6, locals := 107 } : Room) s m args below meth c Q 13 253 M L [(0, .int v0), (2, .ref (wAd w 93)), (7, .ref (wAd w 98)), (8, .ref (wAd w g0)), (9, .int y)] [] 1 6) : AtC w p l e ({ frames := 4, cells := 1, slots := 6, locals := 107 } : Room) s m args below meth c Q 13 110 M L [(0, .int v0), (2, .ref (wAd w 93)), (3, .ref (wAd w 94)), (4, .ref (wAd w 95)), (5, .ref (wAd w 96)), (6, .ref (wAd w 97)), (7, .ref (wAd w 98)), (8, .ref (wAd w g0)), (10, .int v10), (11, .int v11), (12, .int v12)] [.int s1, .int s0] 1 6 := by
  intro H locs ls hP hS hl
  unfold f_L_counted_j110 at hf
  refine lv_iadd C.1 C.2.1 dL_counted_110 ?_
  refine lv_istore (lv' := [(9, .int (s0 + s1)), (0, .int v0), (2, .ref (wAd w 93)), (3, .ref (wAd w 94)), (4, .ref (wAd w 95)), (5, .ref (wAd w 96)), (6, .ref (wAd w 97)), (7, .ref (wAd w 98)), (8, .ref (wAd w g0)), (10, .int v10), (11, .int v11), (12, .int v12)]) C.1 C.2.1 dL_counted_111 hl (by decide) rfl (fun ls hl => ?_)
  exact w_L_counted_j113 C hN hg0 hgN hf hA hE _ _ _ hP hS (lv_sub hl [1, 2, 3, 4, 5, 6, 7, 8, 0, 9, 10, 11] rfl)
set_option maxHeartbeats 4000000 in
set_option maxRecDepth 100000 in
theorem w_L_counted_j105 {g0 : Nat} {w : WT} {l : Launch} {p : Program} {e : Env} {s : State} {m : MethodId} {args : Array Value} {below : List Frame} {meth : Method} {c : Code} (C : KC w p s m args meth c cL_counted 13 RL (some .int)) (hN : 99 ≤ wN w) (hg0 : isMa g0) (hgN : wN w = g0 + 1) {v0 : Int32} {v10 : Int32} {v11 : Int32} {v12 : Int32} {s0 : Int32} {M : Mem} {L : Lng} {Q : State → Prop} {o : (Int32 × Int32 × Int32) ⊕ (Int32)} (hf : f_L_counted_j105 g0 v0 v10 v11 v12 s0 M = some o) (hA : ∀ z, o = .inl z → AtC w p l e ({ frames := 4, cells := 1, slots := 6, locals := 107 } : Room) s m args below meth c Q 13 41 M L [(0, .int v0), (2, .ref (wAd w 93)), (3, .ref (wAd w 94)), (4, .ref (wAd w 95)), (5, .ref (wAd w 96)), (6, .ref (wAd w 97)), (7, .ref (wAd w 98)), (8, .ref (wAd w g0)), (9, .int z.1), (10, .int z.2.1), (11, .int z.2.2)] [] 1 6) (hE : ∀ y, o = .inr y → AtC w p l e ({ frames := 4, cells := 1, slots := 6, locals := 107 } : Room) s m args below meth c Q 13 253 M L [(0, .int v0), (2, .ref (wAd w 93)), (7, .ref (wAd w 98)), (8, .ref (wAd w g0)), (9, .int y)] [] 1 6) : AtC w p l e ({ frames := 4, cells := 1, slots := 6, locals := 107 } : Room) s m args below meth c Q 13 105 M L [(0, .int v0), (2, .ref (wAd w 93)), (3, .ref (wAd w 94)), (4, .ref (wAd w 95)), (5, .ref (wAd w 96)), (6, .ref (wAd w 97)), (7, .ref (wAd w 98)), (8, .ref (wAd w g0)), (10, .int v10), (11, .int v11), (12, .int v12)] [.int s0] 1 6 := by
  intro H locs ls hP hS hl
  unfold f_L_counted_j105 at hf
  refine lv_iconst (v := 1) C.1 C.2.1 dL_counted_105 (by decide) ?_
  refine lv_goto (tgt := 110) C.1 C.2.1 dL_counted_106 (by decide) ?_
  exact w_L_counted_j110 C hN hg0 hgN hf hA hE _ _ _ hP hS hl
set_option maxHeartbeats 4000000 in
set_option maxRecDepth 100000 in
theorem w_L_counted_j79 {g0 : Nat} {w : WT} {l : Launch} {p : Program} {e : Env} {s : State} {m : MethodId} {args : Array Value} {below : List Frame} {meth : Method} {c : Code} (C : KC w p s m args meth c cL_counted 13 RL (some .int)) (hN : 99 ≤ wN w) (hg0 : isMa g0) (hgN : wN w = g0 + 1) {v0 : Int32} {v9 : Int32} {v10 : Int32} {v11 : Int32} {s0 : Int32} {M : Mem} {L : Lng} {Q : State → Prop} {o : (Int32 × Int32 × Int32) ⊕ (Int32)} (hf : f_L_counted_j79 g0 v0 v9 v10 v11 s0 M = some o) (hA : ∀ z, o = .inl z → AtC w p l e ({ frames := 4, cells := 1, slots := 6, locals := 107 } : Room) s m args below meth c Q 13 41 M L [(0, .int v0), (2, .ref (wAd w 93)), (3, .ref (wAd w 94)), (4, .ref (wAd w 95)), (5, .ref (wAd w 96)), (6, .ref (wAd w 97)), (7, .ref (wAd w 98)), (8, .ref (wAd w g0)), (9, .int z.1), (10, .int z.2.1), (11, .int z.2.2)] [] 1 6) (hE : ∀ y, o = .inr y → AtC w p l e ({ frames := 4, cells := 1, slots := 6, locals := 107 } : Room) s m args below meth c Q 13 253 M L [(0, .int v0), (2, .ref (wAd w 93)), (7, .ref (wAd w 98)), (8, .ref (wAd w g0)), (9, .int y)] [] 1 6) : AtC w p l e ({ frames := 4, cells := 1, slots := 6, locals := 107 } : Room) s m args below meth c Q 13 79 M L [(0, .int v0), (2, .ref (wAd w 93)), (3, .ref (wAd w 94)), (4, .ref (wAd w 95)), (5, .ref (wAd w 96)), (6, .ref (wAd w 97)), (7, .ref (wAd w 98)), (8, .ref (wAd w g0)), (9, .int v9), (10, .int v10), (11, .int v11)] [.int s0] 1 6 := by
  intro H locs ls hP hS hl
  unfold f_L_counted_j79 at hf
  refine lv_istore (lv' := [(12, .int s0), (0, .int v0), (2, .ref (wAd w 93)), (3, .ref (wAd w 94)), (4, .ref (wAd w 95)), (5, .ref (wAd w 96)), (6, .ref (wAd w 97)), (7, .ref (wAd w 98)), (8, .ref (wAd w g0)), (9, .int v9), (10, .int v10), (11, .int v11)]) C.1 C.2.1 dL_counted_79 hl (by decide) rfl (fun ls hl => ?_)
  refine lv_iload_n C.1 C.2.1 dL_counted_81 rfl (lv_at hl 1 rfl) ?_
  refine lv_iconst (v := 1) C.1 C.2.1 dL_counted_82 (by decide) ?_
  refine lv_icmp_ne (tgt := 113) C.1 C.2.1 dL_counted_83 (by decide) (fun c7 => ?_) (fun c7 => ?_)
  · have hf := (if_neg c7).symm.trans hf
    exact w_L_counted_j113 C hN hg0 hgN hf hA hE _ _ _ hP hS (lv_sub hl [1, 2, 3, 4, 5, 6, 7, 8, 9, 10, 11, 0] rfl)
  · have hf := (if_pos c7).symm.trans hf
    refine lv_iload C.1 C.2.1 dL_counted_86 (lv_at hl 9 rfl) ?_
    refine lv_aload C.1 C.2.1 dL_counted_88 (lv_at hl 6 rfl) ?_
    refine lv_iload C.1 C.2.1 dL_counted_90 (lv_at hl 11 rfl) ?_
    obtain ⟨x26, hx26, hf⟩ := ob hf
    refine k_iald C hP (Nat.lt_of_lt_of_le (Nat.le_of_ble_eq_true rfl) hN) (ar_L97 w L _) hx26 dL_counted_92 ?_
    refine lv_if_eq (tgt := 105) C.1 C.2.1 dL_counted_93 (by decide) (fun c27 => ?_) (fun c27 => ?_)
    · have hf := (if_pos c27).symm.trans hf
      exact w_L_counted_j105 C hN hg0 hgN hf hA hE _ _ _ hP hS (lv_sub hl [1, 2, 3, 4, 5, 6, 7, 8, 10, 11, 0] rfl)
    · have hf := (if_neg c27).symm.trans hf
      refine lv_aload C.1 C.2.1 dL_counted_96 (lv_at hl 6 rfl) ?_
      refine lv_iload C.1 C.2.1 dL_counted_98 (lv_at hl 11 rfl) ?_
      obtain ⟨x28, hx28, hf⟩ := ob hf
      refine k_iald C hP (Nat.lt_of_lt_of_le (Nat.le_of_ble_eq_true rfl) hN) (ar_L97 w L _) hx28 dL_counted_100 ?_
      refine lv_iconst (v := 3) C.1 C.2.1 dL_counted_101 (by decide) ?_
      refine lv_icmp_ne (tgt := 109) C.1 C.2.1 dL_counted_102 (by decide) (fun c29 => ?_) (fun c29 => ?_)
      · have hf := (if_neg c29).symm.trans hf
        refine lv_iconst (v := 0) C.1 C.2.1 dL_counted_109 (by decide) ?_
        exact w_L_counted_j110 C hN hg0 hgN hf hA hE _ _ _ hP hS (lv_sub hl [1, 2, 3, 4, 5, 6, 7, 8, 10, 11, 0] rfl)
      · have hf := (if_pos c29).symm.trans hf
        exact w_L_counted_j105 C hN hg0 hgN hf hA hE _ _ _ hP hS (lv_sub hl [1, 2, 3, 4, 5, 6, 7, 8, 10, 11, 0] rfl)
set_option maxHeartbeats 4000000 in
set_option maxRecDepth 100000 in
theorem w_L_counted_l41 {g0 : Nat} {w : WT} {l : Launch} {p : Program} {e : Env} {s : State} {m : MethodId} {args : Array Value} {below : List Frame} {meth : Method} {c : Code} (C : KC w p s m args meth c cL_counted 13 RL (some .int)) (hN : 99 ≤ wN w) (hg0 : isMa g0) (hgN : wN w = g0 + 1) {v0 : Int32} {M : Mem} {L : Lng} {Q : State → Prop} (z : Int32 × Int32 × Int32) (o : (Int32 × Int32 × Int32) ⊕ (Int32)) (hf : f_L_counted_l41 g0 v0 M z = some o) (hA : ∀ z, o = .inl z → AtC w p l e ({ frames := 4, cells := 1, slots := 6, locals := 107 } : Room) s m args below meth c Q 13 41 M L [(0, .int v0), (2, .ref (wAd w 93)), (3, .ref (wAd w 94)), (4, .ref (wAd w 95)), (5, .ref (wAd w 96)), (6, .ref (wAd w 97)), (7, .ref (wAd w 98)), (8, .ref (wAd w g0)), (9, .int z.1), (10, .int z.2.1), (11, .int z.2.2)] [] 1 6) (hE : ∀ y, o = .inr y → AtC w p l e ({ frames := 4, cells := 1, slots := 6, locals := 107 } : Room) s m args below meth c Q 13 253 M L [(0, .int v0), (2, .ref (wAd w 93)), (7, .ref (wAd w 98)), (8, .ref (wAd w g0)), (9, .int y)] [] 1 6) : AtC w p l e ({ frames := 4, cells := 1, slots := 6, locals := 107 } : Room) s m args below meth c Q 13 41 M L [(0, .int v0), (2, .ref (wAd w 93)), (3, .ref (wAd w 94)), (4, .ref (wAd w 95)), (5, .ref (wAd w 96)), (6, .ref (wAd w 97)), (7, .ref (wAd w 98)), (8, .ref (wAd w g0)), (9, .int z.1), (10, .int z.2.1), (11, .int z.2.2)] [] 1 6 := by
  intro H locs ls hP hS hl
  unfold f_L_counted_l41 at hf
  refine lv_iload C.1 C.2.1 dL_counted_41 (lv_at hl 10 rfl) ?_
  refine lv_aload_n C.1 C.2.1 dL_counted_43 rfl (lv_at hl 1 rfl) ?_
  refine lv_iconst (v := 0) C.1 C.2.1 dL_counted_44 (by decide) ?_
  obtain ⟨x3, hx3, hf⟩ := ob hf
  refine k_iald C hP (C9 C (Nat.le_of_ble_eq_true rfl)) (ar_L93 w L _) hx3 dL_counted_45 ?_
  refine lv_icmp_ge (tgt := 253) C.1 C.2.1 dL_counted_46 (by decide) (fun c4 => ?_) (fun c4 => ?_)
  · have hf := (if_pos c4).symm.trans hf
    cases hf
    exact hE _ rfl _ _ _ hP hS (lv_sub hl [0, 1, 6, 7, 8] rfl)
  · have hf := (if_neg c4).symm.trans hf
    refine lv_aload C.1 C.2.1 dL_counted_49 (lv_at hl 6 rfl) ?_
    refine lv_iload C.1 C.2.1 dL_counted_51 (lv_at hl 10 rfl) ?_
    obtain ⟨x5, hx5, hf⟩ := ob hf
    refine k_iald C hP (Nat.lt_of_lt_of_le (Nat.le_of_ble_eq_true rfl) hN) (ar_L98 w L _) hx5 dL_counted_53 ?_
    refine lv_iload C.1 C.2.1 dL_counted_54 (lv_at hl 10 rfl) ?_
    refine lv_icmp_ne (tgt := 78) C.1 C.2.1 dL_counted_56 (by decide) (fun c6 => ?_) (fun c6 => ?_)
    · have hf := (if_neg c6).symm.trans hf
      refine lv_iconst (v := 0) C.1 C.2.1 dL_counted_78 (by decide) ?_
      exact w_L_counted_j79 C hN hg0 hgN hf hA hE _ _ _ hP hS hl
    · have hf := (if_pos c6).symm.trans hf
      refine lv_iload C.1 C.2.1 dL_counted_59 (lv_at hl 10 rfl) ?_
      refine lv_iconst (v := 3) C.1 C.2.1 dL_counted_61 (by decide) ?_
      refine lv_aload_n C.1 C.2.1 dL_counted_62 rfl (lv_at hl 1 rfl) ?_
      refine lv_aload_n C.1 C.2.1 dL_counted_63 rfl (lv_at hl 2 rfl) ?_
      refine lv_aload C.1 C.2.1 dL_counted_64 (lv_at hl 3 rfl) ?_
      refine lv_aload C.1 C.2.1 dL_counted_66 (lv_at hl 4 rfl) ?_
      refine lv_aload C.1 C.2.1 dL_counted_68 (lv_at hl 5 rfl) ?_
      refine lv_aload C.1 C.2.1 dL_counted_70 (lv_at hl 6 rfl) ?_
      obtain ⟨r30, hr30, hf⟩ := ob hf
      refine kci (kS (As := [.int z.2.2, .int 3, .ref (wAd w 93), .ref (wAd w 94), .ref (wAd w 95), .ref (wAd w 96), .ref (wAd w 97), .ref (wAd w 98)]) (rest := []) C hl.1 hP hS (c_L_part w l C.2.2.2.2.2.2.2.2 hN (L := L) hr30) (gS q402 q403 q0 q404) hd_L_part ⟨rfl, rfl⟩ ⟨Nat.le_of_ble_eq_true rfl, Nat.le_of_ble_eq_true rfl⟩ rfl rfl (Nat.le_of_ble_eq_true rfl) dL_counted_72 ⟨Nat.le_of_ble_eq_true rfl, Nat.le_of_ble_eq_true rfl⟩) hS (fun H locs hP hS => ?_)
      refine lv_goto (tgt := 79) C.1 C.2.1 dL_counted_75 (by decide) ?_
      exact w_L_counted_j79 C hN hg0 hgN hf hA hE _ _ _ hP hS hl
set_option maxHeartbeats 4000000 in
set_option maxRecDepth 100000 in
theorem w_L_counted_j285 {g0 : Nat} {w : WT} {l : Launch} {p : Program} {e : Env} {s : State} {m : MethodId} {args : Array Value} {below : List Frame} {meth : Method} {c : Code} (C : KC w p s m args meth c cL_counted 13 RL (some .int)) (hN : 99 ≤ wN w) (hg0 : isMa g0) (hgN : wN w = g0 + 1) {v0 : Int32} {v11 : Int32} {s0 : Int32} {s1 : Int32} {M : Mem} {L : Lng} {Q : State → Prop} {o : (Int32 × Int32) ⊕ (Int32)} (hf : f_L_counted_j285 g0 v0 v11 s0 s1 M = some o) (hA : ∀ z, o = .inl z → AtC w p l e ({ frames := 4, cells := 1, slots := 6, locals := 107 } : Room) s m args below meth c Q 13 256 M L [(0, .int v0), (2, .ref (wAd w 93)), (7, .ref (wAd w 98)), (8, .ref (wAd w g0)), (9, .int z.1), (11, .int z.2)] [] 1 6) (hE : ∀ y, o = .inr y → AtC w p l e ({ frames := 4, cells := 1, slots := 6, locals := 107 } : Room) s m args below meth c Q 13 294 M L [(0, .int v0), (2, .ref (wAd w 93)), (7, .ref (wAd w 98)), (9, .int y)] [] 1 6) : AtC w p l e ({ frames := 4, cells := 1, slots := 6, locals := 107 } : Room) s m args below meth c Q 13 285 M L [(0, .int v0), (2, .ref (wAd w 93)), (7, .ref (wAd w 98)), (8, .ref (wAd w g0)), (11, .int v11)] [.int s1, .int s0] 1 6 := by
  intro H locs ls hP hS hl
  unfold f_L_counted_j285 at hf
  refine lv_iadd C.1 C.2.1 dL_counted_285 ?_
  refine lv_istore (lv' := [(9, .int (s0 + s1)), (0, .int v0), (2, .ref (wAd w 93)), (7, .ref (wAd w 98)), (8, .ref (wAd w g0)), (11, .int v11)]) C.1 C.2.1 dL_counted_286 hl (by decide) rfl (fun ls hl => ?_)
  refine lv_iinc (v := (v11 + 1)) (lv' := [(11, .int (v11 + 1)), (9, .int (s0 + s1)), (0, .int v0), (2, .ref (wAd w 93)), (7, .ref (wAd w 98)), (8, .ref (wAd w g0))]) C.1 C.2.1 dL_counted_288 hl (k := 5) rfl rfl (by decide) rfl (fun ls hl => ?_)
  refine lv_goto (tgt := 256) C.1 C.2.1 dL_counted_291 (by decide) ?_
  cases hf
  exact hA _ rfl _ _ _ hP hS (lv_sub hl [2, 3, 4, 5, 1, 0] rfl)
set_option maxHeartbeats 4000000 in
set_option maxRecDepth 100000 in
theorem w_L_counted_l256 {g0 : Nat} {w : WT} {l : Launch} {p : Program} {e : Env} {s : State} {m : MethodId} {args : Array Value} {below : List Frame} {meth : Method} {c : Code} (C : KC w p s m args meth c cL_counted 13 RL (some .int)) (hN : 99 ≤ wN w) (hg0 : isMa g0) (hgN : wN w = g0 + 1) {v0 : Int32} {M : Mem} {L : Lng} {Q : State → Prop} (z : Int32 × Int32) (o : (Int32 × Int32) ⊕ (Int32)) (hf : f_L_counted_l256 g0 v0 M z = some o) (hA : ∀ z, o = .inl z → AtC w p l e ({ frames := 4, cells := 1, slots := 6, locals := 107 } : Room) s m args below meth c Q 13 256 M L [(0, .int v0), (2, .ref (wAd w 93)), (7, .ref (wAd w 98)), (8, .ref (wAd w g0)), (9, .int z.1), (11, .int z.2)] [] 1 6) (hE : ∀ y, o = .inr y → AtC w p l e ({ frames := 4, cells := 1, slots := 6, locals := 107 } : Room) s m args below meth c Q 13 294 M L [(0, .int v0), (2, .ref (wAd w 93)), (7, .ref (wAd w 98)), (9, .int y)] [] 1 6) : AtC w p l e ({ frames := 4, cells := 1, slots := 6, locals := 107 } : Room) s m args below meth c Q 13 256 M L [(0, .int v0), (2, .ref (wAd w 93)), (7, .ref (wAd w 98)), (8, .ref (wAd w g0)), (9, .int z.1), (11, .int z.2)] [] 1 6 := by
  intro H locs ls hP hS hl
  unfold f_L_counted_l256 at hf
  refine lv_iload C.1 C.2.1 dL_counted_256 (lv_at hl 5 rfl) ?_
  refine lv_aload_n C.1 C.2.1 dL_counted_258 rfl (lv_at hl 1 rfl) ?_
  refine lv_iconst (v := 1) C.1 C.2.1 dL_counted_259 (by decide) ?_
  obtain ⟨x32, hx32, hf⟩ := ob hf
  refine k_iald C hP (C9 C (Nat.le_of_ble_eq_true rfl)) (ar_L93 w L _) hx32 dL_counted_260 ?_
  refine lv_icmp_ge (tgt := 294) C.1 C.2.1 dL_counted_261 (by decide) (fun c33 => ?_) (fun c33 => ?_)
  · have hf := (if_pos c33).symm.trans hf
    cases hf
    exact hE _ rfl _ _ _ hP hS (lv_sub hl [0, 1, 2, 4] rfl)
  · have hf := (if_neg c33).symm.trans hf
    refine lv_iload_n C.1 C.2.1 dL_counted_264 rfl (lv_at hl 0 rfl) ?_
    refine lv_bipush (v := 7) C.1 C.2.1 dL_counted_265 (by decide) ?_
    refine lv_icmp_ne (tgt := 294) C.1 C.2.1 dL_counted_267 (by decide) (fun c34 => ?_) (fun c34 => ?_)
    · have hf := (if_neg c34).symm.trans hf
      cases hf
      exact hE _ rfl _ _ _ hP hS (lv_sub hl [0, 1, 2, 4] rfl)
    · have hf := (if_pos c34).symm.trans hf
      refine lv_iload C.1 C.2.1 dL_counted_270 (lv_at hl 4 rfl) ?_
      refine lv_aload C.1 C.2.1 dL_counted_272 (lv_at hl 3 rfl) ?_
      refine lv_iload C.1 C.2.1 dL_counted_274 (lv_at hl 5 rfl) ?_
      obtain ⟨x35, hx35, hf⟩ := ob hf
      refine k_iald C hP (by rw [hgN]; exact Nat.lt_succ_self _) (ar_Ma hg0 w L _) hx35 dL_counted_276 ?_
      refine lv_if_lt (tgt := 284) C.1 C.2.1 dL_counted_277 (by decide) (fun c36 => ?_) (fun c36 => ?_)
      · have hf := (if_pos c36).symm.trans hf
        refine lv_iconst (v := 0) C.1 C.2.1 dL_counted_284 (by decide) ?_
        exact w_L_counted_j285 C hN hg0 hgN hf hA hE _ _ _ hP hS (lv_sub hl [0, 1, 2, 3, 5] rfl)
      · have hf := (if_neg c36).symm.trans hf
        refine lv_iconst (v := 1) C.1 C.2.1 dL_counted_280 (by decide) ?_
        refine lv_goto (tgt := 285) C.1 C.2.1 dL_counted_281 (by decide) ?_
        exact w_L_counted_j285 C hN hg0 hgN hf hA hE _ _ _ hP hS (lv_sub hl [0, 1, 2, 3, 5] rfl)
set_option maxHeartbeats 4000000 in
set_option maxRecDepth 100000 in
theorem w_L_counted_j294 {g0 : Nat} {w : WT} {l : Launch} {p : Program} {e : Env} {s : State} {m : MethodId} {args : Array Value} {below : List Frame} {meth : Method} {c : Code} (C : KC w p s m args meth c cL_counted 13 RL (some .int)) (hN : 99 ≤ wN w) (hg0 : isMa g0) (hgN : wN w = g0 + 1) {v0 : Int32} {v9 : Int32} {M : Mem} {L : Lng} {out : Int32 × Mem} (hf : f_L_counted_j294 g0 v0 v9 M = some out) : AtC w p l e ({ frames := 4, cells := 1, slots := 6, locals := 107 } : Room) s m args below meth c (MQ below (QI w out.1 out.2 L) args s 1 6 (wA w)) 13 294 M L [(0, .int v0), (2, .ref (wAd w 93)), (7, .ref (wAd w 98)), (9, .int v9)] [] 1 6 := by
  intro H locs ls hP hS hl
  unfold f_L_counted_j294 at hf
  refine lv_iload_n C.1 C.2.1 dL_counted_294 rfl (lv_at hl 0 rfl) ?_
  refine lv_if_ne (tgt := 304) C.1 C.2.1 dL_counted_295 (by decide) (fun c38 => ?_) (fun c38 => ?_)
  · have hf := (if_neg c38).symm.trans hf
    refine lv_iload_n C.1 C.2.1 dL_counted_304 rfl (lv_at hl 0 rfl) ?_
    refine lv_iconst (v := 5) C.1 C.2.1 dL_counted_305 (by decide) ?_
    refine lv_icmp_ne (tgt := 318) C.1 C.2.1 dL_counted_306 (by decide) (fun c39 => ?_) (fun c39 => ?_)
    · have hf := (if_neg c39).symm.trans hf
      refine lv_iload_n C.1 C.2.1 dL_counted_318 rfl (lv_at hl 0 rfl) ?_
      refine lv_bipush (v := 6) C.1 C.2.1 dL_counted_319 (by decide) ?_
      refine lv_icmp_ne (tgt := 330) C.1 C.2.1 dL_counted_321 (by decide) (fun c40 => ?_) (fun c40 => ?_)
      · have hf := (if_neg c40).symm.trans hf
        refine lv_iload C.1 C.2.1 dL_counted_330 (lv_at hl 3 rfl) ?_
        cases hf
        exact kri C hP hS dL_counted_332
      · have hf := (if_pos c40).symm.trans hf
        refine lv_aload_n C.1 C.2.1 dL_counted_324 rfl (lv_at hl 1 rfl) ?_
        refine lv_iconst (v := 1) C.1 C.2.1 dL_counted_325 (by decide) ?_
        obtain ⟨x41, hx41, hf⟩ := ob hf
        refine k_iald C hP (C9 C (Nat.le_of_ble_eq_true rfl)) (ar_L93 w L _) hx41 dL_counted_326 ?_
        refine lv_goto (tgt := 332) C.1 C.2.1 dL_counted_327 (by decide) ?_
        cases hf
        exact kri C hP hS dL_counted_332
    · have hf := (if_pos c39).symm.trans hf
      refine lv_aload_n C.1 C.2.1 dL_counted_309 rfl (lv_at hl 1 rfl) ?_
      refine lv_aload C.1 C.2.1 dL_counted_310 (lv_at hl 2 rfl) ?_
      obtain ⟨r42, hr42, hf⟩ := ob hf
      refine kci (kS (As := [.ref (wAd w 93), .ref (wAd w 98)]) (rest := []) C hl.1 hP hS (c_L_exceedances w l C.2.2.2.2.2.2.2.2 hN (L := L) hr42) (gS q478 q479 q0 q480) hd_L_exceedances ⟨rfl, rfl⟩ ⟨Nat.le_of_ble_eq_true rfl, Nat.le_of_ble_eq_true rfl⟩ rfl rfl (Nat.le_of_ble_eq_true rfl) dL_counted_312 ⟨Nat.le_of_ble_eq_true rfl, Nat.le_of_ble_eq_true rfl⟩) hS (fun H locs hP hS => ?_)
      refine lv_goto (tgt := 332) C.1 C.2.1 dL_counted_315 (by decide) ?_
      cases hf
      exact kri C hP hS dL_counted_332
  · have hf := (if_pos c38).symm.trans hf
    refine lv_aload_n C.1 C.2.1 dL_counted_298 rfl (lv_at hl 1 rfl) ?_
    refine lv_iconst (v := 0) C.1 C.2.1 dL_counted_299 (by decide) ?_
    obtain ⟨x43, hx43, hf⟩ := ob hf
    refine k_iald C hP (C9 C (Nat.le_of_ble_eq_true rfl)) (ar_L93 w L _) hx43 dL_counted_300 ?_
    refine lv_goto (tgt := 332) C.1 C.2.1 dL_counted_301 (by decide) ?_
    cases hf
    exact kri C hP hS dL_counted_332
set_option maxHeartbeats 4000000 in
set_option maxRecDepth 100000 in
theorem w_L_counted_j33 {g0 : Nat} {w : WT} {l : Launch} {p : Program} {e : Env} {s : State} {m : MethodId} {args : Array Value} {below : List Frame} {meth : Method} {c : Code} (C : KC w p s m args meth c cL_counted 13 RL (some .int)) (hN : 99 ≤ wN w) (hg0 : isMa g0) (hgN : wN w = g0 + 1) {v0 : Int32} {s0 : Int32} {M : Mem} {L : Lng} {out : Int32 × Mem} (hf : f_L_counted_j33 g0 v0 s0 M = some out) : AtC w p l e ({ frames := 4, cells := 1, slots := 6, locals := 107 } : Room) s m args below meth c (MQ below (QI w out.1 out.2 L) args s 1 6 (wA w)) 13 33 M L [(0, .int v0), (2, .ref (wAd w 93)), (3, .ref (wAd w 94)), (4, .ref (wAd w 95)), (5, .ref (wAd w 96)), (6, .ref (wAd w 97)), (7, .ref (wAd w 98)), (8, .ref (wAd w g0))] [.int s0] 1 6 := by
  intro H locs ls hP hS hl
  unfold f_L_counted_j33 at hf
  refine lv_istore (lv' := [(9, .int s0), (0, .int v0), (2, .ref (wAd w 93)), (3, .ref (wAd w 94)), (4, .ref (wAd w 95)), (5, .ref (wAd w 96)), (6, .ref (wAd w 97)), (7, .ref (wAd w 98)), (8, .ref (wAd w g0))]) C.1 C.2.1 dL_counted_33 hl (by decide) rfl (fun ls hl => ?_)
  refine lv_iconst (v := 0) C.1 C.2.1 dL_counted_35 (by decide) ?_
  refine lv_istore (lv' := [(10, .int 0), (9, .int s0), (0, .int v0), (2, .ref (wAd w 93)), (3, .ref (wAd w 94)), (4, .ref (wAd w 95)), (5, .ref (wAd w 96)), (6, .ref (wAd w 97)), (7, .ref (wAd w 98)), (8, .ref (wAd w g0))]) C.1 C.2.1 dL_counted_36 hl (by decide) rfl (fun ls hl => ?_)
  refine lv_iconst (v := 0) C.1 C.2.1 dL_counted_38 (by decide) ?_
  refine lv_istore (lv' := [(11, .int 0), (10, .int 0), (9, .int s0), (0, .int v0), (2, .ref (wAd w 93)), (3, .ref (wAd w 94)), (4, .ref (wAd w 95)), (5, .ref (wAd w 96)), (6, .ref (wAd w 97)), (7, .ref (wAd w 98)), (8, .ref (wAd w g0))]) C.1 C.2.1 dL_counted_39 hl (by decide) rfl (fun ls hl => ?_)
  obtain ⟨o31, ho31, hf⟩ := ob hf
  refine loop_at (w_L_counted_l41 C hN hg0 hgN) FU _ o31 ho31 ?_ _ _ _ hP hS (lv_sub hl [3, 4, 5, 6, 7, 8, 9, 10, 2, 1, 0] rfl)
  intro H locs ls hP hS hl
  refine lv_iconst (v := 0) C.1 C.2.1 dL_counted_253 (by decide) ?_
  refine lv_istore (lv' := [(11, .int 0), (0, .int v0), (2, .ref (wAd w 93)), (7, .ref (wAd w 98)), (8, .ref (wAd w g0)), (9, .int o31)]) C.1 C.2.1 dL_counted_254 hl (by decide) rfl (fun ls hl => ?_)
  obtain ⟨o37, ho37, hf⟩ := ob hf
  refine loop_at (w_L_counted_l256 C hN hg0 hgN) FU _ o37 ho37 ?_ _ _ _ hP hS (lv_sub hl [1, 2, 3, 4, 5, 0] rfl)
  intro H locs ls hP hS hl
  exact w_L_counted_j294 C hN hg0 hgN hf _ _ _ hP hS hl
set_option maxHeartbeats 4000000 in
set_option maxRecDepth 100000 in
theorem w_L_counted_j6 {g0 : Nat} {w : WT} {l : Launch} {p : Program} {e : Env} {s : State} {m : MethodId} {args : Array Value} {below : List Frame} {meth : Method} {c : Code} (C : KC w p s m args meth c cL_counted 13 RL (some .int)) (hN : 99 ≤ wN w) (hg0 : isMa g0) (hgN : wN w = g0 + 1) {v0 : Int32} {M : Mem} {L : Lng} {out : Int32 × Mem} (hf : f_L_counted_j6 g0 v0 M = some out) : AtC w p l e ({ frames := 4, cells := 1, slots := 6, locals := 107 } : Room) s m args below meth c (MQ below (QI w out.1 out.2 L) args s 1 6 (wA w)) 13 6 M L [(0, .int v0), (1, .ref (wAd w 92)), (2, .ref (wAd w 93)), (3, .ref (wAd w 94)), (4, .ref (wAd w 95)), (5, .ref (wAd w 96)), (6, .ref (wAd w 97)), (7, .ref (wAd w 98)), (8, .ref (wAd w g0))] [] 1 6 := by
  intro H locs ls hP hS hl
  unfold f_L_counted_j6 at hf
  refine lv_aload_n C.1 C.2.1 dL_counted_6 rfl (lv_at hl 1 rfl) ?_
  refine lv_aload C.1 C.2.1 dL_counted_7 (lv_at hl 8 rfl) ?_
  refine lv_aload_n C.1 C.2.1 dL_counted_9 rfl (lv_at hl 2 rfl) ?_
  refine lv_aload_n C.1 C.2.1 dL_counted_10 rfl (lv_at hl 3 rfl) ?_
  refine lv_aload C.1 C.2.1 dL_counted_11 (lv_at hl 4 rfl) ?_
  refine lv_aload C.1 C.2.1 dL_counted_13 (lv_at hl 5 rfl) ?_
  refine lv_aload C.1 C.2.1 dL_counted_15 (lv_at hl 6 rfl) ?_
  refine lv_aload C.1 C.2.1 dL_counted_17 (lv_at hl 7 rfl) ?_
  obtain ⟨r1, hr1, hf⟩ := ob hf
  refine kcv (kS (As := [.ref (wAd w 92), .ref (wAd w g0), .ref (wAd w 93), .ref (wAd w 94), .ref (wAd w 95), .ref (wAd w 96), .ref (wAd w 97), .ref (wAd w 98)]) (rest := []) C hl.1 hP hS (c_L_match w l C.2.2.2.2.2.2.2.2 hN hg0 (by rw [hgN]; exact Nat.lt_succ_self _) (L := L) hr1) (gS q399 q400 q0 q401) hd_L_match ⟨rfl, rfl⟩ ⟨Nat.le_of_ble_eq_true rfl, Nat.le_of_ble_eq_true rfl⟩ rfl rfl (Nat.le_of_ble_eq_true rfl) dL_counted_19 ⟨Nat.le_of_ble_eq_true rfl, Nat.le_of_ble_eq_true rfl⟩) hS (fun H locs hP hS => ?_)
  refine lv_iload_n C.1 C.2.1 dL_counted_22 rfl (lv_at hl 0 rfl) ?_
  refine lv_bipush (v := 9) C.1 C.2.1 dL_counted_23 (by decide) ?_
  refine lv_icmp_ne (tgt := 32) C.1 C.2.1 dL_counted_25 (by decide) (fun c2 => ?_) (fun c2 => ?_)
  · have hf := (if_neg c2).symm.trans hf
    refine lv_iconst (v := 0) C.1 C.2.1 dL_counted_32 (by decide) ?_
    exact w_L_counted_j33 C hN hg0 hgN hf _ _ _ hP hS (lv_sub hl [0, 2, 3, 4, 5, 6, 7, 8] rfl)
  · have hf := (if_pos c2).symm.trans hf
    refine lv_iconst (v := (-1)) C.1 C.2.1 dL_counted_28 (by decide) ?_
    refine lv_goto (tgt := 33) C.1 C.2.1 dL_counted_29 (by decide) ?_
    exact w_L_counted_j33 C hN hg0 hgN hf _ _ _ hP hS (lv_sub hl [0, 2, 3, 4, 5, 6, 7, 8] rfl)
set_option maxHeartbeats 4000000 in
set_option maxRecDepth 100000 in
theorem c_L_counted (w : WT) (l : Launch) (hw : WOK w) {g0 : Nat} (hN : 99 ≤ wN w) (hg0 : isMa g0) (hgN : wN w = g0) {a0 : Int32} {M : Mem} {L : Lng} {out : Int32 × Mem} (hf : f_L_counted g0 a0 M = some out) : Met l yL_counted (Cond.code yL_counted cL_counted 13 (some .int) :: BG) ({ frames := 4, cells := 1, slots := 6, locals := 107 } : Room) (PRE w [.int a0, .ref (wAd w 92), .ref (wAd w 93), .ref (wAd w 94), .ref (wAd w 95), .ref (wAd w 96), .ref (wAd w 97), .ref (wAd w 98)] M L) (QI w out.1 out.2 L) 1 6 (wA w) := by
  refine kEntC hw (by decide +kernel) rfl (Nat.le_of_ble_eq_true rfl) ?_
  intro p e s m args below meth c C ls hl hP
  have hS : va_S (wA w) s.heap s.heap [] := va_S.rf
  have hl : lv_has ls 13 [(0, .int a0), (1, .ref (wAd w 92)), (2, .ref (wAd w 93)), (3, .ref (wAd w 94)), (4, .ref (wAd w 95)), (5, .ref (wAd w 96)), (6, .ref (wAd w 97)), (7, .ref (wAd w 98))] := hl
  unfold f_L_counted at hf
  refine lv_bipush (v := 6) C.1 C.2.1 dL_counted_0 (by decide) ?_
  refine k_newa (N := 6) (n := g0) C hP hS q71 hgN (fun row => ar_Ma hg0 w L row) (by decide) rfl (Nat.le_of_ble_eq_true rfl) (Nat.le_of_ble_eq_true rfl) (Nat.le_of_ble_eq_true rfl) (by rcases hg0 with rfl | rfl <;> decide) dL_counted_2 (fun q1 w1 H C X1 e1 n1 hP hS => ?_)
  refine lv_astore (lv' := [(8, .ref q1), (0, .int a0), (1, .ref (wAd w 92)), (2, .ref (wAd w 93)), (3, .ref (wAd w 94)), (4, .ref (wAd w 95)), (5, .ref (wAd w 96)), (6, .ref (wAd w 97)), (7, .ref (wAd w 98))]) C.1 C.2.1 dL_counted_4 hl (by decide) rfl (fun ls hl => ?_)
  have XX : WX w w1 := X1
  have g1 : wAd w1 g0 = q1 := e1
  have k92 : wAd w1 92 = wAd w 92 := XX.2.2.2.2.2.2 92 (C9w hw (Nat.le_of_ble_eq_true rfl))
  have k93 : wAd w1 93 = wAd w 93 := XX.2.2.2.2.2.2 93 (C9w hw (Nat.le_of_ble_eq_true rfl))
  have k94 : wAd w1 94 = wAd w 94 := XX.2.2.2.2.2.2 94 (C9w hw (Nat.le_of_ble_eq_true rfl))
  have k95 : wAd w1 95 = wAd w 95 := XX.2.2.2.2.2.2 95 (by rw [hgN]; rcases hg0 with rfl | rfl <;> exact Nat.le_of_ble_eq_true rfl)
  have k96 : wAd w1 96 = wAd w 96 := XX.2.2.2.2.2.2 96 (by rw [hgN]; rcases hg0 with rfl | rfl <;> exact Nat.le_of_ble_eq_true rfl)
  have k97 : wAd w1 97 = wAd w 97 := XX.2.2.2.2.2.2 97 (by rw [hgN]; rcases hg0 with rfl | rfl <;> exact Nat.le_of_ble_eq_true rfl)
  have k98 : wAd w1 98 = wAd w 98 := XX.2.2.2.2.2.2 98 (by rw [hgN]; rcases hg0 with rfl | rfl <;> exact Nat.le_of_ble_eq_true rfl)
  have hl : lv_has ls 13 [(8, .ref (wAd w1 g0)), (0, .int a0), (1, .ref (wAd w1 92)), (2, .ref (wAd w1 93)), (3, .ref (wAd w1 94)), (4, .ref (wAd w1 95)), (5, .ref (wAd w1 96)), (6, .ref (wAd w1 97)), (7, .ref (wAd w1 98))] := by rw [g1, k92, k93, k94, k95, k96, k97, k98]; exact hl
  refine W_mono (fun t h => MQ_down hw XX (by rcases hg0 with rfl | rfl <;> omega) h) ?_
  exact w_L_counted_j6 C (by omega) hg0 n1 hf _ _ _ hP hS (lv_sub hl [1, 2, 3, 4, 5, 6, 7, 8, 0] rfl)
theorem dL_value_0 : decode cL_value 0 = .ok (.iload_n 0, 1) := by decide +kernel
theorem dL_value_1 : decode cL_value 1 = .ok (.iconst 2, 1) := by decide +kernel
theorem dL_value_2 : decode cL_value 2 = .ok (.if_icmp .ge 29, 3) := by decide +kernel
theorem dL_value_5 : decode cL_value 5 = .ok (.iload_n 1, 1) := by decide +kernel
theorem dL_value_6 : decode cL_value 6 = .ok (.iload_n 1, 1) := by decide +kernel
theorem dL_value_7 : decode cL_value 7 = .ok (.bipush 9, 2) := by decide +kernel
theorem dL_value_9 : decode cL_value 9 = .ok (.ishr, 1) := by decide +kernel
theorem dL_value_10 : decode cL_value 10 = .ok (.iconst 3, 1) := by decide +kernel
theorem dL_value_11 : decode cL_value 11 = .ok (.invokestatic 59, 3) := by decide +kernel
theorem dL_value_14 : decode cL_value 14 = .ok (.ifCond .ne 9, 3) := by decide +kernel
theorem dL_value_17 : decode cL_value 17 = .ok (.sipush 141, 3) := by decide +kernel
theorem dL_value_20 : decode cL_value 20 = .ok (.goto 5, 3) := by decide +kernel
theorem dL_value_23 : decode cL_value 23 = .ok (.bipush 60, 2) := by decide +kernel
theorem dL_value_25 : decode cL_value 25 = .ok (.invokestatic 59, 3) := by decide +kernel
theorem dL_value_28 : decode cL_value 28 = .ok (.goto 98, 3) := by decide +kernel
theorem dL_value_31 : decode cL_value 31 = .ok (.iload_n 0, 1) := by decide +kernel
theorem dL_value_32 : decode cL_value 32 = .ok (.iconst 2, 1) := by decide +kernel
theorem dL_value_33 : decode cL_value 33 = .ok (.if_icmp .ne 12, 3) := by decide +kernel
theorem dL_value_36 : decode cL_value 36 = .ok (.iload_n 1, 1) := by decide +kernel
theorem dL_value_37 : decode cL_value 37 = .ok (.bipush 60, 2) := by decide +kernel
theorem dL_value_39 : decode cL_value 39 = .ok (.invokestatic 59, 3) := by decide +kernel
theorem dL_value_42 : decode cL_value 42 = .ok (.goto 84, 3) := by decide +kernel
theorem dL_value_45 : decode cL_value 45 = .ok (.iload_n 0, 1) := by decide +kernel
theorem dL_value_46 : decode cL_value 46 = .ok (.iconst 3, 1) := by decide +kernel
theorem dL_value_47 : decode cL_value 47 = .ok (.if_icmp .eq 9, 3) := by decide +kernel
theorem dL_value_50 : decode cL_value 50 = .ok (.iload_n 0, 1) := by decide +kernel
theorem dL_value_51 : decode cL_value 51 = .ok (.bipush 7, 2) := by decide +kernel
theorem dL_value_53 : decode cL_value 53 = .ok (.if_icmp .ne 12, 3) := by decide +kernel
theorem dL_value_56 : decode cL_value 56 = .ok (.iload_n 1, 1) := by decide +kernel
theorem dL_value_57 : decode cL_value 57 = .ok (.bipush 61, 2) := by decide +kernel
theorem dL_value_59 : decode cL_value 59 = .ok (.invokestatic 59, 3) := by decide +kernel
theorem dL_value_62 : decode cL_value 62 = .ok (.goto 64, 3) := by decide +kernel
theorem dL_value_65 : decode cL_value 65 = .ok (.iload_n 0, 1) := by decide +kernel
theorem dL_value_66 : decode cL_value 66 = .ok (.iconst 4, 1) := by decide +kernel
theorem dL_value_67 : decode cL_value 67 = .ok (.if_icmp .ne 14, 3) := by decide +kernel
theorem dL_value_70 : decode cL_value 70 = .ok (.iconst 1, 1) := by decide +kernel
theorem dL_value_71 : decode cL_value 71 = .ok (.iload_n 1, 1) := by decide +kernel
theorem dL_value_72 : decode cL_value 72 = .ok (.bipush 41, 2) := by decide +kernel
theorem dL_value_74 : decode cL_value 74 = .ok (.invokestatic 59, 3) := by decide +kernel
theorem dL_value_77 : decode cL_value 77 = .ok (.iadd, 1) := by decide +kernel
theorem dL_value_78 : decode cL_value 78 = .ok (.goto 48, 3) := by decide +kernel
theorem dL_value_81 : decode cL_value 81 = .ok (.iload_n 0, 1) := by decide +kernel
theorem dL_value_82 : decode cL_value 82 = .ok (.iconst 5, 1) := by decide +kernel
theorem dL_value_83 : decode cL_value 83 = .ok (.if_icmp .ne 12, 3) := by decide +kernel
theorem dL_value_86 : decode cL_value 86 = .ok (.iload_n 1, 1) := by decide +kernel
theorem dL_value_87 : decode cL_value 87 = .ok (.bipush 21, 2) := by decide +kernel
theorem dL_value_89 : decode cL_value 89 = .ok (.invokestatic 59, 3) := by decide +kernel
theorem dL_value_92 : decode cL_value 92 = .ok (.goto 34, 3) := by decide +kernel
theorem dL_value_95 : decode cL_value 95 = .ok (.iload_n 0, 1) := by decide +kernel
theorem dL_value_96 : decode cL_value 96 = .ok (.bipush 6, 2) := by decide +kernel
theorem dL_value_98 : decode cL_value 98 = .ok (.if_icmp .eq 9, 3) := by decide +kernel
theorem dL_value_101 : decode cL_value 101 = .ok (.iload_n 0, 1) := by decide +kernel
theorem dL_value_102 : decode cL_value 102 = .ok (.bipush 8, 2) := by decide +kernel
theorem dL_value_104 : decode cL_value 104 = .ok (.if_icmp .ne 14, 3) := by decide +kernel
theorem dL_value_107 : decode cL_value 107 = .ok (.iconst 1, 1) := by decide +kernel
theorem dL_value_108 : decode cL_value 108 = .ok (.iload_n 1, 1) := by decide +kernel
theorem dL_value_109 : decode cL_value 109 = .ok (.bipush 20, 2) := by decide +kernel
theorem dL_value_111 : decode cL_value 111 = .ok (.invokestatic 59, 3) := by decide +kernel
theorem dL_value_114 : decode cL_value 114 = .ok (.iadd, 1) := by decide +kernel
theorem dL_value_115 : decode cL_value 115 = .ok (.goto 11, 3) := by decide +kernel
theorem dL_value_118 : decode cL_value 118 = .ok (.iconst 1, 1) := by decide +kernel
theorem dL_value_119 : decode cL_value 119 = .ok (.iload_n 1, 1) := by decide +kernel
theorem dL_value_120 : decode cL_value 120 = .ok (.bipush 50, 2) := by decide +kernel
theorem dL_value_122 : decode cL_value 122 = .ok (.invokestatic 59, 3) := by decide +kernel
theorem dL_value_125 : decode cL_value 125 = .ok (.iadd, 1) := by decide +kernel
theorem dL_value_126 : decode cL_value 126 = .ok (.ireturn, 1) := by decide +kernel
set_option maxHeartbeats 4000000 in
set_option maxRecDepth 100000 in
theorem w_L_value_j56 {w : WT} {l : Launch} {p : Program} {e : Env} {s : State} {m : MethodId} {args : Array Value} {below : List Frame} {meth : Method} {c : Code} (C : KC w p s m args meth c cL_value 2 RL (some .int)) {v1 : Int32} {M : Mem} {L : Lng} {out : Int32} (hf : f_L_value_j56 v1 M = some out) : AtL w p l e ({ frames := 1, cells := 0, slots := 0, locals := 21 } : Room) s m args below meth c (MQ below (QI w out M L) args s 0 0 (wA w)) 2 56 M L [(1, .int v1)] [] := by
  intro H locs ls hP hS hl
  unfold f_L_value_j56 at hf
  refine lv_iload_n C.1 C.2.1 dL_value_56 rfl (lv_at hl 0 rfl) ?_
  refine lv_bipush (v := 61) C.1 C.2.1 dL_value_57 (by decide) ?_
  obtain ⟨r4, hr4, hf⟩ := ob hf
  refine kci (kS (As := [.int v1, .int 61]) (rest := []) C hl.1 hP hS (c_L_at w l C.2.2.2.2.2.2.2.2 (L := L) hr4) (gS q384 q385 q0 q386) hd_L_at ⟨rfl, rfl⟩ ⟨Nat.le_of_ble_eq_true rfl, Nat.le_of_ble_eq_true rfl⟩ rfl rfl (Nat.le_of_ble_eq_true rfl) dL_value_59 ⟨Nat.zero_le _, Nat.zero_le _⟩) hS (fun H locs hP hS => ?_)
  refine lv_goto (tgt := 126) C.1 C.2.1 dL_value_62 (by decide) ?_
  cases hf
  exact kri C hP hS dL_value_126
set_option maxHeartbeats 4000000 in
set_option maxRecDepth 100000 in
theorem w_L_value_j107 {w : WT} {l : Launch} {p : Program} {e : Env} {s : State} {m : MethodId} {args : Array Value} {below : List Frame} {meth : Method} {c : Code} (C : KC w p s m args meth c cL_value 2 RL (some .int)) {v1 : Int32} {M : Mem} {L : Lng} {out : Int32} (hf : f_L_value_j107 v1 M = some out) : AtL w p l e ({ frames := 1, cells := 0, slots := 0, locals := 21 } : Room) s m args below meth c (MQ below (QI w out M L) args s 0 0 (wA w)) 2 107 M L [(1, .int v1)] [] := by
  intro H locs ls hP hS hl
  unfold f_L_value_j107 at hf
  refine lv_iconst (v := 1) C.1 C.2.1 dL_value_107 (by decide) ?_
  refine lv_iload_n C.1 C.2.1 dL_value_108 rfl (lv_at hl 0 rfl) ?_
  refine lv_bipush (v := 20) C.1 C.2.1 dL_value_109 (by decide) ?_
  obtain ⟨r9, hr9, hf⟩ := ob hf
  refine kci (kS (As := [.int v1, .int 20]) (rest := [.int 1]) C hl.1 hP hS (c_L_at w l C.2.2.2.2.2.2.2.2 (L := L) hr9) (gS q384 q385 q0 q386) hd_L_at ⟨rfl, rfl⟩ ⟨Nat.le_of_ble_eq_true rfl, Nat.le_of_ble_eq_true rfl⟩ rfl rfl (Nat.le_of_ble_eq_true rfl) dL_value_111 ⟨Nat.zero_le _, Nat.zero_le _⟩) hS (fun H locs hP hS => ?_)
  refine lv_iadd C.1 C.2.1 dL_value_114 ?_
  refine lv_goto (tgt := 126) C.1 C.2.1 dL_value_115 (by decide) ?_
  cases hf
  exact kri C hP hS dL_value_126
set_option maxHeartbeats 4000000 in
set_option maxRecDepth 100000 in
theorem w_L_value_j25 {w : WT} {l : Launch} {p : Program} {e : Env} {s : State} {m : MethodId} {args : Array Value} {below : List Frame} {meth : Method} {c : Code} (C : KC w p s m args meth c cL_value 2 RL (some .int)) {s0 : Int32} {s1 : Int32} {M : Mem} {L : Lng} {out : Int32} (hf : f_L_value_j25 s0 s1 M = some out) : AtL w p l e ({ frames := 1, cells := 0, slots := 0, locals := 21 } : Room) s m args below meth c (MQ below (QI w out M L) args s 0 0 (wA w)) 2 25 M L [] [.int s1, .int s0] := by
  intro H locs ls hP hS hl
  unfold f_L_value_j25 at hf
  obtain ⟨r17, hr17, hf⟩ := ob hf
  refine kci (kS (As := [.int s0, .int s1]) (rest := []) C hl.1 hP hS (c_L_at w l C.2.2.2.2.2.2.2.2 (L := L) hr17) (gS q384 q385 q0 q386) hd_L_at ⟨rfl, rfl⟩ ⟨Nat.le_of_ble_eq_true rfl, Nat.le_of_ble_eq_true rfl⟩ rfl rfl (Nat.le_of_ble_eq_true rfl) dL_value_25 ⟨Nat.zero_le _, Nat.zero_le _⟩) hS (fun H locs hP hS => ?_)
  refine lv_goto (tgt := 126) C.1 C.2.1 dL_value_28 (by decide) ?_
  cases hf
  exact kri C hP hS dL_value_126
set_option maxHeartbeats 4000000 in
set_option maxRecDepth 100000 in
theorem c_L_value (w : WT) (l : Launch) (hw : WOK w) {a0 : Int32} {a1 : Int32} {M : Mem} {L : Lng} {out : Int32} (hf : f_L_value a0 a1 M = some out) : Met l yL_value (Cond.code yL_value cL_value 2 (some .int) :: BG) ({ frames := 1, cells := 0, slots := 0, locals := 21 } : Room) (PRE w [.int a0, .int a1] M L) (QI w out M L) 0 0 (wA w) := by
  refine kEnt hw (by decide +kernel) rfl (Nat.le_of_ble_eq_true rfl) ?_
  intro p e s m args below meth c C ls hl hP
  have hS : va_S (wA w) s.heap s.heap [] := va_S.rf
  have hl : lv_has ls 2 [(0, .int a0), (1, .int a1)] := hl
  unfold f_L_value at hf
  refine lv_iload_n C.1 C.2.1 dL_value_0 rfl (lv_at hl 0 rfl) ?_
  refine lv_iconst (v := 2) C.1 C.2.1 dL_value_1 (by decide) ?_
  refine lv_icmp_ge (tgt := 31) C.1 C.2.1 dL_value_2 (by decide) (fun c1 => ?_) (fun c1 => ?_)
  · have hf := (if_pos c1).symm.trans hf
    refine lv_iload_n C.1 C.2.1 dL_value_31 rfl (lv_at hl 0 rfl) ?_
    refine lv_iconst (v := 2) C.1 C.2.1 dL_value_32 (by decide) ?_
    refine lv_icmp_ne (tgt := 45) C.1 C.2.1 dL_value_33 (by decide) (fun c2 => ?_) (fun c2 => ?_)
    · have hf := (if_neg c2).symm.trans hf
      refine lv_iload_n C.1 C.2.1 dL_value_45 rfl (lv_at hl 0 rfl) ?_
      refine lv_iconst (v := 3) C.1 C.2.1 dL_value_46 (by decide) ?_
      refine lv_icmp_eq (tgt := 56) C.1 C.2.1 dL_value_47 (by decide) (fun c3 => ?_) (fun c3 => ?_)
      · have hf := (if_pos c3).symm.trans hf
        exact w_L_value_j56 C hf _ _ _ hP hS (lv_sub hl [1] rfl)
      · have hf := (if_neg c3).symm.trans hf
        refine lv_iload_n C.1 C.2.1 dL_value_50 rfl (lv_at hl 0 rfl) ?_
        refine lv_bipush (v := 7) C.1 C.2.1 dL_value_51 (by decide) ?_
        refine lv_icmp_ne (tgt := 65) C.1 C.2.1 dL_value_53 (by decide) (fun c5 => ?_) (fun c5 => ?_)
        · have hf := (if_neg c5).symm.trans hf
          refine lv_iload_n C.1 C.2.1 dL_value_65 rfl (lv_at hl 0 rfl) ?_
          refine lv_iconst (v := 4) C.1 C.2.1 dL_value_66 (by decide) ?_
          refine lv_icmp_ne (tgt := 81) C.1 C.2.1 dL_value_67 (by decide) (fun c6 => ?_) (fun c6 => ?_)
          · have hf := (if_neg c6).symm.trans hf
            refine lv_iload_n C.1 C.2.1 dL_value_81 rfl (lv_at hl 0 rfl) ?_
            refine lv_iconst (v := 5) C.1 C.2.1 dL_value_82 (by decide) ?_
            refine lv_icmp_ne (tgt := 95) C.1 C.2.1 dL_value_83 (by decide) (fun c7 => ?_) (fun c7 => ?_)
            · have hf := (if_neg c7).symm.trans hf
              refine lv_iload_n C.1 C.2.1 dL_value_95 rfl (lv_at hl 0 rfl) ?_
              refine lv_bipush (v := 6) C.1 C.2.1 dL_value_96 (by decide) ?_
              refine lv_icmp_eq (tgt := 107) C.1 C.2.1 dL_value_98 (by decide) (fun c8 => ?_) (fun c8 => ?_)
              · have hf := (if_pos c8).symm.trans hf
                exact w_L_value_j107 C hf _ _ _ hP hS (lv_sub hl [1] rfl)
              · have hf := (if_neg c8).symm.trans hf
                refine lv_iload_n C.1 C.2.1 dL_value_101 rfl (lv_at hl 0 rfl) ?_
                refine lv_bipush (v := 8) C.1 C.2.1 dL_value_102 (by decide) ?_
                refine lv_icmp_ne (tgt := 118) C.1 C.2.1 dL_value_104 (by decide) (fun c10 => ?_) (fun c10 => ?_)
                · have hf := (if_neg c10).symm.trans hf
                  refine lv_iconst (v := 1) C.1 C.2.1 dL_value_118 (by decide) ?_
                  refine lv_iload_n C.1 C.2.1 dL_value_119 rfl (lv_at hl 1 rfl) ?_
                  refine lv_bipush (v := 50) C.1 C.2.1 dL_value_120 (by decide) ?_
                  obtain ⟨r11, hr11, hf⟩ := ob hf
                  refine kci (kS (As := [.int a1, .int 50]) (rest := [.int 1]) C hl.1 hP hS (c_L_at w l C.2.2.2.2.2.2.2.2 (L := L) hr11) (gS q384 q385 q0 q386) hd_L_at ⟨rfl, rfl⟩ ⟨Nat.le_of_ble_eq_true rfl, Nat.le_of_ble_eq_true rfl⟩ rfl rfl (Nat.le_of_ble_eq_true rfl) dL_value_122 ⟨Nat.zero_le _, Nat.zero_le _⟩) hS (fun H locs hP hS => ?_)
                  refine lv_iadd C.1 C.2.1 dL_value_125 ?_
                  cases hf
                  exact kri C hP hS dL_value_126
                · have hf := (if_pos c10).symm.trans hf
                  exact w_L_value_j107 C hf _ _ _ hP hS (lv_sub hl [1] rfl)
            · have hf := (if_pos c7).symm.trans hf
              refine lv_iload_n C.1 C.2.1 dL_value_86 rfl (lv_at hl 1 rfl) ?_
              refine lv_bipush (v := 21) C.1 C.2.1 dL_value_87 (by decide) ?_
              obtain ⟨r12, hr12, hf⟩ := ob hf
              refine kci (kS (As := [.int a1, .int 21]) (rest := []) C hl.1 hP hS (c_L_at w l C.2.2.2.2.2.2.2.2 (L := L) hr12) (gS q384 q385 q0 q386) hd_L_at ⟨rfl, rfl⟩ ⟨Nat.le_of_ble_eq_true rfl, Nat.le_of_ble_eq_true rfl⟩ rfl rfl (Nat.le_of_ble_eq_true rfl) dL_value_89 ⟨Nat.zero_le _, Nat.zero_le _⟩) hS (fun H locs hP hS => ?_)
              refine lv_goto (tgt := 126) C.1 C.2.1 dL_value_92 (by decide) ?_
              cases hf
              exact kri C hP hS dL_value_126
          · have hf := (if_pos c6).symm.trans hf
            refine lv_iconst (v := 1) C.1 C.2.1 dL_value_70 (by decide) ?_
            refine lv_iload_n C.1 C.2.1 dL_value_71 rfl (lv_at hl 1 rfl) ?_
            refine lv_bipush (v := 41) C.1 C.2.1 dL_value_72 (by decide) ?_
            obtain ⟨r13, hr13, hf⟩ := ob hf
            refine kci (kS (As := [.int a1, .int 41]) (rest := [.int 1]) C hl.1 hP hS (c_L_at w l C.2.2.2.2.2.2.2.2 (L := L) hr13) (gS q384 q385 q0 q386) hd_L_at ⟨rfl, rfl⟩ ⟨Nat.le_of_ble_eq_true rfl, Nat.le_of_ble_eq_true rfl⟩ rfl rfl (Nat.le_of_ble_eq_true rfl) dL_value_74 ⟨Nat.zero_le _, Nat.zero_le _⟩) hS (fun H locs hP hS => ?_)
            refine lv_iadd C.1 C.2.1 dL_value_77 ?_
            refine lv_goto (tgt := 126) C.1 C.2.1 dL_value_78 (by decide) ?_
            cases hf
            exact kri C hP hS dL_value_126
        · have hf := (if_pos c5).symm.trans hf
          exact w_L_value_j56 C hf _ _ _ hP hS (lv_sub hl [1] rfl)
    · have hf := (if_pos c2).symm.trans hf
      refine lv_iload_n C.1 C.2.1 dL_value_36 rfl (lv_at hl 1 rfl) ?_
      refine lv_bipush (v := 60) C.1 C.2.1 dL_value_37 (by decide) ?_
      obtain ⟨r14, hr14, hf⟩ := ob hf
      refine kci (kS (As := [.int a1, .int 60]) (rest := []) C hl.1 hP hS (c_L_at w l C.2.2.2.2.2.2.2.2 (L := L) hr14) (gS q384 q385 q0 q386) hd_L_at ⟨rfl, rfl⟩ ⟨Nat.le_of_ble_eq_true rfl, Nat.le_of_ble_eq_true rfl⟩ rfl rfl (Nat.le_of_ble_eq_true rfl) dL_value_39 ⟨Nat.zero_le _, Nat.zero_le _⟩) hS (fun H locs hP hS => ?_)
      refine lv_goto (tgt := 126) C.1 C.2.1 dL_value_42 (by decide) ?_
      cases hf
      exact kri C hP hS dL_value_126
  · have hf := (if_neg c1).symm.trans hf
    refine lv_iload_n C.1 C.2.1 dL_value_5 rfl (lv_at hl 1 rfl) ?_
    refine lv_iload_n C.1 C.2.1 dL_value_6 rfl (lv_at hl 1 rfl) ?_
    refine lv_bipush (v := 9) C.1 C.2.1 dL_value_7 (by decide) ?_
    refine lv_ishr C.1 C.2.1 dL_value_9 ?_
    refine lv_iconst (v := 3) C.1 C.2.1 dL_value_10 (by decide) ?_
    obtain ⟨r15, hr15, hf⟩ := ob hf
    refine kci (kS (As := [.int (a1 >>> (9 &&& 31)), .int 3]) (rest := [.int a1]) C hl.1 hP hS (c_L_at w l C.2.2.2.2.2.2.2.2 (L := L) hr15) (gS q384 q385 q0 q386) hd_L_at ⟨rfl, rfl⟩ ⟨Nat.le_of_ble_eq_true rfl, Nat.le_of_ble_eq_true rfl⟩ rfl rfl (Nat.le_of_ble_eq_true rfl) dL_value_11 ⟨Nat.zero_le _, Nat.zero_le _⟩) hS (fun H locs hP hS => ?_)
    refine lv_if_ne (tgt := 23) C.1 C.2.1 dL_value_14 (by decide) (fun c16 => ?_) (fun c16 => ?_)
    · have hf := (if_neg c16).symm.trans hf
      refine lv_bipush (v := 60) C.1 C.2.1 dL_value_23 (by decide) ?_
      exact w_L_value_j25 C hf _ _ _ hP hS (lv_sub hl [] rfl)
    · have hf := (if_pos c16).symm.trans hf
      refine lv_sipush (v := 141) C.1 C.2.1 dL_value_17 (by decide) ?_
      refine lv_goto (tgt := 25) C.1 C.2.1 dL_value_20 (by decide) ?_
      exact w_L_value_j25 C hf _ _ _ hP hS (lv_sub hl [] rfl)
theorem dL_told_0 : decode cL_told 0 = .ok (.bipush 60, 2) := by decide +kernel
theorem dL_told_2 : decode cL_told 2 = .ok (.newarray .int, 2) := by decide +kernel
theorem dL_told_4 : decode cL_told 4 = .ok (.astore 7, 2) := by decide +kernel
theorem dL_told_6 : decode cL_told 6 = .ok (.bipush 60, 2) := by decide +kernel
theorem dL_told_8 : decode cL_told 8 = .ok (.newarray .int, 2) := by decide +kernel
theorem dL_told_10 : decode cL_told 10 = .ok (.astore 8, 2) := by decide +kernel
theorem dL_told_12 : decode cL_told 12 = .ok (.bipush 60, 2) := by decide +kernel
theorem dL_told_14 : decode cL_told 14 = .ok (.newarray .int, 2) := by decide +kernel
theorem dL_told_16 : decode cL_told 16 = .ok (.astore 9, 2) := by decide +kernel
theorem dL_told_18 : decode cL_told 18 = .ok (.bipush 60, 2) := by decide +kernel
theorem dL_told_20 : decode cL_told 20 = .ok (.newarray .int, 2) := by decide +kernel
theorem dL_told_22 : decode cL_told 22 = .ok (.astore 10, 2) := by decide +kernel
theorem dL_told_24 : decode cL_told 24 = .ok (.bipush 6, 2) := by decide +kernel
theorem dL_told_26 : decode cL_told 26 = .ok (.newarray .int, 2) := by decide +kernel
theorem dL_told_28 : decode cL_told 28 = .ok (.astore 11, 2) := by decide +kernel
theorem dL_told_30 : decode cL_told 30 = .ok (.aload_n 2, 1) := by decide +kernel
theorem dL_told_31 : decode cL_told 31 = .ok (.aload_n 3, 1) := by decide +kernel
theorem dL_told_32 : decode cL_told 32 = .ok (.aload 5, 2) := by decide +kernel
theorem dL_told_34 : decode cL_told 34 = .ok (.aload 6, 2) := by decide +kernel
theorem dL_told_36 : decode cL_told 36 = .ok (.aload 7, 2) := by decide +kernel
theorem dL_told_38 : decode cL_told 38 = .ok (.aload 8, 2) := by decide +kernel
theorem dL_told_40 : decode cL_told 40 = .ok (.aload 9, 2) := by decide +kernel
theorem dL_told_42 : decode cL_told 42 = .ok (.aload 10, 2) := by decide +kernel
theorem dL_told_44 : decode cL_told 44 = .ok (.invokestatic 33, 3) := by decide +kernel
theorem dL_told_47 : decode cL_told 47 = .ok (.aload 4, 2) := by decide +kernel
theorem dL_told_49 : decode cL_told 49 = .ok (.aload 11, 2) := by decide +kernel
theorem dL_told_51 : decode cL_told 51 = .ok (.aload 5, 2) := by decide +kernel
theorem dL_told_53 : decode cL_told 53 = .ok (.aload 6, 2) := by decide +kernel
theorem dL_told_55 : decode cL_told 55 = .ok (.aload 7, 2) := by decide +kernel
theorem dL_told_57 : decode cL_told 57 = .ok (.aload 8, 2) := by decide +kernel
theorem dL_told_59 : decode cL_told 59 = .ok (.aload 9, 2) := by decide +kernel
theorem dL_told_61 : decode cL_told 61 = .ok (.aload 10, 2) := by decide +kernel
theorem dL_told_63 : decode cL_told 63 = .ok (.invokestatic 22, 3) := by decide +kernel
theorem dL_told_66 : decode cL_told 66 = .ok (.iconst 0, 1) := by decide +kernel
theorem dL_told_67 : decode cL_told 67 = .ok (.istore 12, 2) := by decide +kernel
theorem dL_told_69 : decode cL_told 69 = .ok (.iload 12, 2) := by decide +kernel
theorem dL_told_71 : decode cL_told 71 = .ok (.aload 5, 2) := by decide +kernel
theorem dL_told_73 : decode cL_told 73 = .ok (.iconst 0, 1) := by decide +kernel
theorem dL_told_74 : decode cL_told 74 = .ok (.iaload, 1) := by decide +kernel
theorem dL_told_75 : decode cL_told 75 = .ok (.if_icmp .ge 297, 3) := by decide +kernel
theorem dL_told_78 : decode cL_told 78 = .ok (.aload_n 0, 1) := by decide +kernel
theorem dL_told_79 : decode cL_told 79 = .ok (.iload 12, 2) := by decide +kernel
theorem dL_told_81 : decode cL_told 81 = .ok (.iconst 0, 1) := by decide +kernel
theorem dL_told_82 : decode cL_told 82 = .ok (.invokevirtual 36, 3) := by decide +kernel
theorem dL_told_85 : decode cL_told 85 = .ok (.aload_n 2, 1) := by decide +kernel
theorem dL_told_86 : decode cL_told 86 = .ok (.iload 12, 2) := by decide +kernel
theorem dL_told_88 : decode cL_told 88 = .ok (.iaload, 1) := by decide +kernel
theorem dL_told_89 : decode cL_told 89 = .ok (.if_icmp .ne 138, 3) := by decide +kernel
theorem dL_told_92 : decode cL_told 92 = .ok (.aload_n 0, 1) := by decide +kernel
theorem dL_told_93 : decode cL_told 93 = .ok (.iload 12, 2) := by decide +kernel
theorem dL_told_95 : decode cL_told 95 = .ok (.iconst 1, 1) := by decide +kernel
theorem dL_told_96 : decode cL_told 96 = .ok (.invokevirtual 36, 3) := by decide +kernel
theorem dL_told_99 : decode cL_told 99 = .ok (.aload_n 3, 1) := by decide +kernel
theorem dL_told_100 : decode cL_told 100 = .ok (.iload 12, 2) := by decide +kernel
theorem dL_told_102 : decode cL_told 102 = .ok (.iaload, 1) := by decide +kernel
theorem dL_told_103 : decode cL_told 103 = .ok (.if_icmp .ne 124, 3) := by decide +kernel
theorem dL_told_106 : decode cL_told 106 = .ok (.aload_n 0, 1) := by decide +kernel
theorem dL_told_107 : decode cL_told 107 = .ok (.iload 12, 2) := by decide +kernel
theorem dL_told_109 : decode cL_told 109 = .ok (.iconst 2, 1) := by decide +kernel
theorem dL_told_110 : decode cL_told 110 = .ok (.invokevirtual 36, 3) := by decide +kernel
theorem dL_told_113 : decode cL_told 113 = .ok (.aload 7, 2) := by decide +kernel
theorem dL_told_115 : decode cL_told 115 = .ok (.iload 12, 2) := by decide +kernel
theorem dL_told_117 : decode cL_told 117 = .ok (.iaload, 1) := by decide +kernel
theorem dL_told_118 : decode cL_told 118 = .ok (.if_icmp .ne 109, 3) := by decide +kernel
theorem dL_told_121 : decode cL_told 121 = .ok (.aload_n 0, 1) := by decide +kernel
theorem dL_told_122 : decode cL_told 122 = .ok (.iload 12, 2) := by decide +kernel
theorem dL_told_124 : decode cL_told 124 = .ok (.iconst 3, 1) := by decide +kernel
theorem dL_told_125 : decode cL_told 125 = .ok (.invokevirtual 36, 3) := by decide +kernel
theorem dL_told_128 : decode cL_told 128 = .ok (.aload 8, 2) := by decide +kernel
theorem dL_told_130 : decode cL_told 130 = .ok (.iload 12, 2) := by decide +kernel
theorem dL_told_132 : decode cL_told 132 = .ok (.iaload, 1) := by decide +kernel
theorem dL_told_133 : decode cL_told 133 = .ok (.if_icmp .ne 94, 3) := by decide +kernel
theorem dL_told_136 : decode cL_told 136 = .ok (.aload_n 0, 1) := by decide +kernel
theorem dL_told_137 : decode cL_told 137 = .ok (.iload 12, 2) := by decide +kernel
theorem dL_told_139 : decode cL_told 139 = .ok (.iconst 4, 1) := by decide +kernel
theorem dL_told_140 : decode cL_told 140 = .ok (.invokevirtual 36, 3) := by decide +kernel
theorem dL_told_143 : decode cL_told 143 = .ok (.iload 12, 2) := by decide +kernel
theorem dL_told_145 : decode cL_told 145 = .ok (.aload 6, 2) := by decide +kernel
theorem dL_told_147 : decode cL_told 147 = .ok (.invokestatic 8, 3) := by decide +kernel
theorem dL_told_150 : decode cL_told 150 = .ok (.if_icmp .ne 77, 3) := by decide +kernel
theorem dL_told_153 : decode cL_told 153 = .ok (.aload_n 0, 1) := by decide +kernel
theorem dL_told_154 : decode cL_told 154 = .ok (.iload 12, 2) := by decide +kernel
theorem dL_told_156 : decode cL_told 156 = .ok (.iconst 5, 1) := by decide +kernel
theorem dL_told_157 : decode cL_told 157 = .ok (.invokevirtual 36, 3) := by decide +kernel
theorem dL_told_160 : decode cL_told 160 = .ok (.iload 12, 2) := by decide +kernel
theorem dL_told_162 : decode cL_told 162 = .ok (.aload 6, 2) := by decide +kernel
theorem dL_told_164 : decode cL_told 164 = .ok (.invokestatic 14, 3) := by decide +kernel
theorem dL_told_167 : decode cL_told 167 = .ok (.ifCond .eq 7, 3) := by decide +kernel
theorem dL_told_170 : decode cL_told 170 = .ok (.iconst 1, 1) := by decide +kernel
theorem dL_told_171 : decode cL_told 171 = .ok (.goto 4, 3) := by decide +kernel
theorem dL_told_174 : decode cL_told 174 = .ok (.iconst 0, 1) := by decide +kernel
theorem dL_told_175 : decode cL_told 175 = .ok (.if_icmp .ne 52, 3) := by decide +kernel
theorem dL_told_178 : decode cL_told 178 = .ok (.aload_n 0, 1) := by decide +kernel
theorem dL_told_179 : decode cL_told 179 = .ok (.iload 12, 2) := by decide +kernel
theorem dL_told_181 : decode cL_told 181 = .ok (.bipush 6, 2) := by decide +kernel
theorem dL_told_183 : decode cL_told 183 = .ok (.invokevirtual 36, 3) := by decide +kernel
theorem dL_told_186 : decode cL_told 186 = .ok (.aload 9, 2) := by decide +kernel
theorem dL_told_188 : decode cL_told 188 = .ok (.iload 12, 2) := by decide +kernel
theorem dL_told_190 : decode cL_told 190 = .ok (.iaload, 1) := by decide +kernel
theorem dL_told_191 : decode cL_told 191 = .ok (.if_icmp .ne 36, 3) := by decide +kernel
theorem dL_told_194 : decode cL_told 194 = .ok (.aload_n 0, 1) := by decide +kernel
theorem dL_told_195 : decode cL_told 195 = .ok (.iload 12, 2) := by decide +kernel
theorem dL_told_197 : decode cL_told 197 = .ok (.bipush 7, 2) := by decide +kernel
theorem dL_told_199 : decode cL_told 199 = .ok (.invokevirtual 36, 3) := by decide +kernel
theorem dL_told_202 : decode cL_told 202 = .ok (.aload 10, 2) := by decide +kernel
theorem dL_told_204 : decode cL_told 204 = .ok (.iload 12, 2) := by decide +kernel
theorem dL_told_206 : decode cL_told 206 = .ok (.iaload, 1) := by decide +kernel
theorem dL_told_207 : decode cL_told 207 = .ok (.ifCond .ge 7, 3) := by decide +kernel
theorem dL_told_210 : decode cL_told 210 = .ok (.iconst (-1), 1) := by decide +kernel
theorem dL_told_211 : decode cL_told 211 = .ok (.goto 13, 3) := by decide +kernel
theorem dL_told_214 : decode cL_told 214 = .ok (.aload 10, 2) := by decide +kernel
theorem dL_told_216 : decode cL_told 216 = .ok (.iload 12, 2) := by decide +kernel
theorem dL_told_218 : decode cL_told 218 = .ok (.iaload, 1) := by decide +kernel
theorem dL_told_219 : decode cL_told 219 = .ok (.aload 10, 2) := by decide +kernel
theorem dL_told_221 : decode cL_told 221 = .ok (.invokestatic 26, 3) := by decide +kernel
theorem dL_told_224 : decode cL_told 224 = .ok (.if_icmp .eq 5, 3) := by decide +kernel
theorem dL_told_227 : decode cL_told 227 = .ok (.iconst 0, 1) := by decide +kernel
theorem dL_told_228 : decode cL_told 228 = .ok (.ireturn, 1) := by decide +kernel
theorem dL_told_229 : decode cL_told 229 = .ok (.aload 10, 2) := by decide +kernel
theorem dL_told_231 : decode cL_told 231 = .ok (.iload 12, 2) := by decide +kernel
theorem dL_told_233 : decode cL_told 233 = .ok (.iaload, 1) := by decide +kernel
theorem dL_told_234 : decode cL_told 234 = .ok (.iload 12, 2) := by decide +kernel
theorem dL_told_236 : decode cL_told 236 = .ok (.if_icmp .eq 6, 3) := by decide +kernel
theorem dL_told_239 : decode cL_told 239 = .ok (.goto 127, 3) := by decide +kernel
theorem dL_told_242 : decode cL_told 242 = .ok (.iload 12, 2) := by decide +kernel
theorem dL_told_244 : decode cL_told 244 = .ok (.aload 10, 2) := by decide +kernel
theorem dL_told_246 : decode cL_told 246 = .ok (.invokestatic 26, 3) := by decide +kernel
theorem dL_told_249 : decode cL_told 249 = .ok (.istore 13, 2) := by decide +kernel
theorem dL_told_251 : decode cL_told 251 = .ok (.iconst (-1), 1) := by decide +kernel
theorem dL_told_252 : decode cL_told 252 = .ok (.istore 14, 2) := by decide +kernel
theorem dL_told_254 : decode cL_told 254 = .ok (.iconst 0, 1) := by decide +kernel
theorem dL_told_255 : decode cL_told 255 = .ok (.istore 15, 2) := by decide +kernel
theorem dL_told_257 : decode cL_told 257 = .ok (.iload 15, 2) := by decide +kernel
theorem dL_told_259 : decode cL_told 259 = .ok (.aload 5, 2) := by decide +kernel
theorem dL_told_261 : decode cL_told 261 = .ok (.iconst 1, 1) := by decide +kernel
theorem dL_told_262 : decode cL_told 262 = .ok (.iaload, 1) := by decide +kernel
theorem dL_told_263 : decode cL_told 263 = .ok (.if_icmp .ge 28, 3) := by decide +kernel
theorem dL_told_266 : decode cL_told 266 = .ok (.aload 11, 2) := by decide +kernel
theorem dL_told_268 : decode cL_told 268 = .ok (.iload 15, 2) := by decide +kernel
theorem dL_told_270 : decode cL_told 270 = .ok (.iaload, 1) := by decide +kernel
theorem dL_told_271 : decode cL_told 271 = .ok (.iload 12, 2) := by decide +kernel
theorem dL_told_273 : decode cL_told 273 = .ok (.if_icmp .ne 8, 3) := by decide +kernel
theorem dL_told_276 : decode cL_told 276 = .ok (.iload 15, 2) := by decide +kernel
theorem dL_told_278 : decode cL_told 278 = .ok (.goto 5, 3) := by decide +kernel
theorem dL_told_281 : decode cL_told 281 = .ok (.iload 14, 2) := by decide +kernel
theorem dL_told_283 : decode cL_told 283 = .ok (.istore 14, 2) := by decide +kernel
theorem dL_told_285 : decode cL_told 285 = .ok (.iinc 15 1, 3) := by decide +kernel
theorem dL_told_288 : decode cL_told 288 = .ok (.goto (-31), 3) := by decide +kernel
theorem dL_told_291 : decode cL_told 291 = .ok (.aload_n 0, 1) := by decide +kernel
theorem dL_told_292 : decode cL_told 292 = .ok (.iload 13, 2) := by decide +kernel
theorem dL_told_294 : decode cL_told 294 = .ok (.iconst 0, 1) := by decide +kernel
theorem dL_told_295 : decode cL_told 295 = .ok (.invokevirtual 42, 3) := by decide +kernel
theorem dL_told_298 : decode cL_told 298 = .ok (.iload 12, 2) := by decide +kernel
theorem dL_told_300 : decode cL_told 300 = .ok (.if_icmp .ne 15, 3) := by decide +kernel
theorem dL_told_303 : decode cL_told 303 = .ok (.aload_n 0, 1) := by decide +kernel
theorem dL_told_304 : decode cL_told 304 = .ok (.iload 13, 2) := by decide +kernel
theorem dL_told_306 : decode cL_told 306 = .ok (.iconst 5, 1) := by decide +kernel
theorem dL_told_307 : decode cL_told 307 = .ok (.invokevirtual 42, 3) := by decide +kernel
theorem dL_told_310 : decode cL_told 310 = .ok (.iload 14, 2) := by decide +kernel
theorem dL_told_312 : decode cL_told 312 = .ok (.if_icmp .eq 5, 3) := by decide +kernel
theorem dL_told_315 : decode cL_told 315 = .ok (.iconst 0, 1) := by decide +kernel
theorem dL_told_316 : decode cL_told 316 = .ok (.ireturn, 1) := by decide +kernel
theorem dL_told_317 : decode cL_told 317 = .ok (.iconst 0, 1) := by decide +kernel
theorem dL_told_318 : decode cL_told 318 = .ok (.istore 15, 2) := by decide +kernel
theorem dL_told_320 : decode cL_told 320 = .ok (.iload 15, 2) := by decide +kernel
theorem dL_told_322 : decode cL_told 322 = .ok (.iconst 4, 1) := by decide +kernel
theorem dL_told_323 : decode cL_told 323 = .ok (.if_icmp .ge 43, 3) := by decide +kernel
theorem dL_told_326 : decode cL_told 326 = .ok (.aload_n 0, 1) := by decide +kernel
theorem dL_told_327 : decode cL_told 327 = .ok (.iload 13, 2) := by decide +kernel
theorem dL_told_329 : decode cL_told 329 = .ok (.iload 15, 2) := by decide +kernel
theorem dL_told_331 : decode cL_told 331 = .ok (.iconst 1, 1) := by decide +kernel
theorem dL_told_332 : decode cL_told 332 = .ok (.iadd, 1) := by decide +kernel
theorem dL_told_333 : decode cL_told 333 = .ok (.invokevirtual 42, 3) := by decide +kernel
theorem dL_told_336 : decode cL_told 336 = .ok (.iload 12, 2) := by decide +kernel
theorem dL_told_338 : decode cL_told 338 = .ok (.iload 15, 2) := by decide +kernel
theorem dL_told_340 : decode cL_told 340 = .ok (.aload 5, 2) := by decide +kernel
theorem dL_told_342 : decode cL_told 342 = .ok (.aload 6, 2) := by decide +kernel
theorem dL_told_344 : decode cL_told 344 = .ok (.aload 7, 2) := by decide +kernel
theorem dL_told_346 : decode cL_told 346 = .ok (.aload 8, 2) := by decide +kernel
theorem dL_told_348 : decode cL_told 348 = .ok (.aload 9, 2) := by decide +kernel
theorem dL_told_350 : decode cL_told 350 = .ok (.aload 10, 2) := by decide +kernel
theorem dL_told_352 : decode cL_told 352 = .ok (.invokestatic 18, 3) := by decide +kernel
theorem dL_told_355 : decode cL_told 355 = .ok (.if_icmp .eq 5, 3) := by decide +kernel
theorem dL_told_358 : decode cL_told 358 = .ok (.iconst 0, 1) := by decide +kernel
theorem dL_told_359 : decode cL_told 359 = .ok (.ireturn, 1) := by decide +kernel
theorem dL_told_360 : decode cL_told 360 = .ok (.iinc 15 1, 3) := by decide +kernel
theorem dL_told_363 : decode cL_told 363 = .ok (.goto (-43), 3) := by decide +kernel
theorem dL_told_366 : decode cL_told 366 = .ok (.iinc 12 1, 3) := by decide +kernel
theorem dL_told_369 : decode cL_told 369 = .ok (.goto (-300), 3) := by decide +kernel
theorem dL_told_372 : decode cL_told 372 = .ok (.iconst 0, 1) := by decide +kernel
theorem dL_told_373 : decode cL_told 373 = .ok (.istore 12, 2) := by decide +kernel
theorem dL_told_375 : decode cL_told 375 = .ok (.iload 12, 2) := by decide +kernel
theorem dL_told_377 : decode cL_told 377 = .ok (.aload 5, 2) := by decide +kernel
theorem dL_told_379 : decode cL_told 379 = .ok (.iconst 1, 1) := by decide +kernel
theorem dL_told_380 : decode cL_told 380 = .ok (.iaload, 1) := by decide +kernel
theorem dL_told_381 : decode cL_told 381 = .ok (.if_icmp .ge 58, 3) := by decide +kernel
theorem dL_told_384 : decode cL_told 384 = .ok (.aload_n 0, 1) := by decide +kernel
theorem dL_told_385 : decode cL_told 385 = .ok (.iload 12, 2) := by decide +kernel
theorem dL_told_387 : decode cL_told 387 = .ok (.iconst 0, 1) := by decide +kernel
theorem dL_told_388 : decode cL_told 388 = .ok (.invokevirtual 45, 3) := by decide +kernel
theorem dL_told_391 : decode cL_told 391 = .ok (.aload 4, 2) := by decide +kernel
theorem dL_told_393 : decode cL_told 393 = .ok (.iload 12, 2) := by decide +kernel
theorem dL_told_395 : decode cL_told 395 = .ok (.iaload, 1) := by decide +kernel
theorem dL_told_396 : decode cL_told 396 = .ok (.if_icmp .ne 35, 3) := by decide +kernel
theorem dL_told_399 : decode cL_told 399 = .ok (.aload_n 0, 1) := by decide +kernel
theorem dL_told_400 : decode cL_told 400 = .ok (.iload 12, 2) := by decide +kernel
theorem dL_told_402 : decode cL_told 402 = .ok (.iconst 1, 1) := by decide +kernel
theorem dL_told_403 : decode cL_told 403 = .ok (.invokevirtual 45, 3) := by decide +kernel
theorem dL_told_406 : decode cL_told 406 = .ok (.aload 11, 2) := by decide +kernel
theorem dL_told_408 : decode cL_told 408 = .ok (.iload 12, 2) := by decide +kernel
theorem dL_told_410 : decode cL_told 410 = .ok (.iaload, 1) := by decide +kernel
theorem dL_told_411 : decode cL_told 411 = .ok (.ifCond .ge 7, 3) := by decide +kernel
theorem dL_told_414 : decode cL_told 414 = .ok (.iconst (-1), 1) := by decide +kernel
theorem dL_told_415 : decode cL_told 415 = .ok (.goto 13, 3) := by decide +kernel
theorem dL_told_418 : decode cL_told 418 = .ok (.aload 11, 2) := by decide +kernel
theorem dL_told_420 : decode cL_told 420 = .ok (.iload 12, 2) := by decide +kernel
theorem dL_told_422 : decode cL_told 422 = .ok (.iaload, 1) := by decide +kernel
theorem dL_told_423 : decode cL_told 423 = .ok (.aload 10, 2) := by decide +kernel
theorem dL_told_425 : decode cL_told 425 = .ok (.invokestatic 26, 3) := by decide +kernel
theorem dL_told_428 : decode cL_told 428 = .ok (.if_icmp .eq 5, 3) := by decide +kernel
theorem dL_told_431 : decode cL_told 431 = .ok (.iconst 0, 1) := by decide +kernel
theorem dL_told_432 : decode cL_told 432 = .ok (.ireturn, 1) := by decide +kernel
theorem dL_told_433 : decode cL_told 433 = .ok (.iinc 12 1, 3) := by decide +kernel
theorem dL_told_436 : decode cL_told 436 = .ok (.goto (-61), 3) := by decide +kernel
theorem dL_told_439 : decode cL_told 439 = .ok (.iconst 0, 1) := by decide +kernel
theorem dL_told_440 : decode cL_told 440 = .ok (.istore 12, 2) := by decide +kernel
theorem dL_told_442 : decode cL_told 442 = .ok (.iload 12, 2) := by decide +kernel
theorem dL_told_444 : decode cL_told 444 = .ok (.bipush 10, 2) := by decide +kernel
theorem dL_told_446 : decode cL_told 446 = .ok (.if_icmp .ge 53, 3) := by decide +kernel
theorem dL_told_449 : decode cL_told 449 = .ok (.aload_n 0, 1) := by decide +kernel
theorem dL_told_450 : decode cL_told 450 = .ok (.iload 12, 2) := by decide +kernel
theorem dL_told_452 : decode cL_told 452 = .ok (.invokevirtual 48, 3) := by decide +kernel
theorem dL_told_455 : decode cL_told 455 = .ok (.aload 6, 2) := by decide +kernel
theorem dL_told_457 : decode cL_told 457 = .ok (.iload 12, 2) := by decide +kernel
theorem dL_told_459 : decode cL_told 459 = .ok (.iaload, 1) := by decide +kernel
theorem dL_told_460 : decode cL_told 460 = .ok (.if_icmp .ne 31, 3) := by decide +kernel
theorem dL_told_463 : decode cL_told 463 = .ok (.aload_n 0, 1) := by decide +kernel
theorem dL_told_464 : decode cL_told 464 = .ok (.iload 12, 2) := by decide +kernel
theorem dL_told_466 : decode cL_told 466 = .ok (.invokevirtual 52, 3) := by decide +kernel
theorem dL_told_469 : decode cL_told 469 = .ok (.iload 12, 2) := by decide +kernel
theorem dL_told_471 : decode cL_told 471 = .ok (.aload 4, 2) := by decide +kernel
theorem dL_told_473 : decode cL_told 473 = .ok (.aload 5, 2) := by decide +kernel
theorem dL_told_475 : decode cL_told 475 = .ok (.aload 6, 2) := by decide +kernel
theorem dL_told_477 : decode cL_told 477 = .ok (.aload 7, 2) := by decide +kernel
theorem dL_told_479 : decode cL_told 479 = .ok (.aload 8, 2) := by decide +kernel
theorem dL_told_481 : decode cL_told 481 = .ok (.aload 9, 2) := by decide +kernel
theorem dL_told_483 : decode cL_told 483 = .ok (.aload 10, 2) := by decide +kernel
theorem dL_told_485 : decode cL_told 485 = .ok (.invokestatic 55, 3) := by decide +kernel
theorem dL_told_488 : decode cL_told 488 = .ok (.if_icmp .eq 5, 3) := by decide +kernel
theorem dL_told_491 : decode cL_told 491 = .ok (.iconst 0, 1) := by decide +kernel
theorem dL_told_492 : decode cL_told 492 = .ok (.ireturn, 1) := by decide +kernel
theorem dL_told_493 : decode cL_told 493 = .ok (.iinc 12 1, 3) := by decide +kernel
theorem dL_told_496 : decode cL_told 496 = .ok (.goto (-54), 3) := by decide +kernel
theorem dL_told_499 : decode cL_told 499 = .ok (.iload_n 1, 1) := by decide +kernel
theorem dL_told_500 : decode cL_told 500 = .ok (.sipush 141, 3) := by decide +kernel
theorem dL_told_503 : decode cL_told 503 = .ok (.invokestatic 59, 3) := by decide +kernel
theorem dL_told_506 : decode cL_told 506 = .ok (.istore 12, 2) := by decide +kernel
theorem dL_told_508 : decode cL_told 508 = .ok (.iconst 1, 1) := by decide +kernel
theorem dL_told_509 : decode cL_told 509 = .ok (.iload_n 1, 1) := by decide +kernel
theorem dL_told_510 : decode cL_told 510 = .ok (.iconst 3, 1) := by decide +kernel
theorem dL_told_511 : decode cL_told 511 = .ok (.ishr, 1) := by decide +kernel
theorem dL_told_512 : decode cL_told 512 = .ok (.bipush 100, 2) := by decide +kernel
theorem dL_told_514 : decode cL_told 514 = .ok (.invokestatic 59, 3) := by decide +kernel
theorem dL_told_517 : decode cL_told 517 = .ok (.iadd, 1) := by decide +kernel
theorem dL_told_518 : decode cL_told 518 = .ok (.istore 13, 2) := by decide +kernel
theorem dL_told_520 : decode cL_told 520 = .ok (.iconst 1, 1) := by decide +kernel
theorem dL_told_521 : decode cL_told 521 = .ok (.aload 4, 2) := by decide +kernel
theorem dL_told_523 : decode cL_told 523 = .ok (.aload 5, 2) := by decide +kernel
theorem dL_told_525 : decode cL_told 525 = .ok (.aload 6, 2) := by decide +kernel
theorem dL_told_527 : decode cL_told 527 = .ok (.aload 7, 2) := by decide +kernel
theorem dL_told_529 : decode cL_told 529 = .ok (.aload 8, 2) := by decide +kernel
theorem dL_told_531 : decode cL_told 531 = .ok (.aload 9, 2) := by decide +kernel
theorem dL_told_533 : decode cL_told 533 = .ok (.aload 10, 2) := by decide +kernel
theorem dL_told_535 : decode cL_told 535 = .ok (.invokestatic 55, 3) := by decide +kernel
theorem dL_told_538 : decode cL_told 538 = .ok (.istore 14, 2) := by decide +kernel
theorem dL_told_540 : decode cL_told 540 = .ok (.iconst 0, 1) := by decide +kernel
theorem dL_told_541 : decode cL_told 541 = .ok (.istore 15, 2) := by decide +kernel
theorem dL_told_543 : decode cL_told 543 = .ok (.iconst (-1), 1) := by decide +kernel
theorem dL_told_544 : decode cL_told 544 = .ok (.istore 16, 2) := by decide +kernel
theorem dL_told_546 : decode cL_told 546 = .ok (.iconst 0, 1) := by decide +kernel
theorem dL_told_547 : decode cL_told 547 = .ok (.istore 17, 2) := by decide +kernel
theorem dL_told_549 : decode cL_told 549 = .ok (.iload 17, 2) := by decide +kernel
theorem dL_told_551 : decode cL_told 551 = .ok (.sipush 141, 3) := by decide +kernel
theorem dL_told_554 : decode cL_told 554 = .ok (.if_icmp .ge 113, 3) := by decide +kernel
theorem dL_told_557 : decode cL_told 557 = .ok (.iconst 0, 1) := by decide +kernel
theorem dL_told_558 : decode cL_told 558 = .ok (.istore 18, 2) := by decide +kernel
theorem dL_told_560 : decode cL_told 560 = .ok (.iconst 0, 1) := by decide +kernel
theorem dL_told_561 : decode cL_told 561 = .ok (.istore 19, 2) := by decide +kernel
theorem dL_told_563 : decode cL_told 563 = .ok (.iload 19, 2) := by decide +kernel
theorem dL_told_565 : decode cL_told 565 = .ok (.aload 5, 2) := by decide +kernel
theorem dL_told_567 : decode cL_told 567 = .ok (.iconst 0, 1) := by decide +kernel
theorem dL_told_568 : decode cL_told 568 = .ok (.iaload, 1) := by decide +kernel
theorem dL_told_569 : decode cL_told 569 = .ok (.if_icmp .ge 49, 3) := by decide +kernel
theorem dL_told_572 : decode cL_told 572 = .ok (.iload 18, 2) := by decide +kernel
theorem dL_told_574 : decode cL_told 574 = .ok (.aload 9, 2) := by decide +kernel
theorem dL_told_576 : decode cL_told 576 = .ok (.iload 19, 2) := by decide +kernel
theorem dL_told_578 : decode cL_told 578 = .ok (.iaload, 1) := by decide +kernel
theorem dL_told_579 : decode cL_told 579 = .ok (.ifCond .eq 12, 3) := by decide +kernel
theorem dL_told_582 : decode cL_told 582 = .ok (.aload 9, 2) := by decide +kernel
theorem dL_told_584 : decode cL_told 584 = .ok (.iload 19, 2) := by decide +kernel
theorem dL_told_586 : decode cL_told 586 = .ok (.iaload, 1) := by decide +kernel
theorem dL_told_587 : decode cL_told 587 = .ok (.iconst 3, 1) := by decide +kernel
theorem dL_told_588 : decode cL_told 588 = .ok (.if_icmp .ne 20, 3) := by decide +kernel
theorem dL_told_591 : decode cL_told 591 = .ok (.aload 7, 2) := by decide +kernel
theorem dL_told_593 : decode cL_told 593 = .ok (.iload 19, 2) := by decide +kernel
theorem dL_told_595 : decode cL_told 595 = .ok (.iaload, 1) := by decide +kernel
theorem dL_told_596 : decode cL_told 596 = .ok (.bipush 10, 2) := by decide +kernel
theorem dL_told_598 : decode cL_told 598 = .ok (.iload 17, 2) := by decide +kernel
theorem dL_told_600 : decode cL_told 600 = .ok (.imul, 1) := by decide +kernel
theorem dL_told_601 : decode cL_told 601 = .ok (.if_icmp .lt 7, 3) := by decide +kernel
theorem dL_told_604 : decode cL_told 604 = .ok (.iconst 1, 1) := by decide +kernel
theorem dL_told_605 : decode cL_told 605 = .ok (.goto 4, 3) := by decide +kernel
theorem dL_told_608 : decode cL_told 608 = .ok (.iconst 0, 1) := by decide +kernel
theorem dL_told_609 : decode cL_told 609 = .ok (.iadd, 1) := by decide +kernel
theorem dL_told_610 : decode cL_told 610 = .ok (.istore 18, 2) := by decide +kernel
theorem dL_told_612 : decode cL_told 612 = .ok (.iinc 19 1, 3) := by decide +kernel
theorem dL_told_615 : decode cL_told 615 = .ok (.goto (-52), 3) := by decide +kernel
theorem dL_told_618 : decode cL_told 618 = .ok (.iload 17, 2) := by decide +kernel
theorem dL_told_620 : decode cL_told 620 = .ok (.iload 12, 2) := by decide +kernel
theorem dL_told_622 : decode cL_told 622 = .ok (.if_icmp .ne 8, 3) := by decide +kernel
theorem dL_told_625 : decode cL_told 625 = .ok (.iload 18, 2) := by decide +kernel
theorem dL_told_627 : decode cL_told 627 = .ok (.goto 5, 3) := by decide +kernel
theorem dL_told_630 : decode cL_told 630 = .ok (.iload 15, 2) := by decide +kernel
theorem dL_told_632 : decode cL_told 632 = .ok (.istore 15, 2) := by decide +kernel
theorem dL_told_634 : decode cL_told 634 = .ok (.iload 14, 2) := by decide +kernel
theorem dL_told_636 : decode cL_told 636 = .ok (.ifCond .le 21, 3) := by decide +kernel
theorem dL_told_639 : decode cL_told 639 = .ok (.bipush 100, 2) := by decide +kernel
theorem dL_told_641 : decode cL_told 641 = .ok (.iload 18, 2) := by decide +kernel
theorem dL_told_643 : decode cL_told 643 = .ok (.imul, 1) := by decide +kernel
theorem dL_told_644 : decode cL_told 644 = .ok (.iload 13, 2) := by decide +kernel
theorem dL_told_646 : decode cL_told 646 = .ok (.iload 14, 2) := by decide +kernel
theorem dL_told_648 : decode cL_told 648 = .ok (.imul, 1) := by decide +kernel
theorem dL_told_649 : decode cL_told 649 = .ok (.if_icmp .lt 8, 3) := by decide +kernel
theorem dL_told_652 : decode cL_told 652 = .ok (.iload 17, 2) := by decide +kernel
theorem dL_told_654 : decode cL_told 654 = .ok (.goto 5, 3) := by decide +kernel
theorem dL_told_657 : decode cL_told 657 = .ok (.iload 16, 2) := by decide +kernel
theorem dL_told_659 : decode cL_told 659 = .ok (.istore 16, 2) := by decide +kernel
theorem dL_told_661 : decode cL_told 661 = .ok (.iinc 17 1, 3) := by decide +kernel
theorem dL_told_664 : decode cL_told 664 = .ok (.goto (-115), 3) := by decide +kernel
theorem dL_told_667 : decode cL_told 667 = .ok (.iconst 4, 1) := by decide +kernel
theorem dL_told_668 : decode cL_told 668 = .ok (.aload 4, 2) := by decide +kernel
theorem dL_told_670 : decode cL_told 670 = .ok (.aload 5, 2) := by decide +kernel
theorem dL_told_672 : decode cL_told 672 = .ok (.aload 6, 2) := by decide +kernel
theorem dL_told_674 : decode cL_told 674 = .ok (.aload 7, 2) := by decide +kernel
theorem dL_told_676 : decode cL_told 676 = .ok (.aload 8, 2) := by decide +kernel
theorem dL_told_678 : decode cL_told 678 = .ok (.aload 9, 2) := by decide +kernel
theorem dL_told_680 : decode cL_told 680 = .ok (.aload 10, 2) := by decide +kernel
theorem dL_told_682 : decode cL_told 682 = .ok (.invokestatic 55, 3) := by decide +kernel
theorem dL_told_685 : decode cL_told 685 = .ok (.istore 17, 2) := by decide +kernel
theorem dL_told_687 : decode cL_told 687 = .ok (.aload 5, 2) := by decide +kernel
theorem dL_told_689 : decode cL_told 689 = .ok (.iconst 0, 1) := by decide +kernel
theorem dL_told_690 : decode cL_told 690 = .ok (.iaload, 1) := by decide +kernel
theorem dL_told_691 : decode cL_told 691 = .ok (.bipush 100, 2) := by decide +kernel
theorem dL_told_693 : decode cL_told 693 = .ok (.iadd, 1) := by decide +kernel
theorem dL_told_694 : decode cL_told 694 = .ok (.istore 18, 2) := by decide +kernel
theorem dL_told_696 : decode cL_told 696 = .ok (.iconst 0, 1) := by decide +kernel
theorem dL_told_697 : decode cL_told 697 = .ok (.istore 19, 2) := by decide +kernel
theorem dL_told_699 : decode cL_told 699 = .ok (.iload 19, 2) := by decide +kernel
theorem dL_told_701 : decode cL_told 701 = .ok (.aload 5, 2) := by decide +kernel
theorem dL_told_703 : decode cL_told 703 = .ok (.iconst 0, 1) := by decide +kernel
theorem dL_told_704 : decode cL_told 704 = .ok (.iaload, 1) := by decide +kernel
theorem dL_told_705 : decode cL_told 705 = .ok (.if_icmp .ge 33, 3) := by decide +kernel
theorem dL_told_708 : decode cL_told 708 = .ok (.aload 9, 2) := by decide +kernel
theorem dL_told_710 : decode cL_told 710 = .ok (.iload 19, 2) := by decide +kernel
theorem dL_told_712 : decode cL_told 712 = .ok (.iaload, 1) := by decide +kernel
theorem dL_told_713 : decode cL_told 713 = .ok (.ifCond .ne 15, 3) := by decide +kernel
theorem dL_told_716 : decode cL_told 716 = .ok (.aload 5, 2) := by decide +kernel
theorem dL_told_718 : decode cL_told 718 = .ok (.iconst 0, 1) := by decide +kernel
theorem dL_told_719 : decode cL_told 719 = .ok (.iaload, 1) := by decide +kernel
theorem dL_told_720 : decode cL_told 720 = .ok (.iconst 1, 1) := by decide +kernel
theorem dL_told_721 : decode cL_told 721 = .ok (.isub, 1) := by decide +kernel
theorem dL_told_722 : decode cL_told 722 = .ok (.iload 19, 2) := by decide +kernel
theorem dL_told_724 : decode cL_told 724 = .ok (.isub, 1) := by decide +kernel
theorem dL_told_725 : decode cL_told 725 = .ok (.goto 5, 3) := by decide +kernel
theorem dL_told_728 : decode cL_told 728 = .ok (.iload 18, 2) := by decide +kernel
theorem dL_told_730 : decode cL_told 730 = .ok (.istore 18, 2) := by decide +kernel
theorem dL_told_732 : decode cL_told 732 = .ok (.iinc 19 1, 3) := by decide +kernel
theorem dL_told_735 : decode cL_told 735 = .ok (.goto (-36), 3) := by decide +kernel
theorem dL_told_738 : decode cL_told 738 = .ok (.aload_n 0, 1) := by decide +kernel
theorem dL_told_739 : decode cL_told 739 = .ok (.iload 12, 2) := by decide +kernel
theorem dL_told_741 : decode cL_told 741 = .ok (.invokevirtual 62, 3) := by decide +kernel
theorem dL_told_744 : decode cL_told 744 = .ok (.iload 15, 2) := by decide +kernel
theorem dL_told_746 : decode cL_told 746 = .ok (.if_icmp .ne 68, 3) := by decide +kernel
theorem dL_told_749 : decode cL_told 749 = .ok (.aload_n 0, 1) := by decide +kernel
theorem dL_told_750 : decode cL_told 750 = .ok (.iload 13, 2) := by decide +kernel
theorem dL_told_752 : decode cL_told 752 = .ok (.invokevirtual 65, 3) := by decide +kernel
theorem dL_told_755 : decode cL_told 755 = .ok (.iload 16, 2) := by decide +kernel
theorem dL_told_757 : decode cL_told 757 = .ok (.if_icmp .ne 57, 3) := by decide +kernel
theorem dL_told_760 : decode cL_told 760 = .ok (.aload_n 0, 1) := by decide +kernel
theorem dL_told_761 : decode cL_told 761 = .ok (.bipush 11, 2) := by decide +kernel
theorem dL_told_763 : decode cL_told 763 = .ok (.invokevirtual 52, 3) := by decide +kernel
theorem dL_told_766 : decode cL_told 766 = .ok (.iload 18, 2) := by decide +kernel
theorem dL_told_768 : decode cL_told 768 = .ok (.aload 6, 2) := by decide +kernel
theorem dL_told_770 : decode cL_told 770 = .ok (.bipush 6, 2) := by decide +kernel
theorem dL_told_772 : decode cL_told 772 = .ok (.iaload, 1) := by decide +kernel
theorem dL_told_773 : decode cL_told 773 = .ok (.if_icmp .ge 7, 3) := by decide +kernel
theorem dL_told_776 : decode cL_told 776 = .ok (.iconst 1, 1) := by decide +kernel
theorem dL_told_777 : decode cL_told 777 = .ok (.goto 4, 3) := by decide +kernel
theorem dL_told_780 : decode cL_told 780 = .ok (.iconst 0, 1) := by decide +kernel
theorem dL_told_781 : decode cL_told 781 = .ok (.if_icmp .ne 33, 3) := by decide +kernel
theorem dL_told_784 : decode cL_told 784 = .ok (.aload_n 0, 1) := by decide +kernel
theorem dL_told_785 : decode cL_told 785 = .ok (.invokevirtual 68, 3) := by decide +kernel
theorem dL_told_788 : decode cL_told 788 = .ok (.iload 14, 2) := by decide +kernel
theorem dL_told_790 : decode cL_told 790 = .ok (.ifCond .ne 7, 3) := by decide +kernel
theorem dL_told_793 : decode cL_told 793 = .ok (.dconst 0, 1) := by decide +kernel
theorem dL_told_794 : decode cL_told 794 = .ok (.goto 12, 3) := by decide +kernel
theorem dL_told_797 : decode cL_told 797 = .ok (.dconst 1, 1) := by decide +kernel
theorem dL_told_798 : decode cL_told 798 = .ok (.iload 17, 2) := by decide +kernel
theorem dL_told_800 : decode cL_told 800 = .ok (.i2d, 1) := by decide +kernel
theorem dL_told_801 : decode cL_told 801 = .ok (.dmul, 1) := by decide +kernel
theorem dL_told_802 : decode cL_told 802 = .ok (.iload 14, 2) := by decide +kernel
theorem dL_told_804 : decode cL_told 804 = .ok (.i2d, 1) := by decide +kernel
theorem dL_told_805 : decode cL_told 805 = .ok (.ddiv, 1) := by decide +kernel
theorem dL_told_806 : decode cL_told 806 = .ok (.dcmp .l, 1) := by decide +kernel
theorem dL_told_807 : decode cL_told 807 = .ok (.ifCond .ne 7, 3) := by decide +kernel
theorem dL_told_810 : decode cL_told 810 = .ok (.iconst 1, 1) := by decide +kernel
theorem dL_told_811 : decode cL_told 811 = .ok (.goto 4, 3) := by decide +kernel
theorem dL_told_814 : decode cL_told 814 = .ok (.iconst 0, 1) := by decide +kernel
theorem dL_told_815 : decode cL_told 815 = .ok (.ireturn, 1) := by decide +kernel
