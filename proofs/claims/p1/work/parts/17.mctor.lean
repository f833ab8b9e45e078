theorem d_Cmd_nothingTold_0 : decode prog_15_method_12_code 0 = .ok (.iconst 0, 1) := by decide +kernel
theorem d_Cmd_nothingTold_1 : decode prog_15_method_12_code 1 = .ok (.istore_n 1, 1) := by decide +kernel
theorem d_Cmd_nothingTold_2 : decode prog_15_method_12_code 2 = .ok (.iload_n 1, 1) := by decide +kernel
theorem d_Cmd_nothingTold_3 : decode prog_15_method_12_code 3 = .ok (.sipush 4160, 3) := by decide +kernel
theorem d_Cmd_nothingTold_6 : decode prog_15_method_12_code 6 = .ok (.if_icmp .ge 16, 3) := by decide +kernel
theorem d_Cmd_nothingTold_9 : decode prog_15_method_12_code 9 = .ok (.aload_n 0, 1) := by decide +kernel
theorem d_Cmd_nothingTold_10 : decode prog_15_method_12_code 10 = .ok (.getfield 38, 3) := by decide +kernel
theorem d_Cmd_nothingTold_13 : decode prog_15_method_12_code 13 = .ok (.iload_n 1, 1) := by decide +kernel
theorem d_Cmd_nothingTold_14 : decode prog_15_method_12_code 14 = .ok (.iconst 0, 1) := by decide +kernel
theorem d_Cmd_nothingTold_15 : decode prog_15_method_12_code 15 = .ok (.iastore, 1) := by decide +kernel
theorem d_Cmd_nothingTold_16 : decode prog_15_method_12_code 16 = .ok (.iinc 1 1, 3) := by decide +kernel
theorem d_Cmd_nothingTold_19 : decode prog_15_method_12_code 19 = .ok (.goto (-17), 3) := by decide +kernel
theorem d_Cmd_nothingTold_22 : decode prog_15_method_12_code 22 = .ok (.iconst 0, 1) := by decide +kernel
theorem d_Cmd_nothingTold_23 : decode prog_15_method_12_code 23 = .ok (.istore_n 1, 1) := by decide +kernel
theorem d_Cmd_nothingTold_24 : decode prog_15_method_12_code 24 = .ok (.iload_n 1, 1) := by decide +kernel
theorem d_Cmd_nothingTold_25 : decode prog_15_method_12_code 25 = .ok (.bipush 26, 2) := by decide +kernel
theorem d_Cmd_nothingTold_27 : decode prog_15_method_12_code 27 = .ok (.if_icmp .ge 44, 3) := by decide +kernel
theorem d_Cmd_nothingTold_30 : decode prog_15_method_12_code 30 = .ok (.iconst 0, 1) := by decide +kernel
theorem d_Cmd_nothingTold_31 : decode prog_15_method_12_code 31 = .ok (.istore_n 2, 1) := by decide +kernel
theorem d_Cmd_nothingTold_32 : decode prog_15_method_12_code 32 = .ok (.iload_n 2, 1) := by decide +kernel
theorem d_Cmd_nothingTold_33 : decode prog_15_method_12_code 33 = .ok (.iload_n 1, 1) := by decide +kernel
theorem d_Cmd_nothingTold_34 : decode prog_15_method_12_code 34 = .ok (.invokestatic 110, 3) := by decide +kernel
theorem d_Cmd_nothingTold_37 : decode prog_15_method_12_code 37 = .ok (.if_icmp .ge 28, 3) := by decide +kernel
theorem d_Cmd_nothingTold_40 : decode prog_15_method_12_code 40 = .ok (.iload_n 1, 1) := by decide +kernel
theorem d_Cmd_nothingTold_41 : decode prog_15_method_12_code 41 = .ok (.invokestatic 110, 3) := by decide +kernel
theorem d_Cmd_nothingTold_44 : decode prog_15_method_12_code 44 = .ok (.iconst 1, 1) := by decide +kernel
theorem d_Cmd_nothingTold_45 : decode prog_15_method_12_code 45 = .ok (.if_icmp .le 20, 3) := by decide +kernel
theorem d_Cmd_nothingTold_48 : decode prog_15_method_12_code 48 = .ok (.aload_n 0, 1) := by decide +kernel
theorem d_Cmd_nothingTold_49 : decode prog_15_method_12_code 49 = .ok (.getfield 38, 3) := by decide +kernel
theorem d_Cmd_nothingTold_52 : decode prog_15_method_12_code 52 = .ok (.iload_n 1, 1) := by decide +kernel
theorem d_Cmd_nothingTold_53 : decode prog_15_method_12_code 53 = .ok (.iload_n 2, 1) := by decide +kernel
theorem d_Cmd_nothingTold_54 : decode prog_15_method_12_code 54 = .ok (.invokestatic 113, 3) := by decide +kernel
theorem d_Cmd_nothingTold_57 : decode prog_15_method_12_code 57 = .ok (.iload_n 2, 1) := by decide +kernel
theorem d_Cmd_nothingTold_58 : decode prog_15_method_12_code 58 = .ok (.iastore, 1) := by decide +kernel
theorem d_Cmd_nothingTold_59 : decode prog_15_method_12_code 59 = .ok (.iinc 2 1, 3) := by decide +kernel
theorem d_Cmd_nothingTold_62 : decode prog_15_method_12_code 62 = .ok (.goto (-30), 3) := by decide +kernel
theorem d_Cmd_nothingTold_65 : decode prog_15_method_12_code 65 = .ok (.iinc 1 1, 3) := by decide +kernel
theorem d_Cmd_nothingTold_68 : decode prog_15_method_12_code 68 = .ok (.goto (-44), 3) := by decide +kernel
theorem d_Cmd_nothingTold_71 : decode prog_15_method_12_code 71 = .ok (.aload_n 0, 1) := by decide +kernel
theorem d_Cmd_nothingTold_72 : decode prog_15_method_12_code 72 = .ok (.getfield 38, 3) := by decide +kernel
theorem d_Cmd_nothingTold_75 : decode prog_15_method_12_code 75 = .ok (.iconst 2, 1) := by decide +kernel
theorem d_Cmd_nothingTold_76 : decode prog_15_method_12_code 76 = .ok (.iconst 0, 1) := by decide +kernel
theorem d_Cmd_nothingTold_77 : decode prog_15_method_12_code 77 = .ok (.invokestatic 113, 3) := by decide +kernel
theorem d_Cmd_nothingTold_80 : decode prog_15_method_12_code 80 = .ok (.iconst 2, 1) := by decide +kernel
theorem d_Cmd_nothingTold_81 : decode prog_15_method_12_code 81 = .ok (.iadd, 1) := by decide +kernel
theorem d_Cmd_nothingTold_82 : decode prog_15_method_12_code 82 = .ok (.iconst 1, 1) := by decide +kernel
theorem d_Cmd_nothingTold_83 : decode prog_15_method_12_code 83 = .ok (.iastore, 1) := by decide +kernel
theorem d_Cmd_nothingTold_84 : decode prog_15_method_12_code 84 = .ok (.aload_n 0, 1) := by decide +kernel
theorem d_Cmd_nothingTold_85 : decode prog_15_method_12_code 85 = .ok (.getfield 38, 3) := by decide +kernel
theorem d_Cmd_nothingTold_88 : decode prog_15_method_12_code 88 = .ok (.iconst 2, 1) := by decide +kernel
theorem d_Cmd_nothingTold_89 : decode prog_15_method_12_code 89 = .ok (.iconst 0, 1) := by decide +kernel
theorem d_Cmd_nothingTold_90 : decode prog_15_method_12_code 90 = .ok (.invokestatic 113, 3) := by decide +kernel
theorem d_Cmd_nothingTold_93 : decode prog_15_method_12_code 93 = .ok (.iconst 3, 1) := by decide +kernel
theorem d_Cmd_nothingTold_94 : decode prog_15_method_12_code 94 = .ok (.iadd, 1) := by decide +kernel
theorem d_Cmd_nothingTold_95 : decode prog_15_method_12_code 95 = .ok (.iconst 1, 1) := by decide +kernel
theorem d_Cmd_nothingTold_96 : decode prog_15_method_12_code 96 = .ok (.iastore, 1) := by decide +kernel
theorem d_Cmd_nothingTold_97 : decode prog_15_method_12_code 97 = .ok (.aload_n 0, 1) := by decide +kernel
theorem d_Cmd_nothingTold_98 : decode prog_15_method_12_code 98 = .ok (.getfield 38, 3) := by decide +kernel
theorem d_Cmd_nothingTold_101 : decode prog_15_method_12_code 101 = .ok (.iconst 2, 1) := by decide +kernel
theorem d_Cmd_nothingTold_102 : decode prog_15_method_12_code 102 = .ok (.iconst 0, 1) := by decide +kernel
theorem d_Cmd_nothingTold_103 : decode prog_15_method_12_code 103 = .ok (.invokestatic 113, 3) := by decide +kernel
theorem d_Cmd_nothingTold_106 : decode prog_15_method_12_code 106 = .ok (.iconst 5, 1) := by decide +kernel
theorem d_Cmd_nothingTold_107 : decode prog_15_method_12_code 107 = .ok (.iadd, 1) := by decide +kernel
theorem d_Cmd_nothingTold_108 : decode prog_15_method_12_code 108 = .ok (.ldc 117, 2) := by decide +kernel
theorem d_Cmd_nothingTold_110 : decode prog_15_method_12_code 110 = .ok (.iastore, 1) := by decide +kernel
theorem d_Cmd_nothingTold_111 : decode prog_15_method_12_code 111 = .ok (.aload_n 0, 1) := by decide +kernel
theorem d_Cmd_nothingTold_112 : decode prog_15_method_12_code 112 = .ok (.getfield 38, 3) := by decide +kernel
theorem d_Cmd_nothingTold_115 : decode prog_15_method_12_code 115 = .ok (.iconst 3, 1) := by decide +kernel
theorem d_Cmd_nothingTold_116 : decode prog_15_method_12_code 116 = .ok (.iconst 0, 1) := by decide +kernel
theorem d_Cmd_nothingTold_117 : decode prog_15_method_12_code 117 = .ok (.invokestatic 113, 3) := by decide +kernel
theorem d_Cmd_nothingTold_120 : decode prog_15_method_12_code 120 = .ok (.iconst 2, 1) := by decide +kernel
theorem d_Cmd_nothingTold_121 : decode prog_15_method_12_code 121 = .ok (.iadd, 1) := by decide +kernel
theorem d_Cmd_nothingTold_122 : decode prog_15_method_12_code 122 = .ok (.iconst (-1), 1) := by decide +kernel
theorem d_Cmd_nothingTold_123 : decode prog_15_method_12_code 123 = .ok (.iastore, 1) := by decide +kernel
theorem d_Cmd_nothingTold_124 : decode prog_15_method_12_code 124 = .ok (.aload_n 0, 1) := by decide +kernel
theorem d_Cmd_nothingTold_125 : decode prog_15_method_12_code 125 = .ok (.getfield 38, 3) := by decide +kernel
theorem d_Cmd_nothingTold_128 : decode prog_15_method_12_code 128 = .ok (.bipush 7, 2) := by decide +kernel
theorem d_Cmd_nothingTold_130 : decode prog_15_method_12_code 130 = .ok (.iconst 0, 1) := by decide +kernel
theorem d_Cmd_nothingTold_131 : decode prog_15_method_12_code 131 = .ok (.invokestatic 113, 3) := by decide +kernel
theorem d_Cmd_nothingTold_134 : decode prog_15_method_12_code 134 = .ok (.iconst (-1), 1) := by decide +kernel
theorem d_Cmd_nothingTold_135 : decode prog_15_method_12_code 135 = .ok (.iastore, 1) := by decide +kernel
theorem d_Cmd_nothingTold_136 : decode prog_15_method_12_code 136 = .ok (.aload_n 0, 1) := by decide +kernel
theorem d_Cmd_nothingTold_137 : decode prog_15_method_12_code 137 = .ok (.getfield 38, 3) := by decide +kernel
theorem d_Cmd_nothingTold_140 : decode prog_15_method_12_code 140 = .ok (.bipush 8, 2) := by decide +kernel
theorem d_Cmd_nothingTold_142 : decode prog_15_method_12_code 142 = .ok (.iconst 0, 1) := by decide +kernel
theorem d_Cmd_nothingTold_143 : decode prog_15_method_12_code 143 = .ok (.invokestatic 113, 3) := by decide +kernel
theorem d_Cmd_nothingTold_146 : decode prog_15_method_12_code 146 = .ok (.iconst (-1), 1) := by decide +kernel
theorem d_Cmd_nothingTold_147 : decode prog_15_method_12_code 147 = .ok (.iastore, 1) := by decide +kernel
theorem d_Cmd_nothingTold_148 : decode prog_15_method_12_code 148 = .ok (.aload_n 0, 1) := by decide +kernel
theorem d_Cmd_nothingTold_149 : decode prog_15_method_12_code 149 = .ok (.getfield 38, 3) := by decide +kernel
theorem d_Cmd_nothingTold_152 : decode prog_15_method_12_code 152 = .ok (.bipush 10, 2) := by decide +kernel
theorem d_Cmd_nothingTold_154 : decode prog_15_method_12_code 154 = .ok (.iconst 0, 1) := by decide +kernel
theorem d_Cmd_nothingTold_155 : decode prog_15_method_12_code 155 = .ok (.invokestatic 113, 3) := by decide +kernel
theorem d_Cmd_nothingTold_158 : decode prog_15_method_12_code 158 = .ok (.iconst (-1), 1) := by decide +kernel
theorem d_Cmd_nothingTold_159 : decode prog_15_method_12_code 159 = .ok (.iastore, 1) := by decide +kernel
theorem d_Cmd_nothingTold_160 : decode prog_15_method_12_code 160 = .ok (.aload_n 0, 1) := by decide +kernel
theorem d_Cmd_nothingTold_161 : decode prog_15_method_12_code 161 = .ok (.getfield 38, 3) := by decide +kernel
theorem d_Cmd_nothingTold_164 : decode prog_15_method_12_code 164 = .ok (.bipush 12, 2) := by decide +kernel
theorem d_Cmd_nothingTold_166 : decode prog_15_method_12_code 166 = .ok (.iconst 0, 1) := by decide +kernel
theorem d_Cmd_nothingTold_167 : decode prog_15_method_12_code 167 = .ok (.invokestatic 113, 3) := by decide +kernel
theorem d_Cmd_nothingTold_170 : decode prog_15_method_12_code 170 = .ok (.iconst 4, 1) := by decide +kernel
theorem d_Cmd_nothingTold_171 : decode prog_15_method_12_code 171 = .ok (.iadd, 1) := by decide +kernel
theorem d_Cmd_nothingTold_172 : decode prog_15_method_12_code 172 = .ok (.iconst (-1), 1) := by decide +kernel
theorem d_Cmd_nothingTold_173 : decode prog_15_method_12_code 173 = .ok (.iastore, 1) := by decide +kernel
theorem d_Cmd_nothingTold_174 : decode prog_15_method_12_code 174 = .ok (.aload_n 0, 1) := by decide +kernel
theorem d_Cmd_nothingTold_175 : decode prog_15_method_12_code 175 = .ok (.getfield 38, 3) := by decide +kernel
theorem d_Cmd_nothingTold_178 : decode prog_15_method_12_code 178 = .ok (.bipush 14, 2) := by decide +kernel
theorem d_Cmd_nothingTold_180 : decode prog_15_method_12_code 180 = .ok (.iconst 0, 1) := by decide +kernel
theorem d_Cmd_nothingTold_181 : decode prog_15_method_12_code 181 = .ok (.invokestatic 113, 3) := by decide +kernel
theorem d_Cmd_nothingTold_184 : decode prog_15_method_12_code 184 = .ok (.iconst (-1), 1) := by decide +kernel
theorem d_Cmd_nothingTold_185 : decode prog_15_method_12_code 185 = .ok (.iastore, 1) := by decide +kernel
theorem d_Cmd_nothingTold_186 : decode prog_15_method_12_code 186 = .ok (.aload_n 0, 1) := by decide +kernel
theorem d_Cmd_nothingTold_187 : decode prog_15_method_12_code 187 = .ok (.getfield 38, 3) := by decide +kernel
theorem d_Cmd_nothingTold_190 : decode prog_15_method_12_code 190 = .ok (.bipush 15, 2) := by decide +kernel
theorem d_Cmd_nothingTold_192 : decode prog_15_method_12_code 192 = .ok (.iconst 0, 1) := by decide +kernel
theorem d_Cmd_nothingTold_193 : decode prog_15_method_12_code 193 = .ok (.invokestatic 113, 3) := by decide +kernel
theorem d_Cmd_nothingTold_196 : decode prog_15_method_12_code 196 = .ok (.bipush 15, 2) := by decide +kernel
theorem d_Cmd_nothingTold_198 : decode prog_15_method_12_code 198 = .ok (.iastore, 1) := by decide +kernel
theorem d_Cmd_nothingTold_199 : decode prog_15_method_12_code 199 = .ok (.iconst 0, 1) := by decide +kernel
theorem d_Cmd_nothingTold_200 : decode prog_15_method_12_code 200 = .ok (.istore_n 1, 1) := by decide +kernel
theorem d_Cmd_nothingTold_201 : decode prog_15_method_12_code 201 = .ok (.iload_n 1, 1) := by decide +kernel
theorem d_Cmd_nothingTold_202 : decode prog_15_method_12_code 202 = .ok (.iconst 4, 1) := by decide +kernel
theorem d_Cmd_nothingTold_203 : decode prog_15_method_12_code 203 = .ok (.if_icmp .ge 23, 3) := by decide +kernel
theorem d_Cmd_nothingTold_206 : decode prog_15_method_12_code 206 = .ok (.aload_n 0, 1) := by decide +kernel
theorem d_Cmd_nothingTold_207 : decode prog_15_method_12_code 207 = .ok (.getfield 38, 3) := by decide +kernel
theorem d_Cmd_nothingTold_210 : decode prog_15_method_12_code 210 = .ok (.bipush 9, 2) := by decide +kernel
theorem d_Cmd_nothingTold_212 : decode prog_15_method_12_code 212 = .ok (.iload_n 1, 1) := by decide +kernel
theorem d_Cmd_nothingTold_213 : decode prog_15_method_12_code 213 = .ok (.invokestatic 113, 3) := by decide +kernel
theorem d_Cmd_nothingTold_216 : decode prog_15_method_12_code 216 = .ok (.iconst 4, 1) := by decide +kernel
theorem d_Cmd_nothingTold_217 : decode prog_15_method_12_code 217 = .ok (.iadd, 1) := by decide +kernel
theorem d_Cmd_nothingTold_218 : decode prog_15_method_12_code 218 = .ok (.iconst 1, 1) := by decide +kernel
theorem d_Cmd_nothingTold_219 : decode prog_15_method_12_code 219 = .ok (.iastore, 1) := by decide +kernel
theorem d_Cmd_nothingTold_220 : decode prog_15_method_12_code 220 = .ok (.iinc 1 1, 3) := by decide +kernel
theorem d_Cmd_nothingTold_223 : decode prog_15_method_12_code 223 = .ok (.goto (-22), 3) := by decide +kernel
theorem d_Cmd_nothingTold_226 : decode prog_15_method_12_code 226 = .ok (.iconst 0, 1) := by decide +kernel
theorem d_Cmd_nothingTold_227 : decode prog_15_method_12_code 227 = .ok (.istore_n 1, 1) := by decide +kernel
theorem d_Cmd_nothingTold_228 : decode prog_15_method_12_code 228 = .ok (.iload_n 1, 1) := by decide +kernel
theorem d_Cmd_nothingTold_229 : decode prog_15_method_12_code 229 = .ok (.iconst 2, 1) := by decide +kernel
theorem d_Cmd_nothingTold_230 : decode prog_15_method_12_code 230 = .ok (.if_icmp .ge 23, 3) := by decide +kernel
theorem d_Cmd_nothingTold_233 : decode prog_15_method_12_code 233 = .ok (.aload_n 0, 1) := by decide +kernel
theorem d_Cmd_nothingTold_234 : decode prog_15_method_12_code 234 = .ok (.getfield 38, 3) := by decide +kernel
theorem d_Cmd_nothingTold_237 : decode prog_15_method_12_code 237 = .ok (.bipush 11, 2) := by decide +kernel
theorem d_Cmd_nothingTold_239 : decode prog_15_method_12_code 239 = .ok (.iload_n 1, 1) := by decide +kernel
theorem d_Cmd_nothingTold_240 : decode prog_15_method_12_code 240 = .ok (.invokestatic 113, 3) := by decide +kernel
theorem d_Cmd_nothingTold_243 : decode prog_15_method_12_code 243 = .ok (.iconst 1, 1) := by decide +kernel
theorem d_Cmd_nothingTold_244 : decode prog_15_method_12_code 244 = .ok (.iadd, 1) := by decide +kernel
theorem d_Cmd_nothingTold_245 : decode prog_15_method_12_code 245 = .ok (.iconst (-1), 1) := by decide +kernel
theorem d_Cmd_nothingTold_246 : decode prog_15_method_12_code 246 = .ok (.iastore, 1) := by decide +kernel
theorem d_Cmd_nothingTold_247 : decode prog_15_method_12_code 247 = .ok (.iinc 1 1, 3) := by decide +kernel
theorem d_Cmd_nothingTold_250 : decode prog_15_method_12_code 250 = .ok (.goto (-22), 3) := by decide +kernel
theorem d_Cmd_nothingTold_253 : decode prog_15_method_12_code 253 = .ok (.return_, 1) := by decide +kernel
set_option maxHeartbeats 4000000 in
set_option maxRecDepth 100000 in
theorem lp_nothingTold_2 {p : Program} {l : Launch} {e : Env} {R : Room} {s : State} {m : MethodId} {args : Array Value} {below : List Frame} {meth : Method} {c : Code} {Q : State → Prop} {A : Nat → Prop} (D : va_G) (cI cL : ClassId) (B : Nat) (h0 : Nat) (ke : Nat) (xm : Nat) (xs : Nat) (xb : Nat) (xa : Nat) (fl0 : Int32) (fl1 : Int32) (fl2 : Int32) (fl3 : Int32) (fl4 : Int32) (fl5 : Int32) (fl6 : Int32) (fl7 : Int32) (fl8 : Int32) (fl9 : Int32) (fl10 : Int32) (fl11 : Int32) (fl12 : Int32) (cells slots : Nat) (hx : p.tables.exec = Jvm.exec) (hb : c.code = prog_15_method_12_code) (hml : c.maxLocals = 3) (hown : s.vm.findClass "DrawingMachineModel$DrawCommandsModel" = some m.cls) (htw : ∀ w ∈ tw, w.before args s = true) (hC : wC D cI cL B A s) (hRf : 40 ≤ R.frames) (hRl : 4000 ≤ R.locals) (hRc : cells ≤ R.cells) (hRs : slots ≤ R.slots) (hN : 4160 < 100000)
    (kx : ∀ (f394 : Nat → Int32) (H : Heap) (locs : List Loc) (ls : Array Slot), va_P D classes [(h0, .inr (13, [.int fl0, .ref xm, .int fl1, .int fl2, .ref xs, .int fl3, .int fl4, .int fl5, .ref xb, .int fl6, .int fl7, .int fl8, .int fl9, .int fl10, .int fl11, .int fl12, .ref xa, .ref ke])), (ke, .inl (cI, 4160, .inl f394))] H → va_D A [(h0, .inr (13, [.int fl0, .ref xm, .int fl1, .int fl2, .ref xs, .int fl3, .int fl4, .int fl5, .ref xb, .int fl6, .int fl7, .int fl8, .int fl9, .int fl10, .int fl11, .int fl12, .ref xa, .ref ke])), (ke, .inl (cI, 4160, .inl f394))] → va_S A s.heap H locs → lv_has ls 3 [(1, .int (nI 4160)), (0, .ref h0)] → W p l e R s m args below meth c H locs cells slots Q (F0 m 22 ls [])) :
    ∀ (k i : Nat) (f394 : Nat → Int32), i + k = 4160 → ∀ (H : Heap) (locs : List Loc) (ls : Array Slot), va_P D classes [(h0, .inr (13, [.int fl0, .ref xm, .int fl1, .int fl2, .ref xs, .int fl3, .int fl4, .int fl5, .ref xb, .int fl6, .int fl7, .int fl8, .int fl9, .int fl10, .int fl11, .int fl12, .ref xa, .ref ke])), (ke, .inl (cI, 4160, .inl f394))] H → va_D A [(h0, .inr (13, [.int fl0, .ref xm, .int fl1, .int fl2, .ref xs, .int fl3, .int fl4, .int fl5, .ref xb, .int fl6, .int fl7, .int fl8, .int fl9, .int fl10, .int fl11, .int fl12, .ref xa, .ref ke])), (ke, .inl (cI, 4160, .inl f394))] → va_S A s.heap H locs → lv_has ls 3 [(1, .int (nI i)), (0, .ref h0)] → W p l e R s m args below meth c H locs cells slots Q (F0 m 2 ls []) := by
  intro k
  induction k with
  | zero =>
    intro i f394 hi H locs ls hP hD hS hl
    obtain rfl : i = 4160 := hi
    refine lv_iload_n hx hb d_Cmd_nothingTold_2 rfl (lv_at hl 0 rfl) ?_
    refine lv_sipush (v := 4160) hx hb d_Cmd_nothingTold_3 (by decide) ?_
    refine lv_icmp_ge (tgt := 22) hx hb d_Cmd_nothingTold_6 (by decide) (fun c_395 => ?_) (fun c_395 => absurd (Int32.le_refl _) c_395)
    exact kx f394 _ _ _ hP hD hS (lv_sub hl [0, 1] rfl)
  | succ k ih =>
    intro i f394 hi H locs ls hP hD hS hl
    refine lv_iload_n hx hb d_Cmd_nothingTold_2 rfl (lv_at hl 0 rfl) ?_
    refine lv_sipush (v := 4160) hx hb d_Cmd_nothingTold_3 (by decide) ?_
    refine lv_icmp_ge (tgt := 22) hx hb d_Cmd_nothingTold_6 (by decide) (fun c_396 => absurd c_396 (nI_ge (a := i) (b := 4160) (by omega) (by omega))) (fun c_396 => ?_)
    refine lv_aload_n hx hb d_Cmd_nothingTold_9 rfl (lv_at hl 1 rfl) ?_
    refine va_get (D := D) (ci := 13) (v := .ref ke) (C := R_Cmd) (T := F_Cmd) (N := 18) hx hb htw i_Cmd hown hC.1 hP 0 rfl rfl 17 (by decide) (htw _ k563) (fun _ h9 => h9) rfl d_Cmd_nothingTold_10 ?_
    refine lv_iload_n hx hb d_Cmd_nothingTold_13 rfl (lv_at hl 0 rfl) ?_
    refine lv_iconst (v := 0) hx hb d_Cmd_nothingTold_14 (by decide) ?_
    refine va_iast hx hb hC.1 hP hD hS 1 0 rfl rfl (vp_in_nI (by omega) (by omega)) d_Cmd_nothingTold_15 (fun H locs hP hD hS => ?_)
    have hP : va_P D classes [(h0, .inr (13, [.int fl0, .ref xm, .int fl1, .int fl2, .ref xs, .int fl3, .int fl4, .int fl5, .ref xb, .int fl6, .int fl7, .int fl8, .int fl9, .int fl10, .int fl11, .int fl12, .ref xa, .ref ke])), (ke, .inl (cI, 4160, .inl (upd f394 ((nI i) : Int32).toNatClampNeg 0)))] H := hP
    have hD : va_D A [(h0, .inr (13, [.int fl0, .ref xm, .int fl1, .int fl2, .ref xs, .int fl3, .int fl4, .int fl5, .ref xb, .int fl6, .int fl7, .int fl8, .int fl9, .int fl10, .int fl11, .int fl12, .ref xa, .ref ke])), (ke, .inl (cI, 4160, .inl (upd f394 ((nI i) : Int32).toNatClampNeg 0)))] := hD
    generalize upd f394 ((nI i) : Int32).toNatClampNeg 0 = f397 at hP hD
    refine lv_iinc (v := (nI (i + 1))) (lv' := [(1, .int (nI (i + 1))), (0, .ref h0)]) hx hb d_Cmd_nothingTold_16 hl (k := 0) rfl (show nI i + 1 = nI (i + 1) from nI_1 i) (by decide) rfl (fun ls hl => ?_)
    refine lv_goto (tgt := 2) hx hb d_Cmd_nothingTold_19 (by decide) ?_
    exact ih (i + 1) f397 (by omega) _ _ _ hP hD hS (lv_sub hl [0, 1] rfl)
theorem gS_Cmd_110 : GoodIn tw (va_wsS "DrawingMachineModel$DrawCommandsModel" 110 y_Cmd_many ((Cond.code y_Cmd_many prog_15_method_10_code 1 (some .int)) :: tw)) := tw_pre (fun _ h => h) (tw_good (fun _ h => h) k703) (List.forall_mem_cons.mpr ⟨k701, List.forall_mem_cons.mpr ⟨k702, List.forall_mem_cons.mpr ⟨k137, fun _ h => absurd h List.not_mem_nil⟩⟩⟩)
theorem gS_Cmd_113 : GoodIn tw (va_wsS "DrawingMachineModel$DrawCommandsModel" 113 y_Cmd_rowOf ((Cond.code y_Cmd_rowOf prog_15_method_11_code 2 (some .int)) :: tw)) := tw_pre (fun _ h => h) (tw_good (fun _ h => h) k664) (List.forall_mem_cons.mpr ⟨k704, List.forall_mem_cons.mpr ⟨k663, List.forall_mem_cons.mpr ⟨k137, fun _ h => absurd h List.not_mem_nil⟩⟩⟩)
set_option maxHeartbeats 4000000 in
set_option maxRecDepth 100000 in
theorem lp_nothingTold_32 {p : Program} {l : Launch} {e : Env} {R : Room} {s : State} {m : MethodId} {args : Array Value} {below : List Frame} {meth : Method} {c : Code} {Q : State → Prop} {A : Nat → Prop} (D : va_G) (cI cL : ClassId) (B : Nat) (h0 : Nat) (ke : Nat) (xm : Nat) (xs : Nat) (xb : Nat) (xa : Nat) (fl0 : Int32) (fl1 : Int32) (fl2 : Int32) (fl3 : Int32) (fl4 : Int32) (fl5 : Int32) (fl6 : Int32) (fl7 : Int32) (fl8 : Int32) (fl9 : Int32) (fl10 : Int32) (fl11 : Int32) (fl12 : Int32) (kd : Nat) (hk : kd < 26) (cells slots : Nat) (hx : p.tables.exec = Jvm.exec) (hb : c.code = prog_15_method_12_code) (hml : c.maxLocals = 3) (hown : s.vm.findClass "DrawingMachineModel$DrawCommandsModel" = some m.cls) (htw : ∀ w ∈ tw, w.before args s = true) (hC : wC D cI cL B A s) (hRf : 40 ≤ R.frames) (hRl : 4000 ≤ R.locals) (hRc : cells ≤ R.cells) (hRs : slots ≤ R.slots) (hN : mny kd < 100000)
    (kx : ∀ (f402 : Nat → Int32) (H : Heap) (locs : List Loc) (ls : Array Slot), va_P D classes [(h0, .inr (13, [.int fl0, .ref xm, .int fl1, .int fl2, .ref xs, .int fl3, .int fl4, .int fl5, .ref xb, .int fl6, .int fl7, .int fl8, .int fl9, .int fl10, .int fl11, .int fl12, .ref xa, .ref ke])), (ke, .inl (cI, 4160, .inl f402))] H → va_D A [(h0, .inr (13, [.int fl0, .ref xm, .int fl1, .int fl2, .ref xs, .int fl3, .int fl4, .int fl5, .ref xb, .int fl6, .int fl7, .int fl8, .int fl9, .int fl10, .int fl11, .int fl12, .ref xa, .ref ke])), (ke, .inl (cI, 4160, .inl f402))] → va_S A s.heap H locs → lv_has ls 3 [(1, .int (nI kd)), (0, .ref h0)] → W p l e R s m args below meth c H locs cells slots Q (F0 m 65 ls [])) :
    ∀ (k i : Nat) (f402 : Nat → Int32), i + k = mny kd → ∀ (H : Heap) (locs : List Loc) (ls : Array Slot), va_P D classes [(h0, .inr (13, [.int fl0, .ref xm, .int fl1, .int fl2, .ref xs, .int fl3, .int fl4, .int fl5, .ref xb, .int fl6, .int fl7, .int fl8, .int fl9, .int fl10, .int fl11, .int fl12, .ref xa, .ref ke])), (ke, .inl (cI, 4160, .inl f402))] H → va_D A [(h0, .inr (13, [.int fl0, .ref xm, .int fl1, .int fl2, .ref xs, .int fl3, .int fl4, .int fl5, .ref xb, .int fl6, .int fl7, .int fl8, .int fl9, .int fl10, .int fl11, .int fl12, .ref xa, .ref ke])), (ke, .inl (cI, 4160, .inl f402))] → va_S A s.heap H locs → lv_has ls 3 [(2, .int (nI i)), (1, .int (nI kd)), (0, .ref h0)] → W p l e R s m args below meth c H locs cells slots Q (F0 m 32 ls []) := by
  intro k
  induction k with
  | zero =>
    intro i f402 hi H locs ls hP hD hS hl
    obtain rfl : i = mny kd := hi
    refine lv_iload_n hx hb d_Cmd_nothingTold_32 rfl (lv_at hl 0 rfl) ?_
    refine lv_iload_n hx hb d_Cmd_nothingTold_33 rfl (lv_at hl 1 rfl) ?_
    refine wc_i (wr := [(h0, .inr (13, [.int fl0, .ref xm, .int fl1, .int fl2, .ref xs, .int fl3, .int fl4, .int fl5, .ref xb, .int fl6, .int fl7, .int fl8, .int fl9, .int fl10, .int fl11, .int fl12, .ref xa, .ref ke])), (ke, .inl (cI, 4160, .inl f402))]) hC hP hD hS [] [0, 1] rfl rfl (by decide) (by decide) (va_runS (As := [.int (nI kd)]) (rest := [.int (nI (mny kd))]) ⟨hx, hb, hml, hown, htw⟩ (c_many l D cI cL B _ kd (hk)) (va_cwS 1 htw gS_Cmd_110 rfl rfl rfl (by decide +kernel) ⟨Nat.le_trans (Nat.le_of_ble_eq_true rfl) hRf, Nat.le_trans (Nat.le_of_ble_eq_true rfl) hRl⟩) (wC_pre hC hP hD hS [] (by decide) rfl) rfl rfl hl.1 rfl (lv_room (Nat.le_of_ble_eq_true rfl)) d_Cmd_nothingTold_34 ⟨hRc, hRs⟩) (fun r405 u403 H locs hw404 hP hD hS => ?_)
    obtain rfl : r405 = (nI (mny kd)) := hw404
    have hP : va_P D classes [(h0, .inr (13, [.int fl0, .ref xm, .int fl1, .int fl2, .ref xs, .int fl3, .int fl4, .int fl5, .ref xb, .int fl6, .int fl7, .int fl8, .int fl9, .int fl10, .int fl11, .int fl12, .ref xa, .ref ke])), (ke, .inl (cI, 4160, .inl f402))] H := hP
    have hD : va_D A [(h0, .inr (13, [.int fl0, .ref xm, .int fl1, .int fl2, .ref xs, .int fl3, .int fl4, .int fl5, .ref xb, .int fl6, .int fl7, .int fl8, .int fl9, .int fl10, .int fl11, .int fl12, .ref xa, .ref ke])), (ke, .inl (cI, 4160, .inl f402))] := hD
    refine lv_icmp_ge (tgt := 65) hx hb d_Cmd_nothingTold_37 (by decide) (fun c_406 => ?_) (fun c_406 => absurd (Int32.le_refl _) c_406)
    exact kx f402 _ _ _ hP hD hS (lv_sub hl [1, 2] rfl)
  | succ k ih =>
    intro i f402 hi H locs ls hP hD hS hl
    refine lv_iload_n hx hb d_Cmd_nothingTold_32 rfl (lv_at hl 0 rfl) ?_
    refine lv_iload_n hx hb d_Cmd_nothingTold_33 rfl (lv_at hl 1 rfl) ?_
    refine wc_i (wr := [(h0, .inr (13, [.int fl0, .ref xm, .int fl1, .int fl2, .ref xs, .int fl3, .int fl4, .int fl5, .ref xb, .int fl6, .int fl7, .int fl8, .int fl9, .int fl10, .int fl11, .int fl12, .ref xa, .ref ke])), (ke, .inl (cI, 4160, .inl f402))]) hC hP hD hS [] [0, 1] rfl rfl (by decide) (by decide) (va_runS (As := [.int (nI kd)]) (rest := [.int (nI i)]) ⟨hx, hb, hml, hown, htw⟩ (c_many l D cI cL B _ kd (hk)) (va_cwS 1 htw gS_Cmd_110 rfl rfl rfl (by decide +kernel) ⟨Nat.le_trans (Nat.le_of_ble_eq_true rfl) hRf, Nat.le_trans (Nat.le_of_ble_eq_true rfl) hRl⟩) (wC_pre hC hP hD hS [] (by decide) rfl) rfl rfl hl.1 rfl (lv_room (Nat.le_of_ble_eq_true rfl)) d_Cmd_nothingTold_34 ⟨hRc, hRs⟩) (fun r409 u407 H locs hw408 hP hD hS => ?_)
    obtain rfl : r409 = (nI (mny kd)) := hw408
    have hP : va_P D classes [(h0, .inr (13, [.int fl0, .ref xm, .int fl1, .int fl2, .ref xs, .int fl3, .int fl4, .int fl5, .ref xb, .int fl6, .int fl7, .int fl8, .int fl9, .int fl10, .int fl11, .int fl12, .ref xa, .ref ke])), (ke, .inl (cI, 4160, .inl f402))] H := hP
    have hD : va_D A [(h0, .inr (13, [.int fl0, .ref xm, .int fl1, .int fl2, .ref xs, .int fl3, .int fl4, .int fl5, .ref xb, .int fl6, .int fl7, .int fl8, .int fl9, .int fl10, .int fl11, .int fl12, .ref xa, .ref ke])), (ke, .inl (cI, 4160, .inl f402))] := hD
    refine lv_icmp_ge (tgt := 65) hx hb d_Cmd_nothingTold_37 (by decide) (fun c_410 => absurd c_410 (nI_ge (by omega) (Nat.lt_trans (mny_lt kd) (by decide)))) (fun c_410 => ?_)
    refine lv_iload_n hx hb d_Cmd_nothingTold_40 rfl (lv_at hl 1 rfl) ?_
    refine wc_i (wr := [(h0, .inr (13, [.int fl0, .ref xm, .int fl1, .int fl2, .ref xs, .int fl3, .int fl4, .int fl5, .ref xb, .int fl6, .int fl7, .int fl8, .int fl9, .int fl10, .int fl11, .int fl12, .ref xa, .ref ke])), (ke, .inl (cI, 4160, .inl f402))]) hC hP hD hS [] [0, 1] rfl rfl (by decide) (by decide) (va_runS (As := [.int (nI kd)]) (rest := []) ⟨hx, hb, hml, hown, htw⟩ (c_many l D cI cL B _ kd (hk)) (va_cwS 1 htw gS_Cmd_110 rfl rfl rfl (by decide +kernel) ⟨Nat.le_trans (Nat.le_of_ble_eq_true rfl) hRf, Nat.le_trans (Nat.le_of_ble_eq_true rfl) hRl⟩) (wC_pre hC hP hD hS [] (by decide) rfl) rfl rfl hl.1 rfl (lv_room (Nat.le_of_ble_eq_true rfl)) d_Cmd_nothingTold_41 ⟨hRc, hRs⟩) (fun r413 u411 H locs hw412 hP hD hS => ?_)
    obtain rfl : r413 = (nI (mny kd)) := hw412
    have hP : va_P D classes [(h0, .inr (13, [.int fl0, .ref xm, .int fl1, .int fl2, .ref xs, .int fl3, .int fl4, .int fl5, .ref xb, .int fl6, .int fl7, .int fl8, .int fl9, .int fl10, .int fl11, .int fl12, .ref xa, .ref ke])), (ke, .inl (cI, 4160, .inl f402))] H := hP
    have hD : va_D A [(h0, .inr (13, [.int fl0, .ref xm, .int fl1, .int fl2, .ref xs, .int fl3, .int fl4, .int fl5, .ref xb, .int fl6, .int fl7, .int fl8, .int fl9, .int fl10, .int fl11, .int fl12, .ref xa, .ref ke])), (ke, .inl (cI, 4160, .inl f402))] := hD
    refine lv_iconst (v := 1) hx hb d_Cmd_nothingTold_44 (by decide) ?_
    refine lv_icmp_le (tgt := 65) hx hb d_Cmd_nothingTold_45 (by decide) (fun c_414 => ?_) (fun c_414 => ?_)
    ·
      exact kx f402 _ _ _ hP hD hS (lv_sub hl [1, 2] rfl)
    ·
      refine lv_aload_n hx hb d_Cmd_nothingTold_48 rfl (lv_at hl 2 rfl) ?_
      refine va_get (D := D) (ci := 13) (v := .ref ke) (C := R_Cmd) (T := F_Cmd) (N := 18) hx hb htw i_Cmd hown hC.1 hP 0 rfl rfl 17 (by decide) (htw _ k563) (fun _ h9 => h9) rfl d_Cmd_nothingTold_49 ?_
      refine lv_iload_n hx hb d_Cmd_nothingTold_52 rfl (lv_at hl 1 rfl) ?_
      refine lv_iload_n hx hb d_Cmd_nothingTold_53 rfl (lv_at hl 0 rfl) ?_
      refine wc_i (wr := [(h0, .inr (13, [.int fl0, .ref xm, .int fl1, .int fl2, .ref xs, .int fl3, .int fl4, .int fl5, .ref xb, .int fl6, .int fl7, .int fl8, .int fl9, .int fl10, .int fl11, .int fl12, .ref xa, .ref ke])), (ke, .inl (cI, 4160, .inl f402))]) hC hP hD hS [] [0, 1] rfl rfl (by decide) (by decide) (va_runS (As := [.int (nI kd), .int (nI i)]) (rest := [.ref ke]) ⟨hx, hb, hml, hown, htw⟩ (c_rowOf l D cI cL B _ kd i (hk)) (va_cwS 2 htw gS_Cmd_113 rfl rfl rfl (by decide +kernel) ⟨Nat.le_trans (Nat.le_of_ble_eq_true rfl) hRf, Nat.le_trans (Nat.le_of_ble_eq_true rfl) hRl⟩) (wC_pre hC hP hD hS [] (by decide) rfl) rfl rfl hl.1 rfl (lv_room (Nat.le_of_ble_eq_true rfl)) d_Cmd_nothingTold_54 ⟨hRc, hRs⟩) (fun r417 u415 H locs hw416 hP hD hS => ?_)
      obtain rfl : r417 = (nI (160 * kd + i * cnt kd)) := hw416
      have hP : va_P D classes [(h0, .inr (13, [.int fl0, .ref xm, .int fl1, .int fl2, .ref xs, .int fl3, .int fl4, .int fl5, .ref xb, .int fl6, .int fl7, .int fl8, .int fl9, .int fl10, .int fl11, .int fl12, .ref xa, .ref ke])), (ke, .inl (cI, 4160, .inl f402))] H := hP
      have hD : va_D A [(h0, .inr (13, [.int fl0, .ref xm, .int fl1, .int fl2, .ref xs, .int fl3, .int fl4, .int fl5, .ref xb, .int fl6, .int fl7, .int fl8, .int fl9, .int fl10, .int fl11, .int fl12, .ref xa, .ref ke])), (ke, .inl (cI, 4160, .inl f402))] := hD
      refine lv_iload_n hx hb d_Cmd_nothingTold_57 rfl (lv_at hl 0 rfl) ?_
      refine va_iast hx hb hC.1 hP hD hS 1 0 rfl rfl (vp_in_nI (row_lt hk (by omega)) (by decide)) d_Cmd_nothingTold_58 (fun H locs hP hD hS => ?_)
      have hP : va_P D classes [(h0, .inr (13, [.int fl0, .ref xm, .int fl1, .int fl2, .ref xs, .int fl3, .int fl4, .int fl5, .ref xb, .int fl6, .int fl7, .int fl8, .int fl9, .int fl10, .int fl11, .int fl12, .ref xa, .ref ke])), (ke, .inl (cI, 4160, .inl (upd f402 ((nI (160 * kd + i * cnt kd)) : Int32).toNatClampNeg (nI i))))] H := hP
      have hD : va_D A [(h0, .inr (13, [.int fl0, .ref xm, .int fl1, .int fl2, .ref xs, .int fl3, .int fl4, .int fl5, .ref xb, .int fl6, .int fl7, .int fl8, .int fl9, .int fl10, .int fl11, .int fl12, .ref xa, .ref ke])), (ke, .inl (cI, 4160, .inl (upd f402 ((nI (160 * kd + i * cnt kd)) : Int32).toNatClampNeg (nI i))))] := hD
      generalize upd f402 ((nI (160 * kd + i * cnt kd)) : Int32).toNatClampNeg (nI i) = f418 at hP hD
      refine lv_iinc (v := (nI (i + 1))) (lv' := [(2, .int (nI (i + 1))), (1, .int (nI kd)), (0, .ref h0)]) hx hb d_Cmd_nothingTold_59 hl (k := 0) rfl (show nI i + 1 = nI (i + 1) from nI_1 i) (by decide) rfl (fun ls hl => ?_)
      refine lv_goto (tgt := 32) hx hb d_Cmd_nothingTold_62 (by decide) ?_
      exact ih (i + 1) f418 (by omega) _ _ _ hP hD hS (lv_sub hl [0, 1, 2] rfl)
set_option maxHeartbeats 4000000 in
set_option maxRecDepth 100000 in
theorem lp_nothingTold_24 {p : Program} {l : Launch} {e : Env} {R : Room} {s : State} {m : MethodId} {args : Array Value} {below : List Frame} {meth : Method} {c : Code} {Q : State → Prop} {A : Nat → Prop} (D : va_G) (cI cL : ClassId) (B : Nat) (h0 : Nat) (ke : Nat) (xm : Nat) (xs : Nat) (xb : Nat) (xa : Nat) (fl0 : Int32) (fl1 : Int32) (fl2 : Int32) (fl3 : Int32) (fl4 : Int32) (fl5 : Int32) (fl6 : Int32) (fl7 : Int32) (fl8 : Int32) (fl9 : Int32) (fl10 : Int32) (fl11 : Int32) (fl12 : Int32) (cells slots : Nat) (hx : p.tables.exec = Jvm.exec) (hb : c.code = prog_15_method_12_code) (hml : c.maxLocals = 3) (hown : s.vm.findClass "DrawingMachineModel$DrawCommandsModel" = some m.cls) (htw : ∀ w ∈ tw, w.before args s = true) (hC : wC D cI cL B A s) (hRf : 40 ≤ R.frames) (hRl : 4000 ≤ R.locals) (hRc : cells ≤ R.cells) (hRs : slots ≤ R.slots) (hN : 26 < 100000)
    (kx : ∀ (f399 : Nat → Int32) (H : Heap) (locs : List Loc) (ls : Array Slot), va_P D classes [(h0, .inr (13, [.int fl0, .ref xm, .int fl1, .int fl2, .ref xs, .int fl3, .int fl4, .int fl5, .ref xb, .int fl6, .int fl7, .int fl8, .int fl9, .int fl10, .int fl11, .int fl12, .ref xa, .ref ke])), (ke, .inl (cI, 4160, .inl f399))] H → va_D A [(h0, .inr (13, [.int fl0, .ref xm, .int fl1, .int fl2, .ref xs, .int fl3, .int fl4, .int fl5, .ref xb, .int fl6, .int fl7, .int fl8, .int fl9, .int fl10, .int fl11, .int fl12, .ref xa, .ref ke])), (ke, .inl (cI, 4160, .inl f399))] → va_S A s.heap H locs → lv_has ls 3 [(1, .int (nI 26)), (0, .ref h0)] → W p l e R s m args below meth c H locs cells slots Q (F0 m 71 ls [])) :
    ∀ (kk kd : Nat) (f399 : Nat → Int32), kd + kk = 26 → ∀ (H : Heap) (locs : List Loc) (ls : Array Slot), va_P D classes [(h0, .inr (13, [.int fl0, .ref xm, .int fl1, .int fl2, .ref xs, .int fl3, .int fl4, .int fl5, .ref xb, .int fl6, .int fl7, .int fl8, .int fl9, .int fl10, .int fl11, .int fl12, .ref xa, .ref ke])), (ke, .inl (cI, 4160, .inl f399))] H → va_D A [(h0, .inr (13, [.int fl0, .ref xm, .int fl1, .int fl2, .ref xs, .int fl3, .int fl4, .int fl5, .ref xb, .int fl6, .int fl7, .int fl8, .int fl9, .int fl10, .int fl11, .int fl12, .ref xa, .ref ke])), (ke, .inl (cI, 4160, .inl f399))] → va_S A s.heap H locs → lv_has ls 3 [(1, .int (nI kd)), (0, .ref h0)] → W p l e R s m args below meth c H locs cells slots Q (F0 m 24 ls []) := by
  intro kk
  induction kk with
  | zero =>
    intro kd f399 hi H locs ls hP hD hS hl
    obtain rfl : kd = 26 := hi
    refine lv_iload_n hx hb d_Cmd_nothingTold_24 rfl (lv_at hl 0 rfl) ?_
    refine lv_bipush (v := 26) hx hb d_Cmd_nothingTold_25 (by decide) ?_
    refine lv_icmp_ge (tgt := 71) hx hb d_Cmd_nothingTold_27 (by decide) (fun c_400 => ?_) (fun c_400 => absurd (Int32.le_refl _) c_400)
    exact kx f399 _ _ _ hP hD hS (lv_sub hl [0, 1] rfl)
  | succ kk ih =>
    intro kd f399 hi H locs ls hP hD hS hl
    refine lv_iload_n hx hb d_Cmd_nothingTold_24 rfl (lv_at hl 0 rfl) ?_
    refine lv_bipush (v := 26) hx hb d_Cmd_nothingTold_25 (by decide) ?_
    refine lv_icmp_ge (tgt := 71) hx hb d_Cmd_nothingTold_27 (by decide) (fun c_401 => absurd c_401 (nI_ge (a := kd) (b := 26) (by omega) (by omega))) (fun c_401 => ?_)
    refine lv_iconst (v := 0) hx hb d_Cmd_nothingTold_30 (by decide) ?_
    refine lv_istore_n (lv' := [(2, .int 0), (1, .int (nI kd)), (0, .ref h0)]) hx hb d_Cmd_nothingTold_31 rfl hl (by decide) rfl (fun ls hl => ?_)
    refine lp_nothingTold_32 D cI cL B h0 ke xm xs xb xa fl0 fl1 fl2 fl3 fl4 fl5 fl6 fl7 fl8 fl9 fl10 fl11 fl12 kd (by omega) cells slots hx hb hml hown htw hC hRf hRl hRc hRs (mny_lt kd) (fun f419 H locs ls hP hD hS hl => ?_) (mny kd) 0 f399 (Nat.zero_add _) _ _ _ hP hD hS (lv_sub hl [0, 1, 2] rfl)
    refine lv_iinc (v := (nI (kd + 1))) (lv' := [(1, .int (nI (kd + 1))), (0, .ref h0)]) hx hb d_Cmd_nothingTold_65 hl (k := 0) rfl (show nI kd + 1 = nI (kd + 1) from nI_1 kd) (by decide) rfl (fun ls hl => ?_)
    refine lv_goto (tgt := 24) hx hb d_Cmd_nothingTold_68 (by decide) ?_
    exact ih (kd + 1) f419 (by omega) _ _ _ hP hD hS (lv_sub hl [0, 1] rfl)
set_option maxHeartbeats 4000000 in
set_option maxRecDepth 100000 in
theorem c_nothingTold (l : Launch) (D : va_G) (cI cL : ClassId) (B sz : Nat) (h0 : Nat) (ke : Nat) (f : Nat → Int32) (xm : Nat) (xs : Nat) (xb : Nat) (xa : Nat) (fl0 : Int32) (fl1 : Int32) (fl2 : Int32) (fl3 : Int32) (fl4 : Int32) (fl5 : Int32) (fl6 : Int32) (fl7 : Int32) (fl8 : Int32) (fl9 : Int32) (fl10 : Int32) (fl11 : Int32) (fl12 : Int32) : Met l y_Cmd_nothingTold ((Cond.code y_Cmd_nothingTold prog_15_method_12_code 3 none) :: tw) ({ frames := 40, cells := 0, slots := 0, locals := 4000 }) (va_Pc [.ref h0] (wP D cI cL B sz [(h0, .inr (13, [.int fl0, .ref xm, .int fl1, .int fl2, .ref xs, .int fl3, .int fl4, .int fl5, .ref xb, .int fl6, .int fl7, .int fl8, .int fl9, .int fl10, .int fl11, .int fl12, .ref xa, .ref ke])), (ke, .inl (cI, 4160, .inl f))])) (va_Qv (S := Nat → Int32) (fun _ => True) (fun u => wB D cI cL (va_A [(h0, .inr (13, [.int fl0, .ref xm, .int fl1, .int fl2, .ref xs, .int fl3, .int fl4, .int fl5, .ref xb, .int fl6, .int fl7, .int fl8, .int fl9, .int fl10, .int fl11, .int fl12, .ref xa, .ref ke])), (ke, .inl (cI, 4160, .inl f))] sz) ((fun f491 : Nat → Int32 => [(h0, .inr (13, [.int fl0, .ref xm, .int fl1, .int fl2, .ref xs, .int fl3, .int fl4, .int fl5, .ref xb, .int fl6, .int fl7, .int fl8, .int fl9, .int fl10, .int fl11, .int fl12, .ref xa, .ref ke])), (ke, .inl (cI, 4160, .inl f491))]) u)) (va_A [(h0, .inr (13, [.int fl0, .ref xm, .int fl1, .int fl2, .ref xs, .int fl3, .int fl4, .int fl5, .ref xb, .int fl6, .int fl7, .int fl8, .int fl9, .int fl10, .int fl11, .int fl12, .ref xa, .ref ke])), (ke, .inl (cI, 4160, .inl f))] sz)) 0 0 (va_A [(h0, .inr (13, [.int fl0, .ref xm, .int fl1, .int fl2, .ref xs, .int fl3, .int fl4, .int fl5, .ref xb, .int fl6, .int fl7, .int fl8, .int fl9, .int fl10, .int fl11, .int fl12, .ref xa, .ref ke])), (ke, .inl (cI, 4160, .inl f))] sz) := by
  refine Met.ofW (cc := prog_15_method_12_code) (maxL := 3) (ret := none) (by decide) rfl ?_
  intro p e s m args below meth c s₁ B0 hml hv
  obtain ⟨rfl, hv⟩ := hv
  have hx := B0.exec
  have hb := B0.bytes
  have hr := B0.returns
  have hts := atoms_spec (ws := (Cond.code y_Cmd_nothingTold prog_15_method_12_code 3 none) :: tw) B0.pre
  have htw : ∀ w ∈ tw, w.before _ s = true := fun w hw => hts w (List.mem_cons_of_mem _ hw)
  have hown : s.vm.findClass "DrawingMachineModel$DrawCommandsModel" = some m.cls := findClass_of_methodNamed B0.named
  have hlocks := B0.notSynchronized
  obtain ⟨hC, hP, hD, hsz⟩ := wC_init hv
  subst hsz
  generalize hAe : va_A [(h0, .inr (13, [.int fl0, .ref xm, .int fl1, .int fl2, .ref xs, .int fl3, .int fl4, .int fl5, .ref xb, .int fl6, .int fl7, .int fl8, .int fl9, .int fl10, .int fl11, .int fl12, .ref xa, .ref ke])), (ke, .inl (cI, 4160, .inl f))] s.heap.size = A at hC hD ⊢
  have hS : va_S A s.heap s.heap [] := va_S.rf
  have hl := lv_entry ([.ref h0]) (n := 3) (Nat.le_of_ble_eq_true rfl)
  rw [lg_entry_eq]
  generalize (lg_sl ([.ref h0]) ++ List.replicate (3 - (lg_sl ([.ref h0])).length) Slot.unset).toArray = ls at hl ⊢
  have hl : lv_has ls 3 [(0, .ref h0)] := hl
  refine lv_iconst (v := 0) hx hb d_Cmd_nothingTold_0 (by decide) ?_
  refine lv_istore_n (lv' := [(1, .int 0), (0, .ref h0)]) hx hb d_Cmd_nothingTold_1 rfl hl (by decide) rfl (fun ls hl => ?_)
  refine lp_nothingTold_2 D cI cL B h0 ke xm xs xb xa fl0 fl1 fl2 fl3 fl4 fl5 fl6 fl7 fl8 fl9 fl10 fl11 fl12 0 0 hx hb hml hown htw hC (Nat.le_of_ble_eq_true rfl) (Nat.le_of_ble_eq_true rfl) (Nat.le_of_ble_eq_true rfl) (Nat.le_of_ble_eq_true rfl) (by omega) (fun f398 H locs ls hP hD hS hl => ?_) 4160 0 f (Nat.zero_add _) _ _ _ hP hD hS (lv_sub hl [0, 1] rfl)
  refine lv_iconst (v := 0) hx hb d_Cmd_nothingTold_22 (by decide) ?_
  refine lv_istore_n (lv' := [(1, .int 0), (0, .ref h0)]) hx hb d_Cmd_nothingTold_23 rfl hl (by decide) rfl (fun ls hl => ?_)
  refine lp_nothingTold_24 D cI cL B h0 ke xm xs xb xa fl0 fl1 fl2 fl3 fl4 fl5 fl6 fl7 fl8 fl9 fl10 fl11 fl12 0 0 hx hb hml hown htw hC (Nat.le_of_ble_eq_true rfl) (Nat.le_of_ble_eq_true rfl) (Nat.le_of_ble_eq_true rfl) (Nat.le_of_ble_eq_true rfl) (by omega) (fun f420 H locs ls hP hD hS hl => ?_) 26 0 f398 (Nat.zero_add _) _ _ _ hP hD hS (lv_sub hl [0, 1] rfl)
  refine lv_aload_n hx hb d_Cmd_nothingTold_71 rfl (lv_at hl 1 rfl) ?_
  refine va_get (D := D) (ci := 13) (v := .ref ke) (C := R_Cmd) (T := F_Cmd) (N := 18) hx hb htw i_Cmd hown hC.1 hP 0 rfl rfl 17 (by decide) (htw _ k563) (fun _ h9 => h9) rfl d_Cmd_nothingTold_72 ?_
  refine lv_iconst (v := 2) hx hb d_Cmd_nothingTold_75 (by decide) ?_
  refine lv_iconst (v := 0) hx hb d_Cmd_nothingTold_76 (by decide) ?_
  refine wc_i (wr := [(h0, .inr (13, [.int fl0, .ref xm, .int fl1, .int fl2, .ref xs, .int fl3, .int fl4, .int fl5, .ref xb, .int fl6, .int fl7, .int fl8, .int fl9, .int fl10, .int fl11, .int fl12, .ref xa, .ref ke])), (ke, .inl (cI, 4160, .inl f420))]) hC hP hD hS [] [0, 1] rfl rfl (by decide) (by decide) (va_runS (As := [.int 2, .int 0]) (rest := [.ref ke]) ⟨hx, hb, hml, hown, htw⟩ (c_rowOf l D cI cL B _ 2 0 (by decide)) (va_cwS 2 htw gS_Cmd_113 rfl rfl rfl (by decide +kernel) ⟨Nat.le_of_ble_eq_true rfl, Nat.le_of_ble_eq_true rfl⟩) (wC_pre hC hP hD hS [] (by decide) rfl) rfl rfl hl.1 rfl (lv_room (Nat.le_of_ble_eq_true rfl)) d_Cmd_nothingTold_77 ⟨Nat.le_of_ble_eq_true rfl, Nat.le_of_ble_eq_true rfl⟩) (fun r423 u421 H locs hw422 hP hD hS => ?_)
  obtain rfl : r423 = (nI (160 * 2 + 0 * cnt 2)) := hw422
  have hP : va_P D classes [(h0, .inr (13, [.int fl0, .ref xm, .int fl1, .int fl2, .ref xs, .int fl3, .int fl4, .int fl5, .ref xb, .int fl6, .int fl7, .int fl8, .int fl9, .int fl10, .int fl11, .int fl12, .ref xa, .ref ke])), (ke, .inl (cI, 4160, .inl f420))] H := hP
  have hD : va_D A [(h0, .inr (13, [.int fl0, .ref xm, .int fl1, .int fl2, .ref xs, .int fl3, .int fl4, .int fl5, .ref xb, .int fl6, .int fl7, .int fl8, .int fl9, .int fl10, .int fl11, .int fl12, .ref xa, .ref ke])), (ke, .inl (cI, 4160, .inl f420))] := hD
  refine W.widen (k := 0) (n := 0) (by omega) (by omega) ?_
  refine lv_iconst (v := 2) hx hb d_Cmd_nothingTold_80 (by decide) ?_
  refine lv_iadd hx hb d_Cmd_nothingTold_81 ?_
  refine lv_iconst (v := 1) hx hb d_Cmd_nothingTold_82 (by decide) ?_
  refine va_iast hx hb hC.1 hP hD hS 1 0 rfl rfl (by unfold vp_in; decide) d_Cmd_nothingTold_83 (fun H locs hP hD hS => ?_)
  have hP : va_P D classes [(h0, .inr (13, [.int fl0, .ref xm, .int fl1, .int fl2, .ref xs, .int fl3, .int fl4, .int fl5, .ref xb, .int fl6, .int fl7, .int fl8, .int fl9, .int fl10, .int fl11, .int fl12, .ref xa, .ref ke])), (ke, .inl (cI, 4160, .inl (upd f420 (((nI (160 * 2 + 0 * cnt 2)) + 2) : Int32).toNatClampNeg 1)))] H := hP
  have hD : va_D A [(h0, .inr (13, [.int fl0, .ref xm, .int fl1, .int fl2, .ref xs, .int fl3, .int fl4, .int fl5, .ref xb, .int fl6, .int fl7, .int fl8, .int fl9, .int fl10, .int fl11, .int fl12, .ref xa, .ref ke])), (ke, .inl (cI, 4160, .inl (upd f420 (((nI (160 * 2 + 0 * cnt 2)) + 2) : Int32).toNatClampNeg 1)))] := hD
  generalize upd f420 (((nI (160 * 2 + 0 * cnt 2)) + 2) : Int32).toNatClampNeg 1 = f424 at hP hD
  refine lv_aload_n hx hb d_Cmd_nothingTold_84 rfl (lv_at hl 1 rfl) ?_
  refine va_get (D := D) (ci := 13) (v := .ref ke) (C := R_Cmd) (T := F_Cmd) (N := 18) hx hb htw i_Cmd hown hC.1 hP 0 rfl rfl 17 (by decide) (htw _ k563) (fun _ h9 => h9) rfl d_Cmd_nothingTold_85 ?_
  refine lv_iconst (v := 2) hx hb d_Cmd_nothingTold_88 (by decide) ?_
  refine lv_iconst (v := 0) hx hb d_Cmd_nothingTold_89 (by decide) ?_
  refine wc_i (wr := [(h0, .inr (13, [.int fl0, .ref xm, .int fl1, .int fl2, .ref xs, .int fl3, .int fl4, .int fl5, .ref xb, .int fl6, .int fl7, .int fl8, .int fl9, .int fl10, .int fl11, .int fl12, .ref xa, .ref ke])), (ke, .inl (cI, 4160, .inl f424))]) hC hP hD hS [] [0, 1] rfl rfl (by decide) (by decide) (va_runS (As := [.int 2, .int 0]) (rest := [.ref ke]) ⟨hx, hb, hml, hown, htw⟩ (c_rowOf l D cI cL B _ 2 0 (by decide)) (va_cwS 2 htw gS_Cmd_113 rfl rfl rfl (by decide +kernel) ⟨Nat.le_of_ble_eq_true rfl, Nat.le_of_ble_eq_true rfl⟩) (wC_pre hC hP hD hS [] (by decide) rfl) rfl rfl hl.1 rfl (lv_room (Nat.le_of_ble_eq_true rfl)) d_Cmd_nothingTold_90 ⟨Nat.le_of_ble_eq_true rfl, Nat.le_of_ble_eq_true rfl⟩) (fun r427 u425 H locs hw426 hP hD hS => ?_)
  obtain rfl : r427 = (nI (160 * 2 + 0 * cnt 2)) := hw426
  have hP : va_P D classes [(h0, .inr (13, [.int fl0, .ref xm, .int fl1, .int fl2, .ref xs, .int fl3, .int fl4, .int fl5, .ref xb, .int fl6, .int fl7, .int fl8, .int fl9, .int fl10, .int fl11, .int fl12, .ref xa, .ref ke])), (ke, .inl (cI, 4160, .inl f424))] H := hP
  have hD : va_D A [(h0, .inr (13, [.int fl0, .ref xm, .int fl1, .int fl2, .ref xs, .int fl3, .int fl4, .int fl5, .ref xb, .int fl6, .int fl7, .int fl8, .int fl9, .int fl10, .int fl11, .int fl12, .ref xa, .ref ke])), (ke, .inl (cI, 4160, .inl f424))] := hD
  refine W.widen (k := 0) (n := 0) (by omega) (by omega) ?_
  refine lv_iconst (v := 3) hx hb d_Cmd_nothingTold_93 (by decide) ?_
  refine lv_iadd hx hb d_Cmd_nothingTold_94 ?_
  refine lv_iconst (v := 1) hx hb d_Cmd_nothingTold_95 (by decide) ?_
  refine va_iast hx hb hC.1 hP hD hS 1 0 rfl rfl (by unfold vp_in; decide) d_Cmd_nothingTold_96 (fun H locs hP hD hS => ?_)
  have hP : va_P D classes [(h0, .inr (13, [.int fl0, .ref xm, .int fl1, .int fl2, .ref xs, .int fl3, .int fl4, .int fl5, .ref xb, .int fl6, .int fl7, .int fl8, .int fl9, .int fl10, .int fl11, .int fl12, .ref xa, .ref ke])), (ke, .inl (cI, 4160, .inl (upd f424 (((nI (160 * 2 + 0 * cnt 2)) + 3) : Int32).toNatClampNeg 1)))] H := hP
  have hD : va_D A [(h0, .inr (13, [.int fl0, .ref xm, .int fl1, .int fl2, .ref xs, .int fl3, .int fl4, .int fl5, .ref xb, .int fl6, .int fl7, .int fl8, .int fl9, .int fl10, .int fl11, .int fl12, .ref xa, .ref ke])), (ke, .inl (cI, 4160, .inl (upd f424 (((nI (160 * 2 + 0 * cnt 2)) + 3) : Int32).toNatClampNeg 1)))] := hD
  generalize upd f424 (((nI (160 * 2 + 0 * cnt 2)) + 3) : Int32).toNatClampNeg 1 = f428 at hP hD
  refine lv_aload_n hx hb d_Cmd_nothingTold_97 rfl (lv_at hl 1 rfl) ?_
  refine va_get (D := D) (ci := 13) (v := .ref ke) (C := R_Cmd) (T := F_Cmd) (N := 18) hx hb htw i_Cmd hown hC.1 hP 0 rfl rfl 17 (by decide) (htw _ k563) (fun _ h9 => h9) rfl d_Cmd_nothingTold_98 ?_
  refine lv_iconst (v := 2) hx hb d_Cmd_nothingTold_101 (by decide) ?_
  refine lv_iconst (v := 0) hx hb d_Cmd_nothingTold_102 (by decide) ?_
  refine wc_i (wr := [(h0, .inr (13, [.int fl0, .ref xm, .int fl1, .int fl2, .ref xs, .int fl3, .int fl4, .int fl5, .ref xb, .int fl6, .int fl7, .int fl8, .int fl9, .int fl10, .int fl11, .int fl12, .ref xa, .ref ke])), (ke, .inl (cI, 4160, .inl f428))]) hC hP hD hS [] [0, 1] rfl rfl (by decide) (by decide) (va_runS (As := [.int 2, .int 0]) (rest := [.ref ke]) ⟨hx, hb, hml, hown, htw⟩ (c_rowOf l D cI cL B _ 2 0 (by decide)) (va_cwS 2 htw gS_Cmd_113 rfl rfl rfl (by decide +kernel) ⟨Nat.le_of_ble_eq_true rfl, Nat.le_of_ble_eq_true rfl⟩) (wC_pre hC hP hD hS [] (by decide) rfl) rfl rfl hl.1 rfl (lv_room (Nat.le_of_ble_eq_true rfl)) d_Cmd_nothingTold_103 ⟨Nat.le_of_ble_eq_true rfl, Nat.le_of_ble_eq_true rfl⟩) (fun r431 u429 H locs hw430 hP hD hS => ?_)
  obtain rfl : r431 = (nI (160 * 2 + 0 * cnt 2)) := hw430
  have hP : va_P D classes [(h0, .inr (13, [.int fl0, .ref xm, .int fl1, .int fl2, .ref xs, .int fl3, .int fl4, .int fl5, .ref xb, .int fl6, .int fl7, .int fl8, .int fl9, .int fl10, .int fl11, .int fl12, .ref xa, .ref ke])), (ke, .inl (cI, 4160, .inl f428))] H := hP
  have hD : va_D A [(h0, .inr (13, [.int fl0, .ref xm, .int fl1, .int fl2, .ref xs, .int fl3, .int fl4, .int fl5, .ref xb, .int fl6, .int fl7, .int fl8, .int fl9, .int fl10, .int fl11, .int fl12, .ref xa, .ref ke])), (ke, .inl (cI, 4160, .inl f428))] := hD
  refine W.widen (k := 0) (n := 0) (by omega) (by omega) ?_
  refine lv_iconst (v := 5) hx hb d_Cmd_nothingTold_106 (by decide) ?_
  refine lv_iadd hx hb d_Cmd_nothingTold_107 ?_
  refine lv_ldc (v := 16777215) hx hb hown (htw _ k705) d_Cmd_nothingTold_108 ?_
  refine va_iast hx hb hC.1 hP hD hS 1 0 rfl rfl (by unfold vp_in; decide) d_Cmd_nothingTold_110 (fun H locs hP hD hS => ?_)
  have hP : va_P D classes [(h0, .inr (13, [.int fl0, .ref xm, .int fl1, .int fl2, .ref xs, .int fl3, .int fl4, .int fl5, .ref xb, .int fl6, .int fl7, .int fl8, .int fl9, .int fl10, .int fl11, .int fl12, .ref xa, .ref ke])), (ke, .inl (cI, 4160, .inl (upd f428 (((nI (160 * 2 + 0 * cnt 2)) + 5) : Int32).toNatClampNeg 16777215)))] H := hP
  have hD : va_D A [(h0, .inr (13, [.int fl0, .ref xm, .int fl1, .int fl2, .ref xs, .int fl3, .int fl4, .int fl5, .ref xb, .int fl6, .int fl7, .int fl8, .int fl9, .int fl10, .int fl11, .int fl12, .ref xa, .ref ke])), (ke, .inl (cI, 4160, .inl (upd f428 (((nI (160 * 2 + 0 * cnt 2)) + 5) : Int32).toNatClampNeg 16777215)))] := hD
  generalize upd f428 (((nI (160 * 2 + 0 * cnt 2)) + 5) : Int32).toNatClampNeg 16777215 = f432 at hP hD
  refine lv_aload_n hx hb d_Cmd_nothingTold_111 rfl (lv_at hl 1 rfl) ?_
  refine va_get (D := D) (ci := 13) (v := .ref ke) (C := R_Cmd) (T := F_Cmd) (N := 18) hx hb htw i_Cmd hown hC.1 hP 0 rfl rfl 17 (by decide) (htw _ k563) (fun _ h9 => h9) rfl d_Cmd_nothingTold_112 ?_
  refine lv_iconst (v := 3) hx hb d_Cmd_nothingTold_115 (by decide) ?_
  refine lv_iconst (v := 0) hx hb d_Cmd_nothingTold_116 (by decide) ?_
  refine wc_i (wr := [(h0, .inr (13, [.int fl0, .ref xm, .int fl1, .int fl2, .ref xs, .int fl3, .int fl4, .int fl5, .ref xb, .int fl6, .int fl7, .int fl8, .int fl9, .int fl10, .int fl11, .int fl12, .ref xa, .ref ke])), (ke, .inl (cI, 4160, .inl f432))]) hC hP hD hS [] [0, 1] rfl rfl (by decide) (by decide) (va_runS (As := [.int 3, .int 0]) (rest := [.ref ke]) ⟨hx, hb, hml, hown, htw⟩ (c_rowOf l D cI cL B _ 3 0 (by decide)) (va_cwS 2 htw gS_Cmd_113 rfl rfl rfl (by decide +kernel) ⟨Nat.le_of_ble_eq_true rfl, Nat.le_of_ble_eq_true rfl⟩) (wC_pre hC hP hD hS [] (by decide) rfl) rfl rfl hl.1 rfl (lv_room (Nat.le_of_ble_eq_true rfl)) d_Cmd_nothingTold_117 ⟨Nat.le_of_ble_eq_true rfl, Nat.le_of_ble_eq_true rfl⟩) (fun r435 u433 H locs hw434 hP hD hS => ?_)
  obtain rfl : r435 = (nI (160 * 3 + 0 * cnt 3)) := hw434
  have hP : va_P D classes [(h0, .inr (13, [.int fl0, .ref xm, .int fl1, .int fl2, .ref xs, .int fl3, .int fl4, .int fl5, .ref xb, .int fl6, .int fl7, .int fl8, .int fl9, .int fl10, .int fl11, .int fl12, .ref xa, .ref ke])), (ke, .inl (cI, 4160, .inl f432))] H := hP
  have hD : va_D A [(h0, .inr (13, [.int fl0, .ref xm, .int fl1, .int fl2, .ref xs, .int fl3, .int fl4, .int fl5, .ref xb, .int fl6, .int fl7, .int fl8, .int fl9, .int fl10, .int fl11, .int fl12, .ref xa, .ref ke])), (ke, .inl (cI, 4160, .inl f432))] := hD
  refine W.widen (k := 0) (n := 0) (by omega) (by omega) ?_
  refine lv_iconst (v := 2) hx hb d_Cmd_nothingTold_120 (by decide) ?_
  refine lv_iadd hx hb d_Cmd_nothingTold_121 ?_
  refine lv_iconst (v := (-1)) hx hb d_Cmd_nothingTold_122 (by decide) ?_
  refine va_iast hx hb hC.1 hP hD hS 1 0 rfl rfl (by unfold vp_in; decide) d_Cmd_nothingTold_123 (fun H locs hP hD hS => ?_)
  have hP : va_P D classes [(h0, .inr (13, [.int fl0, .ref xm, .int fl1, .int fl2, .ref xs, .int fl3, .int fl4, .int fl5, .ref xb, .int fl6, .int fl7, .int fl8, .int fl9, .int fl10, .int fl11, .int fl12, .ref xa, .ref ke])), (ke, .inl (cI, 4160, .inl (upd f432 (((nI (160 * 3 + 0 * cnt 3)) + 2) : Int32).toNatClampNeg (-1))))] H := hP
  have hD : va_D A [(h0, .inr (13, [.int fl0, .ref xm, .int fl1, .int fl2, .ref xs, .int fl3, .int fl4, .int fl5, .ref xb, .int fl6, .int fl7, .int fl8, .int fl9, .int fl10, .int fl11, .int fl12, .ref xa, .ref ke])), (ke, .inl (cI, 4160, .inl (upd f432 (((nI (160 * 3 + 0 * cnt 3)) + 2) : Int32).toNatClampNeg (-1))))] := hD
  generalize upd f432 (((nI (160 * 3 + 0 * cnt 3)) + 2) : Int32).toNatClampNeg (-1) = f436 at hP hD
  refine lv_aload_n hx hb d_Cmd_nothingTold_124 rfl (lv_at hl 1 rfl) ?_
  refine va_get (D := D) (ci := 13) (v := .ref ke) (C := R_Cmd) (T := F_Cmd) (N := 18) hx hb htw i_Cmd hown hC.1 hP 0 rfl rfl 17 (by decide) (htw _ k563) (fun _ h9 => h9) rfl d_Cmd_nothingTold_125 ?_
  refine lv_bipush (v := 7) hx hb d_Cmd_nothingTold_128 (by decide) ?_
  refine lv_iconst (v := 0) hx hb d_Cmd_nothingTold_130 (by decide) ?_
  refine wc_i (wr := [(h0, .inr (13, [.int fl0, .ref xm, .int fl1, .int fl2, .ref xs, .int fl3, .int fl4, .int fl5, .ref xb, .int fl6, .int fl7, .int fl8, .int fl9, .int fl10, .int fl11, .int fl12, .ref xa, .ref ke])), (ke, .inl (cI, 4160, .inl f436))]) hC hP hD hS [] [0, 1] rfl rfl (by decide) (by decide) (va_runS (As := [.int 7, .int 0]) (rest := [.ref ke]) ⟨hx, hb, hml, hown, htw⟩ (c_rowOf l D cI cL B _ 7 0 (by decide)) (va_cwS 2 htw gS_Cmd_113 rfl rfl rfl (by decide +kernel) ⟨Nat.le_of_ble_eq_true rfl, Nat.le_of_ble_eq_true rfl⟩) (wC_pre hC hP hD hS [] (by decide) rfl) rfl rfl hl.1 rfl (lv_room (Nat.le_of_ble_eq_true rfl)) d_Cmd_nothingTold_131 ⟨Nat.le_of_ble_eq_true rfl, Nat.le_of_ble_eq_true rfl⟩) (fun r439 u437 H locs hw438 hP hD hS => ?_)
  obtain rfl : r439 = (nI (160 * 7 + 0 * cnt 7)) := hw438
  have hP : va_P D classes [(h0, .inr (13, [.int fl0, .ref xm, .int fl1, .int fl2, .ref xs, .int fl3, .int fl4, .int fl5, .ref xb, .int fl6, .int fl7, .int fl8, .int fl9, .int fl10, .int fl11, .int fl12, .ref xa, .ref ke])), (ke, .inl (cI, 4160, .inl f436))] H := hP
  have hD : va_D A [(h0, .inr (13, [.int fl0, .ref xm, .int fl1, .int fl2, .ref xs, .int fl3, .int fl4, .int fl5, .ref xb, .int fl6, .int fl7, .int fl8, .int fl9, .int fl10, .int fl11, .int fl12, .ref xa, .ref ke])), (ke, .inl (cI, 4160, .inl f436))] := hD
  refine W.widen (k := 0) (n := 0) (by omega) (by omega) ?_
  refine lv_iconst (v := (-1)) hx hb d_Cmd_nothingTold_134 (by decide) ?_
  refine va_iast hx hb hC.1 hP hD hS 1 0 rfl rfl (by unfold vp_in; decide) d_Cmd_nothingTold_135 (fun H locs hP hD hS => ?_)
  have hP : va_P D classes [(h0, .inr (13, [.int fl0, .ref xm, .int fl1, .int fl2, .ref xs, .int fl3, .int fl4, .int fl5, .ref xb, .int fl6, .int fl7, .int fl8, .int fl9, .int fl10, .int fl11, .int fl12, .ref xa, .ref ke])), (ke, .inl (cI, 4160, .inl (upd f436 ((nI (160 * 7 + 0 * cnt 7)) : Int32).toNatClampNeg (-1))))] H := hP
  have hD : va_D A [(h0, .inr (13, [.int fl0, .ref xm, .int fl1, .int fl2, .ref xs, .int fl3, .int fl4, .int fl5, .ref xb, .int fl6, .int fl7, .int fl8, .int fl9, .int fl10, .int fl11, .int fl12, .ref xa, .ref ke])), (ke, .inl (cI, 4160, .inl (upd f436 ((nI (160 * 7 + 0 * cnt 7)) : Int32).toNatClampNeg (-1))))] := hD
  generalize upd f436 ((nI (160 * 7 + 0 * cnt 7)) : Int32).toNatClampNeg (-1) = f440 at hP hD
  refine lv_aload_n hx hb d_Cmd_nothingTold_136 rfl (lv_at hl 1 rfl) ?_
  refine va_get (D := D) (ci := 13) (v := .ref ke) (C := R_Cmd) (T := F_Cmd) (N := 18) hx hb htw i_Cmd hown hC.1 hP 0 rfl rfl 17 (by decide) (htw _ k563) (fun _ h9 => h9) rfl d_Cmd_nothingTold_137 ?_
  refine lv_bipush (v := 8) hx hb d_Cmd_nothingTold_140 (by decide) ?_
  refine lv_iconst (v := 0) hx hb d_Cmd_nothingTold_142 (by decide) ?_
  refine wc_i (wr := [(h0, .inr (13, [.int fl0, .ref xm, .int fl1, .int fl2, .ref xs, .int fl3, .int fl4, .int fl5, .ref xb, .int fl6, .int fl7, .int fl8, .int fl9, .int fl10, .int fl11, .int fl12, .ref xa, .ref ke])), (ke, .inl (cI, 4160, .inl f440))]) hC hP hD hS [] [0, 1] rfl rfl (by decide) (by decide) (va_runS (As := [.int 8, .int 0]) (rest := [.ref ke]) ⟨hx, hb, hml, hown, htw⟩ (c_rowOf l D cI cL B _ 8 0 (by decide)) (va_cwS 2 htw gS_Cmd_113 rfl rfl rfl (by decide +kernel) ⟨Nat.le_of_ble_eq_true rfl, Nat.le_of_ble_eq_true rfl⟩) (wC_pre hC hP hD hS [] (by decide) rfl) rfl rfl hl.1 rfl (lv_room (Nat.le_of_ble_eq_true rfl)) d_Cmd_nothingTold_143 ⟨Nat.le_of_ble_eq_true rfl, Nat.le_of_ble_eq_true rfl⟩) (fun r443 u441 H locs hw442 hP hD hS => ?_)
  obtain rfl : r443 = (nI (160 * 8 + 0 * cnt 8)) := hw442
  have hP : va_P D classes [(h0, .inr (13, [.int fl0, .ref xm, .int fl1, .int fl2, .ref xs, .int fl3, .int fl4, .int fl5, .ref xb, .int fl6, .int fl7, .int fl8, .int fl9, .int fl10, .int fl11, .int fl12, .ref xa, .ref ke])), (ke, .inl (cI, 4160, .inl f440))] H := hP
  have hD : va_D A [(h0, .inr (13, [.int fl0, .ref xm, .int fl1, .int fl2, .ref xs, .int fl3, .int fl4, .int fl5, .ref xb, .int fl6, .int fl7, .int fl8, .int fl9, .int fl10, .int fl11, .int fl12, .ref xa, .ref ke])), (ke, .inl (cI, 4160, .inl f440))] := hD
  refine W.widen (k := 0) (n := 0) (by omega) (by omega) ?_
  refine lv_iconst (v := (-1)) hx hb d_Cmd_nothingTold_146 (by decide) ?_
  refine va_iast hx hb hC.1 hP hD hS 1 0 rfl rfl (by unfold vp_in; decide) d_Cmd_nothingTold_147 (fun H locs hP hD hS => ?_)
  have hP : va_P D classes [(h0, .inr (13, [.int fl0, .ref xm, .int fl1, .int fl2, .ref xs, .int fl3, .int fl4, .int fl5, .ref xb, .int fl6, .int fl7, .int fl8, .int fl9, .int fl10, .int fl11, .int fl12, .ref xa, .ref ke])), (ke, .inl (cI, 4160, .inl (upd f440 ((nI (160 * 8 + 0 * cnt 8)) : Int32).toNatClampNeg (-1))))] H := hP
  have hD : va_D A [(h0, .inr (13, [.int fl0, .ref xm, .int fl1, .int fl2, .ref xs, .int fl3, .int fl4, .int fl5, .ref xb, .int fl6, .int fl7, .int fl8, .int fl9, .int fl10, .int fl11, .int fl12, .ref xa, .ref ke])), (ke, .inl (cI, 4160, .inl (upd f440 ((nI (160 * 8 + 0 * cnt 8)) : Int32).toNatClampNeg (-1))))] := hD
  generalize upd f440 ((nI (160 * 8 + 0 * cnt 8)) : Int32).toNatClampNeg (-1) = f444 at hP hD
  refine lv_aload_n hx hb d_Cmd_nothingTold_148 rfl (lv_at hl 1 rfl) ?_
  refine va_get (D := D) (ci := 13) (v := .ref ke) (C := R_Cmd) (T := F_Cmd) (N := 18) hx hb htw i_Cmd hown hC.1 hP 0 rfl rfl 17 (by decide) (htw _ k563) (fun _ h9 => h9) rfl d_Cmd_nothingTold_149 ?_
  refine lv_bipush (v := 10) hx hb d_Cmd_nothingTold_152 (by decide) ?_
  refine lv_iconst (v := 0) hx hb d_Cmd_nothingTold_154 (by decide) ?_
  refine wc_i (wr := [(h0, .inr (13, [.int fl0, .ref xm, .int fl1, .int fl2, .ref xs, .int fl3, .int fl4, .int fl5, .ref xb, .int fl6, .int fl7, .int fl8, .int fl9, .int fl10, .int fl11, .int fl12, .ref xa, .ref ke])), (ke, .inl (cI, 4160, .inl f444))]) hC hP hD hS [] [0, 1] rfl rfl (by decide) (by decide) (va_runS (As := [.int 10, .int 0]) (rest := [.ref ke]) ⟨hx, hb, hml, hown, htw⟩ (c_rowOf l D cI cL B _ 10 0 (by decide)) (va_cwS 2 htw gS_Cmd_113 rfl rfl rfl (by decide +kernel) ⟨Nat.le_of_ble_eq_true rfl, Nat.le_of_ble_eq_true rfl⟩) (wC_pre hC hP hD hS [] (by decide) rfl) rfl rfl hl.1 rfl (lv_room (Nat.le_of_ble_eq_true rfl)) d_Cmd_nothingTold_155 ⟨Nat.le_of_ble_eq_true rfl, Nat.le_of_ble_eq_true rfl⟩) (fun r447 u445 H locs hw446 hP hD hS => ?_)
  obtain rfl : r447 = (nI (160 * 10 + 0 * cnt 10)) := hw446
  have hP : va_P D classes [(h0, .inr (13, [.int fl0, .ref xm, .int fl1, .int fl2, .ref xs, .int fl3, .int fl4, .int fl5, .ref xb, .int fl6, .int fl7, .int fl8, .int fl9, .int fl10, .int fl11, .int fl12, .ref xa, .ref ke])), (ke, .inl (cI, 4160, .inl f444))] H := hP
  have hD : va_D A [(h0, .inr (13, [.int fl0, .ref xm, .int fl1, .int fl2, .ref xs, .int fl3, .int fl4, .int fl5, .ref xb, .int fl6, .int fl7, .int fl8, .int fl9, .int fl10, .int fl11, .int fl12, .ref xa, .ref ke])), (ke, .inl (cI, 4160, .inl f444))] := hD
  refine W.widen (k := 0) (n := 0) (by omega) (by omega) ?_
  refine lv_iconst (v := (-1)) hx hb d_Cmd_nothingTold_158 (by decide) ?_
  refine va_iast hx hb hC.1 hP hD hS 1 0 rfl rfl (by unfold vp_in; decide) d_Cmd_nothingTold_159 (fun H locs hP hD hS => ?_)
  have hP : va_P D classes [(h0, .inr (13, [.int fl0, .ref xm, .int fl1, .int fl2, .ref xs, .int fl3, .int fl4, .int fl5, .ref xb, .int fl6, .int fl7, .int fl8, .int fl9, .int fl10, .int fl11, .int fl12, .ref xa, .ref ke])), (ke, .inl (cI, 4160, .inl (upd f444 ((nI (160 * 10 + 0 * cnt 10)) : Int32).toNatClampNeg (-1))))] H := hP
  have hD : va_D A [(h0, .inr (13, [.int fl0, .ref xm, .int fl1, .int fl2, .ref xs, .int fl3, .int fl4, .int fl5, .ref xb, .int fl6, .int fl7, .int fl8, .int fl9, .int fl10, .int fl11, .int fl12, .ref xa, .ref ke])), (ke, .inl (cI, 4160, .inl (upd f444 ((nI (160 * 10 + 0 * cnt 10)) : Int32).toNatClampNeg (-1))))] := hD
  generalize upd f444 ((nI (160 * 10 + 0 * cnt 10)) : Int32).toNatClampNeg (-1) = f448 at hP hD
  refine lv_aload_n hx hb d_Cmd_nothingTold_160 rfl (lv_at hl 1 rfl) ?_
  refine va_get (D := D) (ci := 13) (v := .ref ke) (C := R_Cmd) (T := F_Cmd) (N := 18) hx hb htw i_Cmd hown hC.1 hP 0 rfl rfl 17 (by decide) (htw _ k563) (fun _ h9 => h9) rfl d_Cmd_nothingTold_161 ?_
  refine lv_bipush (v := 12) hx hb d_Cmd_nothingTold_164 (by decide) ?_
  refine lv_iconst (v := 0) hx hb d_Cmd_nothingTold_166 (by decide) ?_
  refine wc_i (wr := [(h0, .inr (13, [.int fl0, .ref xm, .int fl1, .int fl2, .ref xs, .int fl3, .int fl4, .int fl5, .ref xb, .int fl6, .int fl7, .int fl8, .int fl9, .int fl10, .int fl11, .int fl12, .ref xa, .ref ke])), (ke, .inl (cI, 4160, .inl f448))]) hC hP hD hS [] [0, 1] rfl rfl (by decide) (by decide) (va_runS (As := [.int 12, .int 0]) (rest := [.ref ke]) ⟨hx, hb, hml, hown, htw⟩ (c_rowOf l D cI cL B _ 12 0 (by decide)) (va_cwS 2 htw gS_Cmd_113 rfl rfl rfl (by decide +kernel) ⟨Nat.le_of_ble_eq_true rfl, Nat.le_of_ble_eq_true rfl⟩) (wC_pre hC hP hD hS [] (by decide) rfl) rfl rfl hl.1 rfl (lv_room (Nat.le_of_ble_eq_true rfl)) d_Cmd_nothingTold_167 ⟨Nat.le_of_ble_eq_true rfl, Nat.le_of_ble_eq_true rfl⟩) (fun r451 u449 H locs hw450 hP hD hS => ?_)
  obtain rfl : r451 = (nI (160 * 12 + 0 * cnt 12)) := hw450
  have hP : va_P D classes [(h0, .inr (13, [.int fl0, .ref xm, .int fl1, .int fl2, .ref xs, .int fl3, .int fl4, .int fl5, .ref xb, .int fl6, .int fl7, .int fl8, .int fl9, .int fl10, .int fl11, .int fl12, .ref xa, .ref ke])), (ke, .inl (cI, 4160, .inl f448))] H := hP
  have hD : va_D A [(h0, .inr (13, [.int fl0, .ref xm, .int fl1, .int fl2, .ref xs, .int fl3, .int fl4, .int fl5, .ref xb, .int fl6, .int fl7, .int fl8, .int fl9, .int fl10, .int fl11, .int fl12, .ref xa, .ref ke])), (ke, .inl (cI, 4160, .inl f448))] := hD
  refine W.widen (k := 0) (n := 0) (by omega) (by omega) ?_
  refine lv_iconst (v := 4) hx hb d_Cmd_nothingTold_170 (by decide) ?_
  refine lv_iadd hx hb d_Cmd_nothingTold_171 ?_
  refine lv_iconst (v := (-1)) hx hb d_Cmd_nothingTold_172 (by decide) ?_
  refine va_iast hx hb hC.1 hP hD hS 1 0 rfl rfl (by unfold vp_in; decide) d_Cmd_nothingTold_173 (fun H locs hP hD hS => ?_)
  have hP : va_P D classes [(h0, .inr (13, [.int fl0, .ref xm, .int fl1, .int fl2, .ref xs, .int fl3, .int fl4, .int fl5, .ref xb, .int fl6, .int fl7, .int fl8, .int fl9, .int fl10, .int fl11, .int fl12, .ref xa, .ref ke])), (ke, .inl (cI, 4160, .inl (upd f448 (((nI (160 * 12 + 0 * cnt 12)) + 4) : Int32).toNatClampNeg (-1))))] H := hP
  have hD : va_D A [(h0, .inr (13, [.int fl0, .ref xm, .int fl1, .int fl2, .ref xs, .int fl3, .int fl4, .int fl5, .ref xb, .int fl6, .int fl7, .int fl8, .int fl9, .int fl10, .int fl11, .int fl12, .ref xa, .ref ke])), (ke, .inl (cI, 4160, .inl (upd f448 (((nI (160 * 12 + 0 * cnt 12)) + 4) : Int32).toNatClampNeg (-1))))] := hD
  generalize upd f448 (((nI (160 * 12 + 0 * cnt 12)) + 4) : Int32).toNatClampNeg (-1) = f452 at hP hD
  refine lv_aload_n hx hb d_Cmd_nothingTold_174 rfl (lv_at hl 1 rfl) ?_
  refine va_get (D := D) (ci := 13) (v := .ref ke) (C := R_Cmd) (T := F_Cmd) (N := 18) hx hb htw i_Cmd hown hC.1 hP 0 rfl rfl 17 (by decide) (htw _ k563) (fun _ h9 => h9) rfl d_Cmd_nothingTold_175 ?_
  refine lv_bipush (v := 14) hx hb d_Cmd_nothingTold_178 (by decide) ?_
  refine lv_iconst (v := 0) hx hb d_Cmd_nothingTold_180 (by decide) ?_
  refine wc_i (wr := [(h0, .inr (13, [.int fl0, .ref xm, .int fl1, .int fl2, .ref xs, .int fl3, .int fl4, .int fl5, .ref xb, .int fl6, .int fl7, .int fl8, .int fl9, .int fl10, .int fl11, .int fl12, .ref xa, .ref ke])), (ke, .inl (cI, 4160, .inl f452))]) hC hP hD hS [] [0, 1] rfl rfl (by decide) (by decide) (va_runS (As := [.int 14, .int 0]) (rest := [.ref ke]) ⟨hx, hb, hml, hown, htw⟩ (c_rowOf l D cI cL B _ 14 0 (by decide)) (va_cwS 2 htw gS_Cmd_113 rfl rfl rfl (by decide +kernel) ⟨Nat.le_of_ble_eq_true rfl, Nat.le_of_ble_eq_true rfl⟩) (wC_pre hC hP hD hS [] (by decide) rfl) rfl rfl hl.1 rfl (lv_room (Nat.le_of_ble_eq_true rfl)) d_Cmd_nothingTold_181 ⟨Nat.le_of_ble_eq_true rfl, Nat.le_of_ble_eq_true rfl⟩) (fun r455 u453 H locs hw454 hP hD hS => ?_)
  obtain rfl : r455 = (nI (160 * 14 + 0 * cnt 14)) := hw454
  have hP : va_P D classes [(h0, .inr (13, [.int fl0, .ref xm, .int fl1, .int fl2, .ref xs, .int fl3, .int fl4, .int fl5, .ref xb, .int fl6, .int fl7, .int fl8, .int fl9, .int fl10, .int fl11, .int fl12, .ref xa, .ref ke])), (ke, .inl (cI, 4160, .inl f452))] H := hP
  have hD : va_D A [(h0, .inr (13, [.int fl0, .ref xm, .int fl1, .int fl2, .ref xs, .int fl3, .int fl4, .int fl5, .ref xb, .int fl6, .int fl7, .int fl8, .int fl9, .int fl10, .int fl11, .int fl12, .ref xa, .ref ke])), (ke, .inl (cI, 4160, .inl f452))] := hD
  refine W.widen (k := 0) (n := 0) (by omega) (by omega) ?_
  refine lv_iconst (v := (-1)) hx hb d_Cmd_nothingTold_184 (by decide) ?_
  refine va_iast hx hb hC.1 hP hD hS 1 0 rfl rfl (by unfold vp_in; decide) d_Cmd_nothingTold_185 (fun H locs hP hD hS => ?_)
  have hP : va_P D classes [(h0, .inr (13, [.int fl0, .ref xm, .int fl1, .int fl2, .ref xs, .int fl3, .int fl4, .int fl5, .ref xb, .int fl6, .int fl7, .int fl8, .int fl9, .int fl10, .int fl11, .int fl12, .ref xa, .ref ke])), (ke, .inl (cI, 4160, .inl (upd f452 ((nI (160 * 14 + 0 * cnt 14)) : Int32).toNatClampNeg (-1))))] H := hP
  have hD : va_D A [(h0, .inr (13, [.int fl0, .ref xm, .int fl1, .int fl2, .ref xs, .int fl3, .int fl4, .int fl5, .ref xb, .int fl6, .int fl7, .int fl8, .int fl9, .int fl10, .int fl11, .int fl12, .ref xa, .ref ke])), (ke, .inl (cI, 4160, .inl (upd f452 ((nI (160 * 14 + 0 * cnt 14)) : Int32).toNatClampNeg (-1))))] := hD
  generalize upd f452 ((nI (160 * 14 + 0 * cnt 14)) : Int32).toNatClampNeg (-1) = f456 at hP hD
  refine lv_aload_n hx hb d_Cmd_nothingTold_186 rfl (lv_at hl 1 rfl) ?_
  refine va_get (D := D) (ci := 13) (v := .ref ke) (C := R_Cmd) (T := F_Cmd) (N := 18) hx hb htw i_Cmd hown hC.1 hP 0 rfl rfl 17 (by decide) (htw _ k563) (fun _ h9 => h9) rfl d_Cmd_nothingTold_187 ?_
  refine lv_bipush (v := 15) hx hb d_Cmd_nothingTold_190 (by decide) ?_
  refine lv_iconst (v := 0) hx hb d_Cmd_nothingTold_192 (by decide) ?_
  refine wc_i (wr := [(h0, .inr (13, [.int fl0, .ref xm, .int fl1, .int fl2, .ref xs, .int fl3, .int fl4, .int fl5, .ref xb, .int fl6, .int fl7, .int fl8, .int fl9, .int fl10, .int fl11, .int fl12, .ref xa, .ref ke])), (ke, .inl (cI, 4160, .inl f456))]) hC hP hD hS [] [0, 1] rfl rfl (by decide) (by decide) (va_runS (As := [.int 15, .int 0]) (rest := [.ref ke]) ⟨hx, hb, hml, hown, htw⟩ (c_rowOf l D cI cL B _ 15 0 (by decide)) (va_cwS 2 htw gS_Cmd_113 rfl rfl rfl (by decide +kernel) ⟨Nat.le_of_ble_eq_true rfl, Nat.le_of_ble_eq_true rfl⟩) (wC_pre hC hP hD hS [] (by decide) rfl) rfl rfl hl.1 rfl (lv_room (Nat.le_of_ble_eq_true rfl)) d_Cmd_nothingTold_193 ⟨Nat.le_of_ble_eq_true rfl, Nat.le_of_ble_eq_true rfl⟩) (fun r459 u457 H locs hw458 hP hD hS => ?_)
  obtain rfl : r459 = (nI (160 * 15 + 0 * cnt 15)) := hw458
  have hP : va_P D classes [(h0, .inr (13, [.int fl0, .ref xm, .int fl1, .int fl2, .ref xs, .int fl3, .int fl4, .int fl5, .ref xb, .int fl6, .int fl7, .int fl8, .int fl9, .int fl10, .int fl11, .int fl12, .ref xa, .ref ke])), (ke, .inl (cI, 4160, .inl f456))] H := hP
  have hD : va_D A [(h0, .inr (13, [.int fl0, .ref xm, .int fl1, .int fl2, .ref xs, .int fl3, .int fl4, .int fl5, .ref xb, .int fl6, .int fl7, .int fl8, .int fl9, .int fl10, .int fl11, .int fl12, .ref xa, .ref ke])), (ke, .inl (cI, 4160, .inl f456))] := hD
  refine W.widen (k := 0) (n := 0) (by omega) (by omega) ?_
  refine lv_bipush (v := 15) hx hb d_Cmd_nothingTold_196 (by decide) ?_
  refine va_iast hx hb hC.1 hP hD hS 1 0 rfl rfl (by unfold vp_in; decide) d_Cmd_nothingTold_198 (fun H locs hP hD hS => ?_)
  have hP : va_P D classes [(h0, .inr (13, [.int fl0, .ref xm, .int fl1, .int fl2, .ref xs, .int fl3, .int fl4, .int fl5, .ref xb, .int fl6, .int fl7, .int fl8, .int fl9, .int fl10, .int fl11, .int fl12, .ref xa, .ref ke])), (ke, .inl (cI, 4160, .inl (upd f456 ((nI (160 * 15 + 0 * cnt 15)) : Int32).toNatClampNeg 15)))] H := hP
  have hD : va_D A [(h0, .inr (13, [.int fl0, .ref xm, .int fl1, .int fl2, .ref xs, .int fl3, .int fl4, .int fl5, .ref xb, .int fl6, .int fl7, .int fl8, .int fl9, .int fl10, .int fl11, .int fl12, .ref xa, .ref ke])), (ke, .inl (cI, 4160, .inl (upd f456 ((nI (160 * 15 + 0 * cnt 15)) : Int32).toNatClampNeg 15)))] := hD
  generalize upd f456 ((nI (160 * 15 + 0 * cnt 15)) : Int32).toNatClampNeg 15 = f460 at hP hD
  refine lv_iconst (v := 0) hx hb d_Cmd_nothingTold_199 (by decide) ?_
  refine lv_istore_n (lv' := [(1, .int 0), (0, .ref h0)]) hx hb d_Cmd_nothingTold_200 rfl hl (by decide) rfl (fun ls hl => ?_)
  refine lv_iload_n hx hb d_Cmd_nothingTold_201 rfl (lv_at hl 0 rfl) ?_
  refine lv_iconst (v := 4) hx hb d_Cmd_nothingTold_202 (by decide) ?_
  refine lv_icmp_ge (tgt := 226) hx hb d_Cmd_nothingTold_203 (by decide) (fun c_461 => absurd c_461 (by decide)) (fun c_461 => ?_)
  refine lv_aload_n hx hb d_Cmd_nothingTold_206 rfl (lv_at hl 1 rfl) ?_
  refine va_get (D := D) (ci := 13) (v := .ref ke) (C := R_Cmd) (T := F_Cmd) (N := 18) hx hb htw i_Cmd hown hC.1 hP 0 rfl rfl 17 (by decide) (htw _ k563) (fun _ h9 => h9) rfl d_Cmd_nothingTold_207 ?_
  refine lv_bipush (v := 9) hx hb d_Cmd_nothingTold_210 (by decide) ?_
  refine lv_iload_n hx hb d_Cmd_nothingTold_212 rfl (lv_at hl 0 rfl) ?_
  refine wc_i (wr := [(h0, .inr (13, [.int fl0, .ref xm, .int fl1, .int fl2, .ref xs, .int fl3, .int fl4, .int fl5, .ref xb, .int fl6, .int fl7, .int fl8, .int fl9, .int fl10, .int fl11, .int fl12, .ref xa, .ref ke])), (ke, .inl (cI, 4160, .inl f460))]) hC hP hD hS [] [0, 1] rfl rfl (by decide) (by decide) (va_runS (As := [.int 9, .int 0]) (rest := [.ref ke]) ⟨hx, hb, hml, hown, htw⟩ (c_rowOf l D cI cL B _ 9 0 (by decide)) (va_cwS 2 htw gS_Cmd_113 rfl rfl rfl (by decide +kernel) ⟨Nat.le_of_ble_eq_true rfl, Nat.le_of_ble_eq_true rfl⟩) (wC_pre hC hP hD hS [] (by decide) rfl) rfl rfl hl.1 rfl (lv_room (Nat.le_of_ble_eq_true rfl)) d_Cmd_nothingTold_213 ⟨Nat.le_of_ble_eq_true rfl, Nat.le_of_ble_eq_true rfl⟩) (fun r464 u462 H locs hw463 hP hD hS => ?_)
  obtain rfl : r464 = (nI (160 * 9 + 0 * cnt 9)) := hw463
  have hP : va_P D classes [(h0, .inr (13, [.int fl0, .ref xm, .int fl1, .int fl2, .ref xs, .int fl3, .int fl4, .int fl5, .ref xb, .int fl6, .int fl7, .int fl8, .int fl9, .int fl10, .int fl11, .int fl12, .ref xa, .ref ke])), (ke, .inl (cI, 4160, .inl f460))] H := hP
  have hD : va_D A [(h0, .inr (13, [.int fl0, .ref xm, .int fl1, .int fl2, .ref xs, .int fl3, .int fl4, .int fl5, .ref xb, .int fl6, .int fl7, .int fl8, .int fl9, .int fl10, .int fl11, .int fl12, .ref xa, .ref ke])), (ke, .inl (cI, 4160, .inl f460))] := hD
  refine W.widen (k := 0) (n := 0) (by omega) (by omega) ?_
  refine lv_iconst (v := 4) hx hb d_Cmd_nothingTold_216 (by decide) ?_
  refine lv_iadd hx hb d_Cmd_nothingTold_217 ?_
  refine lv_iconst (v := 1) hx hb d_Cmd_nothingTold_218 (by decide) ?_
  refine va_iast hx hb hC.1 hP hD hS 1 0 rfl rfl (by unfold vp_in; decide) d_Cmd_nothingTold_219 (fun H locs hP hD hS => ?_)
  have hP : va_P D classes [(h0, .inr (13, [.int fl0, .ref xm, .int fl1, .int fl2, .ref xs, .int fl3, .int fl4, .int fl5, .ref xb, .int fl6, .int fl7, .int fl8, .int fl9, .int fl10, .int fl11, .int fl12, .ref xa, .ref ke])), (ke, .inl (cI, 4160, .inl (upd f460 (((nI (160 * 9 + 0 * cnt 9)) + 4) : Int32).toNatClampNeg 1)))] H := hP
  have hD : va_D A [(h0, .inr (13, [.int fl0, .ref xm, .int fl1, .int fl2, .ref xs, .int fl3, .int fl4, .int fl5, .ref xb, .int fl6, .int fl7, .int fl8, .int fl9, .int fl10, .int fl11, .int fl12, .ref xa, .ref ke])), (ke, .inl (cI, 4160, .inl (upd f460 (((nI (160 * 9 + 0 * cnt 9)) + 4) : Int32).toNatClampNeg 1)))] := hD
  generalize upd f460 (((nI (160 * 9 + 0 * cnt 9)) + 4) : Int32).toNatClampNeg 1 = f465 at hP hD
  refine lv_iinc (v := 1) (lv' := [(1, .int 1), (0, .ref h0)]) hx hb d_Cmd_nothingTold_220 hl (k := 0) rfl (by decide) (by decide) rfl (fun ls hl => ?_)
  refine lv_goto (tgt := 201) hx hb d_Cmd_nothingTold_223 (by decide) ?_
  refine lv_iload_n hx hb d_Cmd_nothingTold_201 rfl (lv_at hl 0 rfl) ?_
  refine lv_iconst (v := 4) hx hb d_Cmd_nothingTold_202 (by decide) ?_
  refine lv_icmp_ge (tgt := 226) hx hb d_Cmd_nothingTold_203 (by decide) (fun c_466 => absurd c_466 (by decide)) (fun c_466 => ?_)
  refine lv_aload_n hx hb d_Cmd_nothingTold_206 rfl (lv_at hl 1 rfl) ?_
  refine va_get (D := D) (ci := 13) (v := .ref ke) (C := R_Cmd) (T := F_Cmd) (N := 18) hx hb htw i_Cmd hown hC.1 hP 0 rfl rfl 17 (by decide) (htw _ k563) (fun _ h9 => h9) rfl d_Cmd_nothingTold_207 ?_
  refine lv_bipush (v := 9) hx hb d_Cmd_nothingTold_210 (by decide) ?_
  refine lv_iload_n hx hb d_Cmd_nothingTold_212 rfl (lv_at hl 0 rfl) ?_
  refine wc_i (wr := [(h0, .inr (13, [.int fl0, .ref xm, .int fl1, .int fl2, .ref xs, .int fl3, .int fl4, .int fl5, .ref xb, .int fl6, .int fl7, .int fl8, .int fl9, .int fl10, .int fl11, .int fl12, .ref xa, .ref ke])), (ke, .inl (cI, 4160, .inl f465))]) hC hP hD hS [] [0, 1] rfl rfl (by decide) (by decide) (va_runS (As := [.int 9, .int 1]) (rest := [.ref ke]) ⟨hx, hb, hml, hown, htw⟩ (c_rowOf l D cI cL B _ 9 1 (by decide)) (va_cwS 2 htw gS_Cmd_113 rfl rfl rfl (by decide +kernel) ⟨Nat.le_of_ble_eq_true rfl, Nat.le_of_ble_eq_true rfl⟩) (wC_pre hC hP hD hS [] (by decide) rfl) rfl rfl hl.1 rfl (lv_room (Nat.le_of_ble_eq_true rfl)) d_Cmd_nothingTold_213 ⟨Nat.le_of_ble_eq_true rfl, Nat.le_of_ble_eq_true rfl⟩) (fun r469 u467 H locs hw468 hP hD hS => ?_)
  obtain rfl : r469 = (nI (160 * 9 + 1 * cnt 9)) := hw468
  have hP : va_P D classes [(h0, .inr (13, [.int fl0, .ref xm, .int fl1, .int fl2, .ref xs, .int fl3, .int fl4, .int fl5, .ref xb, .int fl6, .int fl7, .int fl8, .int fl9, .int fl10, .int fl11, .int fl12, .ref xa, .ref ke])), (ke, .inl (cI, 4160, .inl f465))] H := hP
  have hD : va_D A [(h0, .inr (13, [.int fl0, .ref xm, .int fl1, .int fl2, .ref xs, .int fl3, .int fl4, .int fl5, .ref xb, .int fl6, .int fl7, .int fl8, .int fl9, .int fl10, .int fl11, .int fl12, .ref xa, .ref ke])), (ke, .inl (cI, 4160, .inl f465))] := hD
  refine W.widen (k := 0) (n := 0) (by omega) (by omega) ?_
  refine lv_iconst (v := 4) hx hb d_Cmd_nothingTold_216 (by decide) ?_
  refine lv_iadd hx hb d_Cmd_nothingTold_217 ?_
  refine lv_iconst (v := 1) hx hb d_Cmd_nothingTold_218 (by decide) ?_
  refine va_iast hx hb hC.1 hP hD hS 1 0 rfl rfl (by unfold vp_in; decide) d_Cmd_nothingTold_219 (fun H locs hP hD hS => ?_)
  have hP : va_P D classes [(h0, .inr (13, [.int fl0, .ref xm, .int fl1, .int fl2, .ref xs, .int fl3, .int fl4, .int fl5, .ref xb, .int fl6, .int fl7, .int fl8, .int fl9, .int fl10, .int fl11, .int fl12, .ref xa, .ref ke])), (ke, .inl (cI, 4160, .inl (upd f465 (((nI (160 * 9 + 1 * cnt 9)) + 4) : Int32).toNatClampNeg 1)))] H := hP
  have hD : va_D A [(h0, .inr (13, [.int fl0, .ref xm, .int fl1, .int fl2, .ref xs, .int fl3, .int fl4, .int fl5, .ref xb, .int fl6, .int fl7, .int fl8, .int fl9, .int fl10, .int fl11, .int fl12, .ref xa, .ref ke])), (ke, .inl (cI, 4160, .inl (upd f465 (((nI (160 * 9 + 1 * cnt 9)) + 4) : Int32).toNatClampNeg 1)))] := hD
  generalize upd f465 (((nI (160 * 9 + 1 * cnt 9)) + 4) : Int32).toNatClampNeg 1 = f470 at hP hD
  refine lv_iinc (v := 2) (lv' := [(1, .int 2), (0, .ref h0)]) hx hb d_Cmd_nothingTold_220 hl (k := 0) rfl (by decide) (by decide) rfl (fun ls hl => ?_)
  refine lv_goto (tgt := 201) hx hb d_Cmd_nothingTold_223 (by decide) ?_
  refine lv_iload_n hx hb d_Cmd_nothingTold_201 rfl (lv_at hl 0 rfl) ?_
  refine lv_iconst (v := 4) hx hb d_Cmd_nothingTold_202 (by decide) ?_
  refine lv_icmp_ge (tgt := 226) hx hb d_Cmd_nothingTold_203 (by decide) (fun c_471 => absurd c_471 (by decide)) (fun c_471 => ?_)
  refine lv_aload_n hx hb d_Cmd_nothingTold_206 rfl (lv_at hl 1 rfl) ?_
  refine va_get (D := D) (ci := 13) (v := .ref ke) (C := R_Cmd) (T := F_Cmd) (N := 18) hx hb htw i_Cmd hown hC.1 hP 0 rfl rfl 17 (by decide) (htw _ k563) (fun _ h9 => h9) rfl d_Cmd_nothingTold_207 ?_
  refine lv_bipush (v := 9) hx hb d_Cmd_nothingTold_210 (by decide) ?_
  refine lv_iload_n hx hb d_Cmd_nothingTold_212 rfl (lv_at hl 0 rfl) ?_
  refine wc_i (wr := [(h0, .inr (13, [.int fl0, .ref xm, .int fl1, .int fl2, .ref xs, .int fl3, .int fl4, .int fl5, .ref xb, .int fl6, .int fl7, .int fl8, .int fl9, .int fl10, .int fl11, .int fl12, .ref xa, .ref ke])), (ke, .inl (cI, 4160, .inl f470))]) hC hP hD hS [] [0, 1] rfl rfl (by decide) (by decide) (va_runS (As := [.int 9, .int 2]) (rest := [.ref ke]) ⟨hx, hb, hml, hown, htw⟩ (c_rowOf l D cI cL B _ 9 2 (by decide)) (va_cwS 2 htw gS_Cmd_113 rfl rfl rfl (by decide +kernel) ⟨Nat.le_of_ble_eq_true rfl, Nat.le_of_ble_eq_true rfl⟩) (wC_pre hC hP hD hS [] (by decide) rfl) rfl rfl hl.1 rfl (lv_room (Nat.le_of_ble_eq_true rfl)) d_Cmd_nothingTold_213 ⟨Nat.le_of_ble_eq_true rfl, Nat.le_of_ble_eq_true rfl⟩) (fun r474 u472 H locs hw473 hP hD hS => ?_)
  obtain rfl : r474 = (nI (160 * 9 + 2 * cnt 9)) := hw473
  have hP : va_P D classes [(h0, .inr (13, [.int fl0, .ref xm, .int fl1, .int fl2, .ref xs, .int fl3, .int fl4, .int fl5, .ref xb, .int fl6, .int fl7, .int fl8, .int fl9, .int fl10, .int fl11, .int fl12, .ref xa, .ref ke])), (ke, .inl (cI, 4160, .inl f470))] H := hP
  have hD : va_D A [(h0, .inr (13, [.int fl0, .ref xm, .int fl1, .int fl2, .ref xs, .int fl3, .int fl4, .int fl5, .ref xb, .int fl6, .int fl7, .int fl8, .int fl9, .int fl10, .int fl11, .int fl12, .ref xa, .ref ke])), (ke, .inl (cI, 4160, .inl f470))] := hD
  refine W.widen (k := 0) (n := 0) (by omega) (by omega) ?_
  refine lv_iconst (v := 4) hx hb d_Cmd_nothingTold_216 (by decide) ?_
  refine lv_iadd hx hb d_Cmd_nothingTold_217 ?_
  refine lv_iconst (v := 1) hx hb d_Cmd_nothingTold_218 (by decide) ?_
  refine va_iast hx hb hC.1 hP hD hS 1 0 rfl rfl (by unfold vp_in; decide) d_Cmd_nothingTold_219 (fun H locs hP hD hS => ?_)
  have hP : va_P D classes [(h0, .inr (13, [.int fl0, .ref xm, .int fl1, .int fl2, .ref xs, .int fl3, .int fl4, .int fl5, .ref xb, .int fl6, .int fl7, .int fl8, .int fl9, .int fl10, .int fl11, .int fl12, .ref xa, .ref ke])), (ke, .inl (cI, 4160, .inl (upd f470 (((nI (160 * 9 + 2 * cnt 9)) + 4) : Int32).toNatClampNeg 1)))] H := hP
  have hD : va_D A [(h0, .inr (13, [.int fl0, .ref xm, .int fl1, .int fl2, .ref xs, .int fl3, .int fl4, .int fl5, .ref xb, .int fl6, .int fl7, .int fl8, .int fl9, .int fl10, .int fl11, .int fl12, .ref xa, .ref ke])), (ke, .inl (cI, 4160, .inl (upd f470 (((nI (160 * 9 + 2 * cnt 9)) + 4) : Int32).toNatClampNeg 1)))] := hD
  generalize upd f470 (((nI (160 * 9 + 2 * cnt 9)) + 4) : Int32).toNatClampNeg 1 = f475 at hP hD
  refine lv_iinc (v := 3) (lv' := [(1, .int 3), (0, .ref h0)]) hx hb d_Cmd_nothingTold_220 hl (k := 0) rfl (by decide) (by decide) rfl (fun ls hl => ?_)
  refine lv_goto (tgt := 201) hx hb d_Cmd_nothingTold_223 (by decide) ?_
  refine lv_iload_n hx hb d_Cmd_nothingTold_201 rfl (lv_at hl 0 rfl) ?_
  refine lv_iconst (v := 4) hx hb d_Cmd_nothingTold_202 (by decide) ?_
  refine lv_icmp_ge (tgt := 226) hx hb d_Cmd_nothingTold_203 (by decide) (fun c_476 => absurd c_476 (by decide)) (fun c_476 => ?_)
  refine lv_aload_n hx hb d_Cmd_nothingTold_206 rfl (lv_at hl 1 rfl) ?_
  refine va_get (D := D) (ci := 13) (v := .ref ke) (C := R_Cmd) (T := F_Cmd) (N := 18) hx hb htw i_Cmd hown hC.1 hP 0 rfl rfl 17 (by decide) (htw _ k563) (fun _ h9 => h9) rfl d_Cmd_nothingTold_207 ?_
  refine lv_bipush (v := 9) hx hb d_Cmd_nothingTold_210 (by decide) ?_
  refine lv_iload_n hx hb d_Cmd_nothingTold_212 rfl (lv_at hl 0 rfl) ?_
  refine wc_i (wr := [(h0, .inr (13, [.int fl0, .ref xm, .int fl1, .int fl2, .ref xs, .int fl3, .int fl4, .int fl5, .ref xb, .int fl6, .int fl7, .int fl8, .int fl9, .int fl10, .int fl11, .int fl12, .ref xa, .ref ke])), (ke, .inl (cI, 4160, .inl f475))]) hC hP hD hS [] [0, 1] rfl rfl (by decide) (by decide) (va_runS (As := [.int 9, .int 3]) (rest := [.ref ke]) ⟨hx, hb, hml, hown, htw⟩ (c_rowOf l D cI cL B _ 9 3 (by decide)) (va_cwS 2 htw gS_Cmd_113 rfl rfl rfl (by decide +kernel) ⟨Nat.le_of_ble_eq_true rfl, Nat.le_of_ble_eq_true rfl⟩) (wC_pre hC hP hD hS [] (by decide) rfl) rfl rfl hl.1 rfl (lv_room (Nat.le_of_ble_eq_true rfl)) d_Cmd_nothingTold_213 ⟨Nat.le_of_ble_eq_true rfl, Nat.le_of_ble_eq_true rfl⟩) (fun r479 u477 H locs hw478 hP hD hS => ?_)
  obtain rfl : r479 = (nI (160 * 9 + 3 * cnt 9)) := hw478
  have hP : va_P D classes [(h0, .inr (13, [.int fl0, .ref xm, .int fl1, .int fl2, .ref xs, .int fl3, .int fl4, .int fl5, .ref xb, .int fl6, .int fl7, .int fl8, .int fl9, .int fl10, .int fl11, .int fl12, .ref xa, .ref ke])), (ke, .inl (cI, 4160, .inl f475))] H := hP
  have hD : va_D A [(h0, .inr (13, [.int fl0, .ref xm, .int fl1, .int fl2, .ref xs, .int fl3, .int fl4, .int fl5, .ref xb, .int fl6, .int fl7, .int fl8, .int fl9, .int fl10, .int fl11, .int fl12, .ref xa, .ref ke])), (ke, .inl (cI, 4160, .inl f475))] := hD
  refine W.widen (k := 0) (n := 0) (by omega) (by omega) ?_
  refine lv_iconst (v := 4) hx hb d_Cmd_nothingTold_216 (by decide) ?_
  refine lv_iadd hx hb d_Cmd_nothingTold_217 ?_
  refine lv_iconst (v := 1) hx hb d_Cmd_nothingTold_218 (by decide) ?_
  refine va_iast hx hb hC.1 hP hD hS 1 0 rfl rfl (by unfold vp_in; decide) d_Cmd_nothingTold_219 (fun H locs hP hD hS => ?_)
  have hP : va_P D classes [(h0, .inr (13, [.int fl0, .ref xm, .int fl1, .int fl2, .ref xs, .int fl3, .int fl4, .int fl5, .ref xb, .int fl6, .int fl7, .int fl8, .int fl9, .int fl10, .int fl11, .int fl12, .ref xa, .ref ke])), (ke, .inl (cI, 4160, .inl (upd f475 (((nI (160 * 9 + 3 * cnt 9)) + 4) : Int32).toNatClampNeg 1)))] H := hP
  have hD : va_D A [(h0, .inr (13, [.int fl0, .ref xm, .int fl1, .int fl2, .ref xs, .int fl3, .int fl4, .int fl5, .ref xb, .int fl6, .int fl7, .int fl8, .int fl9, .int fl10, .int fl11, .int fl12, .ref xa, .ref ke])), (ke, .inl (cI, 4160, .inl (upd f475 (((nI (160 * 9 + 3 * cnt 9)) + 4) : Int32).toNatClampNeg 1)))] := hD
  generalize upd f475 (((nI (160 * 9 + 3 * cnt 9)) + 4) : Int32).toNatClampNeg 1 = f480 at hP hD
  refine lv_iinc (v := 4) (lv' := [(1, .int 4), (0, .ref h0)]) hx hb d_Cmd_nothingTold_220 hl (k := 0) rfl (by decide) (by decide) rfl (fun ls hl => ?_)
  refine lv_goto (tgt := 201) hx hb d_Cmd_nothingTold_223 (by decide) ?_
  refine lv_iload_n hx hb d_Cmd_nothingTold_201 rfl (lv_at hl 0 rfl) ?_
  refine lv_iconst (v := 4) hx hb d_Cmd_nothingTold_202 (by decide) ?_
  refine lv_icmp_ge (tgt := 226) hx hb d_Cmd_nothingTold_203 (by decide) (fun c_481 => ?_) (fun c_481 => absurd c_481 (by decide))
  refine lv_iconst (v := 0) hx hb d_Cmd_nothingTold_226 (by decide) ?_
  refine lv_istore_n (lv' := [(1, .int 0), (0, .ref h0)]) hx hb d_Cmd_nothingTold_227 rfl hl (by decide) rfl (fun ls hl => ?_)
  refine lv_iload_n hx hb d_Cmd_nothingTold_228 rfl (lv_at hl 0 rfl) ?_
  refine lv_iconst (v := 2) hx hb d_Cmd_nothingTold_229 (by decide) ?_
  refine lv_icmp_ge (tgt := 253) hx hb d_Cmd_nothingTold_230 (by decide) (fun c_482 => absurd c_482 (by decide)) (fun c_482 => ?_)
  refine lv_aload_n hx hb d_Cmd_nothingTold_233 rfl (lv_at hl 1 rfl) ?_
  refine va_get (D := D) (ci := 13) (v := .ref ke) (C := R_Cmd) (T := F_Cmd) (N := 18) hx hb htw i_Cmd hown hC.1 hP 0 rfl rfl 17 (by decide) (htw _ k563) (fun _ h9 => h9) rfl d_Cmd_nothingTold_234 ?_
  refine lv_bipush (v := 11) hx hb d_Cmd_nothingTold_237 (by decide) ?_
  refine lv_iload_n hx hb d_Cmd_nothingTold_239 rfl (lv_at hl 0 rfl) ?_
  refine wc_i (wr := [(h0, .inr (13, [.int fl0, .ref xm, .int fl1, .int fl2, .ref xs, .int fl3, .int fl4, .int fl5, .ref xb, .int fl6, .int fl7, .int fl8, .int fl9, .int fl10, .int fl11, .int fl12, .ref xa, .ref ke])), (ke, .inl (cI, 4160, .inl f480))]) hC hP hD hS [] [0, 1] rfl rfl (by decide) (by decide) (va_runS (As := [.int 11, .int 0]) (rest := [.ref ke]) ⟨hx, hb, hml, hown, htw⟩ (c_rowOf l D cI cL B _ 11 0 (by decide)) (va_cwS 2 htw gS_Cmd_113 rfl rfl rfl (by decide +kernel) ⟨Nat.le_of_ble_eq_true rfl, Nat.le_of_ble_eq_true rfl⟩) (wC_pre hC hP hD hS [] (by decide) rfl) rfl rfl hl.1 rfl (lv_room (Nat.le_of_ble_eq_true rfl)) d_Cmd_nothingTold_240 ⟨Nat.le_of_ble_eq_true rfl, Nat.le_of_ble_eq_true rfl⟩) (fun r485 u483 H locs hw484 hP hD hS => ?_)
  obtain rfl : r485 = (nI (160 * 11 + 0 * cnt 11)) := hw484
  have hP : va_P D classes [(h0, .inr (13, [.int fl0, .ref xm, .int fl1, .int fl2, .ref xs, .int fl3, .int fl4, .int fl5, .ref xb, .int fl6, .int fl7, .int fl8, .int fl9, .int fl10, .int fl11, .int fl12, .ref xa, .ref ke])), (ke, .inl (cI, 4160, .inl f480))] H := hP
  have hD : va_D A [(h0, .inr (13, [.int fl0, .ref xm, .int fl1, .int fl2, .ref xs, .int fl3, .int fl4, .int fl5, .ref xb, .int fl6, .int fl7, .int fl8, .int fl9, .int fl10, .int fl11, .int fl12, .ref xa, .ref ke])), (ke, .inl (cI, 4160, .inl f480))] := hD
  refine W.widen (k := 0) (n := 0) (by omega) (by omega) ?_
  refine lv_iconst (v := 1) hx hb d_Cmd_nothingTold_243 (by decide) ?_
  refine lv_iadd hx hb d_Cmd_nothingTold_244 ?_
  refine lv_iconst (v := (-1)) hx hb d_Cmd_nothingTold_245 (by decide) ?_
  refine va_iast hx hb hC.1 hP hD hS 1 0 rfl rfl (by unfold vp_in; decide) d_Cmd_nothingTold_246 (fun H locs hP hD hS => ?_)
  have hP : va_P D classes [(h0, .inr (13, [.int fl0, .ref xm, .int fl1, .int fl2, .ref xs, .int fl3, .int fl4, .int fl5, .ref xb, .int fl6, .int fl7, .int fl8, .int fl9, .int fl10, .int fl11, .int fl12, .ref xa, .ref ke])), (ke, .inl (cI, 4160, .inl (upd f480 (((nI (160 * 11 + 0 * cnt 11)) + 1) : Int32).toNatClampNeg (-1))))] H := hP
  have hD : va_D A [(h0, .inr (13, [.int fl0, .ref xm, .int fl1, .int fl2, .ref xs, .int fl3, .int fl4, .int fl5, .ref xb, .int fl6, .int fl7, .int fl8, .int fl9, .int fl10, .int fl11, .int fl12, .ref xa, .ref ke])), (ke, .inl (cI, 4160, .inl (upd f480 (((nI (160 * 11 + 0 * cnt 11)) + 1) : Int32).toNatClampNeg (-1))))] := hD
  generalize upd f480 (((nI (160 * 11 + 0 * cnt 11)) + 1) : Int32).toNatClampNeg (-1) = f486 at hP hD
  refine lv_iinc (v := 1) (lv' := [(1, .int 1), (0, .ref h0)]) hx hb d_Cmd_nothingTold_247 hl (k := 0) rfl (by decide) (by decide) rfl (fun ls hl => ?_)
  refine lv_goto (tgt := 228) hx hb d_Cmd_nothingTold_250 (by decide) ?_
  refine lv_iload_n hx hb d_Cmd_nothingTold_228 rfl (lv_at hl 0 rfl) ?_
  refine lv_iconst (v := 2) hx hb d_Cmd_nothingTold_229 (by decide) ?_
  refine lv_icmp_ge (tgt := 253) hx hb d_Cmd_nothingTold_230 (by decide) (fun c_487 => absurd c_487 (by decide)) (fun c_487 => ?_)
  refine lv_aload_n hx hb d_Cmd_nothingTold_233 rfl (lv_at hl 1 rfl) ?_
  refine va_get (D := D) (ci := 13) (v := .ref ke) (C := R_Cmd) (T := F_Cmd) (N := 18) hx hb htw i_Cmd hown hC.1 hP 0 rfl rfl 17 (by decide) (htw _ k563) (fun _ h9 => h9) rfl d_Cmd_nothingTold_234 ?_
  refine lv_bipush (v := 11) hx hb d_Cmd_nothingTold_237 (by decide) ?_
  refine lv_iload_n hx hb d_Cmd_nothingTold_239 rfl (lv_at hl 0 rfl) ?_
  refine wc_i (wr := [(h0, .inr (13, [.int fl0, .ref xm, .int fl1, .int fl2, .ref xs, .int fl3, .int fl4, .int fl5, .ref xb, .int fl6, .int fl7, .int fl8, .int fl9, .int fl10, .int fl11, .int fl12, .ref xa, .ref ke])), (ke, .inl (cI, 4160, .inl f486))]) hC hP hD hS [] [0, 1] rfl rfl (by decide) (by decide) (va_runS (As := [.int 11, .int 1]) (rest := [.ref ke]) ⟨hx, hb, hml, hown, htw⟩ (c_rowOf l D cI cL B _ 11 1 (by decide)) (va_cwS 2 htw gS_Cmd_113 rfl rfl rfl (by decide +kernel) ⟨Nat.le_of_ble_eq_true rfl, Nat.le_of_ble_eq_true rfl⟩) (wC_pre hC hP hD hS [] (by decide) rfl) rfl rfl hl.1 rfl (lv_room (Nat.le_of_ble_eq_true rfl)) d_Cmd_nothingTold_240 ⟨Nat.le_of_ble_eq_true rfl, Nat.le_of_ble_eq_true rfl⟩) (fun r490 u488 H locs hw489 hP hD hS => ?_)
  obtain rfl : r490 = (nI (160 * 11 + 1 * cnt 11)) := hw489
  have hP : va_P D classes [(h0, .inr (13, [.int fl0, .ref xm, .int fl1, .int fl2, .ref xs, .int fl3, .int fl4, .int fl5, .ref xb, .int fl6, .int fl7, .int fl8, .int fl9, .int fl10, .int fl11, .int fl12, .ref xa, .ref ke])), (ke, .inl (cI, 4160, .inl f486))] H := hP
  have hD : va_D A [(h0, .inr (13, [.int fl0, .ref xm, .int fl1, .int fl2, .ref xs, .int fl3, .int fl4, .int fl5, .ref xb, .int fl6, .int fl7, .int fl8, .int fl9, .int fl10, .int fl11, .int fl12, .ref xa, .ref ke])), (ke, .inl (cI, 4160, .inl f486))] := hD
  refine W.widen (k := 0) (n := 0) (by omega) (by omega) ?_
  refine lv_iconst (v := 1) hx hb d_Cmd_nothingTold_243 (by decide) ?_
  refine lv_iadd hx hb d_Cmd_nothingTold_244 ?_
  refine lv_iconst (v := (-1)) hx hb d_Cmd_nothingTold_245 (by decide) ?_
  refine va_iast hx hb hC.1 hP hD hS 1 0 rfl rfl (by unfold vp_in; decide) d_Cmd_nothingTold_246 (fun H locs hP hD hS => ?_)
  have hP : va_P D classes [(h0, .inr (13, [.int fl0, .ref xm, .int fl1, .int fl2, .ref xs, .int fl3, .int fl4, .int fl5, .ref xb, .int fl6, .int fl7, .int fl8, .int fl9, .int fl10, .int fl11, .int fl12, .ref xa, .ref ke])), (ke, .inl (cI, 4160, .inl (upd f486 (((nI (160 * 11 + 1 * cnt 11)) + 1) : Int32).toNatClampNeg (-1))))] H := hP
  have hD : va_D A [(h0, .inr (13, [.int fl0, .ref xm, .int fl1, .int fl2, .ref xs, .int fl3, .int fl4, .int fl5, .ref xb, .int fl6, .int fl7, .int fl8, .int fl9, .int fl10, .int fl11, .int fl12, .ref xa, .ref ke])), (ke, .inl (cI, 4160, .inl (upd f486 (((nI (160 * 11 + 1 * cnt 11)) + 1) : Int32).toNatClampNeg (-1))))] := hD
  generalize upd f486 (((nI (160 * 11 + 1 * cnt 11)) + 1) : Int32).toNatClampNeg (-1) = f491 at hP hD
  refine lv_iinc (v := 2) (lv' := [(1, .int 2), (0, .ref h0)]) hx hb d_Cmd_nothingTold_247 hl (k := 0) rfl (by decide) (by decide) rfl (fun ls hl => ?_)
  refine lv_goto (tgt := 228) hx hb d_Cmd_nothingTold_250 (by decide) ?_
  refine lv_iload_n hx hb d_Cmd_nothingTold_228 rfl (lv_at hl 0 rfl) ?_
  refine lv_iconst (v := 2) hx hb d_Cmd_nothingTold_229 (by decide) ?_
  refine lv_icmp_ge (tgt := 253) hx hb d_Cmd_nothingTold_230 (by decide) (fun c_492 => ?_) (fun c_492 => absurd c_492 (by decide))
  refine W.widen (k := 0) (n := 0) (Nat.le_of_ble_eq_true rfl) (Nat.le_of_ble_eq_true rfl) ?_
  have hP9 := hP.sub (ws' := [(h0, .inr (13, [.int fl0, .ref xm, .int fl1, .int fl2, .ref xs, .int fl3, .int fl4, .int fl5, .ref xb, .int fl6, .int fl7, .int fl8, .int fl9, .int fl10, .int fl11, .int fl12, .ref xa, .ref ke])), (ke, .inl (cI, 4160, .inl f491))]) [0, 1] rfl
  have hD9 := hD.sub (ws' := [(h0, .inr (13, [.int fl0, .ref xm, .int fl1, .int fl2, .ref xs, .int fl3, .int fl4, .int fl5, .ref xb, .int fl6, .int fl7, .int fl8, .int fl9, .int fl10, .int fl11, .int fl12, .ref xa, .ref ke])), (ke, .inl (cI, 4160, .inl f491))]) [0, 1] (by decide) rfl
  exact W.vret hx hb hr (fun t ht hW => ⟨⟨f491, rfl, trivial, by rw [ht]; exact hP9, va_K.moved hW.alike hC.1, hD9⟩, hS.F ht⟩) hS.2.2 d_Cmd_nothingTold_253
