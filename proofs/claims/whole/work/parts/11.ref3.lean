theorem dX8_reset_0 : decode cX8_reset 0 = .ok (.aload_n 0, 1) := by decide +kernel
theorem dX8_reset_1 : decode cX8_reset 1 = .ok (.iload_n 1, 1) := by decide +kernel
theorem dX8_reset_2 : decode cX8_reset 2 = .ok (.invokevirtual 162, 3) := by decide +kernel
theorem dX8_reset_5 : decode cX8_reset 5 = .ok (.ifCond .eq 11, 3) := by decide +kernel
theorem dX8_reset_8 : decode cX8_reset 8 = .ok (.aload_n 0, 1) := by decide +kernel
theorem dX8_reset_9 : decode cX8_reset 9 = .ok (.iload_n 2, 1) := by decide +kernel
theorem dX8_reset_10 : decode cX8_reset 10 = .ok (.invokevirtual 153, 3) := by decide +kernel
theorem dX8_reset_13 : decode cX8_reset 13 = .ok (.ifCond .ne 5, 3) := by decide +kernel
theorem dX8_reset_16 : decode cX8_reset 16 = .ok (.iconst (-1), 1) := by decide +kernel
theorem dX8_reset_17 : decode cX8_reset 17 = .ok (.ireturn, 1) := by decide +kernel
theorem dX8_reset_18 : decode cX8_reset 18 = .ok (.aload_n 0, 1) := by decide +kernel
theorem dX8_reset_19 : decode cX8_reset 19 = .ok (.getfield 22, 3) := by decide +kernel
theorem dX8_reset_22 : decode cX8_reset 22 = .ok (.iconst 0, 1) := by decide +kernel
theorem dX8_reset_23 : decode cX8_reset 23 = .ok (.iload_n 1, 1) := by decide +kernel
theorem dX8_reset_24 : decode cX8_reset 24 = .ok (.iadd, 1) := by decide +kernel
theorem dX8_reset_25 : decode cX8_reset 25 = .ok (.iaload, 1) := by decide +kernel
theorem dX8_reset_26 : decode cX8_reset 26 = .ok (.ifCond .eq 6, 3) := by decide +kernel
theorem dX8_reset_29 : decode cX8_reset 29 = .ok (.bipush (-2), 2) := by decide +kernel
theorem dX8_reset_31 : decode cX8_reset 31 = .ok (.ireturn, 1) := by decide +kernel
theorem dX8_reset_32 : decode cX8_reset 32 = .ok (.aload_n 0, 1) := by decide +kernel
theorem dX8_reset_33 : decode cX8_reset 33 = .ok (.invokevirtual 156, 3) := by decide +kernel
theorem dX8_reset_36 : decode cX8_reset 36 = .ok (.aload_n 0, 1) := by decide +kernel
theorem dX8_reset_37 : decode cX8_reset 37 = .ok (.iload_n 2, 1) := by decide +kernel
theorem dX8_reset_38 : decode cX8_reset 38 = .ok (.invokevirtual 144, 3) := by decide +kernel
theorem dX8_reset_41 : decode cX8_reset 41 = .ok (.ifCond .eq 6, 3) := by decide +kernel
theorem dX8_reset_44 : decode cX8_reset 44 = .ok (.bipush (-9), 2) := by decide +kernel
theorem dX8_reset_46 : decode cX8_reset 46 = .ok (.ireturn, 1) := by decide +kernel
theorem dX8_reset_47 : decode cX8_reset 47 = .ok (.iconst 0, 1) := by decide +kernel
theorem dX8_reset_48 : decode cX8_reset 48 = .ok (.istore_n 3, 1) := by decide +kernel
theorem dX8_reset_49 : decode cX8_reset 49 = .ok (.aload_n 0, 1) := by decide +kernel
theorem dX8_reset_50 : decode cX8_reset 50 = .ok (.getfield 47, 3) := by decide +kernel
theorem dX8_reset_53 : decode cX8_reset 53 = .ok (.bipush 6, 2) := by decide +kernel
theorem dX8_reset_55 : decode cX8_reset 55 = .ok (.iload_n 1, 1) := by decide +kernel
theorem dX8_reset_56 : decode cX8_reset 56 = .ok (.iadd, 1) := by decide +kernel
theorem dX8_reset_57 : decode cX8_reset 57 = .ok (.iaload, 1) := by decide +kernel
theorem dX8_reset_58 : decode cX8_reset 58 = .ok (.istore 4, 2) := by decide +kernel
theorem dX8_reset_60 : decode cX8_reset 60 = .ok (.iconst 0, 1) := by decide +kernel
theorem dX8_reset_61 : decode cX8_reset 61 = .ok (.istore 5, 2) := by decide +kernel
theorem dX8_reset_63 : decode cX8_reset 63 = .ok (.aload_n 0, 1) := by decide +kernel
theorem dX8_reset_64 : decode cX8_reset 64 = .ok (.getfield 47, 3) := by decide +kernel
theorem dX8_reset_67 : decode cX8_reset 67 = .ok (.bipush 17, 2) := by decide +kernel
theorem dX8_reset_69 : decode cX8_reset 69 = .ok (.iload 5, 2) := by decide +kernel
theorem dX8_reset_71 : decode cX8_reset 71 = .ok (.iadd, 1) := by decide +kernel
theorem dX8_reset_72 : decode cX8_reset 72 = .ok (.iaload, 1) := by decide +kernel
theorem dX8_reset_73 : decode cX8_reset 73 = .ok (.iload_n 2, 1) := by decide +kernel
theorem dX8_reset_74 : decode cX8_reset 74 = .ok (.if_icmp .eq 106, 3) := by decide +kernel
theorem dX8_reset_77 : decode cX8_reset 77 = .ok (.aload_n 0, 1) := by decide +kernel
theorem dX8_reset_78 : decode cX8_reset 78 = .ok (.getfield 47, 3) := by decide +kernel
theorem dX8_reset_81 : decode cX8_reset 81 = .ok (.bipush 17, 2) := by decide +kernel
theorem dX8_reset_83 : decode cX8_reset 83 = .ok (.iload 5, 2) := by decide +kernel
theorem dX8_reset_85 : decode cX8_reset 85 = .ok (.iadd, 1) := by decide +kernel
theorem dX8_reset_86 : decode cX8_reset 86 = .ok (.iaload, 1) := by decide +kernel
theorem dX8_reset_87 : decode cX8_reset 87 = .ok (.istore 6, 2) := by decide +kernel
theorem dX8_reset_89 : decode cX8_reset 89 = .ok (.aload_n 0, 1) := by decide +kernel
theorem dX8_reset_90 : decode cX8_reset 90 = .ok (.iload 6, 2) := by decide +kernel
theorem dX8_reset_92 : decode cX8_reset 92 = .ok (.invokevirtual 144, 3) := by decide +kernel
theorem dX8_reset_95 : decode cX8_reset 95 = .ok (.ifCond .eq 7, 3) := by decide +kernel
theorem dX8_reset_98 : decode cX8_reset 98 = .ok (.iconst 1, 1) := by decide +kernel
theorem dX8_reset_99 : decode cX8_reset 99 = .ok (.goto 19, 3) := by decide +kernel
theorem dX8_reset_102 : decode cX8_reset 102 = .ok (.aload_n 0, 1) := by decide +kernel
theorem dX8_reset_103 : decode cX8_reset 103 = .ok (.iload_n 1, 1) := by decide +kernel
theorem dX8_reset_104 : decode cX8_reset 104 = .ok (.iload 4, 2) := by decide +kernel
theorem dX8_reset_106 : decode cX8_reset 106 = .ok (.invokevirtual 138, 3) := by decide +kernel
theorem dX8_reset_109 : decode cX8_reset 109 = .ok (.aload_n 0, 1) := by decide +kernel
theorem dX8_reset_110 : decode cX8_reset 110 = .ok (.iload 6, 2) := by decide +kernel
theorem dX8_reset_112 : decode cX8_reset 112 = .ok (.invokevirtual 141, 3) := by decide +kernel
theorem dX8_reset_115 : decode cX8_reset 115 = .ok (.isub, 1) := by decide +kernel
theorem dX8_reset_116 : decode cX8_reset 116 = .ok (.iconst 1, 1) := by decide +kernel
theorem dX8_reset_117 : decode cX8_reset 117 = .ok (.iadd, 1) := by decide +kernel
theorem dX8_reset_118 : decode cX8_reset 118 = .ok (.istore 7, 2) := by decide +kernel
theorem dX8_reset_120 : decode cX8_reset 120 = .ok (.iload 7, 2) := by decide +kernel
theorem dX8_reset_122 : decode cX8_reset 122 = .ok (.bipush 99, 2) := by decide +kernel
theorem dX8_reset_124 : decode cX8_reset 124 = .ok (.if_icmp .le 6, 3) := by decide +kernel
theorem dX8_reset_127 : decode cX8_reset 127 = .ok (.bipush (-9), 2) := by decide +kernel
theorem dX8_reset_129 : decode cX8_reset 129 = .ok (.ireturn, 1) := by decide +kernel
theorem dX8_reset_130 : decode cX8_reset 130 = .ok (.iload_n 3, 1) := by decide +kernel
theorem dX8_reset_131 : decode cX8_reset 131 = .ok (.aload_n 0, 1) := by decide +kernel
theorem dX8_reset_132 : decode cX8_reset 132 = .ok (.getfield 47, 3) := by decide +kernel
theorem dX8_reset_135 : decode cX8_reset 135 = .ok (.bipush 12, 2) := by decide +kernel
theorem dX8_reset_137 : decode cX8_reset 137 = .ok (.iload 6, 2) := by decide +kernel
theorem dX8_reset_139 : decode cX8_reset 139 = .ok (.iadd, 1) := by decide +kernel
theorem dX8_reset_140 : decode cX8_reset 140 = .ok (.iaload, 1) := by decide +kernel
theorem dX8_reset_141 : decode cX8_reset 141 = .ok (.iload 7, 2) := by decide +kernel
theorem dX8_reset_143 : decode cX8_reset 143 = .ok (.if_icmp .ge 19, 3) := by decide +kernel
theorem dX8_reset_146 : decode cX8_reset 146 = .ok (.iload 7, 2) := by decide +kernel
theorem dX8_reset_148 : decode cX8_reset 148 = .ok (.aload_n 0, 1) := by decide +kernel
theorem dX8_reset_149 : decode cX8_reset 149 = .ok (.getfield 47, 3) := by decide +kernel
theorem dX8_reset_152 : decode cX8_reset 152 = .ok (.bipush 12, 2) := by decide +kernel
theorem dX8_reset_154 : decode cX8_reset 154 = .ok (.iload 6, 2) := by decide +kernel
theorem dX8_reset_156 : decode cX8_reset 156 = .ok (.iadd, 1) := by decide +kernel
theorem dX8_reset_157 : decode cX8_reset 157 = .ok (.iaload, 1) := by decide +kernel
theorem dX8_reset_158 : decode cX8_reset 158 = .ok (.isub, 1) := by decide +kernel
theorem dX8_reset_159 : decode cX8_reset 159 = .ok (.goto 4, 3) := by decide +kernel
theorem dX8_reset_162 : decode cX8_reset 162 = .ok (.iconst 0, 1) := by decide +kernel
theorem dX8_reset_163 : decode cX8_reset 163 = .ok (.iadd, 1) := by decide +kernel
theorem dX8_reset_164 : decode cX8_reset 164 = .ok (.istore_n 3, 1) := by decide +kernel
theorem dX8_reset_165 : decode cX8_reset 165 = .ok (.aload_n 0, 1) := by decide +kernel
theorem dX8_reset_166 : decode cX8_reset 166 = .ok (.iload_n 1, 1) := by decide +kernel
theorem dX8_reset_167 : decode cX8_reset 167 = .ok (.iload 4, 2) := by decide +kernel
theorem dX8_reset_169 : decode cX8_reset 169 = .ok (.invokevirtual 147, 3) := by decide +kernel
theorem dX8_reset_172 : decode cX8_reset 172 = .ok (.istore 4, 2) := by decide +kernel
theorem dX8_reset_174 : decode cX8_reset 174 = .ok (.iinc 5 1, 3) := by decide +kernel
theorem dX8_reset_177 : decode cX8_reset 177 = .ok (.goto (-114), 3) := by decide +kernel
theorem dX8_reset_180 : decode cX8_reset 180 = .ok (.aload_n 0, 1) := by decide +kernel
theorem dX8_reset_181 : decode cX8_reset 181 = .ok (.iload_n 1, 1) := by decide +kernel
theorem dX8_reset_182 : decode cX8_reset 182 = .ok (.iload 4, 2) := by decide +kernel
theorem dX8_reset_184 : decode cX8_reset 184 = .ok (.invokevirtual 138, 3) := by decide +kernel
theorem dX8_reset_187 : decode cX8_reset 187 = .ok (.aload_n 0, 1) := by decide +kernel
theorem dX8_reset_188 : decode cX8_reset 188 = .ok (.iload_n 2, 1) := by decide +kernel
theorem dX8_reset_189 : decode cX8_reset 189 = .ok (.invokevirtual 141, 3) := by decide +kernel
theorem dX8_reset_192 : decode cX8_reset 192 = .ok (.isub, 1) := by decide +kernel
theorem dX8_reset_193 : decode cX8_reset 193 = .ok (.istore 5, 2) := by decide +kernel
theorem dX8_reset_195 : decode cX8_reset 195 = .ok (.iload 5, 2) := by decide +kernel
theorem dX8_reset_197 : decode cX8_reset 197 = .ok (.iconst 1, 1) := by decide +kernel
theorem dX8_reset_198 : decode cX8_reset 198 = .ok (.if_icmp .ge 6, 3) := by decide +kernel
theorem dX8_reset_201 : decode cX8_reset 201 = .ok (.bipush (-9), 2) := by decide +kernel
theorem dX8_reset_203 : decode cX8_reset 203 = .ok (.ireturn, 1) := by decide +kernel
theorem dX8_reset_204 : decode cX8_reset 204 = .ok (.iload_n 3, 1) := by decide +kernel
theorem dX8_reset_205 : decode cX8_reset 205 = .ok (.aload_n 0, 1) := by decide +kernel
theorem dX8_reset_206 : decode cX8_reset 206 = .ok (.getfield 47, 3) := by decide +kernel
theorem dX8_reset_209 : decode cX8_reset 209 = .ok (.bipush 12, 2) := by decide +kernel
theorem dX8_reset_211 : decode cX8_reset 211 = .ok (.iload_n 2, 1) := by decide +kernel
theorem dX8_reset_212 : decode cX8_reset 212 = .ok (.iadd, 1) := by decide +kernel
theorem dX8_reset_213 : decode cX8_reset 213 = .ok (.iaload, 1) := by decide +kernel
theorem dX8_reset_214 : decode cX8_reset 214 = .ok (.iload 5, 2) := by decide +kernel
theorem dX8_reset_216 : decode cX8_reset 216 = .ok (.if_icmp .le 18, 3) := by decide +kernel
theorem dX8_reset_219 : decode cX8_reset 219 = .ok (.aload_n 0, 1) := by decide +kernel
theorem dX8_reset_220 : decode cX8_reset 220 = .ok (.getfield 47, 3) := by decide +kernel
theorem dX8_reset_223 : decode cX8_reset 223 = .ok (.bipush 12, 2) := by decide +kernel
theorem dX8_reset_225 : decode cX8_reset 225 = .ok (.iload_n 2, 1) := by decide +kernel
theorem dX8_reset_226 : decode cX8_reset 226 = .ok (.iadd, 1) := by decide +kernel
theorem dX8_reset_227 : decode cX8_reset 227 = .ok (.iaload, 1) := by decide +kernel
theorem dX8_reset_228 : decode cX8_reset 228 = .ok (.iload 5, 2) := by decide +kernel
theorem dX8_reset_230 : decode cX8_reset 230 = .ok (.isub, 1) := by decide +kernel
theorem dX8_reset_231 : decode cX8_reset 231 = .ok (.goto 4, 3) := by decide +kernel
theorem dX8_reset_234 : decode cX8_reset 234 = .ok (.iconst 0, 1) := by decide +kernel
theorem dX8_reset_235 : decode cX8_reset 235 = .ok (.iadd, 1) := by decide +kernel
theorem dX8_reset_236 : decode cX8_reset 236 = .ok (.ireturn, 1) := by decide +kernel
def f_X8_reset_b16 (M : xMem) : Option (Int32 × xMem) := some ((-1 : Int32), M)
def f_X8_reset_b235 (M33 : xMem) (v63_3 : Int32) (t235_0 : Int32) : Option (Int32 × xMem) := some ((v63_3 + t235_0), M33)
def f_X8_reset_b163 (a1 : Int32) (M33 : xMem) (v63_3 : Int32) (v63_4 : Int32) (v63_5 : Int32) (k63 : Int32 → Int32 → Int32 → Option (Int32 × xMem)) (t163_0 : Int32) : Option (Int32 × xMem) := xb1 (f_X8_lighter a1 v63_4 M33) (fun r169 => k63 (v63_3 + t163_0) r169 (v63_5 + (1 : Int32)))
def f_X8_reset_b118 (a1 : Int32) (M33 : xMem) (v63_3 : Int32) (v63_4 : Int32) (v63_5 : Int32) (k63 : Int32 → Int32 → Int32 → Option (Int32 × xMem)) (t118_0 : Int32) : Option (Int32 × xMem) := (if t118_0 ≤ (99 : Int32) then xchk (xb ((12 : Int32) + (M33 8 27 ((17 : Int32) + v63_5).toNatClampNeg)) 27) ((if t118_0 ≤ (M33 8 27 ((12 : Int32) + (M33 8 27 ((17 : Int32) + v63_5).toNatClampNeg)).toNatClampNeg) then (f_X8_reset_b163 a1 M33 v63_3 v63_4 v63_5 k63) (0 : Int32) else xchk (xb ((12 : Int32) + (M33 8 27 ((17 : Int32) + v63_5).toNatClampNeg)) 27) ((f_X8_reset_b163 a1 M33 v63_3 v63_4 v63_5 k63) (t118_0 - (M33 8 27 ((12 : Int32) + (M33 8 27 ((17 : Int32) + v63_5).toNatClampNeg)).toNatClampNeg))))) else some ((-9 : Int32), M33))
def f_X8_reset_l63 (a1 : Int32) (a2 : Int32) (M33 : xMem) : Nat → Int32 → Int32 → Int32 → Option (Int32 × xMem)
  | 0, _, _, _ => none
  | n + 1, v63_3, v63_4, v63_5 => xchk (xb ((17 : Int32) + v63_5) 27) ((if (M33 8 27 ((17 : Int32) + v63_5).toNatClampNeg) = a2 then xb1 (f_X8_seemsAs a1 v63_4 M33) (fun r184 => xb1 (f_X8_stiffOf a2 M33) (fun r189 => (if (1 : Int32) ≤ (r184 - r189) then xchk (xb ((12 : Int32) + a2) 27) ((if (M33 8 27 ((12 : Int32) + a2).toNatClampNeg) ≤ (r184 - r189) then (f_X8_reset_b235 M33 v63_3) (0 : Int32) else xchk (xb ((12 : Int32) + a2) 27) ((f_X8_reset_b235 M33 v63_3) ((M33 8 27 ((12 : Int32) + a2).toNatClampNeg) - (r184 - r189))))) else some ((-9 : Int32), M33)))) else xchk (xb ((17 : Int32) + v63_5) 27) (xb1 (f_X8_isFull (M33 8 27 ((17 : Int32) + v63_5).toNatClampNeg) M33) (fun r92 => (if r92 = (0 : Int32) then xb1 (f_X8_seemsAs a1 v63_4 M33) (fun r106 => xb1 (f_X8_stiffOf (M33 8 27 ((17 : Int32) + v63_5).toNatClampNeg) M33) (fun r112 => (f_X8_reset_b118 a1 M33 v63_3 v63_4 v63_5 (f_X8_reset_l63 a1 a2 M33 n)) ((r106 - r112) + (1 : Int32)))) else (f_X8_reset_b118 a1 M33 v63_3 v63_4 v63_5 (f_X8_reset_l63 a1 a2 M33 n)) (1 : Int32))))))
def f_X8_reset (a1 : Int32) (a2 : Int32) (M : xMem) : Option (Int32 × xMem) := xb1 (f_X8_isEgg a1 M) (fun r2 => (if r2 = (0 : Int32) then (f_X8_reset_b16 M) else xb1 (f_X8_isScale a2 M) (fun r10 => (if r10 = (0 : Int32) then (f_X8_reset_b16 M) else xchk (xb ((0 : Int32) + a1) 27) ((if (M 8 7 ((0 : Int32) + a1).toNatClampNeg) = (0 : Int32) then xb1 (f_X8_asItIs M) (fun M33 => xb1 (f_X8_isFull a2 M33) (fun r38 => (if r38 = (0 : Int32) then xchk (xb ((6 : Int32) + a1) 27) ((f_X8_reset_l63 a1 a2 M33 FU) (0 : Int32) (M33 8 27 ((6 : Int32) + a1).toNatClampNeg) (0 : Int32)) else some ((-9 : Int32), M33)))) else some ((-2 : Int32), M)))))))
set_option maxHeartbeats 4000000 in
set_option maxRecDepth 100000 in
theorem w_X8_reset_b16 {p : Program} {l : Launch} {e : Env} {s : State} {m : MethodId} {args : Array Value} {below : List Frame} {meth : Method} {c : Code} {G : xG} {rr : Int32} {MM : xMem} (E : xE p s m args meth c cX8_reset 8 (some .int) RX8 G) (M : xMem) (L : xLL) : f_X8_reset_b16 M  = some (rr, MM) → ∀ (ls : Array Slot), lv_has ls 8 [] → ∀ (H : Heap) (locs : List Loc), xI G M L s.heap H locs → W p l e (xR 3) s m args below meth c H locs 0 0 (MQ below (xQi G rr MM L s.heap.size) args s 0 0 (xZ G s.heap.size)) (F0 m 16 ls []) := by
  have hx := E.1
  have hb := E.2.1
  intro  hf ls hl H locs hI
  rw [f_X8_reset_b16] at hf
  refine lv_iconst (v := -1) hx hb dX8_reset_16 (by decide) ?_
  obtain ⟨rfl, rfl⟩ := xinj2 hf
  exact x_iret E hI rfl dX8_reset_17
set_option maxHeartbeats 4000000 in
set_option maxRecDepth 100000 in
theorem w_X8_reset_b235 {p : Program} {l : Launch} {e : Env} {s : State} {m : MethodId} {args : Array Value} {below : List Frame} {meth : Method} {c : Code} {G : xG} {rr : Int32} {MM : xMem} (E : xE p s m args meth c cX8_reset 8 (some .int) RX8 G) (M : xMem) (L : xLL) (M33 : xMem) (v63_3 : Int32) : ∀ (t235_0 : Int32), f_X8_reset_b235 M33 v63_3 t235_0 = some (rr, MM) → ∀ (ls : Array Slot), lv_has ls 8 [] → ∀ (H : Heap) (locs : List Loc), xI G M33 L s.heap H locs → W p l e (xR 3) s m args below meth c H locs 0 0 (MQ below (xQi G rr MM L s.heap.size) args s 0 0 (xZ G s.heap.size)) (F0 m 235 ls [.int t235_0, .int v63_3]) := by
  have hx := E.1
  have hb := E.2.1
  intro t235_0 hf ls hl H locs hI
  rw [f_X8_reset_b235] at hf
  refine lv_iadd hx hb dX8_reset_235 ?_
  obtain ⟨rfl, rfl⟩ := xinj2 hf
  exact x_iret E hI rfl dX8_reset_236
set_option maxHeartbeats 4000000 in
set_option maxRecDepth 100000 in
theorem w_X8_reset_b163 {p : Program} {l : Launch} {e : Env} {s : State} {m : MethodId} {args : Array Value} {below : List Frame} {meth : Method} {c : Code} {G : xG} {rr : Int32} {MM : xMem} (E : xE p s m args meth c cX8_reset 8 (some .int) RX8 G) (a1 : Int32) (a2 : Int32) (M : xMem) (L : xLL) (M33 : xMem) (v63_3 : Int32) (v63_4 : Int32) (v63_5 : Int32) (k63 : Int32 → Int32 → Int32 → Option (Int32 × xMem)) (hk63 : ∀ (v63_3 : Int32) (v63_4 : Int32) (v63_5 : Int32), k63 v63_3 v63_4 v63_5 = some (rr, MM) → ∀ (ls : Array Slot), lv_has ls 8 [(0, .ref (xq G 8 0)), (1, .int a1), (2, .int a2), (3, .int v63_3), (4, .int v63_4), (5, .int v63_5)] → ∀ (H : Heap) (locs : List Loc), xI G M33 L s.heap H locs → W p l e (xR 3) s m args below meth c H locs 0 0 (MQ below (xQi G rr MM L s.heap.size) args s 0 0 (xZ G s.heap.size)) (F0 m 63 ls [])) : ∀ (t163_0 : Int32), f_X8_reset_b163 a1 M33 v63_3 v63_4 v63_5 k63 t163_0 = some (rr, MM) → ∀ (ls : Array Slot), lv_has ls 8 [(0, .ref (xq G 8 0)), (1, .int a1), (2, .int a2), (4, .int v63_4), (5, .int v63_5)] → ∀ (H : Heap) (locs : List Loc), xI G M33 L s.heap H locs → W p l e (xR 3) s m args below meth c H locs 0 0 (MQ below (xQi G rr MM L s.heap.size) args s 0 0 (xZ G s.heap.size)) (F0 m 163 ls [.int t163_0, .int v63_3]) := by
  have hx := E.1
  have hb := E.2.1
  intro t163_0 hf ls hl H locs hI
  rw [f_X8_reset_b163] at hf
  refine lv_iadd hx hb dX8_reset_163 ?_
  refine lv_istore_n (lv' := [(3, .int (v63_3 + t163_0)), (0, .ref (xq G 8 0)), (1, .int a1), (2, .int a2), (4, .int v63_4), (5, .int v63_5)]) hx hb dX8_reset_164 rfl hl (by decide) rfl (fun ls hl => ?_)
  refine lv_aload_n hx hb dX8_reset_165 rfl (lv_at hl 1 rfl) ?_
  refine lv_iload_n hx hb dX8_reset_166 rfl (lv_at hl 2 rfl) ?_
  refine lv_iload hx hb dX8_reset_167 (lv_at hl 4 rfl) ?_
  obtain ⟨r169, g169, hf⟩ := xb1_s hf
  refine x_callVi (As := [.int a1, .int v63_4]) (rest := []) E hI mx_8_0 rfl rfl rfl (c_X8_lighter l G _ (M := M33) (L := L) (a1 := a1) (a2 := v63_4) g169) yv_X8_lighter ml_X8_147 (by decide) (by decide) rfl rfl hl.1 (Nat.le_of_ble_eq_true rfl) dX8_reset_169 (fun H locs hI => ?_)
  refine lv_istore (lv' := [(4, .int r169), (3, .int (v63_3 + t163_0)), (0, .ref (xq G 8 0)), (1, .int a1), (2, .int a2), (5, .int v63_5)]) hx hb dX8_reset_172 hl (by decide) rfl (fun ls hl => ?_)
  refine lv_iinc (v := (v63_5 + (1 : Int32))) (lv' := [(5, .int (v63_5 + (1 : Int32))), (4, .int r169), (3, .int (v63_3 + t163_0)), (0, .ref (xq G 8 0)), (1, .int a1), (2, .int a2)]) hx hb dX8_reset_174 hl (k := 5) rfl rfl (by decide) rfl (fun ls hl => ?_)
  refine lv_goto (tgt := 63) hx hb dX8_reset_177 (by decide) ?_
  exact hk63 (v63_3 + t163_0) r169 (v63_5 + (1 : Int32)) hf _ (lv_sub hl [3, 4, 5, 2, 1, 0] rfl) _ _ hI
set_option maxHeartbeats 4000000 in
set_option maxRecDepth 100000 in
theorem w_X8_reset_b118 {p : Program} {l : Launch} {e : Env} {s : State} {m : MethodId} {args : Array Value} {below : List Frame} {meth : Method} {c : Code} {G : xG} {rr : Int32} {MM : xMem} (E : xE p s m args meth c cX8_reset 8 (some .int) RX8 G) (a1 : Int32) (a2 : Int32) (M : xMem) (L : xLL) (M33 : xMem) (v63_3 : Int32) (v63_4 : Int32) (v63_5 : Int32) (k63 : Int32 → Int32 → Int32 → Option (Int32 × xMem)) (hk63 : ∀ (v63_3 : Int32) (v63_4 : Int32) (v63_5 : Int32), k63 v63_3 v63_4 v63_5 = some (rr, MM) → ∀ (ls : Array Slot), lv_has ls 8 [(0, .ref (xq G 8 0)), (1, .int a1), (2, .int a2), (3, .int v63_3), (4, .int v63_4), (5, .int v63_5)] → ∀ (H : Heap) (locs : List Loc), xI G M33 L s.heap H locs → W p l e (xR 3) s m args below meth c H locs 0 0 (MQ below (xQi G rr MM L s.heap.size) args s 0 0 (xZ G s.heap.size)) (F0 m 63 ls [])) : ∀ (t118_0 : Int32), f_X8_reset_b118 a1 M33 v63_3 v63_4 v63_5 k63 t118_0 = some (rr, MM) → ∀ (ls : Array Slot), lv_has ls 8 [(0, .ref (xq G 8 0)), (1, .int a1), (2, .int a2), (3, .int v63_3), (4, .int v63_4), (5, .int v63_5), (6, .int (M33 8 27 ((17 : Int32) + v63_5).toNatClampNeg))] → ∀ (H : Heap) (locs : List Loc), xI G M33 L s.heap H locs → W p l e (xR 3) s m args below meth c H locs 0 0 (MQ below (xQi G rr MM L s.heap.size) args s 0 0 (xZ G s.heap.size)) (F0 m 118 ls [.int t118_0]) := by
  have hx := E.1
  have hb := E.2.1
  intro t118_0 hf ls hl H locs hI
  rw [f_X8_reset_b118] at hf
  refine lv_istore (lv' := [(7, .int t118_0), (0, .ref (xq G 8 0)), (1, .int a1), (2, .int a2), (3, .int v63_3), (4, .int v63_4), (5, .int v63_5), (6, .int (M33 8 27 ((17 : Int32) + v63_5).toNatClampNeg))]) hx hb dX8_reset_118 hl (by decide) rfl (fun ls hl => ?_)
  refine lv_iload hx hb dX8_reset_120 (lv_at hl 0 rfl) ?_
  refine lv_bipush (v := 99) hx hb dX8_reset_122 (by decide) ?_
  refine lv_icmp_le (tgt := 130) hx hb dX8_reset_124 (by decide) (fun c124 => ?_) (fun c124 => ?_)
  · replace hf := xif_t c124 hf
    refine lv_iload_n hx hb dX8_reset_130 rfl (lv_at hl 4 rfl) ?_
    refine lv_aload_n hx hb dX8_reset_131 rfl (lv_at hl 1 rfl) ?_
    refine gf_X8_47 E hI dX8_reset_132 ?_
    refine lv_bipush (v := 12) hx hb dX8_reset_135 (by decide) ?_
    refine lv_iload hx hb dX8_reset_137 (lv_at hl 7 rfl) ?_
    refine lv_iadd hx hb dX8_reset_139 ?_
    obtain ⟨h140b, hf⟩ := xchk_s hf
    refine x_iald (n := 27) E hI mx_8_27 (fun _ _ => rfl) h140b dX8_reset_140 ?_
    refine lv_iload hx hb dX8_reset_141 (lv_at hl 0 rfl) ?_
    refine lv_icmp_ge (tgt := 162) hx hb dX8_reset_143 (by decide) (fun c143 => ?_) (fun c143 => ?_)
    · replace hf := xif_t c143 hf
      refine lv_iconst (v := 0) hx hb dX8_reset_162 (by decide) ?_
      exact (w_X8_reset_b163 E (a1 := a1) (a2 := a2) (M := M) (L := L) (M33 := M33) (v63_3 := v63_3) (v63_4 := v63_4) (v63_5 := v63_5) (k63 := k63) (hk63 := hk63)) (0 : Int32) hf _ (lv_sub hl [1, 2, 3, 5, 6] rfl) _ _ hI
    · replace hf := xif_f c143 hf
      refine lv_iload hx hb dX8_reset_146 (lv_at hl 0 rfl) ?_
      refine lv_aload_n hx hb dX8_reset_148 rfl (lv_at hl 1 rfl) ?_
      refine gf_X8_47 E hI dX8_reset_149 ?_
      refine lv_bipush (v := 12) hx hb dX8_reset_152 (by decide) ?_
      refine lv_iload hx hb dX8_reset_154 (lv_at hl 7 rfl) ?_
      refine lv_iadd hx hb dX8_reset_156 ?_
      obtain ⟨h157b, hf⟩ := xchk_s hf
      refine x_iald (n := 27) E hI mx_8_27 (fun _ _ => rfl) h157b dX8_reset_157 ?_
      refine lv_isub hx hb dX8_reset_158 ?_
      refine lv_goto (tgt := 163) hx hb dX8_reset_159 (by decide) ?_
      exact (w_X8_reset_b163 E (a1 := a1) (a2 := a2) (M := M) (L := L) (M33 := M33) (v63_3 := v63_3) (v63_4 := v63_4) (v63_5 := v63_5) (k63 := k63) (hk63 := hk63)) (t118_0 - (M33 8 27 ((12 : Int32) + (M33 8 27 ((17 : Int32) + v63_5).toNatClampNeg)).toNatClampNeg)) hf _ (lv_sub hl [1, 2, 3, 5, 6] rfl) _ _ hI
  · replace hf := xif_f c124 hf
    refine lv_bipush (v := -9) hx hb dX8_reset_127 (by decide) ?_
    obtain ⟨rfl, rfl⟩ := xinj2 hf
    exact x_iret E hI rfl dX8_reset_129
set_option maxHeartbeats 4000000 in
set_option maxRecDepth 100000 in
theorem w_X8_reset_l63 {p : Program} {l : Launch} {e : Env} {s : State} {m : MethodId} {args : Array Value} {below : List Frame} {meth : Method} {c : Code} {G : xG} {rr : Int32} {MM : xMem} (E : xE p s m args meth c cX8_reset 8 (some .int) RX8 G) (a1 : Int32) (a2 : Int32) (M : xMem) (L : xLL) (M33 : xMem) : ∀ (n : Nat), ∀ (v63_3 : Int32) (v63_4 : Int32) (v63_5 : Int32), f_X8_reset_l63 a1 a2 M33 n v63_3 v63_4 v63_5 = some (rr, MM) → ∀ (ls : Array Slot), lv_has ls 8 [(0, .ref (xq G 8 0)), (1, .int a1), (2, .int a2), (3, .int v63_3), (4, .int v63_4), (5, .int v63_5)] → ∀ (H : Heap) (locs : List Loc), xI G M33 L s.heap H locs → W p l e (xR 3) s m args below meth c H locs 0 0 (MQ below (xQi G rr MM L s.heap.size) args s 0 0 (xZ G s.heap.size)) (F0 m 63 ls []) := by
  have hx := E.1
  have hb := E.2.1
  intro n
  induction n with
  | zero =>
    intro v63_3 v63_4 v63_5 hf
    exact absurd hf (by simp [f_X8_reset_l63])
  | succ n ih =>
    intro v63_3 v63_4 v63_5 hf ls hl H locs hI
    rw [f_X8_reset_l63] at hf
    refine lv_aload_n hx hb dX8_reset_63 rfl (lv_at hl 0 rfl) ?_
    refine gf_X8_47 E hI dX8_reset_64 ?_
    refine lv_bipush (v := 17) hx hb dX8_reset_67 (by decide) ?_
    refine lv_iload hx hb dX8_reset_69 (lv_at hl 5 rfl) ?_
    refine lv_iadd hx hb dX8_reset_71 ?_
    obtain ⟨h72b, hf⟩ := xchk_s hf
    refine x_iald (n := 27) E hI mx_8_27 (fun _ _ => rfl) h72b dX8_reset_72 ?_
    refine lv_iload_n hx hb dX8_reset_73 rfl (lv_at hl 2 rfl) ?_
    refine lv_icmp_eq (tgt := 180) hx hb dX8_reset_74 (by decide) (fun c74 => ?_) (fun c74 => ?_)
    · replace hf := xif_t c74 hf
      refine lv_aload_n hx hb dX8_reset_180 rfl (lv_at hl 0 rfl) ?_
      refine lv_iload_n hx hb dX8_reset_181 rfl (lv_at hl 1 rfl) ?_
      refine lv_iload hx hb dX8_reset_182 (lv_at hl 4 rfl) ?_
      obtain ⟨r184, g184, hf⟩ := xb1_s hf
      refine x_callVi (As := [.int a1, .int v63_4]) (rest := []) E hI mx_8_0 rfl rfl rfl (c_X8_seemsAs l G _ (M := M33) (L := L) (a1 := a1) (a2 := v63_4) g184) yv_X8_seemsAs ml_X8_138 (by decide) (by decide) rfl rfl hl.1 (Nat.le_of_ble_eq_true rfl) dX8_reset_184 (fun H locs hI => ?_)
      refine lv_aload_n hx hb dX8_reset_187 rfl (lv_at hl 0 rfl) ?_
      refine lv_iload_n hx hb dX8_reset_188 rfl (lv_at hl 2 rfl) ?_
      obtain ⟨r189, g189, hf⟩ := xb1_s hf
      refine x_callVi (As := [.int a2]) (rest := [.int r184]) E hI mx_8_0 rfl rfl rfl (c_X8_stiffOf l G _ (M := M33) (L := L) (a1 := a2) g189) yv_X8_stiffOf ml_X8_141 (by decide) (by decide) rfl rfl hl.1 (Nat.le_of_ble_eq_true rfl) dX8_reset_189 (fun H locs hI => ?_)
      refine lv_isub hx hb dX8_reset_192 ?_
      refine lv_istore (lv' := [(5, .int (r184 - r189)), (0, .ref (xq G 8 0)), (1, .int a1), (2, .int a2), (3, .int v63_3), (4, .int v63_4)]) hx hb dX8_reset_193 hl (by decide) rfl (fun ls hl => ?_)
      refine lv_iload hx hb dX8_reset_195 (lv_at hl 0 rfl) ?_
      refine lv_iconst (v := 1) hx hb dX8_reset_197 (by decide) ?_
      refine lv_icmp_ge (tgt := 204) hx hb dX8_reset_198 (by decide) (fun c198 => ?_) (fun c198 => ?_)
      · replace hf := xif_t c198 hf
        refine lv_iload_n hx hb dX8_reset_204 rfl (lv_at hl 4 rfl) ?_
        refine lv_aload_n hx hb dX8_reset_205 rfl (lv_at hl 1 rfl) ?_
        refine gf_X8_47 E hI dX8_reset_206 ?_
        refine lv_bipush (v := 12) hx hb dX8_reset_209 (by decide) ?_
        refine lv_iload_n hx hb dX8_reset_211 rfl (lv_at hl 3 rfl) ?_
        refine lv_iadd hx hb dX8_reset_212 ?_
        obtain ⟨h213b, hf⟩ := xchk_s hf
        refine x_iald (n := 27) E hI mx_8_27 (fun _ _ => rfl) h213b dX8_reset_213 ?_
        refine lv_iload hx hb dX8_reset_214 (lv_at hl 0 rfl) ?_
        refine lv_icmp_le (tgt := 234) hx hb dX8_reset_216 (by decide) (fun c216 => ?_) (fun c216 => ?_)
        · replace hf := xif_t c216 hf
          refine lv_iconst (v := 0) hx hb dX8_reset_234 (by decide) ?_
          exact (w_X8_reset_b235 E (M := M) (L := L) (M33 := M33) (v63_3 := v63_3)) (0 : Int32) hf _ (lv_sub hl [] rfl) _ _ hI
        · replace hf := xif_f c216 hf
          refine lv_aload_n hx hb dX8_reset_219 rfl (lv_at hl 1 rfl) ?_
          refine gf_X8_47 E hI dX8_reset_220 ?_
          refine lv_bipush (v := 12) hx hb dX8_reset_223 (by decide) ?_
          refine lv_iload_n hx hb dX8_reset_225 rfl (lv_at hl 3 rfl) ?_
          refine lv_iadd hx hb dX8_reset_226 ?_
          obtain ⟨h227b, hf⟩ := xchk_s hf
          refine x_iald (n := 27) E hI mx_8_27 (fun _ _ => rfl) h227b dX8_reset_227 ?_
          refine lv_iload hx hb dX8_reset_228 (lv_at hl 0 rfl) ?_
          refine lv_isub hx hb dX8_reset_230 ?_
          refine lv_goto (tgt := 235) hx hb dX8_reset_231 (by decide) ?_
          exact (w_X8_reset_b235 E (M := M) (L := L) (M33 := M33) (v63_3 := v63_3)) ((M33 8 27 ((12 : Int32) + a2).toNatClampNeg) - (r184 - r189)) hf _ (lv_sub hl [] rfl) _ _ hI
      · replace hf := xif_f c198 hf
        refine lv_bipush (v := -9) hx hb dX8_reset_201 (by decide) ?_
        obtain ⟨rfl, rfl⟩ := xinj2 hf
        exact x_iret E hI rfl dX8_reset_203
    · replace hf := xif_f c74 hf
      refine lv_aload_n hx hb dX8_reset_77 rfl (lv_at hl 0 rfl) ?_
      refine gf_X8_47 E hI dX8_reset_78 ?_
      refine lv_bipush (v := 17) hx hb dX8_reset_81 (by decide) ?_
      refine lv_iload hx hb dX8_reset_83 (lv_at hl 5 rfl) ?_
      refine lv_iadd hx hb dX8_reset_85 ?_
      obtain ⟨h86b, hf⟩ := xchk_s hf
      refine x_iald (n := 27) E hI mx_8_27 (fun _ _ => rfl) h86b dX8_reset_86 ?_
      refine lv_istore (lv' := [(6, .int (M33 8 27 ((17 : Int32) + v63_5).toNatClampNeg)), (0, .ref (xq G 8 0)), (1, .int a1), (2, .int a2), (3, .int v63_3), (4, .int v63_4), (5, .int v63_5)]) hx hb dX8_reset_87 hl (by decide) rfl (fun ls hl => ?_)
      refine lv_aload_n hx hb dX8_reset_89 rfl (lv_at hl 1 rfl) ?_
      refine lv_iload hx hb dX8_reset_90 (lv_at hl 0 rfl) ?_
      obtain ⟨r92, g92, hf⟩ := xb1_s hf
      refine x_callVi (As := [.int (M33 8 27 ((17 : Int32) + v63_5).toNatClampNeg)]) (rest := []) E hI mx_8_0 rfl rfl rfl (c_X8_isFull l G _ (M := M33) (L := L) (a1 := (M33 8 27 ((17 : Int32) + v63_5).toNatClampNeg)) g92) yv_X8_isFull ml_X8_144 (by decide) (by decide) rfl rfl hl.1 (Nat.le_of_ble_eq_true rfl) dX8_reset_92 (fun H locs hI => ?_)
      refine lv_if_eq (tgt := 102) hx hb dX8_reset_95 (by decide) (fun c95 => ?_) (fun c95 => ?_)
      · replace hf := xif_t c95 hf
        refine lv_aload_n hx hb dX8_reset_102 rfl (lv_at hl 1 rfl) ?_
        refine lv_iload_n hx hb dX8_reset_103 rfl (lv_at hl 2 rfl) ?_
        refine lv_iload hx hb dX8_reset_104 (lv_at hl 5 rfl) ?_
        obtain ⟨r106, g106, hf⟩ := xb1_s hf
        refine x_callVi (As := [.int a1, .int v63_4]) (rest := []) E hI mx_8_0 rfl rfl rfl (c_X8_seemsAs l G _ (M := M33) (L := L) (a1 := a1) (a2 := v63_4) g106) yv_X8_seemsAs ml_X8_138 (by decide) (by decide) rfl rfl hl.1 (Nat.le_of_ble_eq_true rfl) dX8_reset_106 (fun H locs hI => ?_)
        refine lv_aload_n hx hb dX8_reset_109 rfl (lv_at hl 1 rfl) ?_
        refine lv_iload hx hb dX8_reset_110 (lv_at hl 0 rfl) ?_
        obtain ⟨r112, g112, hf⟩ := xb1_s hf
        refine x_callVi (As := [.int (M33 8 27 ((17 : Int32) + v63_5).toNatClampNeg)]) (rest := [.int r106]) E hI mx_8_0 rfl rfl rfl (c_X8_stiffOf l G _ (M := M33) (L := L) (a1 := (M33 8 27 ((17 : Int32) + v63_5).toNatClampNeg)) g112) yv_X8_stiffOf ml_X8_141 (by decide) (by decide) rfl rfl hl.1 (Nat.le_of_ble_eq_true rfl) dX8_reset_112 (fun H locs hI => ?_)
        refine lv_isub hx hb dX8_reset_115 ?_
        refine lv_iconst (v := 1) hx hb dX8_reset_116 (by decide) ?_
        refine lv_iadd hx hb dX8_reset_117 ?_
        exact (w_X8_reset_b118 E (a1 := a1) (a2 := a2) (M := M) (L := L) (M33 := M33) (v63_3 := v63_3) (v63_4 := v63_4) (v63_5 := v63_5) (k63 := (f_X8_reset_l63 a1 a2 M33 n)) (hk63 := ih)) ((r106 - r112) + (1 : Int32)) hf _ (lv_sub hl [1, 2, 3, 4, 5, 6, 0] rfl) _ _ hI
      · replace hf := xif_f c95 hf
        refine lv_iconst (v := 1) hx hb dX8_reset_98 (by decide) ?_
        refine lv_goto (tgt := 118) hx hb dX8_reset_99 (by decide) ?_
        exact (w_X8_reset_b118 E (a1 := a1) (a2 := a2) (M := M) (L := L) (M33 := M33) (v63_3 := v63_3) (v63_4 := v63_4) (v63_5 := v63_5) (k63 := (f_X8_reset_l63 a1 a2 M33 n)) (hk63 := ih)) (1 : Int32) hf _ (lv_sub hl [1, 2, 3, 4, 5, 6, 0] rfl) _ _ hI
set_option maxHeartbeats 4000000 in
set_option maxRecDepth 100000 in
theorem c_X8_reset (l : Launch) (G : xG) (sz : Nat) (M : xMem) (L : xLL) (a1 : Int32) (a2 : Int32) {rr : Int32} {MM : xMem} (hf : f_X8_reset a1 a2 M = some (rr, MM)) : Met l yX8_reset (Cond.code yX8_reset cX8_reset 8 (some .int) :: xTB) (xR 3) (xP G M L sz [.ref (xq G 8 0), .int a1, .int a2]) (xQi G rr MM L sz) 0 0 (xZ G sz) := by
  refine x_met (cc := cX8_reset) (nL := 8) (rt := (some .int)) (by decide) (Nat.le_of_ble_eq_true rfl) ?_
  intro p e s m below meth c ls hsz E hl hI
  subst hsz
  have E : xE p s m _ meth c cX8_reset 8 (some .int) RX8 G := E
  have hx := E.1
  have hb := E.2.1
  have hl : lv_has ls 8 [(0, .ref (xq G 8 0)), (1, .int a1), (2, .int a2)] := hl
  rw [f_X8_reset] at hf
  refine lv_aload_n hx hb dX8_reset_0 rfl (lv_at hl 0 rfl) ?_
  refine lv_iload_n hx hb dX8_reset_1 rfl (lv_at hl 1 rfl) ?_
  obtain ⟨r2, g2, hf⟩ := xb1_s hf
  refine x_callVi (As := [.int a1]) (rest := []) E hI mx_8_0 rfl rfl rfl (c_X8_isEgg l G _ (M := M) (L := L) (a1 := a1) g2) yv_X8_isEgg ml_X8_162 (by decide) (by decide) rfl rfl hl.1 (Nat.le_of_ble_eq_true rfl) dX8_reset_2 (fun H locs hI => ?_)
  refine lv_if_eq (tgt := 16) hx hb dX8_reset_5 (by decide) (fun c5 => ?_) (fun c5 => ?_)
  · replace hf := xif_t c5 hf
    exact (w_X8_reset_b16 E (M := M) (L := L))  hf _ (lv_sub hl [] rfl) _ _ hI
  · replace hf := xif_f c5 hf
    refine lv_aload_n hx hb dX8_reset_8 rfl (lv_at hl 0 rfl) ?_
    refine lv_iload_n hx hb dX8_reset_9 rfl (lv_at hl 2 rfl) ?_
    obtain ⟨r10, g10, hf⟩ := xb1_s hf
    refine x_callVi (As := [.int a2]) (rest := []) E hI mx_8_0 rfl rfl rfl (c_X8_isScale l G _ (M := M) (L := L) (a1 := a2) g10) yv_X8_isScale ml_X8_153 (by decide) (by decide) rfl rfl hl.1 (Nat.le_of_ble_eq_true rfl) dX8_reset_10 (fun H locs hI => ?_)
    refine lv_if_ne (tgt := 18) hx hb dX8_reset_13 (by decide) (fun c13 => ?_) (fun c13 => ?_)
    · replace hf := xif_f c13 hf
      refine lv_aload_n hx hb dX8_reset_18 rfl (lv_at hl 0 rfl) ?_
      refine gf_X8_22 E hI dX8_reset_19 ?_
      refine lv_iconst (v := 0) hx hb dX8_reset_22 (by decide) ?_
      refine lv_iload_n hx hb dX8_reset_23 rfl (lv_at hl 1 rfl) ?_
      refine lv_iadd hx hb dX8_reset_24 ?_
      obtain ⟨h25b, hf⟩ := xchk_s hf
      refine x_iald (n := 27) E hI mx_8_7 (fun _ _ => rfl) h25b dX8_reset_25 ?_
      refine lv_if_eq (tgt := 32) hx hb dX8_reset_26 (by decide) (fun c26 => ?_) (fun c26 => ?_)
      · replace hf := xif_t c26 hf
        refine lv_aload_n hx hb dX8_reset_32 rfl (lv_at hl 0 rfl) ?_
        obtain ⟨M33, g33, hf⟩ := xb1_s hf
        refine x_callVv (As := []) (rest := []) E hI mx_8_0 rfl rfl rfl (c_X8_asItIs l G _ (M := M) (L := L) g33) yv_X8_asItIs ml_X8_156 (by decide) (by decide) rfl rfl hl.1 (Nat.le_of_ble_eq_true rfl) dX8_reset_33 (fun H locs hI => ?_)
        refine lv_aload_n hx hb dX8_reset_36 rfl (lv_at hl 0 rfl) ?_
        refine lv_iload_n hx hb dX8_reset_37 rfl (lv_at hl 2 rfl) ?_
        obtain ⟨r38, g38, hf⟩ := xb1_s hf
        refine x_callVi (As := [.int a2]) (rest := []) E hI mx_8_0 rfl rfl rfl (c_X8_isFull l G _ (M := M33) (L := L) (a1 := a2) g38) yv_X8_isFull ml_X8_144 (by decide) (by decide) rfl rfl hl.1 (Nat.le_of_ble_eq_true rfl) dX8_reset_38 (fun H locs hI => ?_)
        refine lv_if_eq (tgt := 47) hx hb dX8_reset_41 (by decide) (fun c41 => ?_) (fun c41 => ?_)
        · replace hf := xif_t c41 hf
          refine lv_iconst (v := 0) hx hb dX8_reset_47 (by decide) ?_
          refine lv_istore_n (lv' := [(3, .int (0 : Int32)), (0, .ref (xq G 8 0)), (1, .int a1), (2, .int a2)]) hx hb dX8_reset_48 rfl hl (by decide) rfl (fun ls hl => ?_)
          refine lv_aload_n hx hb dX8_reset_49 rfl (lv_at hl 1 rfl) ?_
          refine gf_X8_47 E hI dX8_reset_50 ?_
          refine lv_bipush (v := 6) hx hb dX8_reset_53 (by decide) ?_
          refine lv_iload_n hx hb dX8_reset_55 rfl (lv_at hl 2 rfl) ?_
          refine lv_iadd hx hb dX8_reset_56 ?_
          obtain ⟨h57b, hf⟩ := xchk_s hf
          refine x_iald (n := 27) E hI mx_8_27 (fun _ _ => rfl) h57b dX8_reset_57 ?_
          refine lv_istore (lv' := [(4, .int (M33 8 27 ((6 : Int32) + a1).toNatClampNeg)), (3, .int (0 : Int32)), (0, .ref (xq G 8 0)), (1, .int a1), (2, .int a2)]) hx hb dX8_reset_58 hl (by decide) rfl (fun ls hl => ?_)
          refine lv_iconst (v := 0) hx hb dX8_reset_60 (by decide) ?_
          refine lv_istore (lv' := [(5, .int (0 : Int32)), (4, .int (M33 8 27 ((6 : Int32) + a1).toNatClampNeg)), (3, .int (0 : Int32)), (0, .ref (xq G 8 0)), (1, .int a1), (2, .int a2)]) hx hb dX8_reset_61 hl (by decide) rfl (fun ls hl => ?_)
          exact (w_X8_reset_l63 E (a1 := a1) (a2 := a2) (M := M) (L := L) (M33 := M33) FU) (0 : Int32) (M33 8 27 ((6 : Int32) + a1).toNatClampNeg) (0 : Int32) hf _ (lv_sub hl [3, 4, 5, 2, 1, 0] rfl) _ _ hI
        · replace hf := xif_f c41 hf
          refine lv_bipush (v := -9) hx hb dX8_reset_44 (by decide) ?_
          obtain ⟨rfl, rfl⟩ := xinj2 hf
          exact x_iret E hI rfl dX8_reset_46
      · replace hf := xif_f c26 hf
        refine lv_bipush (v := -2) hx hb dX8_reset_29 (by decide) ?_
        obtain ⟨rfl, rfl⟩ := xinj2 hf
        exact x_iret E hI rfl dX8_reset_31
    · replace hf := xif_t c13 hf
      exact (w_X8_reset_b16 E (M := M) (L := L))  hf _ (lv_sub hl [] rfl) _ _ hI
theorem dX8_lowest_0 : decode cX8_lowest 0 = .ok (.iload_n 0, 1) := by decide +kernel
theorem dX8_lowest_1 : decode cX8_lowest 1 = .ok (.istore_n 3, 1) := by decide +kernel
theorem dX8_lowest_2 : decode cX8_lowest 2 = .ok (.iload_n 1, 1) := by decide +kernel
theorem dX8_lowest_3 : decode cX8_lowest 3 = .ok (.istore 4, 2) := by decide +kernel
theorem dX8_lowest_5 : decode cX8_lowest 5 = .ok (.iload 4, 2) := by decide +kernel
theorem dX8_lowest_7 : decode cX8_lowest 7 = .ok (.ifCond .le 19, 3) := by decide +kernel
theorem dX8_lowest_10 : decode cX8_lowest 10 = .ok (.iload_n 3, 1) := by decide +kernel
theorem dX8_lowest_11 : decode cX8_lowest 11 = .ok (.iload 4, 2) := by decide +kernel
theorem dX8_lowest_13 : decode cX8_lowest 13 = .ok (.irem, 1) := by decide +kernel
theorem dX8_lowest_14 : decode cX8_lowest 14 = .ok (.istore 5, 2) := by decide +kernel
theorem dX8_lowest_16 : decode cX8_lowest 16 = .ok (.iload 4, 2) := by decide +kernel
theorem dX8_lowest_18 : decode cX8_lowest 18 = .ok (.istore_n 3, 1) := by decide +kernel
theorem dX8_lowest_19 : decode cX8_lowest 19 = .ok (.iload 5, 2) := by decide +kernel
theorem dX8_lowest_21 : decode cX8_lowest 21 = .ok (.istore 4, 2) := by decide +kernel
theorem dX8_lowest_23 : decode cX8_lowest 23 = .ok (.goto (-18), 3) := by decide +kernel
theorem dX8_lowest_26 : decode cX8_lowest 26 = .ok (.iload_n 2, 1) := by decide +kernel
theorem dX8_lowest_27 : decode cX8_lowest 27 = .ok (.ifCond .ne 7, 3) := by decide +kernel
theorem dX8_lowest_30 : decode cX8_lowest 30 = .ok (.iload_n 0, 1) := by decide +kernel
theorem dX8_lowest_31 : decode cX8_lowest 31 = .ok (.goto 4, 3) := by decide +kernel
theorem dX8_lowest_34 : decode cX8_lowest 34 = .ok (.iload_n 1, 1) := by decide +kernel
theorem dX8_lowest_35 : decode cX8_lowest 35 = .ok (.iload_n 3, 1) := by decide +kernel
theorem dX8_lowest_36 : decode cX8_lowest 36 = .ok (.idiv, 1) := by decide +kernel
theorem dX8_lowest_37 : decode cX8_lowest 37 = .ok (.ireturn, 1) := by decide +kernel
def f_X8_lowest_b35 (v5_3 : Int32) (t35_0 : Int32) : Option (Int32) := xchk (xnz v5_3) (some (t35_0 / v5_3))
def f_X8_lowest_l5 (a0 : Int32) (a1 : Int32) (a2 : Int32) : Nat → Int32 → Int32 → Option (Int32)
  | 0, _, _ => none
  | n + 1, v5_3, v5_4 => (if v5_4 ≤ (0 : Int32) then (if a2 = (0 : Int32) then (f_X8_lowest_b35 v5_3) a0 else (f_X8_lowest_b35 v5_3) a1) else xchk (xnz v5_4) ((f_X8_lowest_l5 a0 a1 a2 n) v5_4 (v5_3 - v5_3 / v5_4 * v5_4)))
def f_X8_lowest (a0 : Int32) (a1 : Int32) (a2 : Int32) (M : xMem) : Option (Int32) := (f_X8_lowest_l5 a0 a1 a2 FU) a0 a1
set_option maxHeartbeats 4000000 in
set_option maxRecDepth 100000 in
theorem w_X8_lowest_b35 {p : Program} {l : Launch} {e : Env} {s : State} {m : MethodId} {args : Array Value} {below : List Frame} {meth : Method} {c : Code} {G : xG} {rr : Int32} (E : xE p s m args meth c cX8_lowest 6 (some .int) RX8 G) (M : xMem) (L : xLL) (v5_3 : Int32) : ∀ (t35_0 : Int32), f_X8_lowest_b35 v5_3 t35_0 = some rr → ∀ (ls : Array Slot), lv_has ls 6 [(3, .int v5_3)] → ∀ (H : Heap) (locs : List Loc), xI G M L s.heap H locs → W p l e (xR 1) s m args below meth c H locs 0 0 (MQ below (xQi G rr M L s.heap.size) args s 0 0 (xZ G s.heap.size)) (F0 m 35 ls [.int t35_0]) := by
  have hx := E.1
  have hb := E.2.1
  intro t35_0 hf ls hl H locs hI
  rw [f_X8_lowest_b35] at hf
  refine lv_iload_n hx hb dX8_lowest_35 rfl (lv_at hl 0 rfl) ?_
  obtain ⟨h36z, hf⟩ := xchk_s hf
  refine lv_idiv hx hb dX8_lowest_36 (xnz_s h36z) ?_
  obtain rfl := xinj1 hf
  exact x_iret E hI rfl dX8_lowest_37
set_option maxHeartbeats 4000000 in
set_option maxRecDepth 100000 in
theorem w_X8_lowest_l5 {p : Program} {l : Launch} {e : Env} {s : State} {m : MethodId} {args : Array Value} {below : List Frame} {meth : Method} {c : Code} {G : xG} {rr : Int32} (E : xE p s m args meth c cX8_lowest 6 (some .int) RX8 G) (a0 : Int32) (a1 : Int32) (a2 : Int32) (M : xMem) (L : xLL) : ∀ (n : Nat), ∀ (v5_3 : Int32) (v5_4 : Int32), f_X8_lowest_l5 a0 a1 a2 n v5_3 v5_4 = some rr → ∀ (ls : Array Slot), lv_has ls 6 [(0, .int a0), (1, .int a1), (2, .int a2), (3, .int v5_3), (4, .int v5_4)] → ∀ (H : Heap) (locs : List Loc), xI G M L s.heap H locs → W p l e (xR 1) s m args below meth c H locs 0 0 (MQ below (xQi G rr M L s.heap.size) args s 0 0 (xZ G s.heap.size)) (F0 m 5 ls []) := by
  have hx := E.1
  have hb := E.2.1
  intro n
  induction n with
  | zero =>
    intro v5_3 v5_4 hf
    exact absurd hf (by simp [f_X8_lowest_l5])
  | succ n ih =>
    intro v5_3 v5_4 hf ls hl H locs hI
    rw [f_X8_lowest_l5] at hf
    refine lv_iload hx hb dX8_lowest_5 (lv_at hl 4 rfl) ?_
    refine lv_if_le (tgt := 26) hx hb dX8_lowest_7 (by decide) (fun c7 => ?_) (fun c7 => ?_)
    · replace hf := xif_t c7 hf
      refine lv_iload_n hx hb dX8_lowest_26 rfl (lv_at hl 2 rfl) ?_
      refine lv_if_ne (tgt := 34) hx hb dX8_lowest_27 (by decide) (fun c27 => ?_) (fun c27 => ?_)
      · replace hf := xif_f c27 hf
        refine lv_iload_n hx hb dX8_lowest_34 rfl (lv_at hl 1 rfl) ?_
        exact (w_X8_lowest_b35 E (M := M) (L := L) (v5_3 := v5_3)) a1 hf _ (lv_sub hl [3] rfl) _ _ hI
      · replace hf := xif_t c27 hf
        refine lv_iload_n hx hb dX8_lowest_30 rfl (lv_at hl 0 rfl) ?_
        refine lv_goto (tgt := 35) hx hb dX8_lowest_31 (by decide) ?_
        exact (w_X8_lowest_b35 E (M := M) (L := L) (v5_3 := v5_3)) a0 hf _ (lv_sub hl [3] rfl) _ _ hI
    · replace hf := xif_f c7 hf
      refine lv_iload_n hx hb dX8_lowest_10 rfl (lv_at hl 3 rfl) ?_
      refine lv_iload hx hb dX8_lowest_11 (lv_at hl 4 rfl) ?_
      obtain ⟨h13z, hf⟩ := xchk_s hf
      refine lv_irem hx hb dX8_lowest_13 (xnz_s h13z) ?_
      refine lv_istore (lv' := [(5, .int (v5_3 - v5_3 / v5_4 * v5_4)), (0, .int a0), (1, .int a1), (2, .int a2), (3, .int v5_3), (4, .int v5_4)]) hx hb dX8_lowest_14 hl (by decide) rfl (fun ls hl => ?_)
      refine lv_iload hx hb dX8_lowest_16 (lv_at hl 5 rfl) ?_
      refine lv_istore_n (lv' := [(3, .int v5_4), (5, .int (v5_3 - v5_3 / v5_4 * v5_4)), (0, .int a0), (1, .int a1), (2, .int a2), (4, .int v5_4)]) hx hb dX8_lowest_18 rfl hl (by decide) rfl (fun ls hl => ?_)
      refine lv_iload hx hb dX8_lowest_19 (lv_at hl 1 rfl) ?_
      refine lv_istore (lv' := [(4, .int (v5_3 - v5_3 / v5_4 * v5_4)), (3, .int v5_4), (5, .int (v5_3 - v5_3 / v5_4 * v5_4)), (0, .int a0), (1, .int a1), (2, .int a2)]) hx hb dX8_lowest_21 hl (by decide) rfl (fun ls hl => ?_)
      refine lv_goto (tgt := 5) hx hb dX8_lowest_23 (by decide) ?_
      exact ih v5_4 (v5_3 - v5_3 / v5_4 * v5_4) hf _ (lv_sub hl [3, 4, 5, 1, 0] rfl) _ _ hI
set_option maxHeartbeats 4000000 in
set_option maxRecDepth 100000 in
theorem c_X8_lowest (l : Launch) (G : xG) (sz : Nat) (M : xMem) (L : xLL) (a0 : Int32) (a1 : Int32) (a2 : Int32) {rr : Int32} (hf : f_X8_lowest a0 a1 a2 M = some rr) : Met l yX8_lowest (Cond.code yX8_lowest cX8_lowest 6 (some .int) :: xTB) (xR 1) (xP G M L sz [.int a0, .int a1, .int a2]) (xQi G rr M L sz) 0 0 (xZ G sz) := by
  refine x_met (cc := cX8_lowest) (nL := 6) (rt := (some .int)) (by decide) (Nat.le_of_ble_eq_true rfl) ?_
  intro p e s m below meth c ls hsz E hl hI
  subst hsz
  have E : xE p s m _ meth c cX8_lowest 6 (some .int) RX8 G := E
  have hx := E.1
  have hb := E.2.1
  have hl : lv_has ls 6 [(0, .int a0), (1, .int a1), (2, .int a2)] := hl
  rw [f_X8_lowest] at hf
  refine lv_iload_n hx hb dX8_lowest_0 rfl (lv_at hl 0 rfl) ?_
  refine lv_istore_n (lv' := [(3, .int a0), (0, .int a0), (1, .int a1), (2, .int a2)]) hx hb dX8_lowest_1 rfl hl (by decide) rfl (fun ls hl => ?_)
  refine lv_iload_n hx hb dX8_lowest_2 rfl (lv_at hl 2 rfl) ?_
  refine lv_istore (lv' := [(4, .int a1), (3, .int a0), (0, .int a0), (1, .int a1), (2, .int a2)]) hx hb dX8_lowest_3 hl (by decide) rfl (fun ls hl => ?_)
  exact (w_X8_lowest_l5 E (a0 := a0) (a1 := a1) (a2 := a2) (M := M) (L := L) FU) a0 a1 hf _ (lv_sub hl [2, 3, 4, 1, 0] rfl) _ _ hI
theorem dX8_cracks_0 : decode cX8_cracks 0 = .ok (.iload_n 1, 1) := by decide +kernel
theorem dX8_cracks_1 : decode cX8_cracks 1 = .ok (.iconst 0, 1) := by decide +kernel
theorem dX8_cracks_2 : decode cX8_cracks 2 = .ok (.bipush 10, 2) := by decide +kernel
theorem dX8_cracks_4 : decode cX8_cracks 4 = .ok (.invokestatic 66, 3) := by decide +kernel
theorem dX8_cracks_7 : decode cX8_cracks 7 = .ok (.ifCond .eq 22, 3) := by decide +kernel
theorem dX8_cracks_10 : decode cX8_cracks 10 = .ok (.iload_n 2, 1) := by decide +kernel
theorem dX8_cracks_11 : decode cX8_cracks 11 = .ok (.iconst 0, 1) := by decide +kernel
theorem dX8_cracks_12 : decode cX8_cracks 12 = .ok (.bipush 6, 2) := by decide +kernel
theorem dX8_cracks_14 : decode cX8_cracks 14 = .ok (.invokestatic 66, 3) := by decide +kernel
theorem dX8_cracks_17 : decode cX8_cracks 17 = .ok (.ifCond .eq 12, 3) := by decide +kernel
theorem dX8_cracks_20 : decode cX8_cracks 20 = .ok (.iload_n 3, 1) := by decide +kernel
theorem dX8_cracks_21 : decode cX8_cracks 21 = .ok (.iconst 0, 1) := by decide +kernel
theorem dX8_cracks_22 : decode cX8_cracks 22 = .ok (.iconst 1, 1) := by decide +kernel
theorem dX8_cracks_23 : decode cX8_cracks 23 = .ok (.invokestatic 66, 3) := by decide +kernel
theorem dX8_cracks_26 : decode cX8_cracks 26 = .ok (.ifCond .ne 5, 3) := by decide +kernel
theorem dX8_cracks_29 : decode cX8_cracks 29 = .ok (.iconst (-1), 1) := by decide +kernel
theorem dX8_cracks_30 : decode cX8_cracks 30 = .ok (.ireturn, 1) := by decide +kernel
theorem dX8_cracks_31 : decode cX8_cracks 31 = .ok (.iconst 0, 1) := by decide +kernel
theorem dX8_cracks_32 : decode cX8_cracks 32 = .ok (.istore 4, 2) := by decide +kernel
theorem dX8_cracks_34 : decode cX8_cracks 34 = .ok (.iconst 1, 1) := by decide +kernel
theorem dX8_cracks_35 : decode cX8_cracks 35 = .ok (.istore 5, 2) := by decide +kernel
theorem dX8_cracks_37 : decode cX8_cracks 37 = .ok (.iconst 0, 1) := by decide +kernel
theorem dX8_cracks_38 : decode cX8_cracks 38 = .ok (.istore 6, 2) := by decide +kernel
theorem dX8_cracks_40 : decode cX8_cracks 40 = .ok (.iload 6, 2) := by decide +kernel
theorem dX8_cracks_42 : decode cX8_cracks 42 = .ok (.aload_n 0, 1) := by decide +kernel
theorem dX8_cracks_43 : decode cX8_cracks 43 = .ok (.getfield 70, 3) := by decide +kernel
theorem dX8_cracks_46 : decode cX8_cracks 46 = .ok (.if_icmp .ge 70, 3) := by decide +kernel
theorem dX8_cracks_49 : decode cX8_cracks 49 = .ok (.aload_n 0, 1) := by decide +kernel
theorem dX8_cracks_50 : decode cX8_cracks 50 = .ok (.getfield 22, 3) := by decide +kernel
theorem dX8_cracks_53 : decode cX8_cracks 53 = .ok (.iconst 0, 1) := by decide +kernel
theorem dX8_cracks_54 : decode cX8_cracks 54 = .ok (.iload 6, 2) := by decide +kernel
theorem dX8_cracks_56 : decode cX8_cracks 56 = .ok (.iadd, 1) := by decide +kernel
theorem dX8_cracks_57 : decode cX8_cracks 57 = .ok (.iaload, 1) := by decide +kernel
theorem dX8_cracks_58 : decode cX8_cracks 58 = .ok (.ifCond .ne 18, 3) := by decide +kernel
theorem dX8_cracks_61 : decode cX8_cracks 61 = .ok (.aload_n 0, 1) := by decide +kernel
theorem dX8_cracks_62 : decode cX8_cracks 62 = .ok (.getfield 19, 3) := by decide +kernel
theorem dX8_cracks_65 : decode cX8_cracks 65 = .ok (.iload 6, 2) := by decide +kernel
theorem dX8_cracks_67 : decode cX8_cracks 67 = .ok (.iaload, 1) := by decide +kernel
theorem dX8_cracks_68 : decode cX8_cracks 68 = .ok (.iconst 3, 1) := by decide +kernel
theorem dX8_cracks_69 : decode cX8_cracks 69 = .ok (.if_icmp .eq 7, 3) := by decide +kernel
theorem dX8_cracks_72 : decode cX8_cracks 72 = .ok (.iconst 1, 1) := by decide +kernel
theorem dX8_cracks_73 : decode cX8_cracks 73 = .ok (.goto 4, 3) := by decide +kernel
theorem dX8_cracks_76 : decode cX8_cracks 76 = .ok (.iconst 0, 1) := by decide +kernel
theorem dX8_cracks_77 : decode cX8_cracks 77 = .ok (.istore 7, 2) := by decide +kernel
theorem dX8_cracks_79 : decode cX8_cracks 79 = .ok (.iload 4, 2) := by decide +kernel
theorem dX8_cracks_81 : decode cX8_cracks 81 = .ok (.iload 7, 2) := by decide +kernel
theorem dX8_cracks_83 : decode cX8_cracks 83 = .ok (.ifCond .eq 7, 3) := by decide +kernel
theorem dX8_cracks_86 : decode cX8_cracks 86 = .ok (.iconst 1, 1) := by decide +kernel
theorem dX8_cracks_87 : decode cX8_cracks 87 = .ok (.goto 4, 3) := by decide +kernel
theorem dX8_cracks_90 : decode cX8_cracks 90 = .ok (.iconst 0, 1) := by decide +kernel
theorem dX8_cracks_91 : decode cX8_cracks 91 = .ok (.iadd, 1) := by decide +kernel
theorem dX8_cracks_92 : decode cX8_cracks 92 = .ok (.istore 4, 2) := by decide +kernel
theorem dX8_cracks_94 : decode cX8_cracks 94 = .ok (.iload 5, 2) := by decide +kernel
theorem dX8_cracks_96 : decode cX8_cracks 96 = .ok (.iload 7, 2) := by decide +kernel
theorem dX8_cracks_98 : decode cX8_cracks 98 = .ok (.ifCond .eq 8, 3) := by decide +kernel
theorem dX8_cracks_101 : decode cX8_cracks 101 = .ok (.bipush 10, 2) := by decide +kernel
theorem dX8_cracks_103 : decode cX8_cracks 103 = .ok (.goto 4, 3) := by decide +kernel
theorem dX8_cracks_106 : decode cX8_cracks 106 = .ok (.iconst 1, 1) := by decide +kernel
theorem dX8_cracks_107 : decode cX8_cracks 107 = .ok (.imul, 1) := by decide +kernel
theorem dX8_cracks_108 : decode cX8_cracks 108 = .ok (.istore 5, 2) := by decide +kernel
theorem dX8_cracks_110 : decode cX8_cracks 110 = .ok (.iinc 6 1, 3) := by decide +kernel
theorem dX8_cracks_113 : decode cX8_cracks 113 = .ok (.goto (-73), 3) := by decide +kernel
theorem dX8_cracks_116 : decode cX8_cracks 116 = .ok (.iconst 0, 1) := by decide +kernel
theorem dX8_cracks_117 : decode cX8_cracks 117 = .ok (.istore 6, 2) := by decide +kernel
theorem dX8_cracks_119 : decode cX8_cracks 119 = .ok (.iconst 0, 1) := by decide +kernel
theorem dX8_cracks_120 : decode cX8_cracks 120 = .ok (.istore 7, 2) := by decide +kernel
theorem dX8_cracks_122 : decode cX8_cracks 122 = .ok (.iload 7, 2) := by decide +kernel
theorem dX8_cracks_124 : decode cX8_cracks 124 = .ok (.iconst 1, 1) := by decide +kernel
theorem dX8_cracks_125 : decode cX8_cracks 125 = .ok (.iload 4, 2) := by decide +kernel
theorem dX8_cracks_127 : decode cX8_cracks 127 = .ok (.ishl, 1) := by decide +kernel
theorem dX8_cracks_128 : decode cX8_cracks 128 = .ok (.if_icmp .ge 71, 3) := by decide +kernel
theorem dX8_cracks_131 : decode cX8_cracks 131 = .ok (.iconst 1, 1) := by decide +kernel
theorem dX8_cracks_132 : decode cX8_cracks 132 = .ok (.istore 8, 2) := by decide +kernel
theorem dX8_cracks_134 : decode cX8_cracks 134 = .ok (.iconst 0, 1) := by decide +kernel
theorem dX8_cracks_135 : decode cX8_cracks 135 = .ok (.istore 9, 2) := by decide +kernel
theorem dX8_cracks_137 : decode cX8_cracks 137 = .ok (.iload 9, 2) := by decide +kernel
theorem dX8_cracks_139 : decode cX8_cracks 139 = .ok (.iload 4, 2) := by decide +kernel
theorem dX8_cracks_141 : decode cX8_cracks 141 = .ok (.if_icmp .ge 32, 3) := by decide +kernel
theorem dX8_cracks_144 : decode cX8_cracks 144 = .ok (.iload 8, 2) := by decide +kernel
theorem dX8_cracks_146 : decode cX8_cracks 146 = .ok (.iload 7, 2) := by decide +kernel
theorem dX8_cracks_148 : decode cX8_cracks 148 = .ok (.iload 9, 2) := by decide +kernel
theorem dX8_cracks_150 : decode cX8_cracks 150 = .ok (.invokestatic 178, 3) := by decide +kernel
theorem dX8_cracks_153 : decode cX8_cracks 153 = .ok (.ifCond .eq 7, 3) := by decide +kernel
theorem dX8_cracks_156 : decode cX8_cracks 156 = .ok (.iload_n 1, 1) := by decide +kernel
theorem dX8_cracks_157 : decode cX8_cracks 157 = .ok (.goto 7, 3) := by decide +kernel
theorem dX8_cracks_160 : decode cX8_cracks 160 = .ok (.bipush 10, 2) := by decide +kernel
theorem dX8_cracks_162 : decode cX8_cracks 162 = .ok (.iload_n 1, 1) := by decide +kernel
theorem dX8_cracks_163 : decode cX8_cracks 163 = .ok (.isub, 1) := by decide +kernel
theorem dX8_cracks_164 : decode cX8_cracks 164 = .ok (.imul, 1) := by decide +kernel
theorem dX8_cracks_165 : decode cX8_cracks 165 = .ok (.istore 8, 2) := by decide +kernel
theorem dX8_cracks_167 : decode cX8_cracks 167 = .ok (.iinc 9 1, 3) := by decide +kernel
theorem dX8_cracks_170 : decode cX8_cracks 170 = .ok (.goto (-33), 3) := by decide +kernel
theorem dX8_cracks_173 : decode cX8_cracks 173 = .ok (.iload 6, 2) := by decide +kernel
theorem dX8_cracks_175 : decode cX8_cracks 175 = .ok (.iload 7, 2) := by decide +kernel
theorem dX8_cracks_177 : decode cX8_cracks 177 = .ok (.invokestatic 135, 3) := by decide +kernel
theorem dX8_cracks_180 : decode cX8_cracks 180 = .ok (.iload_n 2, 1) := by decide +kernel
theorem dX8_cracks_181 : decode cX8_cracks 181 = .ok (.if_icmp .gt 8, 3) := by decide +kernel
theorem dX8_cracks_184 : decode cX8_cracks 184 = .ok (.iload 8, 2) := by decide +kernel
theorem dX8_cracks_186 : decode cX8_cracks 186 = .ok (.goto 4, 3) := by decide +kernel
theorem dX8_cracks_189 : decode cX8_cracks 189 = .ok (.iconst 0, 1) := by decide +kernel
theorem dX8_cracks_190 : decode cX8_cracks 190 = .ok (.iadd, 1) := by decide +kernel
theorem dX8_cracks_191 : decode cX8_cracks 191 = .ok (.istore 6, 2) := by decide +kernel
theorem dX8_cracks_193 : decode cX8_cracks 193 = .ok (.iinc 7 1, 3) := by decide +kernel
theorem dX8_cracks_196 : decode cX8_cracks 196 = .ok (.goto (-74), 3) := by decide +kernel
theorem dX8_cracks_199 : decode cX8_cracks 199 = .ok (.iload 6, 2) := by decide +kernel
theorem dX8_cracks_201 : decode cX8_cracks 201 = .ok (.iload 5, 2) := by decide +kernel
theorem dX8_cracks_203 : decode cX8_cracks 203 = .ok (.iload_n 3, 1) := by decide +kernel
theorem dX8_cracks_204 : decode cX8_cracks 204 = .ok (.invokestatic 194, 3) := by decide +kernel
theorem dX8_cracks_207 : decode cX8_cracks 207 = .ok (.ireturn, 1) := by decide +kernel
def f_X8_cracks_b29 : Option (Int32) := some (-1 : Int32)
def f_X8_cracks_b190 (v122_6 : Int32) (v122_7 : Int32) (k122 : Int32 → Int32 → Option (Int32)) (t190_0 : Int32) : Option (Int32) := k122 (v122_6 + t190_0) (v122_7 + (1 : Int32))
def f_X8_cracks_b164 (v137_8 : Int32) (v137_9 : Int32) (k137 : Int32 → Int32 → Option (Int32)) (t164_0 : Int32) : Option (Int32) := k137 (v137_8 * t164_0) (v137_9 + (1 : Int32))
def f_X8_cracks_l137 (a1 : Int32) (a2 : Int32) (M : xMem) (v40_4 : Int32) (v122_6 : Int32) (v122_7 : Int32) (k122 : Int32 → Int32 → Option (Int32)) : Nat → Int32 → Int32 → Option (Int32)
  | 0, _, _ => none
  | n + 1, v137_8, v137_9 => (if v40_4 ≤ v137_9 then xb1 (f_X8_bits v122_7 M) (fun r177 => (if a2 < r177 then (f_X8_cracks_b190 v122_6 v122_7 k122) (0 : Int32) else (f_X8_cracks_b190 v122_6 v122_7 k122) v137_8)) else xb1 (f_X8_has v122_7 v137_9 M) (fun r150 => (if r150 = (0 : Int32) then (f_X8_cracks_b164 v137_8 v137_9 (f_X8_cracks_l137 a1 a2 M v40_4 v122_6 v122_7 k122 n)) ((10 : Int32) - a1) else (f_X8_cracks_b164 v137_8 v137_9 (f_X8_cracks_l137 a1 a2 M v40_4 v122_6 v122_7 k122 n)) a1)))
def f_X8_cracks_l122 (a1 : Int32) (a2 : Int32) (a3 : Int32) (M : xMem) (v40_4 : Int32) (v40_5 : Int32) : Nat → Int32 → Int32 → Option (Int32)
  | 0, _, _ => none
  | n + 1, v122_6, v122_7 => (if ((1 : Int32) <<< (v40_4 &&& 31)) ≤ v122_7 then xb1 (f_X8_lowest v122_6 v40_5 a3 M) (fun r204 => some r204) else (f_X8_cracks_l137 a1 a2 M v40_4 v122_6 v122_7 (f_X8_cracks_l122 a1 a2 a3 M v40_4 v40_5 n) FU) (1 : Int32) (0 : Int32))
def f_X8_cracks_b107 (v40_4 : Int32) (v40_5 : Int32) (v40_6 : Int32) (t91_0 : Int32) (k40 : Int32 → Int32 → Int32 → Option (Int32)) (t107_0 : Int32) : Option (Int32) := k40 (v40_4 + t91_0) (v40_5 * t107_0) (v40_6 + (1 : Int32))
def f_X8_cracks_b91 (v40_4 : Int32) (v40_5 : Int32) (v40_6 : Int32) (t77_0 : Int32) (k40 : Int32 → Int32 → Int32 → Option (Int32)) (t91_0 : Int32) : Option (Int32) := (if t77_0 = (0 : Int32) then (f_X8_cracks_b107 v40_4 v40_5 v40_6 t91_0 k40) (1 : Int32) else (f_X8_cracks_b107 v40_4 v40_5 v40_6 t91_0 k40) (10 : Int32))
def f_X8_cracks_b77 (v40_4 : Int32) (v40_5 : Int32) (v40_6 : Int32) (k40 : Int32 → Int32 → Int32 → Option (Int32)) (t77_0 : Int32) : Option (Int32) := (if t77_0 = (0 : Int32) then (f_X8_cracks_b91 v40_4 v40_5 v40_6 t77_0 k40) (0 : Int32) else (f_X8_cracks_b91 v40_4 v40_5 v40_6 t77_0 k40) (1 : Int32))
def f_X8_cracks_b76 (k77 : Int32 → Option (Int32)) : Option (Int32) := k77 (0 : Int32)
def f_X8_cracks_l40 (a1 : Int32) (a2 : Int32) (a3 : Int32) (M : xMem) : Nat → Int32 → Int32 → Int32 → Option (Int32)
  | 0, _, _, _ => none
  | n + 1, v40_4, v40_5, v40_6 => (if (M 8 0 4) ≤ v40_6 then (f_X8_cracks_l122 a1 a2 a3 M v40_4 v40_5 FU) (0 : Int32) (0 : Int32) else xchk (xb ((0 : Int32) + v40_6) 27) ((if (M 8 7 ((0 : Int32) + v40_6).toNatClampNeg) = (0 : Int32) then xchk (xb v40_6 6) ((if (M 8 6 v40_6.toNatClampNeg) = (3 : Int32) then (f_X8_cracks_b76 (f_X8_cracks_b77 v40_4 v40_5 v40_6 (f_X8_cracks_l40 a1 a2 a3 M n))) else (f_X8_cracks_b77 v40_4 v40_5 v40_6 (f_X8_cracks_l40 a1 a2 a3 M n)) (1 : Int32))) else (f_X8_cracks_b76 (f_X8_cracks_b77 v40_4 v40_5 v40_6 (f_X8_cracks_l40 a1 a2 a3 M n))))))
def f_X8_cracks (a1 : Int32) (a2 : Int32) (a3 : Int32) (M : xMem) : Option (Int32) := xb1 (f_X8_in a1 (0 : Int32) (10 : Int32) M) (fun r4 => (if r4 = (0 : Int32) then (f_X8_cracks_b29) else xb1 (f_X8_in a2 (0 : Int32) (6 : Int32) M) (fun r14 => (if r14 = (0 : Int32) then (f_X8_cracks_b29) else xb1 (f_X8_in a3 (0 : Int32) (1 : Int32) M) (fun r23 => (if r23 = (0 : Int32) then (f_X8_cracks_b29) else (f_X8_cracks_l40 a1 a2 a3 M FU) (0 : Int32) (1 : Int32) (0 : Int32)))))))
set_option maxHeartbeats 4000000 in
set_option maxRecDepth 100000 in
theorem w_X8_cracks_b29 {p : Program} {l : Launch} {e : Env} {s : State} {m : MethodId} {args : Array Value} {below : List Frame} {meth : Method} {c : Code} {G : xG} {rr : Int32} (E : xE p s m args meth c cX8_cracks 10 (some .int) RX8 G) (M : xMem) (L : xLL) : f_X8_cracks_b29  = some rr → ∀ (ls : Array Slot), lv_has ls 10 [] → ∀ (H : Heap) (locs : List Loc), xI G M L s.heap H locs → W p l e (xR 2) s m args below meth c H locs 0 0 (MQ below (xQi G rr M L s.heap.size) args s 0 0 (xZ G s.heap.size)) (F0 m 29 ls []) := by
  have hx := E.1
  have hb := E.2.1
  intro  hf ls hl H locs hI
  rw [f_X8_cracks_b29] at hf
  refine lv_iconst (v := -1) hx hb dX8_cracks_29 (by decide) ?_
  obtain rfl := xinj1 hf
  exact x_iret E hI rfl dX8_cracks_30
set_option maxHeartbeats 4000000 in
set_option maxRecDepth 100000 in
theorem w_X8_cracks_b190 {p : Program} {l : Launch} {e : Env} {s : State} {m : MethodId} {args : Array Value} {below : List Frame} {meth : Method} {c : Code} {G : xG} {rr : Int32} (E : xE p s m args meth c cX8_cracks 10 (some .int) RX8 G) (a1 : Int32) (a2 : Int32) (a3 : Int32) (M : xMem) (L : xLL) (v40_4 : Int32) (v40_5 : Int32) (v122_6 : Int32) (v122_7 : Int32) (k122 : Int32 → Int32 → Option (Int32)) (hk122 : ∀ (v122_6 : Int32) (v122_7 : Int32), k122 v122_6 v122_7 = some rr → ∀ (ls : Array Slot), lv_has ls 10 [(1, .int a1), (2, .int a2), (3, .int a3), (4, .int v40_4), (5, .int v40_5), (6, .int v122_6), (7, .int v122_7)] → ∀ (H : Heap) (locs : List Loc), xI G M L s.heap H locs → W p l e (xR 2) s m args below meth c H locs 0 0 (MQ below (xQi G rr M L s.heap.size) args s 0 0 (xZ G s.heap.size)) (F0 m 122 ls [])) : ∀ (t190_0 : Int32), f_X8_cracks_b190 v122_6 v122_7 k122 t190_0 = some rr → ∀ (ls : Array Slot), lv_has ls 10 [(1, .int a1), (2, .int a2), (3, .int a3), (4, .int v40_4), (5, .int v40_5), (7, .int v122_7)] → ∀ (H : Heap) (locs : List Loc), xI G M L s.heap H locs → W p l e (xR 2) s m args below meth c H locs 0 0 (MQ below (xQi G rr M L s.heap.size) args s 0 0 (xZ G s.heap.size)) (F0 m 190 ls [.int t190_0, .int v122_6]) := by
  have hx := E.1
  have hb := E.2.1
  intro t190_0 hf ls hl H locs hI
  rw [f_X8_cracks_b190] at hf
  refine lv_iadd hx hb dX8_cracks_190 ?_
  refine lv_istore (lv' := [(6, .int (v122_6 + t190_0)), (1, .int a1), (2, .int a2), (3, .int a3), (4, .int v40_4), (5, .int v40_5), (7, .int v122_7)]) hx hb dX8_cracks_191 hl (by decide) rfl (fun ls hl => ?_)
  refine lv_iinc (v := (v122_7 + (1 : Int32))) (lv' := [(7, .int (v122_7 + (1 : Int32))), (6, .int (v122_6 + t190_0)), (1, .int a1), (2, .int a2), (3, .int a3), (4, .int v40_4), (5, .int v40_5)]) hx hb dX8_cracks_193 hl (k := 6) rfl rfl (by decide) rfl (fun ls hl => ?_)
  refine lv_goto (tgt := 122) hx hb dX8_cracks_196 (by decide) ?_
  exact hk122 (v122_6 + t190_0) (v122_7 + (1 : Int32)) hf _ (lv_sub hl [2, 3, 4, 5, 6, 1, 0] rfl) _ _ hI
set_option maxHeartbeats 4000000 in
set_option maxRecDepth 100000 in
theorem w_X8_cracks_b164 {p : Program} {l : Launch} {e : Env} {s : State} {m : MethodId} {args : Array Value} {below : List Frame} {meth : Method} {c : Code} {G : xG} {rr : Int32} (E : xE p s m args meth c cX8_cracks 10 (some .int) RX8 G) (a1 : Int32) (a2 : Int32) (a3 : Int32) (M : xMem) (L : xLL) (v40_4 : Int32) (v40_5 : Int32) (v122_6 : Int32) (v122_7 : Int32) (v137_8 : Int32) (v137_9 : Int32) (k137 : Int32 → Int32 → Option (Int32)) (hk137 : ∀ (v137_8 : Int32) (v137_9 : Int32), k137 v137_8 v137_9 = some rr → ∀ (ls : Array Slot), lv_has ls 10 [(1, .int a1), (2, .int a2), (3, .int a3), (4, .int v40_4), (5, .int v40_5), (6, .int v122_6), (7, .int v122_7), (8, .int v137_8), (9, .int v137_9)] → ∀ (H : Heap) (locs : List Loc), xI G M L s.heap H locs → W p l e (xR 2) s m args below meth c H locs 0 0 (MQ below (xQi G rr M L s.heap.size) args s 0 0 (xZ G s.heap.size)) (F0 m 137 ls [])) : ∀ (t164_0 : Int32), f_X8_cracks_b164 v137_8 v137_9 k137 t164_0 = some rr → ∀ (ls : Array Slot), lv_has ls 10 [(1, .int a1), (2, .int a2), (3, .int a3), (4, .int v40_4), (5, .int v40_5), (6, .int v122_6), (7, .int v122_7), (9, .int v137_9)] → ∀ (H : Heap) (locs : List Loc), xI G M L s.heap H locs → W p l e (xR 2) s m args below meth c H locs 0 0 (MQ below (xQi G rr M L s.heap.size) args s 0 0 (xZ G s.heap.size)) (F0 m 164 ls [.int t164_0, .int v137_8]) := by
  have hx := E.1
  have hb := E.2.1
  intro t164_0 hf ls hl H locs hI
  rw [f_X8_cracks_b164] at hf
  refine lv_imul hx hb dX8_cracks_164 ?_
  refine lv_istore (lv' := [(8, .int (v137_8 * t164_0)), (1, .int a1), (2, .int a2), (3, .int a3), (4, .int v40_4), (5, .int v40_5), (6, .int v122_6), (7, .int v122_7), (9, .int v137_9)]) hx hb dX8_cracks_165 hl (by decide) rfl (fun ls hl => ?_)
  refine lv_iinc (v := (v137_9 + (1 : Int32))) (lv' := [(9, .int (v137_9 + (1 : Int32))), (8, .int (v137_8 * t164_0)), (1, .int a1), (2, .int a2), (3, .int a3), (4, .int v40_4), (5, .int v40_5), (6, .int v122_6), (7, .int v122_7)]) hx hb dX8_cracks_167 hl (k := 8) rfl rfl (by decide) rfl (fun ls hl => ?_)
  refine lv_goto (tgt := 137) hx hb dX8_cracks_170 (by decide) ?_
  exact hk137 (v137_8 * t164_0) (v137_9 + (1 : Int32)) hf _ (lv_sub hl [2, 3, 4, 5, 6, 7, 8, 1, 0] rfl) _ _ hI
set_option maxHeartbeats 4000000 in
set_option maxRecDepth 100000 in
theorem w_X8_cracks_l137 {p : Program} {l : Launch} {e : Env} {s : State} {m : MethodId} {args : Array Value} {below : List Frame} {meth : Method} {c : Code} {G : xG} {rr : Int32} (E : xE p s m args meth c cX8_cracks 10 (some .int) RX8 G) (a1 : Int32) (a2 : Int32) (a3 : Int32) (M : xMem) (L : xLL) (v40_4 : Int32) (v40_5 : Int32) (v122_6 : Int32) (v122_7 : Int32) (k122 : Int32 → Int32 → Option (Int32)) (hk122 : ∀ (v122_6 : Int32) (v122_7 : Int32), k122 v122_6 v122_7 = some rr → ∀ (ls : Array Slot), lv_has ls 10 [(1, .int a1), (2, .int a2), (3, .int a3), (4, .int v40_4), (5, .int v40_5), (6, .int v122_6), (7, .int v122_7)] → ∀ (H : Heap) (locs : List Loc), xI G M L s.heap H locs → W p l e (xR 2) s m args below meth c H locs 0 0 (MQ below (xQi G rr M L s.heap.size) args s 0 0 (xZ G s.heap.size)) (F0 m 122 ls [])) : ∀ (n : Nat), ∀ (v137_8 : Int32) (v137_9 : Int32), f_X8_cracks_l137 a1 a2 M v40_4 v122_6 v122_7 k122 n v137_8 v137_9 = some rr → ∀ (ls : Array Slot), lv_has ls 10 [(1, .int a1), (2, .int a2), (3, .int a3), (4, .int v40_4), (5, .int v40_5), (6, .int v122_6), (7, .int v122_7), (8, .int v137_8), (9, .int v137_9)] → ∀ (H : Heap) (locs : List Loc), xI G M L s.heap H locs → W p l e (xR 2) s m args below meth c H locs 0 0 (MQ below (xQi G rr M L s.heap.size) args s 0 0 (xZ G s.heap.size)) (F0 m 137 ls []) := by
  have hx := E.1
  have hb := E.2.1
  intro n
  induction n with
  | zero =>
    intro v137_8 v137_9 hf
    exact absurd hf (by simp [f_X8_cracks_l137])
  | succ n ih =>
    intro v137_8 v137_9 hf ls hl H locs hI
    rw [f_X8_cracks_l137] at hf
    refine lv_iload hx hb dX8_cracks_137 (lv_at hl 8 rfl) ?_
    refine lv_iload hx hb dX8_cracks_139 (lv_at hl 3 rfl) ?_
    refine lv_icmp_ge (tgt := 173) hx hb dX8_cracks_141 (by decide) (fun c141 => ?_) (fun c141 => ?_)
    · replace hf := xif_t c141 hf
      refine lv_iload hx hb dX8_cracks_173 (lv_at hl 5 rfl) ?_
      refine lv_iload hx hb dX8_cracks_175 (lv_at hl 6 rfl) ?_
      obtain ⟨r177, g177, hf⟩ := xb1_s hf
      refine x_callSi (As := [.int v122_7]) (rest := [.int v122_6]) E hI (c_X8_bits l G _ (M := M) (L := L) (a0 := v122_7) g177) ys_X8_bits ml_X8_135 (by decide) (by decide) rfl rfl hl.1 (Nat.le_of_ble_eq_true rfl) dX8_cracks_177 (fun H locs hI => ?_)
      refine lv_iload_n hx hb dX8_cracks_180 rfl (lv_at hl 1 rfl) ?_
      refine lv_icmp_gt (tgt := 189) hx hb dX8_cracks_181 (by decide) (fun c181 => ?_) (fun c181 => ?_)
      · replace hf := xif_t c181 hf
        refine lv_iconst (v := 0) hx hb dX8_cracks_189 (by decide) ?_
        exact (w_X8_cracks_b190 E (a1 := a1) (a2 := a2) (a3 := a3) (M := M) (L := L) (v40_4 := v40_4) (v40_5 := v40_5) (v122_6 := v122_6) (v122_7 := v122_7) (k122 := k122) (hk122 := hk122)) (0 : Int32) hf _ (lv_sub hl [0, 1, 2, 3, 4, 6] rfl) _ _ hI
      · replace hf := xif_f c181 hf
        refine lv_iload hx hb dX8_cracks_184 (lv_at hl 7 rfl) ?_
        refine lv_goto (tgt := 190) hx hb dX8_cracks_186 (by decide) ?_
        exact (w_X8_cracks_b190 E (a1 := a1) (a2 := a2) (a3 := a3) (M := M) (L := L) (v40_4 := v40_4) (v40_5 := v40_5) (v122_6 := v122_6) (v122_7 := v122_7) (k122 := k122) (hk122 := hk122)) v137_8 hf _ (lv_sub hl [0, 1, 2, 3, 4, 6] rfl) _ _ hI
    · replace hf := xif_f c141 hf
      refine lv_iload hx hb dX8_cracks_144 (lv_at hl 7 rfl) ?_
      refine lv_iload hx hb dX8_cracks_146 (lv_at hl 6 rfl) ?_
      refine lv_iload hx hb dX8_cracks_148 (lv_at hl 8 rfl) ?_
      obtain ⟨r150, g150, hf⟩ := xb1_s hf
      refine x_callSi (As := [.int v122_7, .int v137_9]) (rest := [.int v137_8]) E hI (c_X8_has l G _ (M := M) (L := L) (a0 := v122_7) (a1 := v137_9) g150) ys_X8_has ml_X8_178 (by decide) (by decide) rfl rfl hl.1 (Nat.le_of_ble_eq_true rfl) dX8_cracks_150 (fun H locs hI => ?_)
      refine lv_if_eq (tgt := 160) hx hb dX8_cracks_153 (by decide) (fun c153 => ?_) (fun c153 => ?_)
      · replace hf := xif_t c153 hf
        refine lv_bipush (v := 10) hx hb dX8_cracks_160 (by decide) ?_
        refine lv_iload_n hx hb dX8_cracks_162 rfl (lv_at hl 0 rfl) ?_
        refine lv_isub hx hb dX8_cracks_163 ?_
        exact (w_X8_cracks_b164 E (a1 := a1) (a2 := a2) (a3 := a3) (M := M) (L := L) (v40_4 := v40_4) (v40_5 := v40_5) (v122_6 := v122_6) (v122_7 := v122_7) (v137_8 := v137_8) (v137_9 := v137_9) (k137 := (f_X8_cracks_l137 a1 a2 M v40_4 v122_6 v122_7 k122 n)) (hk137 := ih)) ((10 : Int32) - a1) hf _ (lv_sub hl [0, 1, 2, 3, 4, 5, 6, 8] rfl) _ _ hI
      · replace hf := xif_f c153 hf
        refine lv_iload_n hx hb dX8_cracks_156 rfl (lv_at hl 0 rfl) ?_
        refine lv_goto (tgt := 164) hx hb dX8_cracks_157 (by decide) ?_
        exact (w_X8_cracks_b164 E (a1 := a1) (a2 := a2) (a3 := a3) (M := M) (L := L) (v40_4 := v40_4) (v40_5 := v40_5) (v122_6 := v122_6) (v122_7 := v122_7) (v137_8 := v137_8) (v137_9 := v137_9) (k137 := (f_X8_cracks_l137 a1 a2 M v40_4 v122_6 v122_7 k122 n)) (hk137 := ih)) a1 hf _ (lv_sub hl [0, 1, 2, 3, 4, 5, 6, 8] rfl) _ _ hI
set_option maxHeartbeats 4000000 in
set_option maxRecDepth 100000 in
theorem w_X8_cracks_l122 {p : Program} {l : Launch} {e : Env} {s : State} {m : MethodId} {args : Array Value} {below : List Frame} {meth : Method} {c : Code} {G : xG} {rr : Int32} (E : xE p s m args meth c cX8_cracks 10 (some .int) RX8 G) (a1 : Int32) (a2 : Int32) (a3 : Int32) (M : xMem) (L : xLL) (v40_4 : Int32) (v40_5 : Int32) : ∀ (n : Nat), ∀ (v122_6 : Int32) (v122_7 : Int32), f_X8_cracks_l122 a1 a2 a3 M v40_4 v40_5 n v122_6 v122_7 = some rr → ∀ (ls : Array Slot), lv_has ls 10 [(1, .int a1), (2, .int a2), (3, .int a3), (4, .int v40_4), (5, .int v40_5), (6, .int v122_6), (7, .int v122_7)] → ∀ (H : Heap) (locs : List Loc), xI G M L s.heap H locs → W p l e (xR 2) s m args below meth c H locs 0 0 (MQ below (xQi G rr M L s.heap.size) args s 0 0 (xZ G s.heap.size)) (F0 m 122 ls []) := by
  have hx := E.1
  have hb := E.2.1
  intro n
  induction n with
  | zero =>
    intro v122_6 v122_7 hf
    exact absurd hf (by simp [f_X8_cracks_l122])
  | succ n ih =>
    intro v122_6 v122_7 hf ls hl H locs hI
    rw [f_X8_cracks_l122] at hf
    refine lv_iload hx hb dX8_cracks_122 (lv_at hl 6 rfl) ?_
    refine lv_iconst (v := 1) hx hb dX8_cracks_124 (by decide) ?_
    refine lv_iload hx hb dX8_cracks_125 (lv_at hl 3 rfl) ?_
    refine lv_ishl hx hb dX8_cracks_127 ?_
    refine lv_icmp_ge (tgt := 199) hx hb dX8_cracks_128 (by decide) (fun c128 => ?_) (fun c128 => ?_)
    · replace hf := xif_t c128 hf
      refine lv_iload hx hb dX8_cracks_199 (lv_at hl 5 rfl) ?_
      refine lv_iload hx hb dX8_cracks_201 (lv_at hl 4 rfl) ?_
      refine lv_iload_n hx hb dX8_cracks_203 rfl (lv_at hl 2 rfl) ?_
      obtain ⟨r204, g204, hf⟩ := xb1_s hf
      refine x_callSi (As := [.int v122_6, .int v40_5, .int a3]) (rest := []) E hI (c_X8_lowest l G _ (M := M) (L := L) (a0 := v122_6) (a1 := v40_5) (a2 := a3) g204) ys_X8_lowest ml_X8_194 (by decide) (by decide) rfl rfl hl.1 (Nat.le_of_ble_eq_true rfl) dX8_cracks_204 (fun H locs hI => ?_)
      obtain rfl := xinj1 hf
      exact x_iret E hI rfl dX8_cracks_207
    · replace hf := xif_f c128 hf
      refine lv_iconst (v := 1) hx hb dX8_cracks_131 (by decide) ?_
      refine lv_istore (lv' := [(8, .int (1 : Int32)), (1, .int a1), (2, .int a2), (3, .int a3), (4, .int v40_4), (5, .int v40_5), (6, .int v122_6), (7, .int v122_7)]) hx hb dX8_cracks_132 hl (by decide) rfl (fun ls hl => ?_)
      refine lv_iconst (v := 0) hx hb dX8_cracks_134 (by decide) ?_
      refine lv_istore (lv' := [(9, .int (0 : Int32)), (8, .int (1 : Int32)), (1, .int a1), (2, .int a2), (3, .int a3), (4, .int v40_4), (5, .int v40_5), (6, .int v122_6), (7, .int v122_7)]) hx hb dX8_cracks_135 hl (by decide) rfl (fun ls hl => ?_)
      exact (w_X8_cracks_l137 E (a1 := a1) (a2 := a2) (a3 := a3) (M := M) (L := L) (v40_4 := v40_4) (v40_5 := v40_5) (v122_6 := v122_6) (v122_7 := v122_7) (k122 := (f_X8_cracks_l122 a1 a2 a3 M v40_4 v40_5 n)) (hk122 := ih) FU) (1 : Int32) (0 : Int32) hf _ (lv_sub hl [2, 3, 4, 5, 6, 7, 8, 1, 0] rfl) _ _ hI
set_option maxHeartbeats 4000000 in
set_option maxRecDepth 100000 in
theorem w_X8_cracks_b107 {p : Program} {l : Launch} {e : Env} {s : State} {m : MethodId} {args : Array Value} {below : List Frame} {meth : Method} {c : Code} {G : xG} {rr : Int32} (E : xE p s m args meth c cX8_cracks 10 (some .int) RX8 G) (a1 : Int32) (a2 : Int32) (a3 : Int32) (M : xMem) (L : xLL) (v40_4 : Int32) (v40_5 : Int32) (v40_6 : Int32) (t91_0 : Int32) (k40 : Int32 → Int32 → Int32 → Option (Int32)) (hk40 : ∀ (v40_4 : Int32) (v40_5 : Int32) (v40_6 : Int32), k40 v40_4 v40_5 v40_6 = some rr → ∀ (ls : Array Slot), lv_has ls 10 [(0, .ref (xq G 8 0)), (1, .int a1), (2, .int a2), (3, .int a3), (4, .int v40_4), (5, .int v40_5), (6, .int v40_6)] → ∀ (H : Heap) (locs : List Loc), xI G M L s.heap H locs → W p l e (xR 2) s m args below meth c H locs 0 0 (MQ below (xQi G rr M L s.heap.size) args s 0 0 (xZ G s.heap.size)) (F0 m 40 ls [])) : ∀ (t107_0 : Int32), f_X8_cracks_b107 v40_4 v40_5 v40_6 t91_0 k40 t107_0 = some rr → ∀ (ls : Array Slot), lv_has ls 10 [(0, .ref (xq G 8 0)), (1, .int a1), (2, .int a2), (3, .int a3), (4, .int (v40_4 + t91_0)), (6, .int v40_6)] → ∀ (H : Heap) (locs : List Loc), xI G M L s.heap H locs → W p l e (xR 2) s m args below meth c H locs 0 0 (MQ below (xQi G rr M L s.heap.size) args s 0 0 (xZ G s.heap.size)) (F0 m 107 ls [.int t107_0, .int v40_5]) := by
  have hx := E.1
  have hb := E.2.1
  intro t107_0 hf ls hl H locs hI
  rw [f_X8_cracks_b107] at hf
  refine lv_imul hx hb dX8_cracks_107 ?_
  refine lv_istore (lv' := [(5, .int (v40_5 * t107_0)), (0, .ref (xq G 8 0)), (1, .int a1), (2, .int a2), (3, .int a3), (4, .int (v40_4 + t91_0)), (6, .int v40_6)]) hx hb dX8_cracks_108 hl (by decide) rfl (fun ls hl => ?_)
  refine lv_iinc (v := (v40_6 + (1 : Int32))) (lv' := [(6, .int (v40_6 + (1 : Int32))), (5, .int (v40_5 * t107_0)), (0, .ref (xq G 8 0)), (1, .int a1), (2, .int a2), (3, .int a3), (4, .int (v40_4 + t91_0))]) hx hb dX8_cracks_110 hl (k := 6) rfl rfl (by decide) rfl (fun ls hl => ?_)
  refine lv_goto (tgt := 40) hx hb dX8_cracks_113 (by decide) ?_
  exact hk40 (v40_4 + t91_0) (v40_5 * t107_0) (v40_6 + (1 : Int32)) hf _ (lv_sub hl [2, 3, 4, 5, 6, 1, 0] rfl) _ _ hI
set_option maxHeartbeats 4000000 in
set_option maxRecDepth 100000 in
theorem w_X8_cracks_b91 {p : Program} {l : Launch} {e : Env} {s : State} {m : MethodId} {args : Array Value} {below : List Frame} {meth : Method} {c : Code} {G : xG} {rr : Int32} (E : xE p s m args meth c cX8_cracks 10 (some .int) RX8 G) (a1 : Int32) (a2 : Int32) (a3 : Int32) (M : xMem) (L : xLL) (v40_4 : Int32) (v40_5 : Int32) (v40_6 : Int32) (t77_0 : Int32) (k40 : Int32 → Int32 → Int32 → Option (Int32)) (hk40 : ∀ (v40_4 : Int32) (v40_5 : Int32) (v40_6 : Int32), k40 v40_4 v40_5 v40_6 = some rr → ∀ (ls : Array Slot), lv_has ls 10 [(0, .ref (xq G 8 0)), (1, .int a1), (2, .int a2), (3, .int a3), (4, .int v40_4), (5, .int v40_5), (6, .int v40_6)] → ∀ (H : Heap) (locs : List Loc), xI G M L s.heap H locs → W p l e (xR 2) s m args below meth c H locs 0 0 (MQ below (xQi G rr M L s.heap.size) args s 0 0 (xZ G s.heap.size)) (F0 m 40 ls [])) : ∀ (t91_0 : Int32), f_X8_cracks_b91 v40_4 v40_5 v40_6 t77_0 k40 t91_0 = some rr → ∀ (ls : Array Slot), lv_has ls 10 [(0, .ref (xq G 8 0)), (1, .int a1), (2, .int a2), (3, .int a3), (5, .int v40_5), (6, .int v40_6), (7, .int t77_0)] → ∀ (H : Heap) (locs : List Loc), xI G M L s.heap H locs → W p l e (xR 2) s m args below meth c H locs 0 0 (MQ below (xQi G rr M L s.heap.size) args s 0 0 (xZ G s.heap.size)) (F0 m 91 ls [.int t91_0, .int v40_4]) := by
  have hx := E.1
  have hb := E.2.1
  intro t91_0 hf ls hl H locs hI
  rw [f_X8_cracks_b91] at hf
  refine lv_iadd hx hb dX8_cracks_91 ?_
  refine lv_istore (lv' := [(4, .int (v40_4 + t91_0)), (0, .ref (xq G 8 0)), (1, .int a1), (2, .int a2), (3, .int a3), (5, .int v40_5), (6, .int v40_6), (7, .int t77_0)]) hx hb dX8_cracks_92 hl (by decide) rfl (fun ls hl => ?_)
  refine lv_iload hx hb dX8_cracks_94 (lv_at hl 5 rfl) ?_
  refine lv_iload hx hb dX8_cracks_96 (lv_at hl 7 rfl) ?_
  refine lv_if_eq (tgt := 106) hx hb dX8_cracks_98 (by decide) (fun c98 => ?_) (fun c98 => ?_)
  · replace hf := xif_t c98 hf
    refine lv_iconst (v := 1) hx hb dX8_cracks_106 (by decide) ?_
    exact (w_X8_cracks_b107 E (a1 := a1) (a2 := a2) (a3 := a3) (M := M) (L := L) (v40_4 := v40_4) (v40_5 := v40_5) (v40_6 := v40_6) (t91_0 := t91_0) (k40 := k40) (hk40 := hk40)) (1 : Int32) hf _ (lv_sub hl [1, 2, 3, 4, 0, 6] rfl) _ _ hI
  · replace hf := xif_f c98 hf
    refine lv_bipush (v := 10) hx hb dX8_cracks_101 (by decide) ?_
    refine lv_goto (tgt := 107) hx hb dX8_cracks_103 (by decide) ?_
    exact (w_X8_cracks_b107 E (a1 := a1) (a2 := a2) (a3 := a3) (M := M) (L := L) (v40_4 := v40_4) (v40_5 := v40_5) (v40_6 := v40_6) (t91_0 := t91_0) (k40 := k40) (hk40 := hk40)) (10 : Int32) hf _ (lv_sub hl [1, 2, 3, 4, 0, 6] rfl) _ _ hI
set_option maxHeartbeats 4000000 in
set_option maxRecDepth 100000 in
theorem w_X8_cracks_b77 {p : Program} {l : Launch} {e : Env} {s : State} {m : MethodId} {args : Array Value} {below : List Frame} {meth : Method} {c : Code} {G : xG} {rr : Int32} (E : xE p s m args meth c cX8_cracks 10 (some .int) RX8 G) (a1 : Int32) (a2 : Int32) (a3 : Int32) (M : xMem) (L : xLL) (v40_4 : Int32) (v40_5 : Int32) (v40_6 : Int32) (k40 : Int32 → Int32 → Int32 → Option (Int32)) (hk40 : ∀ (v40_4 : Int32) (v40_5 : Int32) (v40_6 : Int32), k40 v40_4 v40_5 v40_6 = some rr → ∀ (ls : Array Slot), lv_has ls 10 [(0, .ref (xq G 8 0)), (1, .int a1), (2, .int a2), (3, .int a3), (4, .int v40_4), (5, .int v40_5), (6, .int v40_6)] → ∀ (H : Heap) (locs : List Loc), xI G M L s.heap H locs → W p l e (xR 2) s m args below meth c H locs 0 0 (MQ below (xQi G rr M L s.heap.size) args s 0 0 (xZ G s.heap.size)) (F0 m 40 ls [])) : ∀ (t77_0 : Int32), f_X8_cracks_b77 v40_4 v40_5 v40_6 k40 t77_0 = some rr → ∀ (ls : Array Slot), lv_has ls 10 [(0, .ref (xq G 8 0)), (1, .int a1), (2, .int a2), (3, .int a3), (4, .int v40_4), (5, .int v40_5), (6, .int v40_6)] → ∀ (H : Heap) (locs : List Loc), xI G M L s.heap H locs → W p l e (xR 2) s m args below meth c H locs 0 0 (MQ below (xQi G rr M L s.heap.size) args s 0 0 (xZ G s.heap.size)) (F0 m 77 ls [.int t77_0]) := by
  have hx := E.1
  have hb := E.2.1
  intro t77_0 hf ls hl H locs hI
  rw [f_X8_cracks_b77] at hf
  refine lv_istore (lv' := [(7, .int t77_0), (0, .ref (xq G 8 0)), (1, .int a1), (2, .int a2), (3, .int a3), (4, .int v40_4), (5, .int v40_5), (6, .int v40_6)]) hx hb dX8_cracks_77 hl (by decide) rfl (fun ls hl => ?_)
  refine lv_iload hx hb dX8_cracks_79 (lv_at hl 5 rfl) ?_
  refine lv_iload hx hb dX8_cracks_81 (lv_at hl 0 rfl) ?_
  refine lv_if_eq (tgt := 90) hx hb dX8_cracks_83 (by decide) (fun c83 => ?_) (fun c83 => ?_)
  · replace hf := xif_t c83 hf
    refine lv_iconst (v := 0) hx hb dX8_cracks_90 (by decide) ?_
    exact (w_X8_cracks_b91 E (a1 := a1) (a2 := a2) (a3 := a3) (M := M) (L := L) (v40_4 := v40_4) (v40_5 := v40_5) (v40_6 := v40_6) (t77_0 := t77_0) (k40 := k40) (hk40 := hk40)) (0 : Int32) hf _ (lv_sub hl [1, 2, 3, 4, 6, 7, 0] rfl) _ _ hI
  · replace hf := xif_f c83 hf
    refine lv_iconst (v := 1) hx hb dX8_cracks_86 (by decide) ?_
    refine lv_goto (tgt := 91) hx hb dX8_cracks_87 (by decide) ?_
    exact (w_X8_cracks_b91 E (a1 := a1) (a2 := a2) (a3 := a3) (M := M) (L := L) (v40_4 := v40_4) (v40_5 := v40_5) (v40_6 := v40_6) (t77_0 := t77_0) (k40 := k40) (hk40 := hk40)) (1 : Int32) hf _ (lv_sub hl [1, 2, 3, 4, 6, 7, 0] rfl) _ _ hI
set_option maxHeartbeats 4000000 in
set_option maxRecDepth 100000 in
theorem w_X8_cracks_b76 {p : Program} {l : Launch} {e : Env} {s : State} {m : MethodId} {args : Array Value} {below : List Frame} {meth : Method} {c : Code} {G : xG} {rr : Int32} (E : xE p s m args meth c cX8_cracks 10 (some .int) RX8 G) (a1 : Int32) (a2 : Int32) (a3 : Int32) (M : xMem) (L : xLL) (v40_4 : Int32) (v40_5 : Int32) (v40_6 : Int32) (k77 : Int32 → Option (Int32)) (hk77 : ∀ (t77_0 : Int32), k77 t77_0 = some rr → ∀ (ls : Array Slot), lv_has ls 10 [(0, .ref (xq G 8 0)), (1, .int a1), (2, .int a2), (3, .int a3), (4, .int v40_4), (5, .int v40_5), (6, .int v40_6)] → ∀ (H : Heap) (locs : List Loc), xI G M L s.heap H locs → W p l e (xR 2) s m args below meth c H locs 0 0 (MQ below (xQi G rr M L s.heap.size) args s 0 0 (xZ G s.heap.size)) (F0 m 77 ls [.int t77_0])) : f_X8_cracks_b76 k77  = some rr → ∀ (ls : Array Slot), lv_has ls 10 [(0, .ref (xq G 8 0)), (1, .int a1), (2, .int a2), (3, .int a3), (4, .int v40_4), (5, .int v40_5), (6, .int v40_6)] → ∀ (H : Heap) (locs : List Loc), xI G M L s.heap H locs → W p l e (xR 2) s m args below meth c H locs 0 0 (MQ below (xQi G rr M L s.heap.size) args s 0 0 (xZ G s.heap.size)) (F0 m 76 ls []) := by
  have hx := E.1
  have hb := E.2.1
  intro  hf ls hl H locs hI
  rw [f_X8_cracks_b76] at hf
  refine lv_iconst (v := 0) hx hb dX8_cracks_76 (by decide) ?_
  exact hk77 (0 : Int32) hf _ (lv_sub hl [0, 1, 2, 3, 4, 5, 6] rfl) _ _ hI
set_option maxHeartbeats 4000000 in
set_option maxRecDepth 100000 in
theorem w_X8_cracks_l40 {p : Program} {l : Launch} {e : Env} {s : State} {m : MethodId} {args : Array Value} {below : List Frame} {meth : Method} {c : Code} {G : xG} {rr : Int32} (E : xE p s m args meth c cX8_cracks 10 (some .int) RX8 G) (a1 : Int32) (a2 : Int32) (a3 : Int32) (M : xMem) (L : xLL) : ∀ (n : Nat), ∀ (v40_4 : Int32) (v40_5 : Int32) (v40_6 : Int32), f_X8_cracks_l40 a1 a2 a3 M n v40_4 v40_5 v40_6 = some rr → ∀ (ls : Array Slot), lv_has ls 10 [(0, .ref (xq G 8 0)), (1, .int a1), (2, .int a2), (3, .int a3), (4, .int v40_4), (5, .int v40_5), (6, .int v40_6)] → ∀ (H : Heap) (locs : List Loc), xI G M L s.heap H locs → W p l e (xR 2) s m args below meth c H locs 0 0 (MQ below (xQi G rr M L s.heap.size) args s 0 0 (xZ G s.heap.size)) (F0 m 40 ls []) := by
  have hx := E.1
  have hb := E.2.1
  intro n
  induction n with
  | zero =>
    intro v40_4 v40_5 v40_6 hf
    exact absurd hf (by simp [f_X8_cracks_l40])
  | succ n ih =>
    intro v40_4 v40_5 v40_6 hf ls hl H locs hI
    rw [f_X8_cracks_l40] at hf
    refine lv_iload hx hb dX8_cracks_40 (lv_at hl 6 rfl) ?_
    refine lv_aload_n hx hb dX8_cracks_42 rfl (lv_at hl 0 rfl) ?_
    refine gf_X8_70 E hI dX8_cracks_43 ?_
    refine lv_icmp_ge (tgt := 116) hx hb dX8_cracks_46 (by decide) (fun c46 => ?_) (fun c46 => ?_)
    · replace hf := xif_t c46 hf
      refine lv_iconst (v := 0) hx hb dX8_cracks_116 (by decide) ?_
      refine lv_istore (lv' := [(6, .int (0 : Int32)), (0, .ref (xq G 8 0)), (1, .int a1), (2, .int a2), (3, .int a3), (4, .int v40_4), (5, .int v40_5)]) hx hb dX8_cracks_117 hl (by decide) rfl (fun ls hl => ?_)
      refine lv_iconst (v := 0) hx hb dX8_cracks_119 (by decide) ?_
      refine lv_istore (lv' := [(7, .int (0 : Int32)), (6, .int (0 : Int32)), (0, .ref (xq G 8 0)), (1, .int a1), (2, .int a2), (3, .int a3), (4, .int v40_4), (5, .int v40_5)]) hx hb dX8_cracks_120 hl (by decide) rfl (fun ls hl => ?_)
      exact (w_X8_cracks_l122 E (a1 := a1) (a2 := a2) (a3 := a3) (M := M) (L := L) (v40_4 := v40_4) (v40_5 := v40_5) FU) (0 : Int32) (0 : Int32) hf _ (lv_sub hl [3, 4, 5, 6, 7, 1, 0] rfl) _ _ hI
    · replace hf := xif_f c46 hf
      refine lv_aload_n hx hb dX8_cracks_49 rfl (lv_at hl 0 rfl) ?_
      refine gf_X8_22 E hI dX8_cracks_50 ?_
      refine lv_iconst (v := 0) hx hb dX8_cracks_53 (by decide) ?_
      refine lv_iload hx hb dX8_cracks_54 (lv_at hl 6 rfl) ?_
      refine lv_iadd hx hb dX8_cracks_56 ?_
      obtain ⟨h57b, hf⟩ := xchk_s hf
      refine x_iald (n := 27) E hI mx_8_7 (fun _ _ => rfl) h57b dX8_cracks_57 ?_
      refine lv_if_ne (tgt := 76) hx hb dX8_cracks_58 (by decide) (fun c58 => ?_) (fun c58 => ?_)
      · replace hf := xif_f c58 hf
        exact (w_X8_cracks_b76 E (a1 := a1) (a2 := a2) (a3 := a3) (M := M) (L := L) (v40_4 := v40_4) (v40_5 := v40_5) (v40_6 := v40_6) (k77 := (f_X8_cracks_b77 v40_4 v40_5 v40_6 (f_X8_cracks_l40 a1 a2 a3 M n))) (hk77 := (w_X8_cracks_b77 E (a1 := a1) (a2 := a2) (a3 := a3) (M := M) (L := L) (v40_4 := v40_4) (v40_5 := v40_5) (v40_6 := v40_6) (k40 := (f_X8_cracks_l40 a1 a2 a3 M n)) (hk40 := ih))))  hf _ (lv_sub hl [0, 1, 2, 3, 4, 5, 6] rfl) _ _ hI
      · replace hf := xif_t c58 hf
        refine lv_aload_n hx hb dX8_cracks_61 rfl (lv_at hl 0 rfl) ?_
        refine gf_X8_19 E hI dX8_cracks_62 ?_
        refine lv_iload hx hb dX8_cracks_65 (lv_at hl 6 rfl) ?_
        obtain ⟨h67b, hf⟩ := xchk_s hf
        refine x_iald (n := 6) E hI mx_8_6 (fun _ _ => rfl) h67b dX8_cracks_67 ?_
        refine lv_iconst (v := 3) hx hb dX8_cracks_68 (by decide) ?_
        refine lv_icmp_eq (tgt := 76) hx hb dX8_cracks_69 (by decide) (fun c69 => ?_) (fun c69 => ?_)
        · replace hf := xif_t c69 hf
          exact (w_X8_cracks_b76 E (a1 := a1) (a2 := a2) (a3 := a3) (M := M) (L := L) (v40_4 := v40_4) (v40_5 := v40_5) (v40_6 := v40_6) (k77 := (f_X8_cracks_b77 v40_4 v40_5 v40_6 (f_X8_cracks_l40 a1 a2 a3 M n))) (hk77 := (w_X8_cracks_b77 E (a1 := a1) (a2 := a2) (a3 := a3) (M := M) (L := L) (v40_4 := v40_4) (v40_5 := v40_5) (v40_6 := v40_6) (k40 := (f_X8_cracks_l40 a1 a2 a3 M n)) (hk40 := ih))))  hf _ (lv_sub hl [0, 1, 2, 3, 4, 5, 6] rfl) _ _ hI
        · replace hf := xif_f c69 hf
          refine lv_iconst (v := 1) hx hb dX8_cracks_72 (by decide) ?_
          refine lv_goto (tgt := 77) hx hb dX8_cracks_73 (by decide) ?_
          exact (w_X8_cracks_b77 E (a1 := a1) (a2 := a2) (a3 := a3) (M := M) (L := L) (v40_4 := v40_4) (v40_5 := v40_5) (v40_6 := v40_6) (k40 := (f_X8_cracks_l40 a1 a2 a3 M n)) (hk40 := ih)) (1 : Int32) hf _ (lv_sub hl [0, 1, 2, 3, 4, 5, 6] rfl) _ _ hI
set_option maxHeartbeats 4000000 in
set_option maxRecDepth 100000 in
theorem c_X8_cracks (l : Launch) (G : xG) (sz : Nat) (M : xMem) (L : xLL) (a1 : Int32) (a2 : Int32) (a3 : Int32) {rr : Int32} (hf : f_X8_cracks a1 a2 a3 M = some rr) : Met l yX8_cracks (Cond.code yX8_cracks cX8_cracks 10 (some .int) :: xTB) (xR 2) (xP G M L sz [.ref (xq G 8 0), .int a1, .int a2, .int a3]) (xQi G rr M L sz) 0 0 (xZ G sz) := by
  refine x_met (cc := cX8_cracks) (nL := 10) (rt := (some .int)) (by decide) (Nat.le_of_ble_eq_true rfl) ?_
  intro p e s m below meth c ls hsz E hl hI
  subst hsz
  have E : xE p s m _ meth c cX8_cracks 10 (some .int) RX8 G := E
  have hx := E.1
  have hb := E.2.1
  have hl : lv_has ls 10 [(0, .ref (xq G 8 0)), (1, .int a1), (2, .int a2), (3, .int a3)] := hl
  rw [f_X8_cracks] at hf
  refine lv_iload_n hx hb dX8_cracks_0 rfl (lv_at hl 1 rfl) ?_
  refine lv_iconst (v := 0) hx hb dX8_cracks_1 (by decide) ?_
  refine lv_bipush (v := 10) hx hb dX8_cracks_2 (by decide) ?_
  obtain ⟨r4, g4, hf⟩ := xb1_s hf
  refine x_callSi (As := [.int a1, .int (0 : Int32), .int (10 : Int32)]) (rest := []) E hI (c_X8_in l G _ (M := M) (L := L) (a0 := a1) (a1 := (0 : Int32)) (a2 := (10 : Int32)) g4) ys_X8_in ml_X8_66 (by decide) (by decide) rfl rfl hl.1 (Nat.le_of_ble_eq_true rfl) dX8_cracks_4 (fun H locs hI => ?_)
  refine lv_if_eq (tgt := 29) hx hb dX8_cracks_7 (by decide) (fun c7 => ?_) (fun c7 => ?_)
  · replace hf := xif_t c7 hf
    exact (w_X8_cracks_b29 E (M := M) (L := L))  hf _ (lv_sub hl [] rfl) _ _ hI
  · replace hf := xif_f c7 hf
    refine lv_iload_n hx hb dX8_cracks_10 rfl (lv_at hl 2 rfl) ?_
    refine lv_iconst (v := 0) hx hb dX8_cracks_11 (by decide) ?_
    refine lv_bipush (v := 6) hx hb dX8_cracks_12 (by decide) ?_
    obtain ⟨r14, g14, hf⟩ := xb1_s hf
    refine x_callSi (As := [.int a2, .int (0 : Int32), .int (6 : Int32)]) (rest := []) E hI (c_X8_in l G _ (M := M) (L := L) (a0 := a2) (a1 := (0 : Int32)) (a2 := (6 : Int32)) g14) ys_X8_in ml_X8_66 (by decide) (by decide) rfl rfl hl.1 (Nat.le_of_ble_eq_true rfl) dX8_cracks_14 (fun H locs hI => ?_)
    refine lv_if_eq (tgt := 29) hx hb dX8_cracks_17 (by decide) (fun c17 => ?_) (fun c17 => ?_)
    · replace hf := xif_t c17 hf
      exact (w_X8_cracks_b29 E (M := M) (L := L))  hf _ (lv_sub hl [] rfl) _ _ hI
    · replace hf := xif_f c17 hf
      refine lv_iload_n hx hb dX8_cracks_20 rfl (lv_at hl 3 rfl) ?_
      refine lv_iconst (v := 0) hx hb dX8_cracks_21 (by decide) ?_
      refine lv_iconst (v := 1) hx hb dX8_cracks_22 (by decide) ?_
      obtain ⟨r23, g23, hf⟩ := xb1_s hf
      refine x_callSi (As := [.int a3, .int (0 : Int32), .int (1 : Int32)]) (rest := []) E hI (c_X8_in l G _ (M := M) (L := L) (a0 := a3) (a1 := (0 : Int32)) (a2 := (1 : Int32)) g23) ys_X8_in ml_X8_66 (by decide) (by decide) rfl rfl hl.1 (Nat.le_of_ble_eq_true rfl) dX8_cracks_23 (fun H locs hI => ?_)
      refine lv_if_ne (tgt := 31) hx hb dX8_cracks_26 (by decide) (fun c26 => ?_) (fun c26 => ?_)
      · replace hf := xif_f c26 hf
        refine lv_iconst (v := 0) hx hb dX8_cracks_31 (by decide) ?_
        refine lv_istore (lv' := [(4, .int (0 : Int32)), (0, .ref (xq G 8 0)), (1, .int a1), (2, .int a2), (3, .int a3)]) hx hb dX8_cracks_32 hl (by decide) rfl (fun ls hl => ?_)
        refine lv_iconst (v := 1) hx hb dX8_cracks_34 (by decide) ?_
        refine lv_istore (lv' := [(5, .int (1 : Int32)), (4, .int (0 : Int32)), (0, .ref (xq G 8 0)), (1, .int a1), (2, .int a2), (3, .int a3)]) hx hb dX8_cracks_35 hl (by decide) rfl (fun ls hl => ?_)
        refine lv_iconst (v := 0) hx hb dX8_cracks_37 (by decide) ?_
        refine lv_istore (lv' := [(6, .int (0 : Int32)), (5, .int (1 : Int32)), (4, .int (0 : Int32)), (0, .ref (xq G 8 0)), (1, .int a1), (2, .int a2), (3, .int a3)]) hx hb dX8_cracks_38 hl (by decide) rfl (fun ls hl => ?_)
        exact (w_X8_cracks_l40 E (a1 := a1) (a2 := a2) (a3 := a3) (M := M) (L := L) FU) (0 : Int32) (1 : Int32) (0 : Int32) hf _ (lv_sub hl [3, 4, 5, 6, 2, 1, 0] rfl) _ _ hI
      · replace hf := xif_t c26 hf
        exact (w_X8_cracks_b29 E (M := M) (L := L))  hf _ (lv_sub hl [] rfl) _ _ hI
theorem dX8_boxed_0 : decode cX8_boxed 0 = .ok (.iconst 0, 1) := by decide +kernel
theorem dX8_boxed_1 : decode cX8_boxed 1 = .ok (.istore 4, 2) := by decide +kernel
theorem dX8_boxed_3 : decode cX8_boxed 3 = .ok (.iload_n 1, 1) := by decide +kernel
theorem dX8_boxed_4 : decode cX8_boxed 4 = .ok (.invokestatic 135, 3) := by decide +kernel
theorem dX8_boxed_7 : decode cX8_boxed 7 = .ok (.iload_n 2, 1) := by decide +kernel
theorem dX8_boxed_8 : decode cX8_boxed 8 = .ok (.if_icmp .ne 7, 3) := by decide +kernel
theorem dX8_boxed_11 : decode cX8_boxed 11 = .ok (.iconst 1, 1) := by decide +kernel
theorem dX8_boxed_12 : decode cX8_boxed 12 = .ok (.goto 4, 3) := by decide +kernel
theorem dX8_boxed_15 : decode cX8_boxed 15 = .ok (.iconst 0, 1) := by decide +kernel
theorem dX8_boxed_16 : decode cX8_boxed 16 = .ok (.istore 5, 2) := by decide +kernel
theorem dX8_boxed_18 : decode cX8_boxed 18 = .ok (.iconst 0, 1) := by decide +kernel
theorem dX8_boxed_19 : decode cX8_boxed 19 = .ok (.istore 6, 2) := by decide +kernel
theorem dX8_boxed_21 : decode cX8_boxed 21 = .ok (.iload 6, 2) := by decide +kernel
theorem dX8_boxed_23 : decode cX8_boxed 23 = .ok (.aload_n 0, 1) := by decide +kernel
theorem dX8_boxed_24 : decode cX8_boxed 24 = .ok (.getfield 70, 3) := by decide +kernel
theorem dX8_boxed_27 : decode cX8_boxed 27 = .ok (.if_icmp .ge 75, 3) := by decide +kernel
theorem dX8_boxed_30 : decode cX8_boxed 30 = .ok (.iload 4, 2) := by decide +kernel
theorem dX8_boxed_32 : decode cX8_boxed 32 = .ok (.iload_n 1, 1) := by decide +kernel
theorem dX8_boxed_33 : decode cX8_boxed 33 = .ok (.iload 6, 2) := by decide +kernel
theorem dX8_boxed_35 : decode cX8_boxed 35 = .ok (.invokestatic 178, 3) := by decide +kernel
theorem dX8_boxed_38 : decode cX8_boxed 38 = .ok (.ifCond .eq 16, 3) := by decide +kernel
theorem dX8_boxed_41 : decode cX8_boxed 41 = .ok (.aload_n 0, 1) := by decide +kernel
theorem dX8_boxed_42 : decode cX8_boxed 42 = .ok (.getfield 22, 3) := by decide +kernel
theorem dX8_boxed_45 : decode cX8_boxed 45 = .ok (.bipush 6, 2) := by decide +kernel
theorem dX8_boxed_47 : decode cX8_boxed 47 = .ok (.iload 6, 2) := by decide +kernel
theorem dX8_boxed_49 : decode cX8_boxed 49 = .ok (.iadd, 1) := by decide +kernel
theorem dX8_boxed_50 : decode cX8_boxed 50 = .ok (.iaload, 1) := by decide +kernel
theorem dX8_boxed_51 : decode cX8_boxed 51 = .ok (.goto 4, 3) := by decide +kernel
theorem dX8_boxed_54 : decode cX8_boxed 54 = .ok (.iconst 0, 1) := by decide +kernel
theorem dX8_boxed_55 : decode cX8_boxed 55 = .ok (.iadd, 1) := by decide +kernel
theorem dX8_boxed_56 : decode cX8_boxed 56 = .ok (.istore 4, 2) := by decide +kernel
theorem dX8_boxed_58 : decode cX8_boxed 58 = .ok (.iload 5, 2) := by decide +kernel
theorem dX8_boxed_60 : decode cX8_boxed 60 = .ok (.ifCond .eq 33, 3) := by decide +kernel
theorem dX8_boxed_63 : decode cX8_boxed 63 = .ok (.iload_n 1, 1) := by decide +kernel
theorem dX8_boxed_64 : decode cX8_boxed 64 = .ok (.iload 6, 2) := by decide +kernel
theorem dX8_boxed_66 : decode cX8_boxed 66 = .ok (.invokestatic 178, 3) := by decide +kernel
theorem dX8_boxed_69 : decode cX8_boxed 69 = .ok (.ifCond .eq 20, 3) := by decide +kernel
theorem dX8_boxed_72 : decode cX8_boxed 72 = .ok (.aload_n 0, 1) := by decide +kernel
theorem dX8_boxed_73 : decode cX8_boxed 73 = .ok (.getfield 22, 3) := by decide +kernel
theorem dX8_boxed_76 : decode cX8_boxed 76 = .ok (.iconst 0, 1) := by decide +kernel
theorem dX8_boxed_77 : decode cX8_boxed 77 = .ok (.iload 6, 2) := by decide +kernel
theorem dX8_boxed_79 : decode cX8_boxed 79 = .ok (.iadd, 1) := by decide +kernel
theorem dX8_boxed_80 : decode cX8_boxed 80 = .ok (.iaload, 1) := by decide +kernel
theorem dX8_boxed_81 : decode cX8_boxed 81 = .ok (.iconst 1, 1) := by decide +kernel
theorem dX8_boxed_82 : decode cX8_boxed 82 = .ok (.iconst 5, 1) := by decide +kernel
theorem dX8_boxed_83 : decode cX8_boxed 83 = .ok (.invokestatic 66, 3) := by decide +kernel
theorem dX8_boxed_86 : decode cX8_boxed 86 = .ok (.ifCond .eq 7, 3) := by decide +kernel
theorem dX8_boxed_89 : decode cX8_boxed 89 = .ok (.iconst 1, 1) := by decide +kernel
theorem dX8_boxed_90 : decode cX8_boxed 90 = .ok (.goto 4, 3) := by decide +kernel
theorem dX8_boxed_93 : decode cX8_boxed 93 = .ok (.iconst 0, 1) := by decide +kernel
theorem dX8_boxed_94 : decode cX8_boxed 94 = .ok (.istore 5, 2) := by decide +kernel
theorem dX8_boxed_96 : decode cX8_boxed 96 = .ok (.iinc 6 1, 3) := by decide +kernel
theorem dX8_boxed_99 : decode cX8_boxed 99 = .ok (.goto (-78), 3) := by decide +kernel
theorem dX8_boxed_102 : decode cX8_boxed 102 = .ok (.iload 5, 2) := by decide +kernel
theorem dX8_boxed_104 : decode cX8_boxed 104 = .ok (.ifCond .eq 14, 3) := by decide +kernel
theorem dX8_boxed_107 : decode cX8_boxed 107 = .ok (.iload 4, 2) := by decide +kernel
theorem dX8_boxed_109 : decode cX8_boxed 109 = .ok (.iload_n 3, 1) := by decide +kernel
theorem dX8_boxed_110 : decode cX8_boxed 110 = .ok (.if_icmp .lt 8, 3) := by decide +kernel
theorem dX8_boxed_113 : decode cX8_boxed 113 = .ok (.iload 4, 2) := by decide +kernel
theorem dX8_boxed_115 : decode cX8_boxed 115 = .ok (.goto 4, 3) := by decide +kernel
theorem dX8_boxed_118 : decode cX8_boxed 118 = .ok (.iconst (-1), 1) := by decide +kernel
theorem dX8_boxed_119 : decode cX8_boxed 119 = .ok (.ireturn, 1) := by decide +kernel
def f_X8_boxed_b119 (t119_0 : Int32) : Option (Int32) := some t119_0
def f_X8_boxed_b118 (k119 : Int32 → Option (Int32)) : Option (Int32) := k119 (-1 : Int32)
def f_X8_boxed_b94 (v21_4 : Int32) (v21_6 : Int32) (t55_0 : Int32) (k21 : Int32 → Int32 → Int32 → Option (Int32)) (t94_0 : Int32) : Option (Int32) := k21 (v21_4 + t55_0) t94_0 (v21_6 + (1 : Int32))
def f_X8_boxed_b93 (k94 : Int32 → Option (Int32)) : Option (Int32) := k94 (0 : Int32)
def f_X8_boxed_b89 (k94 : Int32 → Option (Int32)) : Option (Int32) := k94 (1 : Int32)
def f_X8_boxed_b55 (a1 : Int32) (M : xMem) (v21_4 : Int32) (v21_5 : Int32) (v21_6 : Int32) (k21 : Int32 → Int32 → Int32 → Option (Int32)) (t55_0 : Int32) : Option (Int32) := (if v21_5 = (0 : Int32) then (f_X8_boxed_b93 (f_X8_boxed_b94 v21_4 v21_6 t55_0 k21)) else xb1 (f_X8_has a1 v21_6 M) (fun r66 => (if r66 = (0 : Int32) then (f_X8_boxed_b89 (f_X8_boxed_b94 v21_4 v21_6 t55_0 k21)) else xchk (xb ((0 : Int32) + v21_6) 27) (xb1 (f_X8_in (M 8 7 ((0 : Int32) + v21_6).toNatClampNeg) (1 : Int32) (5 : Int32) M) (fun r83 => (if r83 = (0 : Int32) then (f_X8_boxed_b93 (f_X8_boxed_b94 v21_4 v21_6 t55_0 k21)) else (f_X8_boxed_b89 (f_X8_boxed_b94 v21_4 v21_6 t55_0 k21))))))))
def f_X8_boxed_l21 (a1 : Int32) (a3 : Int32) (M : xMem) : Nat → Int32 → Int32 → Int32 → Option (Int32)
  | 0, _, _, _ => none
  | n + 1, v21_4, v21_5, v21_6 => (if (M 8 0 4) ≤ v21_6 then (if v21_5 = (0 : Int32) then (f_X8_boxed_b118 (f_X8_boxed_b119)) else (if v21_4 < a3 then (f_X8_boxed_b118 (f_X8_boxed_b119)) else (f_X8_boxed_b119) v21_4)) else xb1 (f_X8_has a1 v21_6 M) (fun r35 => (if r35 = (0 : Int32) then (f_X8_boxed_b55 a1 M v21_4 v21_5 v21_6 (f_X8_boxed_l21 a1 a3 M n)) (0 : Int32) else xchk (xb ((6 : Int32) + v21_6) 27) ((f_X8_boxed_b55 a1 M v21_4 v21_5 v21_6 (f_X8_boxed_l21 a1 a3 M n)) (M 8 7 ((6 : Int32) + v21_6).toNatClampNeg)))))
def f_X8_boxed_b16 (a1 : Int32) (a3 : Int32) (M : xMem) (t16_0 : Int32) : Option (Int32) := (f_X8_boxed_l21 a1 a3 M FU) (0 : Int32) t16_0 (0 : Int32)
def f_X8_boxed (a1 : Int32) (a2 : Int32) (a3 : Int32) (M : xMem) : Option (Int32) := xb1 (f_X8_bits a1 M) (fun r4 => (if r4 = a2 then (f_X8_boxed_b16 a1 a3 M) (1 : Int32) else (f_X8_boxed_b16 a1 a3 M) (0 : Int32)))
set_option maxHeartbeats 4000000 in
set_option maxRecDepth 100000 in
theorem w_X8_boxed_b119 {p : Program} {l : Launch} {e : Env} {s : State} {m : MethodId} {args : Array Value} {below : List Frame} {meth : Method} {c : Code} {G : xG} {rr : Int32} (E : xE p s m args meth c cX8_boxed 7 (some .int) RX8 G) (M : xMem) (L : xLL) : ∀ (t119_0 : Int32), f_X8_boxed_b119 t119_0 = some rr → ∀ (ls : Array Slot), lv_has ls 7 [] → ∀ (H : Heap) (locs : List Loc), xI G M L s.heap H locs → W p l e (xR 2) s m args below meth c H locs 0 0 (MQ below (xQi G rr M L s.heap.size) args s 0 0 (xZ G s.heap.size)) (F0 m 119 ls [.int t119_0]) := by
  have hx := E.1
  have hb := E.2.1
  intro t119_0 hf ls hl H locs hI
  rw [f_X8_boxed_b119] at hf
  obtain rfl := xinj1 hf
  exact x_iret E hI rfl dX8_boxed_119
set_option maxHeartbeats 4000000 in
set_option maxRecDepth 100000 in
theorem w_X8_boxed_b118 {p : Program} {l : Launch} {e : Env} {s : State} {m : MethodId} {args : Array Value} {below : List Frame} {meth : Method} {c : Code} {G : xG} {rr : Int32} (E : xE p s m args meth c cX8_boxed 7 (some .int) RX8 G) (M : xMem) (L : xLL) (k119 : Int32 → Option (Int32)) (hk119 : ∀ (t119_0 : Int32), k119 t119_0 = some rr → ∀ (ls : Array Slot), lv_has ls 7 [] → ∀ (H : Heap) (locs : List Loc), xI G M L s.heap H locs → W p l e (xR 2) s m args below meth c H locs 0 0 (MQ below (xQi G rr M L s.heap.size) args s 0 0 (xZ G s.heap.size)) (F0 m 119 ls [.int t119_0])) : f_X8_boxed_b118 k119  = some rr → ∀ (ls : Array Slot), lv_has ls 7 [] → ∀ (H : Heap) (locs : List Loc), xI G M L s.heap H locs → W p l e (xR 2) s m args below meth c H locs 0 0 (MQ below (xQi G rr M L s.heap.size) args s 0 0 (xZ G s.heap.size)) (F0 m 118 ls []) := by
  have hx := E.1
  have hb := E.2.1
  intro  hf ls hl H locs hI
  rw [f_X8_boxed_b118] at hf
  refine lv_iconst (v := -1) hx hb dX8_boxed_118 (by decide) ?_
  exact hk119 (-1 : Int32) hf _ (lv_sub hl [] rfl) _ _ hI
set_option maxHeartbeats 4000000 in
set_option maxRecDepth 100000 in
theorem w_X8_boxed_b94 {p : Program} {l : Launch} {e : Env} {s : State} {m : MethodId} {args : Array Value} {below : List Frame} {meth : Method} {c : Code} {G : xG} {rr : Int32} (E : xE p s m args meth c cX8_boxed 7 (some .int) RX8 G) (a1 : Int32) (a3 : Int32) (M : xMem) (L : xLL) (v21_4 : Int32) (v21_5 : Int32) (v21_6 : Int32) (t55_0 : Int32) (k21 : Int32 → Int32 → Int32 → Option (Int32)) (hk21 : ∀ (v21_4 : Int32) (v21_5 : Int32) (v21_6 : Int32), k21 v21_4 v21_5 v21_6 = some rr → ∀ (ls : Array Slot), lv_has ls 7 [(0, .ref (xq G 8 0)), (1, .int a1), (3, .int a3), (4, .int v21_4), (5, .int v21_5), (6, .int v21_6)] → ∀ (H : Heap) (locs : List Loc), xI G M L s.heap H locs → W p l e (xR 2) s m args below meth c H locs 0 0 (MQ below (xQi G rr M L s.heap.size) args s 0 0 (xZ G s.heap.size)) (F0 m 21 ls [])) : ∀ (t94_0 : Int32), f_X8_boxed_b94 v21_4 v21_6 t55_0 k21 t94_0 = some rr → ∀ (ls : Array Slot), lv_has ls 7 [(0, .ref (xq G 8 0)), (1, .int a1), (3, .int a3), (4, .int (v21_4 + t55_0)), (6, .int v21_6)] → ∀ (H : Heap) (locs : List Loc), xI G M L s.heap H locs → W p l e (xR 2) s m args below meth c H locs 0 0 (MQ below (xQi G rr M L s.heap.size) args s 0 0 (xZ G s.heap.size)) (F0 m 94 ls [.int t94_0]) := by
  have hx := E.1
  have hb := E.2.1
  intro t94_0 hf ls hl H locs hI
  rw [f_X8_boxed_b94] at hf
  refine lv_istore (lv' := [(5, .int t94_0), (0, .ref (xq G 8 0)), (1, .int a1), (3, .int a3), (4, .int (v21_4 + t55_0)), (6, .int v21_6)]) hx hb dX8_boxed_94 hl (by decide) rfl (fun ls hl => ?_)
  refine lv_iinc (v := (v21_6 + (1 : Int32))) (lv' := [(6, .int (v21_6 + (1 : Int32))), (5, .int t94_0), (0, .ref (xq G 8 0)), (1, .int a1), (3, .int a3), (4, .int (v21_4 + t55_0))]) hx hb dX8_boxed_96 hl (k := 5) rfl rfl (by decide) rfl (fun ls hl => ?_)
  refine lv_goto (tgt := 21) hx hb dX8_boxed_99 (by decide) ?_
  exact hk21 (v21_4 + t55_0) t94_0 (v21_6 + (1 : Int32)) hf _ (lv_sub hl [2, 3, 4, 5, 1, 0] rfl) _ _ hI
set_option maxHeartbeats 4000000 in
set_option maxRecDepth 100000 in
theorem w_X8_boxed_b93 {p : Program} {l : Launch} {e : Env} {s : State} {m : MethodId} {args : Array Value} {below : List Frame} {meth : Method} {c : Code} {G : xG} {rr : Int32} (E : xE p s m args meth c cX8_boxed 7 (some .int) RX8 G) (a1 : Int32) (a3 : Int32) (M : xMem) (L : xLL) (v21_4 : Int32) (v21_6 : Int32) (t55_0 : Int32) (k94 : Int32 → Option (Int32)) (hk94 : ∀ (t94_0 : Int32), k94 t94_0 = some rr → ∀ (ls : Array Slot), lv_has ls 7 [(0, .ref (xq G 8 0)), (1, .int a1), (3, .int a3), (4, .int (v21_4 + t55_0)), (6, .int v21_6)] → ∀ (H : Heap) (locs : List Loc), xI G M L s.heap H locs → W p l e (xR 2) s m args below meth c H locs 0 0 (MQ below (xQi G rr M L s.heap.size) args s 0 0 (xZ G s.heap.size)) (F0 m 94 ls [.int t94_0])) : f_X8_boxed_b93 k94  = some rr → ∀ (ls : Array Slot), lv_has ls 7 [(0, .ref (xq G 8 0)), (1, .int a1), (3, .int a3), (4, .int (v21_4 + t55_0)), (6, .int v21_6)] → ∀ (H : Heap) (locs : List Loc), xI G M L s.heap H locs → W p l e (xR 2) s m args below meth c H locs 0 0 (MQ below (xQi G rr M L s.heap.size) args s 0 0 (xZ G s.heap.size)) (F0 m 93 ls []) := by
  have hx := E.1
  have hb := E.2.1
  intro  hf ls hl H locs hI
  rw [f_X8_boxed_b93] at hf
  refine lv_iconst (v := 0) hx hb dX8_boxed_93 (by decide) ?_
  exact hk94 (0 : Int32) hf _ (lv_sub hl [0, 1, 2, 3, 4] rfl) _ _ hI
set_option maxHeartbeats 4000000 in
set_option maxRecDepth 100000 in
theorem w_X8_boxed_b89 {p : Program} {l : Launch} {e : Env} {s : State} {m : MethodId} {args : Array Value} {below : List Frame} {meth : Method} {c : Code} {G : xG} {rr : Int32} (E : xE p s m args meth c cX8_boxed 7 (some .int) RX8 G) (a1 : Int32) (a3 : Int32) (M : xMem) (L : xLL) (v21_4 : Int32) (v21_6 : Int32) (t55_0 : Int32) (k94 : Int32 → Option (Int32)) (hk94 : ∀ (t94_0 : Int32), k94 t94_0 = some rr → ∀ (ls : Array Slot), lv_has ls 7 [(0, .ref (xq G 8 0)), (1, .int a1), (3, .int a3), (4, .int (v21_4 + t55_0)), (6, .int v21_6)] → ∀ (H : Heap) (locs : List Loc), xI G M L s.heap H locs → W p l e (xR 2) s m args below meth c H locs 0 0 (MQ below (xQi G rr M L s.heap.size) args s 0 0 (xZ G s.heap.size)) (F0 m 94 ls [.int t94_0])) : f_X8_boxed_b89 k94  = some rr → ∀ (ls : Array Slot), lv_has ls 7 [(0, .ref (xq G 8 0)), (1, .int a1), (3, .int a3), (4, .int (v21_4 + t55_0)), (6, .int v21_6)] → ∀ (H : Heap) (locs : List Loc), xI G M L s.heap H locs → W p l e (xR 2) s m args below meth c H locs 0 0 (MQ below (xQi G rr M L s.heap.size) args s 0 0 (xZ G s.heap.size)) (F0 m 89 ls []) := by
  have hx := E.1
  have hb := E.2.1
  intro  hf ls hl H locs hI
  rw [f_X8_boxed_b89] at hf
  refine lv_iconst (v := 1) hx hb dX8_boxed_89 (by decide) ?_
  refine lv_goto (tgt := 94) hx hb dX8_boxed_90 (by decide) ?_
  exact hk94 (1 : Int32) hf _ (lv_sub hl [0, 1, 2, 3, 4] rfl) _ _ hI
set_option maxHeartbeats 4000000 in
set_option maxRecDepth 100000 in
theorem w_X8_boxed_b55 {p : Program} {l : Launch} {e : Env} {s : State} {m : MethodId} {args : Array Value} {below : List Frame} {meth : Method} {c : Code} {G : xG} {rr : Int32} (E : xE p s m args meth c cX8_boxed 7 (some .int) RX8 G) (a1 : Int32) (a2 : Int32) (a3 : Int32) (M : xMem) (L : xLL) (v21_4 : Int32) (v21_5 : Int32) (v21_6 : Int32) (k21 : Int32 → Int32 → Int32 → Option (Int32)) (hk21 : ∀ (v21_4 : Int32) (v21_5 : Int32) (v21_6 : Int32), k21 v21_4 v21_5 v21_6 = some rr → ∀ (ls : Array Slot), lv_has ls 7 [(0, .ref (xq G 8 0)), (1, .int a1), (3, .int a3), (4, .int v21_4), (5, .int v21_5), (6, .int v21_6)] → ∀ (H : Heap) (locs : List Loc), xI G M L s.heap H locs → W p l e (xR 2) s m args below meth c H locs 0 0 (MQ below (xQi G rr M L s.heap.size) args s 0 0 (xZ G s.heap.size)) (F0 m 21 ls [])) : ∀ (t55_0 : Int32), f_X8_boxed_b55 a1 M v21_4 v21_5 v21_6 k21 t55_0 = some rr → ∀ (ls : Array Slot), lv_has ls 7 [(0, .ref (xq G 8 0)), (1, .int a1), (3, .int a3), (5, .int v21_5), (6, .int v21_6)] → ∀ (H : Heap) (locs : List Loc), xI G M L s.heap H locs → W p l e (xR 2) s m args below meth c H locs 0 0 (MQ below (xQi G rr M L s.heap.size) args s 0 0 (xZ G s.heap.size)) (F0 m 55 ls [.int t55_0, .int v21_4]) := by
  have hx := E.1
  have hb := E.2.1
  intro t55_0 hf ls hl H locs hI
  rw [f_X8_boxed_b55] at hf
  refine lv_iadd hx hb dX8_boxed_55 ?_
  refine lv_istore (lv' := [(4, .int (v21_4 + t55_0)), (0, .ref (xq G 8 0)), (1, .int a1), (3, .int a3), (5, .int v21_5), (6, .int v21_6)]) hx hb dX8_boxed_56 hl (by decide) rfl (fun ls hl => ?_)
  refine lv_iload hx hb dX8_boxed_58 (lv_at hl 4 rfl) ?_
  refine lv_if_eq (tgt := 93) hx hb dX8_boxed_60 (by decide) (fun c60 => ?_) (fun c60 => ?_)
  · replace hf := xif_t c60 hf
    exact (w_X8_boxed_b93 E (a1 := a1) (a3 := a3) (M := M) (L := L) (v21_4 := v21_4) (v21_6 := v21_6) (t55_0 := t55_0) (k94 := (f_X8_boxed_b94 v21_4 v21_6 t55_0 k21)) (hk94 := (w_X8_boxed_b94 E (a1 := a1) (a3 := a3) (M := M) (L := L) (v21_4 := v21_4) (v21_5 := v21_5) (v21_6 := v21_6) (t55_0 := t55_0) (k21 := k21) (hk21 := hk21))))  hf _ (lv_sub hl [1, 2, 3, 0, 5] rfl) _ _ hI
  · replace hf := xif_f c60 hf
    refine lv_iload_n hx hb dX8_boxed_63 rfl (lv_at hl 2 rfl) ?_
    refine lv_iload hx hb dX8_boxed_64 (lv_at hl 5 rfl) ?_
    obtain ⟨r66, g66, hf⟩ := xb1_s hf
    refine x_callSi (As := [.int a1, .int v21_6]) (rest := []) E hI (c_X8_has l G _ (M := M) (L := L) (a0 := a1) (a1 := v21_6) g66) ys_X8_has ml_X8_178 (by decide) (by decide) rfl rfl hl.1 (Nat.le_of_ble_eq_true rfl) dX8_boxed_66 (fun H locs hI => ?_)
    refine lv_if_eq (tgt := 89) hx hb dX8_boxed_69 (by decide) (fun c69 => ?_) (fun c69 => ?_)
    · replace hf := xif_t c69 hf
      exact (w_X8_boxed_b89 E (a1 := a1) (a3 := a3) (M := M) (L := L) (v21_4 := v21_4) (v21_6 := v21_6) (t55_0 := t55_0) (k94 := (f_X8_boxed_b94 v21_4 v21_6 t55_0 k21)) (hk94 := (w_X8_boxed_b94 E (a1 := a1) (a3 := a3) (M := M) (L := L) (v21_4 := v21_4) (v21_5 := v21_5) (v21_6 := v21_6) (t55_0 := t55_0) (k21 := k21) (hk21 := hk21))))  hf _ (lv_sub hl [1, 2, 3, 0, 5] rfl) _ _ hI
    · replace hf := xif_f c69 hf
      refine lv_aload_n hx hb dX8_boxed_72 rfl (lv_at hl 1 rfl) ?_
      refine gf_X8_22 E hI dX8_boxed_73 ?_
      refine lv_iconst (v := 0) hx hb dX8_boxed_76 (by decide) ?_
      refine lv_iload hx hb dX8_boxed_77 (lv_at hl 5 rfl) ?_
      refine lv_iadd hx hb dX8_boxed_79 ?_
      obtain ⟨h80b, hf⟩ := xchk_s hf
      refine x_iald (n := 27) E hI mx_8_7 (fun _ _ => rfl) h80b dX8_boxed_80 ?_
      refine lv_iconst (v := 1) hx hb dX8_boxed_81 (by decide) ?_
      refine lv_iconst (v := 5) hx hb dX8_boxed_82 (by decide) ?_
      obtain ⟨r83, g83, hf⟩ := xb1_s hf
      refine x_callSi (As := [.int (M 8 7 ((0 : Int32) + v21_6).toNatClampNeg), .int (1 : Int32), .int (5 : Int32)]) (rest := []) E hI (c_X8_in l G _ (M := M) (L := L) (a0 := (M 8 7 ((0 : Int32) + v21_6).toNatClampNeg)) (a1 := (1 : Int32)) (a2 := (5 : Int32)) g83) ys_X8_in ml_X8_66 (by decide) (by decide) rfl rfl hl.1 (Nat.le_of_ble_eq_true rfl) dX8_boxed_83 (fun H locs hI => ?_)
      refine lv_if_eq (tgt := 93) hx hb dX8_boxed_86 (by decide) (fun c86 => ?_) (fun c86 => ?_)
      · replace hf := xif_t c86 hf
        exact (w_X8_boxed_b93 E (a1 := a1) (a3 := a3) (M := M) (L := L) (v21_4 := v21_4) (v21_6 := v21_6) (t55_0 := t55_0) (k94 := (f_X8_boxed_b94 v21_4 v21_6 t55_0 k21)) (hk94 := (w_X8_boxed_b94 E (a1 := a1) (a3 := a3) (M := M) (L := L) (v21_4 := v21_4) (v21_5 := v21_5) (v21_6 := v21_6) (t55_0 := t55_0) (k21 := k21) (hk21 := hk21))))  hf _ (lv_sub hl [1, 2, 3, 0, 5] rfl) _ _ hI
      · replace hf := xif_f c86 hf
        exact (w_X8_boxed_b89 E (a1 := a1) (a3 := a3) (M := M) (L := L) (v21_4 := v21_4) (v21_6 := v21_6) (t55_0 := t55_0) (k94 := (f_X8_boxed_b94 v21_4 v21_6 t55_0 k21)) (hk94 := (w_X8_boxed_b94 E (a1 := a1) (a3 := a3) (M := M) (L := L) (v21_4 := v21_4) (v21_5 := v21_5) (v21_6 := v21_6) (t55_0 := t55_0) (k21 := k21) (hk21 := hk21))))  hf _ (lv_sub hl [1, 2, 3, 0, 5] rfl) _ _ hI
set_option maxHeartbeats 4000000 in
set_option maxRecDepth 100000 in
theorem w_X8_boxed_l21 {p : Program} {l : Launch} {e : Env} {s : State} {m : MethodId} {args : Array Value} {below : List Frame} {meth : Method} {c : Code} {G : xG} {rr : Int32} (E : xE p s m args meth c cX8_boxed 7 (some .int) RX8 G) (a1 : Int32) (a2 : Int32) (a3 : Int32) (M : xMem) (L : xLL) : ∀ (n : Nat), ∀ (v21_4 : Int32) (v21_5 : Int32) (v21_6 : Int32), f_X8_boxed_l21 a1 a3 M n v21_4 v21_5 v21_6 = some rr → ∀ (ls : Array Slot), lv_has ls 7 [(0, .ref (xq G 8 0)), (1, .int a1), (3, .int a3), (4, .int v21_4), (5, .int v21_5), (6, .int v21_6)] → ∀ (H : Heap) (locs : List Loc), xI G M L s.heap H locs → W p l e (xR 2) s m args below meth c H locs 0 0 (MQ below (xQi G rr M L s.heap.size) args s 0 0 (xZ G s.heap.size)) (F0 m 21 ls []) := by
  have hx := E.1
  have hb := E.2.1
  intro n
  induction n with
  | zero =>
    intro v21_4 v21_5 v21_6 hf
    exact absurd hf (by simp [f_X8_boxed_l21])
  | succ n ih =>
    intro v21_4 v21_5 v21_6 hf ls hl H locs hI
    rw [f_X8_boxed_l21] at hf
    refine lv_iload hx hb dX8_boxed_21 (lv_at hl 5 rfl) ?_
    refine lv_aload_n hx hb dX8_boxed_23 rfl (lv_at hl 0 rfl) ?_
    refine gf_X8_70 E hI dX8_boxed_24 ?_
    refine lv_icmp_ge (tgt := 102) hx hb dX8_boxed_27 (by decide) (fun c27 => ?_) (fun c27 => ?_)
    · replace hf := xif_t c27 hf
      refine lv_iload hx hb dX8_boxed_102 (lv_at hl 4 rfl) ?_
      refine lv_if_eq (tgt := 118) hx hb dX8_boxed_104 (by decide) (fun c104 => ?_) (fun c104 => ?_)
      · replace hf := xif_t c104 hf
        exact (w_X8_boxed_b118 E (M := M) (L := L) (k119 := (f_X8_boxed_b119)) (hk119 := (w_X8_boxed_b119 E (M := M) (L := L))))  hf _ (lv_sub hl [] rfl) _ _ hI
      · replace hf := xif_f c104 hf
        refine lv_iload hx hb dX8_boxed_107 (lv_at hl 3 rfl) ?_
        refine lv_iload_n hx hb dX8_boxed_109 rfl (lv_at hl 2 rfl) ?_
        refine lv_icmp_lt (tgt := 118) hx hb dX8_boxed_110 (by decide) (fun c110 => ?_) (fun c110 => ?_)
        · replace hf := xif_t c110 hf
          exact (w_X8_boxed_b118 E (M := M) (L := L) (k119 := (f_X8_boxed_b119)) (hk119 := (w_X8_boxed_b119 E (M := M) (L := L))))  hf _ (lv_sub hl [] rfl) _ _ hI
        · replace hf := xif_f c110 hf
          refine lv_iload hx hb dX8_boxed_113 (lv_at hl 3 rfl) ?_
          refine lv_goto (tgt := 119) hx hb dX8_boxed_115 (by decide) ?_
          exact (w_X8_boxed_b119 E (M := M) (L := L)) v21_4 hf _ (lv_sub hl [] rfl) _ _ hI
    · replace hf := xif_f c27 hf
      refine lv_iload hx hb dX8_boxed_30 (lv_at hl 3 rfl) ?_
      refine lv_iload_n hx hb dX8_boxed_32 rfl (lv_at hl 1 rfl) ?_
      refine lv_iload hx hb dX8_boxed_33 (lv_at hl 5 rfl) ?_
      obtain ⟨r35, g35, hf⟩ := xb1_s hf
      refine x_callSi (As := [.int a1, .int v21_6]) (rest := [.int v21_4]) E hI (c_X8_has l G _ (M := M) (L := L) (a0 := a1) (a1 := v21_6) g35) ys_X8_has ml_X8_178 (by decide) (by decide) rfl rfl hl.1 (Nat.le_of_ble_eq_true rfl) dX8_boxed_35 (fun H locs hI => ?_)
      refine lv_if_eq (tgt := 54) hx hb dX8_boxed_38 (by decide) (fun c38 => ?_) (fun c38 => ?_)
      · replace hf := xif_t c38 hf
        refine lv_iconst (v := 0) hx hb dX8_boxed_54 (by decide) ?_
        exact (w_X8_boxed_b55 E (a1 := a1) (a2 := a2) (a3 := a3) (M := M) (L := L) (v21_4 := v21_4) (v21_5 := v21_5) (v21_6 := v21_6) (k21 := (f_X8_boxed_l21 a1 a3 M n)) (hk21 := ih)) (0 : Int32) hf _ (lv_sub hl [0, 1, 2, 4, 5] rfl) _ _ hI
      · replace hf := xif_f c38 hf
        refine lv_aload_n hx hb dX8_boxed_41 rfl (lv_at hl 0 rfl) ?_
        refine gf_X8_22 E hI dX8_boxed_42 ?_
        refine lv_bipush (v := 6) hx hb dX8_boxed_45 (by decide) ?_
        refine lv_iload hx hb dX8_boxed_47 (lv_at hl 5 rfl) ?_
        refine lv_iadd hx hb dX8_boxed_49 ?_
        obtain ⟨h50b, hf⟩ := xchk_s hf
        refine x_iald (n := 27) E hI mx_8_7 (fun _ _ => rfl) h50b dX8_boxed_50 ?_
        refine lv_goto (tgt := 55) hx hb dX8_boxed_51 (by decide) ?_
        exact (w_X8_boxed_b55 E (a1 := a1) (a2 := a2) (a3 := a3) (M := M) (L := L) (v21_4 := v21_4) (v21_5 := v21_5) (v21_6 := v21_6) (k21 := (f_X8_boxed_l21 a1 a3 M n)) (hk21 := ih)) (M 8 7 ((6 : Int32) + v21_6).toNatClampNeg) hf _ (lv_sub hl [0, 1, 2, 4, 5] rfl) _ _ hI
set_option maxHeartbeats 4000000 in
set_option maxRecDepth 100000 in
theorem w_X8_boxed_b16 {p : Program} {l : Launch} {e : Env} {s : State} {m : MethodId} {args : Array Value} {below : List Frame} {meth : Method} {c : Code} {G : xG} {rr : Int32} (E : xE p s m args meth c cX8_boxed 7 (some .int) RX8 G) (a1 : Int32) (a2 : Int32) (a3 : Int32) (M : xMem) (L : xLL) : ∀ (t16_0 : Int32), f_X8_boxed_b16 a1 a3 M t16_0 = some rr → ∀ (ls : Array Slot), lv_has ls 7 [(0, .ref (xq G 8 0)), (1, .int a1), (3, .int a3), (4, .int (0 : Int32))] → ∀ (H : Heap) (locs : List Loc), xI G M L s.heap H locs → W p l e (xR 2) s m args below meth c H locs 0 0 (MQ below (xQi G rr M L s.heap.size) args s 0 0 (xZ G s.heap.size)) (F0 m 16 ls [.int t16_0]) := by
  have hx := E.1
  have hb := E.2.1
  intro t16_0 hf ls hl H locs hI
  rw [f_X8_boxed_b16] at hf
  refine lv_istore (lv' := [(5, .int t16_0), (0, .ref (xq G 8 0)), (1, .int a1), (3, .int a3), (4, .int (0 : Int32))]) hx hb dX8_boxed_16 hl (by decide) rfl (fun ls hl => ?_)
  refine lv_iconst (v := 0) hx hb dX8_boxed_18 (by decide) ?_
  refine lv_istore (lv' := [(6, .int (0 : Int32)), (5, .int t16_0), (0, .ref (xq G 8 0)), (1, .int a1), (3, .int a3), (4, .int (0 : Int32))]) hx hb dX8_boxed_19 hl (by decide) rfl (fun ls hl => ?_)
  exact (w_X8_boxed_l21 E (a1 := a1) (a2 := a2) (a3 := a3) (M := M) (L := L) FU) (0 : Int32) t16_0 (0 : Int32) hf _ (lv_sub hl [2, 3, 4, 5, 1, 0] rfl) _ _ hI
set_option maxHeartbeats 4000000 in
set_option maxRecDepth 100000 in
theorem c_X8_boxed (l : Launch) (G : xG) (sz : Nat) (M : xMem) (L : xLL) (a1 : Int32) (a2 : Int32) (a3 : Int32) {rr : Int32} (hf : f_X8_boxed a1 a2 a3 M = some rr) : Met l yX8_boxed (Cond.code yX8_boxed cX8_boxed 7 (some .int) :: xTB) (xR 2) (xP G M L sz [.ref (xq G 8 0), .int a1, .int a2, .int a3]) (xQi G rr M L sz) 0 0 (xZ G sz) := by
  refine x_met (cc := cX8_boxed) (nL := 7) (rt := (some .int)) (by decide) (Nat.le_of_ble_eq_true rfl) ?_
  intro p e s m below meth c ls hsz E hl hI
  subst hsz
  have E : xE p s m _ meth c cX8_boxed 7 (some .int) RX8 G := E
  have hx := E.1
  have hb := E.2.1
  have hl : lv_has ls 7 [(0, .ref (xq G 8 0)), (1, .int a1), (2, .int a2), (3, .int a3)] := hl
  rw [f_X8_boxed] at hf
  refine lv_iconst (v := 0) hx hb dX8_boxed_0 (by decide) ?_
  refine lv_istore (lv' := [(4, .int (0 : Int32)), (0, .ref (xq G 8 0)), (1, .int a1), (2, .int a2), (3, .int a3)]) hx hb dX8_boxed_1 hl (by decide) rfl (fun ls hl => ?_)
  refine lv_iload_n hx hb dX8_boxed_3 rfl (lv_at hl 2 rfl) ?_
  obtain ⟨r4, g4, hf⟩ := xb1_s hf
  refine x_callSi (As := [.int a1]) (rest := []) E hI (c_X8_bits l G _ (M := M) (L := L) (a0 := a1) g4) ys_X8_bits ml_X8_135 (by decide) (by decide) rfl rfl hl.1 (Nat.le_of_ble_eq_true rfl) dX8_boxed_4 (fun H locs hI => ?_)
  refine lv_iload_n hx hb dX8_boxed_7 rfl (lv_at hl 3 rfl) ?_
  refine lv_icmp_ne (tgt := 15) hx hb dX8_boxed_8 (by decide) (fun c8 => ?_) (fun c8 => ?_)
  · replace hf := xif_f c8 hf
    refine lv_iconst (v := 0) hx hb dX8_boxed_15 (by decide) ?_
    exact (w_X8_boxed_b16 E (a1 := a1) (a2 := a2) (a3 := a3) (M := M) (L := L)) (0 : Int32) hf _ (lv_sub hl [1, 2, 4, 0] rfl) _ _ hI
  · replace hf := xif_t c8 hf
    refine lv_iconst (v := 1) hx hb dX8_boxed_11 (by decide) ?_
    refine lv_goto (tgt := 16) hx hb dX8_boxed_12 (by decide) ?_
    exact (w_X8_boxed_b16 E (a1 := a1) (a2 := a2) (a3 := a3) (M := M) (L := L)) (1 : Int32) hf _ (lv_sub hl [1, 2, 4, 0] rfl) _ _ hI
theorem dX8_box_0 : decode cX8_box 0 = .ok (.iload_n 1, 1) := by decide +kernel
theorem dX8_box_1 : decode cX8_box 1 = .ok (.iconst 1, 1) := by decide +kernel
theorem dX8_box_2 : decode cX8_box 2 = .ok (.bipush 6, 2) := by decide +kernel
theorem dX8_box_4 : decode cX8_box 4 = .ok (.invokestatic 66, 3) := by decide +kernel
theorem dX8_box_7 : decode cX8_box 7 = .ok (.ifCond .eq 23, 3) := by decide +kernel
theorem dX8_box_10 : decode cX8_box 10 = .ok (.iload_n 2, 1) := by decide +kernel
theorem dX8_box_11 : decode cX8_box 11 = .ok (.iconst 0, 1) := by decide +kernel
theorem dX8_box_12 : decode cX8_box 12 = .ok (.sipush 600, 3) := by decide +kernel
theorem dX8_box_15 : decode cX8_box 15 = .ok (.invokestatic 66, 3) := by decide +kernel
theorem dX8_box_18 : decode cX8_box 18 = .ok (.ifCond .eq 12, 3) := by decide +kernel
theorem dX8_box_21 : decode cX8_box 21 = .ok (.iload_n 3, 1) := by decide +kernel
theorem dX8_box_22 : decode cX8_box 22 = .ok (.iconst 0, 1) := by decide +kernel
theorem dX8_box_23 : decode cX8_box 23 = .ok (.iconst 1, 1) := by decide +kernel
theorem dX8_box_24 : decode cX8_box 24 = .ok (.invokestatic 66, 3) := by decide +kernel
theorem dX8_box_27 : decode cX8_box 27 = .ok (.ifCond .ne 5, 3) := by decide +kernel
theorem dX8_box_30 : decode cX8_box 30 = .ok (.iconst (-1), 1) := by decide +kernel
theorem dX8_box_31 : decode cX8_box 31 = .ok (.ireturn, 1) := by decide +kernel
theorem dX8_box_32 : decode cX8_box 32 = .ok (.bipush (-9), 2) := by decide +kernel
theorem dX8_box_34 : decode cX8_box 34 = .ok (.istore 4, 2) := by decide +kernel
theorem dX8_box_36 : decode cX8_box 36 = .ok (.iconst 0, 1) := by decide +kernel
theorem dX8_box_37 : decode cX8_box 37 = .ok (.istore 5, 2) := by decide +kernel
theorem dX8_box_39 : decode cX8_box 39 = .ok (.iconst 0, 1) := by decide +kernel
theorem dX8_box_40 : decode cX8_box 40 = .ok (.istore 6, 2) := by decide +kernel
theorem dX8_box_42 : decode cX8_box 42 = .ok (.iload 6, 2) := by decide +kernel
theorem dX8_box_44 : decode cX8_box 44 = .ok (.iconst 1, 1) := by decide +kernel
theorem dX8_box_45 : decode cX8_box 45 = .ok (.aload_n 0, 1) := by decide +kernel
theorem dX8_box_46 : decode cX8_box 46 = .ok (.getfield 70, 3) := by decide +kernel
theorem dX8_box_49 : decode cX8_box 49 = .ok (.ishl, 1) := by decide +kernel
theorem dX8_box_50 : decode cX8_box 50 = .ok (.if_icmp .ge 71, 3) := by decide +kernel
theorem dX8_box_53 : decode cX8_box 53 = .ok (.aload_n 0, 1) := by decide +kernel
theorem dX8_box_54 : decode cX8_box 54 = .ok (.iload 6, 2) := by decide +kernel
theorem dX8_box_56 : decode cX8_box 56 = .ok (.iload_n 1, 1) := by decide +kernel
theorem dX8_box_57 : decode cX8_box 57 = .ok (.iload_n 2, 1) := by decide +kernel
theorem dX8_box_58 : decode cX8_box 58 = .ok (.invokevirtual 198, 3) := by decide +kernel
theorem dX8_box_61 : decode cX8_box 61 = .ok (.istore 7, 2) := by decide +kernel
theorem dX8_box_63 : decode cX8_box 63 = .ok (.iload 7, 2) := by decide +kernel
theorem dX8_box_65 : decode cX8_box 65 = .ok (.ifCond .lt 19, 3) := by decide +kernel
theorem dX8_box_68 : decode cX8_box 68 = .ok (.iload 4, 2) := by decide +kernel
theorem dX8_box_70 : decode cX8_box 70 = .ok (.ifCond .lt 10, 3) := by decide +kernel
theorem dX8_box_73 : decode cX8_box 73 = .ok (.iload 7, 2) := by decide +kernel
theorem dX8_box_75 : decode cX8_box 75 = .ok (.iload 5, 2) := by decide +kernel
theorem dX8_box_77 : decode cX8_box 77 = .ok (.if_icmp .ge 7, 3) := by decide +kernel
theorem dX8_box_80 : decode cX8_box 80 = .ok (.iconst 1, 1) := by decide +kernel
theorem dX8_box_81 : decode cX8_box 81 = .ok (.goto 4, 3) := by decide +kernel
theorem dX8_box_84 : decode cX8_box 84 = .ok (.iconst 0, 1) := by decide +kernel
theorem dX8_box_85 : decode cX8_box 85 = .ok (.istore 8, 2) := by decide +kernel
theorem dX8_box_87 : decode cX8_box 87 = .ok (.iload 8, 2) := by decide +kernel
theorem dX8_box_89 : decode cX8_box 89 = .ok (.ifCond .eq 8, 3) := by decide +kernel
theorem dX8_box_92 : decode cX8_box 92 = .ok (.iload 6, 2) := by decide +kernel
theorem dX8_box_94 : decode cX8_box 94 = .ok (.goto 5, 3) := by decide +kernel
theorem dX8_box_97 : decode cX8_box 97 = .ok (.iload 4, 2) := by decide +kernel
theorem dX8_box_99 : decode cX8_box 99 = .ok (.istore 4, 2) := by decide +kernel
theorem dX8_box_101 : decode cX8_box 101 = .ok (.iload 8, 2) := by decide +kernel
theorem dX8_box_103 : decode cX8_box 103 = .ok (.ifCond .eq 8, 3) := by decide +kernel
theorem dX8_box_106 : decode cX8_box 106 = .ok (.iload 7, 2) := by decide +kernel
theorem dX8_box_108 : decode cX8_box 108 = .ok (.goto 5, 3) := by decide +kernel
theorem dX8_box_111 : decode cX8_box 111 = .ok (.iload 5, 2) := by decide +kernel
theorem dX8_box_113 : decode cX8_box 113 = .ok (.istore 5, 2) := by decide +kernel
theorem dX8_box_115 : decode cX8_box 115 = .ok (.iinc 6 1, 3) := by decide +kernel
theorem dX8_box_118 : decode cX8_box 118 = .ok (.goto (-76), 3) := by decide +kernel
theorem dX8_box_121 : decode cX8_box 121 = .ok (.iload 4, 2) := by decide +kernel
theorem dX8_box_123 : decode cX8_box 123 = .ok (.ifCond .lt 7, 3) := by decide +kernel
theorem dX8_box_126 : decode cX8_box 126 = .ok (.iload_n 3, 1) := by decide +kernel
theorem dX8_box_127 : decode cX8_box 127 = .ok (.ifCond .ne 8, 3) := by decide +kernel
theorem dX8_box_130 : decode cX8_box 130 = .ok (.iload 4, 2) := by decide +kernel
theorem dX8_box_132 : decode cX8_box 132 = .ok (.goto 7, 3) := by decide +kernel
theorem dX8_box_135 : decode cX8_box 135 = .ok (.iload 5, 2) := by decide +kernel
theorem dX8_box_137 : decode cX8_box 137 = .ok (.iload_n 2, 1) := by decide +kernel
theorem dX8_box_138 : decode cX8_box 138 = .ok (.isub, 1) := by decide +kernel
theorem dX8_box_139 : decode cX8_box 139 = .ok (.ireturn, 1) := by decide +kernel
def f_X8_box_b30 : Option (Int32) := some (-1 : Int32)
def f_X8_box_b139 (t139_0 : Int32) : Option (Int32) := some t139_0
def f_X8_box_b130 (v42_4 : Int32) (k139 : Int32 → Option (Int32)) : Option (Int32) := k139 v42_4
def f_X8_box_b113 (v42_6 : Int32) (t99_0 : Int32) (k42 : Int32 → Int32 → Int32 → Option (Int32)) (t113_0 : Int32) : Option (Int32) := k42 t99_0 t113_0 (v42_6 + (1 : Int32))
def f_X8_box_b99 (v42_5 : Int32) (v42_6 : Int32) (r58 : Int32) (t85_0 : Int32) (k42 : Int32 → Int32 → Int32 → Option (Int32)) (t99_0 : Int32) : Option (Int32) := (if t85_0 = (0 : Int32) then (f_X8_box_b113 v42_6 t99_0 k42) v42_5 else (f_X8_box_b113 v42_6 t99_0 k42) r58)
def f_X8_box_b85 (v42_4 : Int32) (v42_5 : Int32) (v42_6 : Int32) (r58 : Int32) (k42 : Int32 → Int32 → Int32 → Option (Int32)) (t85_0 : Int32) : Option (Int32) := (if t85_0 = (0 : Int32) then (f_X8_box_b99 v42_5 v42_6 r58 t85_0 k42) v42_4 else (f_X8_box_b99 v42_5 v42_6 r58 t85_0 k42) v42_6)
def f_X8_box_b84 (k85 : Int32 → Option (Int32)) : Option (Int32) := k85 (0 : Int32)
def f_X8_box_b80 (k85 : Int32 → Option (Int32)) : Option (Int32) := k85 (1 : Int32)
def f_X8_box_l42 (a1 : Int32) (a2 : Int32) (a3 : Int32) (M : xMem) : Nat → Int32 → Int32 → Int32 → Option (Int32)
  | 0, _, _, _ => none
  | n + 1, v42_4, v42_5, v42_6 => (if ((1 : Int32) <<< ((M 8 0 4) &&& 31)) ≤ v42_6 then (if v42_4 < (0 : Int32) then (f_X8_box_b130 v42_4 (f_X8_box_b139)) else (if a3 = (0 : Int32) then (f_X8_box_b130 v42_4 (f_X8_box_b139)) else (f_X8_box_b139) (v42_5 - a2))) else xb1 (f_X8_boxed v42_6 a1 a2 M) (fun r58 => (if r58 < (0 : Int32) then (f_X8_box_b84 (f_X8_box_b85 v42_4 v42_5 v42_6 r58 (f_X8_box_l42 a1 a2 a3 M n))) else (if v42_4 < (0 : Int32) then (f_X8_box_b80 (f_X8_box_b85 v42_4 v42_5 v42_6 r58 (f_X8_box_l42 a1 a2 a3 M n))) else (if v42_5 ≤ r58 then (f_X8_box_b84 (f_X8_box_b85 v42_4 v42_5 v42_6 r58 (f_X8_box_l42 a1 a2 a3 M n))) else (f_X8_box_b80 (f_X8_box_b85 v42_4 v42_5 v42_6 r58 (f_X8_box_l42 a1 a2 a3 M n))))))))
def f_X8_box (a1 : Int32) (a2 : Int32) (a3 : Int32) (M : xMem) : Option (Int32) := xb1 (f_X8_in a1 (1 : Int32) (6 : Int32) M) (fun r4 => (if r4 = (0 : Int32) then (f_X8_box_b30) else xb1 (f_X8_in a2 (0 : Int32) (600 : Int32) M) (fun r15 => (if r15 = (0 : Int32) then (f_X8_box_b30) else xb1 (f_X8_in a3 (0 : Int32) (1 : Int32) M) (fun r24 => (if r24 = (0 : Int32) then (f_X8_box_b30) else (f_X8_box_l42 a1 a2 a3 M FU) (-9 : Int32) (0 : Int32) (0 : Int32)))))))
set_option maxHeartbeats 4000000 in
set_option maxRecDepth 100000 in
theorem w_X8_box_b30 {p : Program} {l : Launch} {e : Env} {s : State} {m : MethodId} {args : Array Value} {below : List Frame} {meth : Method} {c : Code} {G : xG} {rr : Int32} (E : xE p s m args meth c cX8_box 9 (some .int) RX8 G) (M : xMem) (L : xLL) : f_X8_box_b30  = some rr → ∀ (ls : Array Slot), lv_has ls 9 [] → ∀ (H : Heap) (locs : List Loc), xI G M L s.heap H locs → W p l e (xR 3) s m args below meth c H locs 0 0 (MQ below (xQi G rr M L s.heap.size) args s 0 0 (xZ G s.heap.size)) (F0 m 30 ls []) := by
  have hx := E.1
  have hb := E.2.1
  intro  hf ls hl H locs hI
  rw [f_X8_box_b30] at hf
  refine lv_iconst (v := -1) hx hb dX8_box_30 (by decide) ?_
  obtain rfl := xinj1 hf
  exact x_iret E hI rfl dX8_box_31
set_option maxHeartbeats 4000000 in
set_option maxRecDepth 100000 in
theorem w_X8_box_b139 {p : Program} {l : Launch} {e : Env} {s : State} {m : MethodId} {args : Array Value} {below : List Frame} {meth : Method} {c : Code} {G : xG} {rr : Int32} (E : xE p s m args meth c cX8_box 9 (some .int) RX8 G) (M : xMem) (L : xLL) : ∀ (t139_0 : Int32), f_X8_box_b139 t139_0 = some rr → ∀ (ls : Array Slot), lv_has ls 9 [] → ∀ (H : Heap) (locs : List Loc), xI G M L s.heap H locs → W p l e (xR 3) s m args below meth c H locs 0 0 (MQ below (xQi G rr M L s.heap.size) args s 0 0 (xZ G s.heap.size)) (F0 m 139 ls [.int t139_0]) := by
  have hx := E.1
  have hb := E.2.1
  intro t139_0 hf ls hl H locs hI
  rw [f_X8_box_b139] at hf
  obtain rfl := xinj1 hf
  exact x_iret E hI rfl dX8_box_139
set_option maxHeartbeats 4000000 in
set_option maxRecDepth 100000 in
theorem w_X8_box_b130 {p : Program} {l : Launch} {e : Env} {s : State} {m : MethodId} {args : Array Value} {below : List Frame} {meth : Method} {c : Code} {G : xG} {rr : Int32} (E : xE p s m args meth c cX8_box 9 (some .int) RX8 G) (M : xMem) (L : xLL) (v42_4 : Int32) (k139 : Int32 → Option (Int32)) (hk139 : ∀ (t139_0 : Int32), k139 t139_0 = some rr → ∀ (ls : Array Slot), lv_has ls 9 [] → ∀ (H : Heap) (locs : List Loc), xI G M L s.heap H locs → W p l e (xR 3) s m args below meth c H locs 0 0 (MQ below (xQi G rr M L s.heap.size) args s 0 0 (xZ G s.heap.size)) (F0 m 139 ls [.int t139_0])) : f_X8_box_b130 v42_4 k139  = some rr → ∀ (ls : Array Slot), lv_has ls 9 [(4, .int v42_4)] → ∀ (H : Heap) (locs : List Loc), xI G M L s.heap H locs → W p l e (xR 3) s m args below meth c H locs 0 0 (MQ below (xQi G rr M L s.heap.size) args s 0 0 (xZ G s.heap.size)) (F0 m 130 ls []) := by
  have hx := E.1
  have hb := E.2.1
  intro  hf ls hl H locs hI
  rw [f_X8_box_b130] at hf
  refine lv_iload hx hb dX8_box_130 (lv_at hl 0 rfl) ?_
  refine lv_goto (tgt := 139) hx hb dX8_box_132 (by decide) ?_
  exact hk139 v42_4 hf _ (lv_sub hl [] rfl) _ _ hI
set_option maxHeartbeats 4000000 in
set_option maxRecDepth 100000 in
theorem w_X8_box_b113 {p : Program} {l : Launch} {e : Env} {s : State} {m : MethodId} {args : Array Value} {below : List Frame} {meth : Method} {c : Code} {G : xG} {rr : Int32} (E : xE p s m args meth c cX8_box 9 (some .int) RX8 G) (a1 : Int32) (a2 : Int32) (a3 : Int32) (M : xMem) (L : xLL) (v42_4 : Int32) (v42_5 : Int32) (v42_6 : Int32) (t99_0 : Int32) (k42 : Int32 → Int32 → Int32 → Option (Int32)) (hk42 : ∀ (v42_4 : Int32) (v42_5 : Int32) (v42_6 : Int32), k42 v42_4 v42_5 v42_6 = some rr → ∀ (ls : Array Slot), lv_has ls 9 [(0, .ref (xq G 8 0)), (1, .int a1), (2, .int a2), (3, .int a3), (4, .int v42_4), (5, .int v42_5), (6, .int v42_6)] → ∀ (H : Heap) (locs : List Loc), xI G M L s.heap H locs → W p l e (xR 3) s m args below meth c H locs 0 0 (MQ below (xQi G rr M L s.heap.size) args s 0 0 (xZ G s.heap.size)) (F0 m 42 ls [])) : ∀ (t113_0 : Int32), f_X8_box_b113 v42_6 t99_0 k42 t113_0 = some rr → ∀ (ls : Array Slot), lv_has ls 9 [(0, .ref (xq G 8 0)), (1, .int a1), (2, .int a2), (3, .int a3), (4, .int t99_0), (6, .int v42_6)] → ∀ (H : Heap) (locs : List Loc), xI G M L s.heap H locs → W p l e (xR 3) s m args below meth c H locs 0 0 (MQ below (xQi G rr M L s.heap.size) args s 0 0 (xZ G s.heap.size)) (F0 m 113 ls [.int t113_0]) := by
  have hx := E.1
  have hb := E.2.1
  intro t113_0 hf ls hl H locs hI
  rw [f_X8_box_b113] at hf
  refine lv_istore (lv' := [(5, .int t113_0), (0, .ref (xq G 8 0)), (1, .int a1), (2, .int a2), (3, .int a3), (4, .int t99_0), (6, .int v42_6)]) hx hb dX8_box_113 hl (by decide) rfl (fun ls hl => ?_)
  refine lv_iinc (v := (v42_6 + (1 : Int32))) (lv' := [(6, .int (v42_6 + (1 : Int32))), (5, .int t113_0), (0, .ref (xq G 8 0)), (1, .int a1), (2, .int a2), (3, .int a3), (4, .int t99_0)]) hx hb dX8_box_115 hl (k := 6) rfl rfl (by decide) rfl (fun ls hl => ?_)
  refine lv_goto (tgt := 42) hx hb dX8_box_118 (by decide) ?_
  exact hk42 t99_0 t113_0 (v42_6 + (1 : Int32)) hf _ (lv_sub hl [2, 3, 4, 5, 6, 1, 0] rfl) _ _ hI
set_option maxHeartbeats 4000000 in
set_option maxRecDepth 100000 in
theorem w_X8_box_b99 {p : Program} {l : Launch} {e : Env} {s : State} {m : MethodId} {args : Array Value} {below : List Frame} {meth : Method} {c : Code} {G : xG} {rr : Int32} (E : xE p s m args meth c cX8_box 9 (some .int) RX8 G) (a1 : Int32) (a2 : Int32) (a3 : Int32) (M : xMem) (L : xLL) (v42_4 : Int32) (v42_5 : Int32) (v42_6 : Int32) (r58 : Int32) (t85_0 : Int32) (k42 : Int32 → Int32 → Int32 → Option (Int32)) (hk42 : ∀ (v42_4 : Int32) (v42_5 : Int32) (v42_6 : Int32), k42 v42_4 v42_5 v42_6 = some rr → ∀ (ls : Array Slot), lv_has ls 9 [(0, .ref (xq G 8 0)), (1, .int a1), (2, .int a2), (3, .int a3), (4, .int v42_4), (5, .int v42_5), (6, .int v42_6)] → ∀ (H : Heap) (locs : List Loc), xI G M L s.heap H locs → W p l e (xR 3) s m args below meth c H locs 0 0 (MQ below (xQi G rr M L s.heap.size) args s 0 0 (xZ G s.heap.size)) (F0 m 42 ls [])) : ∀ (t99_0 : Int32), f_X8_box_b99 v42_5 v42_6 r58 t85_0 k42 t99_0 = some rr → ∀ (ls : Array Slot), lv_has ls 9 [(0, .ref (xq G 8 0)), (1, .int a1), (2, .int a2), (3, .int a3), (5, .int v42_5), (6, .int v42_6), (7, .int r58), (8, .int t85_0)] → ∀ (H : Heap) (locs : List Loc), xI G M L s.heap H locs → W p l e (xR 3) s m args below meth c H locs 0 0 (MQ below (xQi G rr M L s.heap.size) args s 0 0 (xZ G s.heap.size)) (F0 m 99 ls [.int t99_0]) := by
  have hx := E.1
  have hb := E.2.1
  intro t99_0 hf ls hl H locs hI
  rw [f_X8_box_b99] at hf
  refine lv_istore (lv' := [(4, .int t99_0), (0, .ref (xq G 8 0)), (1, .int a1), (2, .int a2), (3, .int a3), (5, .int v42_5), (6, .int v42_6), (7, .int r58), (8, .int t85_0)]) hx hb dX8_box_99 hl (by decide) rfl (fun ls hl => ?_)
  refine lv_iload hx hb dX8_box_101 (lv_at hl 8 rfl) ?_
  refine lv_if_eq (tgt := 111) hx hb dX8_box_103 (by decide) (fun c103 => ?_) (fun c103 => ?_)
  · replace hf := xif_t c103 hf
    refine lv_iload hx hb dX8_box_111 (lv_at hl 5 rfl) ?_
    exact (w_X8_box_b113 E (a1 := a1) (a2 := a2) (a3 := a3) (M := M) (L := L) (v42_4 := v42_4) (v42_5 := v42_5) (v42_6 := v42_6) (t99_0 := t99_0) (k42 := k42) (hk42 := hk42)) v42_5 hf _ (lv_sub hl [1, 2, 3, 4, 0, 6] rfl) _ _ hI
  · replace hf := xif_f c103 hf
    refine lv_iload hx hb dX8_box_106 (lv_at hl 7 rfl) ?_
    refine lv_goto (tgt := 113) hx hb dX8_box_108 (by decide) ?_
    exact (w_X8_box_b113 E (a1 := a1) (a2 := a2) (a3 := a3) (M := M) (L := L) (v42_4 := v42_4) (v42_5 := v42_5) (v42_6 := v42_6) (t99_0 := t99_0) (k42 := k42) (hk42 := hk42)) r58 hf _ (lv_sub hl [1, 2, 3, 4, 0, 6] rfl) _ _ hI
set_option maxHeartbeats 4000000 in
set_option maxRecDepth 100000 in
theorem w_X8_box_b85 {p : Program} {l : Launch} {e : Env} {s : State} {m : MethodId} {args : Array Value} {below : List Frame} {meth : Method} {c : Code} {G : xG} {rr : Int32} (E : xE p s m args meth c cX8_box 9 (some .int) RX8 G) (a1 : Int32) (a2 : Int32) (a3 : Int32) (M : xMem) (L : xLL) (v42_4 : Int32) (v42_5 : Int32) (v42_6 : Int32) (r58 : Int32) (k42 : Int32 → Int32 → Int32 → Option (Int32)) (hk42 : ∀ (v42_4 : Int32) (v42_5 : Int32) (v42_6 : Int32), k42 v42_4 v42_5 v42_6 = some rr → ∀ (ls : Array Slot), lv_has ls 9 [(0, .ref (xq G 8 0)), (1, .int a1), (2, .int a2), (3, .int a3), (4, .int v42_4), (5, .int v42_5), (6, .int v42_6)] → ∀ (H : Heap) (locs : List Loc), xI G M L s.heap H locs → W p l e (xR 3) s m args below meth c H locs 0 0 (MQ below (xQi G rr M L s.heap.size) args s 0 0 (xZ G s.heap.size)) (F0 m 42 ls [])) : ∀ (t85_0 : Int32), f_X8_box_b85 v42_4 v42_5 v42_6 r58 k42 t85_0 = some rr → ∀ (ls : Array Slot), lv_has ls 9 [(0, .ref (xq G 8 0)), (1, .int a1), (2, .int a2), (3, .int a3), (4, .int v42_4), (5, .int v42_5), (6, .int v42_6), (7, .int r58)] → ∀ (H : Heap) (locs : List Loc), xI G M L s.heap H locs → W p l e (xR 3) s m args below meth c H locs 0 0 (MQ below (xQi G rr M L s.heap.size) args s 0 0 (xZ G s.heap.size)) (F0 m 85 ls [.int t85_0]) := by
  have hx := E.1
  have hb := E.2.1
  intro t85_0 hf ls hl H locs hI
  rw [f_X8_box_b85] at hf
  refine lv_istore (lv' := [(8, .int t85_0), (0, .ref (xq G 8 0)), (1, .int a1), (2, .int a2), (3, .int a3), (4, .int v42_4), (5, .int v42_5), (6, .int v42_6), (7, .int r58)]) hx hb dX8_box_85 hl (by decide) rfl (fun ls hl => ?_)
  refine lv_iload hx hb dX8_box_87 (lv_at hl 0 rfl) ?_
  refine lv_if_eq (tgt := 97) hx hb dX8_box_89 (by decide) (fun c89 => ?_) (fun c89 => ?_)
  · replace hf := xif_t c89 hf
    refine lv_iload hx hb dX8_box_97 (lv_at hl 5 rfl) ?_
    exact (w_X8_box_b99 E (a1 := a1) (a2 := a2) (a3 := a3) (M := M) (L := L) (v42_4 := v42_4) (v42_5 := v42_5) (v42_6 := v42_6) (r58 := r58) (t85_0 := t85_0) (k42 := k42) (hk42 := hk42)) v42_4 hf _ (lv_sub hl [1, 2, 3, 4, 6, 7, 8, 0] rfl) _ _ hI
  · replace hf := xif_f c89 hf
    refine lv_iload hx hb dX8_box_92 (lv_at hl 7 rfl) ?_
    refine lv_goto (tgt := 99) hx hb dX8_box_94 (by decide) ?_
    exact (w_X8_box_b99 E (a1 := a1) (a2 := a2) (a3 := a3) (M := M) (L := L) (v42_4 := v42_4) (v42_5 := v42_5) (v42_6 := v42_6) (r58 := r58) (t85_0 := t85_0) (k42 := k42) (hk42 := hk42)) v42_6 hf _ (lv_sub hl [1, 2, 3, 4, 6, 7, 8, 0] rfl) _ _ hI
set_option maxHeartbeats 4000000 in
set_option maxRecDepth 100000 in
theorem w_X8_box_b84 {p : Program} {l : Launch} {e : Env} {s : State} {m : MethodId} {args : Array Value} {below : List Frame} {meth : Method} {c : Code} {G : xG} {rr : Int32} (E : xE p s m args meth c cX8_box 9 (some .int) RX8 G) (a1 : Int32) (a2 : Int32) (a3 : Int32) (M : xMem) (L : xLL) (v42_4 : Int32) (v42_5 : Int32) (v42_6 : Int32) (r58 : Int32) (k85 : Int32 → Option (Int32)) (hk85 : ∀ (t85_0 : Int32), k85 t85_0 = some rr → ∀ (ls : Array Slot), lv_has ls 9 [(0, .ref (xq G 8 0)), (1, .int a1), (2, .int a2), (3, .int a3), (4, .int v42_4), (5, .int v42_5), (6, .int v42_6), (7, .int r58)] → ∀ (H : Heap) (locs : List Loc), xI G M L s.heap H locs → W p l e (xR 3) s m args below meth c H locs 0 0 (MQ below (xQi G rr M L s.heap.size) args s 0 0 (xZ G s.heap.size)) (F0 m 85 ls [.int t85_0])) : f_X8_box_b84 k85  = some rr → ∀ (ls : Array Slot), lv_has ls 9 [(0, .ref (xq G 8 0)), (1, .int a1), (2, .int a2), (3, .int a3), (4, .int v42_4), (5, .int v42_5), (6, .int v42_6), (7, .int r58)] → ∀ (H : Heap) (locs : List Loc), xI G M L s.heap H locs → W p l e (xR 3) s m args below meth c H locs 0 0 (MQ below (xQi G rr M L s.heap.size) args s 0 0 (xZ G s.heap.size)) (F0 m 84 ls []) := by
  have hx := E.1
  have hb := E.2.1
  intro  hf ls hl H locs hI
  rw [f_X8_box_b84] at hf
  refine lv_iconst (v := 0) hx hb dX8_box_84 (by decide) ?_
  exact hk85 (0 : Int32) hf _ (lv_sub hl [0, 1, 2, 3, 4, 5, 6, 7] rfl) _ _ hI
set_option maxHeartbeats 4000000 in
set_option maxRecDepth 100000 in
theorem w_X8_box_b80 {p : Program} {l : Launch} {e : Env} {s : State} {m : MethodId} {args : Array Value} {below : List Frame} {meth : Method} {c : Code} {G : xG} {rr : Int32} (E : xE p s m args meth c cX8_box 9 (some .int) RX8 G) (a1 : Int32) (a2 : Int32) (a3 : Int32) (M : xMem) (L : xLL) (v42_4 : Int32) (v42_5 : Int32) (v42_6 : Int32) (r58 : Int32) (k85 : Int32 → Option (Int32)) (hk85 : ∀ (t85_0 : Int32), k85 t85_0 = some rr → ∀ (ls : Array Slot), lv_has ls 9 [(0, .ref (xq G 8 0)), (1, .int a1), (2, .int a2), (3, .int a3), (4, .int v42_4), (5, .int v42_5), (6, .int v42_6), (7, .int r58)] → ∀ (H : Heap) (locs : List Loc), xI G M L s.heap H locs → W p l e (xR 3) s m args below meth c H locs 0 0 (MQ below (xQi G rr M L s.heap.size) args s 0 0 (xZ G s.heap.size)) (F0 m 85 ls [.int t85_0])) : f_X8_box_b80 k85  = some rr → ∀ (ls : Array Slot), lv_has ls 9 [(0, .ref (xq G 8 0)), (1, .int a1), (2, .int a2), (3, .int a3), (4, .int v42_4), (5, .int v42_5), (6, .int v42_6), (7, .int r58)] → ∀ (H : Heap) (locs : List Loc), xI G M L s.heap H locs → W p l e (xR 3) s m args below meth c H locs 0 0 (MQ below (xQi G rr M L s.heap.size) args s 0 0 (xZ G s.heap.size)) (F0 m 80 ls []) := by
  have hx := E.1
  have hb := E.2.1
  intro  hf ls hl H locs hI
  rw [f_X8_box_b80] at hf
  refine lv_iconst (v := 1) hx hb dX8_box_80 (by decide) ?_
  refine lv_goto (tgt := 85) hx hb dX8_box_81 (by decide) ?_
  exact hk85 (1 : Int32) hf _ (lv_sub hl [0, 1, 2, 3, 4, 5, 6, 7] rfl) _ _ hI
set_option maxHeartbeats 4000000 in
set_option maxRecDepth 100000 in
theorem w_X8_box_l42 {p : Program} {l : Launch} {e : Env} {s : State} {m : MethodId} {args : Array Value} {below : List Frame} {meth : Method} {c : Code} {G : xG} {rr : Int32} (E : xE p s m args meth c cX8_box 9 (some .int) RX8 G) (a1 : Int32) (a2 : Int32) (a3 : Int32) (M : xMem) (L : xLL) : ∀ (n : Nat), ∀ (v42_4 : Int32) (v42_5 : Int32) (v42_6 : Int32), f_X8_box_l42 a1 a2 a3 M n v42_4 v42_5 v42_6 = some rr → ∀ (ls : Array Slot), lv_has ls 9 [(0, .ref (xq G 8 0)), (1, .int a1), (2, .int a2), (3, .int a3), (4, .int v42_4), (5, .int v42_5), (6, .int v42_6)] → ∀ (H : Heap) (locs : List Loc), xI G M L s.heap H locs → W p l e (xR 3) s m args below meth c H locs 0 0 (MQ below (xQi G rr M L s.heap.size) args s 0 0 (xZ G s.heap.size)) (F0 m 42 ls []) := by
  have hx := E.1
  have hb := E.2.1
  intro n
  induction n with
  | zero =>
    intro v42_4 v42_5 v42_6 hf
    exact absurd hf (by simp [f_X8_box_l42])
  | succ n ih =>
    intro v42_4 v42_5 v42_6 hf ls hl H locs hI
    rw [f_X8_box_l42] at hf
    refine lv_iload hx hb dX8_box_42 (lv_at hl 6 rfl) ?_
    refine lv_iconst (v := 1) hx hb dX8_box_44 (by decide) ?_
    refine lv_aload_n hx hb dX8_box_45 rfl (lv_at hl 0 rfl) ?_
    refine gf_X8_70 E hI dX8_box_46 ?_
    refine lv_ishl hx hb dX8_box_49 ?_
    refine lv_icmp_ge (tgt := 121) hx hb dX8_box_50 (by decide) (fun c50 => ?_) (fun c50 => ?_)
    · replace hf := xif_t c50 hf
      refine lv_iload hx hb dX8_box_121 (lv_at hl 4 rfl) ?_
      refine lv_if_lt (tgt := 130) hx hb dX8_box_123 (by decide) (fun c123 => ?_) (fun c123 => ?_)
      · replace hf := xif_t c123 hf
        exact (w_X8_box_b130 E (M := M) (L := L) (v42_4 := v42_4) (k139 := (f_X8_box_b139)) (hk139 := (w_X8_box_b139 E (M := M) (L := L))))  hf _ (lv_sub hl [4] rfl) _ _ hI
      · replace hf := xif_f c123 hf
        refine lv_iload_n hx hb dX8_box_126 rfl (lv_at hl 3 rfl) ?_
        refine lv_if_ne (tgt := 135) hx hb dX8_box_127 (by decide) (fun c127 => ?_) (fun c127 => ?_)
        · replace hf := xif_f c127 hf
          refine lv_iload hx hb dX8_box_135 (lv_at hl 5 rfl) ?_
          refine lv_iload_n hx hb dX8_box_137 rfl (lv_at hl 2 rfl) ?_
          refine lv_isub hx hb dX8_box_138 ?_
          exact (w_X8_box_b139 E (M := M) (L := L)) (v42_5 - a2) hf _ (lv_sub hl [] rfl) _ _ hI
        · replace hf := xif_t c127 hf
          exact (w_X8_box_b130 E (M := M) (L := L) (v42_4 := v42_4) (k139 := (f_X8_box_b139)) (hk139 := (w_X8_box_b139 E (M := M) (L := L))))  hf _ (lv_sub hl [4] rfl) _ _ hI
    · replace hf := xif_f c50 hf
      refine lv_aload_n hx hb dX8_box_53 rfl (lv_at hl 0 rfl) ?_
      refine lv_iload hx hb dX8_box_54 (lv_at hl 6 rfl) ?_
      refine lv_iload_n hx hb dX8_box_56 rfl (lv_at hl 1 rfl) ?_
      refine lv_iload_n hx hb dX8_box_57 rfl (lv_at hl 2 rfl) ?_
      obtain ⟨r58, g58, hf⟩ := xb1_s hf
      refine x_callVi (As := [.int v42_6, .int a1, .int a2]) (rest := []) E hI mx_8_0 rfl rfl rfl (c_X8_boxed l G _ (M := M) (L := L) (a1 := v42_6) (a2 := a1) (a3 := a2) g58) yv_X8_boxed ml_X8_198 (by decide) (by decide) rfl rfl hl.1 (Nat.le_of_ble_eq_true rfl) dX8_box_58 (fun H locs hI => ?_)
      refine lv_istore (lv' := [(7, .int r58), (0, .ref (xq G 8 0)), (1, .int a1), (2, .int a2), (3, .int a3), (4, .int v42_4), (5, .int v42_5), (6, .int v42_6)]) hx hb dX8_box_61 hl (by decide) rfl (fun ls hl => ?_)
      refine lv_iload hx hb dX8_box_63 (lv_at hl 0 rfl) ?_
      refine lv_if_lt (tgt := 84) hx hb dX8_box_65 (by decide) (fun c65 => ?_) (fun c65 => ?_)
      · replace hf := xif_t c65 hf
        exact (w_X8_box_b84 E (a1 := a1) (a2 := a2) (a3 := a3) (M := M) (L := L) (v42_4 := v42_4) (v42_5 := v42_5) (v42_6 := v42_6) (r58 := r58) (k85 := (f_X8_box_b85 v42_4 v42_5 v42_6 r58 (f_X8_box_l42 a1 a2 a3 M n))) (hk85 := (w_X8_box_b85 E (a1 := a1) (a2 := a2) (a3 := a3) (M := M) (L := L) (v42_4 := v42_4) (v42_5 := v42_5) (v42_6 := v42_6) (r58 := r58) (k42 := (f_X8_box_l42 a1 a2 a3 M n)) (hk42 := ih))))  hf _ (lv_sub hl [1, 2, 3, 4, 5, 6, 7, 0] rfl) _ _ hI
      · replace hf := xif_f c65 hf
        refine lv_iload hx hb dX8_box_68 (lv_at hl 5 rfl) ?_
        refine lv_if_lt (tgt := 80) hx hb dX8_box_70 (by decide) (fun c70 => ?_) (fun c70 => ?_)
        · replace hf := xif_t c70 hf
          exact (w_X8_box_b80 E (a1 := a1) (a2 := a2) (a3 := a3) (M := M) (L := L) (v42_4 := v42_4) (v42_5 := v42_5) (v42_6 := v42_6) (r58 := r58) (k85 := (f_X8_box_b85 v42_4 v42_5 v42_6 r58 (f_X8_box_l42 a1 a2 a3 M n))) (hk85 := (w_X8_box_b85 E (a1 := a1) (a2 := a2) (a3 := a3) (M := M) (L := L) (v42_4 := v42_4) (v42_5 := v42_5) (v42_6 := v42_6) (r58 := r58) (k42 := (f_X8_box_l42 a1 a2 a3 M n)) (hk42 := ih))))  hf _ (lv_sub hl [1, 2, 3, 4, 5, 6, 7, 0] rfl) _ _ hI
        · replace hf := xif_f c70 hf
          refine lv_iload hx hb dX8_box_73 (lv_at hl 0 rfl) ?_
          refine lv_iload hx hb dX8_box_75 (lv_at hl 6 rfl) ?_
          refine lv_icmp_ge (tgt := 84) hx hb dX8_box_77 (by decide) (fun c77 => ?_) (fun c77 => ?_)
          · replace hf := xif_t c77 hf
            exact (w_X8_box_b84 E (a1 := a1) (a2 := a2) (a3 := a3) (M := M) (L := L) (v42_4 := v42_4) (v42_5 := v42_5) (v42_6 := v42_6) (r58 := r58) (k85 := (f_X8_box_b85 v42_4 v42_5 v42_6 r58 (f_X8_box_l42 a1 a2 a3 M n))) (hk85 := (w_X8_box_b85 E (a1 := a1) (a2 := a2) (a3 := a3) (M := M) (L := L) (v42_4 := v42_4) (v42_5 := v42_5) (v42_6 := v42_6) (r58 := r58) (k42 := (f_X8_box_l42 a1 a2 a3 M n)) (hk42 := ih))))  hf _ (lv_sub hl [1, 2, 3, 4, 5, 6, 7, 0] rfl) _ _ hI
          · replace hf := xif_f c77 hf
            exact (w_X8_box_b80 E (a1 := a1) (a2 := a2) (a3 := a3) (M := M) (L := L) (v42_4 := v42_4) (v42_5 := v42_5) (v42_6 := v42_6) (r58 := r58) (k85 := (f_X8_box_b85 v42_4 v42_5 v42_6 r58 (f_X8_box_l42 a1 a2 a3 M n))) (hk85 := (w_X8_box_b85 E (a1 := a1) (a2 := a2) (a3 := a3) (M := M) (L := L) (v42_4 := v42_4) (v42_5 := v42_5) (v42_6 := v42_6) (r58 := r58) (k42 := (f_X8_box_l42 a1 a2 a3 M n)) (hk42 := ih))))  hf _ (lv_sub hl [1, 2, 3, 4, 5, 6, 7, 0] rfl) _ _ hI
set_option maxHeartbeats 4000000 in
set_option maxRecDepth 100000 in
theorem c_X8_box (l : Launch) (G : xG) (sz : Nat) (M : xMem) (L : xLL) (a1 : Int32) (a2 : Int32) (a3 : Int32) {rr : Int32} (hf : f_X8_box a1 a2 a3 M = some rr) : Met l yX8_box (Cond.code yX8_box cX8_box 9 (some .int) :: xTB) (xR 3) (xP G M L sz [.ref (xq G 8 0), .int a1, .int a2, .int a3]) (xQi G rr M L sz) 0 0 (xZ G sz) := by
  refine x_met (cc := cX8_box) (nL := 9) (rt := (some .int)) (by decide) (Nat.le_of_ble_eq_true rfl) ?_
  intro p e s m below meth c ls hsz E hl hI
  subst hsz
  have E : xE p s m _ meth c cX8_box 9 (some .int) RX8 G := E
  have hx := E.1
  have hb := E.2.1
  have hl : lv_has ls 9 [(0, .ref (xq G 8 0)), (1, .int a1), (2, .int a2), (3, .int a3)] := hl
  rw [f_X8_box] at hf
  refine lv_iload_n hx hb dX8_box_0 rfl (lv_at hl 1 rfl) ?_
  refine lv_iconst (v := 1) hx hb dX8_box_1 (by decide) ?_
  refine lv_bipush (v := 6) hx hb dX8_box_2 (by decide) ?_
  obtain ⟨r4, g4, hf⟩ := xb1_s hf
  refine x_callSi (As := [.int a1, .int (1 : Int32), .int (6 : Int32)]) (rest := []) E hI (c_X8_in l G _ (M := M) (L := L) (a0 := a1) (a1 := (1 : Int32)) (a2 := (6 : Int32)) g4) ys_X8_in ml_X8_66 (by decide) (by decide) rfl rfl hl.1 (Nat.le_of_ble_eq_true rfl) dX8_box_4 (fun H locs hI => ?_)
  refine lv_if_eq (tgt := 30) hx hb dX8_box_7 (by decide) (fun c7 => ?_) (fun c7 => ?_)
  · replace hf := xif_t c7 hf
    exact (w_X8_box_b30 E (M := M) (L := L))  hf _ (lv_sub hl [] rfl) _ _ hI
  · replace hf := xif_f c7 hf
    refine lv_iload_n hx hb dX8_box_10 rfl (lv_at hl 2 rfl) ?_
    refine lv_iconst (v := 0) hx hb dX8_box_11 (by decide) ?_
    refine lv_sipush (v := 600) hx hb dX8_box_12 (by decide) ?_
    obtain ⟨r15, g15, hf⟩ := xb1_s hf
    refine x_callSi (As := [.int a2, .int (0 : Int32), .int (600 : Int32)]) (rest := []) E hI (c_X8_in l G _ (M := M) (L := L) (a0 := a2) (a1 := (0 : Int32)) (a2 := (600 : Int32)) g15) ys_X8_in ml_X8_66 (by decide) (by decide) rfl rfl hl.1 (Nat.le_of_ble_eq_true rfl) dX8_box_15 (fun H locs hI => ?_)
    refine lv_if_eq (tgt := 30) hx hb dX8_box_18 (by decide) (fun c18 => ?_) (fun c18 => ?_)
    · replace hf := xif_t c18 hf
      exact (w_X8_box_b30 E (M := M) (L := L))  hf _ (lv_sub hl [] rfl) _ _ hI
    · replace hf := xif_f c18 hf
      refine lv_iload_n hx hb dX8_box_21 rfl (lv_at hl 3 rfl) ?_
      refine lv_iconst (v := 0) hx hb dX8_box_22 (by decide) ?_
      refine lv_iconst (v := 1) hx hb dX8_box_23 (by decide) ?_
      obtain ⟨r24, g24, hf⟩ := xb1_s hf
      refine x_callSi (As := [.int a3, .int (0 : Int32), .int (1 : Int32)]) (rest := []) E hI (c_X8_in l G _ (M := M) (L := L) (a0 := a3) (a1 := (0 : Int32)) (a2 := (1 : Int32)) g24) ys_X8_in ml_X8_66 (by decide) (by decide) rfl rfl hl.1 (Nat.le_of_ble_eq_true rfl) dX8_box_24 (fun H locs hI => ?_)
      refine lv_if_ne (tgt := 32) hx hb dX8_box_27 (by decide) (fun c27 => ?_) (fun c27 => ?_)
      · replace hf := xif_f c27 hf
        refine lv_bipush (v := -9) hx hb dX8_box_32 (by decide) ?_
        refine lv_istore (lv' := [(4, .int (-9 : Int32)), (0, .ref (xq G 8 0)), (1, .int a1), (2, .int a2), (3, .int a3)]) hx hb dX8_box_34 hl (by decide) rfl (fun ls hl => ?_)
        refine lv_iconst (v := 0) hx hb dX8_box_36 (by decide) ?_
        refine lv_istore (lv' := [(5, .int (0 : Int32)), (4, .int (-9 : Int32)), (0, .ref (xq G 8 0)), (1, .int a1), (2, .int a2), (3, .int a3)]) hx hb dX8_box_37 hl (by decide) rfl (fun ls hl => ?_)
        refine lv_iconst (v := 0) hx hb dX8_box_39 (by decide) ?_
        refine lv_istore (lv' := [(6, .int (0 : Int32)), (5, .int (0 : Int32)), (4, .int (-9 : Int32)), (0, .ref (xq G 8 0)), (1, .int a1), (2, .int a2), (3, .int a3)]) hx hb dX8_box_40 hl (by decide) rfl (fun ls hl => ?_)
        exact (w_X8_box_l42 E (a1 := a1) (a2 := a2) (a3 := a3) (M := M) (L := L) FU) (-9 : Int32) (0 : Int32) (0 : Int32) hf _ (lv_sub hl [3, 4, 5, 6, 2, 1, 0] rfl) _ _ hI
      · replace hf := xif_t c27 hf
        exact (w_X8_box_b30 E (M := M) (L := L))  hf _ (lv_sub hl [] rfl) _ _ hI
theorem dX8_boxes_0 : decode cX8_boxes 0 = .ok (.iload_n 1, 1) := by decide +kernel
theorem dX8_boxes_1 : decode cX8_boxes 1 = .ok (.iconst 1, 1) := by decide +kernel
theorem dX8_boxes_2 : decode cX8_boxes 2 = .ok (.bipush 6, 2) := by decide +kernel
theorem dX8_boxes_4 : decode cX8_boxes 4 = .ok (.invokestatic 66, 3) := by decide +kernel
theorem dX8_boxes_7 : decode cX8_boxes 7 = .ok (.ifCond .eq 14, 3) := by decide +kernel
theorem dX8_boxes_10 : decode cX8_boxes 10 = .ok (.iload_n 2, 1) := by decide +kernel
theorem dX8_boxes_11 : decode cX8_boxes 11 = .ok (.iconst 0, 1) := by decide +kernel
theorem dX8_boxes_12 : decode cX8_boxes 12 = .ok (.sipush 600, 3) := by decide +kernel
theorem dX8_boxes_15 : decode cX8_boxes 15 = .ok (.invokestatic 66, 3) := by decide +kernel
theorem dX8_boxes_18 : decode cX8_boxes 18 = .ok (.ifCond .ne 5, 3) := by decide +kernel
theorem dX8_boxes_21 : decode cX8_boxes 21 = .ok (.iconst (-1), 1) := by decide +kernel
theorem dX8_boxes_22 : decode cX8_boxes 22 = .ok (.ireturn, 1) := by decide +kernel
theorem dX8_boxes_23 : decode cX8_boxes 23 = .ok (.iconst 1, 1) := by decide +kernel
theorem dX8_boxes_24 : decode cX8_boxes 24 = .ok (.aload_n 0, 1) := by decide +kernel
theorem dX8_boxes_25 : decode cX8_boxes 25 = .ok (.getfield 70, 3) := by decide +kernel
theorem dX8_boxes_28 : decode cX8_boxes 28 = .ok (.ishl, 1) := by decide +kernel
theorem dX8_boxes_29 : decode cX8_boxes 29 = .ok (.istore_n 3, 1) := by decide +kernel
theorem dX8_boxes_30 : decode cX8_boxes 30 = .ok (.iconst 0, 1) := by decide +kernel
theorem dX8_boxes_31 : decode cX8_boxes 31 = .ok (.istore 4, 2) := by decide +kernel
theorem dX8_boxes_33 : decode cX8_boxes 33 = .ok (.iload 4, 2) := by decide +kernel
theorem dX8_boxes_35 : decode cX8_boxes 35 = .ok (.iload_n 3, 1) := by decide +kernel
theorem dX8_boxes_36 : decode cX8_boxes 36 = .ok (.if_icmp .ge 112, 3) := by decide +kernel
theorem dX8_boxes_39 : decode cX8_boxes 39 = .ok (.aload_n 0, 1) := by decide +kernel
theorem dX8_boxes_40 : decode cX8_boxes 40 = .ok (.getfield 56, 3) := by decide +kernel
theorem dX8_boxes_43 : decode cX8_boxes 43 = .ok (.iload 4, 2) := by decide +kernel
theorem dX8_boxes_45 : decode cX8_boxes 45 = .ok (.iconst 0, 1) := by decide +kernel
theorem dX8_boxes_46 : decode cX8_boxes 46 = .ok (.iastore, 1) := by decide +kernel
theorem dX8_boxes_47 : decode cX8_boxes 47 = .ok (.iload 4, 2) := by decide +kernel
theorem dX8_boxes_49 : decode cX8_boxes 49 = .ok (.istore 5, 2) := by decide +kernel
theorem dX8_boxes_51 : decode cX8_boxes 51 = .ok (.iload 5, 2) := by decide +kernel
theorem dX8_boxes_53 : decode cX8_boxes 53 = .ok (.ifCond .le 89, 3) := by decide +kernel
theorem dX8_boxes_56 : decode cX8_boxes 56 = .ok (.aload_n 0, 1) := by decide +kernel
theorem dX8_boxes_57 : decode cX8_boxes 57 = .ok (.iload 5, 2) := by decide +kernel
theorem dX8_boxes_59 : decode cX8_boxes 59 = .ok (.iload_n 1, 1) := by decide +kernel
theorem dX8_boxes_60 : decode cX8_boxes 60 = .ok (.iload_n 2, 1) := by decide +kernel
theorem dX8_boxes_61 : decode cX8_boxes 61 = .ok (.invokevirtual 198, 3) := by decide +kernel
theorem dX8_boxes_64 : decode cX8_boxes 64 = .ok (.ifCond .lt 29, 3) := by decide +kernel
theorem dX8_boxes_67 : decode cX8_boxes 67 = .ok (.aload_n 0, 1) := by decide +kernel
theorem dX8_boxes_68 : decode cX8_boxes 68 = .ok (.getfield 56, 3) := by decide +kernel
theorem dX8_boxes_71 : decode cX8_boxes 71 = .ok (.iload 4, 2) := by decide +kernel
theorem dX8_boxes_73 : decode cX8_boxes 73 = .ok (.iload 5, 2) := by decide +kernel
theorem dX8_boxes_75 : decode cX8_boxes 75 = .ok (.isub, 1) := by decide +kernel
theorem dX8_boxes_76 : decode cX8_boxes 76 = .ok (.iaload, 1) := by decide +kernel
theorem dX8_boxes_77 : decode cX8_boxes 77 = .ok (.iconst 1, 1) := by decide +kernel
theorem dX8_boxes_78 : decode cX8_boxes 78 = .ok (.iadd, 1) := by decide +kernel
theorem dX8_boxes_79 : decode cX8_boxes 79 = .ok (.aload_n 0, 1) := by decide +kernel
theorem dX8_boxes_80 : decode cX8_boxes 80 = .ok (.getfield 56, 3) := by decide +kernel
theorem dX8_boxes_83 : decode cX8_boxes 83 = .ok (.iload 4, 2) := by decide +kernel
theorem dX8_boxes_85 : decode cX8_boxes 85 = .ok (.iaload, 1) := by decide +kernel
theorem dX8_boxes_86 : decode cX8_boxes 86 = .ok (.if_icmp .le 7, 3) := by decide +kernel
theorem dX8_boxes_89 : decode cX8_boxes 89 = .ok (.iconst 1, 1) := by decide +kernel
theorem dX8_boxes_90 : decode cX8_boxes 90 = .ok (.goto 4, 3) := by decide +kernel
theorem dX8_boxes_93 : decode cX8_boxes 93 = .ok (.iconst 0, 1) := by decide +kernel
theorem dX8_boxes_94 : decode cX8_boxes 94 = .ok (.istore 6, 2) := by decide +kernel
theorem dX8_boxes_96 : decode cX8_boxes 96 = .ok (.aload_n 0, 1) := by decide +kernel
theorem dX8_boxes_97 : decode cX8_boxes 97 = .ok (.getfield 56, 3) := by decide +kernel
theorem dX8_boxes_100 : decode cX8_boxes 100 = .ok (.iload 4, 2) := by decide +kernel
theorem dX8_boxes_102 : decode cX8_boxes 102 = .ok (.iload 6, 2) := by decide +kernel
theorem dX8_boxes_104 : decode cX8_boxes 104 = .ok (.ifCond .eq 18, 3) := by decide +kernel
theorem dX8_boxes_107 : decode cX8_boxes 107 = .ok (.aload_n 0, 1) := by decide +kernel
theorem dX8_boxes_108 : decode cX8_boxes 108 = .ok (.getfield 56, 3) := by decide +kernel
theorem dX8_boxes_111 : decode cX8_boxes 111 = .ok (.iload 4, 2) := by decide +kernel
theorem dX8_boxes_113 : decode cX8_boxes 113 = .ok (.iload 5, 2) := by decide +kernel
theorem dX8_boxes_115 : decode cX8_boxes 115 = .ok (.isub, 1) := by decide +kernel
theorem dX8_boxes_116 : decode cX8_boxes 116 = .ok (.iaload, 1) := by decide +kernel
theorem dX8_boxes_117 : decode cX8_boxes 117 = .ok (.iconst 1, 1) := by decide +kernel
theorem dX8_boxes_118 : decode cX8_boxes 118 = .ok (.iadd, 1) := by decide +kernel
theorem dX8_boxes_119 : decode cX8_boxes 119 = .ok (.goto 10, 3) := by decide +kernel
theorem dX8_boxes_122 : decode cX8_boxes 122 = .ok (.aload_n 0, 1) := by decide +kernel
theorem dX8_boxes_123 : decode cX8_boxes 123 = .ok (.getfield 56, 3) := by decide +kernel
theorem dX8_boxes_126 : decode cX8_boxes 126 = .ok (.iload 4, 2) := by decide +kernel
theorem dX8_boxes_128 : decode cX8_boxes 128 = .ok (.iaload, 1) := by decide +kernel
theorem dX8_boxes_129 : decode cX8_boxes 129 = .ok (.iastore, 1) := by decide +kernel
theorem dX8_boxes_130 : decode cX8_boxes 130 = .ok (.iload 5, 2) := by decide +kernel
theorem dX8_boxes_132 : decode cX8_boxes 132 = .ok (.iconst 1, 1) := by decide +kernel
theorem dX8_boxes_133 : decode cX8_boxes 133 = .ok (.isub, 1) := by decide +kernel
theorem dX8_boxes_134 : decode cX8_boxes 134 = .ok (.iload 4, 2) := by decide +kernel
theorem dX8_boxes_136 : decode cX8_boxes 136 = .ok (.iand, 1) := by decide +kernel
theorem dX8_boxes_137 : decode cX8_boxes 137 = .ok (.istore 5, 2) := by decide +kernel
theorem dX8_boxes_139 : decode cX8_boxes 139 = .ok (.goto (-88), 3) := by decide +kernel
theorem dX8_boxes_142 : decode cX8_boxes 142 = .ok (.iinc 4 1, 3) := by decide +kernel
theorem dX8_boxes_145 : decode cX8_boxes 145 = .ok (.goto (-112), 3) := by decide +kernel
theorem dX8_boxes_148 : decode cX8_boxes 148 = .ok (.aload_n 0, 1) := by decide +kernel
theorem dX8_boxes_149 : decode cX8_boxes 149 = .ok (.getfield 56, 3) := by decide +kernel
theorem dX8_boxes_152 : decode cX8_boxes 152 = .ok (.iload_n 3, 1) := by decide +kernel
theorem dX8_boxes_153 : decode cX8_boxes 153 = .ok (.iconst 1, 1) := by decide +kernel
theorem dX8_boxes_154 : decode cX8_boxes 154 = .ok (.isub, 1) := by decide +kernel
theorem dX8_boxes_155 : decode cX8_boxes 155 = .ok (.iaload, 1) := by decide +kernel
theorem dX8_boxes_156 : decode cX8_boxes 156 = .ok (.ireturn, 1) := by decide +kernel
def f_X8_boxes_b21 (M : xMem) : Option (Int32 × xMem) := some ((-1 : Int32), M)
def f_X8_boxes_b129 (v33_4 : Int32) (v51_5 : Int32) (M51 : xMem) (k51 : Int32 → xMem → Option (Int32 × xMem)) (t129_0 : Int32) : Option (Int32 × xMem) := xchk (xb v33_4 64) (xlet (xst M51 8 30 v33_4 t129_0) (fun M129 => k51 ((v51_5 - (1 : Int32)) &&& v33_4) M129))
def f_X8_boxes_b94 (v33_4 : Int32) (v51_5 : Int32) (M51 : xMem) (k51 : Int32 → xMem → Option (Int32 × xMem)) (t94_0 : Int32) : Option (Int32 × xMem) := (if t94_0 = (0 : Int32) then xchk (xb v33_4 64) ((f_X8_boxes_b129 v33_4 v51_5 M51 k51) (M51 8 30 v33_4.toNatClampNeg)) else xchk (xb (v33_4 - v51_5) 64) ((f_X8_boxes_b129 v33_4 v51_5 M51 k51) ((M51 8 30 (v33_4 - v51_5).toNatClampNeg) + (1 : Int32))))
def f_X8_boxes_b93 (k94 : Int32 → Option (Int32 × xMem)) : Option (Int32 × xMem) := k94 (0 : Int32)
def f_X8_boxes_l51 (a1 : Int32) (a2 : Int32) (v33_4 : Int32) (k33 : Int32 → xMem → Option (Int32 × xMem)) : Nat → Int32 → xMem → Option (Int32 × xMem)
  | 0, _, _ => none
  | n + 1, v51_5, M51 => (if v51_5 ≤ (0 : Int32) then k33 (v33_4 + (1 : Int32)) M51 else xb1 (f_X8_boxed v51_5 a1 a2 M51) (fun r61 => (if r61 < (0 : Int32) then (f_X8_boxes_b93 (f_X8_boxes_b94 v33_4 v51_5 M51 (f_X8_boxes_l51 a1 a2 v33_4 k33 n))) else xchk (xb (v33_4 - v51_5) 64) (xchk (xb v33_4 64) ((if ((M51 8 30 (v33_4 - v51_5).toNatClampNeg) + (1 : Int32)) ≤ (M51 8 30 v33_4.toNatClampNeg) then (f_X8_boxes_b93 (f_X8_boxes_b94 v33_4 v51_5 M51 (f_X8_boxes_l51 a1 a2 v33_4 k33 n))) else (f_X8_boxes_b94 v33_4 v51_5 M51 (f_X8_boxes_l51 a1 a2 v33_4 k33 n)) (1 : Int32)))))))
def f_X8_boxes_l33 (a1 : Int32) (a2 : Int32) (M : xMem) : Nat → Int32 → xMem → Option (Int32 × xMem)
  | 0, _, _ => none
  | n + 1, v33_4, M33 => (if ((1 : Int32) <<< ((M 8 0 4) &&& 31)) ≤ v33_4 then xchk (xb (((1 : Int32) <<< ((M 8 0 4) &&& 31)) - (1 : Int32)) 64) (some ((M33 8 30 (((1 : Int32) <<< ((M 8 0 4) &&& 31)) - (1 : Int32)).toNatClampNeg), M33)) else xchk (xb v33_4 64) (xlet (xst M33 8 30 v33_4 (0 : Int32)) (fun M46 => (f_X8_boxes_l51 a1 a2 v33_4 (f_X8_boxes_l33 a1 a2 M n) FU) v33_4 M46)))
def f_X8_boxes (a1 : Int32) (a2 : Int32) (M : xMem) : Option (Int32 × xMem) := xb1 (f_X8_in a1 (1 : Int32) (6 : Int32) M) (fun r4 => (if r4 = (0 : Int32) then (f_X8_boxes_b21 M) else xb1 (f_X8_in a2 (0 : Int32) (600 : Int32) M) (fun r15 => (if r15 = (0 : Int32) then (f_X8_boxes_b21 M) else (f_X8_boxes_l33 a1 a2 M FU) (0 : Int32) M))))
set_option maxHeartbeats 4000000 in
set_option maxRecDepth 100000 in
theorem w_X8_boxes_b21 {p : Program} {l : Launch} {e : Env} {s : State} {m : MethodId} {args : Array Value} {below : List Frame} {meth : Method} {c : Code} {G : xG} {rr : Int32} {MM : xMem} (E : xE p s m args meth c cX8_boxes 7 (some .int) RX8 G) (M : xMem) (L : xLL) : f_X8_boxes_b21 M  = some (rr, MM) → ∀ (ls : Array Slot), lv_has ls 7 [] → ∀ (H : Heap) (locs : List Loc), xI G M L s.heap H locs → W p l e (xR 3) s m args below meth c H locs 0 0 (MQ below (xQi G rr MM L s.heap.size) args s 0 0 (xZ G s.heap.size)) (F0 m 21 ls []) := by
  have hx := E.1
  have hb := E.2.1
  intro  hf ls hl H locs hI
  rw [f_X8_boxes_b21] at hf
  refine lv_iconst (v := -1) hx hb dX8_boxes_21 (by decide) ?_
  obtain ⟨rfl, rfl⟩ := xinj2 hf
  exact x_iret E hI rfl dX8_boxes_22
set_option maxHeartbeats 4000000 in
set_option maxRecDepth 100000 in
theorem w_X8_boxes_b129 {p : Program} {l : Launch} {e : Env} {s : State} {m : MethodId} {args : Array Value} {below : List Frame} {meth : Method} {c : Code} {G : xG} {rr : Int32} {MM : xMem} (E : xE p s m args meth c cX8_boxes 7 (some .int) RX8 G) (a1 : Int32) (a2 : Int32) (M : xMem) (L : xLL) (v33_4 : Int32) (v51_5 : Int32) (M51 : xMem) (k51 : Int32 → xMem → Option (Int32 × xMem)) (hk51 : ∀ (v51_5 : Int32) (M51 : xMem), k51 v51_5 M51 = some (rr, MM) → ∀ (ls : Array Slot), lv_has ls 7 [(0, .ref (xq G 8 0)), (1, .int a1), (2, .int a2), (3, .int ((1 : Int32) <<< ((M 8 0 4) &&& 31))), (4, .int v33_4), (5, .int v51_5)] → ∀ (H : Heap) (locs : List Loc), xI G M51 L s.heap H locs → W p l e (xR 3) s m args below meth c H locs 0 0 (MQ below (xQi G rr MM L s.heap.size) args s 0 0 (xZ G s.heap.size)) (F0 m 51 ls [])) : ∀ (t129_0 : Int32), f_X8_boxes_b129 v33_4 v51_5 M51 k51 t129_0 = some (rr, MM) → ∀ (ls : Array Slot), lv_has ls 7 [(0, .ref (xq G 8 0)), (1, .int a1), (2, .int a2), (3, .int ((1 : Int32) <<< ((M 8 0 4) &&& 31))), (4, .int v33_4), (5, .int v51_5)] → ∀ (H : Heap) (locs : List Loc), xI G M51 L s.heap H locs → W p l e (xR 3) s m args below meth c H locs 0 0 (MQ below (xQi G rr MM L s.heap.size) args s 0 0 (xZ G s.heap.size)) (F0 m 129 ls [.int t129_0, .int v33_4, .ref (xq G 8 30)]) := by
  have hx := E.1
  have hb := E.2.1
  intro t129_0 hf ls hl H locs hI
  rw [f_X8_boxes_b129] at hf
  obtain ⟨h129b, hf⟩ := xchk_s hf
  obtain ⟨M129, e129, hf⟩ := xlet_s hf
  refine x_iast (n := 64) E hI mx_8_30 (fun _ _ => rfl) h129b dX8_boxes_129 e129 (fun H locs hI => ?_)
  refine lv_iload hx hb dX8_boxes_130 (lv_at hl 5 rfl) ?_
  refine lv_iconst (v := 1) hx hb dX8_boxes_132 (by decide) ?_
  refine lv_isub hx hb dX8_boxes_133 ?_
  refine lv_iload hx hb dX8_boxes_134 (lv_at hl 4 rfl) ?_
  refine lv_iand hx hb dX8_boxes_136 ?_
  refine lv_istore (lv' := [(5, .int ((v51_5 - (1 : Int32)) &&& v33_4)), (0, .ref (xq G 8 0)), (1, .int a1), (2, .int a2), (3, .int ((1 : Int32) <<< ((M 8 0 4) &&& 31))), (4, .int v33_4)]) hx hb dX8_boxes_137 hl (by decide) rfl (fun ls hl => ?_)
  refine lv_goto (tgt := 51) hx hb dX8_boxes_139 (by decide) ?_
  exact hk51 ((v51_5 - (1 : Int32)) &&& v33_4) M129 hf _ (lv_sub hl [1, 2, 3, 4, 5, 0] rfl) _ _ hI
set_option maxHeartbeats 4000000 in
set_option maxRecDepth 100000 in
theorem w_X8_boxes_b94 {p : Program} {l : Launch} {e : Env} {s : State} {m : MethodId} {args : Array Value} {below : List Frame} {meth : Method} {c : Code} {G : xG} {rr : Int32} {MM : xMem} (E : xE p s m args meth c cX8_boxes 7 (some .int) RX8 G) (a1 : Int32) (a2 : Int32) (M : xMem) (L : xLL) (v33_4 : Int32) (v51_5 : Int32) (M51 : xMem) (k51 : Int32 → xMem → Option (Int32 × xMem)) (hk51 : ∀ (v51_5 : Int32) (M51 : xMem), k51 v51_5 M51 = some (rr, MM) → ∀ (ls : Array Slot), lv_has ls 7 [(0, .ref (xq G 8 0)), (1, .int a1), (2, .int a2), (3, .int ((1 : Int32) <<< ((M 8 0 4) &&& 31))), (4, .int v33_4), (5, .int v51_5)] → ∀ (H : Heap) (locs : List Loc), xI G M51 L s.heap H locs → W p l e (xR 3) s m args below meth c H locs 0 0 (MQ below (xQi G rr MM L s.heap.size) args s 0 0 (xZ G s.heap.size)) (F0 m 51 ls [])) : ∀ (t94_0 : Int32), f_X8_boxes_b94 v33_4 v51_5 M51 k51 t94_0 = some (rr, MM) → ∀ (ls : Array Slot), lv_has ls 7 [(0, .ref (xq G 8 0)), (1, .int a1), (2, .int a2), (3, .int ((1 : Int32) <<< ((M 8 0 4) &&& 31))), (4, .int v33_4), (5, .int v51_5)] → ∀ (H : Heap) (locs : List Loc), xI G M51 L s.heap H locs → W p l e (xR 3) s m args below meth c H locs 0 0 (MQ below (xQi G rr MM L s.heap.size) args s 0 0 (xZ G s.heap.size)) (F0 m 94 ls [.int t94_0]) := by
  have hx := E.1
  have hb := E.2.1
  intro t94_0 hf ls hl H locs hI
  rw [f_X8_boxes_b94] at hf
  refine lv_istore (lv' := [(6, .int t94_0), (0, .ref (xq G 8 0)), (1, .int a1), (2, .int a2), (3, .int ((1 : Int32) <<< ((M 8 0 4) &&& 31))), (4, .int v33_4), (5, .int v51_5)]) hx hb dX8_boxes_94 hl (by decide) rfl (fun ls hl => ?_)
  refine lv_aload_n hx hb dX8_boxes_96 rfl (lv_at hl 1 rfl) ?_
  refine gf_X8_56 E hI dX8_boxes_97 ?_
  refine lv_iload hx hb dX8_boxes_100 (lv_at hl 5 rfl) ?_
  refine lv_iload hx hb dX8_boxes_102 (lv_at hl 0 rfl) ?_
  refine lv_if_eq (tgt := 122) hx hb dX8_boxes_104 (by decide) (fun c104 => ?_) (fun c104 => ?_)
  · replace hf := xif_t c104 hf
    refine lv_aload_n hx hb dX8_boxes_122 rfl (lv_at hl 1 rfl) ?_
    refine gf_X8_56 E hI dX8_boxes_123 ?_
    refine lv_iload hx hb dX8_boxes_126 (lv_at hl 5 rfl) ?_
    obtain ⟨h128b, hf⟩ := xchk_s hf
    refine x_iald (n := 64) E hI mx_8_30 (fun _ _ => rfl) h128b dX8_boxes_128 ?_
    exact (w_X8_boxes_b129 E (a1 := a1) (a2 := a2) (M := M) (L := L) (v33_4 := v33_4) (v51_5 := v51_5) (M51 := M51) (k51 := k51) (hk51 := hk51)) (M51 8 30 v33_4.toNatClampNeg) hf _ (lv_sub hl [1, 2, 3, 4, 5, 6] rfl) _ _ hI
  · replace hf := xif_f c104 hf
    refine lv_aload_n hx hb dX8_boxes_107 rfl (lv_at hl 1 rfl) ?_
    refine gf_X8_56 E hI dX8_boxes_108 ?_
    refine lv_iload hx hb dX8_boxes_111 (lv_at hl 5 rfl) ?_
    refine lv_iload hx hb dX8_boxes_113 (lv_at hl 6 rfl) ?_
    refine lv_isub hx hb dX8_boxes_115 ?_
    obtain ⟨h116b, hf⟩ := xchk_s hf
    refine x_iald (n := 64) E hI mx_8_30 (fun _ _ => rfl) h116b dX8_boxes_116 ?_
    refine lv_iconst (v := 1) hx hb dX8_boxes_117 (by decide) ?_
    refine lv_iadd hx hb dX8_boxes_118 ?_
    refine lv_goto (tgt := 129) hx hb dX8_boxes_119 (by decide) ?_
    exact (w_X8_boxes_b129 E (a1 := a1) (a2 := a2) (M := M) (L := L) (v33_4 := v33_4) (v51_5 := v51_5) (M51 := M51) (k51 := k51) (hk51 := hk51)) ((M51 8 30 (v33_4 - v51_5).toNatClampNeg) + (1 : Int32)) hf _ (lv_sub hl [1, 2, 3, 4, 5, 6] rfl) _ _ hI
set_option maxHeartbeats 4000000 in
set_option maxRecDepth 100000 in
theorem w_X8_boxes_b93 {p : Program} {l : Launch} {e : Env} {s : State} {m : MethodId} {args : Array Value} {below : List Frame} {meth : Method} {c : Code} {G : xG} {rr : Int32} {MM : xMem} (E : xE p s m args meth c cX8_boxes 7 (some .int) RX8 G) (a1 : Int32) (a2 : Int32) (M : xMem) (L : xLL) (v33_4 : Int32) (v51_5 : Int32) (M51 : xMem) (k94 : Int32 → Option (Int32 × xMem)) (hk94 : ∀ (t94_0 : Int32), k94 t94_0 = some (rr, MM) → ∀ (ls : Array Slot), lv_has ls 7 [(0, .ref (xq G 8 0)), (1, .int a1), (2, .int a2), (3, .int ((1 : Int32) <<< ((M 8 0 4) &&& 31))), (4, .int v33_4), (5, .int v51_5)] → ∀ (H : Heap) (locs : List Loc), xI G M51 L s.heap H locs → W p l e (xR 3) s m args below meth c H locs 0 0 (MQ below (xQi G rr MM L s.heap.size) args s 0 0 (xZ G s.heap.size)) (F0 m 94 ls [.int t94_0])) : f_X8_boxes_b93 k94  = some (rr, MM) → ∀ (ls : Array Slot), lv_has ls 7 [(0, .ref (xq G 8 0)), (1, .int a1), (2, .int a2), (3, .int ((1 : Int32) <<< ((M 8 0 4) &&& 31))), (4, .int v33_4), (5, .int v51_5)] → ∀ (H : Heap) (locs : List Loc), xI G M51 L s.heap H locs → W p l e (xR 3) s m args below meth c H locs 0 0 (MQ below (xQi G rr MM L s.heap.size) args s 0 0 (xZ G s.heap.size)) (F0 m 93 ls []) := by
  have hx := E.1
  have hb := E.2.1
  intro  hf ls hl H locs hI
  rw [f_X8_boxes_b93] at hf
  refine lv_iconst (v := 0) hx hb dX8_boxes_93 (by decide) ?_
  exact hk94 (0 : Int32) hf _ (lv_sub hl [0, 1, 2, 3, 4, 5] rfl) _ _ hI
set_option maxHeartbeats 4000000 in
set_option maxRecDepth 100000 in
theorem w_X8_boxes_l51 {p : Program} {l : Launch} {e : Env} {s : State} {m : MethodId} {args : Array Value} {below : List Frame} {meth : Method} {c : Code} {G : xG} {rr : Int32} {MM : xMem} (E : xE p s m args meth c cX8_boxes 7 (some .int) RX8 G) (a1 : Int32) (a2 : Int32) (M : xMem) (L : xLL) (v33_4 : Int32) (M33 : xMem) (k33 : Int32 → xMem → Option (Int32 × xMem)) (hk33 : ∀ (v33_4 : Int32) (M33 : xMem), k33 v33_4 M33 = some (rr, MM) → ∀ (ls : Array Slot), lv_has ls 7 [(0, .ref (xq G 8 0)), (1, .int a1), (2, .int a2), (3, .int ((1 : Int32) <<< ((M 8 0 4) &&& 31))), (4, .int v33_4)] → ∀ (H : Heap) (locs : List Loc), xI G M33 L s.heap H locs → W p l e (xR 3) s m args below meth c H locs 0 0 (MQ below (xQi G rr MM L s.heap.size) args s 0 0 (xZ G s.heap.size)) (F0 m 33 ls [])) : ∀ (n : Nat), ∀ (v51_5 : Int32) (M51 : xMem), f_X8_boxes_l51 a1 a2 v33_4 k33 n v51_5 M51 = some (rr, MM) → ∀ (ls : Array Slot), lv_has ls 7 [(0, .ref (xq G 8 0)), (1, .int a1), (2, .int a2), (3, .int ((1 : Int32) <<< ((M 8 0 4) &&& 31))), (4, .int v33_4), (5, .int v51_5)] → ∀ (H : Heap) (locs : List Loc), xI G M51 L s.heap H locs → W p l e (xR 3) s m args below meth c H locs 0 0 (MQ below (xQi G rr MM L s.heap.size) args s 0 0 (xZ G s.heap.size)) (F0 m 51 ls []) := by
  have hx := E.1
  have hb := E.2.1
  intro n
  induction n with
  | zero =>
    intro v51_5 M51 hf
    exact absurd hf (by simp [f_X8_boxes_l51])
  | succ n ih =>
    intro v51_5 M51 hf ls hl H locs hI
    rw [f_X8_boxes_l51] at hf
    refine lv_iload hx hb dX8_boxes_51 (lv_at hl 5 rfl) ?_
    refine lv_if_le (tgt := 142) hx hb dX8_boxes_53 (by decide) (fun c53 => ?_) (fun c53 => ?_)
    · replace hf := xif_t c53 hf
      refine lv_iinc (v := (v33_4 + (1 : Int32))) (lv' := [(4, .int (v33_4 + (1 : Int32))), (0, .ref (xq G 8 0)), (1, .int a1), (2, .int a2), (3, .int ((1 : Int32) <<< ((M 8 0 4) &&& 31))), (5, .int v51_5)]) hx hb dX8_boxes_142 hl (k := 4) rfl rfl (by decide) rfl (fun ls hl => ?_)
      refine lv_goto (tgt := 33) hx hb dX8_boxes_145 (by decide) ?_
      exact hk33 (v33_4 + (1 : Int32)) M51 hf _ (lv_sub hl [1, 2, 3, 4, 0] rfl) _ _ hI
    · replace hf := xif_f c53 hf
      refine lv_aload_n hx hb dX8_boxes_56 rfl (lv_at hl 0 rfl) ?_
      refine lv_iload hx hb dX8_boxes_57 (lv_at hl 5 rfl) ?_
      refine lv_iload_n hx hb dX8_boxes_59 rfl (lv_at hl 1 rfl) ?_
      refine lv_iload_n hx hb dX8_boxes_60 rfl (lv_at hl 2 rfl) ?_
      obtain ⟨r61, g61, hf⟩ := xb1_s hf
      refine x_callVi (As := [.int v51_5, .int a1, .int a2]) (rest := []) E hI mx_8_0 rfl rfl rfl (c_X8_boxed l G _ (M := M51) (L := L) (a1 := v51_5) (a2 := a1) (a3 := a2) g61) yv_X8_boxed ml_X8_198 (by decide) (by decide) rfl rfl hl.1 (Nat.le_of_ble_eq_true rfl) dX8_boxes_61 (fun H locs hI => ?_)
      refine lv_if_lt (tgt := 93) hx hb dX8_boxes_64 (by decide) (fun c64 => ?_) (fun c64 => ?_)
      · replace hf := xif_t c64 hf
        exact (w_X8_boxes_b93 E (a1 := a1) (a2 := a2) (M := M) (L := L) (v33_4 := v33_4) (v51_5 := v51_5) (M51 := M51) (k94 := (f_X8_boxes_b94 v33_4 v51_5 M51 (f_X8_boxes_l51 a1 a2 v33_4 k33 n))) (hk94 := (w_X8_boxes_b94 E (a1 := a1) (a2 := a2) (M := M) (L := L) (v33_4 := v33_4) (v51_5 := v51_5) (M51 := M51) (k51 := (f_X8_boxes_l51 a1 a2 v33_4 k33 n)) (hk51 := ih))))  hf _ (lv_sub hl [0, 1, 2, 3, 4, 5] rfl) _ _ hI
      · replace hf := xif_f c64 hf
        refine lv_aload_n hx hb dX8_boxes_67 rfl (lv_at hl 0 rfl) ?_
        refine gf_X8_56 E hI dX8_boxes_68 ?_
        refine lv_iload hx hb dX8_boxes_71 (lv_at hl 4 rfl) ?_
        refine lv_iload hx hb dX8_boxes_73 (lv_at hl 5 rfl) ?_
        refine lv_isub hx hb dX8_boxes_75 ?_
        obtain ⟨h76b, hf⟩ := xchk_s hf
        refine x_iald (n := 64) E hI mx_8_30 (fun _ _ => rfl) h76b dX8_boxes_76 ?_
        refine lv_iconst (v := 1) hx hb dX8_boxes_77 (by decide) ?_
        refine lv_iadd hx hb dX8_boxes_78 ?_
        refine lv_aload_n hx hb dX8_boxes_79 rfl (lv_at hl 0 rfl) ?_
        refine gf_X8_56 E hI dX8_boxes_80 ?_
        refine lv_iload hx hb dX8_boxes_83 (lv_at hl 4 rfl) ?_
        obtain ⟨h85b, hf⟩ := xchk_s hf
        refine x_iald (n := 64) E hI mx_8_30 (fun _ _ => rfl) h85b dX8_boxes_85 ?_
        refine lv_icmp_le (tgt := 93) hx hb dX8_boxes_86 (by decide) (fun c86 => ?_) (fun c86 => ?_)
        · replace hf := xif_t c86 hf
          exact (w_X8_boxes_b93 E (a1 := a1) (a2 := a2) (M := M) (L := L) (v33_4 := v33_4) (v51_5 := v51_5) (M51 := M51) (k94 := (f_X8_boxes_b94 v33_4 v51_5 M51 (f_X8_boxes_l51 a1 a2 v33_4 k33 n))) (hk94 := (w_X8_boxes_b94 E (a1 := a1) (a2 := a2) (M := M) (L := L) (v33_4 := v33_4) (v51_5 := v51_5) (M51 := M51) (k51 := (f_X8_boxes_l51 a1 a2 v33_4 k33 n)) (hk51 := ih))))  hf _ (lv_sub hl [0, 1, 2, 3, 4, 5] rfl) _ _ hI
        · replace hf := xif_f c86 hf
          refine lv_iconst (v := 1) hx hb dX8_boxes_89 (by decide) ?_
          refine lv_goto (tgt := 94) hx hb dX8_boxes_90 (by decide) ?_
          exact (w_X8_boxes_b94 E (a1 := a1) (a2 := a2) (M := M) (L := L) (v33_4 := v33_4) (v51_5 := v51_5) (M51 := M51) (k51 := (f_X8_boxes_l51 a1 a2 v33_4 k33 n)) (hk51 := ih)) (1 : Int32) hf _ (lv_sub hl [0, 1, 2, 3, 4, 5] rfl) _ _ hI
set_option maxHeartbeats 4000000 in
set_option maxRecDepth 100000 in
theorem w_X8_boxes_l33 {p : Program} {l : Launch} {e : Env} {s : State} {m : MethodId} {args : Array Value} {below : List Frame} {meth : Method} {c : Code} {G : xG} {rr : Int32} {MM : xMem} (E : xE p s m args meth c cX8_boxes 7 (some .int) RX8 G) (a1 : Int32) (a2 : Int32) (M : xMem) (L : xLL) : ∀ (n : Nat), ∀ (v33_4 : Int32) (M33 : xMem), f_X8_boxes_l33 a1 a2 M n v33_4 M33 = some (rr, MM) → ∀ (ls : Array Slot), lv_has ls 7 [(0, .ref (xq G 8 0)), (1, .int a1), (2, .int a2), (3, .int ((1 : Int32) <<< ((M 8 0 4) &&& 31))), (4, .int v33_4)] → ∀ (H : Heap) (locs : List Loc), xI G M33 L s.heap H locs → W p l e (xR 3) s m args below meth c H locs 0 0 (MQ below (xQi G rr MM L s.heap.size) args s 0 0 (xZ G s.heap.size)) (F0 m 33 ls []) := by
  have hx := E.1
  have hb := E.2.1
  intro n
  induction n with
  | zero =>
    intro v33_4 M33 hf
    exact absurd hf (by simp [f_X8_boxes_l33])
  | succ n ih =>
    intro v33_4 M33 hf ls hl H locs hI
    rw [f_X8_boxes_l33] at hf
    refine lv_iload hx hb dX8_boxes_33 (lv_at hl 4 rfl) ?_
    refine lv_iload_n hx hb dX8_boxes_35 rfl (lv_at hl 3 rfl) ?_
    refine lv_icmp_ge (tgt := 148) hx hb dX8_boxes_36 (by decide) (fun c36 => ?_) (fun c36 => ?_)
    · replace hf := xif_t c36 hf
      refine lv_aload_n hx hb dX8_boxes_148 rfl (lv_at hl 0 rfl) ?_
      refine gf_X8_56 E hI dX8_boxes_149 ?_
      refine lv_iload_n hx hb dX8_boxes_152 rfl (lv_at hl 3 rfl) ?_
      refine lv_iconst (v := 1) hx hb dX8_boxes_153 (by decide) ?_
      refine lv_isub hx hb dX8_boxes_154 ?_
      obtain ⟨h155b, hf⟩ := xchk_s hf
      refine x_iald (n := 64) E hI mx_8_30 (fun _ _ => rfl) h155b dX8_boxes_155 ?_
      obtain ⟨rfl, rfl⟩ := xinj2 hf
      exact x_iret E hI rfl dX8_boxes_156
    · replace hf := xif_f c36 hf
      refine lv_aload_n hx hb dX8_boxes_39 rfl (lv_at hl 0 rfl) ?_
      refine gf_X8_56 E hI dX8_boxes_40 ?_
      refine lv_iload hx hb dX8_boxes_43 (lv_at hl 4 rfl) ?_
      refine lv_iconst (v := 0) hx hb dX8_boxes_45 (by decide) ?_
      obtain ⟨h46b, hf⟩ := xchk_s hf
      obtain ⟨M46, e46, hf⟩ := xlet_s hf
      refine x_iast (n := 64) E hI mx_8_30 (fun _ _ => rfl) h46b dX8_boxes_46 e46 (fun H locs hI => ?_)
      refine lv_iload hx hb dX8_boxes_47 (lv_at hl 4 rfl) ?_
      refine lv_istore (lv' := [(5, .int v33_4), (0, .ref (xq G 8 0)), (1, .int a1), (2, .int a2), (3, .int ((1 : Int32) <<< ((M 8 0 4) &&& 31))), (4, .int v33_4)]) hx hb dX8_boxes_49 hl (by decide) rfl (fun ls hl => ?_)
      exact (w_X8_boxes_l51 E (a1 := a1) (a2 := a2) (M := M) (L := L) (v33_4 := v33_4) (M33 := M33) (k33 := (f_X8_boxes_l33 a1 a2 M n)) (hk33 := ih) FU) v33_4 M46 hf _ (lv_sub hl [1, 2, 3, 4, 5, 0] rfl) _ _ hI
set_option maxHeartbeats 4000000 in
set_option maxRecDepth 100000 in
theorem c_X8_boxes (l : Launch) (G : xG) (sz : Nat) (M : xMem) (L : xLL) (a1 : Int32) (a2 : Int32) {rr : Int32} {MM : xMem} (hf : f_X8_boxes a1 a2 M = some (rr, MM)) : Met l yX8_boxes (Cond.code yX8_boxes cX8_boxes 7 (some .int) :: xTB) (xR 3) (xP G M L sz [.ref (xq G 8 0), .int a1, .int a2]) (xQi G rr MM L sz) 0 0 (xZ G sz) := by
  refine x_met (cc := cX8_boxes) (nL := 7) (rt := (some .int)) (by decide) (Nat.le_of_ble_eq_true rfl) ?_
  intro p e s m below meth c ls hsz E hl hI
  subst hsz
  have E : xE p s m _ meth c cX8_boxes 7 (some .int) RX8 G := E
  have hx := E.1
  have hb := E.2.1
  have hl : lv_has ls 7 [(0, .ref (xq G 8 0)), (1, .int a1), (2, .int a2)] := hl
  rw [f_X8_boxes] at hf
  refine lv_iload_n hx hb dX8_boxes_0 rfl (lv_at hl 1 rfl) ?_
  refine lv_iconst (v := 1) hx hb dX8_boxes_1 (by decide) ?_
  refine lv_bipush (v := 6) hx hb dX8_boxes_2 (by decide) ?_
  obtain ⟨r4, g4, hf⟩ := xb1_s hf
  refine x_callSi (As := [.int a1, .int (1 : Int32), .int (6 : Int32)]) (rest := []) E hI (c_X8_in l G _ (M := M) (L := L) (a0 := a1) (a1 := (1 : Int32)) (a2 := (6 : Int32)) g4) ys_X8_in ml_X8_66 (by decide) (by decide) rfl rfl hl.1 (Nat.le_of_ble_eq_true rfl) dX8_boxes_4 (fun H locs hI => ?_)
  refine lv_if_eq (tgt := 21) hx hb dX8_boxes_7 (by decide) (fun c7 => ?_) (fun c7 => ?_)
  · replace hf := xif_t c7 hf
    exact (w_X8_boxes_b21 E (M := M) (L := L))  hf _ (lv_sub hl [] rfl) _ _ hI
  · replace hf := xif_f c7 hf
    refine lv_iload_n hx hb dX8_boxes_10 rfl (lv_at hl 2 rfl) ?_
    refine lv_iconst (v := 0) hx hb dX8_boxes_11 (by decide) ?_
    refine lv_sipush (v := 600) hx hb dX8_boxes_12 (by decide) ?_
    obtain ⟨r15, g15, hf⟩ := xb1_s hf
    refine x_callSi (As := [.int a2, .int (0 : Int32), .int (600 : Int32)]) (rest := []) E hI (c_X8_in l G _ (M := M) (L := L) (a0 := a2) (a1 := (0 : Int32)) (a2 := (600 : Int32)) g15) ys_X8_in ml_X8_66 (by decide) (by decide) rfl rfl hl.1 (Nat.le_of_ble_eq_true rfl) dX8_boxes_15 (fun H locs hI => ?_)
    refine lv_if_ne (tgt := 23) hx hb dX8_boxes_18 (by decide) (fun c18 => ?_) (fun c18 => ?_)
    · replace hf := xif_f c18 hf
      refine lv_iconst (v := 1) hx hb dX8_boxes_23 (by decide) ?_
      refine lv_aload_n hx hb dX8_boxes_24 rfl (lv_at hl 0 rfl) ?_
      refine gf_X8_70 E hI dX8_boxes_25 ?_
      refine lv_ishl hx hb dX8_boxes_28 ?_
      refine lv_istore_n (lv' := [(3, .int ((1 : Int32) <<< ((M 8 0 4) &&& 31))), (0, .ref (xq G 8 0)), (1, .int a1), (2, .int a2)]) hx hb dX8_boxes_29 rfl hl (by decide) rfl (fun ls hl => ?_)
      refine lv_iconst (v := 0) hx hb dX8_boxes_30 (by decide) ?_
      refine lv_istore (lv' := [(4, .int (0 : Int32)), (3, .int ((1 : Int32) <<< ((M 8 0 4) &&& 31))), (0, .ref (xq G 8 0)), (1, .int a1), (2, .int a2)]) hx hb dX8_boxes_31 hl (by decide) rfl (fun ls hl => ?_)
      exact (w_X8_boxes_l33 E (a1 := a1) (a2 := a2) (M := M) (L := L) FU) (0 : Int32) M hf _ (lv_sub hl [2, 3, 4, 1, 0] rfl) _ _ hI
    · replace hf := xif_t c18 hf
      exact (w_X8_boxes_b21 E (M := M) (L := L))  hf _ (lv_sub hl [] rfl) _ _ hI
theorem dX8_tested_0 : decode cX8_tested 0 = .ok (.iload_n 1, 1) := by decide +kernel
theorem dX8_tested_1 : decode cX8_tested 1 = .ok (.iconst 1, 1) := by decide +kernel
theorem dX8_tested_2 : decode cX8_tested 2 = .ok (.bipush 99, 2) := by decide +kernel
theorem dX8_tested_4 : decode cX8_tested 4 = .ok (.invokestatic 66, 3) := by decide +kernel
theorem dX8_tested_7 : decode cX8_tested 7 = .ok (.ifCond .eq 17, 3) := by decide +kernel
theorem dX8_tested_10 : decode cX8_tested 10 = .ok (.aload_n 0, 1) := by decide +kernel
theorem dX8_tested_11 : decode cX8_tested 11 = .ok (.iload_n 2, 1) := by decide +kernel
theorem dX8_tested_12 : decode cX8_tested 12 = .ok (.invokevirtual 153, 3) := by decide +kernel
theorem dX8_tested_15 : decode cX8_tested 15 = .ok (.ifCond .ne 11, 3) := by decide +kernel
theorem dX8_tested_18 : decode cX8_tested 18 = .ok (.iload_n 2, 1) := by decide +kernel
theorem dX8_tested_19 : decode cX8_tested 19 = .ok (.bipush (-9), 2) := by decide +kernel
theorem dX8_tested_21 : decode cX8_tested 21 = .ok (.if_icmp .eq 5, 3) := by decide +kernel
theorem dX8_tested_24 : decode cX8_tested 24 = .ok (.iconst (-1), 1) := by decide +kernel
theorem dX8_tested_25 : decode cX8_tested 25 = .ok (.ireturn, 1) := by decide +kernel
theorem dX8_tested_26 : decode cX8_tested 26 = .ok (.aload_n 0, 1) := by decide +kernel
theorem dX8_tested_27 : decode cX8_tested 27 = .ok (.getfield 125, 3) := by decide +kernel
theorem dX8_tested_30 : decode cX8_tested 30 = .ok (.bipush 6, 2) := by decide +kernel
theorem dX8_tested_32 : decode cX8_tested 32 = .ok (.if_icmp .ne 6, 3) := by decide +kernel
theorem dX8_tested_35 : decode cX8_tested 35 = .ok (.bipush (-3), 2) := by decide +kernel
theorem dX8_tested_37 : decode cX8_tested 37 = .ok (.ireturn, 1) := by decide +kernel
theorem dX8_tested_38 : decode cX8_tested 38 = .ok (.aload_n 0, 1) := by decide +kernel
theorem dX8_tested_39 : decode cX8_tested 39 = .ok (.getfield 35, 3) := by decide +kernel
theorem dX8_tested_42 : decode cX8_tested 42 = .ok (.iconst 2, 1) := by decide +kernel
theorem dX8_tested_43 : decode cX8_tested 43 = .ok (.aload_n 0, 1) := by decide +kernel
theorem dX8_tested_44 : decode cX8_tested 44 = .ok (.getfield 125, 3) := by decide +kernel
theorem dX8_tested_47 : decode cX8_tested 47 = .ok (.imul, 1) := by decide +kernel
theorem dX8_tested_48 : decode cX8_tested 48 = .ok (.iload_n 1, 1) := by decide +kernel
theorem dX8_tested_49 : decode cX8_tested 49 = .ok (.iastore, 1) := by decide +kernel
theorem dX8_tested_50 : decode cX8_tested 50 = .ok (.aload_n 0, 1) := by decide +kernel
theorem dX8_tested_51 : decode cX8_tested 51 = .ok (.getfield 35, 3) := by decide +kernel
theorem dX8_tested_54 : decode cX8_tested 54 = .ok (.iconst 2, 1) := by decide +kernel
theorem dX8_tested_55 : decode cX8_tested 55 = .ok (.aload_n 0, 1) := by decide +kernel
theorem dX8_tested_56 : decode cX8_tested 56 = .ok (.getfield 125, 3) := by decide +kernel
theorem dX8_tested_59 : decode cX8_tested 59 = .ok (.imul, 1) := by decide +kernel
theorem dX8_tested_60 : decode cX8_tested 60 = .ok (.iconst 1, 1) := by decide +kernel
theorem dX8_tested_61 : decode cX8_tested 61 = .ok (.iadd, 1) := by decide +kernel
theorem dX8_tested_62 : decode cX8_tested 62 = .ok (.iload_n 2, 1) := by decide +kernel
theorem dX8_tested_63 : decode cX8_tested 63 = .ok (.iastore, 1) := by decide +kernel
theorem dX8_tested_64 : decode cX8_tested 64 = .ok (.aload_n 0, 1) := by decide +kernel
theorem dX8_tested_65 : decode cX8_tested 65 = .ok (.dup, 1) := by decide +kernel
theorem dX8_tested_66 : decode cX8_tested 66 = .ok (.getfield 125, 3) := by decide +kernel
theorem dX8_tested_69 : decode cX8_tested 69 = .ok (.iconst 1, 1) := by decide +kernel
theorem dX8_tested_70 : decode cX8_tested 70 = .ok (.iadd, 1) := by decide +kernel
theorem dX8_tested_71 : decode cX8_tested 71 = .ok (.putfield 125, 3) := by decide +kernel
theorem dX8_tested_74 : decode cX8_tested 74 = .ok (.aload_n 0, 1) := by decide +kernel
theorem dX8_tested_75 : decode cX8_tested 75 = .ok (.getfield 125, 3) := by decide +kernel
theorem dX8_tested_78 : decode cX8_tested 78 = .ok (.ireturn, 1) := by decide +kernel
def f_X8_tested_b24 (M : xMem) : Option (Int32 × xMem) := some ((-1 : Int32), M)
def f_X8_tested_b26 (a1 : Int32) (a2 : Int32) (M : xMem) : Option (Int32 × xMem) := (if (M 8 0 11) = (6 : Int32) then some ((-3 : Int32), M) else xchk (xb ((2 : Int32) * (M 8 0 11)) 12) (xlet (xst M 8 13 ((2 : Int32) * (M 8 0 11)) a1) (fun M49 => xchk (xb (((2 : Int32) * (M49 8 0 11)) + (1 : Int32)) 12) (xlet (xst M49 8 13 (((2 : Int32) * (M49 8 0 11)) + (1 : Int32)) a2) (fun M63 => xlet (xsf M63 8 11 ((M63 8 0 11) + (1 : Int32))) (fun M71 => some ((M71 8 0 11), M71)))))))
def f_X8_tested (a1 : Int32) (a2 : Int32) (M : xMem) : Option (Int32 × xMem) := xb1 (f_X8_in a1 (1 : Int32) (99 : Int32) M) (fun r4 => (if r4 = (0 : Int32) then (f_X8_tested_b24 M) else xb1 (f_X8_isScale a2 M) (fun r12 => (if r12 = (0 : Int32) then (if a2 = (-9 : Int32) then (f_X8_tested_b26 a1 a2 M) else (f_X8_tested_b24 M)) else (f_X8_tested_b26 a1 a2 M)))))
set_option maxHeartbeats 4000000 in
set_option maxRecDepth 100000 in
theorem w_X8_tested_b24 {p : Program} {l : Launch} {e : Env} {s : State} {m : MethodId} {args : Array Value} {below : List Frame} {meth : Method} {c : Code} {G : xG} {rr : Int32} {MM : xMem} (E : xE p s m args meth c cX8_tested 3 (some .int) RX8 G) (M : xMem) (L : xLL) : f_X8_tested_b24 M  = some (rr, MM) → ∀ (ls : Array Slot), lv_has ls 3 [] → ∀ (H : Heap) (locs : List Loc), xI G M L s.heap H locs → W p l e (xR 3) s m args below meth c H locs 0 0 (MQ below (xQi G rr MM L s.heap.size) args s 0 0 (xZ G s.heap.size)) (F0 m 24 ls []) := by
  have hx := E.1
  have hb := E.2.1
  intro  hf ls hl H locs hI
  rw [f_X8_tested_b24] at hf
  refine lv_iconst (v := -1) hx hb dX8_tested_24 (by decide) ?_
  obtain ⟨rfl, rfl⟩ := xinj2 hf
  exact x_iret E hI rfl dX8_tested_25
set_option maxHeartbeats 4000000 in
set_option maxRecDepth 100000 in
theorem w_X8_tested_b26 {p : Program} {l : Launch} {e : Env} {s : State} {m : MethodId} {args : Array Value} {below : List Frame} {meth : Method} {c : Code} {G : xG} {rr : Int32} {MM : xMem} (E : xE p s m args meth c cX8_tested 3 (some .int) RX8 G) (a1 : Int32) (a2 : Int32) (M : xMem) (L : xLL) : f_X8_tested_b26 a1 a2 M  = some (rr, MM) → ∀ (ls : Array Slot), lv_has ls 3 [(0, .ref (xq G 8 0)), (1, .int a1), (2, .int a2)] → ∀ (H : Heap) (locs : List Loc), xI G M L s.heap H locs → W p l e (xR 3) s m args below meth c H locs 0 0 (MQ below (xQi G rr MM L s.heap.size) args s 0 0 (xZ G s.heap.size)) (F0 m 26 ls []) := by
  have hx := E.1
  have hb := E.2.1
  intro  hf ls hl H locs hI
  rw [f_X8_tested_b26] at hf
  refine lv_aload_n hx hb dX8_tested_26 rfl (lv_at hl 0 rfl) ?_
  refine gf_X8_125 E hI dX8_tested_27 ?_
  refine lv_bipush (v := 6) hx hb dX8_tested_30 (by decide) ?_
  refine lv_icmp_ne (tgt := 38) hx hb dX8_tested_32 (by decide) (fun c32 => ?_) (fun c32 => ?_)
  · replace hf := xif_f c32 hf
    refine lv_aload_n hx hb dX8_tested_38 rfl (lv_at hl 0 rfl) ?_
    refine gf_X8_35 E hI dX8_tested_39 ?_
    refine lv_iconst (v := 2) hx hb dX8_tested_42 (by decide) ?_
    refine lv_aload_n hx hb dX8_tested_43 rfl (lv_at hl 0 rfl) ?_
    refine gf_X8_125 E hI dX8_tested_44 ?_
    refine lv_imul hx hb dX8_tested_47 ?_
    refine lv_iload_n hx hb dX8_tested_48 rfl (lv_at hl 1 rfl) ?_
    obtain ⟨h49b, hf⟩ := xchk_s hf
    obtain ⟨M49, e49, hf⟩ := xlet_s hf
    refine x_iast (n := 12) E hI mx_8_13 (fun _ _ => rfl) h49b dX8_tested_49 e49 (fun H locs hI => ?_)
    refine lv_aload_n hx hb dX8_tested_50 rfl (lv_at hl 0 rfl) ?_
    refine gf_X8_35 E hI dX8_tested_51 ?_
    refine lv_iconst (v := 2) hx hb dX8_tested_54 (by decide) ?_
    refine lv_aload_n hx hb dX8_tested_55 rfl (lv_at hl 0 rfl) ?_
    refine gf_X8_125 E hI dX8_tested_56 ?_
    refine lv_imul hx hb dX8_tested_59 ?_
    refine lv_iconst (v := 1) hx hb dX8_tested_60 (by decide) ?_
    refine lv_iadd hx hb dX8_tested_61 ?_
    refine lv_iload_n hx hb dX8_tested_62 rfl (lv_at hl 2 rfl) ?_
    obtain ⟨h63b, hf⟩ := xchk_s hf
    obtain ⟨M63, e63, hf⟩ := xlet_s hf
    refine x_iast (n := 12) E hI mx_8_13 (fun _ _ => rfl) h63b dX8_tested_63 e63 (fun H locs hI => ?_)
    refine lv_aload_n hx hb dX8_tested_64 rfl (lv_at hl 0 rfl) ?_
    refine lv_dup hx hb dX8_tested_65 rfl ?_
    refine gf_X8_125 E hI dX8_tested_66 ?_
    refine lv_iconst (v := 1) hx hb dX8_tested_69 (by decide) ?_
    refine lv_iadd hx hb dX8_tested_70 ?_
    obtain ⟨M71, e71, hf⟩ := xlet_s hf
    refine pf_X8_125 E hI dX8_tested_71 e71 (fun H locs hI => ?_)
    refine lv_aload_n hx hb dX8_tested_74 rfl (lv_at hl 0 rfl) ?_
    refine gf_X8_125 E hI dX8_tested_75 ?_
    obtain ⟨rfl, rfl⟩ := xinj2 hf
    exact x_iret E hI rfl dX8_tested_78
  · replace hf := xif_t c32 hf
    refine lv_bipush (v := -3) hx hb dX8_tested_35 (by decide) ?_
    obtain ⟨rfl, rfl⟩ := xinj2 hf
    exact x_iret E hI rfl dX8_tested_37
set_option maxHeartbeats 4000000 in
set_option maxRecDepth 100000 in
theorem c_X8_tested (l : Launch) (G : xG) (sz : Nat) (M : xMem) (L : xLL) (a1 : Int32) (a2 : Int32) {rr : Int32} {MM : xMem} (hf : f_X8_tested a1 a2 M = some (rr, MM)) : Met l yX8_tested (Cond.code yX8_tested cX8_tested 3 (some .int) :: xTB) (xR 3) (xP G M L sz [.ref (xq G 8 0), .int a1, .int a2]) (xQi G rr MM L sz) 0 0 (xZ G sz) := by
  refine x_met (cc := cX8_tested) (nL := 3) (rt := (some .int)) (by decide) (Nat.le_of_ble_eq_true rfl) ?_
  intro p e s m below meth c ls hsz E hl hI
  subst hsz
  have E : xE p s m _ meth c cX8_tested 3 (some .int) RX8 G := E
  have hx := E.1
  have hb := E.2.1
  have hl : lv_has ls 3 [(0, .ref (xq G 8 0)), (1, .int a1), (2, .int a2)] := hl
  rw [f_X8_tested] at hf
  refine lv_iload_n hx hb dX8_tested_0 rfl (lv_at hl 1 rfl) ?_
  refine lv_iconst (v := 1) hx hb dX8_tested_1 (by decide) ?_
  refine lv_bipush (v := 99) hx hb dX8_tested_2 (by decide) ?_
  obtain ⟨r4, g4, hf⟩ := xb1_s hf
  refine x_callSi (As := [.int a1, .int (1 : Int32), .int (99 : Int32)]) (rest := []) E hI (c_X8_in l G _ (M := M) (L := L) (a0 := a1) (a1 := (1 : Int32)) (a2 := (99 : Int32)) g4) ys_X8_in ml_X8_66 (by decide) (by decide) rfl rfl hl.1 (Nat.le_of_ble_eq_true rfl) dX8_tested_4 (fun H locs hI => ?_)
  refine lv_if_eq (tgt := 24) hx hb dX8_tested_7 (by decide) (fun c7 => ?_) (fun c7 => ?_)
  · replace hf := xif_t c7 hf
    exact (w_X8_tested_b24 E (M := M) (L := L))  hf _ (lv_sub hl [] rfl) _ _ hI
  · replace hf := xif_f c7 hf
    refine lv_aload_n hx hb dX8_tested_10 rfl (lv_at hl 0 rfl) ?_
    refine lv_iload_n hx hb dX8_tested_11 rfl (lv_at hl 2 rfl) ?_
    obtain ⟨r12, g12, hf⟩ := xb1_s hf
    refine x_callVi (As := [.int a2]) (rest := []) E hI mx_8_0 rfl rfl rfl (c_X8_isScale l G _ (M := M) (L := L) (a1 := a2) g12) yv_X8_isScale ml_X8_153 (by decide) (by decide) rfl rfl hl.1 (Nat.le_of_ble_eq_true rfl) dX8_tested_12 (fun H locs hI => ?_)
    refine lv_if_ne (tgt := 26) hx hb dX8_tested_15 (by decide) (fun c15 => ?_) (fun c15 => ?_)
    · replace hf := xif_f c15 hf
      exact (w_X8_tested_b26 E (a1 := a1) (a2 := a2) (M := M) (L := L))  hf _ (lv_sub hl [0, 1, 2] rfl) _ _ hI
    · replace hf := xif_t c15 hf
      refine lv_iload_n hx hb dX8_tested_18 rfl (lv_at hl 2 rfl) ?_
      refine lv_bipush (v := -9) hx hb dX8_tested_19 (by decide) ?_
      refine lv_icmp_eq (tgt := 26) hx hb dX8_tested_21 (by decide) (fun c21 => ?_) (fun c21 => ?_)
      · replace hf := xif_t c21 hf
        exact (w_X8_tested_b26 E (a1 := a1) (a2 := a2) (M := M) (L := L))  hf _ (lv_sub hl [0, 1, 2] rfl) _ _ hI
      · replace hf := xif_f c21 hf
        exact (w_X8_tested_b24 E (M := M) (L := L))  hf _ (lv_sub hl [] rfl) _ _ hI
theorem dX8_forget_0 : decode cX8_forget 0 = .ok (.aload_n 0, 1) := by decide +kernel
theorem dX8_forget_1 : decode cX8_forget 1 = .ok (.getfield 125, 3) := by decide +kernel
theorem dX8_forget_4 : decode cX8_forget 4 = .ok (.istore_n 1, 1) := by decide +kernel
theorem dX8_forget_5 : decode cX8_forget 5 = .ok (.aload_n 0, 1) := by decide +kernel
theorem dX8_forget_6 : decode cX8_forget 6 = .ok (.iconst 0, 1) := by decide +kernel
theorem dX8_forget_7 : decode cX8_forget 7 = .ok (.putfield 125, 3) := by decide +kernel
theorem dX8_forget_10 : decode cX8_forget 10 = .ok (.iload_n 1, 1) := by decide +kernel
theorem dX8_forget_11 : decode cX8_forget 11 = .ok (.ireturn, 1) := by decide +kernel
def f_X8_forget (M : xMem) : Option (Int32 × xMem) := xlet (xsf M 8 11 (0 : Int32)) (fun M7 => some ((M 8 0 11), M7))
set_option maxHeartbeats 4000000 in
set_option maxRecDepth 100000 in
theorem c_X8_forget (l : Launch) (G : xG) (sz : Nat) (M : xMem) (L : xLL) {rr : Int32} {MM : xMem} (hf : f_X8_forget M = some (rr, MM)) : Met l yX8_forget (Cond.code yX8_forget cX8_forget 2 (some .int) :: xTB) (xR 1) (xP G M L sz [.ref (xq G 8 0)]) (xQi G rr MM L sz) 0 0 (xZ G sz) := by
  refine x_met (cc := cX8_forget) (nL := 2) (rt := (some .int)) (by decide) (Nat.le_of_ble_eq_true rfl) ?_
  intro p e s m below meth c ls hsz E hl hI
  subst hsz
  have E : xE p s m _ meth c cX8_forget 2 (some .int) RX8 G := E
  have hx := E.1
  have hb := E.2.1
  have hl : lv_has ls 2 [(0, .ref (xq G 8 0))] := hl
  rw [f_X8_forget] at hf
  refine lv_aload_n hx hb dX8_forget_0 rfl (lv_at hl 0 rfl) ?_
  refine gf_X8_125 E hI dX8_forget_1 ?_
  refine lv_istore_n (lv' := [(1, .int (M 8 0 11)), (0, .ref (xq G 8 0))]) hx hb dX8_forget_4 rfl hl (by decide) rfl (fun ls hl => ?_)
  refine lv_aload_n hx hb dX8_forget_5 rfl (lv_at hl 1 rfl) ?_
  refine lv_iconst (v := 0) hx hb dX8_forget_6 (by decide) ?_
  obtain ⟨M7, e7, hf⟩ := xlet_s hf
  refine pf_X8_125 E hI dX8_forget_7 e7 (fun H locs hI => ?_)
  refine lv_iload_n hx hb dX8_forget_10 rfl (lv_at hl 0 rfl) ?_
  obtain ⟨rfl, rfl⟩ := xinj2 hf
  exact x_iret E hI rfl dX8_forget_11
theorem dX8_fallsFrom_0 : decode cX8_fallsFrom 0 = .ok (.bipush (-9), 2) := by decide +kernel
theorem dX8_fallsFrom_2 : decode cX8_fallsFrom 2 = .ok (.istore 4, 2) := by decide +kernel
theorem dX8_fallsFrom_4 : decode cX8_fallsFrom 4 = .ok (.aload_n 0, 1) := by decide +kernel
theorem dX8_fallsFrom_5 : decode cX8_fallsFrom 5 = .ok (.getfield 62, 3) := by decide +kernel
theorem dX8_fallsFrom_8 : decode cX8_fallsFrom 8 = .ok (.iconst 1, 1) := by decide +kernel
theorem dX8_fallsFrom_9 : decode cX8_fallsFrom 9 = .ok (.isub, 1) := by decide +kernel
theorem dX8_fallsFrom_10 : decode cX8_fallsFrom 10 = .ok (.istore 5, 2) := by decide +kernel
theorem dX8_fallsFrom_12 : decode cX8_fallsFrom 12 = .ok (.iload 5, 2) := by decide +kernel
theorem dX8_fallsFrom_14 : decode cX8_fallsFrom 14 = .ok (.ifCond .lt 41, 3) := by decide +kernel
theorem dX8_fallsFrom_17 : decode cX8_fallsFrom 17 = .ok (.iload_n 1, 1) := by decide +kernel
theorem dX8_fallsFrom_18 : decode cX8_fallsFrom 18 = .ok (.aload_n 0, 1) := by decide +kernel
theorem dX8_fallsFrom_19 : decode cX8_fallsFrom 19 = .ok (.getfield 7, 3) := by decide +kernel
theorem dX8_fallsFrom_22 : decode cX8_fallsFrom 22 = .ok (.iload 5, 2) := by decide +kernel
theorem dX8_fallsFrom_24 : decode cX8_fallsFrom 24 = .ok (.iaload, 1) := by decide +kernel
theorem dX8_fallsFrom_25 : decode cX8_fallsFrom 25 = .ok (.iload 5, 2) := by decide +kernel
theorem dX8_fallsFrom_27 : decode cX8_fallsFrom 27 = .ok (.iload_n 2, 1) := by decide +kernel
theorem dX8_fallsFrom_28 : decode cX8_fallsFrom 28 = .ok (.if_icmp .ne 7, 3) := by decide +kernel
theorem dX8_fallsFrom_31 : decode cX8_fallsFrom 31 = .ok (.iload_n 3, 1) := by decide +kernel
theorem dX8_fallsFrom_32 : decode cX8_fallsFrom 32 = .ok (.goto 4, 3) := by decide +kernel
theorem dX8_fallsFrom_35 : decode cX8_fallsFrom 35 = .ok (.iconst 0, 1) := by decide +kernel
theorem dX8_fallsFrom_36 : decode cX8_fallsFrom 36 = .ok (.iadd, 1) := by decide +kernel
theorem dX8_fallsFrom_37 : decode cX8_fallsFrom 37 = .ok (.if_icmp .lt 8, 3) := by decide +kernel
theorem dX8_fallsFrom_40 : decode cX8_fallsFrom 40 = .ok (.iload 5, 2) := by decide +kernel
theorem dX8_fallsFrom_42 : decode cX8_fallsFrom 42 = .ok (.goto 5, 3) := by decide +kernel
theorem dX8_fallsFrom_45 : decode cX8_fallsFrom 45 = .ok (.iload 4, 2) := by decide +kernel
theorem dX8_fallsFrom_47 : decode cX8_fallsFrom 47 = .ok (.istore 4, 2) := by decide +kernel
theorem dX8_fallsFrom_49 : decode cX8_fallsFrom 49 = .ok (.iinc 5 (-1), 3) := by decide +kernel
theorem dX8_fallsFrom_52 : decode cX8_fallsFrom 52 = .ok (.goto (-40), 3) := by decide +kernel
theorem dX8_fallsFrom_55 : decode cX8_fallsFrom 55 = .ok (.iload 4, 2) := by decide +kernel
theorem dX8_fallsFrom_57 : decode cX8_fallsFrom 57 = .ok (.ireturn, 1) := by decide +kernel
def f_X8_fallsFrom_b47 (v12_5 : Int32) (k12 : Int32 → Int32 → Option (Int32)) (t47_0 : Int32) : Option (Int32) := k12 t47_0 (v12_5 + (-1 : Int32))
def f_X8_fallsFrom_b36 (a1 : Int32) (M : xMem) (v12_4 : Int32) (v12_5 : Int32) (k12 : Int32 → Int32 → Option (Int32)) (t36_0 : Int32) : Option (Int32) := (if a1 < ((M 8 2 v12_5.toNatClampNeg) + t36_0) then (f_X8_fallsFrom_b47 v12_5 k12) v12_4 else (f_X8_fallsFrom_b47 v12_5 k12) v12_5)
def f_X8_fallsFrom_l12 (a1 : Int32) (a2 : Int32) (a3 : Int32) (M : xMem) : Nat → Int32 → Int32 → Option (Int32)
  | 0, _, _ => none
  | n + 1, v12_4, v12_5 => (if v12_5 < (0 : Int32) then some v12_4 else xchk (xb v12_5 5) ((if v12_5 = a2 then (f_X8_fallsFrom_b36 a1 M v12_4 v12_5 (f_X8_fallsFrom_l12 a1 a2 a3 M n)) a3 else (f_X8_fallsFrom_b36 a1 M v12_4 v12_5 (f_X8_fallsFrom_l12 a1 a2 a3 M n)) (0 : Int32))))
def f_X8_fallsFrom (a1 : Int32) (a2 : Int32) (a3 : Int32) (M : xMem) : Option (Int32) := (f_X8_fallsFrom_l12 a1 a2 a3 M FU) (-9 : Int32) ((M 8 0 0) - (1 : Int32))
set_option maxHeartbeats 4000000 in
set_option maxRecDepth 100000 in
theorem w_X8_fallsFrom_b47 {p : Program} {l : Launch} {e : Env} {s : State} {m : MethodId} {args : Array Value} {below : List Frame} {meth : Method} {c : Code} {G : xG} {rr : Int32} (E : xE p s m args meth c cX8_fallsFrom 6 (some .int) RX8 G) (a1 : Int32) (a2 : Int32) (a3 : Int32) (M : xMem) (L : xLL) (v12_4 : Int32) (v12_5 : Int32) (k12 : Int32 → Int32 → Option (Int32)) (hk12 : ∀ (v12_4 : Int32) (v12_5 : Int32), k12 v12_4 v12_5 = some rr → ∀ (ls : Array Slot), lv_has ls 6 [(0, .ref (xq G 8 0)), (1, .int a1), (2, .int a2), (3, .int a3), (4, .int v12_4), (5, .int v12_5)] → ∀ (H : Heap) (locs : List Loc), xI G M L s.heap H locs → W p l e (xR 1) s m args below meth c H locs 0 0 (MQ below (xQi G rr M L s.heap.size) args s 0 0 (xZ G s.heap.size)) (F0 m 12 ls [])) : ∀ (t47_0 : Int32), f_X8_fallsFrom_b47 v12_5 k12 t47_0 = some rr → ∀ (ls : Array Slot), lv_has ls 6 [(0, .ref (xq G 8 0)), (1, .int a1), (2, .int a2), (3, .int a3), (5, .int v12_5)] → ∀ (H : Heap) (locs : List Loc), xI G M L s.heap H locs → W p l e (xR 1) s m args below meth c H locs 0 0 (MQ below (xQi G rr M L s.heap.size) args s 0 0 (xZ G s.heap.size)) (F0 m 47 ls [.int t47_0]) := by
  have hx := E.1
  have hb := E.2.1
  intro t47_0 hf ls hl H locs hI
  rw [f_X8_fallsFrom_b47] at hf
  refine lv_istore (lv' := [(4, .int t47_0), (0, .ref (xq G 8 0)), (1, .int a1), (2, .int a2), (3, .int a3), (5, .int v12_5)]) hx hb dX8_fallsFrom_47 hl (by decide) rfl (fun ls hl => ?_)
  refine lv_iinc (v := (v12_5 + (-1 : Int32))) (lv' := [(5, .int (v12_5 + (-1 : Int32))), (4, .int t47_0), (0, .ref (xq G 8 0)), (1, .int a1), (2, .int a2), (3, .int a3)]) hx hb dX8_fallsFrom_49 hl (k := 5) rfl rfl (by decide) rfl (fun ls hl => ?_)
  refine lv_goto (tgt := 12) hx hb dX8_fallsFrom_52 (by decide) ?_
  exact hk12 t47_0 (v12_5 + (-1 : Int32)) hf _ (lv_sub hl [2, 3, 4, 5, 1, 0] rfl) _ _ hI
set_option maxHeartbeats 4000000 in
set_option maxRecDepth 100000 in
theorem w_X8_fallsFrom_b36 {p : Program} {l : Launch} {e : Env} {s : State} {m : MethodId} {args : Array Value} {below : List Frame} {meth : Method} {c : Code} {G : xG} {rr : Int32} (E : xE p s m args meth c cX8_fallsFrom 6 (some .int) RX8 G) (a1 : Int32) (a2 : Int32) (a3 : Int32) (M : xMem) (L : xLL) (v12_4 : Int32) (v12_5 : Int32) (k12 : Int32 → Int32 → Option (Int32)) (hk12 : ∀ (v12_4 : Int32) (v12_5 : Int32), k12 v12_4 v12_5 = some rr → ∀ (ls : Array Slot), lv_has ls 6 [(0, .ref (xq G 8 0)), (1, .int a1), (2, .int a2), (3, .int a3), (4, .int v12_4), (5, .int v12_5)] → ∀ (H : Heap) (locs : List Loc), xI G M L s.heap H locs → W p l e (xR 1) s m args below meth c H locs 0 0 (MQ below (xQi G rr M L s.heap.size) args s 0 0 (xZ G s.heap.size)) (F0 m 12 ls [])) : ∀ (t36_0 : Int32), f_X8_fallsFrom_b36 a1 M v12_4 v12_5 k12 t36_0 = some rr → ∀ (ls : Array Slot), lv_has ls 6 [(0, .ref (xq G 8 0)), (1, .int a1), (2, .int a2), (3, .int a3), (4, .int v12_4), (5, .int v12_5)] → ∀ (H : Heap) (locs : List Loc), xI G M L s.heap H locs → W p l e (xR 1) s m args below meth c H locs 0 0 (MQ below (xQi G rr M L s.heap.size) args s 0 0 (xZ G s.heap.size)) (F0 m 36 ls [.int t36_0, .int (M 8 2 v12_5.toNatClampNeg), .int a1]) := by
  have hx := E.1
  have hb := E.2.1
  intro t36_0 hf ls hl H locs hI
  rw [f_X8_fallsFrom_b36] at hf
  refine lv_iadd hx hb dX8_fallsFrom_36 ?_
  refine lv_icmp_lt (tgt := 45) hx hb dX8_fallsFrom_37 (by decide) (fun c37 => ?_) (fun c37 => ?_)
  · replace hf := xif_t c37 hf
    refine lv_iload hx hb dX8_fallsFrom_45 (lv_at hl 4 rfl) ?_
    exact (w_X8_fallsFrom_b47 E (a1 := a1) (a2 := a2) (a3 := a3) (M := M) (L := L) (v12_4 := v12_4) (v12_5 := v12_5) (k12 := k12) (hk12 := hk12)) v12_4 hf _ (lv_sub hl [0, 1, 2, 3, 5] rfl) _ _ hI
  · replace hf := xif_f c37 hf
    refine lv_iload hx hb dX8_fallsFrom_40 (lv_at hl 5 rfl) ?_
    refine lv_goto (tgt := 47) hx hb dX8_fallsFrom_42 (by decide) ?_
    exact (w_X8_fallsFrom_b47 E (a1 := a1) (a2 := a2) (a3 := a3) (M := M) (L := L) (v12_4 := v12_4) (v12_5 := v12_5) (k12 := k12) (hk12 := hk12)) v12_5 hf _ (lv_sub hl [0, 1, 2, 3, 5] rfl) _ _ hI
set_option maxHeartbeats 4000000 in
set_option maxRecDepth 100000 in
theorem w_X8_fallsFrom_l12 {p : Program} {l : Launch} {e : Env} {s : State} {m : MethodId} {args : Array Value} {below : List Frame} {meth : Method} {c : Code} {G : xG} {rr : Int32} (E : xE p s m args meth c cX8_fallsFrom 6 (some .int) RX8 G) (a1 : Int32) (a2 : Int32) (a3 : Int32) (M : xMem) (L : xLL) : ∀ (n : Nat), ∀ (v12_4 : Int32) (v12_5 : Int32), f_X8_fallsFrom_l12 a1 a2 a3 M n v12_4 v12_5 = some rr → ∀ (ls : Array Slot), lv_has ls 6 [(0, .ref (xq G 8 0)), (1, .int a1), (2, .int a2), (3, .int a3), (4, .int v12_4), (5, .int v12_5)] → ∀ (H : Heap) (locs : List Loc), xI G M L s.heap H locs → W p l e (xR 1) s m args below meth c H locs 0 0 (MQ below (xQi G rr M L s.heap.size) args s 0 0 (xZ G s.heap.size)) (F0 m 12 ls []) := by
  have hx := E.1
  have hb := E.2.1
  intro n
  induction n with
  | zero =>
    intro v12_4 v12_5 hf
    exact absurd hf (by simp [f_X8_fallsFrom_l12])
  | succ n ih =>
    intro v12_4 v12_5 hf ls hl H locs hI
    rw [f_X8_fallsFrom_l12] at hf
    refine lv_iload hx hb dX8_fallsFrom_12 (lv_at hl 5 rfl) ?_
    refine lv_if_lt (tgt := 55) hx hb dX8_fallsFrom_14 (by decide) (fun c14 => ?_) (fun c14 => ?_)
    · replace hf := xif_t c14 hf
      refine lv_iload hx hb dX8_fallsFrom_55 (lv_at hl 4 rfl) ?_
      obtain rfl := xinj1 hf
      exact x_iret E hI rfl dX8_fallsFrom_57
    · replace hf := xif_f c14 hf
      refine lv_iload_n hx hb dX8_fallsFrom_17 rfl (lv_at hl 1 rfl) ?_
      refine lv_aload_n hx hb dX8_fallsFrom_18 rfl (lv_at hl 0 rfl) ?_
      refine gf_X8_7 E hI dX8_fallsFrom_19 ?_
      refine lv_iload hx hb dX8_fallsFrom_22 (lv_at hl 5 rfl) ?_
      obtain ⟨h24b, hf⟩ := xchk_s hf
      refine x_iald (n := 5) E hI mx_8_2 (fun _ _ => rfl) h24b dX8_fallsFrom_24 ?_
      refine lv_iload hx hb dX8_fallsFrom_25 (lv_at hl 5 rfl) ?_
      refine lv_iload_n hx hb dX8_fallsFrom_27 rfl (lv_at hl 2 rfl) ?_
      refine lv_icmp_ne (tgt := 35) hx hb dX8_fallsFrom_28 (by decide) (fun c28 => ?_) (fun c28 => ?_)
      · replace hf := xif_f c28 hf
        refine lv_iconst (v := 0) hx hb dX8_fallsFrom_35 (by decide) ?_
        exact (w_X8_fallsFrom_b36 E (a1 := a1) (a2 := a2) (a3 := a3) (M := M) (L := L) (v12_4 := v12_4) (v12_5 := v12_5) (k12 := (f_X8_fallsFrom_l12 a1 a2 a3 M n)) (hk12 := ih)) (0 : Int32) hf _ (lv_sub hl [0, 1, 2, 3, 4, 5] rfl) _ _ hI
      · replace hf := xif_t c28 hf
        refine lv_iload_n hx hb dX8_fallsFrom_31 rfl (lv_at hl 3 rfl) ?_
        refine lv_goto (tgt := 36) hx hb dX8_fallsFrom_32 (by decide) ?_
        exact (w_X8_fallsFrom_b36 E (a1 := a1) (a2 := a2) (a3 := a3) (M := M) (L := L) (v12_4 := v12_4) (v12_5 := v12_5) (k12 := (f_X8_fallsFrom_l12 a1 a2 a3 M n)) (hk12 := ih)) a3 hf _ (lv_sub hl [0, 1, 2, 3, 4, 5] rfl) _ _ hI
set_option maxHeartbeats 4000000 in
set_option maxRecDepth 100000 in
theorem c_X8_fallsFrom (l : Launch) (G : xG) (sz : Nat) (M : xMem) (L : xLL) (a1 : Int32) (a2 : Int32) (a3 : Int32) {rr : Int32} (hf : f_X8_fallsFrom a1 a2 a3 M = some rr) : Met l yX8_fallsFrom (Cond.code yX8_fallsFrom cX8_fallsFrom 6 (some .int) :: xTB) (xR 1) (xP G M L sz [.ref (xq G 8 0), .int a1, .int a2, .int a3]) (xQi G rr M L sz) 0 0 (xZ G sz) := by
  refine x_met (cc := cX8_fallsFrom) (nL := 6) (rt := (some .int)) (by decide) (Nat.le_of_ble_eq_true rfl) ?_
  intro p e s m below meth c ls hsz E hl hI
  subst hsz
  have E : xE p s m _ meth c cX8_fallsFrom 6 (some .int) RX8 G := E
  have hx := E.1
  have hb := E.2.1
  have hl : lv_has ls 6 [(0, .ref (xq G 8 0)), (1, .int a1), (2, .int a2), (3, .int a3)] := hl
  rw [f_X8_fallsFrom] at hf
  refine lv_bipush (v := -9) hx hb dX8_fallsFrom_0 (by decide) ?_
  refine lv_istore (lv' := [(4, .int (-9 : Int32)), (0, .ref (xq G 8 0)), (1, .int a1), (2, .int a2), (3, .int a3)]) hx hb dX8_fallsFrom_2 hl (by decide) rfl (fun ls hl => ?_)
  refine lv_aload_n hx hb dX8_fallsFrom_4 rfl (lv_at hl 1 rfl) ?_
  refine gf_X8_62 E hI dX8_fallsFrom_5 ?_
  refine lv_iconst (v := 1) hx hb dX8_fallsFrom_8 (by decide) ?_
  refine lv_isub hx hb dX8_fallsFrom_9 ?_
  refine lv_istore (lv' := [(5, .int ((M 8 0 0) - (1 : Int32))), (4, .int (-9 : Int32)), (0, .ref (xq G 8 0)), (1, .int a1), (2, .int a2), (3, .int a3)]) hx hb dX8_fallsFrom_10 hl (by decide) rfl (fun ls hl => ?_)
  exact (w_X8_fallsFrom_l12 E (a1 := a1) (a2 := a2) (a3 := a3) (M := M) (L := L) FU) (-9 : Int32) ((M 8 0 0) - (1 : Int32)) hf _ (lv_sub hl [2, 3, 4, 5, 1, 0] rfl) _ _ hI
theorem dX8_isSo_0 : decode cX8_isSo 0 = .ok (.iconst 1, 1) := by decide +kernel
theorem dX8_isSo_1 : decode cX8_isSo 1 = .ok (.istore_n 3, 1) := by decide +kernel
theorem dX8_isSo_2 : decode cX8_isSo 2 = .ok (.iconst 0, 1) := by decide +kernel
theorem dX8_isSo_3 : decode cX8_isSo 3 = .ok (.istore 4, 2) := by decide +kernel
theorem dX8_isSo_5 : decode cX8_isSo 5 = .ok (.iload 4, 2) := by decide +kernel
theorem dX8_isSo_7 : decode cX8_isSo 7 = .ok (.aload_n 0, 1) := by decide +kernel
theorem dX8_isSo_8 : decode cX8_isSo 8 = .ok (.getfield 125, 3) := by decide +kernel
theorem dX8_isSo_11 : decode cX8_isSo 11 = .ok (.if_icmp .ge 48, 3) := by decide +kernel
theorem dX8_isSo_14 : decode cX8_isSo 14 = .ok (.iload_n 3, 1) := by decide +kernel
theorem dX8_isSo_15 : decode cX8_isSo 15 = .ok (.ifCond .eq 36, 3) := by decide +kernel
theorem dX8_isSo_18 : decode cX8_isSo 18 = .ok (.aload_n 0, 1) := by decide +kernel
theorem dX8_isSo_19 : decode cX8_isSo 19 = .ok (.aload_n 0, 1) := by decide +kernel
theorem dX8_isSo_20 : decode cX8_isSo 20 = .ok (.getfield 35, 3) := by decide +kernel
theorem dX8_isSo_23 : decode cX8_isSo 23 = .ok (.iconst 2, 1) := by decide +kernel
theorem dX8_isSo_24 : decode cX8_isSo 24 = .ok (.iload 4, 2) := by decide +kernel
theorem dX8_isSo_26 : decode cX8_isSo 26 = .ok (.imul, 1) := by decide +kernel
theorem dX8_isSo_27 : decode cX8_isSo 27 = .ok (.iaload, 1) := by decide +kernel
theorem dX8_isSo_28 : decode cX8_isSo 28 = .ok (.iload_n 1, 1) := by decide +kernel
theorem dX8_isSo_29 : decode cX8_isSo 29 = .ok (.iload_n 2, 1) := by decide +kernel
theorem dX8_isSo_30 : decode cX8_isSo 30 = .ok (.invokevirtual 201, 3) := by decide +kernel
theorem dX8_isSo_33 : decode cX8_isSo 33 = .ok (.aload_n 0, 1) := by decide +kernel
theorem dX8_isSo_34 : decode cX8_isSo 34 = .ok (.getfield 35, 3) := by decide +kernel
theorem dX8_isSo_37 : decode cX8_isSo 37 = .ok (.iconst 2, 1) := by decide +kernel
theorem dX8_isSo_38 : decode cX8_isSo 38 = .ok (.iload 4, 2) := by decide +kernel
theorem dX8_isSo_40 : decode cX8_isSo 40 = .ok (.imul, 1) := by decide +kernel
theorem dX8_isSo_41 : decode cX8_isSo 41 = .ok (.iconst 1, 1) := by decide +kernel
theorem dX8_isSo_42 : decode cX8_isSo 42 = .ok (.iadd, 1) := by decide +kernel
theorem dX8_isSo_43 : decode cX8_isSo 43 = .ok (.iaload, 1) := by decide +kernel
theorem dX8_isSo_44 : decode cX8_isSo 44 = .ok (.if_icmp .ne 7, 3) := by decide +kernel
theorem dX8_isSo_47 : decode cX8_isSo 47 = .ok (.iconst 1, 1) := by decide +kernel
theorem dX8_isSo_48 : decode cX8_isSo 48 = .ok (.goto 4, 3) := by decide +kernel
theorem dX8_isSo_51 : decode cX8_isSo 51 = .ok (.iconst 0, 1) := by decide +kernel
theorem dX8_isSo_52 : decode cX8_isSo 52 = .ok (.istore_n 3, 1) := by decide +kernel
theorem dX8_isSo_53 : decode cX8_isSo 53 = .ok (.iinc 4 1, 3) := by decide +kernel
theorem dX8_isSo_56 : decode cX8_isSo 56 = .ok (.goto (-51), 3) := by decide +kernel
theorem dX8_isSo_59 : decode cX8_isSo 59 = .ok (.iload_n 3, 1) := by decide +kernel
theorem dX8_isSo_60 : decode cX8_isSo 60 = .ok (.ireturn, 1) := by decide +kernel
def f_X8_isSo_b52 (v5_4 : Int32) (k5 : Int32 → Int32 → Option (Int32)) (t52_0 : Int32) : Option (Int32) := k5 t52_0 (v5_4 + (1 : Int32))
def f_X8_isSo_b51 (k52 : Int32 → Option (Int32)) : Option (Int32) := k52 (0 : Int32)
def f_X8_isSo_l5 (a1 : Int32) (a2 : Int32) (M : xMem) : Nat → Int32 → Int32 → Option (Int32)
  | 0, _, _ => none
  | n + 1, v5_3, v5_4 => (if (M 8 0 11) ≤ v5_4 then xchk (xbo v5_3) (some v5_3) else (if v5_3 = (0 : Int32) then (f_X8_isSo_b51 (f_X8_isSo_b52 v5_4 (f_X8_isSo_l5 a1 a2 M n))) else xchk (xb ((2 : Int32) * v5_4) 12) (xb1 (f_X8_fallsFrom (M 8 13 ((2 : Int32) * v5_4).toNatClampNeg) a1 a2 M) (fun r30 => xchk (xb (((2 : Int32) * v5_4) + (1 : Int32)) 12) ((if r30 = (M 8 13 (((2 : Int32) * v5_4) + (1 : Int32)).toNatClampNeg) then (f_X8_isSo_b52 v5_4 (f_X8_isSo_l5 a1 a2 M n)) (1 : Int32) else (f_X8_isSo_b51 (f_X8_isSo_b52 v5_4 (f_X8_isSo_l5 a1 a2 M n)))))))))
def f_X8_isSo (a1 : Int32) (a2 : Int32) (M : xMem) : Option (Int32) := (f_X8_isSo_l5 a1 a2 M FU) (1 : Int32) (0 : Int32)
set_option maxHeartbeats 4000000 in
set_option maxRecDepth 100000 in
theorem w_X8_isSo_b52 {p : Program} {l : Launch} {e : Env} {s : State} {m : MethodId} {args : Array Value} {below : List Frame} {meth : Method} {c : Code} {G : xG} {rr : Int32} (E : xE p s m args meth c cX8_isSo 5 (some .boolean) RX8 G) (a1 : Int32) (a2 : Int32) (M : xMem) (L : xLL) (v5_3 : Int32) (v5_4 : Int32) (k5 : Int32 → Int32 → Option (Int32)) (hk5 : ∀ (v5_3 : Int32) (v5_4 : Int32), k5 v5_3 v5_4 = some rr → ∀ (ls : Array Slot), lv_has ls 5 [(0, .ref (xq G 8 0)), (1, .int a1), (2, .int a2), (3, .int v5_3), (4, .int v5_4)] → ∀ (H : Heap) (locs : List Loc), xI G M L s.heap H locs → W p l e (xR 2) s m args below meth c H locs 0 0 (MQ below (xQi G rr M L s.heap.size) args s 0 0 (xZ G s.heap.size)) (F0 m 5 ls [])) : ∀ (t52_0 : Int32), f_X8_isSo_b52 v5_4 k5 t52_0 = some rr → ∀ (ls : Array Slot), lv_has ls 5 [(0, .ref (xq G 8 0)), (1, .int a1), (2, .int a2), (4, .int v5_4)] → ∀ (H : Heap) (locs : List Loc), xI G M L s.heap H locs → W p l e (xR 2) s m args below meth c H locs 0 0 (MQ below (xQi G rr M L s.heap.size) args s 0 0 (xZ G s.heap.size)) (F0 m 52 ls [.int t52_0]) := by
  have hx := E.1
  have hb := E.2.1
  intro t52_0 hf ls hl H locs hI
  rw [f_X8_isSo_b52] at hf
  refine lv_istore_n (lv' := [(3, .int t52_0), (0, .ref (xq G 8 0)), (1, .int a1), (2, .int a2), (4, .int v5_4)]) hx hb dX8_isSo_52 rfl hl (by decide) rfl (fun ls hl => ?_)
  refine lv_iinc (v := (v5_4 + (1 : Int32))) (lv' := [(4, .int (v5_4 + (1 : Int32))), (3, .int t52_0), (0, .ref (xq G 8 0)), (1, .int a1), (2, .int a2)]) hx hb dX8_isSo_53 hl (k := 4) rfl rfl (by decide) rfl (fun ls hl => ?_)
  refine lv_goto (tgt := 5) hx hb dX8_isSo_56 (by decide) ?_
  exact hk5 t52_0 (v5_4 + (1 : Int32)) hf _ (lv_sub hl [2, 3, 4, 1, 0] rfl) _ _ hI
set_option maxHeartbeats 4000000 in
set_option maxRecDepth 100000 in
theorem w_X8_isSo_b51 {p : Program} {l : Launch} {e : Env} {s : State} {m : MethodId} {args : Array Value} {below : List Frame} {meth : Method} {c : Code} {G : xG} {rr : Int32} (E : xE p s m args meth c cX8_isSo 5 (some .boolean) RX8 G) (a1 : Int32) (a2 : Int32) (M : xMem) (L : xLL) (v5_4 : Int32) (k52 : Int32 → Option (Int32)) (hk52 : ∀ (t52_0 : Int32), k52 t52_0 = some rr → ∀ (ls : Array Slot), lv_has ls 5 [(0, .ref (xq G 8 0)), (1, .int a1), (2, .int a2), (4, .int v5_4)] → ∀ (H : Heap) (locs : List Loc), xI G M L s.heap H locs → W p l e (xR 2) s m args below meth c H locs 0 0 (MQ below (xQi G rr M L s.heap.size) args s 0 0 (xZ G s.heap.size)) (F0 m 52 ls [.int t52_0])) : f_X8_isSo_b51 k52  = some rr → ∀ (ls : Array Slot), lv_has ls 5 [(0, .ref (xq G 8 0)), (1, .int a1), (2, .int a2), (4, .int v5_4)] → ∀ (H : Heap) (locs : List Loc), xI G M L s.heap H locs → W p l e (xR 2) s m args below meth c H locs 0 0 (MQ below (xQi G rr M L s.heap.size) args s 0 0 (xZ G s.heap.size)) (F0 m 51 ls []) := by
  have hx := E.1
  have hb := E.2.1
  intro  hf ls hl H locs hI
  rw [f_X8_isSo_b51] at hf
  refine lv_iconst (v := 0) hx hb dX8_isSo_51 (by decide) ?_
  exact hk52 (0 : Int32) hf _ (lv_sub hl [0, 1, 2, 3] rfl) _ _ hI
set_option maxHeartbeats 4000000 in
set_option maxRecDepth 100000 in
theorem w_X8_isSo_l5 {p : Program} {l : Launch} {e : Env} {s : State} {m : MethodId} {args : Array Value} {below : List Frame} {meth : Method} {c : Code} {G : xG} {rr : Int32} (E : xE p s m args meth c cX8_isSo 5 (some .boolean) RX8 G) (a1 : Int32) (a2 : Int32) (M : xMem) (L : xLL) : ∀ (n : Nat), ∀ (v5_3 : Int32) (v5_4 : Int32), f_X8_isSo_l5 a1 a2 M n v5_3 v5_4 = some rr → ∀ (ls : Array Slot), lv_has ls 5 [(0, .ref (xq G 8 0)), (1, .int a1), (2, .int a2), (3, .int v5_3), (4, .int v5_4)] → ∀ (H : Heap) (locs : List Loc), xI G M L s.heap H locs → W p l e (xR 2) s m args below meth c H locs 0 0 (MQ below (xQi G rr M L s.heap.size) args s 0 0 (xZ G s.heap.size)) (F0 m 5 ls []) := by
  have hx := E.1
  have hb := E.2.1
  intro n
  induction n with
  | zero =>
    intro v5_3 v5_4 hf
    exact absurd hf (by simp [f_X8_isSo_l5])
  | succ n ih =>
    intro v5_3 v5_4 hf ls hl H locs hI
    rw [f_X8_isSo_l5] at hf
    refine lv_iload hx hb dX8_isSo_5 (lv_at hl 4 rfl) ?_
    refine lv_aload_n hx hb dX8_isSo_7 rfl (lv_at hl 0 rfl) ?_
    refine gf_X8_125 E hI dX8_isSo_8 ?_
    refine lv_icmp_ge (tgt := 59) hx hb dX8_isSo_11 (by decide) (fun c11 => ?_) (fun c11 => ?_)
    · replace hf := xif_t c11 hf
      refine lv_iload_n hx hb dX8_isSo_59 rfl (lv_at hl 3 rfl) ?_
      obtain ⟨h60n, hf⟩ := xchk_s hf
      obtain rfl := xinj1 hf
      exact x_zret E hI (xbo_s h60n) rfl dX8_isSo_60
    · replace hf := xif_f c11 hf
      refine lv_iload_n hx hb dX8_isSo_14 rfl (lv_at hl 3 rfl) ?_
      refine lv_if_eq (tgt := 51) hx hb dX8_isSo_15 (by decide) (fun c15 => ?_) (fun c15 => ?_)
      · replace hf := xif_t c15 hf
        exact (w_X8_isSo_b51 E (a1 := a1) (a2 := a2) (M := M) (L := L) (v5_4 := v5_4) (k52 := (f_X8_isSo_b52 v5_4 (f_X8_isSo_l5 a1 a2 M n))) (hk52 := (w_X8_isSo_b52 E (a1 := a1) (a2 := a2) (M := M) (L := L) (v5_3 := v5_3) (v5_4 := v5_4) (k5 := (f_X8_isSo_l5 a1 a2 M n)) (hk5 := ih))))  hf _ (lv_sub hl [0, 1, 2, 4] rfl) _ _ hI
      · replace hf := xif_f c15 hf
        refine lv_aload_n hx hb dX8_isSo_18 rfl (lv_at hl 0 rfl) ?_
        refine lv_aload_n hx hb dX8_isSo_19 rfl (lv_at hl 0 rfl) ?_
        refine gf_X8_35 E hI dX8_isSo_20 ?_
        refine lv_iconst (v := 2) hx hb dX8_isSo_23 (by decide) ?_
        refine lv_iload hx hb dX8_isSo_24 (lv_at hl 4 rfl) ?_
        refine lv_imul hx hb dX8_isSo_26 ?_
        obtain ⟨h27b, hf⟩ := xchk_s hf
        refine x_iald (n := 12) E hI mx_8_13 (fun _ _ => rfl) h27b dX8_isSo_27 ?_
        refine lv_iload_n hx hb dX8_isSo_28 rfl (lv_at hl 1 rfl) ?_
        refine lv_iload_n hx hb dX8_isSo_29 rfl (lv_at hl 2 rfl) ?_
        obtain ⟨r30, g30, hf⟩ := xb1_s hf
        refine x_callVi (As := [.int (M 8 13 ((2 : Int32) * v5_4).toNatClampNeg), .int a1, .int a2]) (rest := []) E hI mx_8_0 rfl rfl rfl (c_X8_fallsFrom l G _ (M := M) (L := L) (a1 := (M 8 13 ((2 : Int32) * v5_4).toNatClampNeg)) (a2 := a1) (a3 := a2) g30) yv_X8_fallsFrom ml_X8_201 (by decide) (by decide) rfl rfl hl.1 (Nat.le_of_ble_eq_true rfl) dX8_isSo_30 (fun H locs hI => ?_)
        refine lv_aload_n hx hb dX8_isSo_33 rfl (lv_at hl 0 rfl) ?_
        refine gf_X8_35 E hI dX8_isSo_34 ?_
        refine lv_iconst (v := 2) hx hb dX8_isSo_37 (by decide) ?_
        refine lv_iload hx hb dX8_isSo_38 (lv_at hl 4 rfl) ?_
        refine lv_imul hx hb dX8_isSo_40 ?_
        refine lv_iconst (v := 1) hx hb dX8_isSo_41 (by decide) ?_
        refine lv_iadd hx hb dX8_isSo_42 ?_
        obtain ⟨h43b, hf⟩ := xchk_s hf
        refine x_iald (n := 12) E hI mx_8_13 (fun _ _ => rfl) h43b dX8_isSo_43 ?_
        refine lv_icmp_ne (tgt := 51) hx hb dX8_isSo_44 (by decide) (fun c44 => ?_) (fun c44 => ?_)
        · replace hf := xif_f c44 hf
          exact (w_X8_isSo_b51 E (a1 := a1) (a2 := a2) (M := M) (L := L) (v5_4 := v5_4) (k52 := (f_X8_isSo_b52 v5_4 (f_X8_isSo_l5 a1 a2 M n))) (hk52 := (w_X8_isSo_b52 E (a1 := a1) (a2 := a2) (M := M) (L := L) (v5_3 := v5_3) (v5_4 := v5_4) (k5 := (f_X8_isSo_l5 a1 a2 M n)) (hk5 := ih))))  hf _ (lv_sub hl [0, 1, 2, 4] rfl) _ _ hI
        · replace hf := xif_t c44 hf
          refine lv_iconst (v := 1) hx hb dX8_isSo_47 (by decide) ?_
          refine lv_goto (tgt := 52) hx hb dX8_isSo_48 (by decide) ?_
          exact (w_X8_isSo_b52 E (a1 := a1) (a2 := a2) (M := M) (L := L) (v5_3 := v5_3) (v5_4 := v5_4) (k5 := (f_X8_isSo_l5 a1 a2 M n)) (hk5 := ih)) (1 : Int32) hf _ (lv_sub hl [0, 1, 2, 4] rfl) _ _ hI
set_option maxHeartbeats 4000000 in
set_option maxRecDepth 100000 in
theorem c_X8_isSo (l : Launch) (G : xG) (sz : Nat) (M : xMem) (L : xLL) (a1 : Int32) (a2 : Int32) {rr : Int32} (hf : f_X8_isSo a1 a2 M = some rr) : Met l yX8_isSo (Cond.code yX8_isSo cX8_isSo 5 (some .boolean) :: xTB) (xR 2) (xP G M L sz [.ref (xq G 8 0), .int a1, .int a2]) (xQi G rr M L sz) 0 0 (xZ G sz) := by
  refine x_met (cc := cX8_isSo) (nL := 5) (rt := (some .boolean)) (by decide) (Nat.le_of_ble_eq_true rfl) ?_
  intro p e s m below meth c ls hsz E hl hI
  subst hsz
  have E : xE p s m _ meth c cX8_isSo 5 (some .boolean) RX8 G := E
  have hx := E.1
  have hb := E.2.1
  have hl : lv_has ls 5 [(0, .ref (xq G 8 0)), (1, .int a1), (2, .int a2)] := hl
  rw [f_X8_isSo] at hf
  refine lv_iconst (v := 1) hx hb dX8_isSo_0 (by decide) ?_
  refine lv_istore_n (lv' := [(3, .int (1 : Int32)), (0, .ref (xq G 8 0)), (1, .int a1), (2, .int a2)]) hx hb dX8_isSo_1 rfl hl (by decide) rfl (fun ls hl => ?_)
  refine lv_iconst (v := 0) hx hb dX8_isSo_2 (by decide) ?_
  refine lv_istore (lv' := [(4, .int (0 : Int32)), (3, .int (1 : Int32)), (0, .ref (xq G 8 0)), (1, .int a1), (2, .int a2)]) hx hb dX8_isSo_3 hl (by decide) rfl (fun ls hl => ?_)
  exact (w_X8_isSo_l5 E (a1 := a1) (a2 := a2) (M := M) (L := L) FU) (1 : Int32) (0 : Int32) hf _ (lv_sub hl [2, 3, 4, 1, 0] rfl) _ _ hI
theorem dX8_waysOff_0 : decode cX8_waysOff 0 = .ok (.iconst 0, 1) := by decide +kernel
theorem dX8_waysOff_1 : decode cX8_waysOff 1 = .ok (.istore_n 2, 1) := by decide +kernel
theorem dX8_waysOff_2 : decode cX8_waysOff 2 = .ok (.bipush (-9), 2) := by decide +kernel
theorem dX8_waysOff_4 : decode cX8_waysOff 4 = .ok (.istore_n 3, 1) := by decide +kernel
theorem dX8_waysOff_5 : decode cX8_waysOff 5 = .ok (.iload_n 3, 1) := by decide +kernel
theorem dX8_waysOff_6 : decode cX8_waysOff 6 = .ok (.bipush 9, 2) := by decide +kernel
theorem dX8_waysOff_8 : decode cX8_waysOff 8 = .ok (.if_icmp .gt 30, 3) := by decide +kernel
theorem dX8_waysOff_11 : decode cX8_waysOff 11 = .ok (.iload_n 2, 1) := by decide +kernel
theorem dX8_waysOff_12 : decode cX8_waysOff 12 = .ok (.iload_n 3, 1) := by decide +kernel
theorem dX8_waysOff_13 : decode cX8_waysOff 13 = .ok (.ifCond .eq 16, 3) := by decide +kernel
theorem dX8_waysOff_16 : decode cX8_waysOff 16 = .ok (.aload_n 0, 1) := by decide +kernel
theorem dX8_waysOff_17 : decode cX8_waysOff 17 = .ok (.iload_n 1, 1) := by decide +kernel
theorem dX8_waysOff_18 : decode cX8_waysOff 18 = .ok (.iload_n 3, 1) := by decide +kernel
theorem dX8_waysOff_19 : decode cX8_waysOff 19 = .ok (.invokevirtual 204, 3) := by decide +kernel
theorem dX8_waysOff_22 : decode cX8_waysOff 22 = .ok (.ifCond .eq 7, 3) := by decide +kernel
theorem dX8_waysOff_25 : decode cX8_waysOff 25 = .ok (.iconst 1, 1) := by decide +kernel
theorem dX8_waysOff_26 : decode cX8_waysOff 26 = .ok (.goto 4, 3) := by decide +kernel
theorem dX8_waysOff_29 : decode cX8_waysOff 29 = .ok (.iconst 0, 1) := by decide +kernel
theorem dX8_waysOff_30 : decode cX8_waysOff 30 = .ok (.iadd, 1) := by decide +kernel
theorem dX8_waysOff_31 : decode cX8_waysOff 31 = .ok (.istore_n 2, 1) := by decide +kernel
theorem dX8_waysOff_32 : decode cX8_waysOff 32 = .ok (.iinc 3 1, 3) := by decide +kernel
theorem dX8_waysOff_35 : decode cX8_waysOff 35 = .ok (.goto (-30), 3) := by decide +kernel
theorem dX8_waysOff_38 : decode cX8_waysOff 38 = .ok (.iload_n 2, 1) := by decide +kernel
theorem dX8_waysOff_39 : decode cX8_waysOff 39 = .ok (.ireturn, 1) := by decide +kernel
def f_X8_waysOff_b30 (v5_2 : Int32) (v5_3 : Int32) (k5 : Int32 → Int32 → Option (Int32)) (t30_0 : Int32) : Option (Int32) := k5 (v5_2 + t30_0) (v5_3 + (1 : Int32))
def f_X8_waysOff_b29 (k30 : Int32 → Option (Int32)) : Option (Int32) := k30 (0 : Int32)
def f_X8_waysOff_l5 (a1 : Int32) (M : xMem) : Nat → Int32 → Int32 → Option (Int32)
  | 0, _, _ => none
  | n + 1, v5_2, v5_3 => (if (9 : Int32) < v5_3 then some v5_2 else (if v5_3 = (0 : Int32) then (f_X8_waysOff_b29 (f_X8_waysOff_b30 v5_2 v5_3 (f_X8_waysOff_l5 a1 M n))) else xb1 (f_X8_isSo a1 v5_3 M) (fun r19 => (if r19 = (0 : Int32) then (f_X8_waysOff_b29 (f_X8_waysOff_b30 v5_2 v5_3 (f_X8_waysOff_l5 a1 M n))) else (f_X8_waysOff_b30 v5_2 v5_3 (f_X8_waysOff_l5 a1 M n)) (1 : Int32)))))
def f_X8_waysOff (a1 : Int32) (M : xMem) : Option (Int32) := (f_X8_waysOff_l5 a1 M FU) (0 : Int32) (-9 : Int32)
set_option maxHeartbeats 4000000 in
set_option maxRecDepth 100000 in
theorem w_X8_waysOff_b30 {p : Program} {l : Launch} {e : Env} {s : State} {m : MethodId} {args : Array Value} {below : List Frame} {meth : Method} {c : Code} {G : xG} {rr : Int32} (E : xE p s m args meth c cX8_waysOff 4 (some .int) RX8 G) (a1 : Int32) (M : xMem) (L : xLL) (v5_2 : Int32) (v5_3 : Int32) (k5 : Int32 → Int32 → Option (Int32)) (hk5 : ∀ (v5_2 : Int32) (v5_3 : Int32), k5 v5_2 v5_3 = some rr → ∀ (ls : Array Slot), lv_has ls 4 [(0, .ref (xq G 8 0)), (1, .int a1), (2, .int v5_2), (3, .int v5_3)] → ∀ (H : Heap) (locs : List Loc), xI G M L s.heap H locs → W p l e (xR 3) s m args below meth c H locs 0 0 (MQ below (xQi G rr M L s.heap.size) args s 0 0 (xZ G s.heap.size)) (F0 m 5 ls [])) : ∀ (t30_0 : Int32), f_X8_waysOff_b30 v5_2 v5_3 k5 t30_0 = some rr → ∀ (ls : Array Slot), lv_has ls 4 [(0, .ref (xq G 8 0)), (1, .int a1), (3, .int v5_3)] → ∀ (H : Heap) (locs : List Loc), xI G M L s.heap H locs → W p l e (xR 3) s m args below meth c H locs 0 0 (MQ below (xQi G rr M L s.heap.size) args s 0 0 (xZ G s.heap.size)) (F0 m 30 ls [.int t30_0, .int v5_2]) := by
  have hx := E.1
  have hb := E.2.1
  intro t30_0 hf ls hl H locs hI
  rw [f_X8_waysOff_b30] at hf
  refine lv_iadd hx hb dX8_waysOff_30 ?_
  refine lv_istore_n (lv' := [(2, .int (v5_2 + t30_0)), (0, .ref (xq G 8 0)), (1, .int a1), (3, .int v5_3)]) hx hb dX8_waysOff_31 rfl hl (by decide) rfl (fun ls hl => ?_)
  refine lv_iinc (v := (v5_3 + (1 : Int32))) (lv' := [(3, .int (v5_3 + (1 : Int32))), (2, .int (v5_2 + t30_0)), (0, .ref (xq G 8 0)), (1, .int a1)]) hx hb dX8_waysOff_32 hl (k := 3) rfl rfl (by decide) rfl (fun ls hl => ?_)
  refine lv_goto (tgt := 5) hx hb dX8_waysOff_35 (by decide) ?_
  exact hk5 (v5_2 + t30_0) (v5_3 + (1 : Int32)) hf _ (lv_sub hl [2, 3, 1, 0] rfl) _ _ hI
set_option maxHeartbeats 4000000 in
set_option maxRecDepth 100000 in
theorem w_X8_waysOff_b29 {p : Program} {l : Launch} {e : Env} {s : State} {m : MethodId} {args : Array Value} {below : List Frame} {meth : Method} {c : Code} {G : xG} {rr : Int32} (E : xE p s m args meth c cX8_waysOff 4 (some .int) RX8 G) (a1 : Int32) (M : xMem) (L : xLL) (v5_2 : Int32) (v5_3 : Int32) (k30 : Int32 → Option (Int32)) (hk30 : ∀ (t30_0 : Int32), k30 t30_0 = some rr → ∀ (ls : Array Slot), lv_has ls 4 [(0, .ref (xq G 8 0)), (1, .int a1), (3, .int v5_3)] → ∀ (H : Heap) (locs : List Loc), xI G M L s.heap H locs → W p l e (xR 3) s m args below meth c H locs 0 0 (MQ below (xQi G rr M L s.heap.size) args s 0 0 (xZ G s.heap.size)) (F0 m 30 ls [.int t30_0, .int v5_2])) : f_X8_waysOff_b29 k30  = some rr → ∀ (ls : Array Slot), lv_has ls 4 [(0, .ref (xq G 8 0)), (1, .int a1), (3, .int v5_3)] → ∀ (H : Heap) (locs : List Loc), xI G M L s.heap H locs → W p l e (xR 3) s m args below meth c H locs 0 0 (MQ below (xQi G rr M L s.heap.size) args s 0 0 (xZ G s.heap.size)) (F0 m 29 ls [.int v5_2]) := by
  have hx := E.1
  have hb := E.2.1
  intro  hf ls hl H locs hI
  rw [f_X8_waysOff_b29] at hf
  refine lv_iconst (v := 0) hx hb dX8_waysOff_29 (by decide) ?_
  exact hk30 (0 : Int32) hf _ (lv_sub hl [0, 1, 2] rfl) _ _ hI
set_option maxHeartbeats 4000000 in
set_option maxRecDepth 100000 in
theorem w_X8_waysOff_l5 {p : Program} {l : Launch} {e : Env} {s : State} {m : MethodId} {args : Array Value} {below : List Frame} {meth : Method} {c : Code} {G : xG} {rr : Int32} (E : xE p s m args meth c cX8_waysOff 4 (some .int) RX8 G) (a1 : Int32) (M : xMem) (L : xLL) : ∀ (n : Nat), ∀ (v5_2 : Int32) (v5_3 : Int32), f_X8_waysOff_l5 a1 M n v5_2 v5_3 = some rr → ∀ (ls : Array Slot), lv_has ls 4 [(0, .ref (xq G 8 0)), (1, .int a1), (2, .int v5_2), (3, .int v5_3)] → ∀ (H : Heap) (locs : List Loc), xI G M L s.heap H locs → W p l e (xR 3) s m args below meth c H locs 0 0 (MQ below (xQi G rr M L s.heap.size) args s 0 0 (xZ G s.heap.size)) (F0 m 5 ls []) := by
  have hx := E.1
  have hb := E.2.1
  intro n
  induction n with
  | zero =>
    intro v5_2 v5_3 hf
    exact absurd hf (by simp [f_X8_waysOff_l5])
  | succ n ih =>
    intro v5_2 v5_3 hf ls hl H locs hI
    rw [f_X8_waysOff_l5] at hf
    refine lv_iload_n hx hb dX8_waysOff_5 rfl (lv_at hl 3 rfl) ?_
    refine lv_bipush (v := 9) hx hb dX8_waysOff_6 (by decide) ?_
    refine lv_icmp_gt (tgt := 38) hx hb dX8_waysOff_8 (by decide) (fun c8 => ?_) (fun c8 => ?_)
    · replace hf := xif_t c8 hf
      refine lv_iload_n hx hb dX8_waysOff_38 rfl (lv_at hl 2 rfl) ?_
      obtain rfl := xinj1 hf
      exact x_iret E hI rfl dX8_waysOff_39
    · replace hf := xif_f c8 hf
      refine lv_iload_n hx hb dX8_waysOff_11 rfl (lv_at hl 2 rfl) ?_
      refine lv_iload_n hx hb dX8_waysOff_12 rfl (lv_at hl 3 rfl) ?_
      refine lv_if_eq (tgt := 29) hx hb dX8_waysOff_13 (by decide) (fun c13 => ?_) (fun c13 => ?_)
      · replace hf := xif_t c13 hf
        exact (w_X8_waysOff_b29 E (a1 := a1) (M := M) (L := L) (v5_2 := v5_2) (v5_3 := v5_3) (k30 := (f_X8_waysOff_b30 v5_2 v5_3 (f_X8_waysOff_l5 a1 M n))) (hk30 := (w_X8_waysOff_b30 E (a1 := a1) (M := M) (L := L) (v5_2 := v5_2) (v5_3 := v5_3) (k5 := (f_X8_waysOff_l5 a1 M n)) (hk5 := ih))))  hf _ (lv_sub hl [0, 1, 3] rfl) _ _ hI
      · replace hf := xif_f c13 hf
        refine lv_aload_n hx hb dX8_waysOff_16 rfl (lv_at hl 0 rfl) ?_
        refine lv_iload_n hx hb dX8_waysOff_17 rfl (lv_at hl 1 rfl) ?_
        refine lv_iload_n hx hb dX8_waysOff_18 rfl (lv_at hl 3 rfl) ?_
        obtain ⟨r19, g19, hf⟩ := xb1_s hf
        refine x_callVi (As := [.int a1, .int v5_3]) (rest := [.int v5_2]) E hI mx_8_0 rfl rfl rfl (c_X8_isSo l G _ (M := M) (L := L) (a1 := a1) (a2 := v5_3) g19) yv_X8_isSo ml_X8_204 (by decide) (by decide) rfl rfl hl.1 (Nat.le_of_ble_eq_true rfl) dX8_waysOff_19 (fun H locs hI => ?_)
        refine lv_if_eq (tgt := 29) hx hb dX8_waysOff_22 (by decide) (fun c22 => ?_) (fun c22 => ?_)
        · replace hf := xif_t c22 hf
          exact (w_X8_waysOff_b29 E (a1 := a1) (M := M) (L := L) (v5_2 := v5_2) (v5_3 := v5_3) (k30 := (f_X8_waysOff_b30 v5_2 v5_3 (f_X8_waysOff_l5 a1 M n))) (hk30 := (w_X8_waysOff_b30 E (a1 := a1) (M := M) (L := L) (v5_2 := v5_2) (v5_3 := v5_3) (k5 := (f_X8_waysOff_l5 a1 M n)) (hk5 := ih))))  hf _ (lv_sub hl [0, 1, 3] rfl) _ _ hI
        · replace hf := xif_f c22 hf
          refine lv_iconst (v := 1) hx hb dX8_waysOff_25 (by decide) ?_
          refine lv_goto (tgt := 30) hx hb dX8_waysOff_26 (by decide) ?_
          exact (w_X8_waysOff_b30 E (a1 := a1) (M := M) (L := L) (v5_2 := v5_2) (v5_3 := v5_3) (k5 := (f_X8_waysOff_l5 a1 M n)) (hk5 := ih)) (1 : Int32) hf _ (lv_sub hl [0, 1, 3] rfl) _ _ hI
set_option maxHeartbeats 4000000 in
set_option maxRecDepth 100000 in
theorem c_X8_waysOff (l : Launch) (G : xG) (sz : Nat) (M : xMem) (L : xLL) (a1 : Int32) {rr : Int32} (hf : f_X8_waysOff a1 M = some rr) : Met l yX8_waysOff (Cond.code yX8_waysOff cX8_waysOff 4 (some .int) :: xTB) (xR 3) (xP G M L sz [.ref (xq G 8 0), .int a1]) (xQi G rr M L sz) 0 0 (xZ G sz) := by
  refine x_met (cc := cX8_waysOff) (nL := 4) (rt := (some .int)) (by decide) (Nat.le_of_ble_eq_true rfl) ?_
  intro p e s m below meth c ls hsz E hl hI
  subst hsz
  have E : xE p s m _ meth c cX8_waysOff 4 (some .int) RX8 G := E
  have hx := E.1
  have hb := E.2.1
  have hl : lv_has ls 4 [(0, .ref (xq G 8 0)), (1, .int a1)] := hl
  rw [f_X8_waysOff] at hf
  refine lv_iconst (v := 0) hx hb dX8_waysOff_0 (by decide) ?_
  refine lv_istore_n (lv' := [(2, .int (0 : Int32)), (0, .ref (xq G 8 0)), (1, .int a1)]) hx hb dX8_waysOff_1 rfl hl (by decide) rfl (fun ls hl => ?_)
  refine lv_bipush (v := -9) hx hb dX8_waysOff_2 (by decide) ?_
  refine lv_istore_n (lv' := [(3, .int (-9 : Int32)), (2, .int (0 : Int32)), (0, .ref (xq G 8 0)), (1, .int a1)]) hx hb dX8_waysOff_4 rfl hl (by decide) rfl (fun ls hl => ?_)
  exact (w_X8_waysOff_l5 E (a1 := a1) (M := M) (L := L) FU) (0 : Int32) (-9 : Int32) hf _ (lv_sub hl [2, 3, 1, 0] rfl) _ _ hI
theorem dX8_allWays_0 : decode cX8_allWays 0 = .ok (.aload_n 0, 1) := by decide +kernel
theorem dX8_allWays_1 : decode cX8_allWays 1 = .ok (.bipush (-9), 2) := by decide +kernel
theorem dX8_allWays_3 : decode cX8_allWays 3 = .ok (.iconst 0, 1) := by decide +kernel
theorem dX8_allWays_4 : decode cX8_allWays 4 = .ok (.invokevirtual 204, 3) := by decide +kernel
theorem dX8_allWays_7 : decode cX8_allWays 7 = .ok (.ifCond .eq 7, 3) := by decide +kernel
theorem dX8_allWays_10 : decode cX8_allWays 10 = .ok (.iconst 1, 1) := by decide +kernel
theorem dX8_allWays_11 : decode cX8_allWays 11 = .ok (.goto 4, 3) := by decide +kernel
theorem dX8_allWays_14 : decode cX8_allWays 14 = .ok (.iconst 0, 1) := by decide +kernel
theorem dX8_allWays_15 : decode cX8_allWays 15 = .ok (.istore_n 1, 1) := by decide +kernel
theorem dX8_allWays_16 : decode cX8_allWays 16 = .ok (.iconst 0, 1) := by decide +kernel
theorem dX8_allWays_17 : decode cX8_allWays 17 = .ok (.istore_n 2, 1) := by decide +kernel
theorem dX8_allWays_18 : decode cX8_allWays 18 = .ok (.iload_n 2, 1) := by decide +kernel
theorem dX8_allWays_19 : decode cX8_allWays 19 = .ok (.aload_n 0, 1) := by decide +kernel
theorem dX8_allWays_20 : decode cX8_allWays 20 = .ok (.getfield 62, 3) := by decide +kernel
theorem dX8_allWays_23 : decode cX8_allWays 23 = .ok (.if_icmp .ge 17, 3) := by decide +kernel
theorem dX8_allWays_26 : decode cX8_allWays 26 = .ok (.iload_n 1, 1) := by decide +kernel
theorem dX8_allWays_27 : decode cX8_allWays 27 = .ok (.aload_n 0, 1) := by decide +kernel
theorem dX8_allWays_28 : decode cX8_allWays 28 = .ok (.iload_n 2, 1) := by decide +kernel
theorem dX8_allWays_29 : decode cX8_allWays 29 = .ok (.invokevirtual 207, 3) := by decide +kernel
theorem dX8_allWays_32 : decode cX8_allWays 32 = .ok (.iadd, 1) := by decide +kernel
theorem dX8_allWays_33 : decode cX8_allWays 33 = .ok (.istore_n 1, 1) := by decide +kernel
theorem dX8_allWays_34 : decode cX8_allWays 34 = .ok (.iinc 2 1, 3) := by decide +kernel
theorem dX8_allWays_37 : decode cX8_allWays 37 = .ok (.goto (-19), 3) := by decide +kernel
theorem dX8_allWays_40 : decode cX8_allWays 40 = .ok (.iload_n 1, 1) := by decide +kernel
theorem dX8_allWays_41 : decode cX8_allWays 41 = .ok (.ireturn, 1) := by decide +kernel
def f_X8_allWays_l18 (M : xMem) : Nat → Int32 → Int32 → Option (Int32)
  | 0, _, _ => none
  | n + 1, v18_1, v18_2 => (if (M 8 0 0) ≤ v18_2 then some v18_1 else xb1 (f_X8_waysOff v18_2 M) (fun r29 => (f_X8_allWays_l18 M n) (v18_1 + r29) (v18_2 + (1 : Int32))))
def f_X8_allWays_b15 (M : xMem) (t15_0 : Int32) : Option (Int32) := (f_X8_allWays_l18 M FU) t15_0 (0 : Int32)
def f_X8_allWays (M : xMem) : Option (Int32) := xb1 (f_X8_isSo (-9 : Int32) (0 : Int32) M) (fun r4 => (if r4 = (0 : Int32) then (f_X8_allWays_b15 M) (0 : Int32) else (f_X8_allWays_b15 M) (1 : Int32)))
set_option maxHeartbeats 4000000 in
set_option maxRecDepth 100000 in
theorem w_X8_allWays_l18 {p : Program} {l : Launch} {e : Env} {s : State} {m : MethodId} {args : Array Value} {below : List Frame} {meth : Method} {c : Code} {G : xG} {rr : Int32} (E : xE p s m args meth c cX8_allWays 3 (some .int) RX8 G) (M : xMem) (L : xLL) : ∀ (n : Nat), ∀ (v18_1 : Int32) (v18_2 : Int32), f_X8_allWays_l18 M n v18_1 v18_2 = some rr → ∀ (ls : Array Slot), lv_has ls 3 [(0, .ref (xq G 8 0)), (1, .int v18_1), (2, .int v18_2)] → ∀ (H : Heap) (locs : List Loc), xI G M L s.heap H locs → W p l e (xR 4) s m args below meth c H locs 0 0 (MQ below (xQi G rr M L s.heap.size) args s 0 0 (xZ G s.heap.size)) (F0 m 18 ls []) := by
  have hx := E.1
  have hb := E.2.1
  intro n
  induction n with
  | zero =>
    intro v18_1 v18_2 hf
    exact absurd hf (by simp [f_X8_allWays_l18])
  | succ n ih =>
    intro v18_1 v18_2 hf ls hl H locs hI
    rw [f_X8_allWays_l18] at hf
    refine lv_iload_n hx hb dX8_allWays_18 rfl (lv_at hl 2 rfl) ?_
    refine lv_aload_n hx hb dX8_allWays_19 rfl (lv_at hl 0 rfl) ?_
    refine gf_X8_62 E hI dX8_allWays_20 ?_
    refine lv_icmp_ge (tgt := 40) hx hb dX8_allWays_23 (by decide) (fun c23 => ?_) (fun c23 => ?_)
    · replace hf := xif_t c23 hf
      refine lv_iload_n hx hb dX8_allWays_40 rfl (lv_at hl 1 rfl) ?_
      obtain rfl := xinj1 hf
      exact x_iret E hI rfl dX8_allWays_41
    · replace hf := xif_f c23 hf
      refine lv_iload_n hx hb dX8_allWays_26 rfl (lv_at hl 1 rfl) ?_
      refine lv_aload_n hx hb dX8_allWays_27 rfl (lv_at hl 0 rfl) ?_
      refine lv_iload_n hx hb dX8_allWays_28 rfl (lv_at hl 2 rfl) ?_
      obtain ⟨r29, g29, hf⟩ := xb1_s hf
      refine x_callVi (As := [.int v18_2]) (rest := [.int v18_1]) E hI mx_8_0 rfl rfl rfl (c_X8_waysOff l G _ (M := M) (L := L) (a1 := v18_2) g29) yv_X8_waysOff ml_X8_207 (by decide) (by decide) rfl rfl hl.1 (Nat.le_of_ble_eq_true rfl) dX8_allWays_29 (fun H locs hI => ?_)
      refine lv_iadd hx hb dX8_allWays_32 ?_
      refine lv_istore_n (lv' := [(1, .int (v18_1 + r29)), (0, .ref (xq G 8 0)), (2, .int v18_2)]) hx hb dX8_allWays_33 rfl hl (by decide) rfl (fun ls hl => ?_)
      refine lv_iinc (v := (v18_2 + (1 : Int32))) (lv' := [(2, .int (v18_2 + (1 : Int32))), (1, .int (v18_1 + r29)), (0, .ref (xq G 8 0))]) hx hb dX8_allWays_34 hl (k := 2) rfl rfl (by decide) rfl (fun ls hl => ?_)
      refine lv_goto (tgt := 18) hx hb dX8_allWays_37 (by decide) ?_
      exact ih (v18_1 + r29) (v18_2 + (1 : Int32)) hf _ (lv_sub hl [2, 1, 0] rfl) _ _ hI
set_option maxHeartbeats 4000000 in
set_option maxRecDepth 100000 in
theorem w_X8_allWays_b15 {p : Program} {l : Launch} {e : Env} {s : State} {m : MethodId} {args : Array Value} {below : List Frame} {meth : Method} {c : Code} {G : xG} {rr : Int32} (E : xE p s m args meth c cX8_allWays 3 (some .int) RX8 G) (M : xMem) (L : xLL) : ∀ (t15_0 : Int32), f_X8_allWays_b15 M t15_0 = some rr → ∀ (ls : Array Slot), lv_has ls 3 [(0, .ref (xq G 8 0))] → ∀ (H : Heap) (locs : List Loc), xI G M L s.heap H locs → W p l e (xR 4) s m args below meth c H locs 0 0 (MQ below (xQi G rr M L s.heap.size) args s 0 0 (xZ G s.heap.size)) (F0 m 15 ls [.int t15_0]) := by
  have hx := E.1
  have hb := E.2.1
  intro t15_0 hf ls hl H locs hI
  rw [f_X8_allWays_b15] at hf
  refine lv_istore_n (lv' := [(1, .int t15_0), (0, .ref (xq G 8 0))]) hx hb dX8_allWays_15 rfl hl (by decide) rfl (fun ls hl => ?_)
  refine lv_iconst (v := 0) hx hb dX8_allWays_16 (by decide) ?_
  refine lv_istore_n (lv' := [(2, .int (0 : Int32)), (1, .int t15_0), (0, .ref (xq G 8 0))]) hx hb dX8_allWays_17 rfl hl (by decide) rfl (fun ls hl => ?_)
  exact (w_X8_allWays_l18 E (M := M) (L := L) FU) t15_0 (0 : Int32) hf _ (lv_sub hl [2, 1, 0] rfl) _ _ hI
set_option maxHeartbeats 4000000 in
set_option maxRecDepth 100000 in
theorem c_X8_allWays (l : Launch) (G : xG) (sz : Nat) (M : xMem) (L : xLL) {rr : Int32} (hf : f_X8_allWays M = some rr) : Met l yX8_allWays (Cond.code yX8_allWays cX8_allWays 3 (some .int) :: xTB) (xR 4) (xP G M L sz [.ref (xq G 8 0)]) (xQi G rr M L sz) 0 0 (xZ G sz) := by
  refine x_met (cc := cX8_allWays) (nL := 3) (rt := (some .int)) (by decide) (Nat.le_of_ble_eq_true rfl) ?_
  intro p e s m below meth c ls hsz E hl hI
  subst hsz
  have E : xE p s m _ meth c cX8_allWays 3 (some .int) RX8 G := E
  have hx := E.1
  have hb := E.2.1
  have hl : lv_has ls 3 [(0, .ref (xq G 8 0))] := hl
  rw [f_X8_allWays] at hf
  refine lv_aload_n hx hb dX8_allWays_0 rfl (lv_at hl 0 rfl) ?_
  refine lv_bipush (v := -9) hx hb dX8_allWays_1 (by decide) ?_
  refine lv_iconst (v := 0) hx hb dX8_allWays_3 (by decide) ?_
  obtain ⟨r4, g4, hf⟩ := xb1_s hf
  refine x_callVi (As := [.int (-9 : Int32), .int (0 : Int32)]) (rest := []) E hI mx_8_0 rfl rfl rfl (c_X8_isSo l G _ (M := M) (L := L) (a1 := (-9 : Int32)) (a2 := (0 : Int32)) g4) yv_X8_isSo ml_X8_204 (by decide) (by decide) rfl rfl hl.1 (Nat.le_of_ble_eq_true rfl) dX8_allWays_4 (fun H locs hI => ?_)
  refine lv_if_eq (tgt := 14) hx hb dX8_allWays_7 (by decide) (fun c7 => ?_) (fun c7 => ?_)
  · replace hf := xif_t c7 hf
    refine lv_iconst (v := 0) hx hb dX8_allWays_14 (by decide) ?_
    exact (w_X8_allWays_b15 E (M := M) (L := L)) (0 : Int32) hf _ (lv_sub hl [0] rfl) _ _ hI
  · replace hf := xif_f c7 hf
    refine lv_iconst (v := 1) hx hb dX8_allWays_10 (by decide) ?_
    refine lv_goto (tgt := 15) hx hb dX8_allWays_11 (by decide) ?_
    exact (w_X8_allWays_b15 E (M := M) (L := L)) (1 : Int32) hf _ (lv_sub hl [0] rfl) _ _ hI
theorem dX8_can_0 : decode cX8_can 0 = .ok (.iload_n 1, 1) := by decide +kernel
theorem dX8_can_1 : decode cX8_can 1 = .ok (.tableswitch 86 0 2 #[27, 32, 70], 27) := by decide +kernel
theorem dX8_can_28 : decode cX8_can 28 = .ok (.aload_n 0, 1) := by decide +kernel
theorem dX8_can_29 : decode cX8_can 29 = .ok (.invokevirtual 210, 3) := by decide +kernel
theorem dX8_can_32 : decode cX8_can 32 = .ok (.ireturn, 1) := by decide +kernel
theorem dX8_can_33 : decode cX8_can 33 = .ok (.iconst 0, 1) := by decide +kernel
theorem dX8_can_34 : decode cX8_can 34 = .ok (.istore_n 2, 1) := by decide +kernel
theorem dX8_can_35 : decode cX8_can 35 = .ok (.iconst 0, 1) := by decide +kernel
theorem dX8_can_36 : decode cX8_can 36 = .ok (.istore_n 3, 1) := by decide +kernel
theorem dX8_can_37 : decode cX8_can 37 = .ok (.iload_n 3, 1) := by decide +kernel
theorem dX8_can_38 : decode cX8_can 38 = .ok (.aload_n 0, 1) := by decide +kernel
theorem dX8_can_39 : decode cX8_can 39 = .ok (.getfield 62, 3) := by decide +kernel
theorem dX8_can_42 : decode cX8_can 42 = .ok (.if_icmp .ge 27, 3) := by decide +kernel
theorem dX8_can_45 : decode cX8_can 45 = .ok (.iload_n 2, 1) := by decide +kernel
theorem dX8_can_46 : decode cX8_can 46 = .ok (.aload_n 0, 1) := by decide +kernel
theorem dX8_can_47 : decode cX8_can 47 = .ok (.iload_n 3, 1) := by decide +kernel
theorem dX8_can_48 : decode cX8_can 48 = .ok (.invokevirtual 207, 3) := by decide +kernel
theorem dX8_can_51 : decode cX8_can 51 = .ok (.ifCond .le 9, 3) := by decide +kernel
theorem dX8_can_54 : decode cX8_can 54 = .ok (.iconst 1, 1) := by decide +kernel
theorem dX8_can_55 : decode cX8_can 55 = .ok (.iload_n 3, 1) := by decide +kernel
theorem dX8_can_56 : decode cX8_can 56 = .ok (.ishl, 1) := by decide +kernel
theorem dX8_can_57 : decode cX8_can 57 = .ok (.goto 4, 3) := by decide +kernel
theorem dX8_can_60 : decode cX8_can 60 = .ok (.iconst 0, 1) := by decide +kernel
theorem dX8_can_61 : decode cX8_can 61 = .ok (.ior, 1) := by decide +kernel
theorem dX8_can_62 : decode cX8_can 62 = .ok (.istore_n 2, 1) := by decide +kernel
theorem dX8_can_63 : decode cX8_can 63 = .ok (.iinc 3 1, 3) := by decide +kernel
theorem dX8_can_66 : decode cX8_can 66 = .ok (.goto (-29), 3) := by decide +kernel
theorem dX8_can_69 : decode cX8_can 69 = .ok (.iload_n 2, 1) := by decide +kernel
theorem dX8_can_70 : decode cX8_can 70 = .ok (.ireturn, 1) := by decide +kernel
theorem dX8_can_71 : decode cX8_can 71 = .ok (.aload_n 0, 1) := by decide +kernel
theorem dX8_can_72 : decode cX8_can 72 = .ok (.bipush (-9), 2) := by decide +kernel
theorem dX8_can_74 : decode cX8_can 74 = .ok (.iconst 0, 1) := by decide +kernel
theorem dX8_can_75 : decode cX8_can 75 = .ok (.invokevirtual 204, 3) := by decide +kernel
theorem dX8_can_78 : decode cX8_can 78 = .ok (.ifCond .eq 7, 3) := by decide +kernel
theorem dX8_can_81 : decode cX8_can 81 = .ok (.iconst 1, 1) := by decide +kernel
theorem dX8_can_82 : decode cX8_can 82 = .ok (.goto 4, 3) := by decide +kernel
theorem dX8_can_85 : decode cX8_can 85 = .ok (.iconst 0, 1) := by decide +kernel
theorem dX8_can_86 : decode cX8_can 86 = .ok (.ireturn, 1) := by decide +kernel
theorem dX8_can_87 : decode cX8_can 87 = .ok (.iconst (-1), 1) := by decide +kernel
theorem dX8_can_88 : decode cX8_can 88 = .ok (.ireturn, 1) := by decide +kernel
def f_X8_can_b61 (v37_2 : Int32) (v37_3 : Int32) (k37 : Int32 → Int32 → Option (Int32)) (t61_0 : Int32) : Option (Int32) := k37 (v37_2 ||| t61_0) (v37_3 + (1 : Int32))
def f_X8_can_l37 (M : xMem) : Nat → Int32 → Int32 → Option (Int32)
  | 0, _, _ => none
  | n + 1, v37_2, v37_3 => (if (M 8 0 0) ≤ v37_3 then some v37_2 else xb1 (f_X8_waysOff v37_3 M) (fun r48 => (if r48 ≤ (0 : Int32) then (f_X8_can_b61 v37_2 v37_3 (f_X8_can_l37 M n)) (0 : Int32) else (f_X8_can_b61 v37_2 v37_3 (f_X8_can_l37 M n)) ((1 : Int32) <<< (v37_3 &&& 31)))))
def f_X8_can_b86 (t86_0 : Int32) : Option (Int32) := some t86_0
def f_X8_can (a1 : Int32) (M : xMem) : Option (Int32) := (if a1 = (0 : Int32) then xb1 (f_X8_allWays M) (fun r29 => some r29) else (if a1 = (1 : Int32) then (f_X8_can_l37 M FU) (0 : Int32) (0 : Int32) else (if a1 = (2 : Int32) then xb1 (f_X8_isSo (-9 : Int32) (0 : Int32) M) (fun r75 => (if r75 = (0 : Int32) then (f_X8_can_b86) (0 : Int32) else (f_X8_can_b86) (1 : Int32))) else some (-1 : Int32))))
set_option maxHeartbeats 4000000 in
set_option maxRecDepth 100000 in
theorem w_X8_can_b61 {p : Program} {l : Launch} {e : Env} {s : State} {m : MethodId} {args : Array Value} {below : List Frame} {meth : Method} {c : Code} {G : xG} {rr : Int32} (E : xE p s m args meth c cX8_can 4 (some .int) RX8 G) (M : xMem) (L : xLL) (v37_2 : Int32) (v37_3 : Int32) (k37 : Int32 → Int32 → Option (Int32)) (hk37 : ∀ (v37_2 : Int32) (v37_3 : Int32), k37 v37_2 v37_3 = some rr → ∀ (ls : Array Slot), lv_has ls 4 [(0, .ref (xq G 8 0)), (2, .int v37_2), (3, .int v37_3)] → ∀ (H : Heap) (locs : List Loc), xI G M L s.heap H locs → W p l e (xR 5) s m args below meth c H locs 0 0 (MQ below (xQi G rr M L s.heap.size) args s 0 0 (xZ G s.heap.size)) (F0 m 37 ls [])) : ∀ (t61_0 : Int32), f_X8_can_b61 v37_2 v37_3 k37 t61_0 = some rr → ∀ (ls : Array Slot), lv_has ls 4 [(0, .ref (xq G 8 0)), (3, .int v37_3)] → ∀ (H : Heap) (locs : List Loc), xI G M L s.heap H locs → W p l e (xR 5) s m args below meth c H locs 0 0 (MQ below (xQi G rr M L s.heap.size) args s 0 0 (xZ G s.heap.size)) (F0 m 61 ls [.int t61_0, .int v37_2]) := by
  have hx := E.1
  have hb := E.2.1
  intro t61_0 hf ls hl H locs hI
  rw [f_X8_can_b61] at hf
  refine lv_ior hx hb dX8_can_61 ?_
  refine lv_istore_n (lv' := [(2, .int (v37_2 ||| t61_0)), (0, .ref (xq G 8 0)), (3, .int v37_3)]) hx hb dX8_can_62 rfl hl (by decide) rfl (fun ls hl => ?_)
  refine lv_iinc (v := (v37_3 + (1 : Int32))) (lv' := [(3, .int (v37_3 + (1 : Int32))), (2, .int (v37_2 ||| t61_0)), (0, .ref (xq G 8 0))]) hx hb dX8_can_63 hl (k := 2) rfl rfl (by decide) rfl (fun ls hl => ?_)
  refine lv_goto (tgt := 37) hx hb dX8_can_66 (by decide) ?_
  exact hk37 (v37_2 ||| t61_0) (v37_3 + (1 : Int32)) hf _ (lv_sub hl [2, 1, 0] rfl) _ _ hI
set_option maxHeartbeats 4000000 in
set_option maxRecDepth 100000 in
theorem w_X8_can_l37 {p : Program} {l : Launch} {e : Env} {s : State} {m : MethodId} {args : Array Value} {below : List Frame} {meth : Method} {c : Code} {G : xG} {rr : Int32} (E : xE p s m args meth c cX8_can 4 (some .int) RX8 G) (a1 : Int32) (M : xMem) (L : xLL) : ∀ (n : Nat), ∀ (v37_2 : Int32) (v37_3 : Int32), f_X8_can_l37 M n v37_2 v37_3 = some rr → ∀ (ls : Array Slot), lv_has ls 4 [(0, .ref (xq G 8 0)), (2, .int v37_2), (3, .int v37_3)] → ∀ (H : Heap) (locs : List Loc), xI G M L s.heap H locs → W p l e (xR 5) s m args below meth c H locs 0 0 (MQ below (xQi G rr M L s.heap.size) args s 0 0 (xZ G s.heap.size)) (F0 m 37 ls []) := by
  have hx := E.1
  have hb := E.2.1
  intro n
  induction n with
  | zero =>
    intro v37_2 v37_3 hf
    exact absurd hf (by simp [f_X8_can_l37])
  | succ n ih =>
    intro v37_2 v37_3 hf ls hl H locs hI
    rw [f_X8_can_l37] at hf
    refine lv_iload_n hx hb dX8_can_37 rfl (lv_at hl 2 rfl) ?_
    refine lv_aload_n hx hb dX8_can_38 rfl (lv_at hl 0 rfl) ?_
    refine gf_X8_62 E hI dX8_can_39 ?_
    refine lv_icmp_ge (tgt := 69) hx hb dX8_can_42 (by decide) (fun c42 => ?_) (fun c42 => ?_)
    · replace hf := xif_t c42 hf
      refine lv_iload_n hx hb dX8_can_69 rfl (lv_at hl 1 rfl) ?_
      obtain rfl := xinj1 hf
      exact x_iret E hI rfl dX8_can_70
    · replace hf := xif_f c42 hf
      refine lv_iload_n hx hb dX8_can_45 rfl (lv_at hl 1 rfl) ?_
      refine lv_aload_n hx hb dX8_can_46 rfl (lv_at hl 0 rfl) ?_
      refine lv_iload_n hx hb dX8_can_47 rfl (lv_at hl 2 rfl) ?_
      obtain ⟨r48, g48, hf⟩ := xb1_s hf
      refine x_callVi (As := [.int v37_3]) (rest := [.int v37_2]) E hI mx_8_0 rfl rfl rfl (c_X8_waysOff l G _ (M := M) (L := L) (a1 := v37_3) g48) yv_X8_waysOff ml_X8_207 (by decide) (by decide) rfl rfl hl.1 (Nat.le_of_ble_eq_true rfl) dX8_can_48 (fun H locs hI => ?_)
      refine lv_if_le (tgt := 60) hx hb dX8_can_51 (by decide) (fun c51 => ?_) (fun c51 => ?_)
      · replace hf := xif_t c51 hf
        refine lv_iconst (v := 0) hx hb dX8_can_60 (by decide) ?_
        exact (w_X8_can_b61 E (M := M) (L := L) (v37_2 := v37_2) (v37_3 := v37_3) (k37 := (f_X8_can_l37 M n)) (hk37 := ih)) (0 : Int32) hf _ (lv_sub hl [0, 2] rfl) _ _ hI
      · replace hf := xif_f c51 hf
        refine lv_iconst (v := 1) hx hb dX8_can_54 (by decide) ?_
        refine lv_iload_n hx hb dX8_can_55 rfl (lv_at hl 2 rfl) ?_
        refine lv_ishl hx hb dX8_can_56 ?_
        refine lv_goto (tgt := 61) hx hb dX8_can_57 (by decide) ?_
        exact (w_X8_can_b61 E (M := M) (L := L) (v37_2 := v37_2) (v37_3 := v37_3) (k37 := (f_X8_can_l37 M n)) (hk37 := ih)) ((1 : Int32) <<< (v37_3 &&& 31)) hf _ (lv_sub hl [0, 2] rfl) _ _ hI
set_option maxHeartbeats 4000000 in
set_option maxRecDepth 100000 in
theorem w_X8_can_b86 {p : Program} {l : Launch} {e : Env} {s : State} {m : MethodId} {args : Array Value} {below : List Frame} {meth : Method} {c : Code} {G : xG} {rr : Int32} (E : xE p s m args meth c cX8_can 4 (some .int) RX8 G) (M : xMem) (L : xLL) : ∀ (t86_0 : Int32), f_X8_can_b86 t86_0 = some rr → ∀ (ls : Array Slot), lv_has ls 4 [] → ∀ (H : Heap) (locs : List Loc), xI G M L s.heap H locs → W p l e (xR 5) s m args below meth c H locs 0 0 (MQ below (xQi G rr M L s.heap.size) args s 0 0 (xZ G s.heap.size)) (F0 m 86 ls [.int t86_0]) := by
  have hx := E.1
  have hb := E.2.1
  intro t86_0 hf ls hl H locs hI
  rw [f_X8_can_b86] at hf
  obtain rfl := xinj1 hf
  exact x_iret E hI rfl dX8_can_86
set_option maxHeartbeats 4000000 in
set_option maxRecDepth 100000 in
theorem c_X8_can (l : Launch) (G : xG) (sz : Nat) (M : xMem) (L : xLL) (a1 : Int32) {rr : Int32} (hf : f_X8_can a1 M = some rr) : Met l yX8_can (Cond.code yX8_can cX8_can 4 (some .int) :: xTB) (xR 5) (xP G M L sz [.ref (xq G 8 0), .int a1]) (xQi G rr M L sz) 0 0 (xZ G sz) := by
  refine x_met (cc := cX8_can) (nL := 4) (rt := (some .int)) (by decide) (Nat.le_of_ble_eq_true rfl) ?_
  intro p e s m below meth c ls hsz E hl hI
  subst hsz
  have E : xE p s m _ meth c cX8_can 4 (some .int) RX8 G := E
  have hx := E.1
  have hb := E.2.1
  have hl : lv_has ls 4 [(0, .ref (xq G 8 0)), (1, .int a1)] := hl
  rw [f_X8_can] at hf
  refine lv_iload_n hx hb dX8_can_0 rfl (lv_at hl 1 rfl) ?_
  by_cases c1_0 : a1 = (0 : Int32)
  · replace hf := xif_t c1_0 hf
    refine x_tsIn (off := 27) (tgt := 28) hx hb c1_0 dX8_can_1 (by decide) (by decide) (by decide) (by decide) ?_
    refine lv_aload_n hx hb dX8_can_28 rfl (lv_at hl 0 rfl) ?_
    obtain ⟨r29, g29, hf⟩ := xb1_s hf
    refine x_callVi (As := []) (rest := []) E hI mx_8_0 rfl rfl rfl (c_X8_allWays l G _ (M := M) (L := L) g29) yv_X8_allWays ml_X8_210 (by decide) (by decide) rfl rfl hl.1 (Nat.le_of_ble_eq_true rfl) dX8_can_29 (fun H locs hI => ?_)
    obtain rfl := xinj1 hf
    exact x_iret E hI rfl dX8_can_32
  · replace hf := xif_f c1_0 hf
    by_cases c1_1 : a1 = (1 : Int32)
    · replace hf := xif_t c1_1 hf
      refine x_tsIn (off := 32) (tgt := 33) hx hb c1_1 dX8_can_1 (by decide) (by decide) (by decide) (by decide) ?_
      refine lv_iconst (v := 0) hx hb dX8_can_33 (by decide) ?_
      refine lv_istore_n (lv' := [(2, .int (0 : Int32)), (0, .ref (xq G 8 0)), (1, .int a1)]) hx hb dX8_can_34 rfl hl (by decide) rfl (fun ls hl => ?_)
      refine lv_iconst (v := 0) hx hb dX8_can_35 (by decide) ?_
      refine lv_istore_n (lv' := [(3, .int (0 : Int32)), (2, .int (0 : Int32)), (0, .ref (xq G 8 0)), (1, .int a1)]) hx hb dX8_can_36 rfl hl (by decide) rfl (fun ls hl => ?_)
      exact (w_X8_can_l37 E (a1 := a1) (M := M) (L := L) FU) (0 : Int32) (0 : Int32) hf _ (lv_sub hl [2, 1, 0] rfl) _ _ hI
    · replace hf := xif_f c1_1 hf
      by_cases c1_2 : a1 = (2 : Int32)
      · replace hf := xif_t c1_2 hf
        refine x_tsIn (off := 70) (tgt := 71) hx hb c1_2 dX8_can_1 (by decide) (by decide) (by decide) (by decide) ?_
        refine lv_aload_n hx hb dX8_can_71 rfl (lv_at hl 0 rfl) ?_
        refine lv_bipush (v := -9) hx hb dX8_can_72 (by decide) ?_
        refine lv_iconst (v := 0) hx hb dX8_can_74 (by decide) ?_
        obtain ⟨r75, g75, hf⟩ := xb1_s hf
        refine x_callVi (As := [.int (-9 : Int32), .int (0 : Int32)]) (rest := []) E hI mx_8_0 rfl rfl rfl (c_X8_isSo l G _ (M := M) (L := L) (a1 := (-9 : Int32)) (a2 := (0 : Int32)) g75) yv_X8_isSo ml_X8_204 (by decide) (by decide) rfl rfl hl.1 (Nat.le_of_ble_eq_true rfl) dX8_can_75 (fun H locs hI => ?_)
        refine lv_if_eq (tgt := 85) hx hb dX8_can_78 (by decide) (fun c78 => ?_) (fun c78 => ?_)
        · replace hf := xif_t c78 hf
          refine lv_iconst (v := 0) hx hb dX8_can_85 (by decide) ?_
          exact (w_X8_can_b86 E (M := M) (L := L)) (0 : Int32) hf _ (lv_sub hl [] rfl) _ _ hI
        · replace hf := xif_f c78 hf
          refine lv_iconst (v := 1) hx hb dX8_can_81 (by decide) ?_
          refine lv_goto (tgt := 86) hx hb dX8_can_82 (by decide) ?_
          exact (w_X8_can_b86 E (M := M) (L := L)) (1 : Int32) hf _ (lv_sub hl [] rfl) _ _ hI
      · replace hf := xif_f c1_2 hf
        refine x_tsOut hx hb dX8_can_1 (fun k hk => by
          have hk2 : k = 0 ∨ k = 1 ∨ k = 2 := by
            have hk3 : k < 3 := hk
            omega
          rcases hk2 with rfl | rfl | rfl
          · exact c1_0
          · exact c1_1
          · exact c1_2) (tgt := 87) (by decide) ?_
        refine lv_iconst (v := -1) hx hb dX8_can_87 (by decide) ?_
        obtain rfl := xinj1 hf
        exact x_iret E hI rfl dX8_can_88
theorem dX8_adds_0 : decode cX8_adds 0 = .ok (.aload_n 0, 1) := by decide +kernel
theorem dX8_adds_1 : decode cX8_adds 1 = .ok (.iload_n 2, 1) := by decide +kernel
theorem dX8_adds_2 : decode cX8_adds 2 = .ok (.iload_n 3, 1) := by decide +kernel
theorem dX8_adds_3 : decode cX8_adds 3 = .ok (.invokevirtual 204, 3) := by decide +kernel
theorem dX8_adds_6 : decode cX8_adds 6 = .ok (.ifCond .eq 32, 3) := by decide +kernel
theorem dX8_adds_9 : decode cX8_adds 9 = .ok (.aload_n 0, 1) := by decide +kernel
theorem dX8_adds_10 : decode cX8_adds 10 = .ok (.iload_n 1, 1) := by decide +kernel
theorem dX8_adds_11 : decode cX8_adds 11 = .ok (.iload_n 2, 1) := by decide +kernel
theorem dX8_adds_12 : decode cX8_adds 12 = .ok (.iload_n 3, 1) := by decide +kernel
theorem dX8_adds_13 : decode cX8_adds 13 = .ok (.invokevirtual 201, 3) := by decide +kernel
theorem dX8_adds_16 : decode cX8_adds 16 = .ok (.istore 4, 2) := by decide +kernel
theorem dX8_adds_18 : decode cX8_adds 18 = .ok (.aload_n 0, 1) := by decide +kernel
theorem dX8_adds_19 : decode cX8_adds 19 = .ok (.getfield 59, 3) := by decide +kernel
theorem dX8_adds_22 : decode cX8_adds 22 = .ok (.iload 4, 2) := by decide +kernel
theorem dX8_adds_24 : decode cX8_adds 24 = .ok (.ifCond .ge 7, 3) := by decide +kernel
theorem dX8_adds_27 : decode cX8_adds 27 = .ok (.iconst 5, 1) := by decide +kernel
theorem dX8_adds_28 : decode cX8_adds 28 = .ok (.goto 5, 3) := by decide +kernel
theorem dX8_adds_31 : decode cX8_adds 31 = .ok (.iload 4, 2) := by decide +kernel
theorem dX8_adds_33 : decode cX8_adds 33 = .ok (.dup2, 1) := by decide +kernel
theorem dX8_adds_34 : decode cX8_adds 34 = .ok (.iaload, 1) := by decide +kernel
theorem dX8_adds_35 : decode cX8_adds 35 = .ok (.iconst 1, 1) := by decide +kernel
theorem dX8_adds_36 : decode cX8_adds 36 = .ok (.iadd, 1) := by decide +kernel
theorem dX8_adds_37 : decode cX8_adds 37 = .ok (.iastore, 1) := by decide +kernel
theorem dX8_adds_38 : decode cX8_adds 38 = .ok (.return_, 1) := by decide +kernel
def f_X8_adds_b38 (M38 : xMem) : Option (xMem) := some M38
def f_X8_adds_b33 (M : xMem) (k38 : xMem → Option (xMem)) (t33_0 : Int32) : Option (xMem) := xchk (xb t33_0 6) (xchk (xb t33_0 6) (xlet (xst M 8 31 t33_0 ((M 8 31 t33_0.toNatClampNeg) + (1 : Int32))) (fun M37 => k38 M37)))
def f_X8_adds (a1 : Int32) (a2 : Int32) (a3 : Int32) (M : xMem) : Option (xMem) := xb1 (f_X8_isSo a2 a3 M) (fun r3 => (if r3 = (0 : Int32) then (f_X8_adds_b38) M else xb1 (f_X8_fallsFrom a1 a2 a3 M) (fun r13 => (if (0 : Int32) ≤ r13 then (f_X8_adds_b33 M (f_X8_adds_b38)) r13 else (f_X8_adds_b33 M (f_X8_adds_b38)) (5 : Int32)))))
set_option maxHeartbeats 4000000 in
set_option maxRecDepth 100000 in
theorem w_X8_adds_b38 {p : Program} {l : Launch} {e : Env} {s : State} {m : MethodId} {args : Array Value} {below : List Frame} {meth : Method} {c : Code} {G : xG} {MM : xMem} (E : xE p s m args meth c cX8_adds 5 none RX8 G) (M : xMem) (L : xLL) : ∀ (M38 : xMem), f_X8_adds_b38 M38 = some MM → ∀ (ls : Array Slot), lv_has ls 5 [] → ∀ (H : Heap) (locs : List Loc), xI G M38 L s.heap H locs → W p l e (xR 3) s m args below meth c H locs 0 0 (MQ below (xQv G MM L s.heap.size) args s 0 0 (xZ G s.heap.size)) (F0 m 38 ls []) := by
  have hx := E.1
  have hb := E.2.1
  intro M38 hf ls hl H locs hI
  rw [f_X8_adds_b38] at hf
  obtain rfl := xinj1 hf
  exact x_vret E hI dX8_adds_38
set_option maxHeartbeats 4000000 in
set_option maxRecDepth 100000 in
theorem w_X8_adds_b33 {p : Program} {l : Launch} {e : Env} {s : State} {m : MethodId} {args : Array Value} {below : List Frame} {meth : Method} {c : Code} {G : xG} {MM : xMem} (E : xE p s m args meth c cX8_adds 5 none RX8 G) (M : xMem) (L : xLL) (k38 : xMem → Option (xMem)) (hk38 : ∀ (M38 : xMem), k38 M38 = some MM → ∀ (ls : Array Slot), lv_has ls 5 [] → ∀ (H : Heap) (locs : List Loc), xI G M38 L s.heap H locs → W p l e (xR 3) s m args below meth c H locs 0 0 (MQ below (xQv G MM L s.heap.size) args s 0 0 (xZ G s.heap.size)) (F0 m 38 ls [])) : ∀ (t33_0 : Int32), f_X8_adds_b33 M k38 t33_0 = some MM → ∀ (ls : Array Slot), lv_has ls 5 [] → ∀ (H : Heap) (locs : List Loc), xI G M L s.heap H locs → W p l e (xR 3) s m args below meth c H locs 0 0 (MQ below (xQv G MM L s.heap.size) args s 0 0 (xZ G s.heap.size)) (F0 m 33 ls [.int t33_0, .ref (xq G 8 31)]) := by
  have hx := E.1
  have hb := E.2.1
  intro t33_0 hf ls hl H locs hI
  rw [f_X8_adds_b33] at hf
  refine lv_dup2_11 hx hb dX8_adds_33 rfl rfl ?_
  obtain ⟨h34b, hf⟩ := xchk_s hf
  refine x_iald (n := 6) E hI mx_8_31 (fun _ _ => rfl) h34b dX8_adds_34 ?_
  refine lv_iconst (v := 1) hx hb dX8_adds_35 (by decide) ?_
  refine lv_iadd hx hb dX8_adds_36 ?_
  obtain ⟨h37b, hf⟩ := xchk_s hf
  obtain ⟨M37, e37, hf⟩ := xlet_s hf
  refine x_iast (n := 6) E hI mx_8_31 (fun _ _ => rfl) h37b dX8_adds_37 e37 (fun H locs hI => ?_)
  exact hk38 M37 hf _ (lv_sub hl [] rfl) _ _ hI
set_option maxHeartbeats 4000000 in
set_option maxRecDepth 100000 in
theorem c_X8_adds (l : Launch) (G : xG) (sz : Nat) (M : xMem) (L : xLL) (a1 : Int32) (a2 : Int32) (a3 : Int32) {MM : xMem} (hf : f_X8_adds a1 a2 a3 M = some MM) : Met l yX8_adds (Cond.code yX8_adds cX8_adds 5 none :: xTB) (xR 3) (xP G M L sz [.ref (xq G 8 0), .int a1, .int a2, .int a3]) (xQv G MM L sz) 0 0 (xZ G sz) := by
  refine x_met (cc := cX8_adds) (nL := 5) (rt := none) (by decide) (Nat.le_of_ble_eq_true rfl) ?_
  intro p e s m below meth c ls hsz E hl hI
  subst hsz
  have E : xE p s m _ meth c cX8_adds 5 none RX8 G := E
  have hx := E.1
  have hb := E.2.1
  have hl : lv_has ls 5 [(0, .ref (xq G 8 0)), (1, .int a1), (2, .int a2), (3, .int a3)] := hl
  rw [f_X8_adds] at hf
  refine lv_aload_n hx hb dX8_adds_0 rfl (lv_at hl 0 rfl) ?_
  refine lv_iload_n hx hb dX8_adds_1 rfl (lv_at hl 2 rfl) ?_
  refine lv_iload_n hx hb dX8_adds_2 rfl (lv_at hl 3 rfl) ?_
  obtain ⟨r3, g3, hf⟩ := xb1_s hf
  refine x_callVi (As := [.int a2, .int a3]) (rest := []) E hI mx_8_0 rfl rfl rfl (c_X8_isSo l G _ (M := M) (L := L) (a1 := a2) (a2 := a3) g3) yv_X8_isSo ml_X8_204 (by decide) (by decide) rfl rfl hl.1 (Nat.le_of_ble_eq_true rfl) dX8_adds_3 (fun H locs hI => ?_)
  refine lv_if_eq (tgt := 38) hx hb dX8_adds_6 (by decide) (fun c6 => ?_) (fun c6 => ?_)
  · replace hf := xif_t c6 hf
    exact (w_X8_adds_b38 E (M := M) (L := L)) M hf _ (lv_sub hl [] rfl) _ _ hI
  · replace hf := xif_f c6 hf
    refine lv_aload_n hx hb dX8_adds_9 rfl (lv_at hl 0 rfl) ?_
    refine lv_iload_n hx hb dX8_adds_10 rfl (lv_at hl 1 rfl) ?_
    refine lv_iload_n hx hb dX8_adds_11 rfl (lv_at hl 2 rfl) ?_
    refine lv_iload_n hx hb dX8_adds_12 rfl (lv_at hl 3 rfl) ?_
    obtain ⟨r13, g13, hf⟩ := xb1_s hf
    refine x_callVi (As := [.int a1, .int a2, .int a3]) (rest := []) E hI mx_8_0 rfl rfl rfl (c_X8_fallsFrom l G _ (M := M) (L := L) (a1 := a1) (a2 := a2) (a3 := a3) g13) yv_X8_fallsFrom ml_X8_201 (by decide) (by decide) rfl rfl hl.1 (Nat.le_of_ble_eq_true rfl) dX8_adds_13 (fun H locs hI => ?_)
    refine lv_istore (lv' := [(4, .int r13), (0, .ref (xq G 8 0)), (1, .int a1), (2, .int a2), (3, .int a3)]) hx hb dX8_adds_16 hl (by decide) rfl (fun ls hl => ?_)
    refine lv_aload_n hx hb dX8_adds_18 rfl (lv_at hl 1 rfl) ?_
    refine gf_X8_59 E hI dX8_adds_19 ?_
    refine lv_iload hx hb dX8_adds_22 (lv_at hl 0 rfl) ?_
    refine lv_if_ge (tgt := 31) hx hb dX8_adds_24 (by decide) (fun c24 => ?_) (fun c24 => ?_)
    · replace hf := xif_t c24 hf
      refine lv_iload hx hb dX8_adds_31 (lv_at hl 0 rfl) ?_
      exact (w_X8_adds_b33 E (M := M) (L := L) (k38 := (f_X8_adds_b38)) (hk38 := (w_X8_adds_b38 E (M := M) (L := L)))) r13 hf _ (lv_sub hl [] rfl) _ _ hI
    · replace hf := xif_f c24 hf
      refine lv_iconst (v := 5) hx hb dX8_adds_27 (by decide) ?_
      refine lv_goto (tgt := 33) hx hb dX8_adds_28 (by decide) ?_
      exact (w_X8_adds_b33 E (M := M) (L := L) (k38 := (f_X8_adds_b38)) (hk38 := (w_X8_adds_b38 E (M := M) (L := L)))) (5 : Int32) hf _ (lv_sub hl [] rfl) _ _ hI
theorem dX8_greatest_0 : decode cX8_greatest 0 = .ok (.iconst 0, 1) := by decide +kernel
theorem dX8_greatest_1 : decode cX8_greatest 1 = .ok (.istore_n 2, 1) := by decide +kernel
theorem dX8_greatest_2 : decode cX8_greatest 2 = .ok (.iload_n 2, 1) := by decide +kernel
theorem dX8_greatest_3 : decode cX8_greatest 3 = .ok (.bipush 6, 2) := by decide +kernel
theorem dX8_greatest_5 : decode cX8_greatest 5 = .ok (.if_icmp .ge 16, 3) := by decide +kernel
theorem dX8_greatest_8 : decode cX8_greatest 8 = .ok (.aload_n 0, 1) := by decide +kernel
theorem dX8_greatest_9 : decode cX8_greatest 9 = .ok (.getfield 59, 3) := by decide +kernel
theorem dX8_greatest_12 : decode cX8_greatest 12 = .ok (.iload_n 2, 1) := by decide +kernel
theorem dX8_greatest_13 : decode cX8_greatest 13 = .ok (.iconst 0, 1) := by decide +kernel
theorem dX8_greatest_14 : decode cX8_greatest 14 = .ok (.iastore, 1) := by decide +kernel
theorem dX8_greatest_15 : decode cX8_greatest 15 = .ok (.iinc 2 1, 3) := by decide +kernel
theorem dX8_greatest_18 : decode cX8_greatest 18 = .ok (.goto (-16), 3) := by decide +kernel
theorem dX8_greatest_21 : decode cX8_greatest 21 = .ok (.aload_n 0, 1) := by decide +kernel
theorem dX8_greatest_22 : decode cX8_greatest 22 = .ok (.iload_n 1, 1) := by decide +kernel
theorem dX8_greatest_23 : decode cX8_greatest 23 = .ok (.bipush (-9), 2) := by decide +kernel
theorem dX8_greatest_25 : decode cX8_greatest 25 = .ok (.iconst 0, 1) := by decide +kernel
theorem dX8_greatest_26 : decode cX8_greatest 26 = .ok (.invokevirtual 213, 3) := by decide +kernel
theorem dX8_greatest_29 : decode cX8_greatest 29 = .ok (.iconst 0, 1) := by decide +kernel
theorem dX8_greatest_30 : decode cX8_greatest 30 = .ok (.istore_n 2, 1) := by decide +kernel
theorem dX8_greatest_31 : decode cX8_greatest 31 = .ok (.iload_n 2, 1) := by decide +kernel
theorem dX8_greatest_32 : decode cX8_greatest 32 = .ok (.aload_n 0, 1) := by decide +kernel
theorem dX8_greatest_33 : decode cX8_greatest 33 = .ok (.getfield 62, 3) := by decide +kernel
theorem dX8_greatest_36 : decode cX8_greatest 36 = .ok (.if_icmp .ge 35, 3) := by decide +kernel
theorem dX8_greatest_39 : decode cX8_greatest 39 = .ok (.bipush (-9), 2) := by decide +kernel
theorem dX8_greatest_41 : decode cX8_greatest 41 = .ok (.istore_n 3, 1) := by decide +kernel
theorem dX8_greatest_42 : decode cX8_greatest 42 = .ok (.iload_n 3, 1) := by decide +kernel
theorem dX8_greatest_43 : decode cX8_greatest 43 = .ok (.bipush 9, 2) := by decide +kernel
theorem dX8_greatest_45 : decode cX8_greatest 45 = .ok (.if_icmp .gt 20, 3) := by decide +kernel
theorem dX8_greatest_48 : decode cX8_greatest 48 = .ok (.iload_n 3, 1) := by decide +kernel
theorem dX8_greatest_49 : decode cX8_greatest 49 = .ok (.ifCond .eq 10, 3) := by decide +kernel
theorem dX8_greatest_52 : decode cX8_greatest 52 = .ok (.aload_n 0, 1) := by decide +kernel
theorem dX8_greatest_53 : decode cX8_greatest 53 = .ok (.iload_n 1, 1) := by decide +kernel
theorem dX8_greatest_54 : decode cX8_greatest 54 = .ok (.iload_n 2, 1) := by decide +kernel
theorem dX8_greatest_55 : decode cX8_greatest 55 = .ok (.iload_n 3, 1) := by decide +kernel
theorem dX8_greatest_56 : decode cX8_greatest 56 = .ok (.invokevirtual 213, 3) := by decide +kernel
theorem dX8_greatest_59 : decode cX8_greatest 59 = .ok (.iinc 3 1, 3) := by decide +kernel
theorem dX8_greatest_62 : decode cX8_greatest 62 = .ok (.goto (-20), 3) := by decide +kernel
theorem dX8_greatest_65 : decode cX8_greatest 65 = .ok (.iinc 2 1, 3) := by decide +kernel
theorem dX8_greatest_68 : decode cX8_greatest 68 = .ok (.goto (-37), 3) := by decide +kernel
theorem dX8_greatest_71 : decode cX8_greatest 71 = .ok (.iconst 0, 1) := by decide +kernel
theorem dX8_greatest_72 : decode cX8_greatest 72 = .ok (.istore_n 2, 1) := by decide +kernel
theorem dX8_greatest_73 : decode cX8_greatest 73 = .ok (.iconst 0, 1) := by decide +kernel
theorem dX8_greatest_74 : decode cX8_greatest 74 = .ok (.istore_n 3, 1) := by decide +kernel
theorem dX8_greatest_75 : decode cX8_greatest 75 = .ok (.iload_n 3, 1) := by decide +kernel
theorem dX8_greatest_76 : decode cX8_greatest 76 = .ok (.bipush 6, 2) := by decide +kernel
theorem dX8_greatest_78 : decode cX8_greatest 78 = .ok (.if_icmp .ge 30, 3) := by decide +kernel
theorem dX8_greatest_81 : decode cX8_greatest 81 = .ok (.aload_n 0, 1) := by decide +kernel
theorem dX8_greatest_82 : decode cX8_greatest 82 = .ok (.getfield 59, 3) := by decide +kernel
theorem dX8_greatest_85 : decode cX8_greatest 85 = .ok (.iload_n 3, 1) := by decide +kernel
theorem dX8_greatest_86 : decode cX8_greatest 86 = .ok (.iaload, 1) := by decide +kernel
theorem dX8_greatest_87 : decode cX8_greatest 87 = .ok (.iload_n 2, 1) := by decide +kernel
theorem dX8_greatest_88 : decode cX8_greatest 88 = .ok (.if_icmp .le 12, 3) := by decide +kernel
theorem dX8_greatest_91 : decode cX8_greatest 91 = .ok (.aload_n 0, 1) := by decide +kernel
theorem dX8_greatest_92 : decode cX8_greatest 92 = .ok (.getfield 59, 3) := by decide +kernel
theorem dX8_greatest_95 : decode cX8_greatest 95 = .ok (.iload_n 3, 1) := by decide +kernel
theorem dX8_greatest_96 : decode cX8_greatest 96 = .ok (.iaload, 1) := by decide +kernel
theorem dX8_greatest_97 : decode cX8_greatest 97 = .ok (.goto 4, 3) := by decide +kernel
theorem dX8_greatest_100 : decode cX8_greatest 100 = .ok (.iload_n 2, 1) := by decide +kernel
theorem dX8_greatest_101 : decode cX8_greatest 101 = .ok (.istore_n 2, 1) := by decide +kernel
theorem dX8_greatest_102 : decode cX8_greatest 102 = .ok (.iinc 3 1, 3) := by decide +kernel
theorem dX8_greatest_105 : decode cX8_greatest 105 = .ok (.goto (-30), 3) := by decide +kernel
theorem dX8_greatest_108 : decode cX8_greatest 108 = .ok (.iload_n 2, 1) := by decide +kernel
theorem dX8_greatest_109 : decode cX8_greatest 109 = .ok (.ireturn, 1) := by decide +kernel
def f_X8_greatest_b101 (v75_3 : Int32) (k75 : Int32 → Int32 → Option (Int32 × xMem)) (t101_0 : Int32) : Option (Int32 × xMem) := k75 t101_0 (v75_3 + (1 : Int32))
def f_X8_greatest_l75 (M31 : xMem) : Nat → Int32 → Int32 → Option (Int32 × xMem)
  | 0, _, _ => none
  | n + 1, v75_2, v75_3 => (if (6 : Int32) ≤ v75_3 then some (v75_2, M31) else xchk (xb v75_3 6) ((if (M31 8 31 v75_3.toNatClampNeg) ≤ v75_2 then (f_X8_greatest_b101 v75_3 (f_X8_greatest_l75 M31 n)) v75_2 else xchk (xb v75_3 6) ((f_X8_greatest_b101 v75_3 (f_X8_greatest_l75 M31 n)) (M31 8 31 v75_3.toNatClampNeg)))))
def f_X8_greatest_b59 (v42_3 : Int32) (k42 : Int32 → xMem → Option (Int32 × xMem)) (M59 : xMem) : Option (Int32 × xMem) := k42 (v42_3 + (1 : Int32)) M59
def f_X8_greatest_l42 (a1 : Int32) (v31_2 : Int32) (k31 : Int32 → xMem → Option (Int32 × xMem)) : Nat → Int32 → xMem → Option (Int32 × xMem)
  | 0, _, _ => none
  | n + 1, v42_3, M42 => (if (9 : Int32) < v42_3 then k31 (v31_2 + (1 : Int32)) M42 else (if v42_3 = (0 : Int32) then (f_X8_greatest_b59 v42_3 (f_X8_greatest_l42 a1 v31_2 k31 n)) M42 else xb1 (f_X8_adds a1 v31_2 v42_3 M42) (fun M56 => (f_X8_greatest_b59 v42_3 (f_X8_greatest_l42 a1 v31_2 k31 n)) M56)))
def f_X8_greatest_l31 (a1 : Int32) : Nat → Int32 → xMem → Option (Int32 × xMem)
  | 0, _, _ => none
  | n + 1, v31_2, M31 => (if (M31 8 0 0) ≤ v31_2 then (f_X8_greatest_l75 M31 FU) (0 : Int32) (0 : Int32) else (f_X8_greatest_l42 a1 v31_2 (f_X8_greatest_l31 a1 n) FU) (-9 : Int32) M31)
def f_X8_greatest_l2 (a1 : Int32) : Nat → Int32 → xMem → Option (Int32 × xMem)
  | 0, _, _ => none
  | n + 1, v2_2, M2 => (if (6 : Int32) ≤ v2_2 then xb1 (f_X8_adds a1 (-9 : Int32) (0 : Int32) M2) (fun M26 => (f_X8_greatest_l31 a1 FU) (0 : Int32) M26) else xchk (xb v2_2 6) (xlet (xst M2 8 31 v2_2 (0 : Int32)) (fun M14 => (f_X8_greatest_l2 a1 n) (v2_2 + (1 : Int32)) M14)))
def f_X8_greatest (a1 : Int32) (M : xMem) : Option (Int32 × xMem) := (f_X8_greatest_l2 a1 FU) (0 : Int32) M
set_option maxHeartbeats 4000000 in
set_option maxRecDepth 100000 in
theorem w_X8_greatest_b101 {p : Program} {l : Launch} {e : Env} {s : State} {m : MethodId} {args : Array Value} {below : List Frame} {meth : Method} {c : Code} {G : xG} {rr : Int32} {MM : xMem} (E : xE p s m args meth c cX8_greatest 4 (some .int) RX8 G) (M : xMem) (L : xLL) (M31 : xMem) (v75_2 : Int32) (v75_3 : Int32) (k75 : Int32 → Int32 → Option (Int32 × xMem)) (hk75 : ∀ (v75_2 : Int32) (v75_3 : Int32), k75 v75_2 v75_3 = some (rr, MM) → ∀ (ls : Array Slot), lv_has ls 4 [(0, .ref (xq G 8 0)), (2, .int v75_2), (3, .int v75_3)] → ∀ (H : Heap) (locs : List Loc), xI G M31 L s.heap H locs → W p l e (xR 4) s m args below meth c H locs 0 0 (MQ below (xQi G rr MM L s.heap.size) args s 0 0 (xZ G s.heap.size)) (F0 m 75 ls [])) : ∀ (t101_0 : Int32), f_X8_greatest_b101 v75_3 k75 t101_0 = some (rr, MM) → ∀ (ls : Array Slot), lv_has ls 4 [(0, .ref (xq G 8 0)), (3, .int v75_3)] → ∀ (H : Heap) (locs : List Loc), xI G M31 L s.heap H locs → W p l e (xR 4) s m args below meth c H locs 0 0 (MQ below (xQi G rr MM L s.heap.size) args s 0 0 (xZ G s.heap.size)) (F0 m 101 ls [.int t101_0]) := by
  have hx := E.1
  have hb := E.2.1
  intro t101_0 hf ls hl H locs hI
  rw [f_X8_greatest_b101] at hf
  refine lv_istore_n (lv' := [(2, .int t101_0), (0, .ref (xq G 8 0)), (3, .int v75_3)]) hx hb dX8_greatest_101 rfl hl (by decide) rfl (fun ls hl => ?_)
  refine lv_iinc (v := (v75_3 + (1 : Int32))) (lv' := [(3, .int (v75_3 + (1 : Int32))), (2, .int t101_0), (0, .ref (xq G 8 0))]) hx hb dX8_greatest_102 hl (k := 2) rfl rfl (by decide) rfl (fun ls hl => ?_)
  refine lv_goto (tgt := 75) hx hb dX8_greatest_105 (by decide) ?_
  exact hk75 t101_0 (v75_3 + (1 : Int32)) hf _ (lv_sub hl [2, 1, 0] rfl) _ _ hI
set_option maxHeartbeats 4000000 in
set_option maxRecDepth 100000 in
theorem w_X8_greatest_l75 {p : Program} {l : Launch} {e : Env} {s : State} {m : MethodId} {args : Array Value} {below : List Frame} {meth : Method} {c : Code} {G : xG} {rr : Int32} {MM : xMem} (E : xE p s m args meth c cX8_greatest 4 (some .int) RX8 G) (M : xMem) (L : xLL) (M31 : xMem) : ∀ (n : Nat), ∀ (v75_2 : Int32) (v75_3 : Int32), f_X8_greatest_l75 M31 n v75_2 v75_3 = some (rr, MM) → ∀ (ls : Array Slot), lv_has ls 4 [(0, .ref (xq G 8 0)), (2, .int v75_2), (3, .int v75_3)] → ∀ (H : Heap) (locs : List Loc), xI G M31 L s.heap H locs → W p l e (xR 4) s m args below meth c H locs 0 0 (MQ below (xQi G rr MM L s.heap.size) args s 0 0 (xZ G s.heap.size)) (F0 m 75 ls []) := by
  have hx := E.1
  have hb := E.2.1
  intro n
  induction n with
  | zero =>
    intro v75_2 v75_3 hf
    exact absurd hf (by simp [f_X8_greatest_l75])
  | succ n ih =>
    intro v75_2 v75_3 hf ls hl H locs hI
    rw [f_X8_greatest_l75] at hf
    refine lv_iload_n hx hb dX8_greatest_75 rfl (lv_at hl 2 rfl) ?_
    refine lv_bipush (v := 6) hx hb dX8_greatest_76 (by decide) ?_
    refine lv_icmp_ge (tgt := 108) hx hb dX8_greatest_78 (by decide) (fun c78 => ?_) (fun c78 => ?_)
    · replace hf := xif_t c78 hf
      refine lv_iload_n hx hb dX8_greatest_108 rfl (lv_at hl 1 rfl) ?_
      obtain ⟨rfl, rfl⟩ := xinj2 hf
      exact x_iret E hI rfl dX8_greatest_109
    · replace hf := xif_f c78 hf
      refine lv_aload_n hx hb dX8_greatest_81 rfl (lv_at hl 0 rfl) ?_
      refine gf_X8_59 E hI dX8_greatest_82 ?_
      refine lv_iload_n hx hb dX8_greatest_85 rfl (lv_at hl 2 rfl) ?_
      obtain ⟨h86b, hf⟩ := xchk_s hf
      refine x_iald (n := 6) E hI mx_8_31 (fun _ _ => rfl) h86b dX8_greatest_86 ?_
      refine lv_iload_n hx hb dX8_greatest_87 rfl (lv_at hl 1 rfl) ?_
      refine lv_icmp_le (tgt := 100) hx hb dX8_greatest_88 (by decide) (fun c88 => ?_) (fun c88 => ?_)
      · replace hf := xif_t c88 hf
        refine lv_iload_n hx hb dX8_greatest_100 rfl (lv_at hl 1 rfl) ?_
        exact (w_X8_greatest_b101 E (M := M) (L := L) (M31 := M31) (v75_2 := v75_2) (v75_3 := v75_3) (k75 := (f_X8_greatest_l75 M31 n)) (hk75 := ih)) v75_2 hf _ (lv_sub hl [0, 2] rfl) _ _ hI
      · replace hf := xif_f c88 hf
        refine lv_aload_n hx hb dX8_greatest_91 rfl (lv_at hl 0 rfl) ?_
        refine gf_X8_59 E hI dX8_greatest_92 ?_
        refine lv_iload_n hx hb dX8_greatest_95 rfl (lv_at hl 2 rfl) ?_
        obtain ⟨h96b, hf⟩ := xchk_s hf
        refine x_iald (n := 6) E hI mx_8_31 (fun _ _ => rfl) h96b dX8_greatest_96 ?_
        refine lv_goto (tgt := 101) hx hb dX8_greatest_97 (by decide) ?_
        exact (w_X8_greatest_b101 E (M := M) (L := L) (M31 := M31) (v75_2 := v75_2) (v75_3 := v75_3) (k75 := (f_X8_greatest_l75 M31 n)) (hk75 := ih)) (M31 8 31 v75_3.toNatClampNeg) hf _ (lv_sub hl [0, 2] rfl) _ _ hI
set_option maxHeartbeats 4000000 in
set_option maxRecDepth 100000 in
theorem w_X8_greatest_b59 {p : Program} {l : Launch} {e : Env} {s : State} {m : MethodId} {args : Array Value} {below : List Frame} {meth : Method} {c : Code} {G : xG} {rr : Int32} {MM : xMem} (E : xE p s m args meth c cX8_greatest 4 (some .int) RX8 G) (a1 : Int32) (M : xMem) (L : xLL) (v31_2 : Int32) (v42_3 : Int32) (M42 : xMem) (k42 : Int32 → xMem → Option (Int32 × xMem)) (hk42 : ∀ (v42_3 : Int32) (M42 : xMem), k42 v42_3 M42 = some (rr, MM) → ∀ (ls : Array Slot), lv_has ls 4 [(0, .ref (xq G 8 0)), (1, .int a1), (2, .int v31_2), (3, .int v42_3)] → ∀ (H : Heap) (locs : List Loc), xI G M42 L s.heap H locs → W p l e (xR 4) s m args below meth c H locs 0 0 (MQ below (xQi G rr MM L s.heap.size) args s 0 0 (xZ G s.heap.size)) (F0 m 42 ls [])) : ∀ (M59 : xMem), f_X8_greatest_b59 v42_3 k42 M59 = some (rr, MM) → ∀ (ls : Array Slot), lv_has ls 4 [(0, .ref (xq G 8 0)), (1, .int a1), (2, .int v31_2), (3, .int v42_3)] → ∀ (H : Heap) (locs : List Loc), xI G M59 L s.heap H locs → W p l e (xR 4) s m args below meth c H locs 0 0 (MQ below (xQi G rr MM L s.heap.size) args s 0 0 (xZ G s.heap.size)) (F0 m 59 ls []) := by
  have hx := E.1
  have hb := E.2.1
  intro M59 hf ls hl H locs hI
  rw [f_X8_greatest_b59] at hf
  refine lv_iinc (v := (v42_3 + (1 : Int32))) (lv' := [(3, .int (v42_3 + (1 : Int32))), (0, .ref (xq G 8 0)), (1, .int a1), (2, .int v31_2)]) hx hb dX8_greatest_59 hl (k := 3) rfl rfl (by decide) rfl (fun ls hl => ?_)
  refine lv_goto (tgt := 42) hx hb dX8_greatest_62 (by decide) ?_
  exact hk42 (v42_3 + (1 : Int32)) M59 hf _ (lv_sub hl [1, 2, 3, 0] rfl) _ _ hI
set_option maxHeartbeats 4000000 in
set_option maxRecDepth 100000 in
theorem w_X8_greatest_l42 {p : Program} {l : Launch} {e : Env} {s : State} {m : MethodId} {args : Array Value} {below : List Frame} {meth : Method} {c : Code} {G : xG} {rr : Int32} {MM : xMem} (E : xE p s m args meth c cX8_greatest 4 (some .int) RX8 G) (a1 : Int32) (M : xMem) (L : xLL) (v31_2 : Int32) (M31 : xMem) (k31 : Int32 → xMem → Option (Int32 × xMem)) (hk31 : ∀ (v31_2 : Int32) (M31 : xMem), k31 v31_2 M31 = some (rr, MM) → ∀ (ls : Array Slot), lv_has ls 4 [(0, .ref (xq G 8 0)), (1, .int a1), (2, .int v31_2)] → ∀ (H : Heap) (locs : List Loc), xI G M31 L s.heap H locs → W p l e (xR 4) s m args below meth c H locs 0 0 (MQ below (xQi G rr MM L s.heap.size) args s 0 0 (xZ G s.heap.size)) (F0 m 31 ls [])) : ∀ (n : Nat), ∀ (v42_3 : Int32) (M42 : xMem), f_X8_greatest_l42 a1 v31_2 k31 n v42_3 M42 = some (rr, MM) → ∀ (ls : Array Slot), lv_has ls 4 [(0, .ref (xq G 8 0)), (1, .int a1), (2, .int v31_2), (3, .int v42_3)] → ∀ (H : Heap) (locs : List Loc), xI G M42 L s.heap H locs → W p l e (xR 4) s m args below meth c H locs 0 0 (MQ below (xQi G rr MM L s.heap.size) args s 0 0 (xZ G s.heap.size)) (F0 m 42 ls []) := by
  have hx := E.1
  have hb := E.2.1
  intro n
  induction n with
  | zero =>
    intro v42_3 M42 hf
    exact absurd hf (by simp [f_X8_greatest_l42])
  | succ n ih =>
    intro v42_3 M42 hf ls hl H locs hI
    rw [f_X8_greatest_l42] at hf
    refine lv_iload_n hx hb dX8_greatest_42 rfl (lv_at hl 3 rfl) ?_
    refine lv_bipush (v := 9) hx hb dX8_greatest_43 (by decide) ?_
    refine lv_icmp_gt (tgt := 65) hx hb dX8_greatest_45 (by decide) (fun c45 => ?_) (fun c45 => ?_)
    · replace hf := xif_t c45 hf
      refine lv_iinc (v := (v31_2 + (1 : Int32))) (lv' := [(2, .int (v31_2 + (1 : Int32))), (0, .ref (xq G 8 0)), (1, .int a1), (3, .int v42_3)]) hx hb dX8_greatest_65 hl (k := 2) rfl rfl (by decide) rfl (fun ls hl => ?_)
      refine lv_goto (tgt := 31) hx hb dX8_greatest_68 (by decide) ?_
      exact hk31 (v31_2 + (1 : Int32)) M42 hf _ (lv_sub hl [1, 2, 0] rfl) _ _ hI
    · replace hf := xif_f c45 hf
      refine lv_iload_n hx hb dX8_greatest_48 rfl (lv_at hl 3 rfl) ?_
      refine lv_if_eq (tgt := 59) hx hb dX8_greatest_49 (by decide) (fun c49 => ?_) (fun c49 => ?_)
      · replace hf := xif_t c49 hf
        exact (w_X8_greatest_b59 E (a1 := a1) (M := M) (L := L) (v31_2 := v31_2) (v42_3 := v42_3) (M42 := M42) (k42 := (f_X8_greatest_l42 a1 v31_2 k31 n)) (hk42 := ih)) M42 hf _ (lv_sub hl [0, 1, 2, 3] rfl) _ _ hI
      · replace hf := xif_f c49 hf
        refine lv_aload_n hx hb dX8_greatest_52 rfl (lv_at hl 0 rfl) ?_
        refine lv_iload_n hx hb dX8_greatest_53 rfl (lv_at hl 1 rfl) ?_
        refine lv_iload_n hx hb dX8_greatest_54 rfl (lv_at hl 2 rfl) ?_
        refine lv_iload_n hx hb dX8_greatest_55 rfl (lv_at hl 3 rfl) ?_
        obtain ⟨M56, g56, hf⟩ := xb1_s hf
        refine x_callVv (As := [.int a1, .int v31_2, .int v42_3]) (rest := []) E hI mx_8_0 rfl rfl rfl (c_X8_adds l G _ (M := M42) (L := L) (a1 := a1) (a2 := v31_2) (a3 := v42_3) g56) yv_X8_adds ml_X8_213 (by decide) (by decide) rfl rfl hl.1 (Nat.le_of_ble_eq_true rfl) dX8_greatest_56 (fun H locs hI => ?_)
        exact (w_X8_greatest_b59 E (a1 := a1) (M := M) (L := L) (v31_2 := v31_2) (v42_3 := v42_3) (M42 := M42) (k42 := (f_X8_greatest_l42 a1 v31_2 k31 n)) (hk42 := ih)) M56 hf _ (lv_sub hl [0, 1, 2, 3] rfl) _ _ hI
set_option maxHeartbeats 4000000 in
set_option maxRecDepth 100000 in
theorem w_X8_greatest_l31 {p : Program} {l : Launch} {e : Env} {s : State} {m : MethodId} {args : Array Value} {below : List Frame} {meth : Method} {c : Code} {G : xG} {rr : Int32} {MM : xMem} (E : xE p s m args meth c cX8_greatest 4 (some .int) RX8 G) (a1 : Int32) (M : xMem) (L : xLL) : ∀ (n : Nat), ∀ (v31_2 : Int32) (M31 : xMem), f_X8_greatest_l31 a1 n v31_2 M31 = some (rr, MM) → ∀ (ls : Array Slot), lv_has ls 4 [(0, .ref (xq G 8 0)), (1, .int a1), (2, .int v31_2)] → ∀ (H : Heap) (locs : List Loc), xI G M31 L s.heap H locs → W p l e (xR 4) s m args below meth c H locs 0 0 (MQ below (xQi G rr MM L s.heap.size) args s 0 0 (xZ G s.heap.size)) (F0 m 31 ls []) := by
  have hx := E.1
  have hb := E.2.1
  intro n
  induction n with
  | zero =>
    intro v31_2 M31 hf
    exact absurd hf (by simp [f_X8_greatest_l31])
  | succ n ih =>
    intro v31_2 M31 hf ls hl H locs hI
    rw [f_X8_greatest_l31] at hf
    refine lv_iload_n hx hb dX8_greatest_31 rfl (lv_at hl 2 rfl) ?_
    refine lv_aload_n hx hb dX8_greatest_32 rfl (lv_at hl 0 rfl) ?_
    refine gf_X8_62 E hI dX8_greatest_33 ?_
    refine lv_icmp_ge (tgt := 71) hx hb dX8_greatest_36 (by decide) (fun c36 => ?_) (fun c36 => ?_)
    · replace hf := xif_t c36 hf
      refine lv_iconst (v := 0) hx hb dX8_greatest_71 (by decide) ?_
      refine lv_istore_n (lv' := [(2, .int (0 : Int32)), (0, .ref (xq G 8 0)), (1, .int a1)]) hx hb dX8_greatest_72 rfl hl (by decide) rfl (fun ls hl => ?_)
      refine lv_iconst (v := 0) hx hb dX8_greatest_73 (by decide) ?_
      refine lv_istore_n (lv' := [(3, .int (0 : Int32)), (2, .int (0 : Int32)), (0, .ref (xq G 8 0)), (1, .int a1)]) hx hb dX8_greatest_74 rfl hl (by decide) rfl (fun ls hl => ?_)
      exact (w_X8_greatest_l75 E (M := M) (L := L) (M31 := M31) FU) (0 : Int32) (0 : Int32) hf _ (lv_sub hl [2, 1, 0] rfl) _ _ hI
    · replace hf := xif_f c36 hf
      refine lv_bipush (v := -9) hx hb dX8_greatest_39 (by decide) ?_
      refine lv_istore_n (lv' := [(3, .int (-9 : Int32)), (0, .ref (xq G 8 0)), (1, .int a1), (2, .int v31_2)]) hx hb dX8_greatest_41 rfl hl (by decide) rfl (fun ls hl => ?_)
      exact (w_X8_greatest_l42 E (a1 := a1) (M := M) (L := L) (v31_2 := v31_2) (M31 := M31) (k31 := (f_X8_greatest_l31 a1 n)) (hk31 := ih) FU) (-9 : Int32) M31 hf _ (lv_sub hl [1, 2, 3, 0] rfl) _ _ hI
set_option maxHeartbeats 4000000 in
set_option maxRecDepth 100000 in
theorem w_X8_greatest_l2 {p : Program} {l : Launch} {e : Env} {s : State} {m : MethodId} {args : Array Value} {below : List Frame} {meth : Method} {c : Code} {G : xG} {rr : Int32} {MM : xMem} (E : xE p s m args meth c cX8_greatest 4 (some .int) RX8 G) (a1 : Int32) (M : xMem) (L : xLL) : ∀ (n : Nat), ∀ (v2_2 : Int32) (M2 : xMem), f_X8_greatest_l2 a1 n v2_2 M2 = some (rr, MM) → ∀ (ls : Array Slot), lv_has ls 4 [(0, .ref (xq G 8 0)), (1, .int a1), (2, .int v2_2)] → ∀ (H : Heap) (locs : List Loc), xI G M2 L s.heap H locs → W p l e (xR 4) s m args below meth c H locs 0 0 (MQ below (xQi G rr MM L s.heap.size) args s 0 0 (xZ G s.heap.size)) (F0 m 2 ls []) := by
  have hx := E.1
  have hb := E.2.1
  intro n
  induction n with
  | zero =>
    intro v2_2 M2 hf
    exact absurd hf (by simp [f_X8_greatest_l2])
  | succ n ih =>
    intro v2_2 M2 hf ls hl H locs hI
    rw [f_X8_greatest_l2] at hf
    refine lv_iload_n hx hb dX8_greatest_2 rfl (lv_at hl 2 rfl) ?_
    refine lv_bipush (v := 6) hx hb dX8_greatest_3 (by decide) ?_
    refine lv_icmp_ge (tgt := 21) hx hb dX8_greatest_5 (by decide) (fun c5 => ?_) (fun c5 => ?_)
    · replace hf := xif_t c5 hf
      refine lv_aload_n hx hb dX8_greatest_21 rfl (lv_at hl 0 rfl) ?_
      refine lv_iload_n hx hb dX8_greatest_22 rfl (lv_at hl 1 rfl) ?_
      refine lv_bipush (v := -9) hx hb dX8_greatest_23 (by decide) ?_
      refine lv_iconst (v := 0) hx hb dX8_greatest_25 (by decide) ?_
      obtain ⟨M26, g26, hf⟩ := xb1_s hf
      refine x_callVv (As := [.int a1, .int (-9 : Int32), .int (0 : Int32)]) (rest := []) E hI mx_8_0 rfl rfl rfl (c_X8_adds l G _ (M := M2) (L := L) (a1 := a1) (a2 := (-9 : Int32)) (a3 := (0 : Int32)) g26) yv_X8_adds ml_X8_213 (by decide) (by decide) rfl rfl hl.1 (Nat.le_of_ble_eq_true rfl) dX8_greatest_26 (fun H locs hI => ?_)
      refine lv_iconst (v := 0) hx hb dX8_greatest_29 (by decide) ?_
      refine lv_istore_n (lv' := [(2, .int (0 : Int32)), (0, .ref (xq G 8 0)), (1, .int a1)]) hx hb dX8_greatest_30 rfl hl (by decide) rfl (fun ls hl => ?_)
      exact (w_X8_greatest_l31 E (a1 := a1) (M := M) (L := L) FU) (0 : Int32) M26 hf _ (lv_sub hl [1, 2, 0] rfl) _ _ hI
    · replace hf := xif_f c5 hf
      refine lv_aload_n hx hb dX8_greatest_8 rfl (lv_at hl 0 rfl) ?_
      refine gf_X8_59 E hI dX8_greatest_9 ?_
      refine lv_iload_n hx hb dX8_greatest_12 rfl (lv_at hl 2 rfl) ?_
      refine lv_iconst (v := 0) hx hb dX8_greatest_13 (by decide) ?_
      obtain ⟨h14b, hf⟩ := xchk_s hf
      obtain ⟨M14, e14, hf⟩ := xlet_s hf
      refine x_iast (n := 6) E hI mx_8_31 (fun _ _ => rfl) h14b dX8_greatest_14 e14 (fun H locs hI => ?_)
      refine lv_iinc (v := (v2_2 + (1 : Int32))) (lv' := [(2, .int (v2_2 + (1 : Int32))), (0, .ref (xq G 8 0)), (1, .int a1)]) hx hb dX8_greatest_15 hl (k := 2) rfl rfl (by decide) rfl (fun ls hl => ?_)
      refine lv_goto (tgt := 2) hx hb dX8_greatest_18 (by decide) ?_
      exact ih (v2_2 + (1 : Int32)) M14 hf _ (lv_sub hl [1, 2, 0] rfl) _ _ hI
set_option maxHeartbeats 4000000 in
set_option maxRecDepth 100000 in
theorem c_X8_greatest (l : Launch) (G : xG) (sz : Nat) (M : xMem) (L : xLL) (a1 : Int32) {rr : Int32} {MM : xMem} (hf : f_X8_greatest a1 M = some (rr, MM)) : Met l yX8_greatest (Cond.code yX8_greatest cX8_greatest 4 (some .int) :: xTB) (xR 4) (xP G M L sz [.ref (xq G 8 0), .int a1]) (xQi G rr MM L sz) 0 0 (xZ G sz) := by
  refine x_met (cc := cX8_greatest) (nL := 4) (rt := (some .int)) (by decide) (Nat.le_of_ble_eq_true rfl) ?_
  intro p e s m below meth c ls hsz E hl hI
  subst hsz
  have E : xE p s m _ meth c cX8_greatest 4 (some .int) RX8 G := E
  have hx := E.1
  have hb := E.2.1
  have hl : lv_has ls 4 [(0, .ref (xq G 8 0)), (1, .int a1)] := hl
  rw [f_X8_greatest] at hf
  refine lv_iconst (v := 0) hx hb dX8_greatest_0 (by decide) ?_
  refine lv_istore_n (lv' := [(2, .int (0 : Int32)), (0, .ref (xq G 8 0)), (1, .int a1)]) hx hb dX8_greatest_1 rfl hl (by decide) rfl (fun ls hl => ?_)
  exact (w_X8_greatest_l2 E (a1 := a1) (M := M) (L := L) FU) (0 : Int32) M hf _ (lv_sub hl [1, 2, 0] rfl) _ _ hI
theorem dX8_next_0 : decode cX8_next 0 = .ok (.aload_n 0, 1) := by decide +kernel
theorem dX8_next_1 : decode cX8_next 1 = .ok (.invokevirtual 210, 3) := by decide +kernel
theorem dX8_next_4 : decode cX8_next 4 = .ok (.iconst 2, 1) := by decide +kernel
theorem dX8_next_5 : decode cX8_next 5 = .ok (.if_icmp .ge 6, 3) := by decide +kernel
theorem dX8_next_8 : decode cX8_next 8 = .ok (.bipush (-9), 2) := by decide +kernel
theorem dX8_next_10 : decode cX8_next 10 = .ok (.ireturn, 1) := by decide +kernel
theorem dX8_next_11 : decode cX8_next 11 = .ok (.bipush (-9), 2) := by decide +kernel
theorem dX8_next_13 : decode cX8_next 13 = .ok (.istore_n 1, 1) := by decide +kernel
theorem dX8_next_14 : decode cX8_next 14 = .ok (.iconst 0, 1) := by decide +kernel
theorem dX8_next_15 : decode cX8_next 15 = .ok (.istore_n 2, 1) := by decide +kernel
theorem dX8_next_16 : decode cX8_next 16 = .ok (.iconst 1, 1) := by decide +kernel
theorem dX8_next_17 : decode cX8_next 17 = .ok (.istore_n 3, 1) := by decide +kernel
theorem dX8_next_18 : decode cX8_next 18 = .ok (.iload_n 3, 1) := by decide +kernel
theorem dX8_next_19 : decode cX8_next 19 = .ok (.bipush 99, 2) := by decide +kernel
theorem dX8_next_21 : decode cX8_next 21 = .ok (.if_icmp .gt 56, 3) := by decide +kernel
theorem dX8_next_24 : decode cX8_next 24 = .ok (.aload_n 0, 1) := by decide +kernel
theorem dX8_next_25 : decode cX8_next 25 = .ok (.iload_n 3, 1) := by decide +kernel
theorem dX8_next_26 : decode cX8_next 26 = .ok (.invokevirtual 217, 3) := by decide +kernel
theorem dX8_next_29 : decode cX8_next 29 = .ok (.istore 4, 2) := by decide +kernel
theorem dX8_next_31 : decode cX8_next 31 = .ok (.iload_n 1, 1) := by decide +kernel
theorem dX8_next_32 : decode cX8_next 32 = .ok (.ifCond .lt 9, 3) := by decide +kernel
theorem dX8_next_35 : decode cX8_next 35 = .ok (.iload 4, 2) := by decide +kernel
theorem dX8_next_37 : decode cX8_next 37 = .ok (.iload_n 2, 1) := by decide +kernel
theorem dX8_next_38 : decode cX8_next 38 = .ok (.if_icmp .ge 7, 3) := by decide +kernel
theorem dX8_next_41 : decode cX8_next 41 = .ok (.iconst 1, 1) := by decide +kernel
theorem dX8_next_42 : decode cX8_next 42 = .ok (.goto 4, 3) := by decide +kernel
theorem dX8_next_45 : decode cX8_next 45 = .ok (.iconst 0, 1) := by decide +kernel
theorem dX8_next_46 : decode cX8_next 46 = .ok (.istore 5, 2) := by decide +kernel
theorem dX8_next_48 : decode cX8_next 48 = .ok (.iload 5, 2) := by decide +kernel
theorem dX8_next_50 : decode cX8_next 50 = .ok (.ifCond .eq 7, 3) := by decide +kernel
theorem dX8_next_53 : decode cX8_next 53 = .ok (.iload_n 3, 1) := by decide +kernel
theorem dX8_next_54 : decode cX8_next 54 = .ok (.goto 4, 3) := by decide +kernel
theorem dX8_next_57 : decode cX8_next 57 = .ok (.iload_n 1, 1) := by decide +kernel
theorem dX8_next_58 : decode cX8_next 58 = .ok (.istore_n 1, 1) := by decide +kernel
theorem dX8_next_59 : decode cX8_next 59 = .ok (.iload 5, 2) := by decide +kernel
theorem dX8_next_61 : decode cX8_next 61 = .ok (.ifCond .eq 8, 3) := by decide +kernel
theorem dX8_next_64 : decode cX8_next 64 = .ok (.iload 4, 2) := by decide +kernel
theorem dX8_next_66 : decode cX8_next 66 = .ok (.goto 4, 3) := by decide +kernel
theorem dX8_next_69 : decode cX8_next 69 = .ok (.iload_n 2, 1) := by decide +kernel
theorem dX8_next_70 : decode cX8_next 70 = .ok (.istore_n 2, 1) := by decide +kernel
theorem dX8_next_71 : decode cX8_next 71 = .ok (.iinc 3 1, 3) := by decide +kernel
theorem dX8_next_74 : decode cX8_next 74 = .ok (.goto (-56), 3) := by decide +kernel
theorem dX8_next_77 : decode cX8_next 77 = .ok (.iload_n 1, 1) := by decide +kernel
theorem dX8_next_78 : decode cX8_next 78 = .ok (.ireturn, 1) := by decide +kernel
def f_X8_next_b70 (v18_3 : Int32) (M26 : xMem) (t58_0 : Int32) (k18 : Int32 → Int32 → Int32 → xMem → Option (Int32 × xMem)) (t70_0 : Int32) : Option (Int32 × xMem) := k18 t58_0 t70_0 (v18_3 + (1 : Int32)) M26
def f_X8_next_b58 (v18_2 : Int32) (v18_3 : Int32) (r26 : Int32) (M26 : xMem) (t46_0 : Int32) (k18 : Int32 → Int32 → Int32 → xMem → Option (Int32 × xMem)) (t58_0 : Int32) : Option (Int32 × xMem) := (if t46_0 = (0 : Int32) then (f_X8_next_b70 v18_3 M26 t58_0 k18) v18_2 else (f_X8_next_b70 v18_3 M26 t58_0 k18) r26)
def f_X8_next_b46 (v18_1 : Int32) (v18_2 : Int32) (v18_3 : Int32) (r26 : Int32) (M26 : xMem) (k18 : Int32 → Int32 → Int32 → xMem → Option (Int32 × xMem)) (t46_0 : Int32) : Option (Int32 × xMem) := (if t46_0 = (0 : Int32) then (f_X8_next_b58 v18_2 v18_3 r26 M26 t46_0 k18) v18_1 else (f_X8_next_b58 v18_2 v18_3 r26 M26 t46_0 k18) v18_3)
def f_X8_next_b41 (k46 : Int32 → Option (Int32 × xMem)) : Option (Int32 × xMem) := k46 (1 : Int32)
def f_X8_next_l18 : Nat → Int32 → Int32 → Int32 → xMem → Option (Int32 × xMem)
  | 0, _, _, _, _ => none
  | n + 1, v18_1, v18_2, v18_3, M18 => (if (99 : Int32) < v18_3 then some (v18_1, M18) else xb2 (f_X8_greatest v18_3 M18) (fun r26 M26 => (if v18_1 < (0 : Int32) then (f_X8_next_b41 (f_X8_next_b46 v18_1 v18_2 v18_3 r26 M26 (f_X8_next_l18 n))) else (if v18_2 ≤ r26 then (f_X8_next_b46 v18_1 v18_2 v18_3 r26 M26 (f_X8_next_l18 n)) (0 : Int32) else (f_X8_next_b41 (f_X8_next_b46 v18_1 v18_2 v18_3 r26 M26 (f_X8_next_l18 n)))))))
def f_X8_next (M : xMem) : Option (Int32 × xMem) := xb1 (f_X8_allWays M) (fun r1 => (if (2 : Int32) ≤ r1 then (f_X8_next_l18 FU) (-9 : Int32) (0 : Int32) (1 : Int32) M else some ((-9 : Int32), M)))
set_option maxHeartbeats 4000000 in
set_option maxRecDepth 100000 in
theorem w_X8_next_b70 {p : Program} {l : Launch} {e : Env} {s : State} {m : MethodId} {args : Array Value} {below : List Frame} {meth : Method} {c : Code} {G : xG} {rr : Int32} {MM : xMem} (E : xE p s m args meth c cX8_next 6 (some .int) RX8 G) (M : xMem) (L : xLL) (v18_1 : Int32) (v18_2 : Int32) (v18_3 : Int32) (M18 : xMem) (M26 : xMem) (t58_0 : Int32) (k18 : Int32 → Int32 → Int32 → xMem → Option (Int32 × xMem)) (hk18 : ∀ (v18_1 : Int32) (v18_2 : Int32) (v18_3 : Int32) (M18 : xMem), k18 v18_1 v18_2 v18_3 M18 = some (rr, MM) → ∀ (ls : Array Slot), lv_has ls 6 [(0, .ref (xq G 8 0)), (1, .int v18_1), (2, .int v18_2), (3, .int v18_3)] → ∀ (H : Heap) (locs : List Loc), xI G M18 L s.heap H locs → W p l e (xR 5) s m args below meth c H locs 0 0 (MQ below (xQi G rr MM L s.heap.size) args s 0 0 (xZ G s.heap.size)) (F0 m 18 ls [])) : ∀ (t70_0 : Int32), f_X8_next_b70 v18_3 M26 t58_0 k18 t70_0 = some (rr, MM) → ∀ (ls : Array Slot), lv_has ls 6 [(0, .ref (xq G 8 0)), (1, .int t58_0), (3, .int v18_3)] → ∀ (H : Heap) (locs : List Loc), xI G M26 L s.heap H locs → W p l e (xR 5) s m args below meth c H locs 0 0 (MQ below (xQi G rr MM L s.heap.size) args s 0 0 (xZ G s.heap.size)) (F0 m 70 ls [.int t70_0]) := by
  have hx := E.1
  have hb := E.2.1
  intro t70_0 hf ls hl H locs hI
  rw [f_X8_next_b70] at hf
  refine lv_istore_n (lv' := [(2, .int t70_0), (0, .ref (xq G 8 0)), (1, .int t58_0), (3, .int v18_3)]) hx hb dX8_next_70 rfl hl (by decide) rfl (fun ls hl => ?_)
  refine lv_iinc (v := (v18_3 + (1 : Int32))) (lv' := [(3, .int (v18_3 + (1 : Int32))), (2, .int t70_0), (0, .ref (xq G 8 0)), (1, .int t58_0)]) hx hb dX8_next_71 hl (k := 3) rfl rfl (by decide) rfl (fun ls hl => ?_)
  refine lv_goto (tgt := 18) hx hb dX8_next_74 (by decide) ?_
  exact hk18 t58_0 t70_0 (v18_3 + (1 : Int32)) M26 hf _ (lv_sub hl [2, 3, 1, 0] rfl) _ _ hI
set_option maxHeartbeats 4000000 in
set_option maxRecDepth 100000 in
theorem w_X8_next_b58 {p : Program} {l : Launch} {e : Env} {s : State} {m : MethodId} {args : Array Value} {below : List Frame} {meth : Method} {c : Code} {G : xG} {rr : Int32} {MM : xMem} (E : xE p s m args meth c cX8_next 6 (some .int) RX8 G) (M : xMem) (L : xLL) (v18_1 : Int32) (v18_2 : Int32) (v18_3 : Int32) (M18 : xMem) (r26 : Int32) (M26 : xMem) (t46_0 : Int32) (k18 : Int32 → Int32 → Int32 → xMem → Option (Int32 × xMem)) (hk18 : ∀ (v18_1 : Int32) (v18_2 : Int32) (v18_3 : Int32) (M18 : xMem), k18 v18_1 v18_2 v18_3 M18 = some (rr, MM) → ∀ (ls : Array Slot), lv_has ls 6 [(0, .ref (xq G 8 0)), (1, .int v18_1), (2, .int v18_2), (3, .int v18_3)] → ∀ (H : Heap) (locs : List Loc), xI G M18 L s.heap H locs → W p l e (xR 5) s m args below meth c H locs 0 0 (MQ below (xQi G rr MM L s.heap.size) args s 0 0 (xZ G s.heap.size)) (F0 m 18 ls [])) : ∀ (t58_0 : Int32), f_X8_next_b58 v18_2 v18_3 r26 M26 t46_0 k18 t58_0 = some (rr, MM) → ∀ (ls : Array Slot), lv_has ls 6 [(0, .ref (xq G 8 0)), (2, .int v18_2), (3, .int v18_3), (4, .int r26), (5, .int t46_0)] → ∀ (H : Heap) (locs : List Loc), xI G M26 L s.heap H locs → W p l e (xR 5) s m args below meth c H locs 0 0 (MQ below (xQi G rr MM L s.heap.size) args s 0 0 (xZ G s.heap.size)) (F0 m 58 ls [.int t58_0]) := by
  have hx := E.1
  have hb := E.2.1
  intro t58_0 hf ls hl H locs hI
  rw [f_X8_next_b58] at hf
  refine lv_istore_n (lv' := [(1, .int t58_0), (0, .ref (xq G 8 0)), (2, .int v18_2), (3, .int v18_3), (4, .int r26), (5, .int t46_0)]) hx hb dX8_next_58 rfl hl (by decide) rfl (fun ls hl => ?_)
  refine lv_iload hx hb dX8_next_59 (lv_at hl 5 rfl) ?_
  refine lv_if_eq (tgt := 69) hx hb dX8_next_61 (by decide) (fun c61 => ?_) (fun c61 => ?_)
  · replace hf := xif_t c61 hf
    refine lv_iload_n hx hb dX8_next_69 rfl (lv_at hl 2 rfl) ?_
    exact (w_X8_next_b70 E (M := M) (L := L) (v18_1 := v18_1) (v18_2 := v18_2) (v18_3 := v18_3) (M18 := M18) (M26 := M26) (t58_0 := t58_0) (k18 := k18) (hk18 := hk18)) v18_2 hf _ (lv_sub hl [1, 0, 3] rfl) _ _ hI
  · replace hf := xif_f c61 hf
    refine lv_iload hx hb dX8_next_64 (lv_at hl 4 rfl) ?_
    refine lv_goto (tgt := 70) hx hb dX8_next_66 (by decide) ?_
    exact (w_X8_next_b70 E (M := M) (L := L) (v18_1 := v18_1) (v18_2 := v18_2) (v18_3 := v18_3) (M18 := M18) (M26 := M26) (t58_0 := t58_0) (k18 := k18) (hk18 := hk18)) r26 hf _ (lv_sub hl [1, 0, 3] rfl) _ _ hI
set_option maxHeartbeats 4000000 in
set_option maxRecDepth 100000 in
theorem w_X8_next_b46 {p : Program} {l : Launch} {e : Env} {s : State} {m : MethodId} {args : Array Value} {below : List Frame} {meth : Method} {c : Code} {G : xG} {rr : Int32} {MM : xMem} (E : xE p s m args meth c cX8_next 6 (some .int) RX8 G) (M : xMem) (L : xLL) (v18_1 : Int32) (v18_2 : Int32) (v18_3 : Int32) (M18 : xMem) (r26 : Int32) (M26 : xMem) (k18 : Int32 → Int32 → Int32 → xMem → Option (Int32 × xMem)) (hk18 : ∀ (v18_1 : Int32) (v18_2 : Int32) (v18_3 : Int32) (M18 : xMem), k18 v18_1 v18_2 v18_3 M18 = some (rr, MM) → ∀ (ls : Array Slot), lv_has ls 6 [(0, .ref (xq G 8 0)), (1, .int v18_1), (2, .int v18_2), (3, .int v18_3)] → ∀ (H : Heap) (locs : List Loc), xI G M18 L s.heap H locs → W p l e (xR 5) s m args below meth c H locs 0 0 (MQ below (xQi G rr MM L s.heap.size) args s 0 0 (xZ G s.heap.size)) (F0 m 18 ls [])) : ∀ (t46_0 : Int32), f_X8_next_b46 v18_1 v18_2 v18_3 r26 M26 k18 t46_0 = some (rr, MM) → ∀ (ls : Array Slot), lv_has ls 6 [(0, .ref (xq G 8 0)), (1, .int v18_1), (2, .int v18_2), (3, .int v18_3), (4, .int r26)] → ∀ (H : Heap) (locs : List Loc), xI G M26 L s.heap H locs → W p l e (xR 5) s m args below meth c H locs 0 0 (MQ below (xQi G rr MM L s.heap.size) args s 0 0 (xZ G s.heap.size)) (F0 m 46 ls [.int t46_0]) := by
  have hx := E.1
  have hb := E.2.1
  intro t46_0 hf ls hl H locs hI
  rw [f_X8_next_b46] at hf
  refine lv_istore (lv' := [(5, .int t46_0), (0, .ref (xq G 8 0)), (1, .int v18_1), (2, .int v18_2), (3, .int v18_3), (4, .int r26)]) hx hb dX8_next_46 hl (by decide) rfl (fun ls hl => ?_)
  refine lv_iload hx hb dX8_next_48 (lv_at hl 0 rfl) ?_
  refine lv_if_eq (tgt := 57) hx hb dX8_next_50 (by decide) (fun c50 => ?_) (fun c50 => ?_)
  · replace hf := xif_t c50 hf
    refine lv_iload_n hx hb dX8_next_57 rfl (lv_at hl 2 rfl) ?_
    exact (w_X8_next_b58 E (M := M) (L := L) (v18_1 := v18_1) (v18_2 := v18_2) (v18_3 := v18_3) (M18 := M18) (r26 := r26) (M26 := M26) (t46_0 := t46_0) (k18 := k18) (hk18 := hk18)) v18_1 hf _ (lv_sub hl [1, 3, 4, 5, 0] rfl) _ _ hI
  · replace hf := xif_f c50 hf
    refine lv_iload_n hx hb dX8_next_53 rfl (lv_at hl 4 rfl) ?_
    refine lv_goto (tgt := 58) hx hb dX8_next_54 (by decide) ?_
    exact (w_X8_next_b58 E (M := M) (L := L) (v18_1 := v18_1) (v18_2 := v18_2) (v18_3 := v18_3) (M18 := M18) (r26 := r26) (M26 := M26) (t46_0 := t46_0) (k18 := k18) (hk18 := hk18)) v18_3 hf _ (lv_sub hl [1, 3, 4, 5, 0] rfl) _ _ hI
set_option maxHeartbeats 4000000 in
set_option maxRecDepth 100000 in
theorem w_X8_next_b41 {p : Program} {l : Launch} {e : Env} {s : State} {m : MethodId} {args : Array Value} {below : List Frame} {meth : Method} {c : Code} {G : xG} {rr : Int32} {MM : xMem} (E : xE p s m args meth c cX8_next 6 (some .int) RX8 G) (M : xMem) (L : xLL) (v18_1 : Int32) (v18_2 : Int32) (v18_3 : Int32) (r26 : Int32) (M26 : xMem) (k46 : Int32 → Option (Int32 × xMem)) (hk46 : ∀ (t46_0 : Int32), k46 t46_0 = some (rr, MM) → ∀ (ls : Array Slot), lv_has ls 6 [(0, .ref (xq G 8 0)), (1, .int v18_1), (2, .int v18_2), (3, .int v18_3), (4, .int r26)] → ∀ (H : Heap) (locs : List Loc), xI G M26 L s.heap H locs → W p l e (xR 5) s m args below meth c H locs 0 0 (MQ below (xQi G rr MM L s.heap.size) args s 0 0 (xZ G s.heap.size)) (F0 m 46 ls [.int t46_0])) : f_X8_next_b41 k46  = some (rr, MM) → ∀ (ls : Array Slot), lv_has ls 6 [(0, .ref (xq G 8 0)), (1, .int v18_1), (2, .int v18_2), (3, .int v18_3), (4, .int r26)] → ∀ (H : Heap) (locs : List Loc), xI G M26 L s.heap H locs → W p l e (xR 5) s m args below meth c H locs 0 0 (MQ below (xQi G rr MM L s.heap.size) args s 0 0 (xZ G s.heap.size)) (F0 m 41 ls []) := by
  have hx := E.1
  have hb := E.2.1
  intro  hf ls hl H locs hI
  rw [f_X8_next_b41] at hf
  refine lv_iconst (v := 1) hx hb dX8_next_41 (by decide) ?_
  refine lv_goto (tgt := 46) hx hb dX8_next_42 (by decide) ?_
  exact hk46 (1 : Int32) hf _ (lv_sub hl [0, 1, 2, 3, 4] rfl) _ _ hI
set_option maxHeartbeats 4000000 in
set_option maxRecDepth 100000 in
theorem w_X8_next_l18 {p : Program} {l : Launch} {e : Env} {s : State} {m : MethodId} {args : Array Value} {below : List Frame} {meth : Method} {c : Code} {G : xG} {rr : Int32} {MM : xMem} (E : xE p s m args meth c cX8_next 6 (some .int) RX8 G) (M : xMem) (L : xLL) : ∀ (n : Nat), ∀ (v18_1 : Int32) (v18_2 : Int32) (v18_3 : Int32) (M18 : xMem), f_X8_next_l18  n v18_1 v18_2 v18_3 M18 = some (rr, MM) → ∀ (ls : Array Slot), lv_has ls 6 [(0, .ref (xq G 8 0)), (1, .int v18_1), (2, .int v18_2), (3, .int v18_3)] → ∀ (H : Heap) (locs : List Loc), xI G M18 L s.heap H locs → W p l e (xR 5) s m args below meth c H locs 0 0 (MQ below (xQi G rr MM L s.heap.size) args s 0 0 (xZ G s.heap.size)) (F0 m 18 ls []) := by
  have hx := E.1
  have hb := E.2.1
  intro n
  induction n with
  | zero =>
    intro v18_1 v18_2 v18_3 M18 hf
    exact absurd hf (by simp [f_X8_next_l18])
  | succ n ih =>
    intro v18_1 v18_2 v18_3 M18 hf ls hl H locs hI
    rw [f_X8_next_l18] at hf
    refine lv_iload_n hx hb dX8_next_18 rfl (lv_at hl 3 rfl) ?_
    refine lv_bipush (v := 99) hx hb dX8_next_19 (by decide) ?_
    refine lv_icmp_gt (tgt := 77) hx hb dX8_next_21 (by decide) (fun c21 => ?_) (fun c21 => ?_)
    · replace hf := xif_t c21 hf
      refine lv_iload_n hx hb dX8_next_77 rfl (lv_at hl 1 rfl) ?_
      obtain ⟨rfl, rfl⟩ := xinj2 hf
      exact x_iret E hI rfl dX8_next_78
    · replace hf := xif_f c21 hf
      refine lv_aload_n hx hb dX8_next_24 rfl (lv_at hl 0 rfl) ?_
      refine lv_iload_n hx hb dX8_next_25 rfl (lv_at hl 3 rfl) ?_
      obtain ⟨r26, M26, g26, hf⟩ := xb2_s hf
      refine x_callVi (As := [.int v18_3]) (rest := []) E hI mx_8_0 rfl rfl rfl (c_X8_greatest l G _ (M := M18) (L := L) (a1 := v18_3) g26) yv_X8_greatest ml_X8_217 (by decide) (by decide) rfl rfl hl.1 (Nat.le_of_ble_eq_true rfl) dX8_next_26 (fun H locs hI => ?_)
      refine lv_istore (lv' := [(4, .int r26), (0, .ref (xq G 8 0)), (1, .int v18_1), (2, .int v18_2), (3, .int v18_3)]) hx hb dX8_next_29 hl (by decide) rfl (fun ls hl => ?_)
      refine lv_iload_n hx hb dX8_next_31 rfl (lv_at hl 2 rfl) ?_
      refine lv_if_lt (tgt := 41) hx hb dX8_next_32 (by decide) (fun c32 => ?_) (fun c32 => ?_)
      · replace hf := xif_t c32 hf
        exact (w_X8_next_b41 E (M := M) (L := L) (v18_1 := v18_1) (v18_2 := v18_2) (v18_3 := v18_3) (r26 := r26) (M26 := M26) (k46 := (f_X8_next_b46 v18_1 v18_2 v18_3 r26 M26 (f_X8_next_l18 n))) (hk46 := (w_X8_next_b46 E (M := M) (L := L) (v18_1 := v18_1) (v18_2 := v18_2) (v18_3 := v18_3) (M18 := M18) (r26 := r26) (M26 := M26) (k18 := (f_X8_next_l18 n)) (hk18 := ih))))  hf _ (lv_sub hl [1, 2, 3, 4, 0] rfl) _ _ hI
      · replace hf := xif_f c32 hf
        refine lv_iload hx hb dX8_next_35 (lv_at hl 0 rfl) ?_
        refine lv_iload_n hx hb dX8_next_37 rfl (lv_at hl 3 rfl) ?_
        refine lv_icmp_ge (tgt := 45) hx hb dX8_next_38 (by decide) (fun c38 => ?_) (fun c38 => ?_)
        · replace hf := xif_t c38 hf
          refine lv_iconst (v := 0) hx hb dX8_next_45 (by decide) ?_
          exact (w_X8_next_b46 E (M := M) (L := L) (v18_1 := v18_1) (v18_2 := v18_2) (v18_3 := v18_3) (M18 := M18) (r26 := r26) (M26 := M26) (k18 := (f_X8_next_l18 n)) (hk18 := ih)) (0 : Int32) hf _ (lv_sub hl [1, 2, 3, 4, 0] rfl) _ _ hI
        · replace hf := xif_f c38 hf
          exact (w_X8_next_b41 E (M := M) (L := L) (v18_1 := v18_1) (v18_2 := v18_2) (v18_3 := v18_3) (r26 := r26) (M26 := M26) (k46 := (f_X8_next_b46 v18_1 v18_2 v18_3 r26 M26 (f_X8_next_l18 n))) (hk46 := (w_X8_next_b46 E (M := M) (L := L) (v18_1 := v18_1) (v18_2 := v18_2) (v18_3 := v18_3) (M18 := M18) (r26 := r26) (M26 := M26) (k18 := (f_X8_next_l18 n)) (hk18 := ih))))  hf _ (lv_sub hl [1, 2, 3, 4, 0] rfl) _ _ hI
set_option maxHeartbeats 4000000 in
set_option maxRecDepth 100000 in
theorem c_X8_next (l : Launch) (G : xG) (sz : Nat) (M : xMem) (L : xLL) {rr : Int32} {MM : xMem} (hf : f_X8_next M = some (rr, MM)) : Met l yX8_next (Cond.code yX8_next cX8_next 6 (some .int) :: xTB) (xR 5) (xP G M L sz [.ref (xq G 8 0)]) (xQi G rr MM L sz) 0 0 (xZ G sz) := by
  refine x_met (cc := cX8_next) (nL := 6) (rt := (some .int)) (by decide) (Nat.le_of_ble_eq_true rfl) ?_
  intro p e s m below meth c ls hsz E hl hI
  subst hsz
  have E : xE p s m _ meth c cX8_next 6 (some .int) RX8 G := E
  have hx := E.1
  have hb := E.2.1
  have hl : lv_has ls 6 [(0, .ref (xq G 8 0))] := hl
  rw [f_X8_next] at hf
  refine lv_aload_n hx hb dX8_next_0 rfl (lv_at hl 0 rfl) ?_
  obtain ⟨r1, g1, hf⟩ := xb1_s hf
  refine x_callVi (As := []) (rest := []) E hI mx_8_0 rfl rfl rfl (c_X8_allWays l G _ (M := M) (L := L) g1) yv_X8_allWays ml_X8_210 (by decide) (by decide) rfl rfl hl.1 (Nat.le_of_ble_eq_true rfl) dX8_next_1 (fun H locs hI => ?_)
  refine lv_iconst (v := 2) hx hb dX8_next_4 (by decide) ?_
  refine lv_icmp_ge (tgt := 11) hx hb dX8_next_5 (by decide) (fun c5 => ?_) (fun c5 => ?_)
  · replace hf := xif_t c5 hf
    refine lv_bipush (v := -9) hx hb dX8_next_11 (by decide) ?_
    refine lv_istore_n (lv' := [(1, .int (-9 : Int32)), (0, .ref (xq G 8 0))]) hx hb dX8_next_13 rfl hl (by decide) rfl (fun ls hl => ?_)
    refine lv_iconst (v := 0) hx hb dX8_next_14 (by decide) ?_
    refine lv_istore_n (lv' := [(2, .int (0 : Int32)), (1, .int (-9 : Int32)), (0, .ref (xq G 8 0))]) hx hb dX8_next_15 rfl hl (by decide) rfl (fun ls hl => ?_)
    refine lv_iconst (v := 1) hx hb dX8_next_16 (by decide) ?_
    refine lv_istore_n (lv' := [(3, .int (1 : Int32)), (2, .int (0 : Int32)), (1, .int (-9 : Int32)), (0, .ref (xq G 8 0))]) hx hb dX8_next_17 rfl hl (by decide) rfl (fun ls hl => ?_)
    exact (w_X8_next_l18 E (M := M) (L := L) FU) (-9 : Int32) (0 : Int32) (1 : Int32) M hf _ (lv_sub hl [3, 2, 1, 0] rfl) _ _ hI
  · replace hf := xif_f c5 hf
    refine lv_bipush (v := -9) hx hb dX8_next_8 (by decide) ?_
    obtain ⟨rfl, rfl⟩ := xinj2 hf
    exact x_iret E hI rfl dX8_next_10
theorem dX8_rate_0 : decode cX8_rate 0 = .ok (.iload_n 1, 1) := by decide +kernel
theorem dX8_rate_1 : decode cX8_rate 1 = .ok (.iconst 0, 1) := by decide +kernel
theorem dX8_rate_2 : decode cX8_rate 2 = .ok (.iconst 5, 1) := by decide +kernel
theorem dX8_rate_3 : decode cX8_rate 3 = .ok (.invokestatic 66, 3) := by decide +kernel
theorem dX8_rate_6 : decode cX8_rate 6 = .ok (.ifCond .eq 11, 3) := by decide +kernel
theorem dX8_rate_9 : decode cX8_rate 9 = .ok (.aload_n 0, 1) := by decide +kernel
theorem dX8_rate_10 : decode cX8_rate 10 = .ok (.iload_n 2, 1) := by decide +kernel
theorem dX8_rate_11 : decode cX8_rate 11 = .ok (.invokevirtual 162, 3) := by decide +kernel
theorem dX8_rate_14 : decode cX8_rate 14 = .ok (.ifCond .ne 6, 3) := by decide +kernel
theorem dX8_rate_17 : decode cX8_rate 17 = .ok (.ldc 220, 2) := by decide +kernel
theorem dX8_rate_19 : decode cX8_rate 19 = .ok (.ireturn, 1) := by decide +kernel
theorem dX8_rate_20 : decode cX8_rate 20 = .ok (.aload_n 0, 1) := by decide +kernel
theorem dX8_rate_21 : decode cX8_rate 21 = .ok (.invokevirtual 156, 3) := by decide +kernel
theorem dX8_rate_24 : decode cX8_rate 24 = .ok (.aload_n 0, 1) := by decide +kernel
theorem dX8_rate_25 : decode cX8_rate 25 = .ok (.getfield 22, 3) := by decide +kernel
theorem dX8_rate_28 : decode cX8_rate 28 = .ok (.bipush 6, 2) := by decide +kernel
theorem dX8_rate_30 : decode cX8_rate 30 = .ok (.iload_n 2, 1) := by decide +kernel
theorem dX8_rate_31 : decode cX8_rate 31 = .ok (.iadd, 1) := by decide +kernel
theorem dX8_rate_32 : decode cX8_rate 32 = .ok (.iaload, 1) := by decide +kernel
theorem dX8_rate_33 : decode cX8_rate 33 = .ok (.istore_n 3, 1) := by decide +kernel
theorem dX8_rate_34 : decode cX8_rate 34 = .ok (.iload_n 3, 1) := by decide +kernel
theorem dX8_rate_35 : decode cX8_rate 35 = .ok (.aload_n 0, 1) := by decide +kernel
theorem dX8_rate_36 : decode cX8_rate 36 = .ok (.aload_n 0, 1) := by decide +kernel
theorem dX8_rate_37 : decode cX8_rate 37 = .ok (.getfield 22, 3) := by decide +kernel
theorem dX8_rate_40 : decode cX8_rate 40 = .ok (.iconst 0, 1) := by decide +kernel
theorem dX8_rate_41 : decode cX8_rate 41 = .ok (.iload_n 2, 1) := by decide +kernel
theorem dX8_rate_42 : decode cX8_rate 42 = .ok (.iadd, 1) := by decide +kernel
theorem dX8_rate_43 : decode cX8_rate 43 = .ok (.iaload, 1) := by decide +kernel
theorem dX8_rate_44 : decode cX8_rate 44 = .ok (.invokevirtual 132, 3) := by decide +kernel
theorem dX8_rate_47 : decode cX8_rate 47 = .ok (.invokestatic 135, 3) := by decide +kernel
theorem dX8_rate_50 : decode cX8_rate 50 = .ok (.iadd, 1) := by decide +kernel
theorem dX8_rate_51 : decode cX8_rate 51 = .ok (.istore 4, 2) := by decide +kernel
theorem dX8_rate_53 : decode cX8_rate 53 = .ok (.iload_n 3, 1) := by decide +kernel
theorem dX8_rate_54 : decode cX8_rate 54 = .ok (.aload_n 0, 1) := by decide +kernel
theorem dX8_rate_55 : decode cX8_rate 55 = .ok (.getfield 62, 3) := by decide +kernel
theorem dX8_rate_58 : decode cX8_rate 58 = .ok (.isub, 1) := by decide +kernel
theorem dX8_rate_59 : decode cX8_rate 59 = .ok (.istore 5, 2) := by decide +kernel
theorem dX8_rate_61 : decode cX8_rate 61 = .ok (.iload_n 1, 1) := by decide +kernel
theorem dX8_rate_62 : decode cX8_rate 62 = .ok (.tableswitch 117 1 5 #[34, 49, 64, 81, 98], 34) := by decide +kernel
theorem dX8_rate_96 : decode cX8_rate 96 = .ok (.aload_n 0, 1) := by decide +kernel
theorem dX8_rate_97 : decode cX8_rate 97 = .ok (.dup, 1) := by decide +kernel
theorem dX8_rate_98 : decode cX8_rate 98 = .ok (.getfield 221, 3) := by decide +kernel
theorem dX8_rate_101 : decode cX8_rate 101 = .ok (.ldc2_w 225, 3) := by decide +kernel
theorem dX8_rate_104 : decode cX8_rate 104 = .ok (.ladd, 1) := by decide +kernel
theorem dX8_rate_105 : decode cX8_rate 105 = .ok (.putfield 221, 3) := by decide +kernel
theorem dX8_rate_108 : decode cX8_rate 108 = .ok (.iload 4, 2) := by decide +kernel
theorem dX8_rate_110 : decode cX8_rate 110 = .ok (.ireturn, 1) := by decide +kernel
theorem dX8_rate_111 : decode cX8_rate 111 = .ok (.aload_n 0, 1) := by decide +kernel
theorem dX8_rate_112 : decode cX8_rate 112 = .ok (.dup, 1) := by decide +kernel
theorem dX8_rate_113 : decode cX8_rate 113 = .ok (.getfield 221, 3) := by decide +kernel
theorem dX8_rate_116 : decode cX8_rate 116 = .ok (.ldc2_w 227, 3) := by decide +kernel
theorem dX8_rate_119 : decode cX8_rate 119 = .ok (.ladd, 1) := by decide +kernel
theorem dX8_rate_120 : decode cX8_rate 120 = .ok (.putfield 221, 3) := by decide +kernel
theorem dX8_rate_123 : decode cX8_rate 123 = .ok (.iload 5, 2) := by decide +kernel
theorem dX8_rate_125 : decode cX8_rate 125 = .ok (.ireturn, 1) := by decide +kernel
theorem dX8_rate_126 : decode cX8_rate 126 = .ok (.aload_n 0, 1) := by decide +kernel
theorem dX8_rate_127 : decode cX8_rate 127 = .ok (.dup, 1) := by decide +kernel
theorem dX8_rate_128 : decode cX8_rate 128 = .ok (.getfield 221, 3) := by decide +kernel
theorem dX8_rate_131 : decode cX8_rate 131 = .ok (.ldc2_w 229, 3) := by decide +kernel
theorem dX8_rate_134 : decode cX8_rate 134 = .ok (.ladd, 1) := by decide +kernel
theorem dX8_rate_135 : decode cX8_rate 135 = .ok (.putfield 221, 3) := by decide +kernel
theorem dX8_rate_138 : decode cX8_rate 138 = .ok (.iconst 2, 1) := by decide +kernel
theorem dX8_rate_139 : decode cX8_rate 139 = .ok (.iload 4, 2) := by decide +kernel
theorem dX8_rate_141 : decode cX8_rate 141 = .ok (.imul, 1) := by decide +kernel
theorem dX8_rate_142 : decode cX8_rate 142 = .ok (.ireturn, 1) := by decide +kernel
theorem dX8_rate_143 : decode cX8_rate 143 = .ok (.aload_n 0, 1) := by decide +kernel
theorem dX8_rate_144 : decode cX8_rate 144 = .ok (.dup, 1) := by decide +kernel
theorem dX8_rate_145 : decode cX8_rate 145 = .ok (.getfield 221, 3) := by decide +kernel
theorem dX8_rate_148 : decode cX8_rate 148 = .ok (.ldc2_w 231, 3) := by decide +kernel
theorem dX8_rate_151 : decode cX8_rate 151 = .ok (.ladd, 1) := by decide +kernel
theorem dX8_rate_152 : decode cX8_rate 152 = .ok (.putfield 221, 3) := by decide +kernel
theorem dX8_rate_155 : decode cX8_rate 155 = .ok (.iload 5, 2) := by decide +kernel
theorem dX8_rate_157 : decode cX8_rate 157 = .ok (.iload_n 2, 1) := by decide +kernel
theorem dX8_rate_158 : decode cX8_rate 158 = .ok (.iadd, 1) := by decide +kernel
theorem dX8_rate_159 : decode cX8_rate 159 = .ok (.ireturn, 1) := by decide +kernel
theorem dX8_rate_160 : decode cX8_rate 160 = .ok (.aload_n 0, 1) := by decide +kernel
theorem dX8_rate_161 : decode cX8_rate 161 = .ok (.dup, 1) := by decide +kernel
theorem dX8_rate_162 : decode cX8_rate 162 = .ok (.getfield 221, 3) := by decide +kernel
theorem dX8_rate_165 : decode cX8_rate 165 = .ok (.ldc2_w 233, 3) := by decide +kernel
theorem dX8_rate_168 : decode cX8_rate 168 = .ok (.ladd, 1) := by decide +kernel
theorem dX8_rate_169 : decode cX8_rate 169 = .ok (.putfield 221, 3) := by decide +kernel
theorem dX8_rate_172 : decode cX8_rate 172 = .ok (.iload_n 3, 1) := by decide +kernel
theorem dX8_rate_173 : decode cX8_rate 173 = .ok (.aload_n 0, 1) := by decide +kernel
theorem dX8_rate_174 : decode cX8_rate 174 = .ok (.invokevirtual 169, 3) := by decide +kernel
theorem dX8_rate_177 : decode cX8_rate 177 = .ok (.iadd, 1) := by decide +kernel
theorem dX8_rate_178 : decode cX8_rate 178 = .ok (.ireturn, 1) := by decide +kernel
theorem dX8_rate_179 : decode cX8_rate 179 = .ok (.aload_n 0, 1) := by decide +kernel
theorem dX8_rate_180 : decode cX8_rate 180 = .ok (.dup, 1) := by decide +kernel
theorem dX8_rate_181 : decode cX8_rate 181 = .ok (.getfield 221, 3) := by decide +kernel
theorem dX8_rate_184 : decode cX8_rate 184 = .ok (.lconst 1, 1) := by decide +kernel
theorem dX8_rate_185 : decode cX8_rate 185 = .ok (.ladd, 1) := by decide +kernel
theorem dX8_rate_186 : decode cX8_rate 186 = .ok (.putfield 221, 3) := by decide +kernel
theorem dX8_rate_189 : decode cX8_rate 189 = .ok (.iload_n 3, 1) := by decide +kernel
theorem dX8_rate_190 : decode cX8_rate 190 = .ok (.ireturn, 1) := by decide +kernel
def f_X8_rate_b17 (M : xMem) (L : xLL) : Option (Int32 × xMem × xLL) := some ((-1000000 : Int32), M, L)
def f_X8_rate (a1 : Int32) (a2 : Int32) (M : xMem) (L : xLL) : Option (Int32 × xMem × xLL) := xb1 (f_X8_in a1 (0 : Int32) (5 : Int32) M) (fun r3 => (if r3 = (0 : Int32) then (f_X8_rate_b17 M L) else xb1 (f_X8_isEgg a2 M) (fun r11 => (if r11 = (0 : Int32) then (f_X8_rate_b17 M L) else xb1 (f_X8_asItIs M) (fun M21 => xchk (xb ((6 : Int32) + a2) 27) (xchk (xb ((0 : Int32) + a2) 27) (xb1 (f_X8_inPlace (M21 8 7 ((0 : Int32) + a2).toNatClampNeg) M21) (fun r44 => xb1 (f_X8_bits r44 M21) (fun r47 => (if a1 = (1 : Int32) then xlet (va_up L 8 ((L 8) + (11 : Int64))) (fun L105 => some (((M21 8 7 ((6 : Int32) + a2).toNatClampNeg) + r47), M21, L105)) else (if a1 = (2 : Int32) then xlet (va_up L 8 ((L 8) + (101 : Int64))) (fun L120 => some (((M21 8 7 ((6 : Int32) + a2).toNatClampNeg) - (M21 8 0 0)), M21, L120)) else (if a1 = (3 : Int32) then xlet (va_up L 8 ((L 8) + (1011 : Int64))) (fun L135 => some (((2 : Int32) * ((M21 8 7 ((6 : Int32) + a2).toNatClampNeg) + r47)), M21, L135)) else (if a1 = (4 : Int32) then xlet (va_up L 8 ((L 8) + (10101 : Int64))) (fun L152 => some ((((M21 8 7 ((6 : Int32) + a2).toNatClampNeg) - (M21 8 0 0)) + a2), M21, L152)) else (if a1 = (5 : Int32) then xlet (va_up L 8 ((L 8) + (100001 : Int64))) (fun L169 => xb1 (f_X8_fellAll M21) (fun r174 => some (((M21 8 7 ((6 : Int32) + a2).toNatClampNeg) + r174), M21, L169))) else xlet (va_up L 8 ((L 8) + (1 : Int64))) (fun L186 => some ((M21 8 7 ((6 : Int32) + a2).toNatClampNeg), M21, L186))))))))))))))))
set_option maxHeartbeats 4000000 in
set_option maxRecDepth 100000 in
theorem w_X8_rate_b17 {p : Program} {l : Launch} {e : Env} {s : State} {m : MethodId} {args : Array Value} {below : List Frame} {meth : Method} {c : Code} {G : xG} {rr : Int32} {MM : xMem} {LR : xLL} (E : xE p s m args meth c cX8_rate 6 (some .int) RX8 G) (M : xMem) (L : xLL) : f_X8_rate_b17 M L  = some (rr, MM, LR) → ∀ (ls : Array Slot), lv_has ls 6 [] → ∀ (H : Heap) (locs : List Loc), xI G M L s.heap H locs → W p l e (xR 3) s m args below meth c H locs 0 0 (MQ below (xQi G rr MM LR s.heap.size) args s 0 0 (xZ G s.heap.size)) (F0 m 17 ls []) := by
  have hx := E.1
  have hb := E.2.1
  intro  hf ls hl H locs hI
  rw [f_X8_rate_b17] at hf
  refine lv_ldc hx hb E.2.2.2.2.1 (E.2.2.2.2.2.1 _ kc_X8_220) dX8_rate_17 ?_
  obtain ⟨rfl, rfl, rfl⟩ := xinj3 hf
  exact x_iret E hI rfl dX8_rate_19
set_option maxHeartbeats 4000000 in
set_option maxRecDepth 100000 in
theorem c_X8_rate (l : Launch) (G : xG) (sz : Nat) (M : xMem) (L : xLL) (a1 : Int32) (a2 : Int32) {rr : Int32} {MM : xMem} {LR : xLL} (hf : f_X8_rate a1 a2 M L = some (rr, MM, LR)) : Met l yX8_rate (Cond.code yX8_rate cX8_rate 6 (some .int) :: xTB) (xR 3) (xP G M L sz [.ref (xq G 8 0), .int a1, .int a2]) (xQi G rr MM LR sz) 0 0 (xZ G sz) := by
  refine x_met (cc := cX8_rate) (nL := 6) (rt := (some .int)) (by decide) (Nat.le_of_ble_eq_true rfl) ?_
  intro p e s m below meth c ls hsz E hl hI
  subst hsz
  have E : xE p s m _ meth c cX8_rate 6 (some .int) RX8 G := E
  have hx := E.1
  have hb := E.2.1
  have hl : lv_has ls 6 [(0, .ref (xq G 8 0)), (1, .int a1), (2, .int a2)] := hl
  rw [f_X8_rate] at hf
  refine lv_iload_n hx hb dX8_rate_0 rfl (lv_at hl 1 rfl) ?_
  refine lv_iconst (v := 0) hx hb dX8_rate_1 (by decide) ?_
  refine lv_iconst (v := 5) hx hb dX8_rate_2 (by decide) ?_
  obtain ⟨r3, g3, hf⟩ := xb1_s hf
  refine x_callSi (As := [.int a1, .int (0 : Int32), .int (5 : Int32)]) (rest := []) E hI (c_X8_in l G _ (M := M) (L := L) (a0 := a1) (a1 := (0 : Int32)) (a2 := (5 : Int32)) g3) ys_X8_in ml_X8_66 (by decide) (by decide) rfl rfl hl.1 (Nat.le_of_ble_eq_true rfl) dX8_rate_3 (fun H locs hI => ?_)
  refine lv_if_eq (tgt := 17) hx hb dX8_rate_6 (by decide) (fun c6 => ?_) (fun c6 => ?_)
  · replace hf := xif_t c6 hf
    exact (w_X8_rate_b17 E (M := M) (L := L))  hf _ (lv_sub hl [] rfl) _ _ hI
  · replace hf := xif_f c6 hf
    refine lv_aload_n hx hb dX8_rate_9 rfl (lv_at hl 0 rfl) ?_
    refine lv_iload_n hx hb dX8_rate_10 rfl (lv_at hl 2 rfl) ?_
    obtain ⟨r11, g11, hf⟩ := xb1_s hf
    refine x_callVi (As := [.int a2]) (rest := []) E hI mx_8_0 rfl rfl rfl (c_X8_isEgg l G _ (M := M) (L := L) (a1 := a2) g11) yv_X8_isEgg ml_X8_162 (by decide) (by decide) rfl rfl hl.1 (Nat.le_of_ble_eq_true rfl) dX8_rate_11 (fun H locs hI => ?_)
    refine lv_if_ne (tgt := 20) hx hb dX8_rate_14 (by decide) (fun c14 => ?_) (fun c14 => ?_)
    · replace hf := xif_f c14 hf
      refine lv_aload_n hx hb dX8_rate_20 rfl (lv_at hl 0 rfl) ?_
      obtain ⟨M21, g21, hf⟩ := xb1_s hf
      refine x_callVv (As := []) (rest := []) E hI mx_8_0 rfl rfl rfl (c_X8_asItIs l G _ (M := M) (L := L) g21) yv_X8_asItIs ml_X8_156 (by decide) (by decide) rfl rfl hl.1 (Nat.le_of_ble_eq_true rfl) dX8_rate_21 (fun H locs hI => ?_)
      refine lv_aload_n hx hb dX8_rate_24 rfl (lv_at hl 0 rfl) ?_
      refine gf_X8_22 E hI dX8_rate_25 ?_
      refine lv_bipush (v := 6) hx hb dX8_rate_28 (by decide) ?_
      refine lv_iload_n hx hb dX8_rate_30 rfl (lv_at hl 2 rfl) ?_
      refine lv_iadd hx hb dX8_rate_31 ?_
      obtain ⟨h32b, hf⟩ := xchk_s hf
      refine x_iald (n := 27) E hI mx_8_7 (fun _ _ => rfl) h32b dX8_rate_32 ?_
      refine lv_istore_n (lv' := [(3, .int (M21 8 7 ((6 : Int32) + a2).toNatClampNeg)), (0, .ref (xq G 8 0)), (1, .int a1), (2, .int a2)]) hx hb dX8_rate_33 rfl hl (by decide) rfl (fun ls hl => ?_)
      refine lv_iload_n hx hb dX8_rate_34 rfl (lv_at hl 0 rfl) ?_
      refine lv_aload_n hx hb dX8_rate_35 rfl (lv_at hl 1 rfl) ?_
      refine lv_aload_n hx hb dX8_rate_36 rfl (lv_at hl 1 rfl) ?_
      refine gf_X8_22 E hI dX8_rate_37 ?_
      refine lv_iconst (v := 0) hx hb dX8_rate_40 (by decide) ?_
      refine lv_iload_n hx hb dX8_rate_41 rfl (lv_at hl 3 rfl) ?_
      refine lv_iadd hx hb dX8_rate_42 ?_
      obtain ⟨h43b, hf⟩ := xchk_s hf
      refine x_iald (n := 27) E hI mx_8_7 (fun _ _ => rfl) h43b dX8_rate_43 ?_
      obtain ⟨r44, g44, hf⟩ := xb1_s hf
      refine x_callVi (As := [.int (M21 8 7 ((0 : Int32) + a2).toNatClampNeg)]) (rest := [.int (M21 8 7 ((6 : Int32) + a2).toNatClampNeg)]) E hI mx_8_0 rfl rfl rfl (c_X8_inPlace l G _ (M := M21) (L := L) (a1 := (M21 8 7 ((0 : Int32) + a2).toNatClampNeg)) g44) yv_X8_inPlace ml_X8_132 (by decide) (by decide) rfl rfl hl.1 (Nat.le_of_ble_eq_true rfl) dX8_rate_44 (fun H locs hI => ?_)
      obtain ⟨r47, g47, hf⟩ := xb1_s hf
      refine x_callSi (As := [.int r44]) (rest := [.int (M21 8 7 ((6 : Int32) + a2).toNatClampNeg)]) E hI (c_X8_bits l G _ (M := M21) (L := L) (a0 := r44) g47) ys_X8_bits ml_X8_135 (by decide) (by decide) rfl rfl hl.1 (Nat.le_of_ble_eq_true rfl) dX8_rate_47 (fun H locs hI => ?_)
      refine lv_iadd hx hb dX8_rate_50 ?_
      refine lv_istore (lv' := [(4, .int ((M21 8 7 ((6 : Int32) + a2).toNatClampNeg) + r47)), (3, .int (M21 8 7 ((6 : Int32) + a2).toNatClampNeg)), (0, .ref (xq G 8 0)), (1, .int a1), (2, .int a2)]) hx hb dX8_rate_51 hl (by decide) rfl (fun ls hl => ?_)
      refine lv_iload_n hx hb dX8_rate_53 rfl (lv_at hl 1 rfl) ?_
      refine lv_aload_n hx hb dX8_rate_54 rfl (lv_at hl 2 rfl) ?_
      refine gf_X8_62 E hI dX8_rate_55 ?_
      refine lv_isub hx hb dX8_rate_58 ?_
      refine lv_istore (lv' := [(5, .int ((M21 8 7 ((6 : Int32) + a2).toNatClampNeg) - (M21 8 0 0))), (4, .int ((M21 8 7 ((6 : Int32) + a2).toNatClampNeg) + r47)), (3, .int (M21 8 7 ((6 : Int32) + a2).toNatClampNeg)), (0, .ref (xq G 8 0)), (1, .int a1), (2, .int a2)]) hx hb dX8_rate_59 hl (by decide) rfl (fun ls hl => ?_)
      refine lv_iload_n hx hb dX8_rate_61 rfl (lv_at hl 4 rfl) ?_
      by_cases c62_0 : a1 = (1 : Int32)
      · replace hf := xif_t c62_0 hf
        refine x_tsIn (off := 34) (tgt := 96) hx hb c62_0 dX8_rate_62 (by decide) (by decide) (by decide) (by decide) ?_
        refine lv_aload_n hx hb dX8_rate_96 rfl (lv_at hl 3 rfl) ?_
        refine lv_dup hx hb dX8_rate_97 rfl ?_
        refine gf_X8_221 E hI dX8_rate_98 ?_
        refine lv_ldc2 hx hb E.2.2.2.2.1 (E.2.2.2.2.2.1 _ kc_X8_225) dX8_rate_101 ?_
        refine lv_ladd hx hb dX8_rate_104 ?_
        obtain ⟨L105, e105, hf⟩ := xlet_s hf
        refine pf_X8_221 E hI dX8_rate_105 e105 (fun H locs hI => ?_)
        refine lv_iload hx hb dX8_rate_108 (lv_at hl 1 rfl) ?_
        obtain ⟨rfl, rfl, rfl⟩ := xinj3 hf
        exact x_iret E hI rfl dX8_rate_110
      · replace hf := xif_f c62_0 hf
        by_cases c62_1 : a1 = (2 : Int32)
        · replace hf := xif_t c62_1 hf
          refine x_tsIn (off := 49) (tgt := 111) hx hb c62_1 dX8_rate_62 (by decide) (by decide) (by decide) (by decide) ?_
          refine lv_aload_n hx hb dX8_rate_111 rfl (lv_at hl 3 rfl) ?_
          refine lv_dup hx hb dX8_rate_112 rfl ?_
          refine gf_X8_221 E hI dX8_rate_113 ?_
          refine lv_ldc2 hx hb E.2.2.2.2.1 (E.2.2.2.2.2.1 _ kc_X8_227) dX8_rate_116 ?_
          refine lv_ladd hx hb dX8_rate_119 ?_
          obtain ⟨L120, e120, hf⟩ := xlet_s hf
          refine pf_X8_221 E hI dX8_rate_120 e120 (fun H locs hI => ?_)
          refine lv_iload hx hb dX8_rate_123 (lv_at hl 0 rfl) ?_
          obtain ⟨rfl, rfl, rfl⟩ := xinj3 hf
          exact x_iret E hI rfl dX8_rate_125
        · replace hf := xif_f c62_1 hf
          by_cases c62_2 : a1 = (3 : Int32)
          · replace hf := xif_t c62_2 hf
            refine x_tsIn (off := 64) (tgt := 126) hx hb c62_2 dX8_rate_62 (by decide) (by decide) (by decide) (by decide) ?_
            refine lv_aload_n hx hb dX8_rate_126 rfl (lv_at hl 3 rfl) ?_
            refine lv_dup hx hb dX8_rate_127 rfl ?_
            refine gf_X8_221 E hI dX8_rate_128 ?_
            refine lv_ldc2 hx hb E.2.2.2.2.1 (E.2.2.2.2.2.1 _ kc_X8_229) dX8_rate_131 ?_
            refine lv_ladd hx hb dX8_rate_134 ?_
            obtain ⟨L135, e135, hf⟩ := xlet_s hf
            refine pf_X8_221 E hI dX8_rate_135 e135 (fun H locs hI => ?_)
            refine lv_iconst (v := 2) hx hb dX8_rate_138 (by decide) ?_
            refine lv_iload hx hb dX8_rate_139 (lv_at hl 1 rfl) ?_
            refine lv_imul hx hb dX8_rate_141 ?_
            obtain ⟨rfl, rfl, rfl⟩ := xinj3 hf
            exact x_iret E hI rfl dX8_rate_142
          · replace hf := xif_f c62_2 hf
            by_cases c62_3 : a1 = (4 : Int32)
            · replace hf := xif_t c62_3 hf
              refine x_tsIn (off := 81) (tgt := 143) hx hb c62_3 dX8_rate_62 (by decide) (by decide) (by decide) (by decide) ?_
              refine lv_aload_n hx hb dX8_rate_143 rfl (lv_at hl 3 rfl) ?_
              refine lv_dup hx hb dX8_rate_144 rfl ?_
              refine gf_X8_221 E hI dX8_rate_145 ?_
              refine lv_ldc2 hx hb E.2.2.2.2.1 (E.2.2.2.2.2.1 _ kc_X8_231) dX8_rate_148 ?_
              refine lv_ladd hx hb dX8_rate_151 ?_
              obtain ⟨L152, e152, hf⟩ := xlet_s hf
              refine pf_X8_221 E hI dX8_rate_152 e152 (fun H locs hI => ?_)
              refine lv_iload hx hb dX8_rate_155 (lv_at hl 0 rfl) ?_
              refine lv_iload_n hx hb dX8_rate_157 rfl (lv_at hl 5 rfl) ?_
              refine lv_iadd hx hb dX8_rate_158 ?_
              obtain ⟨rfl, rfl, rfl⟩ := xinj3 hf
              exact x_iret E hI rfl dX8_rate_159
            · replace hf := xif_f c62_3 hf
              by_cases c62_4 : a1 = (5 : Int32)
              · replace hf := xif_t c62_4 hf
                refine x_tsIn (off := 98) (tgt := 160) hx hb c62_4 dX8_rate_62 (by decide) (by decide) (by decide) (by decide) ?_
                refine lv_aload_n hx hb dX8_rate_160 rfl (lv_at hl 3 rfl) ?_
                refine lv_dup hx hb dX8_rate_161 rfl ?_
                refine gf_X8_221 E hI dX8_rate_162 ?_
                refine lv_ldc2 hx hb E.2.2.2.2.1 (E.2.2.2.2.2.1 _ kc_X8_233) dX8_rate_165 ?_
                refine lv_ladd hx hb dX8_rate_168 ?_
                obtain ⟨L169, e169, hf⟩ := xlet_s hf
                refine pf_X8_221 E hI dX8_rate_169 e169 (fun H locs hI => ?_)
                refine lv_iload_n hx hb dX8_rate_172 rfl (lv_at hl 2 rfl) ?_
                refine lv_aload_n hx hb dX8_rate_173 rfl (lv_at hl 3 rfl) ?_
                obtain ⟨r174, g174, hf⟩ := xb1_s hf
                refine x_callVi (As := []) (rest := [.int (M21 8 7 ((6 : Int32) + a2).toNatClampNeg)]) E hI mx_8_0 rfl rfl rfl (c_X8_fellAll l G _ (M := M21) (L := L169) g174) yv_X8_fellAll ml_X8_169 (by decide) (by decide) rfl rfl hl.1 (Nat.le_of_ble_eq_true rfl) dX8_rate_174 (fun H locs hI => ?_)
                refine lv_iadd hx hb dX8_rate_177 ?_
                obtain ⟨rfl, rfl, rfl⟩ := xinj3 hf
                exact x_iret E hI rfl dX8_rate_178
              · replace hf := xif_f c62_4 hf
                refine x_tsOut hx hb dX8_rate_62 (fun k hk => by
                  have hk2 : k = 0 ∨ k = 1 ∨ k = 2 ∨ k = 3 ∨ k = 4 := by
                    have hk3 : k < 5 := hk
                    omega
                  rcases hk2 with rfl | rfl | rfl | rfl | rfl
                  · exact c62_0
                  · exact c62_1
                  · exact c62_2
                  · exact c62_3
                  · exact c62_4) (tgt := 179) (by decide) ?_
                refine lv_aload_n hx hb dX8_rate_179 rfl (lv_at hl 3 rfl) ?_
                refine lv_dup hx hb dX8_rate_180 rfl ?_
                refine gf_X8_221 E hI dX8_rate_181 ?_
                refine lv_lconst (v := 1) hx hb dX8_rate_184 (by decide) ?_
                refine lv_ladd hx hb dX8_rate_185 ?_
                obtain ⟨L186, e186, hf⟩ := xlet_s hf
                refine pf_X8_221 E hI dX8_rate_186 e186 (fun H locs hI => ?_)
                refine lv_iload_n hx hb dX8_rate_189 rfl (lv_at hl 2 rfl) ?_
                obtain ⟨rfl, rfl, rfl⟩ := xinj3 hf
                exact x_iret E hI rfl dX8_rate_190
    · replace hf := xif_t c14 hf
      exact (w_X8_rate_b17 E (M := M) (L := L))  hf _ (lv_sub hl [] rfl) _ _ hI
theorem dX8_keep_0 : decode cX8_keep 0 = .ok (.iload_n 1, 1) := by decide +kernel
theorem dX8_keep_1 : decode cX8_keep 1 = .ok (.iconst 0, 1) := by decide +kernel
theorem dX8_keep_2 : decode cX8_keep 2 = .ok (.iconst 1, 1) := by decide +kernel
theorem dX8_keep_3 : decode cX8_keep 3 = .ok (.invokestatic 66, 3) := by decide +kernel
theorem dX8_keep_6 : decode cX8_keep 6 = .ok (.ifCond .ne 5, 3) := by decide +kernel
theorem dX8_keep_9 : decode cX8_keep 9 = .ok (.iconst (-1), 1) := by decide +kernel
theorem dX8_keep_10 : decode cX8_keep 10 = .ok (.ireturn, 1) := by decide +kernel
theorem dX8_keep_11 : decode cX8_keep 11 = .ok (.aload_n 0, 1) := by decide +kernel
theorem dX8_keep_12 : decode cX8_keep 12 = .ok (.getfield 28, 3) := by decide +kernel
theorem dX8_keep_15 : decode cX8_keep 15 = .ok (.bipush 27, 2) := by decide +kernel
theorem dX8_keep_17 : decode cX8_keep 17 = .ok (.iload_n 1, 1) := by decide +kernel
theorem dX8_keep_18 : decode cX8_keep 18 = .ok (.imul, 1) := by decide +kernel
theorem dX8_keep_19 : decode cX8_keep 19 = .ok (.aload_n 0, 1) := by decide +kernel
theorem dX8_keep_20 : decode cX8_keep 20 = .ok (.getfield 22, 3) := by decide +kernel
theorem dX8_keep_23 : decode cX8_keep 23 = .ok (.iconst 0, 1) := by decide +kernel
theorem dX8_keep_24 : decode cX8_keep 24 = .ok (.invokestatic 128, 3) := by decide +kernel
theorem dX8_keep_27 : decode cX8_keep 27 = .ok (.aload_n 0, 1) := by decide +kernel
theorem dX8_keep_28 : decode cX8_keep 28 = .ok (.getfield 31, 3) := by decide +kernel
theorem dX8_keep_31 : decode cX8_keep 31 = .ok (.iload_n 1, 1) := by decide +kernel
theorem dX8_keep_32 : decode cX8_keep 32 = .ok (.iconst 1, 1) := by decide +kernel
theorem dX8_keep_33 : decode cX8_keep 33 = .ok (.bastore, 1) := by decide +kernel
theorem dX8_keep_34 : decode cX8_keep 34 = .ok (.aload_n 0, 1) := by decide +kernel
theorem dX8_keep_35 : decode cX8_keep 35 = .ok (.invokevirtual 156, 3) := by decide +kernel
theorem dX8_keep_38 : decode cX8_keep 38 = .ok (.aload_n 0, 1) := by decide +kernel
theorem dX8_keep_39 : decode cX8_keep 39 = .ok (.iconst 0, 1) := by decide +kernel
theorem dX8_keep_40 : decode cX8_keep 40 = .ok (.invokevirtual 132, 3) := by decide +kernel
theorem dX8_keep_43 : decode cX8_keep 43 = .ok (.invokestatic 135, 3) := by decide +kernel
theorem dX8_keep_46 : decode cX8_keep 46 = .ok (.ireturn, 1) := by decide +kernel
def f_X8_keep (a1 : Int32) (M : xMem) : Option (Int32 × xMem) := xb1 (f_X8_in a1 (0 : Int32) (1 : Int32) M) (fun r3 => (if r3 = (0 : Int32) then some ((-1 : Int32), M) else xb1 (f_X8_copy 8 10 54 ((27 : Int32) * a1) 8 7 27 (0 : Int32) M) (fun M24 => xchk (xb a1 2) (xlet (xst M24 8 11 a1 (vp_nar .boolean (1 : Int32))) (fun M33 => xb1 (f_X8_asItIs M33) (fun M35 => xb1 (f_X8_inPlace (0 : Int32) M35) (fun r40 => xb1 (f_X8_bits r40 M35) (fun r43 => some (r43, M35)))))))))
set_option maxHeartbeats 4000000 in
set_option maxRecDepth 100000 in
theorem c_X8_keep (l : Launch) (G : xG) (sz : Nat) (M : xMem) (L : xLL) (a1 : Int32) {rr : Int32} {MM : xMem} (hf : f_X8_keep a1 M = some (rr, MM)) : Met l yX8_keep (Cond.code yX8_keep cX8_keep 2 (some .int) :: xTB) (xR 3) (xP G M L sz [.ref (xq G 8 0), .int a1]) (xQi G rr MM L sz) 0 0 (xZ G sz) := by
  refine x_met (cc := cX8_keep) (nL := 2) (rt := (some .int)) (by decide) (Nat.le_of_ble_eq_true rfl) ?_
  intro p e s m below meth c ls hsz E hl hI
  subst hsz
  have E : xE p s m _ meth c cX8_keep 2 (some .int) RX8 G := E
  have hx := E.1
  have hb := E.2.1
  have hl : lv_has ls 2 [(0, .ref (xq G 8 0)), (1, .int a1)] := hl
  rw [f_X8_keep] at hf
  refine lv_iload_n hx hb dX8_keep_0 rfl (lv_at hl 1 rfl) ?_
  refine lv_iconst (v := 0) hx hb dX8_keep_1 (by decide) ?_
  refine lv_iconst (v := 1) hx hb dX8_keep_2 (by decide) ?_
  obtain ⟨r3, g3, hf⟩ := xb1_s hf
  refine x_callSi (As := [.int a1, .int (0 : Int32), .int (1 : Int32)]) (rest := []) E hI (c_X8_in l G _ (M := M) (L := L) (a0 := a1) (a1 := (0 : Int32)) (a2 := (1 : Int32)) g3) ys_X8_in ml_X8_66 (by decide) (by decide) rfl rfl hl.1 (Nat.le_of_ble_eq_true rfl) dX8_keep_3 (fun H locs hI => ?_)
  refine lv_if_ne (tgt := 11) hx hb dX8_keep_6 (by decide) (fun c6 => ?_) (fun c6 => ?_)
  · replace hf := xif_f c6 hf
    refine lv_aload_n hx hb dX8_keep_11 rfl (lv_at hl 0 rfl) ?_
    refine gf_X8_28 E hI dX8_keep_12 ?_
    refine lv_bipush (v := 27) hx hb dX8_keep_15 (by decide) ?_
    refine lv_iload_n hx hb dX8_keep_17 rfl (lv_at hl 1 rfl) ?_
    refine lv_imul hx hb dX8_keep_18 ?_
    refine lv_aload_n hx hb dX8_keep_19 rfl (lv_at hl 0 rfl) ?_
    refine gf_X8_22 E hI dX8_keep_20 ?_
    refine lv_iconst (v := 0) hx hb dX8_keep_23 (by decide) ?_
    obtain ⟨M24, g24, hf⟩ := xb1_s hf
    refine x_callSv (As := [.ref (xq G 8 10), .int ((27 : Int32) * a1), .ref (xq G 8 7), .int (0 : Int32)]) (rest := []) E hI (c_X8_copy l G _ (M := M) (L := L) (o0 := 8) (r0 := 10) (n0 := 54) (hm0 := mx_8_10) (hc0 := (fun _ _ => rfl)) (a1 := ((27 : Int32) * a1)) (o2 := 8) (r2 := 7) (n2 := 27) (hm2 := mx_8_7) (hc2 := (fun _ _ => rfl)) (a3 := (0 : Int32)) g24) ys_X8_copy ml_X8_128 (by decide) (by decide) rfl rfl hl.1 (Nat.le_of_ble_eq_true rfl) dX8_keep_24 (fun H locs hI => ?_)
    refine lv_aload_n hx hb dX8_keep_27 rfl (lv_at hl 0 rfl) ?_
    refine gf_X8_31 E hI dX8_keep_28 ?_
    refine lv_iload_n hx hb dX8_keep_31 rfl (lv_at hl 1 rfl) ?_
    refine lv_iconst (v := 1) hx hb dX8_keep_32 (by decide) ?_
    obtain ⟨h33b, hf⟩ := xchk_s hf
    obtain ⟨M33, e33, hf⟩ := xlet_s hf
    refine x_zast (n := 2) E hI mx_8_11 (fun _ _ => rfl) h33b dX8_keep_33 e33 (fun H locs hI => ?_)
    refine lv_aload_n hx hb dX8_keep_34 rfl (lv_at hl 0 rfl) ?_
    obtain ⟨M35, g35, hf⟩ := xb1_s hf
    refine x_callVv (As := []) (rest := []) E hI mx_8_0 rfl rfl rfl (c_X8_asItIs l G _ (M := M33) (L := L) g35) yv_X8_asItIs ml_X8_156 (by decide) (by decide) rfl rfl hl.1 (Nat.le_of_ble_eq_true rfl) dX8_keep_35 (fun H locs hI => ?_)
    refine lv_aload_n hx hb dX8_keep_38 rfl (lv_at hl 0 rfl) ?_
    refine lv_iconst (v := 0) hx hb dX8_keep_39 (by decide) ?_
    obtain ⟨r40, g40, hf⟩ := xb1_s hf
    refine x_callVi (As := [.int (0 : Int32)]) (rest := []) E hI mx_8_0 rfl rfl rfl (c_X8_inPlace l G _ (M := M35) (L := L) (a1 := (0 : Int32)) g40) yv_X8_inPlace ml_X8_132 (by decide) (by decide) rfl rfl hl.1 (Nat.le_of_ble_eq_true rfl) dX8_keep_40 (fun H locs hI => ?_)
    obtain ⟨r43, g43, hf⟩ := xb1_s hf
    refine x_callSi (As := [.int r40]) (rest := []) E hI (c_X8_bits l G _ (M := M35) (L := L) (a0 := r40) g43) ys_X8_bits ml_X8_135 (by decide) (by decide) rfl rfl hl.1 (Nat.le_of_ble_eq_true rfl) dX8_keep_43 (fun H locs hI => ?_)
    obtain ⟨rfl, rfl⟩ := xinj2 hf
    exact x_iret E hI rfl dX8_keep_46
  · replace hf := xif_t c6 hf
    refine lv_iconst (v := -1) hx hb dX8_keep_9 (by decide) ?_
    obtain ⟨rfl, rfl⟩ := xinj2 hf
    exact x_iret E hI rfl dX8_keep_10
theorem dX8_back_0 : decode cX8_back 0 = .ok (.iload_n 1, 1) := by decide +kernel
theorem dX8_back_1 : decode cX8_back 1 = .ok (.iconst 0, 1) := by decide +kernel
theorem dX8_back_2 : decode cX8_back 2 = .ok (.iconst 1, 1) := by decide +kernel
theorem dX8_back_3 : decode cX8_back 3 = .ok (.invokestatic 66, 3) := by decide +kernel
theorem dX8_back_6 : decode cX8_back 6 = .ok (.ifCond .ne 5, 3) := by decide +kernel
theorem dX8_back_9 : decode cX8_back 9 = .ok (.iconst (-1), 1) := by decide +kernel
theorem dX8_back_10 : decode cX8_back 10 = .ok (.ireturn, 1) := by decide +kernel
theorem dX8_back_11 : decode cX8_back 11 = .ok (.aload_n 0, 1) := by decide +kernel
theorem dX8_back_12 : decode cX8_back 12 = .ok (.getfield 31, 3) := by decide +kernel
theorem dX8_back_15 : decode cX8_back 15 = .ok (.iload_n 1, 1) := by decide +kernel
theorem dX8_back_16 : decode cX8_back 16 = .ok (.baload, 1) := by decide +kernel
theorem dX8_back_17 : decode cX8_back 17 = .ok (.ifCond .ne 6, 3) := by decide +kernel
theorem dX8_back_20 : decode cX8_back 20 = .ok (.bipush (-2), 2) := by decide +kernel
theorem dX8_back_22 : decode cX8_back 22 = .ok (.ireturn, 1) := by decide +kernel
theorem dX8_back_23 : decode cX8_back 23 = .ok (.aload_n 0, 1) := by decide +kernel
theorem dX8_back_24 : decode cX8_back 24 = .ok (.getfield 22, 3) := by decide +kernel
theorem dX8_back_27 : decode cX8_back 27 = .ok (.iconst 0, 1) := by decide +kernel
theorem dX8_back_28 : decode cX8_back 28 = .ok (.aload_n 0, 1) := by decide +kernel
theorem dX8_back_29 : decode cX8_back 29 = .ok (.getfield 28, 3) := by decide +kernel
theorem dX8_back_32 : decode cX8_back 32 = .ok (.bipush 27, 2) := by decide +kernel
theorem dX8_back_34 : decode cX8_back 34 = .ok (.iload_n 1, 1) := by decide +kernel
theorem dX8_back_35 : decode cX8_back 35 = .ok (.imul, 1) := by decide +kernel
theorem dX8_back_36 : decode cX8_back 36 = .ok (.invokestatic 128, 3) := by decide +kernel
theorem dX8_back_39 : decode cX8_back 39 = .ok (.aload_n 0, 1) := by decide +kernel
theorem dX8_back_40 : decode cX8_back 40 = .ok (.iconst 0, 1) := by decide +kernel
theorem dX8_back_41 : decode cX8_back 41 = .ok (.putfield 122, 3) := by decide +kernel
theorem dX8_back_44 : decode cX8_back 44 = .ok (.aload_n 0, 1) := by decide +kernel
theorem dX8_back_45 : decode cX8_back 45 = .ok (.invokevirtual 156, 3) := by decide +kernel
theorem dX8_back_48 : decode cX8_back 48 = .ok (.aload_n 0, 1) := by decide +kernel
theorem dX8_back_49 : decode cX8_back 49 = .ok (.iconst 0, 1) := by decide +kernel
theorem dX8_back_50 : decode cX8_back 50 = .ok (.invokevirtual 132, 3) := by decide +kernel
theorem dX8_back_53 : decode cX8_back 53 = .ok (.invokestatic 135, 3) := by decide +kernel
theorem dX8_back_56 : decode cX8_back 56 = .ok (.ireturn, 1) := by decide +kernel
def f_X8_back (a1 : Int32) (M : xMem) : Option (Int32 × xMem) := xb1 (f_X8_in a1 (0 : Int32) (1 : Int32) M) (fun r3 => (if r3 = (0 : Int32) then some ((-1 : Int32), M) else xchk (xb a1 2) ((if (M 8 11 a1.toNatClampNeg) = (0 : Int32) then some ((-2 : Int32), M) else xb1 (f_X8_copy 8 7 27 (0 : Int32) 8 10 54 ((27 : Int32) * a1) M) (fun M36 => xlet (xsf M36 8 8 (0 : Int32)) (fun M41 => xb1 (f_X8_asItIs M41) (fun M45 => xb1 (f_X8_inPlace (0 : Int32) M45) (fun r50 => xb1 (f_X8_bits r50 M45) (fun r53 => some (r53, M45))))))))))
set_option maxHeartbeats 4000000 in
set_option maxRecDepth 100000 in
theorem c_X8_back (l : Launch) (G : xG) (sz : Nat) (M : xMem) (L : xLL) (a1 : Int32) {rr : Int32} {MM : xMem} (hf : f_X8_back a1 M = some (rr, MM)) : Met l yX8_back (Cond.code yX8_back cX8_back 2 (some .int) :: xTB) (xR 3) (xP G M L sz [.ref (xq G 8 0), .int a1]) (xQi G rr MM L sz) 0 0 (xZ G sz) := by
  refine x_met (cc := cX8_back) (nL := 2) (rt := (some .int)) (by decide) (Nat.le_of_ble_eq_true rfl) ?_
  intro p e s m below meth c ls hsz E hl hI
  subst hsz
  have E : xE p s m _ meth c cX8_back 2 (some .int) RX8 G := E
  have hx := E.1
  have hb := E.2.1
  have hl : lv_has ls 2 [(0, .ref (xq G 8 0)), (1, .int a1)] := hl
  rw [f_X8_back] at hf
  refine lv_iload_n hx hb dX8_back_0 rfl (lv_at hl 1 rfl) ?_
  refine lv_iconst (v := 0) hx hb dX8_back_1 (by decide) ?_
  refine lv_iconst (v := 1) hx hb dX8_back_2 (by decide) ?_
  obtain ⟨r3, g3, hf⟩ := xb1_s hf
  refine x_callSi (As := [.int a1, .int (0 : Int32), .int (1 : Int32)]) (rest := []) E hI (c_X8_in l G _ (M := M) (L := L) (a0 := a1) (a1 := (0 : Int32)) (a2 := (1 : Int32)) g3) ys_X8_in ml_X8_66 (by decide) (by decide) rfl rfl hl.1 (Nat.le_of_ble_eq_true rfl) dX8_back_3 (fun H locs hI => ?_)
  refine lv_if_ne (tgt := 11) hx hb dX8_back_6 (by decide) (fun c6 => ?_) (fun c6 => ?_)
  · replace hf := xif_f c6 hf
    refine lv_aload_n hx hb dX8_back_11 rfl (lv_at hl 0 rfl) ?_
    refine gf_X8_31 E hI dX8_back_12 ?_
    refine lv_iload_n hx hb dX8_back_15 rfl (lv_at hl 1 rfl) ?_
    obtain ⟨h16b, hf⟩ := xchk_s hf
    refine x_zald (n := 2) E hI mx_8_11 (fun _ _ => rfl) h16b dX8_back_16 ?_
    refine lv_if_ne (tgt := 23) hx hb dX8_back_17 (by decide) (fun c17 => ?_) (fun c17 => ?_)
    · replace hf := xif_f c17 hf
      refine lv_aload_n hx hb dX8_back_23 rfl (lv_at hl 0 rfl) ?_
      refine gf_X8_22 E hI dX8_back_24 ?_
      refine lv_iconst (v := 0) hx hb dX8_back_27 (by decide) ?_
      refine lv_aload_n hx hb dX8_back_28 rfl (lv_at hl 0 rfl) ?_
      refine gf_X8_28 E hI dX8_back_29 ?_
      refine lv_bipush (v := 27) hx hb dX8_back_32 (by decide) ?_
      refine lv_iload_n hx hb dX8_back_34 rfl (lv_at hl 1 rfl) ?_
      refine lv_imul hx hb dX8_back_35 ?_
      obtain ⟨M36, g36, hf⟩ := xb1_s hf
      refine x_callSv (As := [.ref (xq G 8 7), .int (0 : Int32), .ref (xq G 8 10), .int ((27 : Int32) * a1)]) (rest := []) E hI (c_X8_copy l G _ (M := M) (L := L) (o0 := 8) (r0 := 7) (n0 := 27) (hm0 := mx_8_7) (hc0 := (fun _ _ => rfl)) (a1 := (0 : Int32)) (o2 := 8) (r2 := 10) (n2 := 54) (hm2 := mx_8_10) (hc2 := (fun _ _ => rfl)) (a3 := ((27 : Int32) * a1)) g36) ys_X8_copy ml_X8_128 (by decide) (by decide) rfl rfl hl.1 (Nat.le_of_ble_eq_true rfl) dX8_back_36 (fun H locs hI => ?_)
      refine lv_aload_n hx hb dX8_back_39 rfl (lv_at hl 0 rfl) ?_
      refine lv_iconst (v := 0) hx hb dX8_back_40 (by decide) ?_
      obtain ⟨M41, e41, hf⟩ := xlet_s hf
      refine pf_X8_122 E hI dX8_back_41 e41 (fun H locs hI => ?_)
      refine lv_aload_n hx hb dX8_back_44 rfl (lv_at hl 0 rfl) ?_
      obtain ⟨M45, g45, hf⟩ := xb1_s hf
      refine x_callVv (As := []) (rest := []) E hI mx_8_0 rfl rfl rfl (c_X8_asItIs l G _ (M := M41) (L := L) g45) yv_X8_asItIs ml_X8_156 (by decide) (by decide) rfl rfl hl.1 (Nat.le_of_ble_eq_true rfl) dX8_back_45 (fun H locs hI => ?_)
      refine lv_aload_n hx hb dX8_back_48 rfl (lv_at hl 0 rfl) ?_
      refine lv_iconst (v := 0) hx hb dX8_back_49 (by decide) ?_
      obtain ⟨r50, g50, hf⟩ := xb1_s hf
      refine x_callVi (As := [.int (0 : Int32)]) (rest := []) E hI mx_8_0 rfl rfl rfl (c_X8_inPlace l G _ (M := M45) (L := L) (a1 := (0 : Int32)) g50) yv_X8_inPlace ml_X8_132 (by decide) (by decide) rfl rfl hl.1 (Nat.le_of_ble_eq_true rfl) dX8_back_50 (fun H locs hI => ?_)
      obtain ⟨r53, g53, hf⟩ := xb1_s hf
      refine x_callSi (As := [.int r50]) (rest := []) E hI (c_X8_bits l G _ (M := M45) (L := L) (a0 := r50) g53) ys_X8_bits ml_X8_135 (by decide) (by decide) rfl rfl hl.1 (Nat.le_of_ble_eq_true rfl) dX8_back_53 (fun H locs hI => ?_)
      obtain ⟨rfl, rfl⟩ := xinj2 hf
      exact x_iret E hI rfl dX8_back_56
    · replace hf := xif_t c17 hf
      refine lv_bipush (v := -2) hx hb dX8_back_20 (by decide) ?_
      obtain ⟨rfl, rfl⟩ := xinj2 hf
      exact x_iret E hI rfl dX8_back_22
  · replace hf := xif_t c6 hf
    refine lv_iconst (v := -1) hx hb dX8_back_9 (by decide) ?_
    obtain ⟨rfl, rfl⟩ := xinj2 hf
    exact x_iret E hI rfl dX8_back_10
theorem dX8_count_0 : decode cX8_count 0 = .ok (.iload_n 1, 1) := by decide +kernel
theorem dX8_count_1 : decode cX8_count 1 = .ok (.tableswitch 51 0 3 #[31, 36, 41, 46], 31) := by decide +kernel
theorem dX8_count_32 : decode cX8_count 32 = .ok (.aload_n 0, 1) := by decide +kernel
theorem dX8_count_33 : decode cX8_count 33 = .ok (.getfield 62, 3) := by decide +kernel
theorem dX8_count_36 : decode cX8_count 36 = .ok (.ireturn, 1) := by decide +kernel
theorem dX8_count_37 : decode cX8_count 37 = .ok (.aload_n 0, 1) := by decide +kernel
theorem dX8_count_38 : decode cX8_count 38 = .ok (.getfield 70, 3) := by decide +kernel
theorem dX8_count_41 : decode cX8_count 41 = .ok (.ireturn, 1) := by decide +kernel
theorem dX8_count_42 : decode cX8_count 42 = .ok (.aload_n 0, 1) := by decide +kernel
theorem dX8_count_43 : decode cX8_count 43 = .ok (.getfield 125, 3) := by decide +kernel
theorem dX8_count_46 : decode cX8_count 46 = .ok (.ireturn, 1) := by decide +kernel
theorem dX8_count_47 : decode cX8_count 47 = .ok (.aload_n 0, 1) := by decide +kernel
theorem dX8_count_48 : decode cX8_count 48 = .ok (.getfield 73, 3) := by decide +kernel
theorem dX8_count_51 : decode cX8_count 51 = .ok (.ireturn, 1) := by decide +kernel
theorem dX8_count_52 : decode cX8_count 52 = .ok (.iconst (-1), 1) := by decide +kernel
theorem dX8_count_53 : decode cX8_count 53 = .ok (.ireturn, 1) := by decide +kernel
def f_X8_count (a1 : Int32) (M : xMem) : Option (Int32) := (if a1 = (0 : Int32) then some (M 8 0 0) else (if a1 = (1 : Int32) then some (M 8 0 4) else (if a1 = (2 : Int32) then some (M 8 0 11) else (if a1 = (3 : Int32) then some (M 8 0 15) else some (-1 : Int32)))))
set_option maxHeartbeats 4000000 in
set_option maxRecDepth 100000 in
theorem c_X8_count (l : Launch) (G : xG) (sz : Nat) (M : xMem) (L : xLL) (a1 : Int32) {rr : Int32} (hf : f_X8_count a1 M = some rr) : Met l yX8_count (Cond.code yX8_count cX8_count 2 (some .int) :: xTB) (xR 1) (xP G M L sz [.ref (xq G 8 0), .int a1]) (xQi G rr M L sz) 0 0 (xZ G sz) := by
  refine x_met (cc := cX8_count) (nL := 2) (rt := (some .int)) (by decide) (Nat.le_of_ble_eq_true rfl) ?_
  intro p e s m below meth c ls hsz E hl hI
  subst hsz
  have E : xE p s m _ meth c cX8_count 2 (some .int) RX8 G := E
  have hx := E.1
  have hb := E.2.1
  have hl : lv_has ls 2 [(0, .ref (xq G 8 0)), (1, .int a1)] := hl
  rw [f_X8_count] at hf
  refine lv_iload_n hx hb dX8_count_0 rfl (lv_at hl 1 rfl) ?_
  by_cases c1_0 : a1 = (0 : Int32)
  · replace hf := xif_t c1_0 hf
    refine x_tsIn (off := 31) (tgt := 32) hx hb c1_0 dX8_count_1 (by decide) (by decide) (by decide) (by decide) ?_
    refine lv_aload_n hx hb dX8_count_32 rfl (lv_at hl 0 rfl) ?_
    refine gf_X8_62 E hI dX8_count_33 ?_
    obtain rfl := xinj1 hf
    exact x_iret E hI rfl dX8_count_36
  · replace hf := xif_f c1_0 hf
    by_cases c1_1 : a1 = (1 : Int32)
    · replace hf := xif_t c1_1 hf
      refine x_tsIn (off := 36) (tgt := 37) hx hb c1_1 dX8_count_1 (by decide) (by decide) (by decide) (by decide) ?_
      refine lv_aload_n hx hb dX8_count_37 rfl (lv_at hl 0 rfl) ?_
      refine gf_X8_70 E hI dX8_count_38 ?_
      obtain rfl := xinj1 hf
      exact x_iret E hI rfl dX8_count_41
    · replace hf := xif_f c1_1 hf
      by_cases c1_2 : a1 = (2 : Int32)
      · replace hf := xif_t c1_2 hf
        refine x_tsIn (off := 41) (tgt := 42) hx hb c1_2 dX8_count_1 (by decide) (by decide) (by decide) (by decide) ?_
        refine lv_aload_n hx hb dX8_count_42 rfl (lv_at hl 0 rfl) ?_
        refine gf_X8_125 E hI dX8_count_43 ?_
        obtain rfl := xinj1 hf
        exact x_iret E hI rfl dX8_count_46
      · replace hf := xif_f c1_2 hf
        by_cases c1_3 : a1 = (3 : Int32)
        · replace hf := xif_t c1_3 hf
          refine x_tsIn (off := 46) (tgt := 47) hx hb c1_3 dX8_count_1 (by decide) (by decide) (by decide) (by decide) ?_
          refine lv_aload_n hx hb dX8_count_47 rfl (lv_at hl 0 rfl) ?_
          refine gf_X8_73 E hI dX8_count_48 ?_
          obtain rfl := xinj1 hf
          exact x_iret E hI rfl dX8_count_51
        · replace hf := xif_f c1_3 hf
          refine x_tsOut hx hb dX8_count_1 (fun k hk => by
            have hk2 : k = 0 ∨ k = 1 ∨ k = 2 ∨ k = 3 := by
              have hk3 : k < 4 := hk
              omega
            rcases hk2 with rfl | rfl | rfl | rfl
            · exact c1_0
            · exact c1_1
            · exact c1_2
            · exact c1_3) (tgt := 52) (by decide) ?_
          refine lv_iconst (v := -1) hx hb dX8_count_52 (by decide) ?_
          obtain rfl := xinj1 hf
          exact x_iret E hI rfl dX8_count_53
theorem dX8_trace_0 : decode cX8_trace 0 = .ok (.aload_n 0, 1) := by decide +kernel
theorem dX8_trace_1 : decode cX8_trace 1 = .ok (.getfield 221, 3) := by decide +kernel
theorem dX8_trace_4 : decode cX8_trace 4 = .ok (.lreturn, 1) := by decide +kernel
def f_X8_trace (M : xMem) (L : xLL) : Option (Int64) := some (L 8)
set_option maxHeartbeats 4000000 in
set_option maxRecDepth 100000 in
theorem c_X8_trace (l : Launch) (G : xG) (sz : Nat) (M : xMem) (L : xLL) {rr : Int64} (hf : f_X8_trace M L = some rr) : Met l yX8_trace (Cond.code yX8_trace cX8_trace 1 (some .long) :: xTB) (xR 1) (xP G M L sz [.ref (xq G 8 0)]) (xQl G rr M L sz) 0 0 (xZ G sz) := by
  refine x_met (cc := cX8_trace) (nL := 1) (rt := (some .long)) (by decide) (Nat.le_of_ble_eq_true rfl) ?_
  intro p e s m below meth c ls hsz E hl hI
  subst hsz
  have E : xE p s m _ meth c cX8_trace 1 (some .long) RX8 G := E
  have hx := E.1
  have hb := E.2.1
  have hl : lv_has ls 1 [(0, .ref (xq G 8 0))] := hl
  rw [f_X8_trace] at hf
  refine lv_aload_n hx hb dX8_trace_0 rfl (lv_at hl 0 rfl) ?_
  refine gf_X8_221 E hI dX8_trace_1 ?_
  obtain rfl := xinj1 hf
  exact x_lret E hI rfl dX8_trace_4
