theorem dX7_beyond_0 : decode cX7_beyond 0 = .ok (.iload_n 0, 1) := by decide +kernel
theorem dX7_beyond_1 : decode cX7_beyond 1 = .ok (.iload_n 1, 1) := by decide +kernel
theorem dX7_beyond_2 : decode cX7_beyond 2 = .ok (.if_icmp .lt 8, 3) := by decide +kernel
theorem dX7_beyond_5 : decode cX7_beyond 5 = .ok (.iload_n 0, 1) := by decide +kernel
theorem dX7_beyond_6 : decode cX7_beyond 6 = .ok (.iload_n 2, 1) := by decide +kernel
theorem dX7_beyond_7 : decode cX7_beyond 7 = .ok (.if_icmp .le 7, 3) := by decide +kernel
theorem dX7_beyond_10 : decode cX7_beyond 10 = .ok (.iconst 1, 1) := by decide +kernel
theorem dX7_beyond_11 : decode cX7_beyond 11 = .ok (.goto 4, 3) := by decide +kernel
theorem dX7_beyond_14 : decode cX7_beyond 14 = .ok (.iconst 0, 1) := by decide +kernel
theorem dX7_beyond_15 : decode cX7_beyond 15 = .ok (.ireturn, 1) := by decide +kernel
def f_X7_beyond_b15 (t15_0 : Int32) : Option (Int32) := xchk (xbo t15_0) (some t15_0)
def f_X7_beyond_b10 (k15 : Int32 → Option (Int32)) : Option (Int32) := k15 (1 : Int32)
def f_X7_beyond (a0 : Int32) (a1 : Int32) (a2 : Int32) (M : xMem) : Option (Int32) := (if a0 < a1 then (f_X7_beyond_b10 (f_X7_beyond_b15)) else (if a0 ≤ a2 then (f_X7_beyond_b15) (0 : Int32) else (f_X7_beyond_b10 (f_X7_beyond_b15))))
set_option maxHeartbeats 4000000 in
set_option maxRecDepth 100000 in
theorem w_X7_beyond_b15 {p : Program} {l : Launch} {e : Env} {s : State} {m : MethodId} {args : Array Value} {below : List Frame} {meth : Method} {c : Code} {G : xG} {rr : Int32} (E : xE p s m args meth c cX7_beyond 3 (some .boolean) RX7 G) (M : xMem) (L : xLL) : ∀ (t15_0 : Int32), f_X7_beyond_b15 t15_0 = some rr → ∀ (ls : Array Slot), lv_has ls 3 [] → ∀ (H : Heap) (locs : List Loc), xI G M L s.heap H locs → W p l e (xR 1) s m args below meth c H locs 0 0 (MQ below (xQi G rr M L s.heap.size) args s 0 0 (xZ G s.heap.size)) (F0 m 15 ls [.int t15_0]) := by
  have hx := E.1
  have hb := E.2.1
  intro t15_0 hf ls hl H locs hI
  rw [f_X7_beyond_b15] at hf
  obtain ⟨h15n, hf⟩ := xchk_s hf
  obtain rfl := xinj1 hf
  exact x_zret E hI (xbo_s h15n) rfl dX7_beyond_15
set_option maxHeartbeats 4000000 in
set_option maxRecDepth 100000 in
theorem w_X7_beyond_b10 {p : Program} {l : Launch} {e : Env} {s : State} {m : MethodId} {args : Array Value} {below : List Frame} {meth : Method} {c : Code} {G : xG} {rr : Int32} (E : xE p s m args meth c cX7_beyond 3 (some .boolean) RX7 G) (M : xMem) (L : xLL) (k15 : Int32 → Option (Int32)) (hk15 : ∀ (t15_0 : Int32), k15 t15_0 = some rr → ∀ (ls : Array Slot), lv_has ls 3 [] → ∀ (H : Heap) (locs : List Loc), xI G M L s.heap H locs → W p l e (xR 1) s m args below meth c H locs 0 0 (MQ below (xQi G rr M L s.heap.size) args s 0 0 (xZ G s.heap.size)) (F0 m 15 ls [.int t15_0])) : f_X7_beyond_b10 k15  = some rr → ∀ (ls : Array Slot), lv_has ls 3 [] → ∀ (H : Heap) (locs : List Loc), xI G M L s.heap H locs → W p l e (xR 1) s m args below meth c H locs 0 0 (MQ below (xQi G rr M L s.heap.size) args s 0 0 (xZ G s.heap.size)) (F0 m 10 ls []) := by
  have hx := E.1
  have hb := E.2.1
  intro  hf ls hl H locs hI
  rw [f_X7_beyond_b10] at hf
  refine lv_iconst (v := 1) hx hb dX7_beyond_10 (by decide) ?_
  refine lv_goto (tgt := 15) hx hb dX7_beyond_11 (by decide) ?_
  exact hk15 (1 : Int32) hf _ (lv_sub hl [] rfl) _ _ hI
set_option maxHeartbeats 4000000 in
set_option maxRecDepth 100000 in
theorem c_X7_beyond (l : Launch) (G : xG) (sz : Nat) (M : xMem) (L : xLL) (a0 : Int32) (a1 : Int32) (a2 : Int32) {rr : Int32} (hf : f_X7_beyond a0 a1 a2 M = some rr) : Met l yX7_beyond (Cond.code yX7_beyond cX7_beyond 3 (some .boolean) :: xTB) (xR 1) (xP G M L sz [.int a0, .int a1, .int a2]) (xQi G rr M L sz) 0 0 (xZ G sz) := by
  refine x_met (cc := cX7_beyond) (nL := 3) (rt := (some .boolean)) (by decide) (Nat.le_of_ble_eq_true rfl) ?_
  intro p e s m below meth c ls hsz E hl hI
  subst hsz
  have E : xE p s m _ meth c cX7_beyond 3 (some .boolean) RX7 G := E
  have hx := E.1
  have hb := E.2.1
  have hl : lv_has ls 3 [(0, .int a0), (1, .int a1), (2, .int a2)] := hl
  rw [f_X7_beyond] at hf
  refine lv_iload_n hx hb dX7_beyond_0 rfl (lv_at hl 0 rfl) ?_
  refine lv_iload_n hx hb dX7_beyond_1 rfl (lv_at hl 1 rfl) ?_
  refine lv_icmp_lt (tgt := 10) hx hb dX7_beyond_2 (by decide) (fun c2 => ?_) (fun c2 => ?_)
  · replace hf := xif_t c2 hf
    exact (w_X7_beyond_b10 E (M := M) (L := L) (k15 := (f_X7_beyond_b15)) (hk15 := (w_X7_beyond_b15 E (M := M) (L := L))))  hf _ (lv_sub hl [] rfl) _ _ hI
  · replace hf := xif_f c2 hf
    refine lv_iload_n hx hb dX7_beyond_5 rfl (lv_at hl 0 rfl) ?_
    refine lv_iload_n hx hb dX7_beyond_6 rfl (lv_at hl 2 rfl) ?_
    refine lv_icmp_le (tgt := 14) hx hb dX7_beyond_7 (by decide) (fun c7 => ?_) (fun c7 => ?_)
    · replace hf := xif_t c7 hf
      refine lv_iconst (v := 0) hx hb dX7_beyond_14 (by decide) ?_
      exact (w_X7_beyond_b15 E (M := M) (L := L)) (0 : Int32) hf _ (lv_sub hl [] rfl) _ _ hI
    · replace hf := xif_f c7 hf
      exact (w_X7_beyond_b10 E (M := M) (L := L) (k15 := (f_X7_beyond_b15)) (hk15 := (w_X7_beyond_b15 E (M := M) (L := L))))  hf _ (lv_sub hl [] rfl) _ _ hI
theorem dX3_digitAt_0 : decode cX3_digitAt 0 = .ok (.aload_n 0, 1) := by decide +kernel
theorem dX3_digitAt_1 : decode cX3_digitAt 1 = .ok (.getfield 9, 3) := by decide +kernel
theorem dX3_digitAt_4 : decode cX3_digitAt 4 = .ok (.iload_n 1, 1) := by decide +kernel
theorem dX3_digitAt_5 : decode cX3_digitAt 5 = .ok (.caload, 1) := by decide +kernel
theorem dX3_digitAt_6 : decode cX3_digitAt 6 = .ok (.bipush 48, 2) := by decide +kernel
theorem dX3_digitAt_8 : decode cX3_digitAt 8 = .ok (.if_icmp .lt 18, 3) := by decide +kernel
theorem dX3_digitAt_11 : decode cX3_digitAt 11 = .ok (.aload_n 0, 1) := by decide +kernel
theorem dX3_digitAt_12 : decode cX3_digitAt 12 = .ok (.getfield 9, 3) := by decide +kernel
theorem dX3_digitAt_15 : decode cX3_digitAt 15 = .ok (.iload_n 1, 1) := by decide +kernel
theorem dX3_digitAt_16 : decode cX3_digitAt 16 = .ok (.caload, 1) := by decide +kernel
theorem dX3_digitAt_17 : decode cX3_digitAt 17 = .ok (.bipush 57, 2) := by decide +kernel
theorem dX3_digitAt_19 : decode cX3_digitAt 19 = .ok (.if_icmp .gt 7, 3) := by decide +kernel
theorem dX3_digitAt_22 : decode cX3_digitAt 22 = .ok (.iconst 1, 1) := by decide +kernel
theorem dX3_digitAt_23 : decode cX3_digitAt 23 = .ok (.goto 4, 3) := by decide +kernel
theorem dX3_digitAt_26 : decode cX3_digitAt 26 = .ok (.iconst 0, 1) := by decide +kernel
theorem dX3_digitAt_27 : decode cX3_digitAt 27 = .ok (.ireturn, 1) := by decide +kernel
def f_X3_digitAt_b27 (t27_0 : Int32) : Option (Int32) := xchk (xbo t27_0) (some t27_0)
def f_X3_digitAt_b26 (k27 : Int32 → Option (Int32)) : Option (Int32) := k27 (0 : Int32)
def f_X3_digitAt (a1 : Int32) (M : xMem) : Option (Int32) := xchk (xb a1 120) ((if (M 1 1 a1.toNatClampNeg) < (48 : Int32) then (f_X3_digitAt_b26 (f_X3_digitAt_b27)) else xchk (xb a1 120) ((if (57 : Int32) < (M 1 1 a1.toNatClampNeg) then (f_X3_digitAt_b26 (f_X3_digitAt_b27)) else (f_X3_digitAt_b27) (1 : Int32)))))
set_option maxHeartbeats 4000000 in
set_option maxRecDepth 100000 in
theorem w_X3_digitAt_b27 {p : Program} {l : Launch} {e : Env} {s : State} {m : MethodId} {args : Array Value} {below : List Frame} {meth : Method} {c : Code} {G : xG} {rr : Int32} (E : xE p s m args meth c cX3_digitAt 2 (some .boolean) RX3 G) (M : xMem) (L : xLL) : ∀ (t27_0 : Int32), f_X3_digitAt_b27 t27_0 = some rr → ∀ (ls : Array Slot), lv_has ls 2 [] → ∀ (H : Heap) (locs : List Loc), xI G M L s.heap H locs → W p l e (xR 1) s m args below meth c H locs 0 0 (MQ below (xQi G rr M L s.heap.size) args s 0 0 (xZ G s.heap.size)) (F0 m 27 ls [.int t27_0]) := by
  have hx := E.1
  have hb := E.2.1
  intro t27_0 hf ls hl H locs hI
  rw [f_X3_digitAt_b27] at hf
  obtain ⟨h27n, hf⟩ := xchk_s hf
  obtain rfl := xinj1 hf
  exact x_zret E hI (xbo_s h27n) rfl dX3_digitAt_27
set_option maxHeartbeats 4000000 in
set_option maxRecDepth 100000 in
theorem w_X3_digitAt_b26 {p : Program} {l : Launch} {e : Env} {s : State} {m : MethodId} {args : Array Value} {below : List Frame} {meth : Method} {c : Code} {G : xG} {rr : Int32} (E : xE p s m args meth c cX3_digitAt 2 (some .boolean) RX3 G) (M : xMem) (L : xLL) (k27 : Int32 → Option (Int32)) (hk27 : ∀ (t27_0 : Int32), k27 t27_0 = some rr → ∀ (ls : Array Slot), lv_has ls 2 [] → ∀ (H : Heap) (locs : List Loc), xI G M L s.heap H locs → W p l e (xR 1) s m args below meth c H locs 0 0 (MQ below (xQi G rr M L s.heap.size) args s 0 0 (xZ G s.heap.size)) (F0 m 27 ls [.int t27_0])) : f_X3_digitAt_b26 k27  = some rr → ∀ (ls : Array Slot), lv_has ls 2 [] → ∀ (H : Heap) (locs : List Loc), xI G M L s.heap H locs → W p l e (xR 1) s m args below meth c H locs 0 0 (MQ below (xQi G rr M L s.heap.size) args s 0 0 (xZ G s.heap.size)) (F0 m 26 ls []) := by
  have hx := E.1
  have hb := E.2.1
  intro  hf ls hl H locs hI
  rw [f_X3_digitAt_b26] at hf
  refine lv_iconst (v := 0) hx hb dX3_digitAt_26 (by decide) ?_
  exact hk27 (0 : Int32) hf _ (lv_sub hl [] rfl) _ _ hI
set_option maxHeartbeats 4000000 in
set_option maxRecDepth 100000 in
theorem c_X3_digitAt (l : Launch) (G : xG) (sz : Nat) (M : xMem) (L : xLL) (a1 : Int32) {rr : Int32} (hf : f_X3_digitAt a1 M = some rr) : Met l yX3_digitAt (Cond.code yX3_digitAt cX3_digitAt 2 (some .boolean) :: xTB) (xR 1) (xP G M L sz [.ref (xq G 1 0), .int a1]) (xQi G rr M L sz) 0 0 (xZ G sz) := by
  refine x_met (cc := cX3_digitAt) (nL := 2) (rt := (some .boolean)) (by decide) (Nat.le_of_ble_eq_true rfl) ?_
  intro p e s m below meth c ls hsz E hl hI
  subst hsz
  have E : xE p s m _ meth c cX3_digitAt 2 (some .boolean) RX3 G := E
  have hx := E.1
  have hb := E.2.1
  have hl : lv_has ls 2 [(0, .ref (xq G 1 0)), (1, .int a1)] := hl
  rw [f_X3_digitAt] at hf
  refine lv_aload_n hx hb dX3_digitAt_0 rfl (lv_at hl 0 rfl) ?_
  refine gf_X3_9 E hI dX3_digitAt_1 ?_
  refine lv_iload_n hx hb dX3_digitAt_4 rfl (lv_at hl 1 rfl) ?_
  obtain ⟨h5b, hf⟩ := xchk_s hf
  refine x_cald (n := 120) E hI mx_1_1 (fun _ _ => rfl) h5b dX3_digitAt_5 ?_
  refine lv_bipush (v := 48) hx hb dX3_digitAt_6 (by decide) ?_
  refine lv_icmp_lt (tgt := 26) hx hb dX3_digitAt_8 (by decide) (fun c8 => ?_) (fun c8 => ?_)
  · replace hf := xif_t c8 hf
    exact (w_X3_digitAt_b26 E (M := M) (L := L) (k27 := (f_X3_digitAt_b27)) (hk27 := (w_X3_digitAt_b27 E (M := M) (L := L))))  hf _ (lv_sub hl [] rfl) _ _ hI
  · replace hf := xif_f c8 hf
    refine lv_aload_n hx hb dX3_digitAt_11 rfl (lv_at hl 0 rfl) ?_
    refine gf_X3_9 E hI dX3_digitAt_12 ?_
    refine lv_iload_n hx hb dX3_digitAt_15 rfl (lv_at hl 1 rfl) ?_
    obtain ⟨h16b, hf⟩ := xchk_s hf
    refine x_cald (n := 120) E hI mx_1_1 (fun _ _ => rfl) h16b dX3_digitAt_16 ?_
    refine lv_bipush (v := 57) hx hb dX3_digitAt_17 (by decide) ?_
    refine lv_icmp_gt (tgt := 26) hx hb dX3_digitAt_19 (by decide) (fun c19 => ?_) (fun c19 => ?_)
    · replace hf := xif_t c19 hf
      exact (w_X3_digitAt_b26 E (M := M) (L := L) (k27 := (f_X3_digitAt_b27)) (hk27 := (w_X3_digitAt_b27 E (M := M) (L := L))))  hf _ (lv_sub hl [] rfl) _ _ hI
    · replace hf := xif_f c19 hf
      refine lv_iconst (v := 1) hx hb dX3_digitAt_22 (by decide) ?_
      refine lv_goto (tgt := 27) hx hb dX3_digitAt_23 (by decide) ?_
      exact (w_X3_digitAt_b27 E (M := M) (L := L)) (1 : Int32) hf _ (lv_sub hl [] rfl) _ _ hI
theorem dX3_readDigits_0 : decode cX3_readDigits 0 = .ok (.aload_n 0, 1) := by decide +kernel
theorem dX3_readDigits_1 : decode cX3_readDigits 1 = .ok (.iconst 0, 1) := by decide +kernel
theorem dX3_readDigits_2 : decode cX3_readDigits 2 = .ok (.putfield 63, 3) := by decide +kernel
theorem dX3_readDigits_5 : decode cX3_readDigits 5 = .ok (.aload_n 0, 1) := by decide +kernel
theorem dX3_readDigits_6 : decode cX3_readDigits 6 = .ok (.getfield 29, 3) := by decide +kernel
theorem dX3_readDigits_9 : decode cX3_readDigits 9 = .ok (.aload_n 0, 1) := by decide +kernel
theorem dX3_readDigits_10 : decode cX3_readDigits 10 = .ok (.getfield 82, 3) := by decide +kernel
theorem dX3_readDigits_13 : decode cX3_readDigits 13 = .ok (.if_icmp .ge 56, 3) := by decide +kernel
theorem dX3_readDigits_16 : decode cX3_readDigits 16 = .ok (.aload_n 0, 1) := by decide +kernel
theorem dX3_readDigits_17 : decode cX3_readDigits 17 = .ok (.aload_n 0, 1) := by decide +kernel
theorem dX3_readDigits_18 : decode cX3_readDigits 18 = .ok (.getfield 29, 3) := by decide +kernel
theorem dX3_readDigits_21 : decode cX3_readDigits 21 = .ok (.invokevirtual 85, 3) := by decide +kernel
theorem dX3_readDigits_24 : decode cX3_readDigits 24 = .ok (.ifCond .eq 45, 3) := by decide +kernel
theorem dX3_readDigits_27 : decode cX3_readDigits 27 = .ok (.aload_n 0, 1) := by decide +kernel
theorem dX3_readDigits_28 : decode cX3_readDigits 28 = .ok (.bipush 100, 2) := by decide +kernel
theorem dX3_readDigits_30 : decode cX3_readDigits 30 = .ok (.aload_n 0, 1) := by decide +kernel
theorem dX3_readDigits_31 : decode cX3_readDigits 31 = .ok (.getfield 63, 3) := by decide +kernel
theorem dX3_readDigits_34 : decode cX3_readDigits 34 = .ok (.bipush 10, 2) := by decide +kernel
theorem dX3_readDigits_36 : decode cX3_readDigits 36 = .ok (.imul, 1) := by decide +kernel
theorem dX3_readDigits_37 : decode cX3_readDigits 37 = .ok (.aload_n 0, 1) := by decide +kernel
theorem dX3_readDigits_38 : decode cX3_readDigits 38 = .ok (.getfield 9, 3) := by decide +kernel
theorem dX3_readDigits_41 : decode cX3_readDigits 41 = .ok (.aload_n 0, 1) := by decide +kernel
theorem dX3_readDigits_42 : decode cX3_readDigits 42 = .ok (.getfield 29, 3) := by decide +kernel
theorem dX3_readDigits_45 : decode cX3_readDigits 45 = .ok (.caload, 1) := by decide +kernel
theorem dX3_readDigits_46 : decode cX3_readDigits 46 = .ok (.iadd, 1) := by decide +kernel
theorem dX3_readDigits_47 : decode cX3_readDigits 47 = .ok (.bipush 48, 2) := by decide +kernel
theorem dX3_readDigits_49 : decode cX3_readDigits 49 = .ok (.isub, 1) := by decide +kernel
theorem dX3_readDigits_50 : decode cX3_readDigits 50 = .ok (.invokestatic 91, 3) := by decide +kernel
theorem dX3_readDigits_53 : decode cX3_readDigits 53 = .ok (.putfield 63, 3) := by decide +kernel
theorem dX3_readDigits_56 : decode cX3_readDigits 56 = .ok (.aload_n 0, 1) := by decide +kernel
theorem dX3_readDigits_57 : decode cX3_readDigits 57 = .ok (.dup, 1) := by decide +kernel
theorem dX3_readDigits_58 : decode cX3_readDigits 58 = .ok (.getfield 29, 3) := by decide +kernel
theorem dX3_readDigits_61 : decode cX3_readDigits 61 = .ok (.iconst 1, 1) := by decide +kernel
theorem dX3_readDigits_62 : decode cX3_readDigits 62 = .ok (.iadd, 1) := by decide +kernel
theorem dX3_readDigits_63 : decode cX3_readDigits 63 = .ok (.putfield 29, 3) := by decide +kernel
theorem dX3_readDigits_66 : decode cX3_readDigits 66 = .ok (.goto (-61), 3) := by decide +kernel
theorem dX3_readDigits_69 : decode cX3_readDigits 69 = .ok (.aload_n 0, 1) := by decide +kernel
theorem dX3_readDigits_70 : decode cX3_readDigits 70 = .ok (.getfield 9, 3) := by decide +kernel
theorem dX3_readDigits_73 : decode cX3_readDigits 73 = .ok (.aload_n 0, 1) := by decide +kernel
theorem dX3_readDigits_74 : decode cX3_readDigits 74 = .ok (.getfield 42, 3) := by decide +kernel
theorem dX3_readDigits_77 : decode cX3_readDigits 77 = .ok (.caload, 1) := by decide +kernel
theorem dX3_readDigits_78 : decode cX3_readDigits 78 = .ok (.bipush 48, 2) := by decide +kernel
theorem dX3_readDigits_80 : decode cX3_readDigits 80 = .ok (.if_icmp .ne 20, 3) := by decide +kernel
theorem dX3_readDigits_83 : decode cX3_readDigits 83 = .ok (.aload_n 0, 1) := by decide +kernel
theorem dX3_readDigits_84 : decode cX3_readDigits 84 = .ok (.getfield 29, 3) := by decide +kernel
theorem dX3_readDigits_87 : decode cX3_readDigits 87 = .ok (.aload_n 0, 1) := by decide +kernel
theorem dX3_readDigits_88 : decode cX3_readDigits 88 = .ok (.getfield 42, 3) := by decide +kernel
theorem dX3_readDigits_91 : decode cX3_readDigits 91 = .ok (.iconst 1, 1) := by decide +kernel
theorem dX3_readDigits_92 : decode cX3_readDigits 92 = .ok (.iadd, 1) := by decide +kernel
theorem dX3_readDigits_93 : decode cX3_readDigits 93 = .ok (.if_icmp .le 7, 3) := by decide +kernel
theorem dX3_readDigits_96 : decode cX3_readDigits 96 = .ok (.iconst 1, 1) := by decide +kernel
theorem dX3_readDigits_97 : decode cX3_readDigits 97 = .ok (.goto 4, 3) := by decide +kernel
theorem dX3_readDigits_100 : decode cX3_readDigits 100 = .ok (.iconst 0, 1) := by decide +kernel
theorem dX3_readDigits_101 : decode cX3_readDigits 101 = .ok (.istore_n 1, 1) := by decide +kernel
theorem dX3_readDigits_102 : decode cX3_readDigits 102 = .ok (.aload_n 0, 1) := by decide +kernel
theorem dX3_readDigits_103 : decode cX3_readDigits 103 = .ok (.iload_n 1, 1) := by decide +kernel
theorem dX3_readDigits_104 : decode cX3_readDigits 104 = .ok (.ifCond .ne 12, 3) := by decide +kernel
theorem dX3_readDigits_107 : decode cX3_readDigits 107 = .ok (.aload_n 0, 1) := by decide +kernel
theorem dX3_readDigits_108 : decode cX3_readDigits 108 = .ok (.getfield 63, 3) := by decide +kernel
theorem dX3_readDigits_111 : decode cX3_readDigits 111 = .ok (.bipush 99, 2) := by decide +kernel
theorem dX3_readDigits_113 : decode cX3_readDigits 113 = .ok (.if_icmp .le 7, 3) := by decide +kernel
theorem dX3_readDigits_116 : decode cX3_readDigits 116 = .ok (.iconst 1, 1) := by decide +kernel
theorem dX3_readDigits_117 : decode cX3_readDigits 117 = .ok (.goto 4, 3) := by decide +kernel
theorem dX3_readDigits_120 : decode cX3_readDigits 120 = .ok (.iconst 2, 1) := by decide +kernel
theorem dX3_readDigits_121 : decode cX3_readDigits 121 = .ok (.putfield 35, 3) := by decide +kernel
theorem dX3_readDigits_124 : decode cX3_readDigits 124 = .ok (.return_, 1) := by decide +kernel
def f_X3_readDigits_b121 (M5 : xMem) (t121_0 : Int32) : Option (xMem) := xlet (xsf M5 1 5 t121_0) (fun M121 => some M121)
def f_X3_readDigits_b116 (k121 : Int32 → Option (xMem)) : Option (xMem) := k121 (1 : Int32)
def f_X3_readDigits_b101 (M5 : xMem) (t101_0 : Int32) : Option (xMem) := (if t101_0 = (0 : Int32) then (if (M5 1 0 6) ≤ (99 : Int32) then (f_X3_readDigits_b121 M5) (2 : Int32) else (f_X3_readDigits_b116 (f_X3_readDigits_b121 M5))) else (f_X3_readDigits_b116 (f_X3_readDigits_b121 M5)))
def f_X3_readDigits_b100 (k101 : Int32 → Option (xMem)) : Option (xMem) := k101 (0 : Int32)
def f_X3_readDigits_b69 (M5 : xMem) : Option (xMem) := xchk (xb (M5 1 0 4) 120) ((if (M5 1 1 (M5 1 0 4).toNatClampNeg) = (48 : Int32) then (if (M5 1 0 3) ≤ ((M5 1 0 4) + (1 : Int32)) then (f_X3_readDigits_b100 (f_X3_readDigits_b101 M5)) else (f_X3_readDigits_b101 M5) (1 : Int32)) else (f_X3_readDigits_b100 (f_X3_readDigits_b101 M5))))
def f_X3_readDigits_l5 : Nat → xMem → Option (xMem)
  | 0, _ => none
  | n + 1, M5 => (if (M5 1 0 1) ≤ (M5 1 0 3) then (f_X3_readDigits_b69 M5) else xb1 (f_X3_digitAt (M5 1 0 3) M5) (fun r21 => (if r21 = (0 : Int32) then (f_X3_readDigits_b69 M5) else xchk (xb (M5 1 0 3) 120) (xlet (xsf M5 1 6 (if ((((M5 1 0 6) * (10 : Int32)) + (M5 1 1 (M5 1 0 3).toNatClampNeg)) - (48 : Int32)) < (100 : Int32) then ((((M5 1 0 6) * (10 : Int32)) + (M5 1 1 (M5 1 0 3).toNatClampNeg)) - (48 : Int32)) else (100 : Int32))) (fun M53 => xlet (xsf M53 1 3 ((M53 1 0 3) + (1 : Int32))) (fun M63 => (f_X3_readDigits_l5 n) M63))))))
def f_X3_readDigits (M : xMem) : Option (xMem) := xlet (xsf M 1 6 (0 : Int32)) (fun M2 => (f_X3_readDigits_l5 FU) M2)
set_option maxHeartbeats 4000000 in
set_option maxRecDepth 100000 in
theorem w_X3_readDigits_b121 {p : Program} {l : Launch} {e : Env} {s : State} {m : MethodId} {args : Array Value} {below : List Frame} {meth : Method} {c : Code} {G : xG} {MM : xMem} (E : xE p s m args meth c cX3_readDigits 2 none RX3 G) (M : xMem) (L : xLL) (M5 : xMem) : ∀ (t121_0 : Int32), f_X3_readDigits_b121 M5 t121_0 = some MM → ∀ (ls : Array Slot), lv_has ls 2 [] → ∀ (H : Heap) (locs : List Loc), xI G M5 L s.heap H locs → W p l e (xR 2) s m args below meth c H locs 0 0 (MQ below (xQv G MM L s.heap.size) args s 0 0 (xZ G s.heap.size)) (F0 m 121 ls [.int t121_0, .ref (xq G 1 0)]) := by
  have hx := E.1
  have hb := E.2.1
  intro t121_0 hf ls hl H locs hI
  rw [f_X3_readDigits_b121] at hf
  obtain ⟨M121, e121, hf⟩ := xlet_s hf
  refine pf_X3_35 E hI dX3_readDigits_121 e121 (fun H locs hI => ?_)
  obtain rfl := xinj1 hf
  exact x_vret E hI dX3_readDigits_124
set_option maxHeartbeats 4000000 in
set_option maxRecDepth 100000 in
theorem w_X3_readDigits_b116 {p : Program} {l : Launch} {e : Env} {s : State} {m : MethodId} {args : Array Value} {below : List Frame} {meth : Method} {c : Code} {G : xG} {MM : xMem} (E : xE p s m args meth c cX3_readDigits 2 none RX3 G) (M : xMem) (L : xLL) (M5 : xMem) (k121 : Int32 → Option (xMem)) (hk121 : ∀ (t121_0 : Int32), k121 t121_0 = some MM → ∀ (ls : Array Slot), lv_has ls 2 [] → ∀ (H : Heap) (locs : List Loc), xI G M5 L s.heap H locs → W p l e (xR 2) s m args below meth c H locs 0 0 (MQ below (xQv G MM L s.heap.size) args s 0 0 (xZ G s.heap.size)) (F0 m 121 ls [.int t121_0, .ref (xq G 1 0)])) : f_X3_readDigits_b116 k121  = some MM → ∀ (ls : Array Slot), lv_has ls 2 [] → ∀ (H : Heap) (locs : List Loc), xI G M5 L s.heap H locs → W p l e (xR 2) s m args below meth c H locs 0 0 (MQ below (xQv G MM L s.heap.size) args s 0 0 (xZ G s.heap.size)) (F0 m 116 ls [.ref (xq G 1 0)]) := by
  have hx := E.1
  have hb := E.2.1
  intro  hf ls hl H locs hI
  rw [f_X3_readDigits_b116] at hf
  refine lv_iconst (v := 1) hx hb dX3_readDigits_116 (by decide) ?_
  refine lv_goto (tgt := 121) hx hb dX3_readDigits_117 (by decide) ?_
  exact hk121 (1 : Int32) hf _ (lv_sub hl [] rfl) _ _ hI
set_option maxHeartbeats 4000000 in
set_option maxRecDepth 100000 in
theorem w_X3_readDigits_b101 {p : Program} {l : Launch} {e : Env} {s : State} {m : MethodId} {args : Array Value} {below : List Frame} {meth : Method} {c : Code} {G : xG} {MM : xMem} (E : xE p s m args meth c cX3_readDigits 2 none RX3 G) (M : xMem) (L : xLL) (M5 : xMem) : ∀ (t101_0 : Int32), f_X3_readDigits_b101 M5 t101_0 = some MM → ∀ (ls : Array Slot), lv_has ls 2 [(0, .ref (xq G 1 0))] → ∀ (H : Heap) (locs : List Loc), xI G M5 L s.heap H locs → W p l e (xR 2) s m args below meth c H locs 0 0 (MQ below (xQv G MM L s.heap.size) args s 0 0 (xZ G s.heap.size)) (F0 m 101 ls [.int t101_0]) := by
  have hx := E.1
  have hb := E.2.1
  intro t101_0 hf ls hl H locs hI
  rw [f_X3_readDigits_b101] at hf
  refine lv_istore_n (lv' := [(1, .int t101_0), (0, .ref (xq G 1 0))]) hx hb dX3_readDigits_101 rfl hl (by decide) rfl (fun ls hl => ?_)
  refine lv_aload_n hx hb dX3_readDigits_102 rfl (lv_at hl 1 rfl) ?_
  refine lv_iload_n hx hb dX3_readDigits_103 rfl (lv_at hl 0 rfl) ?_
  refine lv_if_ne (tgt := 116) hx hb dX3_readDigits_104 (by decide) (fun c104 => ?_) (fun c104 => ?_)
  · replace hf := xif_f c104 hf
    exact (w_X3_readDigits_b116 E (M := M) (L := L) (M5 := M5) (k121 := (f_X3_readDigits_b121 M5)) (hk121 := (w_X3_readDigits_b121 E (M := M) (L := L) (M5 := M5))))  hf _ (lv_sub hl [] rfl) _ _ hI
  · replace hf := xif_t c104 hf
    refine lv_aload_n hx hb dX3_readDigits_107 rfl (lv_at hl 1 rfl) ?_
    refine gf_X3_63 E hI dX3_readDigits_108 ?_
    refine lv_bipush (v := 99) hx hb dX3_readDigits_111 (by decide) ?_
    refine lv_icmp_le (tgt := 120) hx hb dX3_readDigits_113 (by decide) (fun c113 => ?_) (fun c113 => ?_)
    · replace hf := xif_t c113 hf
      refine lv_iconst (v := 2) hx hb dX3_readDigits_120 (by decide) ?_
      exact (w_X3_readDigits_b121 E (M := M) (L := L) (M5 := M5)) (2 : Int32) hf _ (lv_sub hl [] rfl) _ _ hI
    · replace hf := xif_f c113 hf
      exact (w_X3_readDigits_b116 E (M := M) (L := L) (M5 := M5) (k121 := (f_X3_readDigits_b121 M5)) (hk121 := (w_X3_readDigits_b121 E (M := M) (L := L) (M5 := M5))))  hf _ (lv_sub hl [] rfl) _ _ hI
set_option maxHeartbeats 4000000 in
set_option maxRecDepth 100000 in
theorem w_X3_readDigits_b100 {p : Program} {l : Launch} {e : Env} {s : State} {m : MethodId} {args : Array Value} {below : List Frame} {meth : Method} {c : Code} {G : xG} {MM : xMem} (E : xE p s m args meth c cX3_readDigits 2 none RX3 G) (M : xMem) (L : xLL) (M5 : xMem) (k101 : Int32 → Option (xMem)) (hk101 : ∀ (t101_0 : Int32), k101 t101_0 = some MM → ∀ (ls : Array Slot), lv_has ls 2 [(0, .ref (xq G 1 0))] → ∀ (H : Heap) (locs : List Loc), xI G M5 L s.heap H locs → W p l e (xR 2) s m args below meth c H locs 0 0 (MQ below (xQv G MM L s.heap.size) args s 0 0 (xZ G s.heap.size)) (F0 m 101 ls [.int t101_0])) : f_X3_readDigits_b100 k101  = some MM → ∀ (ls : Array Slot), lv_has ls 2 [(0, .ref (xq G 1 0))] → ∀ (H : Heap) (locs : List Loc), xI G M5 L s.heap H locs → W p l e (xR 2) s m args below meth c H locs 0 0 (MQ below (xQv G MM L s.heap.size) args s 0 0 (xZ G s.heap.size)) (F0 m 100 ls []) := by
  have hx := E.1
  have hb := E.2.1
  intro  hf ls hl H locs hI
  rw [f_X3_readDigits_b100] at hf
  refine lv_iconst (v := 0) hx hb dX3_readDigits_100 (by decide) ?_
  exact hk101 (0 : Int32) hf _ (lv_sub hl [0] rfl) _ _ hI
set_option maxHeartbeats 4000000 in
set_option maxRecDepth 100000 in
theorem w_X3_readDigits_b69 {p : Program} {l : Launch} {e : Env} {s : State} {m : MethodId} {args : Array Value} {below : List Frame} {meth : Method} {c : Code} {G : xG} {MM : xMem} (E : xE p s m args meth c cX3_readDigits 2 none RX3 G) (M : xMem) (L : xLL) (M5 : xMem) : f_X3_readDigits_b69 M5  = some MM → ∀ (ls : Array Slot), lv_has ls 2 [(0, .ref (xq G 1 0))] → ∀ (H : Heap) (locs : List Loc), xI G M5 L s.heap H locs → W p l e (xR 2) s m args below meth c H locs 0 0 (MQ below (xQv G MM L s.heap.size) args s 0 0 (xZ G s.heap.size)) (F0 m 69 ls []) := by
  have hx := E.1
  have hb := E.2.1
  intro  hf ls hl H locs hI
  rw [f_X3_readDigits_b69] at hf
  refine lv_aload_n hx hb dX3_readDigits_69 rfl (lv_at hl 0 rfl) ?_
  refine gf_X3_9 E hI dX3_readDigits_70 ?_
  refine lv_aload_n hx hb dX3_readDigits_73 rfl (lv_at hl 0 rfl) ?_
  refine gf_X3_42 E hI dX3_readDigits_74 ?_
  obtain ⟨h77b, hf⟩ := xchk_s hf
  refine x_cald (n := 120) E hI mx_1_1 (fun _ _ => rfl) h77b dX3_readDigits_77 ?_
  refine lv_bipush (v := 48) hx hb dX3_readDigits_78 (by decide) ?_
  refine lv_icmp_ne (tgt := 100) hx hb dX3_readDigits_80 (by decide) (fun c80 => ?_) (fun c80 => ?_)
  · replace hf := xif_f c80 hf
    exact (w_X3_readDigits_b100 E (M := M) (L := L) (M5 := M5) (k101 := (f_X3_readDigits_b101 M5)) (hk101 := (w_X3_readDigits_b101 E (M := M) (L := L) (M5 := M5))))  hf _ (lv_sub hl [0] rfl) _ _ hI
  · replace hf := xif_t c80 hf
    refine lv_aload_n hx hb dX3_readDigits_83 rfl (lv_at hl 0 rfl) ?_
    refine gf_X3_29 E hI dX3_readDigits_84 ?_
    refine lv_aload_n hx hb dX3_readDigits_87 rfl (lv_at hl 0 rfl) ?_
    refine gf_X3_42 E hI dX3_readDigits_88 ?_
    refine lv_iconst (v := 1) hx hb dX3_readDigits_91 (by decide) ?_
    refine lv_iadd hx hb dX3_readDigits_92 ?_
    refine lv_icmp_le (tgt := 100) hx hb dX3_readDigits_93 (by decide) (fun c93 => ?_) (fun c93 => ?_)
    · replace hf := xif_t c93 hf
      exact (w_X3_readDigits_b100 E (M := M) (L := L) (M5 := M5) (k101 := (f_X3_readDigits_b101 M5)) (hk101 := (w_X3_readDigits_b101 E (M := M) (L := L) (M5 := M5))))  hf _ (lv_sub hl [0] rfl) _ _ hI
    · replace hf := xif_f c93 hf
      refine lv_iconst (v := 1) hx hb dX3_readDigits_96 (by decide) ?_
      refine lv_goto (tgt := 101) hx hb dX3_readDigits_97 (by decide) ?_
      exact (w_X3_readDigits_b101 E (M := M) (L := L) (M5 := M5)) (1 : Int32) hf _ (lv_sub hl [0] rfl) _ _ hI
set_option maxHeartbeats 4000000 in
set_option maxRecDepth 100000 in
theorem w_X3_readDigits_l5 {p : Program} {l : Launch} {e : Env} {s : State} {m : MethodId} {args : Array Value} {below : List Frame} {meth : Method} {c : Code} {G : xG} {MM : xMem} (E : xE p s m args meth c cX3_readDigits 2 none RX3 G) (M : xMem) (L : xLL) : ∀ (n : Nat), ∀ (M5 : xMem), f_X3_readDigits_l5  n M5 = some MM → ∀ (ls : Array Slot), lv_has ls 2 [(0, .ref (xq G 1 0))] → ∀ (H : Heap) (locs : List Loc), xI G M5 L s.heap H locs → W p l e (xR 2) s m args below meth c H locs 0 0 (MQ below (xQv G MM L s.heap.size) args s 0 0 (xZ G s.heap.size)) (F0 m 5 ls []) := by
  have hx := E.1
  have hb := E.2.1
  intro n
  induction n with
  | zero =>
    intro M5 hf
    exact absurd hf (by simp [f_X3_readDigits_l5])
  | succ n ih =>
    intro M5 hf ls hl H locs hI
    rw [f_X3_readDigits_l5] at hf
    refine lv_aload_n hx hb dX3_readDigits_5 rfl (lv_at hl 0 rfl) ?_
    refine gf_X3_29 E hI dX3_readDigits_6 ?_
    refine lv_aload_n hx hb dX3_readDigits_9 rfl (lv_at hl 0 rfl) ?_
    refine gf_X3_82 E hI dX3_readDigits_10 ?_
    refine lv_icmp_ge (tgt := 69) hx hb dX3_readDigits_13 (by decide) (fun c13 => ?_) (fun c13 => ?_)
    · replace hf := xif_t c13 hf
      exact (w_X3_readDigits_b69 E (M := M) (L := L) (M5 := M5))  hf _ (lv_sub hl [0] rfl) _ _ hI
    · replace hf := xif_f c13 hf
      refine lv_aload_n hx hb dX3_readDigits_16 rfl (lv_at hl 0 rfl) ?_
      refine lv_aload_n hx hb dX3_readDigits_17 rfl (lv_at hl 0 rfl) ?_
      refine gf_X3_29 E hI dX3_readDigits_18 ?_
      obtain ⟨r21, g21, hf⟩ := xb1_s hf
      refine x_callVi (As := [.int (M5 1 0 3)]) (rest := []) E hI mx_1_0 rfl rfl rfl (c_X3_digitAt l G _ (M := M5) (L := L) (a1 := (M5 1 0 3)) g21) yv_X3_digitAt ml_X3_85 (by decide) (by decide) rfl rfl hl.1 (Nat.le_of_ble_eq_true rfl) dX3_readDigits_21 (fun H locs hI => ?_)
      refine lv_if_eq (tgt := 69) hx hb dX3_readDigits_24 (by decide) (fun c24 => ?_) (fun c24 => ?_)
      · replace hf := xif_t c24 hf
        exact (w_X3_readDigits_b69 E (M := M) (L := L) (M5 := M5))  hf _ (lv_sub hl [0] rfl) _ _ hI
      · replace hf := xif_f c24 hf
        refine lv_aload_n hx hb dX3_readDigits_27 rfl (lv_at hl 0 rfl) ?_
        refine lv_bipush (v := 100) hx hb dX3_readDigits_28 (by decide) ?_
        refine lv_aload_n hx hb dX3_readDigits_30 rfl (lv_at hl 0 rfl) ?_
        refine gf_X3_63 E hI dX3_readDigits_31 ?_
        refine lv_bipush (v := 10) hx hb dX3_readDigits_34 (by decide) ?_
        refine lv_imul hx hb dX3_readDigits_36 ?_
        refine lv_aload_n hx hb dX3_readDigits_37 rfl (lv_at hl 0 rfl) ?_
        refine gf_X3_9 E hI dX3_readDigits_38 ?_
        refine lv_aload_n hx hb dX3_readDigits_41 rfl (lv_at hl 0 rfl) ?_
        refine gf_X3_29 E hI dX3_readDigits_42 ?_
        obtain ⟨h45b, hf⟩ := xchk_s hf
        refine x_cald (n := 120) E hI mx_1_1 (fun _ _ => rfl) h45b dX3_readDigits_45 ?_
        refine lv_iadd hx hb dX3_readDigits_46 ?_
        refine lv_bipush (v := 48) hx hb dX3_readDigits_47 (by decide) ?_
        refine lv_isub hx hb dX3_readDigits_49 ?_
        refine x_min E ml_X3_91 ms_min mi_math mc_min (by decide) hl.1 (Nat.le_of_ble_eq_true rfl) dX3_readDigits_50 ?_
        obtain ⟨M53, e53, hf⟩ := xlet_s hf
        refine pf_X3_63 E hI dX3_readDigits_53 e53 (fun H locs hI => ?_)
        refine lv_aload_n hx hb dX3_readDigits_56 rfl (lv_at hl 0 rfl) ?_
        refine lv_dup hx hb dX3_readDigits_57 rfl ?_
        refine gf_X3_29 E hI dX3_readDigits_58 ?_
        refine lv_iconst (v := 1) hx hb dX3_readDigits_61 (by decide) ?_
        refine lv_iadd hx hb dX3_readDigits_62 ?_
        obtain ⟨M63, e63, hf⟩ := xlet_s hf
        refine pf_X3_29 E hI dX3_readDigits_63 e63 (fun H locs hI => ?_)
        refine lv_goto (tgt := 5) hx hb dX3_readDigits_66 (by decide) ?_
        exact ih M63 hf _ (lv_sub hl [0] rfl) _ _ hI
set_option maxHeartbeats 4000000 in
set_option maxRecDepth 100000 in
theorem c_X3_readDigits (l : Launch) (G : xG) (sz : Nat) (M : xMem) (L : xLL) {MM : xMem} (hf : f_X3_readDigits M = some MM) : Met l yX3_readDigits (Cond.code yX3_readDigits cX3_readDigits 2 none :: xTB) (xR 2) (xP G M L sz [.ref (xq G 1 0)]) (xQv G MM L sz) 0 0 (xZ G sz) := by
  refine x_met (cc := cX3_readDigits) (nL := 2) (rt := none) (by decide) (Nat.le_of_ble_eq_true rfl) ?_
  intro p e s m below meth c ls hsz E hl hI
  subst hsz
  have E : xE p s m _ meth c cX3_readDigits 2 none RX3 G := E
  have hx := E.1
  have hb := E.2.1
  have hl : lv_has ls 2 [(0, .ref (xq G 1 0))] := hl
  rw [f_X3_readDigits] at hf
  refine lv_aload_n hx hb dX3_readDigits_0 rfl (lv_at hl 0 rfl) ?_
  refine lv_iconst (v := 0) hx hb dX3_readDigits_1 (by decide) ?_
  obtain ⟨M2, e2, hf⟩ := xlet_s hf
  refine pf_X3_63 E hI dX3_readDigits_2 e2 (fun H locs hI => ?_)
  exact (w_X3_readDigits_l5 E (M := M) (L := L) FU) M2 hf _ (lv_sub hl [0] rfl) _ _ hI
theorem dX3_readToken_0 : decode cX3_readToken 0 = .ok (.aload_n 0, 1) := by decide +kernel
theorem dX3_readToken_1 : decode cX3_readToken 1 = .ok (.getfield 29, 3) := by decide +kernel
theorem dX3_readToken_4 : decode cX3_readToken 4 = .ok (.aload_n 0, 1) := by decide +kernel
theorem dX3_readToken_5 : decode cX3_readToken 5 = .ok (.getfield 82, 3) := by decide +kernel
theorem dX3_readToken_8 : decode cX3_readToken 8 = .ok (.if_icmp .ge 30, 3) := by decide +kernel
theorem dX3_readToken_11 : decode cX3_readToken 11 = .ok (.aload_n 0, 1) := by decide +kernel
theorem dX3_readToken_12 : decode cX3_readToken 12 = .ok (.getfield 9, 3) := by decide +kernel
theorem dX3_readToken_15 : decode cX3_readToken 15 = .ok (.aload_n 0, 1) := by decide +kernel
theorem dX3_readToken_16 : decode cX3_readToken 16 = .ok (.getfield 29, 3) := by decide +kernel
theorem dX3_readToken_19 : decode cX3_readToken 19 = .ok (.caload, 1) := by decide +kernel
theorem dX3_readToken_20 : decode cX3_readToken 20 = .ok (.bipush 32, 2) := by decide +kernel
theorem dX3_readToken_22 : decode cX3_readToken 22 = .ok (.if_icmp .ne 16, 3) := by decide +kernel
theorem dX3_readToken_25 : decode cX3_readToken 25 = .ok (.aload_n 0, 1) := by decide +kernel
theorem dX3_readToken_26 : decode cX3_readToken 26 = .ok (.dup, 1) := by decide +kernel
theorem dX3_readToken_27 : decode cX3_readToken 27 = .ok (.getfield 29, 3) := by decide +kernel
theorem dX3_readToken_30 : decode cX3_readToken 30 = .ok (.iconst 1, 1) := by decide +kernel
theorem dX3_readToken_31 : decode cX3_readToken 31 = .ok (.iadd, 1) := by decide +kernel
theorem dX3_readToken_32 : decode cX3_readToken 32 = .ok (.putfield 29, 3) := by decide +kernel
theorem dX3_readToken_35 : decode cX3_readToken 35 = .ok (.goto (-35), 3) := by decide +kernel
theorem dX3_readToken_38 : decode cX3_readToken 38 = .ok (.aload_n 0, 1) := by decide +kernel
theorem dX3_readToken_39 : decode cX3_readToken 39 = .ok (.aload_n 0, 1) := by decide +kernel
theorem dX3_readToken_40 : decode cX3_readToken 40 = .ok (.getfield 29, 3) := by decide +kernel
theorem dX3_readToken_43 : decode cX3_readToken 43 = .ok (.putfield 42, 3) := by decide +kernel
theorem dX3_readToken_46 : decode cX3_readToken 46 = .ok (.aload_n 0, 1) := by decide +kernel
theorem dX3_readToken_47 : decode cX3_readToken 47 = .ok (.getfield 29, 3) := by decide +kernel
theorem dX3_readToken_50 : decode cX3_readToken 50 = .ok (.aload_n 0, 1) := by decide +kernel
theorem dX3_readToken_51 : decode cX3_readToken 51 = .ok (.getfield 82, 3) := by decide +kernel
theorem dX3_readToken_54 : decode cX3_readToken 54 = .ok (.if_icmp .lt 11, 3) := by decide +kernel
theorem dX3_readToken_57 : decode cX3_readToken 57 = .ok (.aload_n 0, 1) := by decide +kernel
theorem dX3_readToken_58 : decode cX3_readToken 58 = .ok (.iconst 0, 1) := by decide +kernel
theorem dX3_readToken_59 : decode cX3_readToken 59 = .ok (.putfield 35, 3) := by decide +kernel
theorem dX3_readToken_62 : decode cX3_readToken 62 = .ok (.goto 68, 3) := by decide +kernel
theorem dX3_readToken_65 : decode cX3_readToken 65 = .ok (.aload_n 0, 1) := by decide +kernel
theorem dX3_readToken_66 : decode cX3_readToken 66 = .ok (.aload_n 0, 1) := by decide +kernel
theorem dX3_readToken_67 : decode cX3_readToken 67 = .ok (.getfield 29, 3) := by decide +kernel
theorem dX3_readToken_70 : decode cX3_readToken 70 = .ok (.invokevirtual 85, 3) := by decide +kernel
theorem dX3_readToken_73 : decode cX3_readToken 73 = .ok (.ifCond .eq 10, 3) := by decide +kernel
theorem dX3_readToken_76 : decode cX3_readToken 76 = .ok (.aload_n 0, 1) := by decide +kernel
theorem dX3_readToken_77 : decode cX3_readToken 77 = .ok (.invokevirtual 88, 3) := by decide +kernel
theorem dX3_readToken_80 : decode cX3_readToken 80 = .ok (.goto 50, 3) := by decide +kernel
theorem dX3_readToken_83 : decode cX3_readToken 83 = .ok (.aload_n 0, 1) := by decide +kernel
theorem dX3_readToken_84 : decode cX3_readToken 84 = .ok (.getfield 9, 3) := by decide +kernel
theorem dX3_readToken_87 : decode cX3_readToken 87 = .ok (.aload_n 0, 1) := by decide +kernel
theorem dX3_readToken_88 : decode cX3_readToken 88 = .ok (.getfield 29, 3) := by decide +kernel
theorem dX3_readToken_91 : decode cX3_readToken 91 = .ok (.caload, 1) := by decide +kernel
theorem dX3_readToken_92 : decode cX3_readToken 92 = .ok (.istore_n 1, 1) := by decide +kernel
theorem dX3_readToken_93 : decode cX3_readToken 93 = .ok (.aload_n 0, 1) := by decide +kernel
theorem dX3_readToken_94 : decode cX3_readToken 94 = .ok (.iload_n 1, 1) := by decide +kernel
theorem dX3_readToken_95 : decode cX3_readToken 95 = .ok (.bipush 115, 2) := by decide +kernel
theorem dX3_readToken_97 : decode cX3_readToken 97 = .ok (.if_icmp .eq 15, 3) := by decide +kernel
theorem dX3_readToken_100 : decode cX3_readToken 100 = .ok (.iload_n 1, 1) := by decide +kernel
theorem dX3_readToken_101 : decode cX3_readToken 101 = .ok (.bipush 101, 2) := by decide +kernel
theorem dX3_readToken_103 : decode cX3_readToken 103 = .ok (.if_icmp .eq 9, 3) := by decide +kernel
theorem dX3_readToken_106 : decode cX3_readToken 106 = .ok (.iload_n 1, 1) := by decide +kernel
theorem dX3_readToken_107 : decode cX3_readToken 107 = .ok (.bipush 59, 2) := by decide +kernel
theorem dX3_readToken_109 : decode cX3_readToken 109 = .ok (.if_icmp .ne 7, 3) := by decide +kernel
theorem dX3_readToken_112 : decode cX3_readToken 112 = .ok (.iload_n 1, 1) := by decide +kernel
theorem dX3_readToken_113 : decode cX3_readToken 113 = .ok (.goto 4, 3) := by decide +kernel
theorem dX3_readToken_116 : decode cX3_readToken 116 = .ok (.iconst 1, 1) := by decide +kernel
theorem dX3_readToken_117 : decode cX3_readToken 117 = .ok (.putfield 35, 3) := by decide +kernel
theorem dX3_readToken_120 : decode cX3_readToken 120 = .ok (.aload_n 0, 1) := by decide +kernel
theorem dX3_readToken_121 : decode cX3_readToken 121 = .ok (.dup, 1) := by decide +kernel
theorem dX3_readToken_122 : decode cX3_readToken 122 = .ok (.getfield 29, 3) := by decide +kernel
theorem dX3_readToken_125 : decode cX3_readToken 125 = .ok (.iconst 1, 1) := by decide +kernel
theorem dX3_readToken_126 : decode cX3_readToken 126 = .ok (.iadd, 1) := by decide +kernel
theorem dX3_readToken_127 : decode cX3_readToken 127 = .ok (.putfield 29, 3) := by decide +kernel
theorem dX3_readToken_130 : decode cX3_readToken 130 = .ok (.return_, 1) := by decide +kernel
def f_X3_readToken_b130 (M130 : xMem) : Option (xMem) := some M130
def f_X3_readToken_b117 (M43 : xMem) (k130 : xMem → Option (xMem)) (t117_0 : Int32) : Option (xMem) := xlet (xsf M43 1 5 t117_0) (fun M117 => xlet (xsf M117 1 3 ((M117 1 0 3) + (1 : Int32))) (fun M127 => k130 M127))
def f_X3_readToken_b112 (M43 : xMem) (k117 : Int32 → Option (xMem)) : Option (xMem) := k117 (M43 1 1 (M43 1 0 3).toNatClampNeg)
def f_X3_readToken_b38 (M0 : xMem) : Option (xMem) := xlet (xsf M0 1 4 (M0 1 0 3)) (fun M43 => (if (M43 1 0 3) < (M43 1 0 1) then xb1 (f_X3_digitAt (M43 1 0 3) M43) (fun r70 => (if r70 = (0 : Int32) then xchk (xb (M43 1 0 3) 120) ((if (M43 1 1 (M43 1 0 3).toNatClampNeg) = (115 : Int32) then (f_X3_readToken_b112 M43 (f_X3_readToken_b117 M43 (f_X3_readToken_b130))) else (if (M43 1 1 (M43 1 0 3).toNatClampNeg) = (101 : Int32) then (f_X3_readToken_b112 M43 (f_X3_readToken_b117 M43 (f_X3_readToken_b130))) else (if (M43 1 1 (M43 1 0 3).toNatClampNeg) = (59 : Int32) then (f_X3_readToken_b112 M43 (f_X3_readToken_b117 M43 (f_X3_readToken_b130))) else (f_X3_readToken_b117 M43 (f_X3_readToken_b130)) (1 : Int32))))) else xb1 (f_X3_readDigits M43) (fun M77 => (f_X3_readToken_b130) M77))) else xlet (xsf M43 1 5 (0 : Int32)) (fun M59 => (f_X3_readToken_b130) M59)))
def f_X3_readToken_l0 : Nat → xMem → Option (xMem)
  | 0, _ => none
  | n + 1, M0 => (if (M0 1 0 1) ≤ (M0 1 0 3) then (f_X3_readToken_b38 M0) else xchk (xb (M0 1 0 3) 120) ((if (M0 1 1 (M0 1 0 3).toNatClampNeg) = (32 : Int32) then xlet (xsf M0 1 3 ((M0 1 0 3) + (1 : Int32))) (fun M32 => (f_X3_readToken_l0 n) M32) else (f_X3_readToken_b38 M0))))
def f_X3_readToken (M : xMem) : Option (xMem) := (f_X3_readToken_l0 FU) M
set_option maxHeartbeats 4000000 in
set_option maxRecDepth 100000 in
theorem w_X3_readToken_b130 {p : Program} {l : Launch} {e : Env} {s : State} {m : MethodId} {args : Array Value} {below : List Frame} {meth : Method} {c : Code} {G : xG} {MM : xMem} (E : xE p s m args meth c cX3_readToken 2 none RX3 G) (M : xMem) (L : xLL) : ∀ (M130 : xMem), f_X3_readToken_b130 M130 = some MM → ∀ (ls : Array Slot), lv_has ls 2 [] → ∀ (H : Heap) (locs : List Loc), xI G M130 L s.heap H locs → W p l e (xR 3) s m args below meth c H locs 0 0 (MQ below (xQv G MM L s.heap.size) args s 0 0 (xZ G s.heap.size)) (F0 m 130 ls []) := by
  have hx := E.1
  have hb := E.2.1
  intro M130 hf ls hl H locs hI
  rw [f_X3_readToken_b130] at hf
  obtain rfl := xinj1 hf
  exact x_vret E hI dX3_readToken_130
set_option maxHeartbeats 4000000 in
set_option maxRecDepth 100000 in
theorem w_X3_readToken_b117 {p : Program} {l : Launch} {e : Env} {s : State} {m : MethodId} {args : Array Value} {below : List Frame} {meth : Method} {c : Code} {G : xG} {MM : xMem} (E : xE p s m args meth c cX3_readToken 2 none RX3 G) (M : xMem) (L : xLL) (M43 : xMem) (k130 : xMem → Option (xMem)) (hk130 : ∀ (M130 : xMem), k130 M130 = some MM → ∀ (ls : Array Slot), lv_has ls 2 [] → ∀ (H : Heap) (locs : List Loc), xI G M130 L s.heap H locs → W p l e (xR 3) s m args below meth c H locs 0 0 (MQ below (xQv G MM L s.heap.size) args s 0 0 (xZ G s.heap.size)) (F0 m 130 ls [])) : ∀ (t117_0 : Int32), f_X3_readToken_b117 M43 k130 t117_0 = some MM → ∀ (ls : Array Slot), lv_has ls 2 [(0, .ref (xq G 1 0))] → ∀ (H : Heap) (locs : List Loc), xI G M43 L s.heap H locs → W p l e (xR 3) s m args below meth c H locs 0 0 (MQ below (xQv G MM L s.heap.size) args s 0 0 (xZ G s.heap.size)) (F0 m 117 ls [.int t117_0, .ref (xq G 1 0)]) := by
  have hx := E.1
  have hb := E.2.1
  intro t117_0 hf ls hl H locs hI
  rw [f_X3_readToken_b117] at hf
  obtain ⟨M117, e117, hf⟩ := xlet_s hf
  refine pf_X3_35 E hI dX3_readToken_117 e117 (fun H locs hI => ?_)
  refine lv_aload_n hx hb dX3_readToken_120 rfl (lv_at hl 0 rfl) ?_
  refine lv_dup hx hb dX3_readToken_121 rfl ?_
  refine gf_X3_29 E hI dX3_readToken_122 ?_
  refine lv_iconst (v := 1) hx hb dX3_readToken_125 (by decide) ?_
  refine lv_iadd hx hb dX3_readToken_126 ?_
  obtain ⟨M127, e127, hf⟩ := xlet_s hf
  refine pf_X3_29 E hI dX3_readToken_127 e127 (fun H locs hI => ?_)
  exact hk130 M127 hf _ (lv_sub hl [] rfl) _ _ hI
set_option maxHeartbeats 4000000 in
set_option maxRecDepth 100000 in
theorem w_X3_readToken_b112 {p : Program} {l : Launch} {e : Env} {s : State} {m : MethodId} {args : Array Value} {below : List Frame} {meth : Method} {c : Code} {G : xG} {MM : xMem} (E : xE p s m args meth c cX3_readToken 2 none RX3 G) (M : xMem) (L : xLL) (M43 : xMem) (k117 : Int32 → Option (xMem)) (hk117 : ∀ (t117_0 : Int32), k117 t117_0 = some MM → ∀ (ls : Array Slot), lv_has ls 2 [(0, .ref (xq G 1 0))] → ∀ (H : Heap) (locs : List Loc), xI G M43 L s.heap H locs → W p l e (xR 3) s m args below meth c H locs 0 0 (MQ below (xQv G MM L s.heap.size) args s 0 0 (xZ G s.heap.size)) (F0 m 117 ls [.int t117_0, .ref (xq G 1 0)])) : f_X3_readToken_b112 M43 k117  = some MM → ∀ (ls : Array Slot), lv_has ls 2 [(0, .ref (xq G 1 0)), (1, .int (M43 1 1 (M43 1 0 3).toNatClampNeg))] → ∀ (H : Heap) (locs : List Loc), xI G M43 L s.heap H locs → W p l e (xR 3) s m args below meth c H locs 0 0 (MQ below (xQv G MM L s.heap.size) args s 0 0 (xZ G s.heap.size)) (F0 m 112 ls [.ref (xq G 1 0)]) := by
  have hx := E.1
  have hb := E.2.1
  intro  hf ls hl H locs hI
  rw [f_X3_readToken_b112] at hf
  refine lv_iload_n hx hb dX3_readToken_112 rfl (lv_at hl 1 rfl) ?_
  refine lv_goto (tgt := 117) hx hb dX3_readToken_113 (by decide) ?_
  exact hk117 (M43 1 1 (M43 1 0 3).toNatClampNeg) hf _ (lv_sub hl [0] rfl) _ _ hI
set_option maxHeartbeats 4000000 in
set_option maxRecDepth 100000 in
theorem w_X3_readToken_b38 {p : Program} {l : Launch} {e : Env} {s : State} {m : MethodId} {args : Array Value} {below : List Frame} {meth : Method} {c : Code} {G : xG} {MM : xMem} (E : xE p s m args meth c cX3_readToken 2 none RX3 G) (M : xMem) (L : xLL) (M0 : xMem) : f_X3_readToken_b38 M0  = some MM → ∀ (ls : Array Slot), lv_has ls 2 [(0, .ref (xq G 1 0))] → ∀ (H : Heap) (locs : List Loc), xI G M0 L s.heap H locs → W p l e (xR 3) s m args below meth c H locs 0 0 (MQ below (xQv G MM L s.heap.size) args s 0 0 (xZ G s.heap.size)) (F0 m 38 ls []) := by
  have hx := E.1
  have hb := E.2.1
  intro  hf ls hl H locs hI
  rw [f_X3_readToken_b38] at hf
  refine lv_aload_n hx hb dX3_readToken_38 rfl (lv_at hl 0 rfl) ?_
  refine lv_aload_n hx hb dX3_readToken_39 rfl (lv_at hl 0 rfl) ?_
  refine gf_X3_29 E hI dX3_readToken_40 ?_
  obtain ⟨M43, e43, hf⟩ := xlet_s hf
  refine pf_X3_42 E hI dX3_readToken_43 e43 (fun H locs hI => ?_)
  refine lv_aload_n hx hb dX3_readToken_46 rfl (lv_at hl 0 rfl) ?_
  refine gf_X3_29 E hI dX3_readToken_47 ?_
  refine lv_aload_n hx hb dX3_readToken_50 rfl (lv_at hl 0 rfl) ?_
  refine gf_X3_82 E hI dX3_readToken_51 ?_
  refine lv_icmp_lt (tgt := 65) hx hb dX3_readToken_54 (by decide) (fun c54 => ?_) (fun c54 => ?_)
  · replace hf := xif_t c54 hf
    refine lv_aload_n hx hb dX3_readToken_65 rfl (lv_at hl 0 rfl) ?_
    refine lv_aload_n hx hb dX3_readToken_66 rfl (lv_at hl 0 rfl) ?_
    refine gf_X3_29 E hI dX3_readToken_67 ?_
    obtain ⟨r70, g70, hf⟩ := xb1_s hf
    refine x_callVi (As := [.int (M43 1 0 3)]) (rest := []) E hI mx_1_0 rfl rfl rfl (c_X3_digitAt l G _ (M := M43) (L := L) (a1 := (M43 1 0 3)) g70) yv_X3_digitAt ml_X3_85 (by decide) (by decide) rfl rfl hl.1 (Nat.le_of_ble_eq_true rfl) dX3_readToken_70 (fun H locs hI => ?_)
    refine lv_if_eq (tgt := 83) hx hb dX3_readToken_73 (by decide) (fun c73 => ?_) (fun c73 => ?_)
    · replace hf := xif_t c73 hf
      refine lv_aload_n hx hb dX3_readToken_83 rfl (lv_at hl 0 rfl) ?_
      refine gf_X3_9 E hI dX3_readToken_84 ?_
      refine lv_aload_n hx hb dX3_readToken_87 rfl (lv_at hl 0 rfl) ?_
      refine gf_X3_29 E hI dX3_readToken_88 ?_
      obtain ⟨h91b, hf⟩ := xchk_s hf
      refine x_cald (n := 120) E hI mx_1_1 (fun _ _ => rfl) h91b dX3_readToken_91 ?_
      refine lv_istore_n (lv' := [(1, .int (M43 1 1 (M43 1 0 3).toNatClampNeg)), (0, .ref (xq G 1 0))]) hx hb dX3_readToken_92 rfl hl (by decide) rfl (fun ls hl => ?_)
      refine lv_aload_n hx hb dX3_readToken_93 rfl (lv_at hl 1 rfl) ?_
      refine lv_iload_n hx hb dX3_readToken_94 rfl (lv_at hl 0 rfl) ?_
      refine lv_bipush (v := 115) hx hb dX3_readToken_95 (by decide) ?_
      refine lv_icmp_eq (tgt := 112) hx hb dX3_readToken_97 (by decide) (fun c97 => ?_) (fun c97 => ?_)
      · replace hf := xif_t c97 hf
        exact (w_X3_readToken_b112 E (M := M) (L := L) (M43 := M43) (k117 := (f_X3_readToken_b117 M43 (f_X3_readToken_b130))) (hk117 := (w_X3_readToken_b117 E (M := M) (L := L) (M43 := M43) (k130 := (f_X3_readToken_b130)) (hk130 := (w_X3_readToken_b130 E (M := M) (L := L))))))  hf _ (lv_sub hl [1, 0] rfl) _ _ hI
      · replace hf := xif_f c97 hf
        refine lv_iload_n hx hb dX3_readToken_100 rfl (lv_at hl 0 rfl) ?_
        refine lv_bipush (v := 101) hx hb dX3_readToken_101 (by decide) ?_
        refine lv_icmp_eq (tgt := 112) hx hb dX3_readToken_103 (by decide) (fun c103 => ?_) (fun c103 => ?_)
        · replace hf := xif_t c103 hf
          exact (w_X3_readToken_b112 E (M := M) (L := L) (M43 := M43) (k117 := (f_X3_readToken_b117 M43 (f_X3_readToken_b130))) (hk117 := (w_X3_readToken_b117 E (M := M) (L := L) (M43 := M43) (k130 := (f_X3_readToken_b130)) (hk130 := (w_X3_readToken_b130 E (M := M) (L := L))))))  hf _ (lv_sub hl [1, 0] rfl) _ _ hI
        · replace hf := xif_f c103 hf
          refine lv_iload_n hx hb dX3_readToken_106 rfl (lv_at hl 0 rfl) ?_
          refine lv_bipush (v := 59) hx hb dX3_readToken_107 (by decide) ?_
          refine lv_icmp_ne (tgt := 116) hx hb dX3_readToken_109 (by decide) (fun c109 => ?_) (fun c109 => ?_)
          · replace hf := xif_f c109 hf
            refine lv_iconst (v := 1) hx hb dX3_readToken_116 (by decide) ?_
            exact (w_X3_readToken_b117 E (M := M) (L := L) (M43 := M43) (k130 := (f_X3_readToken_b130)) (hk130 := (w_X3_readToken_b130 E (M := M) (L := L)))) (1 : Int32) hf _ (lv_sub hl [1] rfl) _ _ hI
          · replace hf := xif_t c109 hf
            exact (w_X3_readToken_b112 E (M := M) (L := L) (M43 := M43) (k117 := (f_X3_readToken_b117 M43 (f_X3_readToken_b130))) (hk117 := (w_X3_readToken_b117 E (M := M) (L := L) (M43 := M43) (k130 := (f_X3_readToken_b130)) (hk130 := (w_X3_readToken_b130 E (M := M) (L := L))))))  hf _ (lv_sub hl [1, 0] rfl) _ _ hI
    · replace hf := xif_f c73 hf
      refine lv_aload_n hx hb dX3_readToken_76 rfl (lv_at hl 0 rfl) ?_
      obtain ⟨M77, g77, hf⟩ := xb1_s hf
      refine x_callVv (As := []) (rest := []) E hI mx_1_0 rfl rfl rfl (c_X3_readDigits l G _ (M := M43) (L := L) g77) yv_X3_readDigits ml_X3_88 (by decide) (by decide) rfl rfl hl.1 (Nat.le_of_ble_eq_true rfl) dX3_readToken_77 (fun H locs hI => ?_)
      refine lv_goto (tgt := 130) hx hb dX3_readToken_80 (by decide) ?_
      exact (w_X3_readToken_b130 E (M := M) (L := L)) M77 hf _ (lv_sub hl [] rfl) _ _ hI
  · replace hf := xif_f c54 hf
    refine lv_aload_n hx hb dX3_readToken_57 rfl (lv_at hl 0 rfl) ?_
    refine lv_iconst (v := 0) hx hb dX3_readToken_58 (by decide) ?_
    obtain ⟨M59, e59, hf⟩ := xlet_s hf
    refine pf_X3_35 E hI dX3_readToken_59 e59 (fun H locs hI => ?_)
    refine lv_goto (tgt := 130) hx hb dX3_readToken_62 (by decide) ?_
    exact (w_X3_readToken_b130 E (M := M) (L := L)) M59 hf _ (lv_sub hl [] rfl) _ _ hI
set_option maxHeartbeats 4000000 in
set_option maxRecDepth 100000 in
theorem w_X3_readToken_l0 {p : Program} {l : Launch} {e : Env} {s : State} {m : MethodId} {args : Array Value} {below : List Frame} {meth : Method} {c : Code} {G : xG} {MM : xMem} (E : xE p s m args meth c cX3_readToken 2 none RX3 G) (M : xMem) (L : xLL) : ∀ (n : Nat), ∀ (M0 : xMem), f_X3_readToken_l0  n M0 = some MM → ∀ (ls : Array Slot), lv_has ls 2 [(0, .ref (xq G 1 0))] → ∀ (H : Heap) (locs : List Loc), xI G M0 L s.heap H locs → W p l e (xR 3) s m args below meth c H locs 0 0 (MQ below (xQv G MM L s.heap.size) args s 0 0 (xZ G s.heap.size)) (F0 m 0 ls []) := by
  have hx := E.1
  have hb := E.2.1
  intro n
  induction n with
  | zero =>
    intro M0 hf
    exact absurd hf (by simp [f_X3_readToken_l0])
  | succ n ih =>
    intro M0 hf ls hl H locs hI
    rw [f_X3_readToken_l0] at hf
    refine lv_aload_n hx hb dX3_readToken_0 rfl (lv_at hl 0 rfl) ?_
    refine gf_X3_29 E hI dX3_readToken_1 ?_
    refine lv_aload_n hx hb dX3_readToken_4 rfl (lv_at hl 0 rfl) ?_
    refine gf_X3_82 E hI dX3_readToken_5 ?_
    refine lv_icmp_ge (tgt := 38) hx hb dX3_readToken_8 (by decide) (fun c8 => ?_) (fun c8 => ?_)
    · replace hf := xif_t c8 hf
      exact (w_X3_readToken_b38 E (M := M) (L := L) (M0 := M0))  hf _ (lv_sub hl [0] rfl) _ _ hI
    · replace hf := xif_f c8 hf
      refine lv_aload_n hx hb dX3_readToken_11 rfl (lv_at hl 0 rfl) ?_
      refine gf_X3_9 E hI dX3_readToken_12 ?_
      refine lv_aload_n hx hb dX3_readToken_15 rfl (lv_at hl 0 rfl) ?_
      refine gf_X3_29 E hI dX3_readToken_16 ?_
      obtain ⟨h19b, hf⟩ := xchk_s hf
      refine x_cald (n := 120) E hI mx_1_1 (fun _ _ => rfl) h19b dX3_readToken_19 ?_
      refine lv_bipush (v := 32) hx hb dX3_readToken_20 (by decide) ?_
      refine lv_icmp_ne (tgt := 38) hx hb dX3_readToken_22 (by decide) (fun c22 => ?_) (fun c22 => ?_)
      · replace hf := xif_f c22 hf
        exact (w_X3_readToken_b38 E (M := M) (L := L) (M0 := M0))  hf _ (lv_sub hl [0] rfl) _ _ hI
      · replace hf := xif_t c22 hf
        refine lv_aload_n hx hb dX3_readToken_25 rfl (lv_at hl 0 rfl) ?_
        refine lv_dup hx hb dX3_readToken_26 rfl ?_
        refine gf_X3_29 E hI dX3_readToken_27 ?_
        refine lv_iconst (v := 1) hx hb dX3_readToken_30 (by decide) ?_
        refine lv_iadd hx hb dX3_readToken_31 ?_
        obtain ⟨M32, e32, hf⟩ := xlet_s hf
        refine pf_X3_29 E hI dX3_readToken_32 e32 (fun H locs hI => ?_)
        refine lv_goto (tgt := 0) hx hb dX3_readToken_35 (by decide) ?_
        exact ih M32 hf _ (lv_sub hl [0] rfl) _ _ hI
set_option maxHeartbeats 4000000 in
set_option maxRecDepth 100000 in
theorem c_X3_readToken (l : Launch) (G : xG) (sz : Nat) (M : xMem) (L : xLL) {MM : xMem} (hf : f_X3_readToken M = some MM) : Met l yX3_readToken (Cond.code yX3_readToken cX3_readToken 2 none :: xTB) (xR 3) (xP G M L sz [.ref (xq G 1 0)]) (xQv G MM L sz) 0 0 (xZ G sz) := by
  refine x_met (cc := cX3_readToken) (nL := 2) (rt := none) (by decide) (Nat.le_of_ble_eq_true rfl) ?_
  intro p e s m below meth c ls hsz E hl hI
  subst hsz
  have E : xE p s m _ meth c cX3_readToken 2 none RX3 G := E
  have hx := E.1
  have hb := E.2.1
  have hl : lv_has ls 2 [(0, .ref (xq G 1 0))] := hl
  rw [f_X3_readToken] at hf
  exact (w_X3_readToken_l0 E (M := M) (L := L) FU) M hf _ (lv_sub hl [0] rfl) _ _ hI
theorem dX3_readNumber_0 : decode cX3_readNumber 0 = .ok (.aload_n 0, 1) := by decide +kernel
theorem dX3_readNumber_1 : decode cX3_readNumber 1 = .ok (.invokevirtual 32, 3) := by decide +kernel
theorem dX3_readNumber_4 : decode cX3_readNumber 4 = .ok (.aload_n 0, 1) := by decide +kernel
theorem dX3_readNumber_5 : decode cX3_readNumber 5 = .ok (.getfield 35, 3) := by decide +kernel
theorem dX3_readNumber_8 : decode cX3_readNumber 8 = .ok (.iconst 2, 1) := by decide +kernel
theorem dX3_readNumber_9 : decode cX3_readNumber 9 = .ok (.if_icmp .ne 19, 3) := by decide +kernel
theorem dX3_readNumber_12 : decode cX3_readNumber 12 = .ok (.aload_n 0, 1) := by decide +kernel
theorem dX3_readNumber_13 : decode cX3_readNumber 13 = .ok (.getfield 63, 3) := by decide +kernel
theorem dX3_readNumber_16 : decode cX3_readNumber 16 = .ok (.iload_n 1, 1) := by decide +kernel
theorem dX3_readNumber_17 : decode cX3_readNumber 17 = .ok (.iload_n 2, 1) := by decide +kernel
theorem dX3_readNumber_18 : decode cX3_readNumber 18 = .ok (.invokestatic 78, 3) := by decide +kernel
theorem dX3_readNumber_21 : decode cX3_readNumber 21 = .ok (.ifCond .ne 7, 3) := by decide +kernel
theorem dX3_readNumber_24 : decode cX3_readNumber 24 = .ok (.iconst 1, 1) := by decide +kernel
theorem dX3_readNumber_25 : decode cX3_readNumber 25 = .ok (.goto 4, 3) := by decide +kernel
theorem dX3_readNumber_28 : decode cX3_readNumber 28 = .ok (.iconst 0, 1) := by decide +kernel
theorem dX3_readNumber_29 : decode cX3_readNumber 29 = .ok (.ireturn, 1) := by decide +kernel
def f_X3_readNumber_b29 (M1 : xMem) (t29_0 : Int32) : Option (Int32 × xMem) := xchk (xbo t29_0) (some (t29_0, M1))
def f_X3_readNumber_b28 (k29 : Int32 → Option (Int32 × xMem)) : Option (Int32 × xMem) := k29 (0 : Int32)
def f_X3_readNumber (a1 : Int32) (a2 : Int32) (M : xMem) : Option (Int32 × xMem) := xb1 (f_X3_readToken M) (fun M1 => (if (M1 1 0 5) = (2 : Int32) then xb1 (f_X7_beyond (M1 1 0 6) a1 a2 M1) (fun r18 => (if r18 = (0 : Int32) then (f_X3_readNumber_b29 M1) (1 : Int32) else (f_X3_readNumber_b28 (f_X3_readNumber_b29 M1)))) else (f_X3_readNumber_b28 (f_X3_readNumber_b29 M1))))
set_option maxHeartbeats 4000000 in
set_option maxRecDepth 100000 in
theorem w_X3_readNumber_b29 {p : Program} {l : Launch} {e : Env} {s : State} {m : MethodId} {args : Array Value} {below : List Frame} {meth : Method} {c : Code} {G : xG} {rr : Int32} {MM : xMem} (E : xE p s m args meth c cX3_readNumber 3 (some .boolean) RX3 G) (M : xMem) (L : xLL) (M1 : xMem) : ∀ (t29_0 : Int32), f_X3_readNumber_b29 M1 t29_0 = some (rr, MM) → ∀ (ls : Array Slot), lv_has ls 3 [] → ∀ (H : Heap) (locs : List Loc), xI G M1 L s.heap H locs → W p l e (xR 4) s m args below meth c H locs 0 0 (MQ below (xQi G rr MM L s.heap.size) args s 0 0 (xZ G s.heap.size)) (F0 m 29 ls [.int t29_0]) := by
  have hx := E.1
  have hb := E.2.1
  intro t29_0 hf ls hl H locs hI
  rw [f_X3_readNumber_b29] at hf
  obtain ⟨h29n, hf⟩ := xchk_s hf
  obtain ⟨rfl, rfl⟩ := xinj2 hf
  exact x_zret E hI (xbo_s h29n) rfl dX3_readNumber_29
set_option maxHeartbeats 4000000 in
set_option maxRecDepth 100000 in
theorem w_X3_readNumber_b28 {p : Program} {l : Launch} {e : Env} {s : State} {m : MethodId} {args : Array Value} {below : List Frame} {meth : Method} {c : Code} {G : xG} {rr : Int32} {MM : xMem} (E : xE p s m args meth c cX3_readNumber 3 (some .boolean) RX3 G) (M : xMem) (L : xLL) (M1 : xMem) (k29 : Int32 → Option (Int32 × xMem)) (hk29 : ∀ (t29_0 : Int32), k29 t29_0 = some (rr, MM) → ∀ (ls : Array Slot), lv_has ls 3 [] → ∀ (H : Heap) (locs : List Loc), xI G M1 L s.heap H locs → W p l e (xR 4) s m args below meth c H locs 0 0 (MQ below (xQi G rr MM L s.heap.size) args s 0 0 (xZ G s.heap.size)) (F0 m 29 ls [.int t29_0])) : f_X3_readNumber_b28 k29  = some (rr, MM) → ∀ (ls : Array Slot), lv_has ls 3 [] → ∀ (H : Heap) (locs : List Loc), xI G M1 L s.heap H locs → W p l e (xR 4) s m args below meth c H locs 0 0 (MQ below (xQi G rr MM L s.heap.size) args s 0 0 (xZ G s.heap.size)) (F0 m 28 ls []) := by
  have hx := E.1
  have hb := E.2.1
  intro  hf ls hl H locs hI
  rw [f_X3_readNumber_b28] at hf
  refine lv_iconst (v := 0) hx hb dX3_readNumber_28 (by decide) ?_
  exact hk29 (0 : Int32) hf _ (lv_sub hl [] rfl) _ _ hI
set_option maxHeartbeats 4000000 in
set_option maxRecDepth 100000 in
theorem c_X3_readNumber (l : Launch) (G : xG) (sz : Nat) (M : xMem) (L : xLL) (a1 : Int32) (a2 : Int32) {rr : Int32} {MM : xMem} (hf : f_X3_readNumber a1 a2 M = some (rr, MM)) : Met l yX3_readNumber (Cond.code yX3_readNumber cX3_readNumber 3 (some .boolean) :: xTB) (xR 4) (xP G M L sz [.ref (xq G 1 0), .int a1, .int a2]) (xQi G rr MM L sz) 0 0 (xZ G sz) := by
  refine x_met (cc := cX3_readNumber) (nL := 3) (rt := (some .boolean)) (by decide) (Nat.le_of_ble_eq_true rfl) ?_
  intro p e s m below meth c ls hsz E hl hI
  subst hsz
  have E : xE p s m _ meth c cX3_readNumber 3 (some .boolean) RX3 G := E
  have hx := E.1
  have hb := E.2.1
  have hl : lv_has ls 3 [(0, .ref (xq G 1 0)), (1, .int a1), (2, .int a2)] := hl
  rw [f_X3_readNumber] at hf
  refine lv_aload_n hx hb dX3_readNumber_0 rfl (lv_at hl 0 rfl) ?_
  obtain ⟨M1, g1, hf⟩ := xb1_s hf
  refine x_callVv (As := []) (rest := []) E hI mx_1_0 rfl rfl rfl (c_X3_readToken l G _ (M := M) (L := L) g1) yv_X3_readToken ml_X3_32 (by decide) (by decide) rfl rfl hl.1 (Nat.le_of_ble_eq_true rfl) dX3_readNumber_1 (fun H locs hI => ?_)
  refine lv_aload_n hx hb dX3_readNumber_4 rfl (lv_at hl 0 rfl) ?_
  refine gf_X3_35 E hI dX3_readNumber_5 ?_
  refine lv_iconst (v := 2) hx hb dX3_readNumber_8 (by decide) ?_
  refine lv_icmp_ne (tgt := 28) hx hb dX3_readNumber_9 (by decide) (fun c9 => ?_) (fun c9 => ?_)
  · replace hf := xif_f c9 hf
    exact (w_X3_readNumber_b28 E (M := M) (L := L) (M1 := M1) (k29 := (f_X3_readNumber_b29 M1)) (hk29 := (w_X3_readNumber_b29 E (M := M) (L := L) (M1 := M1))))  hf _ (lv_sub hl [] rfl) _ _ hI
  · replace hf := xif_t c9 hf
    refine lv_aload_n hx hb dX3_readNumber_12 rfl (lv_at hl 0 rfl) ?_
    refine gf_X3_63 E hI dX3_readNumber_13 ?_
    refine lv_iload_n hx hb dX3_readNumber_16 rfl (lv_at hl 1 rfl) ?_
    refine lv_iload_n hx hb dX3_readNumber_17 rfl (lv_at hl 2 rfl) ?_
    obtain ⟨r18, g18, hf⟩ := xb1_s hf
    refine x_callNi (As := [.int (M1 1 0 6), .int a1, .int a2]) (rest := []) E hI (c_X7_beyond l G _ (M := M1) (L := L) (a0 := (M1 1 0 6)) (a1 := a1) (a2 := a2) g18) ys_X7_beyond (by decide) (by decide) rfl rfl hl.1 (Nat.le_of_ble_eq_true rfl) dX3_readNumber_18 (fun H locs hI => ?_)
    refine lv_if_ne (tgt := 28) hx hb dX3_readNumber_21 (by decide) (fun c21 => ?_) (fun c21 => ?_)
    · replace hf := xif_f c21 hf
      exact (w_X3_readNumber_b28 E (M := M) (L := L) (M1 := M1) (k29 := (f_X3_readNumber_b29 M1)) (hk29 := (w_X3_readNumber_b29 E (M := M) (L := L) (M1 := M1))))  hf _ (lv_sub hl [] rfl) _ _ hI
    · replace hf := xif_t c21 hf
      refine lv_iconst (v := 1) hx hb dX3_readNumber_24 (by decide) ?_
      refine lv_goto (tgt := 29) hx hb dX3_readNumber_25 (by decide) ?_
      exact (w_X3_readNumber_b29 E (M := M) (L := L) (M1 := M1)) (1 : Int32) hf _ (lv_sub hl [] rfl) _ _ hI
theorem dX3_readScale_0 : decode cX3_readScale 0 = .ok (.aload_n 0, 1) := by decide +kernel
theorem dX3_readScale_1 : decode cX3_readScale 1 = .ok (.iconst 1, 1) := by decide +kernel
theorem dX3_readScale_2 : decode cX3_readScale 2 = .ok (.bipush 99, 2) := by decide +kernel
theorem dX3_readScale_4 : decode cX3_readScale 4 = .ok (.invokevirtual 55, 3) := by decide +kernel
theorem dX3_readScale_7 : decode cX3_readScale 7 = .ok (.ifCond .ne 5, 3) := by decide +kernel
theorem dX3_readScale_10 : decode cX3_readScale 10 = .ok (.iconst 0, 1) := by decide +kernel
theorem dX3_readScale_11 : decode cX3_readScale 11 = .ok (.ireturn, 1) := by decide +kernel
theorem dX3_readScale_12 : decode cX3_readScale 12 = .ok (.aload_n 0, 1) := by decide +kernel
theorem dX3_readScale_13 : decode cX3_readScale 13 = .ok (.getfield 18, 3) := by decide +kernel
theorem dX3_readScale_16 : decode cX3_readScale 16 = .ok (.getfield 59, 3) := by decide +kernel
theorem dX3_readScale_19 : decode cX3_readScale 19 = .ok (.iload_n 1, 1) := by decide +kernel
theorem dX3_readScale_20 : decode cX3_readScale 20 = .ok (.aload_n 0, 1) := by decide +kernel
theorem dX3_readScale_21 : decode cX3_readScale 21 = .ok (.getfield 63, 3) := by decide +kernel
theorem dX3_readScale_24 : decode cX3_readScale 24 = .ok (.iastore, 1) := by decide +kernel
theorem dX3_readScale_25 : decode cX3_readScale 25 = .ok (.aload_n 0, 1) := by decide +kernel
theorem dX3_readScale_26 : decode cX3_readScale 26 = .ok (.iconst 0, 1) := by decide +kernel
theorem dX3_readScale_27 : decode cX3_readScale 27 = .ok (.bipush 9, 2) := by decide +kernel
theorem dX3_readScale_29 : decode cX3_readScale 29 = .ok (.invokevirtual 55, 3) := by decide +kernel
theorem dX3_readScale_32 : decode cX3_readScale 32 = .ok (.ifCond .ne 5, 3) := by decide +kernel
theorem dX3_readScale_35 : decode cX3_readScale 35 = .ok (.iconst 0, 1) := by decide +kernel
theorem dX3_readScale_36 : decode cX3_readScale 36 = .ok (.ireturn, 1) := by decide +kernel
theorem dX3_readScale_37 : decode cX3_readScale 37 = .ok (.aload_n 0, 1) := by decide +kernel
theorem dX3_readScale_38 : decode cX3_readScale 38 = .ok (.getfield 18, 3) := by decide +kernel
theorem dX3_readScale_41 : decode cX3_readScale 41 = .ok (.getfield 66, 3) := by decide +kernel
theorem dX3_readScale_44 : decode cX3_readScale 44 = .ok (.iload_n 1, 1) := by decide +kernel
theorem dX3_readScale_45 : decode cX3_readScale 45 = .ok (.aload_n 0, 1) := by decide +kernel
theorem dX3_readScale_46 : decode cX3_readScale 46 = .ok (.getfield 63, 3) := by decide +kernel
theorem dX3_readScale_49 : decode cX3_readScale 49 = .ok (.iastore, 1) := by decide +kernel
theorem dX3_readScale_50 : decode cX3_readScale 50 = .ok (.aload_n 0, 1) := by decide +kernel
theorem dX3_readScale_51 : decode cX3_readScale 51 = .ok (.iconst 1, 1) := by decide +kernel
theorem dX3_readScale_52 : decode cX3_readScale 52 = .ok (.bipush 9, 2) := by decide +kernel
theorem dX3_readScale_54 : decode cX3_readScale 54 = .ok (.invokevirtual 55, 3) := by decide +kernel
theorem dX3_readScale_57 : decode cX3_readScale 57 = .ok (.ifCond .ne 5, 3) := by decide +kernel
theorem dX3_readScale_60 : decode cX3_readScale 60 = .ok (.iconst 0, 1) := by decide +kernel
theorem dX3_readScale_61 : decode cX3_readScale 61 = .ok (.ireturn, 1) := by decide +kernel
theorem dX3_readScale_62 : decode cX3_readScale 62 = .ok (.aload_n 0, 1) := by decide +kernel
theorem dX3_readScale_63 : decode cX3_readScale 63 = .ok (.getfield 18, 3) := by decide +kernel
theorem dX3_readScale_66 : decode cX3_readScale 66 = .ok (.getfield 69, 3) := by decide +kernel
theorem dX3_readScale_69 : decode cX3_readScale 69 = .ok (.iload_n 1, 1) := by decide +kernel
theorem dX3_readScale_70 : decode cX3_readScale 70 = .ok (.aload_n 0, 1) := by decide +kernel
theorem dX3_readScale_71 : decode cX3_readScale 71 = .ok (.getfield 63, 3) := by decide +kernel
theorem dX3_readScale_74 : decode cX3_readScale 74 = .ok (.iastore, 1) := by decide +kernel
theorem dX3_readScale_75 : decode cX3_readScale 75 = .ok (.aload_n 0, 1) := by decide +kernel
theorem dX3_readScale_76 : decode cX3_readScale 76 = .ok (.getfield 18, 3) := by decide +kernel
theorem dX3_readScale_79 : decode cX3_readScale 79 = .ok (.dup, 1) := by decide +kernel
theorem dX3_readScale_80 : decode cX3_readScale 80 = .ok (.getfield 22, 3) := by decide +kernel
theorem dX3_readScale_83 : decode cX3_readScale 83 = .ok (.iconst 1, 1) := by decide +kernel
theorem dX3_readScale_84 : decode cX3_readScale 84 = .ok (.iadd, 1) := by decide +kernel
theorem dX3_readScale_85 : decode cX3_readScale 85 = .ok (.putfield 22, 3) := by decide +kernel
theorem dX3_readScale_88 : decode cX3_readScale 88 = .ok (.iconst 1, 1) := by decide +kernel
theorem dX3_readScale_89 : decode cX3_readScale 89 = .ok (.ireturn, 1) := by decide +kernel
def f_X3_readScale (a1 : Int32) (M : xMem) : Option (Int32 × xMem) := xb2 (f_X3_readNumber (1 : Int32) (99 : Int32) M) (fun r4 M4 => (if r4 = (0 : Int32) then some ((0 : Int32), M4) else xchk (xb a1 5) (xlet (xst M4 2 3 a1 (M4 1 0 6)) (fun M24 => xb2 (f_X3_readNumber (0 : Int32) (9 : Int32) M24) (fun r29 M29 => (if r29 = (0 : Int32) then some ((0 : Int32), M29) else xchk (xb a1 5) (xlet (xst M29 2 4 a1 (M29 1 0 6)) (fun M49 => xb2 (f_X3_readNumber (1 : Int32) (9 : Int32) M49) (fun r54 M54 => (if r54 = (0 : Int32) then some ((0 : Int32), M54) else xchk (xb a1 5) (xlet (xst M54 2 5 a1 (M54 1 0 6)) (fun M74 => xlet (xsf M74 2 0 ((M74 2 0 0) + (1 : Int32))) (fun M85 => some ((1 : Int32), M85))))))))))))))
set_option maxHeartbeats 4000000 in
set_option maxRecDepth 100000 in
theorem c_X3_readScale (l : Launch) (G : xG) (sz : Nat) (M : xMem) (L : xLL) (a1 : Int32) {rr : Int32} {MM : xMem} (hf : f_X3_readScale a1 M = some (rr, MM)) : Met l yX3_readScale (Cond.code yX3_readScale cX3_readScale 2 (some .boolean) :: xTB) (xR 5) (xP G M L sz [.ref (xq G 1 0), .int a1]) (xQi G rr MM L sz) 0 0 (xZ G sz) := by
  refine x_met (cc := cX3_readScale) (nL := 2) (rt := (some .boolean)) (by decide) (Nat.le_of_ble_eq_true rfl) ?_
  intro p e s m below meth c ls hsz E hl hI
  subst hsz
  have E : xE p s m _ meth c cX3_readScale 2 (some .boolean) RX3 G := E
  have hx := E.1
  have hb := E.2.1
  have hl : lv_has ls 2 [(0, .ref (xq G 1 0)), (1, .int a1)] := hl
  rw [f_X3_readScale] at hf
  refine lv_aload_n hx hb dX3_readScale_0 rfl (lv_at hl 0 rfl) ?_
  refine lv_iconst (v := 1) hx hb dX3_readScale_1 (by decide) ?_
  refine lv_bipush (v := 99) hx hb dX3_readScale_2 (by decide) ?_
  obtain ⟨r4, M4, g4, hf⟩ := xb2_s hf
  refine x_callVi (As := [.int (1 : Int32), .int (99 : Int32)]) (rest := []) E hI mx_1_0 rfl rfl rfl (c_X3_readNumber l G _ (M := M) (L := L) (a1 := (1 : Int32)) (a2 := (99 : Int32)) g4) yv_X3_readNumber ml_X3_55 (by decide) (by decide) rfl rfl hl.1 (Nat.le_of_ble_eq_true rfl) dX3_readScale_4 (fun H locs hI => ?_)
  refine lv_if_ne (tgt := 12) hx hb dX3_readScale_7 (by decide) (fun c7 => ?_) (fun c7 => ?_)
  · replace hf := xif_f c7 hf
    refine lv_aload_n hx hb dX3_readScale_12 rfl (lv_at hl 0 rfl) ?_
    refine gf_X3_18 E hI dX3_readScale_13 ?_
    refine gf_X3_59_2 E hI dX3_readScale_16 ?_
    refine lv_iload_n hx hb dX3_readScale_19 rfl (lv_at hl 1 rfl) ?_
    refine lv_aload_n hx hb dX3_readScale_20 rfl (lv_at hl 0 rfl) ?_
    refine gf_X3_63 E hI dX3_readScale_21 ?_
    obtain ⟨h24b, hf⟩ := xchk_s hf
    obtain ⟨M24, e24, hf⟩ := xlet_s hf
    refine x_iast (n := 5) E hI mx_2_3 (fun _ _ => rfl) h24b dX3_readScale_24 e24 (fun H locs hI => ?_)
    refine lv_aload_n hx hb dX3_readScale_25 rfl (lv_at hl 0 rfl) ?_
    refine lv_iconst (v := 0) hx hb dX3_readScale_26 (by decide) ?_
    refine lv_bipush (v := 9) hx hb dX3_readScale_27 (by decide) ?_
    obtain ⟨r29, M29, g29, hf⟩ := xb2_s hf
    refine x_callVi (As := [.int (0 : Int32), .int (9 : Int32)]) (rest := []) E hI mx_1_0 rfl rfl rfl (c_X3_readNumber l G _ (M := M24) (L := L) (a1 := (0 : Int32)) (a2 := (9 : Int32)) g29) yv_X3_readNumber ml_X3_55 (by decide) (by decide) rfl rfl hl.1 (Nat.le_of_ble_eq_true rfl) dX3_readScale_29 (fun H locs hI => ?_)
    refine lv_if_ne (tgt := 37) hx hb dX3_readScale_32 (by decide) (fun c32 => ?_) (fun c32 => ?_)
    · replace hf := xif_f c32 hf
      refine lv_aload_n hx hb dX3_readScale_37 rfl (lv_at hl 0 rfl) ?_
      refine gf_X3_18 E hI dX3_readScale_38 ?_
      refine gf_X3_66_2 E hI dX3_readScale_41 ?_
      refine lv_iload_n hx hb dX3_readScale_44 rfl (lv_at hl 1 rfl) ?_
      refine lv_aload_n hx hb dX3_readScale_45 rfl (lv_at hl 0 rfl) ?_
      refine gf_X3_63 E hI dX3_readScale_46 ?_
      obtain ⟨h49b, hf⟩ := xchk_s hf
      obtain ⟨M49, e49, hf⟩ := xlet_s hf
      refine x_iast (n := 5) E hI mx_2_4 (fun _ _ => rfl) h49b dX3_readScale_49 e49 (fun H locs hI => ?_)
      refine lv_aload_n hx hb dX3_readScale_50 rfl (lv_at hl 0 rfl) ?_
      refine lv_iconst (v := 1) hx hb dX3_readScale_51 (by decide) ?_
      refine lv_bipush (v := 9) hx hb dX3_readScale_52 (by decide) ?_
      obtain ⟨r54, M54, g54, hf⟩ := xb2_s hf
      refine x_callVi (As := [.int (1 : Int32), .int (9 : Int32)]) (rest := []) E hI mx_1_0 rfl rfl rfl (c_X3_readNumber l G _ (M := M49) (L := L) (a1 := (1 : Int32)) (a2 := (9 : Int32)) g54) yv_X3_readNumber ml_X3_55 (by decide) (by decide) rfl rfl hl.1 (Nat.le_of_ble_eq_true rfl) dX3_readScale_54 (fun H locs hI => ?_)
      refine lv_if_ne (tgt := 62) hx hb dX3_readScale_57 (by decide) (fun c57 => ?_) (fun c57 => ?_)
      · replace hf := xif_f c57 hf
        refine lv_aload_n hx hb dX3_readScale_62 rfl (lv_at hl 0 rfl) ?_
        refine gf_X3_18 E hI dX3_readScale_63 ?_
        refine gf_X3_69_2 E hI dX3_readScale_66 ?_
        refine lv_iload_n hx hb dX3_readScale_69 rfl (lv_at hl 1 rfl) ?_
        refine lv_aload_n hx hb dX3_readScale_70 rfl (lv_at hl 0 rfl) ?_
        refine gf_X3_63 E hI dX3_readScale_71 ?_
        obtain ⟨h74b, hf⟩ := xchk_s hf
        obtain ⟨M74, e74, hf⟩ := xlet_s hf
        refine x_iast (n := 5) E hI mx_2_5 (fun _ _ => rfl) h74b dX3_readScale_74 e74 (fun H locs hI => ?_)
        refine lv_aload_n hx hb dX3_readScale_75 rfl (lv_at hl 0 rfl) ?_
        refine gf_X3_18 E hI dX3_readScale_76 ?_
        refine lv_dup hx hb dX3_readScale_79 rfl ?_
        refine gf_X3_22_2 E hI dX3_readScale_80 ?_
        refine lv_iconst (v := 1) hx hb dX3_readScale_83 (by decide) ?_
        refine lv_iadd hx hb dX3_readScale_84 ?_
        obtain ⟨M85, e85, hf⟩ := xlet_s hf
        refine pf_X3_22_2 E hI dX3_readScale_85 e85 (fun H locs hI => ?_)
        refine lv_iconst (v := 1) hx hb dX3_readScale_88 (by decide) ?_
        obtain ⟨rfl, rfl⟩ := xinj2 hf
        exact x_zret E hI rfl rfl dX3_readScale_89
      · replace hf := xif_t c57 hf
        refine lv_iconst (v := 0) hx hb dX3_readScale_60 (by decide) ?_
        obtain ⟨rfl, rfl⟩ := xinj2 hf
        exact x_zret E hI rfl rfl dX3_readScale_61
    · replace hf := xif_t c32 hf
      refine lv_iconst (v := 0) hx hb dX3_readScale_35 (by decide) ?_
      obtain ⟨rfl, rfl⟩ := xinj2 hf
      exact x_zret E hI rfl rfl dX3_readScale_36
  · replace hf := xif_t c7 hf
    refine lv_iconst (v := 0) hx hb dX3_readScale_10 (by decide) ?_
    obtain ⟨rfl, rfl⟩ := xinj2 hf
    exact x_zret E hI rfl rfl dX3_readScale_11
theorem dX3_readEnd_0 : decode cX3_readEnd 0 = .ok (.aload_n 0, 1) := by decide +kernel
theorem dX3_readEnd_1 : decode cX3_readEnd 1 = .ok (.invokevirtual 32, 3) := by decide +kernel
theorem dX3_readEnd_4 : decode cX3_readEnd 4 = .ok (.aload_n 0, 1) := by decide +kernel
theorem dX3_readEnd_5 : decode cX3_readEnd 5 = .ok (.getfield 35, 3) := by decide +kernel
theorem dX3_readEnd_8 : decode cX3_readEnd 8 = .ok (.bipush 59, 2) := by decide +kernel
theorem dX3_readEnd_10 : decode cX3_readEnd 10 = .ok (.if_icmp .ne 7, 3) := by decide +kernel
theorem dX3_readEnd_13 : decode cX3_readEnd 13 = .ok (.iconst 1, 1) := by decide +kernel
theorem dX3_readEnd_14 : decode cX3_readEnd 14 = .ok (.goto 4, 3) := by decide +kernel
theorem dX3_readEnd_17 : decode cX3_readEnd 17 = .ok (.iconst 0, 1) := by decide +kernel
theorem dX3_readEnd_18 : decode cX3_readEnd 18 = .ok (.ireturn, 1) := by decide +kernel
def f_X3_readEnd_b18 (M1 : xMem) (t18_0 : Int32) : Option (Int32 × xMem) := xchk (xbo t18_0) (some (t18_0, M1))
def f_X3_readEnd (M : xMem) : Option (Int32 × xMem) := xb1 (f_X3_readToken M) (fun M1 => (if (M1 1 0 5) = (59 : Int32) then (f_X3_readEnd_b18 M1) (1 : Int32) else (f_X3_readEnd_b18 M1) (0 : Int32)))
set_option maxHeartbeats 4000000 in
set_option maxRecDepth 100000 in
theorem w_X3_readEnd_b18 {p : Program} {l : Launch} {e : Env} {s : State} {m : MethodId} {args : Array Value} {below : List Frame} {meth : Method} {c : Code} {G : xG} {rr : Int32} {MM : xMem} (E : xE p s m args meth c cX3_readEnd 1 (some .boolean) RX3 G) (M : xMem) (L : xLL) (M1 : xMem) : ∀ (t18_0 : Int32), f_X3_readEnd_b18 M1 t18_0 = some (rr, MM) → ∀ (ls : Array Slot), lv_has ls 1 [] → ∀ (H : Heap) (locs : List Loc), xI G M1 L s.heap H locs → W p l e (xR 4) s m args below meth c H locs 0 0 (MQ below (xQi G rr MM L s.heap.size) args s 0 0 (xZ G s.heap.size)) (F0 m 18 ls [.int t18_0]) := by
  have hx := E.1
  have hb := E.2.1
  intro t18_0 hf ls hl H locs hI
  rw [f_X3_readEnd_b18] at hf
  obtain ⟨h18n, hf⟩ := xchk_s hf
  obtain ⟨rfl, rfl⟩ := xinj2 hf
  exact x_zret E hI (xbo_s h18n) rfl dX3_readEnd_18
set_option maxHeartbeats 4000000 in
set_option maxRecDepth 100000 in
theorem c_X3_readEnd (l : Launch) (G : xG) (sz : Nat) (M : xMem) (L : xLL) {rr : Int32} {MM : xMem} (hf : f_X3_readEnd M = some (rr, MM)) : Met l yX3_readEnd (Cond.code yX3_readEnd cX3_readEnd 1 (some .boolean) :: xTB) (xR 4) (xP G M L sz [.ref (xq G 1 0)]) (xQi G rr MM L sz) 0 0 (xZ G sz) := by
  refine x_met (cc := cX3_readEnd) (nL := 1) (rt := (some .boolean)) (by decide) (Nat.le_of_ble_eq_true rfl) ?_
  intro p e s m below meth c ls hsz E hl hI
  subst hsz
  have E : xE p s m _ meth c cX3_readEnd 1 (some .boolean) RX3 G := E
  have hx := E.1
  have hb := E.2.1
  have hl : lv_has ls 1 [(0, .ref (xq G 1 0))] := hl
  rw [f_X3_readEnd] at hf
  refine lv_aload_n hx hb dX3_readEnd_0 rfl (lv_at hl 0 rfl) ?_
  obtain ⟨M1, g1, hf⟩ := xb1_s hf
  refine x_callVv (As := []) (rest := []) E hI mx_1_0 rfl rfl rfl (c_X3_readToken l G _ (M := M) (L := L) g1) yv_X3_readToken ml_X3_32 (by decide) (by decide) rfl rfl hl.1 (Nat.le_of_ble_eq_true rfl) dX3_readEnd_1 (fun H locs hI => ?_)
  refine lv_aload_n hx hb dX3_readEnd_4 rfl (lv_at hl 0 rfl) ?_
  refine gf_X3_35 E hI dX3_readEnd_5 ?_
  refine lv_bipush (v := 59) hx hb dX3_readEnd_8 (by decide) ?_
  refine lv_icmp_ne (tgt := 17) hx hb dX3_readEnd_10 (by decide) (fun c10 => ?_) (fun c10 => ?_)
  · replace hf := xif_f c10 hf
    refine lv_iconst (v := 0) hx hb dX3_readEnd_17 (by decide) ?_
    exact (w_X3_readEnd_b18 E (M := M) (L := L) (M1 := M1)) (0 : Int32) hf _ (lv_sub hl [] rfl) _ _ hI
  · replace hf := xif_t c10 hf
    refine lv_iconst (v := 1) hx hb dX3_readEnd_13 (by decide) ?_
    refine lv_goto (tgt := 18) hx hb dX3_readEnd_14 (by decide) ?_
    exact (w_X3_readEnd_b18 E (M := M) (L := L) (M1 := M1)) (1 : Int32) hf _ (lv_sub hl [] rfl) _ _ hI
theorem dX3_readEgg_0 : decode cX3_readEgg 0 = .ok (.aload_n 0, 1) := by decide +kernel
theorem dX3_readEgg_1 : decode cX3_readEgg 1 = .ok (.iconst 1, 1) := by decide +kernel
theorem dX3_readEgg_2 : decode cX3_readEgg 2 = .ok (.bipush 99, 2) := by decide +kernel
theorem dX3_readEgg_4 : decode cX3_readEgg 4 = .ok (.invokevirtual 55, 3) := by decide +kernel
theorem dX3_readEgg_7 : decode cX3_readEgg 7 = .ok (.ifCond .ne 5, 3) := by decide +kernel
theorem dX3_readEgg_10 : decode cX3_readEgg 10 = .ok (.iconst 0, 1) := by decide +kernel
theorem dX3_readEgg_11 : decode cX3_readEgg 11 = .ok (.ireturn, 1) := by decide +kernel
theorem dX3_readEgg_12 : decode cX3_readEgg 12 = .ok (.aload_n 0, 1) := by decide +kernel
theorem dX3_readEgg_13 : decode cX3_readEgg 13 = .ok (.getfield 18, 3) := by decide +kernel
theorem dX3_readEgg_16 : decode cX3_readEgg 16 = .ok (.getfield 72, 3) := by decide +kernel
theorem dX3_readEgg_19 : decode cX3_readEgg 19 = .ok (.iload_n 1, 1) := by decide +kernel
theorem dX3_readEgg_20 : decode cX3_readEgg 20 = .ok (.aload_n 0, 1) := by decide +kernel
theorem dX3_readEgg_21 : decode cX3_readEgg 21 = .ok (.getfield 63, 3) := by decide +kernel
theorem dX3_readEgg_24 : decode cX3_readEgg 24 = .ok (.iastore, 1) := by decide +kernel
theorem dX3_readEgg_25 : decode cX3_readEgg 25 = .ok (.aload_n 0, 1) := by decide +kernel
theorem dX3_readEgg_26 : decode cX3_readEgg 26 = .ok (.iconst 0, 1) := by decide +kernel
theorem dX3_readEgg_27 : decode cX3_readEgg 27 = .ok (.iconst 5, 1) := by decide +kernel
theorem dX3_readEgg_28 : decode cX3_readEgg 28 = .ok (.invokevirtual 55, 3) := by decide +kernel
theorem dX3_readEgg_31 : decode cX3_readEgg 31 = .ok (.ifCond .ne 5, 3) := by decide +kernel
theorem dX3_readEgg_34 : decode cX3_readEgg 34 = .ok (.iconst 0, 1) := by decide +kernel
theorem dX3_readEgg_35 : decode cX3_readEgg 35 = .ok (.ireturn, 1) := by decide +kernel
theorem dX3_readEgg_36 : decode cX3_readEgg 36 = .ok (.aload_n 0, 1) := by decide +kernel
theorem dX3_readEgg_37 : decode cX3_readEgg 37 = .ok (.getfield 18, 3) := by decide +kernel
theorem dX3_readEgg_40 : decode cX3_readEgg 40 = .ok (.getfield 75, 3) := by decide +kernel
theorem dX3_readEgg_43 : decode cX3_readEgg 43 = .ok (.iload_n 1, 1) := by decide +kernel
theorem dX3_readEgg_44 : decode cX3_readEgg 44 = .ok (.aload_n 0, 1) := by decide +kernel
theorem dX3_readEgg_45 : decode cX3_readEgg 45 = .ok (.getfield 63, 3) := by decide +kernel
theorem dX3_readEgg_48 : decode cX3_readEgg 48 = .ok (.iastore, 1) := by decide +kernel
theorem dX3_readEgg_49 : decode cX3_readEgg 49 = .ok (.aload_n 0, 1) := by decide +kernel
theorem dX3_readEgg_50 : decode cX3_readEgg 50 = .ok (.getfield 18, 3) := by decide +kernel
theorem dX3_readEgg_53 : decode cX3_readEgg 53 = .ok (.dup, 1) := by decide +kernel
theorem dX3_readEgg_54 : decode cX3_readEgg 54 = .ok (.getfield 26, 3) := by decide +kernel
theorem dX3_readEgg_57 : decode cX3_readEgg 57 = .ok (.iconst 1, 1) := by decide +kernel
theorem dX3_readEgg_58 : decode cX3_readEgg 58 = .ok (.iadd, 1) := by decide +kernel
theorem dX3_readEgg_59 : decode cX3_readEgg 59 = .ok (.putfield 26, 3) := by decide +kernel
theorem dX3_readEgg_62 : decode cX3_readEgg 62 = .ok (.iconst 1, 1) := by decide +kernel
theorem dX3_readEgg_63 : decode cX3_readEgg 63 = .ok (.ireturn, 1) := by decide +kernel
def f_X3_readEgg (a1 : Int32) (M : xMem) : Option (Int32 × xMem) := xb2 (f_X3_readNumber (1 : Int32) (99 : Int32) M) (fun r4 M4 => (if r4 = (0 : Int32) then some ((0 : Int32), M4) else xchk (xb a1 6) (xlet (xst M4 2 6 a1 (M4 1 0 6)) (fun M24 => xb2 (f_X3_readNumber (0 : Int32) (5 : Int32) M24) (fun r28 M28 => (if r28 = (0 : Int32) then some ((0 : Int32), M28) else xchk (xb a1 6) (xlet (xst M28 2 7 a1 (M28 1 0 6)) (fun M48 => xlet (xsf M48 2 1 ((M48 2 0 1) + (1 : Int32))) (fun M59 => some ((1 : Int32), M59))))))))))
set_option maxHeartbeats 4000000 in
set_option maxRecDepth 100000 in
theorem c_X3_readEgg (l : Launch) (G : xG) (sz : Nat) (M : xMem) (L : xLL) (a1 : Int32) {rr : Int32} {MM : xMem} (hf : f_X3_readEgg a1 M = some (rr, MM)) : Met l yX3_readEgg (Cond.code yX3_readEgg cX3_readEgg 2 (some .boolean) :: xTB) (xR 5) (xP G M L sz [.ref (xq G 1 0), .int a1]) (xQi G rr MM L sz) 0 0 (xZ G sz) := by
  refine x_met (cc := cX3_readEgg) (nL := 2) (rt := (some .boolean)) (by decide) (Nat.le_of_ble_eq_true rfl) ?_
  intro p e s m below meth c ls hsz E hl hI
  subst hsz
  have E : xE p s m _ meth c cX3_readEgg 2 (some .boolean) RX3 G := E
  have hx := E.1
  have hb := E.2.1
  have hl : lv_has ls 2 [(0, .ref (xq G 1 0)), (1, .int a1)] := hl
  rw [f_X3_readEgg] at hf
  refine lv_aload_n hx hb dX3_readEgg_0 rfl (lv_at hl 0 rfl) ?_
  refine lv_iconst (v := 1) hx hb dX3_readEgg_1 (by decide) ?_
  refine lv_bipush (v := 99) hx hb dX3_readEgg_2 (by decide) ?_
  obtain ⟨r4, M4, g4, hf⟩ := xb2_s hf
  refine x_callVi (As := [.int (1 : Int32), .int (99 : Int32)]) (rest := []) E hI mx_1_0 rfl rfl rfl (c_X3_readNumber l G _ (M := M) (L := L) (a1 := (1 : Int32)) (a2 := (99 : Int32)) g4) yv_X3_readNumber ml_X3_55 (by decide) (by decide) rfl rfl hl.1 (Nat.le_of_ble_eq_true rfl) dX3_readEgg_4 (fun H locs hI => ?_)
  refine lv_if_ne (tgt := 12) hx hb dX3_readEgg_7 (by decide) (fun c7 => ?_) (fun c7 => ?_)
  · replace hf := xif_f c7 hf
    refine lv_aload_n hx hb dX3_readEgg_12 rfl (lv_at hl 0 rfl) ?_
    refine gf_X3_18 E hI dX3_readEgg_13 ?_
    refine gf_X3_72_2 E hI dX3_readEgg_16 ?_
    refine lv_iload_n hx hb dX3_readEgg_19 rfl (lv_at hl 1 rfl) ?_
    refine lv_aload_n hx hb dX3_readEgg_20 rfl (lv_at hl 0 rfl) ?_
    refine gf_X3_63 E hI dX3_readEgg_21 ?_
    obtain ⟨h24b, hf⟩ := xchk_s hf
    obtain ⟨M24, e24, hf⟩ := xlet_s hf
    refine x_iast (n := 6) E hI mx_2_6 (fun _ _ => rfl) h24b dX3_readEgg_24 e24 (fun H locs hI => ?_)
    refine lv_aload_n hx hb dX3_readEgg_25 rfl (lv_at hl 0 rfl) ?_
    refine lv_iconst (v := 0) hx hb dX3_readEgg_26 (by decide) ?_
    refine lv_iconst (v := 5) hx hb dX3_readEgg_27 (by decide) ?_
    obtain ⟨r28, M28, g28, hf⟩ := xb2_s hf
    refine x_callVi (As := [.int (0 : Int32), .int (5 : Int32)]) (rest := []) E hI mx_1_0 rfl rfl rfl (c_X3_readNumber l G _ (M := M24) (L := L) (a1 := (0 : Int32)) (a2 := (5 : Int32)) g28) yv_X3_readNumber ml_X3_55 (by decide) (by decide) rfl rfl hl.1 (Nat.le_of_ble_eq_true rfl) dX3_readEgg_28 (fun H locs hI => ?_)
    refine lv_if_ne (tgt := 36) hx hb dX3_readEgg_31 (by decide) (fun c31 => ?_) (fun c31 => ?_)
    · replace hf := xif_f c31 hf
      refine lv_aload_n hx hb dX3_readEgg_36 rfl (lv_at hl 0 rfl) ?_
      refine gf_X3_18 E hI dX3_readEgg_37 ?_
      refine gf_X3_75_2 E hI dX3_readEgg_40 ?_
      refine lv_iload_n hx hb dX3_readEgg_43 rfl (lv_at hl 1 rfl) ?_
      refine lv_aload_n hx hb dX3_readEgg_44 rfl (lv_at hl 0 rfl) ?_
      refine gf_X3_63 E hI dX3_readEgg_45 ?_
      obtain ⟨h48b, hf⟩ := xchk_s hf
      obtain ⟨M48, e48, hf⟩ := xlet_s hf
      refine x_iast (n := 6) E hI mx_2_7 (fun _ _ => rfl) h48b dX3_readEgg_48 e48 (fun H locs hI => ?_)
      refine lv_aload_n hx hb dX3_readEgg_49 rfl (lv_at hl 0 rfl) ?_
      refine gf_X3_18 E hI dX3_readEgg_50 ?_
      refine lv_dup hx hb dX3_readEgg_53 rfl ?_
      refine gf_X3_26_2 E hI dX3_readEgg_54 ?_
      refine lv_iconst (v := 1) hx hb dX3_readEgg_57 (by decide) ?_
      refine lv_iadd hx hb dX3_readEgg_58 ?_
      obtain ⟨M59, e59, hf⟩ := xlet_s hf
      refine pf_X3_26_2 E hI dX3_readEgg_59 e59 (fun H locs hI => ?_)
      refine lv_iconst (v := 1) hx hb dX3_readEgg_62 (by decide) ?_
      obtain ⟨rfl, rfl⟩ := xinj2 hf
      exact x_zret E hI rfl rfl dX3_readEgg_63
    · replace hf := xif_t c31 hf
      refine lv_iconst (v := 0) hx hb dX3_readEgg_34 (by decide) ?_
      obtain ⟨rfl, rfl⟩ := xinj2 hf
      exact x_zret E hI rfl rfl dX3_readEgg_35
  · replace hf := xif_t c7 hf
    refine lv_iconst (v := 0) hx hb dX3_readEgg_10 (by decide) ?_
    obtain ⟨rfl, rfl⟩ := xinj2 hf
    exact x_zret E hI rfl rfl dX3_readEgg_11
theorem dX3_readItem_0 : decode cX3_readItem 0 = .ok (.aload_n 0, 1) := by decide +kernel
theorem dX3_readItem_1 : decode cX3_readItem 1 = .ok (.getfield 35, 3) := by decide +kernel
theorem dX3_readItem_4 : decode cX3_readItem 4 = .ok (.bipush 115, 2) := by decide +kernel
theorem dX3_readItem_6 : decode cX3_readItem 6 = .ok (.if_icmp .ne 41, 3) := by decide +kernel
theorem dX3_readItem_9 : decode cX3_readItem 9 = .ok (.aload_n 0, 1) := by decide +kernel
theorem dX3_readItem_10 : decode cX3_readItem 10 = .ok (.getfield 18, 3) := by decide +kernel
theorem dX3_readItem_13 : decode cX3_readItem 13 = .ok (.getfield 22, 3) := by decide +kernel
theorem dX3_readItem_16 : decode cX3_readItem 16 = .ok (.iconst 5, 1) := by decide +kernel
theorem dX3_readItem_17 : decode cX3_readItem 17 = .ok (.if_icmp .ge 30, 3) := by decide +kernel
theorem dX3_readItem_20 : decode cX3_readItem 20 = .ok (.aload_n 0, 1) := by decide +kernel
theorem dX3_readItem_21 : decode cX3_readItem 21 = .ok (.aload_n 0, 1) := by decide +kernel
theorem dX3_readItem_22 : decode cX3_readItem 22 = .ok (.getfield 18, 3) := by decide +kernel
theorem dX3_readItem_25 : decode cX3_readItem 25 = .ok (.getfield 22, 3) := by decide +kernel
theorem dX3_readItem_28 : decode cX3_readItem 28 = .ok (.invokevirtual 45, 3) := by decide +kernel
theorem dX3_readItem_31 : decode cX3_readItem 31 = .ok (.ifCond .eq 14, 3) := by decide +kernel
theorem dX3_readItem_34 : decode cX3_readItem 34 = .ok (.aload_n 0, 1) := by decide +kernel
theorem dX3_readItem_35 : decode cX3_readItem 35 = .ok (.invokevirtual 49, 3) := by decide +kernel
theorem dX3_readItem_38 : decode cX3_readItem 38 = .ok (.ifCond .eq 7, 3) := by decide +kernel
theorem dX3_readItem_41 : decode cX3_readItem 41 = .ok (.iconst 1, 1) := by decide +kernel
theorem dX3_readItem_42 : decode cX3_readItem 42 = .ok (.goto 4, 3) := by decide +kernel
theorem dX3_readItem_45 : decode cX3_readItem 45 = .ok (.iconst 0, 1) := by decide +kernel
theorem dX3_readItem_46 : decode cX3_readItem 46 = .ok (.ireturn, 1) := by decide +kernel
theorem dX3_readItem_47 : decode cX3_readItem 47 = .ok (.aload_n 0, 1) := by decide +kernel
theorem dX3_readItem_48 : decode cX3_readItem 48 = .ok (.getfield 35, 3) := by decide +kernel
theorem dX3_readItem_51 : decode cX3_readItem 51 = .ok (.bipush 101, 2) := by decide +kernel
theorem dX3_readItem_53 : decode cX3_readItem 53 = .ok (.if_icmp .ne 42, 3) := by decide +kernel
theorem dX3_readItem_56 : decode cX3_readItem 56 = .ok (.aload_n 0, 1) := by decide +kernel
theorem dX3_readItem_57 : decode cX3_readItem 57 = .ok (.getfield 18, 3) := by decide +kernel
theorem dX3_readItem_60 : decode cX3_readItem 60 = .ok (.getfield 26, 3) := by decide +kernel
theorem dX3_readItem_63 : decode cX3_readItem 63 = .ok (.bipush 6, 2) := by decide +kernel
theorem dX3_readItem_65 : decode cX3_readItem 65 = .ok (.if_icmp .ge 30, 3) := by decide +kernel
theorem dX3_readItem_68 : decode cX3_readItem 68 = .ok (.aload_n 0, 1) := by decide +kernel
theorem dX3_readItem_69 : decode cX3_readItem 69 = .ok (.aload_n 0, 1) := by decide +kernel
theorem dX3_readItem_70 : decode cX3_readItem 70 = .ok (.getfield 18, 3) := by decide +kernel
theorem dX3_readItem_73 : decode cX3_readItem 73 = .ok (.getfield 26, 3) := by decide +kernel
theorem dX3_readItem_76 : decode cX3_readItem 76 = .ok (.invokevirtual 52, 3) := by decide +kernel
theorem dX3_readItem_79 : decode cX3_readItem 79 = .ok (.ifCond .eq 14, 3) := by decide +kernel
theorem dX3_readItem_82 : decode cX3_readItem 82 = .ok (.aload_n 0, 1) := by decide +kernel
theorem dX3_readItem_83 : decode cX3_readItem 83 = .ok (.invokevirtual 49, 3) := by decide +kernel
theorem dX3_readItem_86 : decode cX3_readItem 86 = .ok (.ifCond .eq 7, 3) := by decide +kernel
theorem dX3_readItem_89 : decode cX3_readItem 89 = .ok (.iconst 1, 1) := by decide +kernel
theorem dX3_readItem_90 : decode cX3_readItem 90 = .ok (.goto 4, 3) := by decide +kernel
theorem dX3_readItem_93 : decode cX3_readItem 93 = .ok (.iconst 0, 1) := by decide +kernel
theorem dX3_readItem_94 : decode cX3_readItem 94 = .ok (.ireturn, 1) := by decide +kernel
theorem dX3_readItem_95 : decode cX3_readItem 95 = .ok (.iconst 0, 1) := by decide +kernel
theorem dX3_readItem_96 : decode cX3_readItem 96 = .ok (.ireturn, 1) := by decide +kernel
def f_X3_readItem_b95 (M : xMem) : Option (Int32 × xMem) := some ((0 : Int32), M)
def f_X3_readItem_b94 (t94_0 : Int32) (M94 : xMem) : Option (Int32 × xMem) := xchk (xbo t94_0) (some (t94_0, M94))
def f_X3_readItem_b93 (k94 : Int32 → xMem → Option (Int32 × xMem)) (M93 : xMem) : Option (Int32 × xMem) := k94 (0 : Int32) M93
def f_X3_readItem_b47 (M : xMem) : Option (Int32 × xMem) := (if (M 1 0 5) = (101 : Int32) then (if (6 : Int32) ≤ (M 2 0 1) then (f_X3_readItem_b95 M) else xb2 (f_X3_readEgg (M 2 0 1) M) (fun r76 M76 => (if r76 = (0 : Int32) then (f_X3_readItem_b93 (f_X3_readItem_b94)) M76 else xb2 (f_X3_readEnd M76) (fun r83 M83 => (if r83 = (0 : Int32) then (f_X3_readItem_b93 (f_X3_readItem_b94)) M83 else (f_X3_readItem_b94) (1 : Int32) M83))))) else (f_X3_readItem_b95 M))
def f_X3_readItem_b46 (t46_0 : Int32) (M46 : xMem) : Option (Int32 × xMem) := xchk (xbo t46_0) (some (t46_0, M46))
def f_X3_readItem_b45 (k46 : Int32 → xMem → Option (Int32 × xMem)) (M45 : xMem) : Option (Int32 × xMem) := k46 (0 : Int32) M45
def f_X3_readItem (M : xMem) : Option (Int32 × xMem) := (if (M 1 0 5) = (115 : Int32) then (if (5 : Int32) ≤ (M 2 0 0) then (f_X3_readItem_b47 M) else xb2 (f_X3_readScale (M 2 0 0) M) (fun r28 M28 => (if r28 = (0 : Int32) then (f_X3_readItem_b45 (f_X3_readItem_b46)) M28 else xb2 (f_X3_readEnd M28) (fun r35 M35 => (if r35 = (0 : Int32) then (f_X3_readItem_b45 (f_X3_readItem_b46)) M35 else (f_X3_readItem_b46) (1 : Int32) M35))))) else (f_X3_readItem_b47 M))
set_option maxHeartbeats 4000000 in
set_option maxRecDepth 100000 in
theorem w_X3_readItem_b95 {p : Program} {l : Launch} {e : Env} {s : State} {m : MethodId} {args : Array Value} {below : List Frame} {meth : Method} {c : Code} {G : xG} {rr : Int32} {MM : xMem} (E : xE p s m args meth c cX3_readItem 1 (some .boolean) RX3 G) (M : xMem) (L : xLL) : f_X3_readItem_b95 M  = some (rr, MM) → ∀ (ls : Array Slot), lv_has ls 1 [] → ∀ (H : Heap) (locs : List Loc), xI G M L s.heap H locs → W p l e (xR 6) s m args below meth c H locs 0 0 (MQ below (xQi G rr MM L s.heap.size) args s 0 0 (xZ G s.heap.size)) (F0 m 95 ls []) := by
  have hx := E.1
  have hb := E.2.1
  intro  hf ls hl H locs hI
  rw [f_X3_readItem_b95] at hf
  refine lv_iconst (v := 0) hx hb dX3_readItem_95 (by decide) ?_
  obtain ⟨rfl, rfl⟩ := xinj2 hf
  exact x_zret E hI rfl rfl dX3_readItem_96
set_option maxHeartbeats 4000000 in
set_option maxRecDepth 100000 in
theorem w_X3_readItem_b94 {p : Program} {l : Launch} {e : Env} {s : State} {m : MethodId} {args : Array Value} {below : List Frame} {meth : Method} {c : Code} {G : xG} {rr : Int32} {MM : xMem} (E : xE p s m args meth c cX3_readItem 1 (some .boolean) RX3 G) (M : xMem) (L : xLL) : ∀ (t94_0 : Int32) (M94 : xMem), f_X3_readItem_b94 t94_0 M94 = some (rr, MM) → ∀ (ls : Array Slot), lv_has ls 1 [] → ∀ (H : Heap) (locs : List Loc), xI G M94 L s.heap H locs → W p l e (xR 6) s m args below meth c H locs 0 0 (MQ below (xQi G rr MM L s.heap.size) args s 0 0 (xZ G s.heap.size)) (F0 m 94 ls [.int t94_0]) := by
  have hx := E.1
  have hb := E.2.1
  intro t94_0 M94 hf ls hl H locs hI
  rw [f_X3_readItem_b94] at hf
  obtain ⟨h94n, hf⟩ := xchk_s hf
  obtain ⟨rfl, rfl⟩ := xinj2 hf
  exact x_zret E hI (xbo_s h94n) rfl dX3_readItem_94
set_option maxHeartbeats 4000000 in
set_option maxRecDepth 100000 in
theorem w_X3_readItem_b93 {p : Program} {l : Launch} {e : Env} {s : State} {m : MethodId} {args : Array Value} {below : List Frame} {meth : Method} {c : Code} {G : xG} {rr : Int32} {MM : xMem} (E : xE p s m args meth c cX3_readItem 1 (some .boolean) RX3 G) (M : xMem) (L : xLL) (k94 : Int32 → xMem → Option (Int32 × xMem)) (hk94 : ∀ (t94_0 : Int32) (M94 : xMem), k94 t94_0 M94 = some (rr, MM) → ∀ (ls : Array Slot), lv_has ls 1 [] → ∀ (H : Heap) (locs : List Loc), xI G M94 L s.heap H locs → W p l e (xR 6) s m args below meth c H locs 0 0 (MQ below (xQi G rr MM L s.heap.size) args s 0 0 (xZ G s.heap.size)) (F0 m 94 ls [.int t94_0])) : ∀ (M93 : xMem), f_X3_readItem_b93 k94 M93 = some (rr, MM) → ∀ (ls : Array Slot), lv_has ls 1 [] → ∀ (H : Heap) (locs : List Loc), xI G M93 L s.heap H locs → W p l e (xR 6) s m args below meth c H locs 0 0 (MQ below (xQi G rr MM L s.heap.size) args s 0 0 (xZ G s.heap.size)) (F0 m 93 ls []) := by
  have hx := E.1
  have hb := E.2.1
  intro M93 hf ls hl H locs hI
  rw [f_X3_readItem_b93] at hf
  refine lv_iconst (v := 0) hx hb dX3_readItem_93 (by decide) ?_
  exact hk94 (0 : Int32) M93 hf _ (lv_sub hl [] rfl) _ _ hI
set_option maxHeartbeats 4000000 in
set_option maxRecDepth 100000 in
theorem w_X3_readItem_b47 {p : Program} {l : Launch} {e : Env} {s : State} {m : MethodId} {args : Array Value} {below : List Frame} {meth : Method} {c : Code} {G : xG} {rr : Int32} {MM : xMem} (E : xE p s m args meth c cX3_readItem 1 (some .boolean) RX3 G) (M : xMem) (L : xLL) : f_X3_readItem_b47 M  = some (rr, MM) → ∀ (ls : Array Slot), lv_has ls 1 [(0, .ref (xq G 1 0))] → ∀ (H : Heap) (locs : List Loc), xI G M L s.heap H locs → W p l e (xR 6) s m args below meth c H locs 0 0 (MQ below (xQi G rr MM L s.heap.size) args s 0 0 (xZ G s.heap.size)) (F0 m 47 ls []) := by
  have hx := E.1
  have hb := E.2.1
  intro  hf ls hl H locs hI
  rw [f_X3_readItem_b47] at hf
  refine lv_aload_n hx hb dX3_readItem_47 rfl (lv_at hl 0 rfl) ?_
  refine gf_X3_35 E hI dX3_readItem_48 ?_
  refine lv_bipush (v := 101) hx hb dX3_readItem_51 (by decide) ?_
  refine lv_icmp_ne (tgt := 95) hx hb dX3_readItem_53 (by decide) (fun c53 => ?_) (fun c53 => ?_)
  · replace hf := xif_f c53 hf
    exact (w_X3_readItem_b95 E (M := M) (L := L))  hf _ (lv_sub hl [] rfl) _ _ hI
  · replace hf := xif_t c53 hf
    refine lv_aload_n hx hb dX3_readItem_56 rfl (lv_at hl 0 rfl) ?_
    refine gf_X3_18 E hI dX3_readItem_57 ?_
    refine gf_X3_26_2 E hI dX3_readItem_60 ?_
    refine lv_bipush (v := 6) hx hb dX3_readItem_63 (by decide) ?_
    refine lv_icmp_ge (tgt := 95) hx hb dX3_readItem_65 (by decide) (fun c65 => ?_) (fun c65 => ?_)
    · replace hf := xif_t c65 hf
      exact (w_X3_readItem_b95 E (M := M) (L := L))  hf _ (lv_sub hl [] rfl) _ _ hI
    · replace hf := xif_f c65 hf
      refine lv_aload_n hx hb dX3_readItem_68 rfl (lv_at hl 0 rfl) ?_
      refine lv_aload_n hx hb dX3_readItem_69 rfl (lv_at hl 0 rfl) ?_
      refine gf_X3_18 E hI dX3_readItem_70 ?_
      refine gf_X3_26_2 E hI dX3_readItem_73 ?_
      obtain ⟨r76, M76, g76, hf⟩ := xb2_s hf
      refine x_callVi (As := [.int (M 2 0 1)]) (rest := []) E hI mx_1_0 rfl rfl rfl (c_X3_readEgg l G _ (M := M) (L := L) (a1 := (M 2 0 1)) g76) yv_X3_readEgg ml_X3_52 (by decide) (by decide) rfl rfl hl.1 (Nat.le_of_ble_eq_true rfl) dX3_readItem_76 (fun H locs hI => ?_)
      refine lv_if_eq (tgt := 93) hx hb dX3_readItem_79 (by decide) (fun c79 => ?_) (fun c79 => ?_)
      · replace hf := xif_t c79 hf
        exact (w_X3_readItem_b93 E (M := M) (L := L) (k94 := (f_X3_readItem_b94)) (hk94 := (w_X3_readItem_b94 E (M := M) (L := L)))) M76 hf _ (lv_sub hl [] rfl) _ _ hI
      · replace hf := xif_f c79 hf
        refine lv_aload_n hx hb dX3_readItem_82 rfl (lv_at hl 0 rfl) ?_
        obtain ⟨r83, M83, g83, hf⟩ := xb2_s hf
        refine x_callVi (As := []) (rest := []) E hI mx_1_0 rfl rfl rfl (c_X3_readEnd l G _ (M := M76) (L := L) g83) yv_X3_readEnd ml_X3_49 (by decide) (by decide) rfl rfl hl.1 (Nat.le_of_ble_eq_true rfl) dX3_readItem_83 (fun H locs hI => ?_)
        refine lv_if_eq (tgt := 93) hx hb dX3_readItem_86 (by decide) (fun c86 => ?_) (fun c86 => ?_)
        · replace hf := xif_t c86 hf
          exact (w_X3_readItem_b93 E (M := M) (L := L) (k94 := (f_X3_readItem_b94)) (hk94 := (w_X3_readItem_b94 E (M := M) (L := L)))) M83 hf _ (lv_sub hl [] rfl) _ _ hI
        · replace hf := xif_f c86 hf
          refine lv_iconst (v := 1) hx hb dX3_readItem_89 (by decide) ?_
          refine lv_goto (tgt := 94) hx hb dX3_readItem_90 (by decide) ?_
          exact (w_X3_readItem_b94 E (M := M) (L := L)) (1 : Int32) M83 hf _ (lv_sub hl [] rfl) _ _ hI
set_option maxHeartbeats 4000000 in
set_option maxRecDepth 100000 in
theorem w_X3_readItem_b46 {p : Program} {l : Launch} {e : Env} {s : State} {m : MethodId} {args : Array Value} {below : List Frame} {meth : Method} {c : Code} {G : xG} {rr : Int32} {MM : xMem} (E : xE p s m args meth c cX3_readItem 1 (some .boolean) RX3 G) (M : xMem) (L : xLL) : ∀ (t46_0 : Int32) (M46 : xMem), f_X3_readItem_b46 t46_0 M46 = some (rr, MM) → ∀ (ls : Array Slot), lv_has ls 1 [] → ∀ (H : Heap) (locs : List Loc), xI G M46 L s.heap H locs → W p l e (xR 6) s m args below meth c H locs 0 0 (MQ below (xQi G rr MM L s.heap.size) args s 0 0 (xZ G s.heap.size)) (F0 m 46 ls [.int t46_0]) := by
  have hx := E.1
  have hb := E.2.1
  intro t46_0 M46 hf ls hl H locs hI
  rw [f_X3_readItem_b46] at hf
  obtain ⟨h46n, hf⟩ := xchk_s hf
  obtain ⟨rfl, rfl⟩ := xinj2 hf
  exact x_zret E hI (xbo_s h46n) rfl dX3_readItem_46
set_option maxHeartbeats 4000000 in
set_option maxRecDepth 100000 in
theorem w_X3_readItem_b45 {p : Program} {l : Launch} {e : Env} {s : State} {m : MethodId} {args : Array Value} {below : List Frame} {meth : Method} {c : Code} {G : xG} {rr : Int32} {MM : xMem} (E : xE p s m args meth c cX3_readItem 1 (some .boolean) RX3 G) (M : xMem) (L : xLL) (k46 : Int32 → xMem → Option (Int32 × xMem)) (hk46 : ∀ (t46_0 : Int32) (M46 : xMem), k46 t46_0 M46 = some (rr, MM) → ∀ (ls : Array Slot), lv_has ls 1 [] → ∀ (H : Heap) (locs : List Loc), xI G M46 L s.heap H locs → W p l e (xR 6) s m args below meth c H locs 0 0 (MQ below (xQi G rr MM L s.heap.size) args s 0 0 (xZ G s.heap.size)) (F0 m 46 ls [.int t46_0])) : ∀ (M45 : xMem), f_X3_readItem_b45 k46 M45 = some (rr, MM) → ∀ (ls : Array Slot), lv_has ls 1 [] → ∀ (H : Heap) (locs : List Loc), xI G M45 L s.heap H locs → W p l e (xR 6) s m args below meth c H locs 0 0 (MQ below (xQi G rr MM L s.heap.size) args s 0 0 (xZ G s.heap.size)) (F0 m 45 ls []) := by
  have hx := E.1
  have hb := E.2.1
  intro M45 hf ls hl H locs hI
  rw [f_X3_readItem_b45] at hf
  refine lv_iconst (v := 0) hx hb dX3_readItem_45 (by decide) ?_
  exact hk46 (0 : Int32) M45 hf _ (lv_sub hl [] rfl) _ _ hI
set_option maxHeartbeats 4000000 in
set_option maxRecDepth 100000 in
theorem c_X3_readItem (l : Launch) (G : xG) (sz : Nat) (M : xMem) (L : xLL) {rr : Int32} {MM : xMem} (hf : f_X3_readItem M = some (rr, MM)) : Met l yX3_readItem (Cond.code yX3_readItem cX3_readItem 1 (some .boolean) :: xTB) (xR 6) (xP G M L sz [.ref (xq G 1 0)]) (xQi G rr MM L sz) 0 0 (xZ G sz) := by
  refine x_met (cc := cX3_readItem) (nL := 1) (rt := (some .boolean)) (by decide) (Nat.le_of_ble_eq_true rfl) ?_
  intro p e s m below meth c ls hsz E hl hI
  subst hsz
  have E : xE p s m _ meth c cX3_readItem 1 (some .boolean) RX3 G := E
  have hx := E.1
  have hb := E.2.1
  have hl : lv_has ls 1 [(0, .ref (xq G 1 0))] := hl
  rw [f_X3_readItem] at hf
  refine lv_aload_n hx hb dX3_readItem_0 rfl (lv_at hl 0 rfl) ?_
  refine gf_X3_35 E hI dX3_readItem_1 ?_
  refine lv_bipush (v := 115) hx hb dX3_readItem_4 (by decide) ?_
  refine lv_icmp_ne (tgt := 47) hx hb dX3_readItem_6 (by decide) (fun c6 => ?_) (fun c6 => ?_)
  · replace hf := xif_f c6 hf
    exact (w_X3_readItem_b47 E (M := M) (L := L))  hf _ (lv_sub hl [0] rfl) _ _ hI
  · replace hf := xif_t c6 hf
    refine lv_aload_n hx hb dX3_readItem_9 rfl (lv_at hl 0 rfl) ?_
    refine gf_X3_18 E hI dX3_readItem_10 ?_
    refine gf_X3_22_2 E hI dX3_readItem_13 ?_
    refine lv_iconst (v := 5) hx hb dX3_readItem_16 (by decide) ?_
    refine lv_icmp_ge (tgt := 47) hx hb dX3_readItem_17 (by decide) (fun c17 => ?_) (fun c17 => ?_)
    · replace hf := xif_t c17 hf
      exact (w_X3_readItem_b47 E (M := M) (L := L))  hf _ (lv_sub hl [0] rfl) _ _ hI
    · replace hf := xif_f c17 hf
      refine lv_aload_n hx hb dX3_readItem_20 rfl (lv_at hl 0 rfl) ?_
      refine lv_aload_n hx hb dX3_readItem_21 rfl (lv_at hl 0 rfl) ?_
      refine gf_X3_18 E hI dX3_readItem_22 ?_
      refine gf_X3_22_2 E hI dX3_readItem_25 ?_
      obtain ⟨r28, M28, g28, hf⟩ := xb2_s hf
      refine x_callVi (As := [.int (M 2 0 0)]) (rest := []) E hI mx_1_0 rfl rfl rfl (c_X3_readScale l G _ (M := M) (L := L) (a1 := (M 2 0 0)) g28) yv_X3_readScale ml_X3_45 (by decide) (by decide) rfl rfl hl.1 (Nat.le_of_ble_eq_true rfl) dX3_readItem_28 (fun H locs hI => ?_)
      refine lv_if_eq (tgt := 45) hx hb dX3_readItem_31 (by decide) (fun c31 => ?_) (fun c31 => ?_)
      · replace hf := xif_t c31 hf
        exact (w_X3_readItem_b45 E (M := M) (L := L) (k46 := (f_X3_readItem_b46)) (hk46 := (w_X3_readItem_b46 E (M := M) (L := L)))) M28 hf _ (lv_sub hl [] rfl) _ _ hI
      · replace hf := xif_f c31 hf
        refine lv_aload_n hx hb dX3_readItem_34 rfl (lv_at hl 0 rfl) ?_
        obtain ⟨r35, M35, g35, hf⟩ := xb2_s hf
        refine x_callVi (As := []) (rest := []) E hI mx_1_0 rfl rfl rfl (c_X3_readEnd l G _ (M := M28) (L := L) g35) yv_X3_readEnd ml_X3_49 (by decide) (by decide) rfl rfl hl.1 (Nat.le_of_ble_eq_true rfl) dX3_readItem_35 (fun H locs hI => ?_)
        refine lv_if_eq (tgt := 45) hx hb dX3_readItem_38 (by decide) (fun c38 => ?_) (fun c38 => ?_)
        · replace hf := xif_t c38 hf
          exact (w_X3_readItem_b45 E (M := M) (L := L) (k46 := (f_X3_readItem_b46)) (hk46 := (w_X3_readItem_b46 E (M := M) (L := L)))) M35 hf _ (lv_sub hl [] rfl) _ _ hI
        · replace hf := xif_f c38 hf
          refine lv_iconst (v := 1) hx hb dX3_readItem_41 (by decide) ?_
          refine lv_goto (tgt := 46) hx hb dX3_readItem_42 (by decide) ?_
          exact (w_X3_readItem_b46 E (M := M) (L := L)) (1 : Int32) M35 hf _ (lv_sub hl [] rfl) _ _ hI
theorem dX3_readItems_0 : decode cX3_readItems 0 = .ok (.aload_n 0, 1) := by decide +kernel
theorem dX3_readItems_1 : decode cX3_readItems 1 = .ok (.getfield 18, 3) := by decide +kernel
theorem dX3_readItems_4 : decode cX3_readItems 4 = .ok (.iconst 0, 1) := by decide +kernel
theorem dX3_readItems_5 : decode cX3_readItems 5 = .ok (.putfield 22, 3) := by decide +kernel
theorem dX3_readItems_8 : decode cX3_readItems 8 = .ok (.aload_n 0, 1) := by decide +kernel
theorem dX3_readItems_9 : decode cX3_readItems 9 = .ok (.getfield 18, 3) := by decide +kernel
theorem dX3_readItems_12 : decode cX3_readItems 12 = .ok (.iconst 0, 1) := by decide +kernel
theorem dX3_readItems_13 : decode cX3_readItems 13 = .ok (.putfield 26, 3) := by decide +kernel
theorem dX3_readItems_16 : decode cX3_readItems 16 = .ok (.aload_n 0, 1) := by decide +kernel
theorem dX3_readItems_17 : decode cX3_readItems 17 = .ok (.iconst 0, 1) := by decide +kernel
theorem dX3_readItems_18 : decode cX3_readItems 18 = .ok (.putfield 29, 3) := by decide +kernel
theorem dX3_readItems_21 : decode cX3_readItems 21 = .ok (.iconst 0, 1) := by decide +kernel
theorem dX3_readItems_22 : decode cX3_readItems 22 = .ok (.istore_n 1, 1) := by decide +kernel
theorem dX3_readItems_23 : decode cX3_readItems 23 = .ok (.aload_n 0, 1) := by decide +kernel
theorem dX3_readItems_24 : decode cX3_readItems 24 = .ok (.invokevirtual 32, 3) := by decide +kernel
theorem dX3_readItems_27 : decode cX3_readItems 27 = .ok (.iload_n 1, 1) := by decide +kernel
theorem dX3_readItems_28 : decode cX3_readItems 28 = .ok (.bipush 120, 2) := by decide +kernel
theorem dX3_readItems_30 : decode cX3_readItems 30 = .ok (.if_icmp .ge 35, 3) := by decide +kernel
theorem dX3_readItems_33 : decode cX3_readItems 33 = .ok (.aload_n 0, 1) := by decide +kernel
theorem dX3_readItems_34 : decode cX3_readItems 34 = .ok (.getfield 35, 3) := by decide +kernel
theorem dX3_readItems_37 : decode cX3_readItems 37 = .ok (.ifCond .eq 28, 3) := by decide +kernel
theorem dX3_readItems_40 : decode cX3_readItems 40 = .ok (.aload_n 0, 1) := by decide +kernel
theorem dX3_readItems_41 : decode cX3_readItems 41 = .ok (.invokevirtual 38, 3) := by decide +kernel
theorem dX3_readItems_44 : decode cX3_readItems 44 = .ok (.ifCond .ne 11, 3) := by decide +kernel
theorem dX3_readItems_47 : decode cX3_readItems 47 = .ok (.bipush (-10), 2) := by decide +kernel
theorem dX3_readItems_49 : decode cX3_readItems 49 = .ok (.aload_n 0, 1) := by decide +kernel
theorem dX3_readItems_50 : decode cX3_readItems 50 = .ok (.getfield 42, 3) := by decide +kernel
theorem dX3_readItems_53 : decode cX3_readItems 53 = .ok (.isub, 1) := by decide +kernel
theorem dX3_readItems_54 : decode cX3_readItems 54 = .ok (.ireturn, 1) := by decide +kernel
theorem dX3_readItems_55 : decode cX3_readItems 55 = .ok (.iinc 1 1, 3) := by decide +kernel
theorem dX3_readItems_58 : decode cX3_readItems 58 = .ok (.aload_n 0, 1) := by decide +kernel
theorem dX3_readItems_59 : decode cX3_readItems 59 = .ok (.invokevirtual 32, 3) := by decide +kernel
theorem dX3_readItems_62 : decode cX3_readItems 62 = .ok (.goto (-35), 3) := by decide +kernel
theorem dX3_readItems_65 : decode cX3_readItems 65 = .ok (.iload_n 1, 1) := by decide +kernel
theorem dX3_readItems_66 : decode cX3_readItems 66 = .ok (.ireturn, 1) := by decide +kernel
def f_X3_readItems_b65 (v27_1 : Int32) (M27 : xMem) : Option (Int32 × xMem) := some (v27_1, M27)
def f_X3_readItems_l27 : Nat → Int32 → xMem → Option (Int32 × xMem)
  | 0, _, _ => none
  | n + 1, v27_1, M27 => (if (120 : Int32) ≤ v27_1 then (f_X3_readItems_b65 v27_1 M27) else (if (M27 1 0 5) = (0 : Int32) then (f_X3_readItems_b65 v27_1 M27) else xb2 (f_X3_readItem M27) (fun r41 M41 => (if r41 = (0 : Int32) then some (((-10 : Int32) - (M41 1 0 4)), M41) else xb1 (f_X3_readToken M41) (fun M59 => (f_X3_readItems_l27 n) (v27_1 + (1 : Int32)) M59)))))
def f_X3_readItems (M : xMem) : Option (Int32 × xMem) := xlet (xsf M 2 0 (0 : Int32)) (fun M5 => xlet (xsf M5 2 1 (0 : Int32)) (fun M13 => xlet (xsf M13 1 3 (0 : Int32)) (fun M18 => xb1 (f_X3_readToken M18) (fun M24 => (f_X3_readItems_l27 FU) (0 : Int32) M24))))
set_option maxHeartbeats 4000000 in
set_option maxRecDepth 100000 in
theorem w_X3_readItems_b65 {p : Program} {l : Launch} {e : Env} {s : State} {m : MethodId} {args : Array Value} {below : List Frame} {meth : Method} {c : Code} {G : xG} {rr : Int32} {MM : xMem} (E : xE p s m args meth c cX3_readItems 2 (some .int) RX3 G) (M : xMem) (L : xLL) (v27_1 : Int32) (M27 : xMem) : f_X3_readItems_b65 v27_1 M27  = some (rr, MM) → ∀ (ls : Array Slot), lv_has ls 2 [(1, .int v27_1)] → ∀ (H : Heap) (locs : List Loc), xI G M27 L s.heap H locs → W p l e (xR 7) s m args below meth c H locs 0 0 (MQ below (xQi G rr MM L s.heap.size) args s 0 0 (xZ G s.heap.size)) (F0 m 65 ls []) := by
  have hx := E.1
  have hb := E.2.1
  intro  hf ls hl H locs hI
  rw [f_X3_readItems_b65] at hf
  refine lv_iload_n hx hb dX3_readItems_65 rfl (lv_at hl 0 rfl) ?_
  obtain ⟨rfl, rfl⟩ := xinj2 hf
  exact x_iret E hI rfl dX3_readItems_66
set_option maxHeartbeats 4000000 in
set_option maxRecDepth 100000 in
theorem w_X3_readItems_l27 {p : Program} {l : Launch} {e : Env} {s : State} {m : MethodId} {args : Array Value} {below : List Frame} {meth : Method} {c : Code} {G : xG} {rr : Int32} {MM : xMem} (E : xE p s m args meth c cX3_readItems 2 (some .int) RX3 G) (M : xMem) (L : xLL) : ∀ (n : Nat), ∀ (v27_1 : Int32) (M27 : xMem), f_X3_readItems_l27  n v27_1 M27 = some (rr, MM) → ∀ (ls : Array Slot), lv_has ls 2 [(0, .ref (xq G 1 0)), (1, .int v27_1)] → ∀ (H : Heap) (locs : List Loc), xI G M27 L s.heap H locs → W p l e (xR 7) s m args below meth c H locs 0 0 (MQ below (xQi G rr MM L s.heap.size) args s 0 0 (xZ G s.heap.size)) (F0 m 27 ls []) := by
  have hx := E.1
  have hb := E.2.1
  intro n
  induction n with
  | zero =>
    intro v27_1 M27 hf
    exact absurd hf (by simp [f_X3_readItems_l27])
  | succ n ih =>
    intro v27_1 M27 hf ls hl H locs hI
    rw [f_X3_readItems_l27] at hf
    refine lv_iload_n hx hb dX3_readItems_27 rfl (lv_at hl 1 rfl) ?_
    refine lv_bipush (v := 120) hx hb dX3_readItems_28 (by decide) ?_
    refine lv_icmp_ge (tgt := 65) hx hb dX3_readItems_30 (by decide) (fun c30 => ?_) (fun c30 => ?_)
    · replace hf := xif_t c30 hf
      exact (w_X3_readItems_b65 E (M := M) (L := L) (v27_1 := v27_1) (M27 := M27))  hf _ (lv_sub hl [1] rfl) _ _ hI
    · replace hf := xif_f c30 hf
      refine lv_aload_n hx hb dX3_readItems_33 rfl (lv_at hl 0 rfl) ?_
      refine gf_X3_35 E hI dX3_readItems_34 ?_
      refine lv_if_eq (tgt := 65) hx hb dX3_readItems_37 (by decide) (fun c37 => ?_) (fun c37 => ?_)
      · replace hf := xif_t c37 hf
        exact (w_X3_readItems_b65 E (M := M) (L := L) (v27_1 := v27_1) (M27 := M27))  hf _ (lv_sub hl [1] rfl) _ _ hI
      · replace hf := xif_f c37 hf
        refine lv_aload_n hx hb dX3_readItems_40 rfl (lv_at hl 0 rfl) ?_
        obtain ⟨r41, M41, g41, hf⟩ := xb2_s hf
        refine x_callVi (As := []) (rest := []) E hI mx_1_0 rfl rfl rfl (c_X3_readItem l G _ (M := M27) (L := L) g41) yv_X3_readItem ml_X3_38 (by decide) (by decide) rfl rfl hl.1 (Nat.le_of_ble_eq_true rfl) dX3_readItems_41 (fun H locs hI => ?_)
        refine lv_if_ne (tgt := 55) hx hb dX3_readItems_44 (by decide) (fun c44 => ?_) (fun c44 => ?_)
        · replace hf := xif_f c44 hf
          refine lv_iinc (v := (v27_1 + (1 : Int32))) (lv' := [(1, .int (v27_1 + (1 : Int32))), (0, .ref (xq G 1 0))]) hx hb dX3_readItems_55 hl (k := 1) rfl rfl (by decide) rfl (fun ls hl => ?_)
          refine lv_aload_n hx hb dX3_readItems_58 rfl (lv_at hl 1 rfl) ?_
          obtain ⟨M59, g59, hf⟩ := xb1_s hf
          refine x_callVv (As := []) (rest := []) E hI mx_1_0 rfl rfl rfl (c_X3_readToken l G _ (M := M41) (L := L) g59) yv_X3_readToken ml_X3_32 (by decide) (by decide) rfl rfl hl.1 (Nat.le_of_ble_eq_true rfl) dX3_readItems_59 (fun H locs hI => ?_)
          refine lv_goto (tgt := 27) hx hb dX3_readItems_62 (by decide) ?_
          exact ih (v27_1 + (1 : Int32)) M59 hf _ (lv_sub hl [1, 0] rfl) _ _ hI
        · replace hf := xif_t c44 hf
          refine lv_bipush (v := -10) hx hb dX3_readItems_47 (by decide) ?_
          refine lv_aload_n hx hb dX3_readItems_49 rfl (lv_at hl 0 rfl) ?_
          refine gf_X3_42 E hI dX3_readItems_50 ?_
          refine lv_isub hx hb dX3_readItems_53 ?_
          obtain ⟨rfl, rfl⟩ := xinj2 hf
          exact x_iret E hI rfl dX3_readItems_54
set_option maxHeartbeats 4000000 in
set_option maxRecDepth 100000 in
theorem c_X3_readItems (l : Launch) (G : xG) (sz : Nat) (M : xMem) (L : xLL) {rr : Int32} {MM : xMem} (hf : f_X3_readItems M = some (rr, MM)) : Met l yX3_readItems (Cond.code yX3_readItems cX3_readItems 2 (some .int) :: xTB) (xR 7) (xP G M L sz [.ref (xq G 1 0)]) (xQi G rr MM L sz) 0 0 (xZ G sz) := by
  refine x_met (cc := cX3_readItems) (nL := 2) (rt := (some .int)) (by decide) (Nat.le_of_ble_eq_true rfl) ?_
  intro p e s m below meth c ls hsz E hl hI
  subst hsz
  have E : xE p s m _ meth c cX3_readItems 2 (some .int) RX3 G := E
  have hx := E.1
  have hb := E.2.1
  have hl : lv_has ls 2 [(0, .ref (xq G 1 0))] := hl
  rw [f_X3_readItems] at hf
  refine lv_aload_n hx hb dX3_readItems_0 rfl (lv_at hl 0 rfl) ?_
  refine gf_X3_18 E hI dX3_readItems_1 ?_
  refine lv_iconst (v := 0) hx hb dX3_readItems_4 (by decide) ?_
  obtain ⟨M5, e5, hf⟩ := xlet_s hf
  refine pf_X3_22_2 E hI dX3_readItems_5 e5 (fun H locs hI => ?_)
  refine lv_aload_n hx hb dX3_readItems_8 rfl (lv_at hl 0 rfl) ?_
  refine gf_X3_18 E hI dX3_readItems_9 ?_
  refine lv_iconst (v := 0) hx hb dX3_readItems_12 (by decide) ?_
  obtain ⟨M13, e13, hf⟩ := xlet_s hf
  refine pf_X3_26_2 E hI dX3_readItems_13 e13 (fun H locs hI => ?_)
  refine lv_aload_n hx hb dX3_readItems_16 rfl (lv_at hl 0 rfl) ?_
  refine lv_iconst (v := 0) hx hb dX3_readItems_17 (by decide) ?_
  obtain ⟨M18, e18, hf⟩ := xlet_s hf
  refine pf_X3_29 E hI dX3_readItems_18 e18 (fun H locs hI => ?_)
  refine lv_iconst (v := 0) hx hb dX3_readItems_21 (by decide) ?_
  refine lv_istore_n (lv' := [(1, .int (0 : Int32)), (0, .ref (xq G 1 0))]) hx hb dX3_readItems_22 rfl hl (by decide) rfl (fun ls hl => ?_)
  refine lv_aload_n hx hb dX3_readItems_23 rfl (lv_at hl 1 rfl) ?_
  obtain ⟨M24, g24, hf⟩ := xb1_s hf
  refine x_callVv (As := []) (rest := []) E hI mx_1_0 rfl rfl rfl (c_X3_readToken l G _ (M := M18) (L := L) g24) yv_X3_readToken ml_X3_32 (by decide) (by decide) rfl rfl hl.1 (Nat.le_of_ble_eq_true rfl) dX3_readItems_24 (fun H locs hI => ?_)
  exact (w_X3_readItems_l27 E (M := M) (L := L) FU) (0 : Int32) M24 hf _ (lv_sub hl [1, 0] rfl) _ _ hI
