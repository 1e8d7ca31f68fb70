theorem dX8_in_0 : decode cX8_in 0 = .ok (.iload_n 0, 1) := by decide +kernel
theorem dX8_in_1 : decode cX8_in 1 = .ok (.iload_n 1, 1) := by decide +kernel
theorem dX8_in_2 : decode cX8_in 2 = .ok (.if_icmp .lt 12, 3) := by decide +kernel
theorem dX8_in_5 : decode cX8_in 5 = .ok (.iload_n 0, 1) := by decide +kernel
theorem dX8_in_6 : decode cX8_in 6 = .ok (.iload_n 2, 1) := by decide +kernel
theorem dX8_in_7 : decode cX8_in 7 = .ok (.if_icmp .gt 7, 3) := by decide +kernel
theorem dX8_in_10 : decode cX8_in 10 = .ok (.iconst 1, 1) := by decide +kernel
theorem dX8_in_11 : decode cX8_in 11 = .ok (.goto 4, 3) := by decide +kernel
theorem dX8_in_14 : decode cX8_in 14 = .ok (.iconst 0, 1) := by decide +kernel
theorem dX8_in_15 : decode cX8_in 15 = .ok (.ireturn, 1) := by decide +kernel
def f_X8_in_b15 (t15_0 : Int32) : Option (Int32) := xchk (xbo t15_0) (some t15_0)
def f_X8_in_b14 (k15 : Int32 → Option (Int32)) : Option (Int32) := k15 (0 : Int32)
def f_X8_in (a0 : Int32) (a1 : Int32) (a2 : Int32) (M : xMem) : Option (Int32) := (if a0 < a1 then (f_X8_in_b14 (f_X8_in_b15)) else (if a2 < a0 then (f_X8_in_b14 (f_X8_in_b15)) else (f_X8_in_b15) (1 : Int32)))
set_option maxHeartbeats 4000000 in
set_option maxRecDepth 100000 in
theorem w_X8_in_b15 {p : Program} {l : Launch} {e : Env} {s : State} {m : MethodId} {args : Array Value} {below : List Frame} {meth : Method} {c : Code} {G : xG} {rr : Int32} (E : xE p s m args meth c cX8_in 3 (some .boolean) RX8 G) (M : xMem) (L : xLL) : ∀ (t15_0 : Int32), f_X8_in_b15 t15_0 = some rr → ∀ (ls : Array Slot), lv_has ls 3 [] → ∀ (H : Heap) (locs : List Loc), xI G M L s.heap H locs → W p l e (xR 1) s m args below meth c H locs 0 0 (MQ below (xQi G rr M L s.heap.size) args s 0 0 (xZ G s.heap.size)) (F0 m 15 ls [.int t15_0]) := by
  have hx := E.1
  have hb := E.2.1
  intro t15_0 hf ls hl H locs hI
  rw [f_X8_in_b15] at hf
  obtain ⟨h15n, hf⟩ := xchk_s hf
  obtain rfl := xinj1 hf
  exact x_zret E hI (xbo_s h15n) rfl dX8_in_15
set_option maxHeartbeats 4000000 in
set_option maxRecDepth 100000 in
theorem w_X8_in_b14 {p : Program} {l : Launch} {e : Env} {s : State} {m : MethodId} {args : Array Value} {below : List Frame} {meth : Method} {c : Code} {G : xG} {rr : Int32} (E : xE p s m args meth c cX8_in 3 (some .boolean) RX8 G) (M : xMem) (L : xLL) (k15 : Int32 → Option (Int32)) (hk15 : ∀ (t15_0 : Int32), k15 t15_0 = some rr → ∀ (ls : Array Slot), lv_has ls 3 [] → ∀ (H : Heap) (locs : List Loc), xI G M L s.heap H locs → W p l e (xR 1) s m args below meth c H locs 0 0 (MQ below (xQi G rr M L s.heap.size) args s 0 0 (xZ G s.heap.size)) (F0 m 15 ls [.int t15_0])) : f_X8_in_b14 k15  = some rr → ∀ (ls : Array Slot), lv_has ls 3 [] → ∀ (H : Heap) (locs : List Loc), xI G M L s.heap H locs → W p l e (xR 1) s m args below meth c H locs 0 0 (MQ below (xQi G rr M L s.heap.size) args s 0 0 (xZ G s.heap.size)) (F0 m 14 ls []) := by
  have hx := E.1
  have hb := E.2.1
  intro  hf ls hl H locs hI
  rw [f_X8_in_b14] at hf
  refine lv_iconst (v := 0) hx hb dX8_in_14 (by decide) ?_
  exact hk15 (0 : Int32) hf _ (lv_sub hl [] rfl) _ _ hI
set_option maxHeartbeats 4000000 in
set_option maxRecDepth 100000 in
theorem c_X8_in (l : Launch) (G : xG) (sz : Nat) (M : xMem) (L : xLL) (a0 : Int32) (a1 : Int32) (a2 : Int32) {rr : Int32} (hf : f_X8_in a0 a1 a2 M = some rr) : Met l yX8_in (Cond.code yX8_in cX8_in 3 (some .boolean) :: xTB) (xR 1) (xP G M L sz [.int a0, .int a1, .int a2]) (xQi G rr M L sz) 0 0 (xZ G sz) := by
  refine x_met (cc := cX8_in) (nL := 3) (rt := (some .boolean)) (by decide) (Nat.le_of_ble_eq_true rfl) ?_
  intro p e s m below meth c ls hsz E hl hI
  subst hsz
  have E : xE p s m _ meth c cX8_in 3 (some .boolean) RX8 G := E
  have hx := E.1
  have hb := E.2.1
  have hl : lv_has ls 3 [(0, .int a0), (1, .int a1), (2, .int a2)] := hl
  rw [f_X8_in] at hf
  refine lv_iload_n hx hb dX8_in_0 rfl (lv_at hl 0 rfl) ?_
  refine lv_iload_n hx hb dX8_in_1 rfl (lv_at hl 1 rfl) ?_
  refine lv_icmp_lt (tgt := 14) hx hb dX8_in_2 (by decide) (fun c2 => ?_) (fun c2 => ?_)
  · replace hf := xif_t c2 hf
    exact (w_X8_in_b14 E (M := M) (L := L) (k15 := (f_X8_in_b15)) (hk15 := (w_X8_in_b15 E (M := M) (L := L))))  hf _ (lv_sub hl [] rfl) _ _ hI
  · replace hf := xif_f c2 hf
    refine lv_iload_n hx hb dX8_in_5 rfl (lv_at hl 0 rfl) ?_
    refine lv_iload_n hx hb dX8_in_6 rfl (lv_at hl 2 rfl) ?_
    refine lv_icmp_gt (tgt := 14) hx hb dX8_in_7 (by decide) (fun c7 => ?_) (fun c7 => ?_)
    · replace hf := xif_t c7 hf
      exact (w_X8_in_b14 E (M := M) (L := L) (k15 := (f_X8_in_b15)) (hk15 := (w_X8_in_b15 E (M := M) (L := L))))  hf _ (lv_sub hl [] rfl) _ _ hI
    · replace hf := xif_f c7 hf
      refine lv_iconst (v := 1) hx hb dX8_in_10 (by decide) ?_
      refine lv_goto (tgt := 15) hx hb dX8_in_11 (by decide) ?_
      exact (w_X8_in_b15 E (M := M) (L := L)) (1 : Int32) hf _ (lv_sub hl [] rfl) _ _ hI
theorem dX8_has_0 : decode cX8_has 0 = .ok (.iload_n 0, 1) := by decide +kernel
theorem dX8_has_1 : decode cX8_has 1 = .ok (.iload_n 1, 1) := by decide +kernel
theorem dX8_has_2 : decode cX8_has 2 = .ok (.ishr, 1) := by decide +kernel
theorem dX8_has_3 : decode cX8_has 3 = .ok (.iconst 1, 1) := by decide +kernel
theorem dX8_has_4 : decode cX8_has 4 = .ok (.iand, 1) := by decide +kernel
theorem dX8_has_5 : decode cX8_has 5 = .ok (.iconst 1, 1) := by decide +kernel
theorem dX8_has_6 : decode cX8_has 6 = .ok (.if_icmp .ne 7, 3) := by decide +kernel
theorem dX8_has_9 : decode cX8_has 9 = .ok (.iconst 1, 1) := by decide +kernel
theorem dX8_has_10 : decode cX8_has 10 = .ok (.goto 4, 3) := by decide +kernel
theorem dX8_has_13 : decode cX8_has 13 = .ok (.iconst 0, 1) := by decide +kernel
theorem dX8_has_14 : decode cX8_has 14 = .ok (.ireturn, 1) := by decide +kernel
def f_X8_has_b14 (t14_0 : Int32) : Option (Int32) := xchk (xbo t14_0) (some t14_0)
def f_X8_has (a0 : Int32) (a1 : Int32) (M : xMem) : Option (Int32) := (if ((a0 >>> (a1 &&& 31)) &&& (1 : Int32)) = (1 : Int32) then (f_X8_has_b14) (1 : Int32) else (f_X8_has_b14) (0 : Int32))
set_option maxHeartbeats 4000000 in
set_option maxRecDepth 100000 in
theorem w_X8_has_b14 {p : Program} {l : Launch} {e : Env} {s : State} {m : MethodId} {args : Array Value} {below : List Frame} {meth : Method} {c : Code} {G : xG} {rr : Int32} (E : xE p s m args meth c cX8_has 2 (some .boolean) RX8 G) (M : xMem) (L : xLL) : ∀ (t14_0 : Int32), f_X8_has_b14 t14_0 = some rr → ∀ (ls : Array Slot), lv_has ls 2 [] → ∀ (H : Heap) (locs : List Loc), xI G M L s.heap H locs → W p l e (xR 1) s m args below meth c H locs 0 0 (MQ below (xQi G rr M L s.heap.size) args s 0 0 (xZ G s.heap.size)) (F0 m 14 ls [.int t14_0]) := by
  have hx := E.1
  have hb := E.2.1
  intro t14_0 hf ls hl H locs hI
  rw [f_X8_has_b14] at hf
  obtain ⟨h14n, hf⟩ := xchk_s hf
  obtain rfl := xinj1 hf
  exact x_zret E hI (xbo_s h14n) rfl dX8_has_14
set_option maxHeartbeats 4000000 in
set_option maxRecDepth 100000 in
theorem c_X8_has (l : Launch) (G : xG) (sz : Nat) (M : xMem) (L : xLL) (a0 : Int32) (a1 : Int32) {rr : Int32} (hf : f_X8_has a0 a1 M = some rr) : Met l yX8_has (Cond.code yX8_has cX8_has 2 (some .boolean) :: xTB) (xR 1) (xP G M L sz [.int a0, .int a1]) (xQi G rr M L sz) 0 0 (xZ G sz) := by
  refine x_met (cc := cX8_has) (nL := 2) (rt := (some .boolean)) (by decide) (Nat.le_of_ble_eq_true rfl) ?_
  intro p e s m below meth c ls hsz E hl hI
  subst hsz
  have E : xE p s m _ meth c cX8_has 2 (some .boolean) RX8 G := E
  have hx := E.1
  have hb := E.2.1
  have hl : lv_has ls 2 [(0, .int a0), (1, .int a1)] := hl
  rw [f_X8_has] at hf
  refine lv_iload_n hx hb dX8_has_0 rfl (lv_at hl 0 rfl) ?_
  refine lv_iload_n hx hb dX8_has_1 rfl (lv_at hl 1 rfl) ?_
  refine lv_ishr hx hb dX8_has_2 ?_
  refine lv_iconst (v := 1) hx hb dX8_has_3 (by decide) ?_
  refine lv_iand hx hb dX8_has_4 ?_
  refine lv_iconst (v := 1) hx hb dX8_has_5 (by decide) ?_
  refine lv_icmp_ne (tgt := 13) hx hb dX8_has_6 (by decide) (fun c6 => ?_) (fun c6 => ?_)
  · replace hf := xif_f c6 hf
    refine lv_iconst (v := 0) hx hb dX8_has_13 (by decide) ?_
    exact (w_X8_has_b14 E (M := M) (L := L)) (0 : Int32) hf _ (lv_sub hl [] rfl) _ _ hI
  · replace hf := xif_t c6 hf
    refine lv_iconst (v := 1) hx hb dX8_has_9 (by decide) ?_
    refine lv_goto (tgt := 14) hx hb dX8_has_10 (by decide) ?_
    exact (w_X8_has_b14 E (M := M) (L := L)) (1 : Int32) hf _ (lv_sub hl [] rfl) _ _ hI
theorem dX8_bits_0 : decode cX8_bits 0 = .ok (.iconst 0, 1) := by decide +kernel
theorem dX8_bits_1 : decode cX8_bits 1 = .ok (.istore_n 1, 1) := by decide +kernel
theorem dX8_bits_2 : decode cX8_bits 2 = .ok (.iconst 0, 1) := by decide +kernel
theorem dX8_bits_3 : decode cX8_bits 3 = .ok (.istore_n 2, 1) := by decide +kernel
theorem dX8_bits_4 : decode cX8_bits 4 = .ok (.iload_n 2, 1) := by decide +kernel
theorem dX8_bits_5 : decode cX8_bits 5 = .ok (.bipush 6, 2) := by decide +kernel
theorem dX8_bits_7 : decode cX8_bits 7 = .ok (.if_icmp .ge 17, 3) := by decide +kernel
theorem dX8_bits_10 : decode cX8_bits 10 = .ok (.iload_n 1, 1) := by decide +kernel
theorem dX8_bits_11 : decode cX8_bits 11 = .ok (.iload_n 0, 1) := by decide +kernel
theorem dX8_bits_12 : decode cX8_bits 12 = .ok (.iload_n 2, 1) := by decide +kernel
theorem dX8_bits_13 : decode cX8_bits 13 = .ok (.ishr, 1) := by decide +kernel
theorem dX8_bits_14 : decode cX8_bits 14 = .ok (.iconst 1, 1) := by decide +kernel
theorem dX8_bits_15 : decode cX8_bits 15 = .ok (.iand, 1) := by decide +kernel
theorem dX8_bits_16 : decode cX8_bits 16 = .ok (.iadd, 1) := by decide +kernel
theorem dX8_bits_17 : decode cX8_bits 17 = .ok (.istore_n 1, 1) := by decide +kernel
theorem dX8_bits_18 : decode cX8_bits 18 = .ok (.iinc 2 1, 3) := by decide +kernel
theorem dX8_bits_21 : decode cX8_bits 21 = .ok (.goto (-17), 3) := by decide +kernel
theorem dX8_bits_24 : decode cX8_bits 24 = .ok (.iload_n 1, 1) := by decide +kernel
theorem dX8_bits_25 : decode cX8_bits 25 = .ok (.ireturn, 1) := by decide +kernel
def f_X8_bits_l4 (a0 : Int32) : Nat → Int32 → Int32 → Option (Int32)
  | 0, _, _ => none
  | n + 1, v4_1, v4_2 => (if (6 : Int32) ≤ v4_2 then some v4_1 else (f_X8_bits_l4 a0 n) (v4_1 + ((a0 >>> (v4_2 &&& 31)) &&& (1 : Int32))) (v4_2 + (1 : Int32)))
def f_X8_bits (a0 : Int32) (M : xMem) : Option (Int32) := (f_X8_bits_l4 a0 FU) (0 : Int32) (0 : Int32)
set_option maxHeartbeats 4000000 in
set_option maxRecDepth 100000 in
theorem w_X8_bits_l4 {p : Program} {l : Launch} {e : Env} {s : State} {m : MethodId} {args : Array Value} {below : List Frame} {meth : Method} {c : Code} {G : xG} {rr : Int32} (E : xE p s m args meth c cX8_bits 3 (some .int) RX8 G) (a0 : Int32) (M : xMem) (L : xLL) : ∀ (n : Nat), ∀ (v4_1 : Int32) (v4_2 : Int32), f_X8_bits_l4 a0 n v4_1 v4_2 = some rr → ∀ (ls : Array Slot), lv_has ls 3 [(0, .int a0), (1, .int v4_1), (2, .int v4_2)] → ∀ (H : Heap) (locs : List Loc), xI G M L s.heap H locs → W p l e (xR 1) s m args below meth c H locs 0 0 (MQ below (xQi G rr M L s.heap.size) args s 0 0 (xZ G s.heap.size)) (F0 m 4 ls []) := by
  have hx := E.1
  have hb := E.2.1
  intro n
  induction n with
  | zero =>
    intro v4_1 v4_2 hf
    exact absurd hf (by simp [f_X8_bits_l4])
  | succ n ih =>
    intro v4_1 v4_2 hf ls hl H locs hI
    rw [f_X8_bits_l4] at hf
    refine lv_iload_n hx hb dX8_bits_4 rfl (lv_at hl 2 rfl) ?_
    refine lv_bipush (v := 6) hx hb dX8_bits_5 (by decide) ?_
    refine lv_icmp_ge (tgt := 24) hx hb dX8_bits_7 (by decide) (fun c7 => ?_) (fun c7 => ?_)
    · replace hf := xif_t c7 hf
      refine lv_iload_n hx hb dX8_bits_24 rfl (lv_at hl 1 rfl) ?_
      obtain rfl := xinj1 hf
      exact x_iret E hI rfl dX8_bits_25
    · replace hf := xif_f c7 hf
      refine lv_iload_n hx hb dX8_bits_10 rfl (lv_at hl 1 rfl) ?_
      refine lv_iload_n hx hb dX8_bits_11 rfl (lv_at hl 0 rfl) ?_
      refine lv_iload_n hx hb dX8_bits_12 rfl (lv_at hl 2 rfl) ?_
      refine lv_ishr hx hb dX8_bits_13 ?_
      refine lv_iconst (v := 1) hx hb dX8_bits_14 (by decide) ?_
      refine lv_iand hx hb dX8_bits_15 ?_
      refine lv_iadd hx hb dX8_bits_16 ?_
      refine lv_istore_n (lv' := [(1, .int (v4_1 + ((a0 >>> (v4_2 &&& 31)) &&& (1 : Int32)))), (0, .int a0), (2, .int v4_2)]) hx hb dX8_bits_17 rfl hl (by decide) rfl (fun ls hl => ?_)
      refine lv_iinc (v := (v4_2 + (1 : Int32))) (lv' := [(2, .int (v4_2 + (1 : Int32))), (1, .int (v4_1 + ((a0 >>> (v4_2 &&& 31)) &&& (1 : Int32)))), (0, .int a0)]) hx hb dX8_bits_18 hl (k := 2) rfl rfl (by decide) rfl (fun ls hl => ?_)
      refine lv_goto (tgt := 4) hx hb dX8_bits_21 (by decide) ?_
      exact ih (v4_1 + ((a0 >>> (v4_2 &&& 31)) &&& (1 : Int32))) (v4_2 + (1 : Int32)) hf _ (lv_sub hl [2, 1, 0] rfl) _ _ hI
set_option maxHeartbeats 4000000 in
set_option maxRecDepth 100000 in
theorem c_X8_bits (l : Launch) (G : xG) (sz : Nat) (M : xMem) (L : xLL) (a0 : Int32) {rr : Int32} (hf : f_X8_bits a0 M = some rr) : Met l yX8_bits (Cond.code yX8_bits cX8_bits 3 (some .int) :: xTB) (xR 1) (xP G M L sz [.int a0]) (xQi G rr M L sz) 0 0 (xZ G sz) := by
  refine x_met (cc := cX8_bits) (nL := 3) (rt := (some .int)) (by decide) (Nat.le_of_ble_eq_true rfl) ?_
  intro p e s m below meth c ls hsz E hl hI
  subst hsz
  have E : xE p s m _ meth c cX8_bits 3 (some .int) RX8 G := E
  have hx := E.1
  have hb := E.2.1
  have hl : lv_has ls 3 [(0, .int a0)] := hl
  rw [f_X8_bits] at hf
  refine lv_iconst (v := 0) hx hb dX8_bits_0 (by decide) ?_
  refine lv_istore_n (lv' := [(1, .int (0 : Int32)), (0, .int a0)]) hx hb dX8_bits_1 rfl hl (by decide) rfl (fun ls hl => ?_)
  refine lv_iconst (v := 0) hx hb dX8_bits_2 (by decide) ?_
  refine lv_istore_n (lv' := [(2, .int (0 : Int32)), (1, .int (0 : Int32)), (0, .int a0)]) hx hb dX8_bits_3 rfl hl (by decide) rfl (fun ls hl => ?_)
  exact (w_X8_bits_l4 E (a0 := a0) (M := M) (L := L) FU) (0 : Int32) (0 : Int32) hf _ (lv_sub hl [2, 1, 0] rfl) _ _ hI
theorem dX8_isScale_0 : decode cX8_isScale 0 = .ok (.iload_n 1, 1) := by decide +kernel
theorem dX8_isScale_1 : decode cX8_isScale 1 = .ok (.iconst 0, 1) := by decide +kernel
theorem dX8_isScale_2 : decode cX8_isScale 2 = .ok (.aload_n 0, 1) := by decide +kernel
theorem dX8_isScale_3 : decode cX8_isScale 3 = .ok (.getfield 62, 3) := by decide +kernel
theorem dX8_isScale_6 : decode cX8_isScale 6 = .ok (.iconst 1, 1) := by decide +kernel
theorem dX8_isScale_7 : decode cX8_isScale 7 = .ok (.isub, 1) := by decide +kernel
theorem dX8_isScale_8 : decode cX8_isScale 8 = .ok (.invokestatic 66, 3) := by decide +kernel
theorem dX8_isScale_11 : decode cX8_isScale 11 = .ok (.ireturn, 1) := by decide +kernel
def f_X8_isScale (a1 : Int32) (M : xMem) : Option (Int32) := xb1 (f_X8_in a1 (0 : Int32) ((M 8 0 0) - (1 : Int32)) M) (fun r8 => xchk (xbo r8) (some r8))
set_option maxHeartbeats 4000000 in
set_option maxRecDepth 100000 in
theorem c_X8_isScale (l : Launch) (G : xG) (sz : Nat) (M : xMem) (L : xLL) (a1 : Int32) {rr : Int32} (hf : f_X8_isScale a1 M = some rr) : Met l yX8_isScale (Cond.code yX8_isScale cX8_isScale 2 (some .boolean) :: xTB) (xR 2) (xP G M L sz [.ref (xq G 8 0), .int a1]) (xQi G rr M L sz) 0 0 (xZ G sz) := by
  refine x_met (cc := cX8_isScale) (nL := 2) (rt := (some .boolean)) (by decide) (Nat.le_of_ble_eq_true rfl) ?_
  intro p e s m below meth c ls hsz E hl hI
  subst hsz
  have E : xE p s m _ meth c cX8_isScale 2 (some .boolean) RX8 G := E
  have hx := E.1
  have hb := E.2.1
  have hl : lv_has ls 2 [(0, .ref (xq G 8 0)), (1, .int a1)] := hl
  rw [f_X8_isScale] at hf
  refine lv_iload_n hx hb dX8_isScale_0 rfl (lv_at hl 1 rfl) ?_
  refine lv_iconst (v := 0) hx hb dX8_isScale_1 (by decide) ?_
  refine lv_aload_n hx hb dX8_isScale_2 rfl (lv_at hl 0 rfl) ?_
  refine gf_X8_62 E hI dX8_isScale_3 ?_
  refine lv_iconst (v := 1) hx hb dX8_isScale_6 (by decide) ?_
  refine lv_isub hx hb dX8_isScale_7 ?_
  obtain ⟨r8, g8, hf⟩ := xb1_s hf
  refine x_callSi (As := [.int a1, .int (0 : Int32), .int ((M 8 0 0) - (1 : Int32))]) (rest := []) E hI (c_X8_in l G _ (M := M) (L := L) (a0 := a1) (a1 := (0 : Int32)) (a2 := ((M 8 0 0) - (1 : Int32))) g8) ys_X8_in ml_X8_66 (by decide) (by decide) rfl rfl hl.1 (Nat.le_of_ble_eq_true rfl) dX8_isScale_8 (fun H locs hI => ?_)
  obtain ⟨h11n, hf⟩ := xchk_s hf
  obtain rfl := xinj1 hf
  exact x_zret E hI (xbo_s h11n) rfl dX8_isScale_11
theorem dX8_isEgg_0 : decode cX8_isEgg 0 = .ok (.iload_n 1, 1) := by decide +kernel
theorem dX8_isEgg_1 : decode cX8_isEgg 1 = .ok (.iconst 0, 1) := by decide +kernel
theorem dX8_isEgg_2 : decode cX8_isEgg 2 = .ok (.aload_n 0, 1) := by decide +kernel
theorem dX8_isEgg_3 : decode cX8_isEgg 3 = .ok (.getfield 70, 3) := by decide +kernel
theorem dX8_isEgg_6 : decode cX8_isEgg 6 = .ok (.iconst 1, 1) := by decide +kernel
theorem dX8_isEgg_7 : decode cX8_isEgg 7 = .ok (.isub, 1) := by decide +kernel
theorem dX8_isEgg_8 : decode cX8_isEgg 8 = .ok (.invokestatic 66, 3) := by decide +kernel
theorem dX8_isEgg_11 : decode cX8_isEgg 11 = .ok (.ireturn, 1) := by decide +kernel
def f_X8_isEgg (a1 : Int32) (M : xMem) : Option (Int32) := xb1 (f_X8_in a1 (0 : Int32) ((M 8 0 4) - (1 : Int32)) M) (fun r8 => xchk (xbo r8) (some r8))
set_option maxHeartbeats 4000000 in
set_option maxRecDepth 100000 in
theorem c_X8_isEgg (l : Launch) (G : xG) (sz : Nat) (M : xMem) (L : xLL) (a1 : Int32) {rr : Int32} (hf : f_X8_isEgg a1 M = some rr) : Met l yX8_isEgg (Cond.code yX8_isEgg cX8_isEgg 2 (some .boolean) :: xTB) (xR 2) (xP G M L sz [.ref (xq G 8 0), .int a1]) (xQi G rr M L sz) 0 0 (xZ G sz) := by
  refine x_met (cc := cX8_isEgg) (nL := 2) (rt := (some .boolean)) (by decide) (Nat.le_of_ble_eq_true rfl) ?_
  intro p e s m below meth c ls hsz E hl hI
  subst hsz
  have E : xE p s m _ meth c cX8_isEgg 2 (some .boolean) RX8 G := E
  have hx := E.1
  have hb := E.2.1
  have hl : lv_has ls 2 [(0, .ref (xq G 8 0)), (1, .int a1)] := hl
  rw [f_X8_isEgg] at hf
  refine lv_iload_n hx hb dX8_isEgg_0 rfl (lv_at hl 1 rfl) ?_
  refine lv_iconst (v := 0) hx hb dX8_isEgg_1 (by decide) ?_
  refine lv_aload_n hx hb dX8_isEgg_2 rfl (lv_at hl 0 rfl) ?_
  refine gf_X8_70 E hI dX8_isEgg_3 ?_
  refine lv_iconst (v := 1) hx hb dX8_isEgg_6 (by decide) ?_
  refine lv_isub hx hb dX8_isEgg_7 ?_
  obtain ⟨r8, g8, hf⟩ := xb1_s hf
  refine x_callSi (As := [.int a1, .int (0 : Int32), .int ((M 8 0 4) - (1 : Int32))]) (rest := []) E hI (c_X8_in l G _ (M := M) (L := L) (a0 := a1) (a1 := (0 : Int32)) (a2 := ((M 8 0 4) - (1 : Int32))) g8) ys_X8_in ml_X8_66 (by decide) (by decide) rfl rfl hl.1 (Nat.le_of_ble_eq_true rfl) dX8_isEgg_8 (fun H locs hI => ?_)
  obtain ⟨h11n, hf⟩ := xchk_s hf
  obtain rfl := xinj1 hf
  exact x_zret E hI (xbo_s h11n) rfl dX8_isEgg_11
theorem dX8_copy_0 : decode cX8_copy 0 = .ok (.iconst 0, 1) := by decide +kernel
theorem dX8_copy_1 : decode cX8_copy 1 = .ok (.istore 4, 2) := by decide +kernel
theorem dX8_copy_3 : decode cX8_copy 3 = .ok (.iload 4, 2) := by decide +kernel
theorem dX8_copy_5 : decode cX8_copy 5 = .ok (.bipush 27, 2) := by decide +kernel
theorem dX8_copy_7 : decode cX8_copy 7 = .ok (.if_icmp .ge 21, 3) := by decide +kernel
theorem dX8_copy_10 : decode cX8_copy 10 = .ok (.aload_n 0, 1) := by decide +kernel
theorem dX8_copy_11 : decode cX8_copy 11 = .ok (.iload_n 1, 1) := by decide +kernel
theorem dX8_copy_12 : decode cX8_copy 12 = .ok (.iload 4, 2) := by decide +kernel
theorem dX8_copy_14 : decode cX8_copy 14 = .ok (.iadd, 1) := by decide +kernel
theorem dX8_copy_15 : decode cX8_copy 15 = .ok (.aload_n 2, 1) := by decide +kernel
theorem dX8_copy_16 : decode cX8_copy 16 = .ok (.iload_n 3, 1) := by decide +kernel
theorem dX8_copy_17 : decode cX8_copy 17 = .ok (.iload 4, 2) := by decide +kernel
theorem dX8_copy_19 : decode cX8_copy 19 = .ok (.iadd, 1) := by decide +kernel
theorem dX8_copy_20 : decode cX8_copy 20 = .ok (.iaload, 1) := by decide +kernel
theorem dX8_copy_21 : decode cX8_copy 21 = .ok (.iastore, 1) := by decide +kernel
theorem dX8_copy_22 : decode cX8_copy 22 = .ok (.iinc 4 1, 3) := by decide +kernel
theorem dX8_copy_25 : decode cX8_copy 25 = .ok (.goto (-22), 3) := by decide +kernel
theorem dX8_copy_28 : decode cX8_copy 28 = .ok (.return_, 1) := by decide +kernel
def f_X8_copy_l3 (o0 : Nat) (r0 : Nat) (n0 : Nat) (a1 : Int32) (o2 : Nat) (r2 : Nat) (n2 : Nat) (a3 : Int32) : Nat → Int32 → xMem → Option (xMem)
  | 0, _, _ => none
  | n + 1, v3_4, M3 => (if (27 : Int32) ≤ v3_4 then some M3 else xchk (xb (a3 + v3_4) n2) (xchk (xb (a1 + v3_4) n0) (xlet (xst M3 o0 r0 (a1 + v3_4) (M3 o2 r2 (a3 + v3_4).toNatClampNeg)) (fun M21 => (f_X8_copy_l3 o0 r0 n0 a1 o2 r2 n2 a3 n) (v3_4 + (1 : Int32)) M21))))
def f_X8_copy (o0 : Nat) (r0 : Nat) (n0 : Nat) (a1 : Int32) (o2 : Nat) (r2 : Nat) (n2 : Nat) (a3 : Int32) (M : xMem) : Option (xMem) := (f_X8_copy_l3 o0 r0 n0 a1 o2 r2 n2 a3 FU) (0 : Int32) M
set_option maxHeartbeats 4000000 in
set_option maxRecDepth 100000 in
theorem w_X8_copy_l3 {p : Program} {l : Launch} {e : Env} {s : State} {m : MethodId} {args : Array Value} {below : List Frame} {meth : Method} {c : Code} {G : xG} {MM : xMem} (E : xE p s m args meth c cX8_copy 5 none RX8 G) (o0 : Nat) (r0 : Nat) (n0 : Nat) (a1 : Int32) (o2 : Nat) (r2 : Nat) (n2 : Nat) (a3 : Int32) (M : xMem) (L : xLL) (hm0 : (o0, r0) ∈ ixs) (hc0 : ∀ w v, xc G o0 r0 w v = .inl (xk G 0, n0, .inl w)) (hm2 : (o2, r2) ∈ ixs) (hc2 : ∀ w v, xc G o2 r2 w v = .inl (xk G 0, n2, .inl w)) : ∀ (n : Nat), ∀ (v3_4 : Int32) (M3 : xMem), f_X8_copy_l3 o0 r0 n0 a1 o2 r2 n2 a3 n v3_4 M3 = some MM → ∀ (ls : Array Slot), lv_has ls 5 [(0, .ref (xq G o0 r0)), (1, .int a1), (2, .ref (xq G o2 r2)), (3, .int a3), (4, .int v3_4)] → ∀ (H : Heap) (locs : List Loc), xI G M3 L s.heap H locs → W p l e (xR 1) s m args below meth c H locs 0 0 (MQ below (xQv G MM L s.heap.size) args s 0 0 (xZ G s.heap.size)) (F0 m 3 ls []) := by
  have hx := E.1
  have hb := E.2.1
  intro n
  induction n with
  | zero =>
    intro v3_4 M3 hf
    exact absurd hf (by simp [f_X8_copy_l3])
  | succ n ih =>
    intro v3_4 M3 hf ls hl H locs hI
    rw [f_X8_copy_l3] at hf
    refine lv_iload hx hb dX8_copy_3 (lv_at hl 4 rfl) ?_
    refine lv_bipush (v := 27) hx hb dX8_copy_5 (by decide) ?_
    refine lv_icmp_ge (tgt := 28) hx hb dX8_copy_7 (by decide) (fun c7 => ?_) (fun c7 => ?_)
    · replace hf := xif_t c7 hf
      obtain rfl := xinj1 hf
      exact x_vret E hI dX8_copy_28
    · replace hf := xif_f c7 hf
      refine lv_aload_n hx hb dX8_copy_10 rfl (lv_at hl 0 rfl) ?_
      refine lv_iload_n hx hb dX8_copy_11 rfl (lv_at hl 1 rfl) ?_
      refine lv_iload hx hb dX8_copy_12 (lv_at hl 4 rfl) ?_
      refine lv_iadd hx hb dX8_copy_14 ?_
      refine lv_aload_n hx hb dX8_copy_15 rfl (lv_at hl 2 rfl) ?_
      refine lv_iload_n hx hb dX8_copy_16 rfl (lv_at hl 3 rfl) ?_
      refine lv_iload hx hb dX8_copy_17 (lv_at hl 4 rfl) ?_
      refine lv_iadd hx hb dX8_copy_19 ?_
      obtain ⟨h20b, hf⟩ := xchk_s hf
      refine x_iald (n := n2) E hI hm2 hc2 h20b dX8_copy_20 ?_
      obtain ⟨h21b, hf⟩ := xchk_s hf
      obtain ⟨M21, e21, hf⟩ := xlet_s hf
      refine x_iast (n := n0) E hI hm0 hc0 h21b dX8_copy_21 e21 (fun H locs hI => ?_)
      refine lv_iinc (v := (v3_4 + (1 : Int32))) (lv' := [(4, .int (v3_4 + (1 : Int32))), (0, .ref (xq G o0 r0)), (1, .int a1), (2, .ref (xq G o2 r2)), (3, .int a3)]) hx hb dX8_copy_22 hl (k := 4) rfl rfl (by decide) rfl (fun ls hl => ?_)
      refine lv_goto (tgt := 3) hx hb dX8_copy_25 (by decide) ?_
      exact ih (v3_4 + (1 : Int32)) M21 hf _ (lv_sub hl [1, 2, 3, 4, 0] rfl) _ _ hI
set_option maxHeartbeats 4000000 in
set_option maxRecDepth 100000 in
theorem c_X8_copy (l : Launch) (G : xG) (sz : Nat) (M : xMem) (L : xLL) (o0 : Nat) (r0 : Nat) (n0 : Nat) (a1 : Int32) (o2 : Nat) (r2 : Nat) (n2 : Nat) (a3 : Int32) (hm0 : (o0, r0) ∈ ixs) (hc0 : ∀ w v, xc G o0 r0 w v = .inl (xk G 0, n0, .inl w)) (hm2 : (o2, r2) ∈ ixs) (hc2 : ∀ w v, xc G o2 r2 w v = .inl (xk G 0, n2, .inl w)) {MM : xMem} (hf : f_X8_copy o0 r0 n0 a1 o2 r2 n2 a3 M = some MM) : Met l yX8_copy (Cond.code yX8_copy cX8_copy 5 none :: xTB) (xR 1) (xP G M L sz [.ref (xq G o0 r0), .int a1, .ref (xq G o2 r2), .int a3]) (xQv G MM L sz) 0 0 (xZ G sz) := by
  refine x_met (cc := cX8_copy) (nL := 5) (rt := none) (by decide) (Nat.le_of_ble_eq_true rfl) ?_
  intro p e s m below meth c ls hsz E hl hI
  subst hsz
  have E : xE p s m _ meth c cX8_copy 5 none RX8 G := E
  have hx := E.1
  have hb := E.2.1
  have hl : lv_has ls 5 [(0, .ref (xq G o0 r0)), (1, .int a1), (2, .ref (xq G o2 r2)), (3, .int a3)] := hl
  rw [f_X8_copy] at hf
  refine lv_iconst (v := 0) hx hb dX8_copy_0 (by decide) ?_
  refine lv_istore (lv' := [(4, .int (0 : Int32)), (0, .ref (xq G o0 r0)), (1, .int a1), (2, .ref (xq G o2 r2)), (3, .int a3)]) hx hb dX8_copy_1 hl (by decide) rfl (fun ls hl => ?_)
  exact (w_X8_copy_l3 E (o0 := o0) (r0 := r0) (n0 := n0) (a1 := a1) (o2 := o2) (r2 := r2) (n2 := n2) (a3 := a3) (M := M) (L := L) (hm0 := hm0) (hc0 := hc0) (hm2 := hm2) (hc2 := hc2) FU) (0 : Int32) M hf _ (lv_sub hl [1, 2, 3, 4, 0] rfl) _ _ hI
theorem dX8_type_0 : decode cX8_type 0 = .ok (.iload_n 1, 1) := by decide +kernel
theorem dX8_type_1 : decode cX8_type 1 = .ok (.iconst 0, 1) := by decide +kernel
theorem dX8_type_2 : decode cX8_type 2 = .ok (.sipush 255, 3) := by decide +kernel
theorem dX8_type_5 : decode cX8_type 5 = .ok (.invokestatic 66, 3) := by decide +kernel
theorem dX8_type_8 : decode cX8_type 8 = .ok (.ifCond .ne 5, 3) := by decide +kernel
theorem dX8_type_11 : decode cX8_type 11 = .ok (.iconst (-1), 1) := by decide +kernel
theorem dX8_type_12 : decode cX8_type 12 = .ok (.ireturn, 1) := by decide +kernel
theorem dX8_type_13 : decode cX8_type 13 = .ok (.aload_n 0, 1) := by decide +kernel
theorem dX8_type_14 : decode cX8_type 14 = .ok (.getfield 73, 3) := by decide +kernel
theorem dX8_type_17 : decode cX8_type 17 = .ok (.bipush 120, 2) := by decide +kernel
theorem dX8_type_19 : decode cX8_type 19 = .ok (.if_icmp .ne 6, 3) := by decide +kernel
theorem dX8_type_22 : decode cX8_type 22 = .ok (.bipush (-3), 2) := by decide +kernel
theorem dX8_type_24 : decode cX8_type 24 = .ok (.ireturn, 1) := by decide +kernel
theorem dX8_type_25 : decode cX8_type 25 = .ok (.aload_n 0, 1) := by decide +kernel
theorem dX8_type_26 : decode cX8_type 26 = .ok (.getfield 38, 3) := by decide +kernel
theorem dX8_type_29 : decode cX8_type 29 = .ok (.aload_n 0, 1) := by decide +kernel
theorem dX8_type_30 : decode cX8_type 30 = .ok (.getfield 73, 3) := by decide +kernel
theorem dX8_type_33 : decode cX8_type 33 = .ok (.iload_n 1, 1) := by decide +kernel
theorem dX8_type_34 : decode cX8_type 34 = .ok (.iastore, 1) := by decide +kernel
theorem dX8_type_35 : decode cX8_type 35 = .ok (.aload_n 0, 1) := by decide +kernel
theorem dX8_type_36 : decode cX8_type 36 = .ok (.dup, 1) := by decide +kernel
theorem dX8_type_37 : decode cX8_type 37 = .ok (.getfield 73, 3) := by decide +kernel
theorem dX8_type_40 : decode cX8_type 40 = .ok (.iconst 1, 1) := by decide +kernel
theorem dX8_type_41 : decode cX8_type 41 = .ok (.iadd, 1) := by decide +kernel
theorem dX8_type_42 : decode cX8_type 42 = .ok (.putfield 73, 3) := by decide +kernel
theorem dX8_type_45 : decode cX8_type 45 = .ok (.aload_n 0, 1) := by decide +kernel
theorem dX8_type_46 : decode cX8_type 46 = .ok (.getfield 73, 3) := by decide +kernel
theorem dX8_type_49 : decode cX8_type 49 = .ok (.ireturn, 1) := by decide +kernel
def f_X8_type (a1 : Int32) (M : xMem) : Option (Int32 × xMem) := xb1 (f_X8_in a1 (0 : Int32) (255 : Int32) M) (fun r5 => (if r5 = (0 : Int32) then some ((-1 : Int32), M) else (if (M 8 0 15) = (120 : Int32) then some ((-3 : Int32), M) else xchk (xb (M 8 0 15) 120) (xlet (xst M 8 15 (M 8 0 15) a1) (fun M34 => xlet (xsf M34 8 15 ((M34 8 0 15) + (1 : Int32))) (fun M42 => some ((M42 8 0 15), M42)))))))
set_option maxHeartbeats 4000000 in
set_option maxRecDepth 100000 in
theorem c_X8_type (l : Launch) (G : xG) (sz : Nat) (M : xMem) (L : xLL) (a1 : Int32) {rr : Int32} {MM : xMem} (hf : f_X8_type a1 M = some (rr, MM)) : Met l yX8_type (Cond.code yX8_type cX8_type 2 (some .int) :: xTB) (xR 2) (xP G M L sz [.ref (xq G 8 0), .int a1]) (xQi G rr MM L sz) 0 0 (xZ G sz) := by
  refine x_met (cc := cX8_type) (nL := 2) (rt := (some .int)) (by decide) (Nat.le_of_ble_eq_true rfl) ?_
  intro p e s m below meth c ls hsz E hl hI
  subst hsz
  have E : xE p s m _ meth c cX8_type 2 (some .int) RX8 G := E
  have hx := E.1
  have hb := E.2.1
  have hl : lv_has ls 2 [(0, .ref (xq G 8 0)), (1, .int a1)] := hl
  rw [f_X8_type] at hf
  refine lv_iload_n hx hb dX8_type_0 rfl (lv_at hl 1 rfl) ?_
  refine lv_iconst (v := 0) hx hb dX8_type_1 (by decide) ?_
  refine lv_sipush (v := 255) hx hb dX8_type_2 (by decide) ?_
  obtain ⟨r5, g5, hf⟩ := xb1_s hf
  refine x_callSi (As := [.int a1, .int (0 : Int32), .int (255 : Int32)]) (rest := []) E hI (c_X8_in l G _ (M := M) (L := L) (a0 := a1) (a1 := (0 : Int32)) (a2 := (255 : Int32)) g5) ys_X8_in ml_X8_66 (by decide) (by decide) rfl rfl hl.1 (Nat.le_of_ble_eq_true rfl) dX8_type_5 (fun H locs hI => ?_)
  refine lv_if_ne (tgt := 13) hx hb dX8_type_8 (by decide) (fun c8 => ?_) (fun c8 => ?_)
  · replace hf := xif_f c8 hf
    refine lv_aload_n hx hb dX8_type_13 rfl (lv_at hl 0 rfl) ?_
    refine gf_X8_73 E hI dX8_type_14 ?_
    refine lv_bipush (v := 120) hx hb dX8_type_17 (by decide) ?_
    refine lv_icmp_ne (tgt := 25) hx hb dX8_type_19 (by decide) (fun c19 => ?_) (fun c19 => ?_)
    · replace hf := xif_f c19 hf
      refine lv_aload_n hx hb dX8_type_25 rfl (lv_at hl 0 rfl) ?_
      refine gf_X8_38 E hI dX8_type_26 ?_
      refine lv_aload_n hx hb dX8_type_29 rfl (lv_at hl 0 rfl) ?_
      refine gf_X8_73 E hI dX8_type_30 ?_
      refine lv_iload_n hx hb dX8_type_33 rfl (lv_at hl 1 rfl) ?_
      obtain ⟨h34b, hf⟩ := xchk_s hf
      obtain ⟨M34, e34, hf⟩ := xlet_s hf
      refine x_iast (n := 120) E hI mx_8_15 (fun _ _ => rfl) h34b dX8_type_34 e34 (fun H locs hI => ?_)
      refine lv_aload_n hx hb dX8_type_35 rfl (lv_at hl 0 rfl) ?_
      refine lv_dup hx hb dX8_type_36 rfl ?_
      refine gf_X8_73 E hI dX8_type_37 ?_
      refine lv_iconst (v := 1) hx hb dX8_type_40 (by decide) ?_
      refine lv_iadd hx hb dX8_type_41 ?_
      obtain ⟨M42, e42, hf⟩ := xlet_s hf
      refine pf_X8_73 E hI dX8_type_42 e42 (fun H locs hI => ?_)
      refine lv_aload_n hx hb dX8_type_45 rfl (lv_at hl 0 rfl) ?_
      refine gf_X8_73 E hI dX8_type_46 ?_
      obtain ⟨rfl, rfl⟩ := xinj2 hf
      exact x_iret E hI rfl dX8_type_49
    · replace hf := xif_t c19 hf
      refine lv_bipush (v := -3) hx hb dX8_type_22 (by decide) ?_
      obtain ⟨rfl, rfl⟩ := xinj2 hf
      exact x_iret E hI rfl dX8_type_24
  · replace hf := xif_t c8 hf
    refine lv_iconst (v := -1) hx hb dX8_type_11 (by decide) ?_
    obtain ⟨rfl, rfl⟩ := xinj2 hf
    exact x_iret E hI rfl dX8_type_12
theorem dX8_clear_0 : decode cX8_clear 0 = .ok (.aload_n 0, 1) := by decide +kernel
theorem dX8_clear_1 : decode cX8_clear 1 = .ok (.getfield 73, 3) := by decide +kernel
theorem dX8_clear_4 : decode cX8_clear 4 = .ok (.istore_n 1, 1) := by decide +kernel
theorem dX8_clear_5 : decode cX8_clear 5 = .ok (.aload_n 0, 1) := by decide +kernel
theorem dX8_clear_6 : decode cX8_clear 6 = .ok (.iconst 0, 1) := by decide +kernel
theorem dX8_clear_7 : decode cX8_clear 7 = .ok (.putfield 73, 3) := by decide +kernel
theorem dX8_clear_10 : decode cX8_clear 10 = .ok (.iload_n 1, 1) := by decide +kernel
theorem dX8_clear_11 : decode cX8_clear 11 = .ok (.ireturn, 1) := by decide +kernel
def f_X8_clear (M : xMem) : Option (Int32 × xMem) := xlet (xsf M 8 15 (0 : Int32)) (fun M7 => some ((M 8 0 15), M7))
set_option maxHeartbeats 4000000 in
set_option maxRecDepth 100000 in
theorem c_X8_clear (l : Launch) (G : xG) (sz : Nat) (M : xMem) (L : xLL) {rr : Int32} {MM : xMem} (hf : f_X8_clear M = some (rr, MM)) : Met l yX8_clear (Cond.code yX8_clear cX8_clear 2 (some .int) :: xTB) (xR 1) (xP G M L sz [.ref (xq G 8 0)]) (xQi G rr MM L sz) 0 0 (xZ G sz) := by
  refine x_met (cc := cX8_clear) (nL := 2) (rt := (some .int)) (by decide) (Nat.le_of_ble_eq_true rfl) ?_
  intro p e s m below meth c ls hsz E hl hI
  subst hsz
  have E : xE p s m _ meth c cX8_clear 2 (some .int) RX8 G := E
  have hx := E.1
  have hb := E.2.1
  have hl : lv_has ls 2 [(0, .ref (xq G 8 0))] := hl
  rw [f_X8_clear] at hf
  refine lv_aload_n hx hb dX8_clear_0 rfl (lv_at hl 0 rfl) ?_
  refine gf_X8_73 E hI dX8_clear_1 ?_
  refine lv_istore_n (lv' := [(1, .int (M 8 0 15)), (0, .ref (xq G 8 0))]) hx hb dX8_clear_4 rfl hl (by decide) rfl (fun ls hl => ?_)
  refine lv_aload_n hx hb dX8_clear_5 rfl (lv_at hl 1 rfl) ?_
  refine lv_iconst (v := 0) hx hb dX8_clear_6 (by decide) ?_
  obtain ⟨M7, e7, hf⟩ := xlet_s hf
  refine pf_X8_73 E hI dX8_clear_7 e7 (fun H locs hI => ?_)
  refine lv_iload_n hx hb dX8_clear_10 rfl (lv_at hl 0 rfl) ?_
  obtain ⟨rfl, rfl⟩ := xinj2 hf
  exact x_iret E hI rfl dX8_clear_11
theorem dX8_letterAt_0 : decode cX8_letterAt 0 = .ok (.iload_n 1, 1) := by decide +kernel
theorem dX8_letterAt_1 : decode cX8_letterAt 1 = .ok (.aload_n 0, 1) := by decide +kernel
theorem dX8_letterAt_2 : decode cX8_letterAt 2 = .ok (.getfield 73, 3) := by decide +kernel
theorem dX8_letterAt_5 : decode cX8_letterAt 5 = .ok (.if_icmp .ge 12, 3) := by decide +kernel
theorem dX8_letterAt_8 : decode cX8_letterAt 8 = .ok (.aload_n 0, 1) := by decide +kernel
theorem dX8_letterAt_9 : decode cX8_letterAt 9 = .ok (.getfield 38, 3) := by decide +kernel
theorem dX8_letterAt_12 : decode cX8_letterAt 12 = .ok (.iload_n 1, 1) := by decide +kernel
theorem dX8_letterAt_13 : decode cX8_letterAt 13 = .ok (.iaload, 1) := by decide +kernel
theorem dX8_letterAt_14 : decode cX8_letterAt 14 = .ok (.goto 4, 3) := by decide +kernel
theorem dX8_letterAt_17 : decode cX8_letterAt 17 = .ok (.iconst (-1), 1) := by decide +kernel
theorem dX8_letterAt_18 : decode cX8_letterAt 18 = .ok (.ireturn, 1) := by decide +kernel
def f_X8_letterAt_b18 (t18_0 : Int32) : Option (Int32) := some t18_0
def f_X8_letterAt (a1 : Int32) (M : xMem) : Option (Int32) := (if (M 8 0 15) ≤ a1 then (f_X8_letterAt_b18) (-1 : Int32) else xchk (xb a1 120) ((f_X8_letterAt_b18) (M 8 15 a1.toNatClampNeg)))
set_option maxHeartbeats 4000000 in
set_option maxRecDepth 100000 in
theorem w_X8_letterAt_b18 {p : Program} {l : Launch} {e : Env} {s : State} {m : MethodId} {args : Array Value} {below : List Frame} {meth : Method} {c : Code} {G : xG} {rr : Int32} (E : xE p s m args meth c cX8_letterAt 2 (some .int) RX8 G) (M : xMem) (L : xLL) : ∀ (t18_0 : Int32), f_X8_letterAt_b18 t18_0 = some rr → ∀ (ls : Array Slot), lv_has ls 2 [] → ∀ (H : Heap) (locs : List Loc), xI G M L s.heap H locs → W p l e (xR 1) s m args below meth c H locs 0 0 (MQ below (xQi G rr M L s.heap.size) args s 0 0 (xZ G s.heap.size)) (F0 m 18 ls [.int t18_0]) := by
  have hx := E.1
  have hb := E.2.1
  intro t18_0 hf ls hl H locs hI
  rw [f_X8_letterAt_b18] at hf
  obtain rfl := xinj1 hf
  exact x_iret E hI rfl dX8_letterAt_18
set_option maxHeartbeats 4000000 in
set_option maxRecDepth 100000 in
theorem c_X8_letterAt (l : Launch) (G : xG) (sz : Nat) (M : xMem) (L : xLL) (a1 : Int32) {rr : Int32} (hf : f_X8_letterAt a1 M = some rr) : Met l yX8_letterAt (Cond.code yX8_letterAt cX8_letterAt 2 (some .int) :: xTB) (xR 1) (xP G M L sz [.ref (xq G 8 0), .int a1]) (xQi G rr M L sz) 0 0 (xZ G sz) := by
  refine x_met (cc := cX8_letterAt) (nL := 2) (rt := (some .int)) (by decide) (Nat.le_of_ble_eq_true rfl) ?_
  intro p e s m below meth c ls hsz E hl hI
  subst hsz
  have E : xE p s m _ meth c cX8_letterAt 2 (some .int) RX8 G := E
  have hx := E.1
  have hb := E.2.1
  have hl : lv_has ls 2 [(0, .ref (xq G 8 0)), (1, .int a1)] := hl
  rw [f_X8_letterAt] at hf
  refine lv_iload_n hx hb dX8_letterAt_0 rfl (lv_at hl 1 rfl) ?_
  refine lv_aload_n hx hb dX8_letterAt_1 rfl (lv_at hl 0 rfl) ?_
  refine gf_X8_73 E hI dX8_letterAt_2 ?_
  refine lv_icmp_ge (tgt := 17) hx hb dX8_letterAt_5 (by decide) (fun c5 => ?_) (fun c5 => ?_)
  · replace hf := xif_t c5 hf
    refine lv_iconst (v := -1) hx hb dX8_letterAt_17 (by decide) ?_
    exact (w_X8_letterAt_b18 E (M := M) (L := L)) (-1 : Int32) hf _ (lv_sub hl [] rfl) _ _ hI
  · replace hf := xif_f c5 hf
    refine lv_aload_n hx hb dX8_letterAt_8 rfl (lv_at hl 0 rfl) ?_
    refine gf_X8_38 E hI dX8_letterAt_9 ?_
    refine lv_iload_n hx hb dX8_letterAt_12 rfl (lv_at hl 1 rfl) ?_
    obtain ⟨h13b, hf⟩ := xchk_s hf
    refine x_iald (n := 120) E hI mx_8_15 (fun _ _ => rfl) h13b dX8_letterAt_13 ?_
    refine lv_goto (tgt := 18) hx hb dX8_letterAt_14 (by decide) ?_
    exact (w_X8_letterAt_b18 E (M := M) (L := L)) (M 8 15 a1.toNatClampNeg) hf _ (lv_sub hl [] rfl) _ _ hI
theorem dX8_isFigure_0 : decode cX8_isFigure 0 = .ok (.iload_n 0, 1) := by decide +kernel
theorem dX8_isFigure_1 : decode cX8_isFigure 1 = .ok (.bipush 48, 2) := by decide +kernel
theorem dX8_isFigure_3 : decode cX8_isFigure 3 = .ok (.bipush 57, 2) := by decide +kernel
theorem dX8_isFigure_5 : decode cX8_isFigure 5 = .ok (.invokestatic 66, 3) := by decide +kernel
theorem dX8_isFigure_8 : decode cX8_isFigure 8 = .ok (.ireturn, 1) := by decide +kernel
def f_X8_isFigure (a0 : Int32) (M : xMem) : Option (Int32) := xb1 (f_X8_in a0 (48 : Int32) (57 : Int32) M) (fun r5 => xchk (xbo r5) (some r5))
set_option maxHeartbeats 4000000 in
set_option maxRecDepth 100000 in
theorem c_X8_isFigure (l : Launch) (G : xG) (sz : Nat) (M : xMem) (L : xLL) (a0 : Int32) {rr : Int32} (hf : f_X8_isFigure a0 M = some rr) : Met l yX8_isFigure (Cond.code yX8_isFigure cX8_isFigure 1 (some .boolean) :: xTB) (xR 2) (xP G M L sz [.int a0]) (xQi G rr M L sz) 0 0 (xZ G sz) := by
  refine x_met (cc := cX8_isFigure) (nL := 1) (rt := (some .boolean)) (by decide) (Nat.le_of_ble_eq_true rfl) ?_
  intro p e s m below meth c ls hsz E hl hI
  subst hsz
  have E : xE p s m _ meth c cX8_isFigure 1 (some .boolean) RX8 G := E
  have hx := E.1
  have hb := E.2.1
  have hl : lv_has ls 1 [(0, .int a0)] := hl
  rw [f_X8_isFigure] at hf
  refine lv_iload_n hx hb dX8_isFigure_0 rfl (lv_at hl 0 rfl) ?_
  refine lv_bipush (v := 48) hx hb dX8_isFigure_1 (by decide) ?_
  refine lv_bipush (v := 57) hx hb dX8_isFigure_3 (by decide) ?_
  obtain ⟨r5, g5, hf⟩ := xb1_s hf
  refine x_callSi (As := [.int a0, .int (48 : Int32), .int (57 : Int32)]) (rest := []) E hI (c_X8_in l G _ (M := M) (L := L) (a0 := a0) (a1 := (48 : Int32)) (a2 := (57 : Int32)) g5) ys_X8_in ml_X8_66 (by decide) (by decide) rfl rfl hl.1 (Nat.le_of_ble_eq_true rfl) dX8_isFigure_5 (fun H locs hI => ?_)
  obtain ⟨h8n, hf⟩ := xchk_s hf
  obtain rfl := xinj1 hf
  exact x_zret E hI (xbo_s h8n) rfl dX8_isFigure_8
theorem dX8_reads_0 : decode cX8_reads 0 = .ok (.aload_n 0, 1) := by decide +kernel
theorem dX8_reads_1 : decode cX8_reads 1 = .ok (.aload_n 0, 1) := by decide +kernel
theorem dX8_reads_2 : decode cX8_reads 2 = .ok (.getfield 76, 3) := by decide +kernel
theorem dX8_reads_5 : decode cX8_reads 5 = .ok (.invokevirtual 79, 3) := by decide +kernel
theorem dX8_reads_8 : decode cX8_reads 8 = .ok (.bipush 32, 2) := by decide +kernel
theorem dX8_reads_10 : decode cX8_reads 10 = .ok (.if_icmp .ne 16, 3) := by decide +kernel
theorem dX8_reads_13 : decode cX8_reads 13 = .ok (.aload_n 0, 1) := by decide +kernel
theorem dX8_reads_14 : decode cX8_reads 14 = .ok (.dup, 1) := by decide +kernel
theorem dX8_reads_15 : decode cX8_reads 15 = .ok (.getfield 76, 3) := by decide +kernel
theorem dX8_reads_18 : decode cX8_reads 18 = .ok (.iconst 1, 1) := by decide +kernel
theorem dX8_reads_19 : decode cX8_reads 19 = .ok (.iadd, 1) := by decide +kernel
theorem dX8_reads_20 : decode cX8_reads 20 = .ok (.putfield 76, 3) := by decide +kernel
theorem dX8_reads_23 : decode cX8_reads 23 = .ok (.goto (-23), 3) := by decide +kernel
theorem dX8_reads_26 : decode cX8_reads 26 = .ok (.aload_n 0, 1) := by decide +kernel
theorem dX8_reads_27 : decode cX8_reads 27 = .ok (.aload_n 0, 1) := by decide +kernel
theorem dX8_reads_28 : decode cX8_reads 28 = .ok (.getfield 76, 3) := by decide +kernel
theorem dX8_reads_31 : decode cX8_reads 31 = .ok (.putfield 83, 3) := by decide +kernel
theorem dX8_reads_34 : decode cX8_reads 34 = .ok (.aload_n 0, 1) := by decide +kernel
theorem dX8_reads_35 : decode cX8_reads 35 = .ok (.aload_n 0, 1) := by decide +kernel
theorem dX8_reads_36 : decode cX8_reads 36 = .ok (.getfield 76, 3) := by decide +kernel
theorem dX8_reads_39 : decode cX8_reads 39 = .ok (.invokevirtual 79, 3) := by decide +kernel
theorem dX8_reads_42 : decode cX8_reads 42 = .ok (.istore_n 1, 1) := by decide +kernel
theorem dX8_reads_43 : decode cX8_reads 43 = .ok (.aload_n 0, 1) := by decide +kernel
theorem dX8_reads_44 : decode cX8_reads 44 = .ok (.iconst 0, 1) := by decide +kernel
theorem dX8_reads_45 : decode cX8_reads 45 = .ok (.putfield 86, 3) := by decide +kernel
theorem dX8_reads_48 : decode cX8_reads 48 = .ok (.iload_n 1, 1) := by decide +kernel
theorem dX8_reads_49 : decode cX8_reads 49 = .ok (.ifCond .ge 11, 3) := by decide +kernel
theorem dX8_reads_52 : decode cX8_reads 52 = .ok (.aload_n 0, 1) := by decide +kernel
theorem dX8_reads_53 : decode cX8_reads 53 = .ok (.iconst 0, 1) := by decide +kernel
theorem dX8_reads_54 : decode cX8_reads 54 = .ok (.putfield 89, 3) := by decide +kernel
theorem dX8_reads_57 : decode cX8_reads 57 = .ok (.goto 162, 3) := by decide +kernel
theorem dX8_reads_60 : decode cX8_reads 60 = .ok (.iload_n 1, 1) := by decide +kernel
theorem dX8_reads_61 : decode cX8_reads 61 = .ok (.invokestatic 92, 3) := by decide +kernel
theorem dX8_reads_64 : decode cX8_reads 64 = .ok (.ifCond .eq 109, 3) := by decide +kernel
theorem dX8_reads_67 : decode cX8_reads 67 = .ok (.aload_n 0, 1) := by decide +kernel
theorem dX8_reads_68 : decode cX8_reads 68 = .ok (.aload_n 0, 1) := by decide +kernel
theorem dX8_reads_69 : decode cX8_reads 69 = .ok (.getfield 76, 3) := by decide +kernel
theorem dX8_reads_72 : decode cX8_reads 72 = .ok (.invokevirtual 79, 3) := by decide +kernel
theorem dX8_reads_75 : decode cX8_reads 75 = .ok (.invokestatic 92, 3) := by decide +kernel
theorem dX8_reads_78 : decode cX8_reads 78 = .ok (.ifCond .eq 55, 3) := by decide +kernel
theorem dX8_reads_81 : decode cX8_reads 81 = .ok (.aload_n 0, 1) := by decide +kernel
theorem dX8_reads_82 : decode cX8_reads 82 = .ok (.aload_n 0, 1) := by decide +kernel
theorem dX8_reads_83 : decode cX8_reads 83 = .ok (.getfield 86, 3) := by decide +kernel
theorem dX8_reads_86 : decode cX8_reads 86 = .ok (.bipush 99, 2) := by decide +kernel
theorem dX8_reads_88 : decode cX8_reads 88 = .ok (.if_icmp .le 10, 3) := by decide +kernel
theorem dX8_reads_91 : decode cX8_reads 91 = .ok (.aload_n 0, 1) := by decide +kernel
theorem dX8_reads_92 : decode cX8_reads 92 = .ok (.getfield 86, 3) := by decide +kernel
theorem dX8_reads_95 : decode cX8_reads 95 = .ok (.goto 22, 3) := by decide +kernel
theorem dX8_reads_98 : decode cX8_reads 98 = .ok (.bipush 10, 2) := by decide +kernel
theorem dX8_reads_100 : decode cX8_reads 100 = .ok (.aload_n 0, 1) := by decide +kernel
theorem dX8_reads_101 : decode cX8_reads 101 = .ok (.getfield 86, 3) := by decide +kernel
theorem dX8_reads_104 : decode cX8_reads 104 = .ok (.imul, 1) := by decide +kernel
theorem dX8_reads_105 : decode cX8_reads 105 = .ok (.aload_n 0, 1) := by decide +kernel
theorem dX8_reads_106 : decode cX8_reads 106 = .ok (.aload_n 0, 1) := by decide +kernel
theorem dX8_reads_107 : decode cX8_reads 107 = .ok (.getfield 76, 3) := by decide +kernel
theorem dX8_reads_110 : decode cX8_reads 110 = .ok (.invokevirtual 79, 3) := by decide +kernel
theorem dX8_reads_113 : decode cX8_reads 113 = .ok (.iadd, 1) := by decide +kernel
theorem dX8_reads_114 : decode cX8_reads 114 = .ok (.bipush 48, 2) := by decide +kernel
theorem dX8_reads_116 : decode cX8_reads 116 = .ok (.isub, 1) := by decide +kernel
theorem dX8_reads_117 : decode cX8_reads 117 = .ok (.putfield 86, 3) := by decide +kernel
theorem dX8_reads_120 : decode cX8_reads 120 = .ok (.aload_n 0, 1) := by decide +kernel
theorem dX8_reads_121 : decode cX8_reads 121 = .ok (.dup, 1) := by decide +kernel
theorem dX8_reads_122 : decode cX8_reads 122 = .ok (.getfield 76, 3) := by decide +kernel
theorem dX8_reads_125 : decode cX8_reads 125 = .ok (.iconst 1, 1) := by decide +kernel
theorem dX8_reads_126 : decode cX8_reads 126 = .ok (.iadd, 1) := by decide +kernel
theorem dX8_reads_127 : decode cX8_reads 127 = .ok (.putfield 76, 3) := by decide +kernel
theorem dX8_reads_130 : decode cX8_reads 130 = .ok (.goto (-63), 3) := by decide +kernel
theorem dX8_reads_133 : decode cX8_reads 133 = .ok (.aload_n 0, 1) := by decide +kernel
theorem dX8_reads_134 : decode cX8_reads 134 = .ok (.aload_n 0, 1) := by decide +kernel
theorem dX8_reads_135 : decode cX8_reads 135 = .ok (.getfield 86, 3) := by decide +kernel
theorem dX8_reads_138 : decode cX8_reads 138 = .ok (.bipush 99, 2) := by decide +kernel
theorem dX8_reads_140 : decode cX8_reads 140 = .ok (.if_icmp .gt 22, 3) := by decide +kernel
theorem dX8_reads_143 : decode cX8_reads 143 = .ok (.iload_n 1, 1) := by decide +kernel
theorem dX8_reads_144 : decode cX8_reads 144 = .ok (.bipush 48, 2) := by decide +kernel
theorem dX8_reads_146 : decode cX8_reads 146 = .ok (.if_icmp .ne 20, 3) := by decide +kernel
theorem dX8_reads_149 : decode cX8_reads 149 = .ok (.aload_n 0, 1) := by decide +kernel
theorem dX8_reads_150 : decode cX8_reads 150 = .ok (.getfield 76, 3) := by decide +kernel
theorem dX8_reads_153 : decode cX8_reads 153 = .ok (.aload_n 0, 1) := by decide +kernel
theorem dX8_reads_154 : decode cX8_reads 154 = .ok (.getfield 83, 3) := by decide +kernel
theorem dX8_reads_157 : decode cX8_reads 157 = .ok (.isub, 1) := by decide +kernel
theorem dX8_reads_158 : decode cX8_reads 158 = .ok (.iconst 1, 1) := by decide +kernel
theorem dX8_reads_159 : decode cX8_reads 159 = .ok (.if_icmp .le 7, 3) := by decide +kernel
theorem dX8_reads_162 : decode cX8_reads 162 = .ok (.iconst 4, 1) := by decide +kernel
theorem dX8_reads_163 : decode cX8_reads 163 = .ok (.goto 4, 3) := by decide +kernel
theorem dX8_reads_166 : decode cX8_reads 166 = .ok (.iconst 2, 1) := by decide +kernel
theorem dX8_reads_167 : decode cX8_reads 167 = .ok (.putfield 89, 3) := by decide +kernel
theorem dX8_reads_170 : decode cX8_reads 170 = .ok (.goto 49, 3) := by decide +kernel
theorem dX8_reads_173 : decode cX8_reads 173 = .ok (.aload_n 0, 1) := by decide +kernel
theorem dX8_reads_174 : decode cX8_reads 174 = .ok (.iload_n 1, 1) := by decide +kernel
theorem dX8_reads_175 : decode cX8_reads 175 = .ok (.bipush 115, 2) := by decide +kernel
theorem dX8_reads_177 : decode cX8_reads 177 = .ok (.if_icmp .eq 9, 3) := by decide +kernel
theorem dX8_reads_180 : decode cX8_reads 180 = .ok (.iload_n 1, 1) := by decide +kernel
theorem dX8_reads_181 : decode cX8_reads 181 = .ok (.bipush 101, 2) := by decide +kernel
theorem dX8_reads_183 : decode cX8_reads 183 = .ok (.if_icmp .ne 7, 3) := by decide +kernel
theorem dX8_reads_186 : decode cX8_reads 186 = .ok (.iconst 1, 1) := by decide +kernel
theorem dX8_reads_187 : decode cX8_reads 187 = .ok (.goto 14, 3) := by decide +kernel
theorem dX8_reads_190 : decode cX8_reads 190 = .ok (.iload_n 1, 1) := by decide +kernel
theorem dX8_reads_191 : decode cX8_reads 191 = .ok (.bipush 59, 2) := by decide +kernel
theorem dX8_reads_193 : decode cX8_reads 193 = .ok (.if_icmp .ne 7, 3) := by decide +kernel
theorem dX8_reads_196 : decode cX8_reads 196 = .ok (.iconst 3, 1) := by decide +kernel
theorem dX8_reads_197 : decode cX8_reads 197 = .ok (.goto 4, 3) := by decide +kernel
theorem dX8_reads_200 : decode cX8_reads 200 = .ok (.iconst 4, 1) := by decide +kernel
theorem dX8_reads_201 : decode cX8_reads 201 = .ok (.putfield 89, 3) := by decide +kernel
theorem dX8_reads_204 : decode cX8_reads 204 = .ok (.aload_n 0, 1) := by decide +kernel
theorem dX8_reads_205 : decode cX8_reads 205 = .ok (.iload_n 1, 1) := by decide +kernel
theorem dX8_reads_206 : decode cX8_reads 206 = .ok (.putfield 86, 3) := by decide +kernel
theorem dX8_reads_209 : decode cX8_reads 209 = .ok (.aload_n 0, 1) := by decide +kernel
theorem dX8_reads_210 : decode cX8_reads 210 = .ok (.dup, 1) := by decide +kernel
theorem dX8_reads_211 : decode cX8_reads 211 = .ok (.getfield 76, 3) := by decide +kernel
theorem dX8_reads_214 : decode cX8_reads 214 = .ok (.iconst 1, 1) := by decide +kernel
theorem dX8_reads_215 : decode cX8_reads 215 = .ok (.iadd, 1) := by decide +kernel
theorem dX8_reads_216 : decode cX8_reads 216 = .ok (.putfield 76, 3) := by decide +kernel
theorem dX8_reads_219 : decode cX8_reads 219 = .ok (.return_, 1) := by decide +kernel
def f_X8_reads_b219 (M219 : xMem) : Option (xMem) := some M219
def f_X8_reads_b201 (r39 : Int32) (M45 : xMem) (k219 : xMem → Option (xMem)) (t201_0 : Int32) : Option (xMem) := xlet (xsf M45 8 18 t201_0) (fun M201 => xlet (xsf M201 8 19 r39) (fun M206 => xlet (xsf M206 8 16 ((M206 8 0 16) + (1 : Int32))) (fun M216 => k219 M216)))
def f_X8_reads_b186 (k201 : Int32 → Option (xMem)) : Option (xMem) := k201 (1 : Int32)
def f_X8_reads_b167 (M67 : xMem) (k219 : xMem → Option (xMem)) (t167_0 : Int32) : Option (xMem) := xlet (xsf M67 8 18 t167_0) (fun M167 => k219 M167)
def f_X8_reads_b162 (k167 : Int32 → Option (xMem)) : Option (xMem) := k167 (4 : Int32)
def f_X8_reads_b166 (k167 : Int32 → Option (xMem)) : Option (xMem) := k167 (2 : Int32)
def f_X8_reads_b117 (M67 : xMem) (k67 : xMem → Option (xMem)) (t117_0 : Int32) : Option (xMem) := xlet (xsf M67 8 19 t117_0) (fun M117 => xlet (xsf M117 8 16 ((M117 8 0 16) + (1 : Int32))) (fun M127 => k67 M127))
def f_X8_reads_l67 (r39 : Int32) (k219 : xMem → Option (xMem)) : Nat → xMem → Option (xMem)
  | 0, _ => none
  | n + 1, M67 => xb1 (f_X8_letterAt (M67 8 0 16) M67) (fun r72 => xb1 (f_X8_isFigure r72 M67) (fun r75 => (if r75 = (0 : Int32) then (if (99 : Int32) < (M67 8 0 19) then (f_X8_reads_b162 (f_X8_reads_b167 M67 k219)) else (if r39 = (48 : Int32) then (if ((M67 8 0 16) - (M67 8 0 17)) ≤ (1 : Int32) then (f_X8_reads_b166 (f_X8_reads_b167 M67 k219)) else (f_X8_reads_b162 (f_X8_reads_b167 M67 k219))) else (f_X8_reads_b166 (f_X8_reads_b167 M67 k219)))) else (if (M67 8 0 19) ≤ (99 : Int32) then xb1 (f_X8_letterAt (M67 8 0 16) M67) (fun r110 => (f_X8_reads_b117 M67 (f_X8_reads_l67 r39 k219 n)) ((((10 : Int32) * (M67 8 0 19)) + r110) - (48 : Int32))) else (f_X8_reads_b117 M67 (f_X8_reads_l67 r39 k219 n)) (M67 8 0 19)))))
def f_X8_reads_l0 : Nat → xMem → Option (xMem)
  | 0, _ => none
  | n + 1, M0 => xb1 (f_X8_letterAt (M0 8 0 16) M0) (fun r5 => (if r5 = (32 : Int32) then xlet (xsf M0 8 16 ((M0 8 0 16) + (1 : Int32))) (fun M20 => (f_X8_reads_l0 n) M20) else xlet (xsf M0 8 17 (M0 8 0 16)) (fun M31 => xb1 (f_X8_letterAt (M31 8 0 16) M31) (fun r39 => xlet (xsf M31 8 19 (0 : Int32)) (fun M45 => (if (0 : Int32) ≤ r39 then xb1 (f_X8_isFigure r39 M45) (fun r61 => (if r61 = (0 : Int32) then (if r39 = (115 : Int32) then (f_X8_reads_b186 (f_X8_reads_b201 r39 M45 (f_X8_reads_b219))) else (if r39 = (101 : Int32) then (f_X8_reads_b186 (f_X8_reads_b201 r39 M45 (f_X8_reads_b219))) else (if r39 = (59 : Int32) then (f_X8_reads_b201 r39 M45 (f_X8_reads_b219)) (3 : Int32) else (f_X8_reads_b201 r39 M45 (f_X8_reads_b219)) (4 : Int32)))) else (f_X8_reads_l67 r39 (f_X8_reads_b219) FU) M45)) else xlet (xsf M45 8 18 (0 : Int32)) (fun M54 => (f_X8_reads_b219) M54)))))))
def f_X8_reads (M : xMem) : Option (xMem) := (f_X8_reads_l0 FU) M
set_option maxHeartbeats 4000000 in
set_option maxRecDepth 100000 in
theorem w_X8_reads_b219 {p : Program} {l : Launch} {e : Env} {s : State} {m : MethodId} {args : Array Value} {below : List Frame} {meth : Method} {c : Code} {G : xG} {MM : xMem} (E : xE p s m args meth c cX8_reads 2 none RX8 G) (M : xMem) (L : xLL) : ∀ (M219 : xMem), f_X8_reads_b219 M219 = some MM → ∀ (ls : Array Slot), lv_has ls 2 [] → ∀ (H : Heap) (locs : List Loc), xI G M219 L s.heap H locs → W p l e (xR 3) s m args below meth c H locs 0 0 (MQ below (xQv G MM L s.heap.size) args s 0 0 (xZ G s.heap.size)) (F0 m 219 ls []) := by
  have hx := E.1
  have hb := E.2.1
  intro M219 hf ls hl H locs hI
  rw [f_X8_reads_b219] at hf
  obtain rfl := xinj1 hf
  exact x_vret E hI dX8_reads_219
set_option maxHeartbeats 4000000 in
set_option maxRecDepth 100000 in
theorem w_X8_reads_b201 {p : Program} {l : Launch} {e : Env} {s : State} {m : MethodId} {args : Array Value} {below : List Frame} {meth : Method} {c : Code} {G : xG} {MM : xMem} (E : xE p s m args meth c cX8_reads 2 none RX8 G) (M : xMem) (L : xLL) (r39 : Int32) (M45 : xMem) (k219 : xMem → Option (xMem)) (hk219 : ∀ (M219 : xMem), k219 M219 = some MM → ∀ (ls : Array Slot), lv_has ls 2 [] → ∀ (H : Heap) (locs : List Loc), xI G M219 L s.heap H locs → W p l e (xR 3) s m args below meth c H locs 0 0 (MQ below (xQv G MM L s.heap.size) args s 0 0 (xZ G s.heap.size)) (F0 m 219 ls [])) : ∀ (t201_0 : Int32), f_X8_reads_b201 r39 M45 k219 t201_0 = some MM → ∀ (ls : Array Slot), lv_has ls 2 [(0, .ref (xq G 8 0)), (1, .int r39)] → ∀ (H : Heap) (locs : List Loc), xI G M45 L s.heap H locs → W p l e (xR 3) s m args below meth c H locs 0 0 (MQ below (xQv G MM L s.heap.size) args s 0 0 (xZ G s.heap.size)) (F0 m 201 ls [.int t201_0, .ref (xq G 8 0)]) := by
  have hx := E.1
  have hb := E.2.1
  intro t201_0 hf ls hl H locs hI
  rw [f_X8_reads_b201] at hf
  obtain ⟨M201, e201, hf⟩ := xlet_s hf
  refine pf_X8_89 E hI dX8_reads_201 e201 (fun H locs hI => ?_)
  refine lv_aload_n hx hb dX8_reads_204 rfl (lv_at hl 0 rfl) ?_
  refine lv_iload_n hx hb dX8_reads_205 rfl (lv_at hl 1 rfl) ?_
  obtain ⟨M206, e206, hf⟩ := xlet_s hf
  refine pf_X8_86 E hI dX8_reads_206 e206 (fun H locs hI => ?_)
  refine lv_aload_n hx hb dX8_reads_209 rfl (lv_at hl 0 rfl) ?_
  refine lv_dup hx hb dX8_reads_210 rfl ?_
  refine gf_X8_76 E hI dX8_reads_211 ?_
  refine lv_iconst (v := 1) hx hb dX8_reads_214 (by decide) ?_
  refine lv_iadd hx hb dX8_reads_215 ?_
  obtain ⟨M216, e216, hf⟩ := xlet_s hf
  refine pf_X8_76 E hI dX8_reads_216 e216 (fun H locs hI => ?_)
  exact hk219 M216 hf _ (lv_sub hl [] rfl) _ _ hI
set_option maxHeartbeats 4000000 in
set_option maxRecDepth 100000 in
theorem w_X8_reads_b186 {p : Program} {l : Launch} {e : Env} {s : State} {m : MethodId} {args : Array Value} {below : List Frame} {meth : Method} {c : Code} {G : xG} {MM : xMem} (E : xE p s m args meth c cX8_reads 2 none RX8 G) (M : xMem) (L : xLL) (r39 : Int32) (M45 : xMem) (k201 : Int32 → Option (xMem)) (hk201 : ∀ (t201_0 : Int32), k201 t201_0 = some MM → ∀ (ls : Array Slot), lv_has ls 2 [(0, .ref (xq G 8 0)), (1, .int r39)] → ∀ (H : Heap) (locs : List Loc), xI G M45 L s.heap H locs → W p l e (xR 3) s m args below meth c H locs 0 0 (MQ below (xQv G MM L s.heap.size) args s 0 0 (xZ G s.heap.size)) (F0 m 201 ls [.int t201_0, .ref (xq G 8 0)])) : f_X8_reads_b186 k201  = some MM → ∀ (ls : Array Slot), lv_has ls 2 [(0, .ref (xq G 8 0)), (1, .int r39)] → ∀ (H : Heap) (locs : List Loc), xI G M45 L s.heap H locs → W p l e (xR 3) s m args below meth c H locs 0 0 (MQ below (xQv G MM L s.heap.size) args s 0 0 (xZ G s.heap.size)) (F0 m 186 ls [.ref (xq G 8 0)]) := by
  have hx := E.1
  have hb := E.2.1
  intro  hf ls hl H locs hI
  rw [f_X8_reads_b186] at hf
  refine lv_iconst (v := 1) hx hb dX8_reads_186 (by decide) ?_
  refine lv_goto (tgt := 201) hx hb dX8_reads_187 (by decide) ?_
  exact hk201 (1 : Int32) hf _ (lv_sub hl [0, 1] rfl) _ _ hI
set_option maxHeartbeats 4000000 in
set_option maxRecDepth 100000 in
theorem w_X8_reads_b167 {p : Program} {l : Launch} {e : Env} {s : State} {m : MethodId} {args : Array Value} {below : List Frame} {meth : Method} {c : Code} {G : xG} {MM : xMem} (E : xE p s m args meth c cX8_reads 2 none RX8 G) (M : xMem) (L : xLL) (M67 : xMem) (k219 : xMem → Option (xMem)) (hk219 : ∀ (M219 : xMem), k219 M219 = some MM → ∀ (ls : Array Slot), lv_has ls 2 [] → ∀ (H : Heap) (locs : List Loc), xI G M219 L s.heap H locs → W p l e (xR 3) s m args below meth c H locs 0 0 (MQ below (xQv G MM L s.heap.size) args s 0 0 (xZ G s.heap.size)) (F0 m 219 ls [])) : ∀ (t167_0 : Int32), f_X8_reads_b167 M67 k219 t167_0 = some MM → ∀ (ls : Array Slot), lv_has ls 2 [] → ∀ (H : Heap) (locs : List Loc), xI G M67 L s.heap H locs → W p l e (xR 3) s m args below meth c H locs 0 0 (MQ below (xQv G MM L s.heap.size) args s 0 0 (xZ G s.heap.size)) (F0 m 167 ls [.int t167_0, .ref (xq G 8 0)]) := by
  have hx := E.1
  have hb := E.2.1
  intro t167_0 hf ls hl H locs hI
  rw [f_X8_reads_b167] at hf
  obtain ⟨M167, e167, hf⟩ := xlet_s hf
  refine pf_X8_89 E hI dX8_reads_167 e167 (fun H locs hI => ?_)
  refine lv_goto (tgt := 219) hx hb dX8_reads_170 (by decide) ?_
  exact hk219 M167 hf _ (lv_sub hl [] rfl) _ _ hI
set_option maxHeartbeats 4000000 in
set_option maxRecDepth 100000 in
theorem w_X8_reads_b162 {p : Program} {l : Launch} {e : Env} {s : State} {m : MethodId} {args : Array Value} {below : List Frame} {meth : Method} {c : Code} {G : xG} {MM : xMem} (E : xE p s m args meth c cX8_reads 2 none RX8 G) (M : xMem) (L : xLL) (M67 : xMem) (k167 : Int32 → Option (xMem)) (hk167 : ∀ (t167_0 : Int32), k167 t167_0 = some MM → ∀ (ls : Array Slot), lv_has ls 2 [] → ∀ (H : Heap) (locs : List Loc), xI G M67 L s.heap H locs → W p l e (xR 3) s m args below meth c H locs 0 0 (MQ below (xQv G MM L s.heap.size) args s 0 0 (xZ G s.heap.size)) (F0 m 167 ls [.int t167_0, .ref (xq G 8 0)])) : f_X8_reads_b162 k167  = some MM → ∀ (ls : Array Slot), lv_has ls 2 [] → ∀ (H : Heap) (locs : List Loc), xI G M67 L s.heap H locs → W p l e (xR 3) s m args below meth c H locs 0 0 (MQ below (xQv G MM L s.heap.size) args s 0 0 (xZ G s.heap.size)) (F0 m 162 ls [.ref (xq G 8 0)]) := by
  have hx := E.1
  have hb := E.2.1
  intro  hf ls hl H locs hI
  rw [f_X8_reads_b162] at hf
  refine lv_iconst (v := 4) hx hb dX8_reads_162 (by decide) ?_
  refine lv_goto (tgt := 167) hx hb dX8_reads_163 (by decide) ?_
  exact hk167 (4 : Int32) hf _ (lv_sub hl [] rfl) _ _ hI
set_option maxHeartbeats 4000000 in
set_option maxRecDepth 100000 in
theorem w_X8_reads_b166 {p : Program} {l : Launch} {e : Env} {s : State} {m : MethodId} {args : Array Value} {below : List Frame} {meth : Method} {c : Code} {G : xG} {MM : xMem} (E : xE p s m args meth c cX8_reads 2 none RX8 G) (M : xMem) (L : xLL) (M67 : xMem) (k167 : Int32 → Option (xMem)) (hk167 : ∀ (t167_0 : Int32), k167 t167_0 = some MM → ∀ (ls : Array Slot), lv_has ls 2 [] → ∀ (H : Heap) (locs : List Loc), xI G M67 L s.heap H locs → W p l e (xR 3) s m args below meth c H locs 0 0 (MQ below (xQv G MM L s.heap.size) args s 0 0 (xZ G s.heap.size)) (F0 m 167 ls [.int t167_0, .ref (xq G 8 0)])) : f_X8_reads_b166 k167  = some MM → ∀ (ls : Array Slot), lv_has ls 2 [] → ∀ (H : Heap) (locs : List Loc), xI G M67 L s.heap H locs → W p l e (xR 3) s m args below meth c H locs 0 0 (MQ below (xQv G MM L s.heap.size) args s 0 0 (xZ G s.heap.size)) (F0 m 166 ls [.ref (xq G 8 0)]) := by
  have hx := E.1
  have hb := E.2.1
  intro  hf ls hl H locs hI
  rw [f_X8_reads_b166] at hf
  refine lv_iconst (v := 2) hx hb dX8_reads_166 (by decide) ?_
  exact hk167 (2 : Int32) hf _ (lv_sub hl [] rfl) _ _ hI
set_option maxHeartbeats 4000000 in
set_option maxRecDepth 100000 in
theorem w_X8_reads_b117 {p : Program} {l : Launch} {e : Env} {s : State} {m : MethodId} {args : Array Value} {below : List Frame} {meth : Method} {c : Code} {G : xG} {MM : xMem} (E : xE p s m args meth c cX8_reads 2 none RX8 G) (M : xMem) (L : xLL) (r39 : Int32) (M67 : xMem) (k67 : xMem → Option (xMem)) (hk67 : ∀ (M67 : xMem), k67 M67 = some MM → ∀ (ls : Array Slot), lv_has ls 2 [(0, .ref (xq G 8 0)), (1, .int r39)] → ∀ (H : Heap) (locs : List Loc), xI G M67 L s.heap H locs → W p l e (xR 3) s m args below meth c H locs 0 0 (MQ below (xQv G MM L s.heap.size) args s 0 0 (xZ G s.heap.size)) (F0 m 67 ls [])) : ∀ (t117_0 : Int32), f_X8_reads_b117 M67 k67 t117_0 = some MM → ∀ (ls : Array Slot), lv_has ls 2 [(0, .ref (xq G 8 0)), (1, .int r39)] → ∀ (H : Heap) (locs : List Loc), xI G M67 L s.heap H locs → W p l e (xR 3) s m args below meth c H locs 0 0 (MQ below (xQv G MM L s.heap.size) args s 0 0 (xZ G s.heap.size)) (F0 m 117 ls [.int t117_0, .ref (xq G 8 0)]) := by
  have hx := E.1
  have hb := E.2.1
  intro t117_0 hf ls hl H locs hI
  rw [f_X8_reads_b117] at hf
  obtain ⟨M117, e117, hf⟩ := xlet_s hf
  refine pf_X8_86 E hI dX8_reads_117 e117 (fun H locs hI => ?_)
  refine lv_aload_n hx hb dX8_reads_120 rfl (lv_at hl 0 rfl) ?_
  refine lv_dup hx hb dX8_reads_121 rfl ?_
  refine gf_X8_76 E hI dX8_reads_122 ?_
  refine lv_iconst (v := 1) hx hb dX8_reads_125 (by decide) ?_
  refine lv_iadd hx hb dX8_reads_126 ?_
  obtain ⟨M127, e127, hf⟩ := xlet_s hf
  refine pf_X8_76 E hI dX8_reads_127 e127 (fun H locs hI => ?_)
  refine lv_goto (tgt := 67) hx hb dX8_reads_130 (by decide) ?_
  exact hk67 M127 hf _ (lv_sub hl [0, 1] rfl) _ _ hI
set_option maxHeartbeats 4000000 in
set_option maxRecDepth 100000 in
theorem w_X8_reads_l67 {p : Program} {l : Launch} {e : Env} {s : State} {m : MethodId} {args : Array Value} {below : List Frame} {meth : Method} {c : Code} {G : xG} {MM : xMem} (E : xE p s m args meth c cX8_reads 2 none RX8 G) (M : xMem) (L : xLL) (r39 : Int32) (k219 : xMem → Option (xMem)) (hk219 : ∀ (M219 : xMem), k219 M219 = some MM → ∀ (ls : Array Slot), lv_has ls 2 [] → ∀ (H : Heap) (locs : List Loc), xI G M219 L s.heap H locs → W p l e (xR 3) s m args below meth c H locs 0 0 (MQ below (xQv G MM L s.heap.size) args s 0 0 (xZ G s.heap.size)) (F0 m 219 ls [])) : ∀ (n : Nat), ∀ (M67 : xMem), f_X8_reads_l67 r39 k219 n M67 = some MM → ∀ (ls : Array Slot), lv_has ls 2 [(0, .ref (xq G 8 0)), (1, .int r39)] → ∀ (H : Heap) (locs : List Loc), xI G M67 L s.heap H locs → W p l e (xR 3) s m args below meth c H locs 0 0 (MQ below (xQv G MM L s.heap.size) args s 0 0 (xZ G s.heap.size)) (F0 m 67 ls []) := by
  have hx := E.1
  have hb := E.2.1
  intro n
  induction n with
  | zero =>
    intro M67 hf
    exact absurd hf (by simp [f_X8_reads_l67])
  | succ n ih =>
    intro M67 hf ls hl H locs hI
    rw [f_X8_reads_l67] at hf
    refine lv_aload_n hx hb dX8_reads_67 rfl (lv_at hl 0 rfl) ?_
    refine lv_aload_n hx hb dX8_reads_68 rfl (lv_at hl 0 rfl) ?_
    refine gf_X8_76 E hI dX8_reads_69 ?_
    obtain ⟨r72, g72, hf⟩ := xb1_s hf
    refine x_callVi (As := [.int (M67 8 0 16)]) (rest := []) E hI mx_8_0 rfl rfl rfl (c_X8_letterAt l G _ (M := M67) (L := L) (a1 := (M67 8 0 16)) g72) yv_X8_letterAt ml_X8_79 (by decide) (by decide) rfl rfl hl.1 (Nat.le_of_ble_eq_true rfl) dX8_reads_72 (fun H locs hI => ?_)
    obtain ⟨r75, g75, hf⟩ := xb1_s hf
    refine x_callSi (As := [.int r72]) (rest := []) E hI (c_X8_isFigure l G _ (M := M67) (L := L) (a0 := r72) g75) ys_X8_isFigure ml_X8_92 (by decide) (by decide) rfl rfl hl.1 (Nat.le_of_ble_eq_true rfl) dX8_reads_75 (fun H locs hI => ?_)
    refine lv_if_eq (tgt := 133) hx hb dX8_reads_78 (by decide) (fun c78 => ?_) (fun c78 => ?_)
    · replace hf := xif_t c78 hf
      refine lv_aload_n hx hb dX8_reads_133 rfl (lv_at hl 0 rfl) ?_
      refine lv_aload_n hx hb dX8_reads_134 rfl (lv_at hl 0 rfl) ?_
      refine gf_X8_86 E hI dX8_reads_135 ?_
      refine lv_bipush (v := 99) hx hb dX8_reads_138 (by decide) ?_
      refine lv_icmp_gt (tgt := 162) hx hb dX8_reads_140 (by decide) (fun c140 => ?_) (fun c140 => ?_)
      · replace hf := xif_t c140 hf
        exact (w_X8_reads_b162 E (M := M) (L := L) (M67 := M67) (k167 := (f_X8_reads_b167 M67 k219)) (hk167 := (w_X8_reads_b167 E (M := M) (L := L) (M67 := M67) (k219 := k219) (hk219 := hk219))))  hf _ (lv_sub hl [] rfl) _ _ hI
      · replace hf := xif_f c140 hf
        refine lv_iload_n hx hb dX8_reads_143 rfl (lv_at hl 1 rfl) ?_
        refine lv_bipush (v := 48) hx hb dX8_reads_144 (by decide) ?_
        refine lv_icmp_ne (tgt := 166) hx hb dX8_reads_146 (by decide) (fun c146 => ?_) (fun c146 => ?_)
        · replace hf := xif_f c146 hf
          exact (w_X8_reads_b166 E (M := M) (L := L) (M67 := M67) (k167 := (f_X8_reads_b167 M67 k219)) (hk167 := (w_X8_reads_b167 E (M := M) (L := L) (M67 := M67) (k219 := k219) (hk219 := hk219))))  hf _ (lv_sub hl [] rfl) _ _ hI
        · replace hf := xif_t c146 hf
          refine lv_aload_n hx hb dX8_reads_149 rfl (lv_at hl 0 rfl) ?_
          refine gf_X8_76 E hI dX8_reads_150 ?_
          refine lv_aload_n hx hb dX8_reads_153 rfl (lv_at hl 0 rfl) ?_
          refine gf_X8_83 E hI dX8_reads_154 ?_
          refine lv_isub hx hb dX8_reads_157 ?_
          refine lv_iconst (v := 1) hx hb dX8_reads_158 (by decide) ?_
          refine lv_icmp_le (tgt := 166) hx hb dX8_reads_159 (by decide) (fun c159 => ?_) (fun c159 => ?_)
          · replace hf := xif_t c159 hf
            exact (w_X8_reads_b166 E (M := M) (L := L) (M67 := M67) (k167 := (f_X8_reads_b167 M67 k219)) (hk167 := (w_X8_reads_b167 E (M := M) (L := L) (M67 := M67) (k219 := k219) (hk219 := hk219))))  hf _ (lv_sub hl [] rfl) _ _ hI
          · replace hf := xif_f c159 hf
            exact (w_X8_reads_b162 E (M := M) (L := L) (M67 := M67) (k167 := (f_X8_reads_b167 M67 k219)) (hk167 := (w_X8_reads_b167 E (M := M) (L := L) (M67 := M67) (k219 := k219) (hk219 := hk219))))  hf _ (lv_sub hl [] rfl) _ _ hI
    · replace hf := xif_f c78 hf
      refine lv_aload_n hx hb dX8_reads_81 rfl (lv_at hl 0 rfl) ?_
      refine lv_aload_n hx hb dX8_reads_82 rfl (lv_at hl 0 rfl) ?_
      refine gf_X8_86 E hI dX8_reads_83 ?_
      refine lv_bipush (v := 99) hx hb dX8_reads_86 (by decide) ?_
      refine lv_icmp_le (tgt := 98) hx hb dX8_reads_88 (by decide) (fun c88 => ?_) (fun c88 => ?_)
      · replace hf := xif_t c88 hf
        refine lv_bipush (v := 10) hx hb dX8_reads_98 (by decide) ?_
        refine lv_aload_n hx hb dX8_reads_100 rfl (lv_at hl 0 rfl) ?_
        refine gf_X8_86 E hI dX8_reads_101 ?_
        refine lv_imul hx hb dX8_reads_104 ?_
        refine lv_aload_n hx hb dX8_reads_105 rfl (lv_at hl 0 rfl) ?_
        refine lv_aload_n hx hb dX8_reads_106 rfl (lv_at hl 0 rfl) ?_
        refine gf_X8_76 E hI dX8_reads_107 ?_
        obtain ⟨r110, g110, hf⟩ := xb1_s hf
        refine x_callVi (As := [.int (M67 8 0 16)]) (rest := [.int ((10 : Int32) * (M67 8 0 19)), .ref (xq G 8 0)]) E hI mx_8_0 rfl rfl rfl (c_X8_letterAt l G _ (M := M67) (L := L) (a1 := (M67 8 0 16)) g110) yv_X8_letterAt ml_X8_79 (by decide) (by decide) rfl rfl hl.1 (Nat.le_of_ble_eq_true rfl) dX8_reads_110 (fun H locs hI => ?_)
        refine lv_iadd hx hb dX8_reads_113 ?_
        refine lv_bipush (v := 48) hx hb dX8_reads_114 (by decide) ?_
        refine lv_isub hx hb dX8_reads_116 ?_
        exact (w_X8_reads_b117 E (M := M) (L := L) (r39 := r39) (M67 := M67) (k67 := (f_X8_reads_l67 r39 k219 n)) (hk67 := ih)) ((((10 : Int32) * (M67 8 0 19)) + r110) - (48 : Int32)) hf _ (lv_sub hl [0, 1] rfl) _ _ hI
      · replace hf := xif_f c88 hf
        refine lv_aload_n hx hb dX8_reads_91 rfl (lv_at hl 0 rfl) ?_
        refine gf_X8_86 E hI dX8_reads_92 ?_
        refine lv_goto (tgt := 117) hx hb dX8_reads_95 (by decide) ?_
        exact (w_X8_reads_b117 E (M := M) (L := L) (r39 := r39) (M67 := M67) (k67 := (f_X8_reads_l67 r39 k219 n)) (hk67 := ih)) (M67 8 0 19) hf _ (lv_sub hl [0, 1] rfl) _ _ hI
set_option maxHeartbeats 4000000 in
set_option maxRecDepth 100000 in
theorem w_X8_reads_l0 {p : Program} {l : Launch} {e : Env} {s : State} {m : MethodId} {args : Array Value} {below : List Frame} {meth : Method} {c : Code} {G : xG} {MM : xMem} (E : xE p s m args meth c cX8_reads 2 none RX8 G) (M : xMem) (L : xLL) : ∀ (n : Nat), ∀ (M0 : xMem), f_X8_reads_l0  n M0 = some MM → ∀ (ls : Array Slot), lv_has ls 2 [(0, .ref (xq G 8 0))] → ∀ (H : Heap) (locs : List Loc), xI G M0 L s.heap H locs → W p l e (xR 3) s m args below meth c H locs 0 0 (MQ below (xQv G MM L s.heap.size) args s 0 0 (xZ G s.heap.size)) (F0 m 0 ls []) := by
  have hx := E.1
  have hb := E.2.1
  intro n
  induction n with
  | zero =>
    intro M0 hf
    exact absurd hf (by simp [f_X8_reads_l0])
  | succ n ih =>
    intro M0 hf ls hl H locs hI
    rw [f_X8_reads_l0] at hf
    refine lv_aload_n hx hb dX8_reads_0 rfl (lv_at hl 0 rfl) ?_
    refine lv_aload_n hx hb dX8_reads_1 rfl (lv_at hl 0 rfl) ?_
    refine gf_X8_76 E hI dX8_reads_2 ?_
    obtain ⟨r5, g5, hf⟩ := xb1_s hf
    refine x_callVi (As := [.int (M0 8 0 16)]) (rest := []) E hI mx_8_0 rfl rfl rfl (c_X8_letterAt l G _ (M := M0) (L := L) (a1 := (M0 8 0 16)) g5) yv_X8_letterAt ml_X8_79 (by decide) (by decide) rfl rfl hl.1 (Nat.le_of_ble_eq_true rfl) dX8_reads_5 (fun H locs hI => ?_)
    refine lv_bipush (v := 32) hx hb dX8_reads_8 (by decide) ?_
    refine lv_icmp_ne (tgt := 26) hx hb dX8_reads_10 (by decide) (fun c10 => ?_) (fun c10 => ?_)
    · replace hf := xif_f c10 hf
      refine lv_aload_n hx hb dX8_reads_26 rfl (lv_at hl 0 rfl) ?_
      refine lv_aload_n hx hb dX8_reads_27 rfl (lv_at hl 0 rfl) ?_
      refine gf_X8_76 E hI dX8_reads_28 ?_
      obtain ⟨M31, e31, hf⟩ := xlet_s hf
      refine pf_X8_83 E hI dX8_reads_31 e31 (fun H locs hI => ?_)
      refine lv_aload_n hx hb dX8_reads_34 rfl (lv_at hl 0 rfl) ?_
      refine lv_aload_n hx hb dX8_reads_35 rfl (lv_at hl 0 rfl) ?_
      refine gf_X8_76 E hI dX8_reads_36 ?_
      obtain ⟨r39, g39, hf⟩ := xb1_s hf
      refine x_callVi (As := [.int (M31 8 0 16)]) (rest := []) E hI mx_8_0 rfl rfl rfl (c_X8_letterAt l G _ (M := M31) (L := L) (a1 := (M31 8 0 16)) g39) yv_X8_letterAt ml_X8_79 (by decide) (by decide) rfl rfl hl.1 (Nat.le_of_ble_eq_true rfl) dX8_reads_39 (fun H locs hI => ?_)
      refine lv_istore_n (lv' := [(1, .int r39), (0, .ref (xq G 8 0))]) hx hb dX8_reads_42 rfl hl (by decide) rfl (fun ls hl => ?_)
      refine lv_aload_n hx hb dX8_reads_43 rfl (lv_at hl 1 rfl) ?_
      refine lv_iconst (v := 0) hx hb dX8_reads_44 (by decide) ?_
      obtain ⟨M45, e45, hf⟩ := xlet_s hf
      refine pf_X8_86 E hI dX8_reads_45 e45 (fun H locs hI => ?_)
      refine lv_iload_n hx hb dX8_reads_48 rfl (lv_at hl 0 rfl) ?_
      refine lv_if_ge (tgt := 60) hx hb dX8_reads_49 (by decide) (fun c49 => ?_) (fun c49 => ?_)
      · replace hf := xif_t c49 hf
        refine lv_iload_n hx hb dX8_reads_60 rfl (lv_at hl 0 rfl) ?_
        obtain ⟨r61, g61, hf⟩ := xb1_s hf
        refine x_callSi (As := [.int r39]) (rest := []) E hI (c_X8_isFigure l G _ (M := M45) (L := L) (a0 := r39) g61) ys_X8_isFigure ml_X8_92 (by decide) (by decide) rfl rfl hl.1 (Nat.le_of_ble_eq_true rfl) dX8_reads_61 (fun H locs hI => ?_)
        refine lv_if_eq (tgt := 173) hx hb dX8_reads_64 (by decide) (fun c64 => ?_) (fun c64 => ?_)
        · replace hf := xif_t c64 hf
          refine lv_aload_n hx hb dX8_reads_173 rfl (lv_at hl 1 rfl) ?_
          refine lv_iload_n hx hb dX8_reads_174 rfl (lv_at hl 0 rfl) ?_
          refine lv_bipush (v := 115) hx hb dX8_reads_175 (by decide) ?_
          refine lv_icmp_eq (tgt := 186) hx hb dX8_reads_177 (by decide) (fun c177 => ?_) (fun c177 => ?_)
          · replace hf := xif_t c177 hf
            exact (w_X8_reads_b186 E (M := M) (L := L) (r39 := r39) (M45 := M45) (k201 := (f_X8_reads_b201 r39 M45 (f_X8_reads_b219))) (hk201 := (w_X8_reads_b201 E (M := M) (L := L) (r39 := r39) (M45 := M45) (k219 := (f_X8_reads_b219)) (hk219 := (w_X8_reads_b219 E (M := M) (L := L))))))  hf _ (lv_sub hl [1, 0] rfl) _ _ hI
          · replace hf := xif_f c177 hf
            refine lv_iload_n hx hb dX8_reads_180 rfl (lv_at hl 0 rfl) ?_
            refine lv_bipush (v := 101) hx hb dX8_reads_181 (by decide) ?_
            refine lv_icmp_ne (tgt := 190) hx hb dX8_reads_183 (by decide) (fun c183 => ?_) (fun c183 => ?_)
            · replace hf := xif_f c183 hf
              refine lv_iload_n hx hb dX8_reads_190 rfl (lv_at hl 0 rfl) ?_
              refine lv_bipush (v := 59) hx hb dX8_reads_191 (by decide) ?_
              refine lv_icmp_ne (tgt := 200) hx hb dX8_reads_193 (by decide) (fun c193 => ?_) (fun c193 => ?_)
              · replace hf := xif_f c193 hf
                refine lv_iconst (v := 4) hx hb dX8_reads_200 (by decide) ?_
                exact (w_X8_reads_b201 E (M := M) (L := L) (r39 := r39) (M45 := M45) (k219 := (f_X8_reads_b219)) (hk219 := (w_X8_reads_b219 E (M := M) (L := L)))) (4 : Int32) hf _ (lv_sub hl [1, 0] rfl) _ _ hI
              · replace hf := xif_t c193 hf
                refine lv_iconst (v := 3) hx hb dX8_reads_196 (by decide) ?_
                refine lv_goto (tgt := 201) hx hb dX8_reads_197 (by decide) ?_
                exact (w_X8_reads_b201 E (M := M) (L := L) (r39 := r39) (M45 := M45) (k219 := (f_X8_reads_b219)) (hk219 := (w_X8_reads_b219 E (M := M) (L := L)))) (3 : Int32) hf _ (lv_sub hl [1, 0] rfl) _ _ hI
            · replace hf := xif_t c183 hf
              exact (w_X8_reads_b186 E (M := M) (L := L) (r39 := r39) (M45 := M45) (k201 := (f_X8_reads_b201 r39 M45 (f_X8_reads_b219))) (hk201 := (w_X8_reads_b201 E (M := M) (L := L) (r39 := r39) (M45 := M45) (k219 := (f_X8_reads_b219)) (hk219 := (w_X8_reads_b219 E (M := M) (L := L))))))  hf _ (lv_sub hl [1, 0] rfl) _ _ hI
        · replace hf := xif_f c64 hf
          exact (w_X8_reads_l67 E (M := M) (L := L) (r39 := r39) (k219 := (f_X8_reads_b219)) (hk219 := (w_X8_reads_b219 E (M := M) (L := L))) FU) M45 hf _ (lv_sub hl [1, 0] rfl) _ _ hI
      · replace hf := xif_f c49 hf
        refine lv_aload_n hx hb dX8_reads_52 rfl (lv_at hl 1 rfl) ?_
        refine lv_iconst (v := 0) hx hb dX8_reads_53 (by decide) ?_
        obtain ⟨M54, e54, hf⟩ := xlet_s hf
        refine pf_X8_89 E hI dX8_reads_54 e54 (fun H locs hI => ?_)
        refine lv_goto (tgt := 219) hx hb dX8_reads_57 (by decide) ?_
        exact (w_X8_reads_b219 E (M := M) (L := L)) M54 hf _ (lv_sub hl [] rfl) _ _ hI
    · replace hf := xif_t c10 hf
      refine lv_aload_n hx hb dX8_reads_13 rfl (lv_at hl 0 rfl) ?_
      refine lv_dup hx hb dX8_reads_14 rfl ?_
      refine gf_X8_76 E hI dX8_reads_15 ?_
      refine lv_iconst (v := 1) hx hb dX8_reads_18 (by decide) ?_
      refine lv_iadd hx hb dX8_reads_19 ?_
      obtain ⟨M20, e20, hf⟩ := xlet_s hf
      refine pf_X8_76 E hI dX8_reads_20 e20 (fun H locs hI => ?_)
      refine lv_goto (tgt := 0) hx hb dX8_reads_23 (by decide) ?_
      exact ih M20 hf _ (lv_sub hl [0] rfl) _ _ hI
set_option maxHeartbeats 4000000 in
set_option maxRecDepth 100000 in
theorem c_X8_reads (l : Launch) (G : xG) (sz : Nat) (M : xMem) (L : xLL) {MM : xMem} (hf : f_X8_reads M = some MM) : Met l yX8_reads (Cond.code yX8_reads cX8_reads 2 none :: xTB) (xR 3) (xP G M L sz [.ref (xq G 8 0)]) (xQv G MM L sz) 0 0 (xZ G sz) := by
  refine x_met (cc := cX8_reads) (nL := 2) (rt := none) (by decide) (Nat.le_of_ble_eq_true rfl) ?_
  intro p e s m below meth c ls hsz E hl hI
  subst hsz
  have E : xE p s m _ meth c cX8_reads 2 none RX8 G := E
  have hx := E.1
  have hb := E.2.1
  have hl : lv_has ls 2 [(0, .ref (xq G 8 0))] := hl
  rw [f_X8_reads] at hf
  exact (w_X8_reads_l0 E (M := M) (L := L) FU) M hf _ (lv_sub hl [0] rfl) _ _ hI
theorem dX8_takesNumber_0 : decode cX8_takesNumber 0 = .ok (.aload_n 0, 1) := by decide +kernel
theorem dX8_takesNumber_1 : decode cX8_takesNumber 1 = .ok (.getfield 96, 3) := by decide +kernel
theorem dX8_takesNumber_4 : decode cX8_takesNumber 4 = .ok (.ifCond .ne 27, 3) := by decide +kernel
theorem dX8_takesNumber_7 : decode cX8_takesNumber 7 = .ok (.aload_n 0, 1) := by decide +kernel
theorem dX8_takesNumber_8 : decode cX8_takesNumber 8 = .ok (.getfield 89, 3) := by decide +kernel
theorem dX8_takesNumber_11 : decode cX8_takesNumber 11 = .ok (.iconst 2, 1) := by decide +kernel
theorem dX8_takesNumber_12 : decode cX8_takesNumber 12 = .ok (.if_icmp .ne 19, 3) := by decide +kernel
theorem dX8_takesNumber_15 : decode cX8_takesNumber 15 = .ok (.aload_n 0, 1) := by decide +kernel
theorem dX8_takesNumber_16 : decode cX8_takesNumber 16 = .ok (.getfield 86, 3) := by decide +kernel
theorem dX8_takesNumber_19 : decode cX8_takesNumber 19 = .ok (.iload_n 1, 1) := by decide +kernel
theorem dX8_takesNumber_20 : decode cX8_takesNumber 20 = .ok (.iload_n 2, 1) := by decide +kernel
theorem dX8_takesNumber_21 : decode cX8_takesNumber 21 = .ok (.invokestatic 66, 3) := by decide +kernel
theorem dX8_takesNumber_24 : decode cX8_takesNumber 24 = .ok (.ifCond .eq 7, 3) := by decide +kernel
theorem dX8_takesNumber_27 : decode cX8_takesNumber 27 = .ok (.iconst 1, 1) := by decide +kernel
theorem dX8_takesNumber_28 : decode cX8_takesNumber 28 = .ok (.goto 4, 3) := by decide +kernel
theorem dX8_takesNumber_31 : decode cX8_takesNumber 31 = .ok (.iconst 0, 1) := by decide +kernel
theorem dX8_takesNumber_32 : decode cX8_takesNumber 32 = .ok (.istore_n 3, 1) := by decide +kernel
theorem dX8_takesNumber_33 : decode cX8_takesNumber 33 = .ok (.aload_n 0, 1) := by decide +kernel
theorem dX8_takesNumber_34 : decode cX8_takesNumber 34 = .ok (.iload_n 3, 1) := by decide +kernel
theorem dX8_takesNumber_35 : decode cX8_takesNumber 35 = .ok (.ifCond .ne 7, 3) := by decide +kernel
theorem dX8_takesNumber_38 : decode cX8_takesNumber 38 = .ok (.iconst 1, 1) := by decide +kernel
theorem dX8_takesNumber_39 : decode cX8_takesNumber 39 = .ok (.goto 4, 3) := by decide +kernel
theorem dX8_takesNumber_42 : decode cX8_takesNumber 42 = .ok (.iconst 0, 1) := by decide +kernel
theorem dX8_takesNumber_43 : decode cX8_takesNumber 43 = .ok (.putfield 96, 3) := by decide +kernel
theorem dX8_takesNumber_46 : decode cX8_takesNumber 46 = .ok (.aload_n 0, 1) := by decide +kernel
theorem dX8_takesNumber_47 : decode cX8_takesNumber 47 = .ok (.getfield 86, 3) := by decide +kernel
theorem dX8_takesNumber_50 : decode cX8_takesNumber 50 = .ok (.istore 4, 2) := by decide +kernel
theorem dX8_takesNumber_52 : decode cX8_takesNumber 52 = .ok (.iload_n 3, 1) := by decide +kernel
theorem dX8_takesNumber_53 : decode cX8_takesNumber 53 = .ok (.ifCond .eq 7, 3) := by decide +kernel
theorem dX8_takesNumber_56 : decode cX8_takesNumber 56 = .ok (.aload_n 0, 1) := by decide +kernel
theorem dX8_takesNumber_57 : decode cX8_takesNumber 57 = .ok (.invokevirtual 100, 3) := by decide +kernel
theorem dX8_takesNumber_60 : decode cX8_takesNumber 60 = .ok (.iload_n 3, 1) := by decide +kernel
theorem dX8_takesNumber_61 : decode cX8_takesNumber 61 = .ok (.ifCond .eq 8, 3) := by decide +kernel
theorem dX8_takesNumber_64 : decode cX8_takesNumber 64 = .ok (.iload 4, 2) := by decide +kernel
theorem dX8_takesNumber_66 : decode cX8_takesNumber 66 = .ok (.goto 4, 3) := by decide +kernel
theorem dX8_takesNumber_69 : decode cX8_takesNumber 69 = .ok (.iconst 0, 1) := by decide +kernel
theorem dX8_takesNumber_70 : decode cX8_takesNumber 70 = .ok (.ireturn, 1) := by decide +kernel
def f_X8_takesNumber_b70 (M60 : xMem) (t70_0 : Int32) : Option (Int32 × xMem) := some (t70_0, M60)
def f_X8_takesNumber_b60 (t32_0 : Int32) (M43 : xMem) (M60 : xMem) : Option (Int32 × xMem) := (if t32_0 = (0 : Int32) then (f_X8_takesNumber_b70 M60) (0 : Int32) else (f_X8_takesNumber_b70 M60) (M43 8 0 19))
def f_X8_takesNumber_b43 (M : xMem) (t32_0 : Int32) (t43_0 : Int32) : Option (Int32 × xMem) := xchk (xbo t43_0) (xchk (xbf t43_0) (xlet (xsf M 8 20 t43_0) (fun M43 => (if t32_0 = (0 : Int32) then (f_X8_takesNumber_b60 t32_0 M43) M43 else xb1 (f_X8_reads M43) (fun M57 => (f_X8_takesNumber_b60 t32_0 M43) M57)))))
def f_X8_takesNumber_b32 (M : xMem) (t32_0 : Int32) : Option (Int32 × xMem) := (if t32_0 = (0 : Int32) then (f_X8_takesNumber_b43 M t32_0) (1 : Int32) else (f_X8_takesNumber_b43 M t32_0) (0 : Int32))
def f_X8_takesNumber_b31 (k32 : Int32 → Option (Int32 × xMem)) : Option (Int32 × xMem) := k32 (0 : Int32)
def f_X8_takesNumber (a1 : Int32) (a2 : Int32) (M : xMem) : Option (Int32 × xMem) := (if (M 8 0 20) = (0 : Int32) then (if (M 8 0 18) = (2 : Int32) then xb1 (f_X8_in (M 8 0 19) a1 a2 M) (fun r21 => (if r21 = (0 : Int32) then (f_X8_takesNumber_b31 (f_X8_takesNumber_b32 M)) else (f_X8_takesNumber_b32 M) (1 : Int32))) else (f_X8_takesNumber_b31 (f_X8_takesNumber_b32 M))) else (f_X8_takesNumber_b31 (f_X8_takesNumber_b32 M)))
set_option maxHeartbeats 4000000 in
set_option maxRecDepth 100000 in
theorem w_X8_takesNumber_b70 {p : Program} {l : Launch} {e : Env} {s : State} {m : MethodId} {args : Array Value} {below : List Frame} {meth : Method} {c : Code} {G : xG} {rr : Int32} {MM : xMem} (E : xE p s m args meth c cX8_takesNumber 5 (some .int) RX8 G) (M : xMem) (L : xLL) (M60 : xMem) : ∀ (t70_0 : Int32), f_X8_takesNumber_b70 M60 t70_0 = some (rr, MM) → ∀ (ls : Array Slot), lv_has ls 5 [] → ∀ (H : Heap) (locs : List Loc), xI G M60 L s.heap H locs → W p l e (xR 4) s m args below meth c H locs 0 0 (MQ below (xQi G rr MM L s.heap.size) args s 0 0 (xZ G s.heap.size)) (F0 m 70 ls [.int t70_0]) := by
  have hx := E.1
  have hb := E.2.1
  intro t70_0 hf ls hl H locs hI
  rw [f_X8_takesNumber_b70] at hf
  obtain ⟨rfl, rfl⟩ := xinj2 hf
  exact x_iret E hI rfl dX8_takesNumber_70
set_option maxHeartbeats 4000000 in
set_option maxRecDepth 100000 in
theorem w_X8_takesNumber_b60 {p : Program} {l : Launch} {e : Env} {s : State} {m : MethodId} {args : Array Value} {below : List Frame} {meth : Method} {c : Code} {G : xG} {rr : Int32} {MM : xMem} (E : xE p s m args meth c cX8_takesNumber 5 (some .int) RX8 G) (M : xMem) (L : xLL) (t32_0 : Int32) (M43 : xMem) : ∀ (M60 : xMem), f_X8_takesNumber_b60 t32_0 M43 M60 = some (rr, MM) → ∀ (ls : Array Slot), lv_has ls 5 [(3, .int t32_0), (4, .int (M43 8 0 19))] → ∀ (H : Heap) (locs : List Loc), xI G M60 L s.heap H locs → W p l e (xR 4) s m args below meth c H locs 0 0 (MQ below (xQi G rr MM L s.heap.size) args s 0 0 (xZ G s.heap.size)) (F0 m 60 ls []) := by
  have hx := E.1
  have hb := E.2.1
  intro M60 hf ls hl H locs hI
  rw [f_X8_takesNumber_b60] at hf
  refine lv_iload_n hx hb dX8_takesNumber_60 rfl (lv_at hl 0 rfl) ?_
  refine lv_if_eq (tgt := 69) hx hb dX8_takesNumber_61 (by decide) (fun c61 => ?_) (fun c61 => ?_)
  · replace hf := xif_t c61 hf
    refine lv_iconst (v := 0) hx hb dX8_takesNumber_69 (by decide) ?_
    exact (w_X8_takesNumber_b70 E (M := M) (L := L) (M60 := M60)) (0 : Int32) hf _ (lv_sub hl [] rfl) _ _ hI
  · replace hf := xif_f c61 hf
    refine lv_iload hx hb dX8_takesNumber_64 (lv_at hl 1 rfl) ?_
    refine lv_goto (tgt := 70) hx hb dX8_takesNumber_66 (by decide) ?_
    exact (w_X8_takesNumber_b70 E (M := M) (L := L) (M60 := M60)) (M43 8 0 19) hf _ (lv_sub hl [] rfl) _ _ hI
set_option maxHeartbeats 4000000 in
set_option maxRecDepth 100000 in
theorem w_X8_takesNumber_b43 {p : Program} {l : Launch} {e : Env} {s : State} {m : MethodId} {args : Array Value} {below : List Frame} {meth : Method} {c : Code} {G : xG} {rr : Int32} {MM : xMem} (E : xE p s m args meth c cX8_takesNumber 5 (some .int) RX8 G) (M : xMem) (L : xLL) (t32_0 : Int32) : ∀ (t43_0 : Int32), f_X8_takesNumber_b43 M t32_0 t43_0 = some (rr, MM) → ∀ (ls : Array Slot), lv_has ls 5 [(0, .ref (xq G 8 0)), (3, .int t32_0)] → ∀ (H : Heap) (locs : List Loc), xI G M L s.heap H locs → W p l e (xR 4) s m args below meth c H locs 0 0 (MQ below (xQi G rr MM L s.heap.size) args s 0 0 (xZ G s.heap.size)) (F0 m 43 ls [.int t43_0, .ref (xq G 8 0)]) := by
  have hx := E.1
  have hb := E.2.1
  intro t43_0 hf ls hl H locs hI
  rw [f_X8_takesNumber_b43] at hf
  obtain ⟨h43n, hf⟩ := xchk_s hf
  obtain ⟨h43f, hf⟩ := xchk_s hf
  obtain ⟨M43, e43, hf⟩ := xlet_s hf
  refine pf_X8_96 E hI (xbo_s h43n) (xbf_s h43f) dX8_takesNumber_43 e43 (fun H locs hI => ?_)
  refine lv_aload_n hx hb dX8_takesNumber_46 rfl (lv_at hl 0 rfl) ?_
  refine gf_X8_86 E hI dX8_takesNumber_47 ?_
  refine lv_istore (lv' := [(4, .int (M43 8 0 19)), (0, .ref (xq G 8 0)), (3, .int t32_0)]) hx hb dX8_takesNumber_50 hl (by decide) rfl (fun ls hl => ?_)
  refine lv_iload_n hx hb dX8_takesNumber_52 rfl (lv_at hl 2 rfl) ?_
  refine lv_if_eq (tgt := 60) hx hb dX8_takesNumber_53 (by decide) (fun c53 => ?_) (fun c53 => ?_)
  · replace hf := xif_t c53 hf
    exact (w_X8_takesNumber_b60 E (M := M) (L := L) (t32_0 := t32_0) (M43 := M43)) M43 hf _ (lv_sub hl [2, 0] rfl) _ _ hI
  · replace hf := xif_f c53 hf
    refine lv_aload_n hx hb dX8_takesNumber_56 rfl (lv_at hl 1 rfl) ?_
    obtain ⟨M57, g57, hf⟩ := xb1_s hf
    refine x_callVv (As := []) (rest := []) E hI mx_8_0 rfl rfl rfl (c_X8_reads l G _ (M := M43) (L := L) g57) yv_X8_reads ml_X8_100 (by decide) (by decide) rfl rfl hl.1 (Nat.le_of_ble_eq_true rfl) dX8_takesNumber_57 (fun H locs hI => ?_)
    exact (w_X8_takesNumber_b60 E (M := M) (L := L) (t32_0 := t32_0) (M43 := M43)) M57 hf _ (lv_sub hl [2, 0] rfl) _ _ hI
set_option maxHeartbeats 4000000 in
set_option maxRecDepth 100000 in
theorem w_X8_takesNumber_b32 {p : Program} {l : Launch} {e : Env} {s : State} {m : MethodId} {args : Array Value} {below : List Frame} {meth : Method} {c : Code} {G : xG} {rr : Int32} {MM : xMem} (E : xE p s m args meth c cX8_takesNumber 5 (some .int) RX8 G) (M : xMem) (L : xLL) : ∀ (t32_0 : Int32), f_X8_takesNumber_b32 M t32_0 = some (rr, MM) → ∀ (ls : Array Slot), lv_has ls 5 [(0, .ref (xq G 8 0))] → ∀ (H : Heap) (locs : List Loc), xI G M L s.heap H locs → W p l e (xR 4) s m args below meth c H locs 0 0 (MQ below (xQi G rr MM L s.heap.size) args s 0 0 (xZ G s.heap.size)) (F0 m 32 ls [.int t32_0]) := by
  have hx := E.1
  have hb := E.2.1
  intro t32_0 hf ls hl H locs hI
  rw [f_X8_takesNumber_b32] at hf
  refine lv_istore_n (lv' := [(3, .int t32_0), (0, .ref (xq G 8 0))]) hx hb dX8_takesNumber_32 rfl hl (by decide) rfl (fun ls hl => ?_)
  refine lv_aload_n hx hb dX8_takesNumber_33 rfl (lv_at hl 1 rfl) ?_
  refine lv_iload_n hx hb dX8_takesNumber_34 rfl (lv_at hl 0 rfl) ?_
  refine lv_if_ne (tgt := 42) hx hb dX8_takesNumber_35 (by decide) (fun c35 => ?_) (fun c35 => ?_)
  · replace hf := xif_f c35 hf
    refine lv_iconst (v := 0) hx hb dX8_takesNumber_42 (by decide) ?_
    exact (w_X8_takesNumber_b43 E (M := M) (L := L) (t32_0 := t32_0)) (0 : Int32) hf _ (lv_sub hl [1, 0] rfl) _ _ hI
  · replace hf := xif_t c35 hf
    refine lv_iconst (v := 1) hx hb dX8_takesNumber_38 (by decide) ?_
    refine lv_goto (tgt := 43) hx hb dX8_takesNumber_39 (by decide) ?_
    exact (w_X8_takesNumber_b43 E (M := M) (L := L) (t32_0 := t32_0)) (1 : Int32) hf _ (lv_sub hl [1, 0] rfl) _ _ hI
set_option maxHeartbeats 4000000 in
set_option maxRecDepth 100000 in
theorem w_X8_takesNumber_b31 {p : Program} {l : Launch} {e : Env} {s : State} {m : MethodId} {args : Array Value} {below : List Frame} {meth : Method} {c : Code} {G : xG} {rr : Int32} {MM : xMem} (E : xE p s m args meth c cX8_takesNumber 5 (some .int) RX8 G) (M : xMem) (L : xLL) (k32 : Int32 → Option (Int32 × xMem)) (hk32 : ∀ (t32_0 : Int32), k32 t32_0 = some (rr, MM) → ∀ (ls : Array Slot), lv_has ls 5 [(0, .ref (xq G 8 0))] → ∀ (H : Heap) (locs : List Loc), xI G M L s.heap H locs → W p l e (xR 4) s m args below meth c H locs 0 0 (MQ below (xQi G rr MM L s.heap.size) args s 0 0 (xZ G s.heap.size)) (F0 m 32 ls [.int t32_0])) : f_X8_takesNumber_b31 k32  = some (rr, MM) → ∀ (ls : Array Slot), lv_has ls 5 [(0, .ref (xq G 8 0))] → ∀ (H : Heap) (locs : List Loc), xI G M L s.heap H locs → W p l e (xR 4) s m args below meth c H locs 0 0 (MQ below (xQi G rr MM L s.heap.size) args s 0 0 (xZ G s.heap.size)) (F0 m 31 ls []) := by
  have hx := E.1
  have hb := E.2.1
  intro  hf ls hl H locs hI
  rw [f_X8_takesNumber_b31] at hf
  refine lv_iconst (v := 0) hx hb dX8_takesNumber_31 (by decide) ?_
  exact hk32 (0 : Int32) hf _ (lv_sub hl [0] rfl) _ _ hI
set_option maxHeartbeats 4000000 in
set_option maxRecDepth 100000 in
theorem c_X8_takesNumber (l : Launch) (G : xG) (sz : Nat) (M : xMem) (L : xLL) (a1 : Int32) (a2 : Int32) {rr : Int32} {MM : xMem} (hf : f_X8_takesNumber a1 a2 M = some (rr, MM)) : Met l yX8_takesNumber (Cond.code yX8_takesNumber cX8_takesNumber 5 (some .int) :: xTB) (xR 4) (xP G M L sz [.ref (xq G 8 0), .int a1, .int a2]) (xQi G rr MM L sz) 0 0 (xZ G sz) := by
  refine x_met (cc := cX8_takesNumber) (nL := 5) (rt := (some .int)) (by decide) (Nat.le_of_ble_eq_true rfl) ?_
  intro p e s m below meth c ls hsz E hl hI
  subst hsz
  have E : xE p s m _ meth c cX8_takesNumber 5 (some .int) RX8 G := E
  have hx := E.1
  have hb := E.2.1
  have hl : lv_has ls 5 [(0, .ref (xq G 8 0)), (1, .int a1), (2, .int a2)] := hl
  rw [f_X8_takesNumber] at hf
  refine lv_aload_n hx hb dX8_takesNumber_0 rfl (lv_at hl 0 rfl) ?_
  refine gf_X8_96 E hI dX8_takesNumber_1 ?_
  refine lv_if_ne (tgt := 31) hx hb dX8_takesNumber_4 (by decide) (fun c4 => ?_) (fun c4 => ?_)
  · replace hf := xif_f c4 hf
    exact (w_X8_takesNumber_b31 E (M := M) (L := L) (k32 := (f_X8_takesNumber_b32 M)) (hk32 := (w_X8_takesNumber_b32 E (M := M) (L := L))))  hf _ (lv_sub hl [0] rfl) _ _ hI
  · replace hf := xif_t c4 hf
    refine lv_aload_n hx hb dX8_takesNumber_7 rfl (lv_at hl 0 rfl) ?_
    refine gf_X8_89 E hI dX8_takesNumber_8 ?_
    refine lv_iconst (v := 2) hx hb dX8_takesNumber_11 (by decide) ?_
    refine lv_icmp_ne (tgt := 31) hx hb dX8_takesNumber_12 (by decide) (fun c12 => ?_) (fun c12 => ?_)
    · replace hf := xif_f c12 hf
      exact (w_X8_takesNumber_b31 E (M := M) (L := L) (k32 := (f_X8_takesNumber_b32 M)) (hk32 := (w_X8_takesNumber_b32 E (M := M) (L := L))))  hf _ (lv_sub hl [0] rfl) _ _ hI
    · replace hf := xif_t c12 hf
      refine lv_aload_n hx hb dX8_takesNumber_15 rfl (lv_at hl 0 rfl) ?_
      refine gf_X8_86 E hI dX8_takesNumber_16 ?_
      refine lv_iload_n hx hb dX8_takesNumber_19 rfl (lv_at hl 1 rfl) ?_
      refine lv_iload_n hx hb dX8_takesNumber_20 rfl (lv_at hl 2 rfl) ?_
      obtain ⟨r21, g21, hf⟩ := xb1_s hf
      refine x_callSi (As := [.int (M 8 0 19), .int a1, .int a2]) (rest := []) E hI (c_X8_in l G _ (M := M) (L := L) (a0 := (M 8 0 19)) (a1 := a1) (a2 := a2) g21) ys_X8_in ml_X8_66 (by decide) (by decide) rfl rfl hl.1 (Nat.le_of_ble_eq_true rfl) dX8_takesNumber_21 (fun H locs hI => ?_)
      refine lv_if_eq (tgt := 31) hx hb dX8_takesNumber_24 (by decide) (fun c24 => ?_) (fun c24 => ?_)
      · replace hf := xif_t c24 hf
        exact (w_X8_takesNumber_b31 E (M := M) (L := L) (k32 := (f_X8_takesNumber_b32 M)) (hk32 := (w_X8_takesNumber_b32 E (M := M) (L := L))))  hf _ (lv_sub hl [0] rfl) _ _ hI
      · replace hf := xif_f c24 hf
        refine lv_iconst (v := 1) hx hb dX8_takesNumber_27 (by decide) ?_
        refine lv_goto (tgt := 32) hx hb dX8_takesNumber_28 (by decide) ?_
        exact (w_X8_takesNumber_b32 E (M := M) (L := L)) (1 : Int32) hf _ (lv_sub hl [0] rfl) _ _ hI
theorem dX8_readItem_0 : decode cX8_readItem 0 = .ok (.aload_n 0, 1) := by decide +kernel
theorem dX8_readItem_1 : decode cX8_readItem 1 = .ok (.getfield 86, 3) := by decide +kernel
theorem dX8_readItem_4 : decode cX8_readItem 4 = .ok (.istore_n 1, 1) := by decide +kernel
theorem dX8_readItem_5 : decode cX8_readItem 5 = .ok (.aload_n 0, 1) := by decide +kernel
theorem dX8_readItem_6 : decode cX8_readItem 6 = .ok (.getfield 89, 3) := by decide +kernel
theorem dX8_readItem_9 : decode cX8_readItem 9 = .ok (.iconst 1, 1) := by decide +kernel
theorem dX8_readItem_10 : decode cX8_readItem 10 = .ok (.if_icmp .ne 29, 3) := by decide +kernel
theorem dX8_readItem_13 : decode cX8_readItem 13 = .ok (.iload_n 1, 1) := by decide +kernel
theorem dX8_readItem_14 : decode cX8_readItem 14 = .ok (.bipush 115, 2) := by decide +kernel
theorem dX8_readItem_16 : decode cX8_readItem 16 = .ok (.if_icmp .ne 14, 3) := by decide +kernel
theorem dX8_readItem_19 : decode cX8_readItem 19 = .ok (.aload_n 0, 1) := by decide +kernel
theorem dX8_readItem_20 : decode cX8_readItem 20 = .ok (.getfield 103, 3) := by decide +kernel
theorem dX8_readItem_23 : decode cX8_readItem 23 = .ok (.iconst 5, 1) := by decide +kernel
theorem dX8_readItem_24 : decode cX8_readItem 24 = .ok (.if_icmp .ne 21, 3) := by decide +kernel
theorem dX8_readItem_27 : decode cX8_readItem 27 = .ok (.goto 12, 3) := by decide +kernel
theorem dX8_readItem_30 : decode cX8_readItem 30 = .ok (.aload_n 0, 1) := by decide +kernel
theorem dX8_readItem_31 : decode cX8_readItem 31 = .ok (.getfield 106, 3) := by decide +kernel
theorem dX8_readItem_34 : decode cX8_readItem 34 = .ok (.bipush 6, 2) := by decide +kernel
theorem dX8_readItem_36 : decode cX8_readItem 36 = .ok (.if_icmp .ne 9, 3) := by decide +kernel
theorem dX8_readItem_39 : decode cX8_readItem 39 = .ok (.aload_n 0, 1) := by decide +kernel
theorem dX8_readItem_40 : decode cX8_readItem 40 = .ok (.iconst 1, 1) := by decide +kernel
theorem dX8_readItem_41 : decode cX8_readItem 41 = .ok (.putfield 96, 3) := by decide +kernel
theorem dX8_readItem_44 : decode cX8_readItem 44 = .ok (.return_, 1) := by decide +kernel
theorem dX8_readItem_45 : decode cX8_readItem 45 = .ok (.aload_n 0, 1) := by decide +kernel
theorem dX8_readItem_46 : decode cX8_readItem 46 = .ok (.invokevirtual 100, 3) := by decide +kernel
theorem dX8_readItem_49 : decode cX8_readItem 49 = .ok (.iload_n 1, 1) := by decide +kernel
theorem dX8_readItem_50 : decode cX8_readItem 50 = .ok (.bipush 115, 2) := by decide +kernel
theorem dX8_readItem_52 : decode cX8_readItem 52 = .ok (.if_icmp .ne 74, 3) := by decide +kernel
theorem dX8_readItem_55 : decode cX8_readItem 55 = .ok (.aload_n 0, 1) := by decide +kernel
theorem dX8_readItem_56 : decode cX8_readItem 56 = .ok (.getfield 41, 3) := by decide +kernel
theorem dX8_readItem_59 : decode cX8_readItem 59 = .ok (.iconst 3, 1) := by decide +kernel
theorem dX8_readItem_60 : decode cX8_readItem 60 = .ok (.aload_n 0, 1) := by decide +kernel
theorem dX8_readItem_61 : decode cX8_readItem 61 = .ok (.getfield 103, 3) := by decide +kernel
theorem dX8_readItem_64 : decode cX8_readItem 64 = .ok (.imul, 1) := by decide +kernel
theorem dX8_readItem_65 : decode cX8_readItem 65 = .ok (.aload_n 0, 1) := by decide +kernel
theorem dX8_readItem_66 : decode cX8_readItem 66 = .ok (.iconst 1, 1) := by decide +kernel
theorem dX8_readItem_67 : decode cX8_readItem 67 = .ok (.bipush 99, 2) := by decide +kernel
theorem dX8_readItem_69 : decode cX8_readItem 69 = .ok (.invokevirtual 109, 3) := by decide +kernel
theorem dX8_readItem_72 : decode cX8_readItem 72 = .ok (.iastore, 1) := by decide +kernel
theorem dX8_readItem_73 : decode cX8_readItem 73 = .ok (.aload_n 0, 1) := by decide +kernel
theorem dX8_readItem_74 : decode cX8_readItem 74 = .ok (.getfield 41, 3) := by decide +kernel
theorem dX8_readItem_77 : decode cX8_readItem 77 = .ok (.iconst 3, 1) := by decide +kernel
theorem dX8_readItem_78 : decode cX8_readItem 78 = .ok (.aload_n 0, 1) := by decide +kernel
theorem dX8_readItem_79 : decode cX8_readItem 79 = .ok (.getfield 103, 3) := by decide +kernel
theorem dX8_readItem_82 : decode cX8_readItem 82 = .ok (.imul, 1) := by decide +kernel
theorem dX8_readItem_83 : decode cX8_readItem 83 = .ok (.iconst 1, 1) := by decide +kernel
theorem dX8_readItem_84 : decode cX8_readItem 84 = .ok (.iadd, 1) := by decide +kernel
theorem dX8_readItem_85 : decode cX8_readItem 85 = .ok (.aload_n 0, 1) := by decide +kernel
theorem dX8_readItem_86 : decode cX8_readItem 86 = .ok (.iconst 0, 1) := by decide +kernel
theorem dX8_readItem_87 : decode cX8_readItem 87 = .ok (.bipush 9, 2) := by decide +kernel
theorem dX8_readItem_89 : decode cX8_readItem 89 = .ok (.invokevirtual 109, 3) := by decide +kernel
theorem dX8_readItem_92 : decode cX8_readItem 92 = .ok (.iastore, 1) := by decide +kernel
theorem dX8_readItem_93 : decode cX8_readItem 93 = .ok (.aload_n 0, 1) := by decide +kernel
theorem dX8_readItem_94 : decode cX8_readItem 94 = .ok (.getfield 41, 3) := by decide +kernel
theorem dX8_readItem_97 : decode cX8_readItem 97 = .ok (.iconst 3, 1) := by decide +kernel
theorem dX8_readItem_98 : decode cX8_readItem 98 = .ok (.aload_n 0, 1) := by decide +kernel
theorem dX8_readItem_99 : decode cX8_readItem 99 = .ok (.getfield 103, 3) := by decide +kernel
theorem dX8_readItem_102 : decode cX8_readItem 102 = .ok (.imul, 1) := by decide +kernel
theorem dX8_readItem_103 : decode cX8_readItem 103 = .ok (.iconst 2, 1) := by decide +kernel
theorem dX8_readItem_104 : decode cX8_readItem 104 = .ok (.iadd, 1) := by decide +kernel
theorem dX8_readItem_105 : decode cX8_readItem 105 = .ok (.aload_n 0, 1) := by decide +kernel
theorem dX8_readItem_106 : decode cX8_readItem 106 = .ok (.iconst 1, 1) := by decide +kernel
theorem dX8_readItem_107 : decode cX8_readItem 107 = .ok (.bipush 9, 2) := by decide +kernel
theorem dX8_readItem_109 : decode cX8_readItem 109 = .ok (.invokevirtual 109, 3) := by decide +kernel
theorem dX8_readItem_112 : decode cX8_readItem 112 = .ok (.iastore, 1) := by decide +kernel
theorem dX8_readItem_113 : decode cX8_readItem 113 = .ok (.aload_n 0, 1) := by decide +kernel
theorem dX8_readItem_114 : decode cX8_readItem 114 = .ok (.dup, 1) := by decide +kernel
theorem dX8_readItem_115 : decode cX8_readItem 115 = .ok (.getfield 103, 3) := by decide +kernel
theorem dX8_readItem_118 : decode cX8_readItem 118 = .ok (.iconst 1, 1) := by decide +kernel
theorem dX8_readItem_119 : decode cX8_readItem 119 = .ok (.iadd, 1) := by decide +kernel
theorem dX8_readItem_120 : decode cX8_readItem 120 = .ok (.putfield 103, 3) := by decide +kernel
theorem dX8_readItem_123 : decode cX8_readItem 123 = .ok (.goto 50, 3) := by decide +kernel
theorem dX8_readItem_126 : decode cX8_readItem 126 = .ok (.aload_n 0, 1) := by decide +kernel
theorem dX8_readItem_127 : decode cX8_readItem 127 = .ok (.getfield 44, 3) := by decide +kernel
theorem dX8_readItem_130 : decode cX8_readItem 130 = .ok (.iconst 2, 1) := by decide +kernel
theorem dX8_readItem_131 : decode cX8_readItem 131 = .ok (.aload_n 0, 1) := by decide +kernel
theorem dX8_readItem_132 : decode cX8_readItem 132 = .ok (.getfield 106, 3) := by decide +kernel
theorem dX8_readItem_135 : decode cX8_readItem 135 = .ok (.imul, 1) := by decide +kernel
theorem dX8_readItem_136 : decode cX8_readItem 136 = .ok (.aload_n 0, 1) := by decide +kernel
theorem dX8_readItem_137 : decode cX8_readItem 137 = .ok (.iconst 1, 1) := by decide +kernel
theorem dX8_readItem_138 : decode cX8_readItem 138 = .ok (.bipush 99, 2) := by decide +kernel
theorem dX8_readItem_140 : decode cX8_readItem 140 = .ok (.invokevirtual 109, 3) := by decide +kernel
theorem dX8_readItem_143 : decode cX8_readItem 143 = .ok (.iastore, 1) := by decide +kernel
theorem dX8_readItem_144 : decode cX8_readItem 144 = .ok (.aload_n 0, 1) := by decide +kernel
theorem dX8_readItem_145 : decode cX8_readItem 145 = .ok (.getfield 44, 3) := by decide +kernel
theorem dX8_readItem_148 : decode cX8_readItem 148 = .ok (.iconst 2, 1) := by decide +kernel
theorem dX8_readItem_149 : decode cX8_readItem 149 = .ok (.aload_n 0, 1) := by decide +kernel
theorem dX8_readItem_150 : decode cX8_readItem 150 = .ok (.getfield 106, 3) := by decide +kernel
theorem dX8_readItem_153 : decode cX8_readItem 153 = .ok (.imul, 1) := by decide +kernel
theorem dX8_readItem_154 : decode cX8_readItem 154 = .ok (.iconst 1, 1) := by decide +kernel
theorem dX8_readItem_155 : decode cX8_readItem 155 = .ok (.iadd, 1) := by decide +kernel
theorem dX8_readItem_156 : decode cX8_readItem 156 = .ok (.aload_n 0, 1) := by decide +kernel
theorem dX8_readItem_157 : decode cX8_readItem 157 = .ok (.iconst 0, 1) := by decide +kernel
theorem dX8_readItem_158 : decode cX8_readItem 158 = .ok (.iconst 5, 1) := by decide +kernel
theorem dX8_readItem_159 : decode cX8_readItem 159 = .ok (.invokevirtual 109, 3) := by decide +kernel
theorem dX8_readItem_162 : decode cX8_readItem 162 = .ok (.iastore, 1) := by decide +kernel
theorem dX8_readItem_163 : decode cX8_readItem 163 = .ok (.aload_n 0, 1) := by decide +kernel
theorem dX8_readItem_164 : decode cX8_readItem 164 = .ok (.dup, 1) := by decide +kernel
theorem dX8_readItem_165 : decode cX8_readItem 165 = .ok (.getfield 106, 3) := by decide +kernel
theorem dX8_readItem_168 : decode cX8_readItem 168 = .ok (.iconst 1, 1) := by decide +kernel
theorem dX8_readItem_169 : decode cX8_readItem 169 = .ok (.iadd, 1) := by decide +kernel
theorem dX8_readItem_170 : decode cX8_readItem 170 = .ok (.putfield 106, 3) := by decide +kernel
theorem dX8_readItem_173 : decode cX8_readItem 173 = .ok (.aload_n 0, 1) := by decide +kernel
theorem dX8_readItem_174 : decode cX8_readItem 174 = .ok (.aload_n 0, 1) := by decide +kernel
theorem dX8_readItem_175 : decode cX8_readItem 175 = .ok (.getfield 96, 3) := by decide +kernel
theorem dX8_readItem_178 : decode cX8_readItem 178 = .ok (.ifCond .ne 11, 3) := by decide +kernel
theorem dX8_readItem_181 : decode cX8_readItem 181 = .ok (.aload_n 0, 1) := by decide +kernel
theorem dX8_readItem_182 : decode cX8_readItem 182 = .ok (.getfield 89, 3) := by decide +kernel
theorem dX8_readItem_185 : decode cX8_readItem 185 = .ok (.iconst 3, 1) := by decide +kernel
theorem dX8_readItem_186 : decode cX8_readItem 186 = .ok (.if_icmp .eq 7, 3) := by decide +kernel
theorem dX8_readItem_189 : decode cX8_readItem 189 = .ok (.iconst 1, 1) := by decide +kernel
theorem dX8_readItem_190 : decode cX8_readItem 190 = .ok (.goto 4, 3) := by decide +kernel
theorem dX8_readItem_193 : decode cX8_readItem 193 = .ok (.iconst 0, 1) := by decide +kernel
theorem dX8_readItem_194 : decode cX8_readItem 194 = .ok (.putfield 96, 3) := by decide +kernel
theorem dX8_readItem_197 : decode cX8_readItem 197 = .ok (.aload_n 0, 1) := by decide +kernel
theorem dX8_readItem_198 : decode cX8_readItem 198 = .ok (.getfield 96, 3) := by decide +kernel
theorem dX8_readItem_201 : decode cX8_readItem 201 = .ok (.ifCond .ne 7, 3) := by decide +kernel
theorem dX8_readItem_204 : decode cX8_readItem 204 = .ok (.aload_n 0, 1) := by decide +kernel
theorem dX8_readItem_205 : decode cX8_readItem 205 = .ok (.invokevirtual 100, 3) := by decide +kernel
theorem dX8_readItem_208 : decode cX8_readItem 208 = .ok (.return_, 1) := by decide +kernel
def f_X8_readItem_b39 (M : xMem) : Option (xMem) := xlet (xsf M 8 20 (1 : Int32)) (fun M41 => some M41)
def f_X8_readItem_b208 (M208 : xMem) : Option (xMem) := some M208
def f_X8_readItem_b194 (M173 : xMem) (t194_0 : Int32) : Option (xMem) := xchk (xbo t194_0) (xchk (xbf t194_0) (xlet (xsf M173 8 20 t194_0) (fun M194 => (if (M194 8 0 20) = (0 : Int32) then xb1 (f_X8_reads M194) (fun M205 => (f_X8_readItem_b208) M205) else (f_X8_readItem_b208) M194))))
def f_X8_readItem_b189 (k194 : Int32 → Option (xMem)) : Option (xMem) := k194 (1 : Int32)
def f_X8_readItem_b173 (M173 : xMem) : Option (xMem) := (if (M173 8 0 20) = (0 : Int32) then (if (M173 8 0 18) = (3 : Int32) then (f_X8_readItem_b194 M173) (0 : Int32) else (f_X8_readItem_b189 (f_X8_readItem_b194 M173))) else (f_X8_readItem_b189 (f_X8_readItem_b194 M173)))
def f_X8_readItem_b45 (M : xMem) : Option (xMem) := xb1 (f_X8_reads M) (fun M46 => (if (M 8 0 19) = (115 : Int32) then xb2 (f_X8_takesNumber (1 : Int32) (99 : Int32) M46) (fun r69 M69 => xchk (xb ((3 : Int32) * (M46 8 0 22)) 15) (xlet (xst M69 8 24 ((3 : Int32) * (M46 8 0 22)) r69) (fun M72 => xb2 (f_X8_takesNumber (0 : Int32) (9 : Int32) M72) (fun r89 M89 => xchk (xb (((3 : Int32) * (M72 8 0 22)) + (1 : Int32)) 15) (xlet (xst M89 8 24 (((3 : Int32) * (M72 8 0 22)) + (1 : Int32)) r89) (fun M92 => xb2 (f_X8_takesNumber (1 : Int32) (9 : Int32) M92) (fun r109 M109 => xchk (xb (((3 : Int32) * (M92 8 0 22)) + (2 : Int32)) 15) (xlet (xst M109 8 24 (((3 : Int32) * (M92 8 0 22)) + (2 : Int32)) r109) (fun M112 => xlet (xsf M112 8 22 ((M112 8 0 22) + (1 : Int32))) (fun M120 => (f_X8_readItem_b173) M120)))))))))) else xb2 (f_X8_takesNumber (1 : Int32) (99 : Int32) M46) (fun r140 M140 => xchk (xb ((2 : Int32) * (M46 8 0 24)) 12) (xlet (xst M140 8 26 ((2 : Int32) * (M46 8 0 24)) r140) (fun M143 => xb2 (f_X8_takesNumber (0 : Int32) (5 : Int32) M143) (fun r159 M159 => xchk (xb (((2 : Int32) * (M143 8 0 24)) + (1 : Int32)) 12) (xlet (xst M159 8 26 (((2 : Int32) * (M143 8 0 24)) + (1 : Int32)) r159) (fun M162 => xlet (xsf M162 8 24 ((M162 8 0 24) + (1 : Int32))) (fun M170 => (f_X8_readItem_b173) M170)))))))))
def f_X8_readItem (M : xMem) : Option (xMem) := (if (M 8 0 18) = (1 : Int32) then (if (M 8 0 19) = (115 : Int32) then (if (M 8 0 22) = (5 : Int32) then (f_X8_readItem_b39 M) else (f_X8_readItem_b45 M)) else (if (M 8 0 24) = (6 : Int32) then (f_X8_readItem_b39 M) else (f_X8_readItem_b45 M))) else (f_X8_readItem_b39 M))
set_option maxHeartbeats 4000000 in
set_option maxRecDepth 100000 in
theorem w_X8_readItem_b39 {p : Program} {l : Launch} {e : Env} {s : State} {m : MethodId} {args : Array Value} {below : List Frame} {meth : Method} {c : Code} {G : xG} {MM : xMem} (E : xE p s m args meth c cX8_readItem 2 none RX8 G) (M : xMem) (L : xLL) : f_X8_readItem_b39 M  = some MM → ∀ (ls : Array Slot), lv_has ls 2 [(0, .ref (xq G 8 0))] → ∀ (H : Heap) (locs : List Loc), xI G M L s.heap H locs → W p l e (xR 5) s m args below meth c H locs 0 0 (MQ below (xQv G MM L s.heap.size) args s 0 0 (xZ G s.heap.size)) (F0 m 39 ls []) := by
  have hx := E.1
  have hb := E.2.1
  intro  hf ls hl H locs hI
  rw [f_X8_readItem_b39] at hf
  refine lv_aload_n hx hb dX8_readItem_39 rfl (lv_at hl 0 rfl) ?_
  refine lv_iconst (v := 1) hx hb dX8_readItem_40 (by decide) ?_
  obtain ⟨M41, e41, hf⟩ := xlet_s hf
  refine pf_X8_96 E hI rfl rfl dX8_readItem_41 e41 (fun H locs hI => ?_)
  obtain rfl := xinj1 hf
  exact x_vret E hI dX8_readItem_44
set_option maxHeartbeats 4000000 in
set_option maxRecDepth 100000 in
theorem w_X8_readItem_b208 {p : Program} {l : Launch} {e : Env} {s : State} {m : MethodId} {args : Array Value} {below : List Frame} {meth : Method} {c : Code} {G : xG} {MM : xMem} (E : xE p s m args meth c cX8_readItem 2 none RX8 G) (M : xMem) (L : xLL) : ∀ (M208 : xMem), f_X8_readItem_b208 M208 = some MM → ∀ (ls : Array Slot), lv_has ls 2 [] → ∀ (H : Heap) (locs : List Loc), xI G M208 L s.heap H locs → W p l e (xR 5) s m args below meth c H locs 0 0 (MQ below (xQv G MM L s.heap.size) args s 0 0 (xZ G s.heap.size)) (F0 m 208 ls []) := by
  have hx := E.1
  have hb := E.2.1
  intro M208 hf ls hl H locs hI
  rw [f_X8_readItem_b208] at hf
  obtain rfl := xinj1 hf
  exact x_vret E hI dX8_readItem_208
set_option maxHeartbeats 4000000 in
set_option maxRecDepth 100000 in
theorem w_X8_readItem_b194 {p : Program} {l : Launch} {e : Env} {s : State} {m : MethodId} {args : Array Value} {below : List Frame} {meth : Method} {c : Code} {G : xG} {MM : xMem} (E : xE p s m args meth c cX8_readItem 2 none RX8 G) (M : xMem) (L : xLL) (M173 : xMem) : ∀ (t194_0 : Int32), f_X8_readItem_b194 M173 t194_0 = some MM → ∀ (ls : Array Slot), lv_has ls 2 [(0, .ref (xq G 8 0))] → ∀ (H : Heap) (locs : List Loc), xI G M173 L s.heap H locs → W p l e (xR 5) s m args below meth c H locs 0 0 (MQ below (xQv G MM L s.heap.size) args s 0 0 (xZ G s.heap.size)) (F0 m 194 ls [.int t194_0, .ref (xq G 8 0)]) := by
  have hx := E.1
  have hb := E.2.1
  intro t194_0 hf ls hl H locs hI
  rw [f_X8_readItem_b194] at hf
  obtain ⟨h194n, hf⟩ := xchk_s hf
  obtain ⟨h194f, hf⟩ := xchk_s hf
  obtain ⟨M194, e194, hf⟩ := xlet_s hf
  refine pf_X8_96 E hI (xbo_s h194n) (xbf_s h194f) dX8_readItem_194 e194 (fun H locs hI => ?_)
  refine lv_aload_n hx hb dX8_readItem_197 rfl (lv_at hl 0 rfl) ?_
  refine gf_X8_96 E hI dX8_readItem_198 ?_
  refine lv_if_ne (tgt := 208) hx hb dX8_readItem_201 (by decide) (fun c201 => ?_) (fun c201 => ?_)
  · replace hf := xif_f c201 hf
    exact (w_X8_readItem_b208 E (M := M) (L := L)) M194 hf _ (lv_sub hl [] rfl) _ _ hI
  · replace hf := xif_t c201 hf
    refine lv_aload_n hx hb dX8_readItem_204 rfl (lv_at hl 0 rfl) ?_
    obtain ⟨M205, g205, hf⟩ := xb1_s hf
    refine x_callVv (As := []) (rest := []) E hI mx_8_0 rfl rfl rfl (c_X8_reads l G _ (M := M194) (L := L) g205) yv_X8_reads ml_X8_100 (by decide) (by decide) rfl rfl hl.1 (Nat.le_of_ble_eq_true rfl) dX8_readItem_205 (fun H locs hI => ?_)
    exact (w_X8_readItem_b208 E (M := M) (L := L)) M205 hf _ (lv_sub hl [] rfl) _ _ hI
set_option maxHeartbeats 4000000 in
set_option maxRecDepth 100000 in
theorem w_X8_readItem_b189 {p : Program} {l : Launch} {e : Env} {s : State} {m : MethodId} {args : Array Value} {below : List Frame} {meth : Method} {c : Code} {G : xG} {MM : xMem} (E : xE p s m args meth c cX8_readItem 2 none RX8 G) (M : xMem) (L : xLL) (M173 : xMem) (k194 : Int32 → Option (xMem)) (hk194 : ∀ (t194_0 : Int32), k194 t194_0 = some MM → ∀ (ls : Array Slot), lv_has ls 2 [(0, .ref (xq G 8 0))] → ∀ (H : Heap) (locs : List Loc), xI G M173 L s.heap H locs → W p l e (xR 5) s m args below meth c H locs 0 0 (MQ below (xQv G MM L s.heap.size) args s 0 0 (xZ G s.heap.size)) (F0 m 194 ls [.int t194_0, .ref (xq G 8 0)])) : f_X8_readItem_b189 k194  = some MM → ∀ (ls : Array Slot), lv_has ls 2 [(0, .ref (xq G 8 0))] → ∀ (H : Heap) (locs : List Loc), xI G M173 L s.heap H locs → W p l e (xR 5) s m args below meth c H locs 0 0 (MQ below (xQv G MM L s.heap.size) args s 0 0 (xZ G s.heap.size)) (F0 m 189 ls [.ref (xq G 8 0)]) := by
  have hx := E.1
  have hb := E.2.1
  intro  hf ls hl H locs hI
  rw [f_X8_readItem_b189] at hf
  refine lv_iconst (v := 1) hx hb dX8_readItem_189 (by decide) ?_
  refine lv_goto (tgt := 194) hx hb dX8_readItem_190 (by decide) ?_
  exact hk194 (1 : Int32) hf _ (lv_sub hl [0] rfl) _ _ hI
set_option maxHeartbeats 4000000 in
set_option maxRecDepth 100000 in
theorem w_X8_readItem_b173 {p : Program} {l : Launch} {e : Env} {s : State} {m : MethodId} {args : Array Value} {below : List Frame} {meth : Method} {c : Code} {G : xG} {MM : xMem} (E : xE p s m args meth c cX8_readItem 2 none RX8 G) (M : xMem) (L : xLL) : ∀ (M173 : xMem), f_X8_readItem_b173 M173 = some MM → ∀ (ls : Array Slot), lv_has ls 2 [(0, .ref (xq G 8 0))] → ∀ (H : Heap) (locs : List Loc), xI G M173 L s.heap H locs → W p l e (xR 5) s m args below meth c H locs 0 0 (MQ below (xQv G MM L s.heap.size) args s 0 0 (xZ G s.heap.size)) (F0 m 173 ls []) := by
  have hx := E.1
  have hb := E.2.1
  intro M173 hf ls hl H locs hI
  rw [f_X8_readItem_b173] at hf
  refine lv_aload_n hx hb dX8_readItem_173 rfl (lv_at hl 0 rfl) ?_
  refine lv_aload_n hx hb dX8_readItem_174 rfl (lv_at hl 0 rfl) ?_
  refine gf_X8_96 E hI dX8_readItem_175 ?_
  refine lv_if_ne (tgt := 189) hx hb dX8_readItem_178 (by decide) (fun c178 => ?_) (fun c178 => ?_)
  · replace hf := xif_f c178 hf
    exact (w_X8_readItem_b189 E (M := M) (L := L) (M173 := M173) (k194 := (f_X8_readItem_b194 M173)) (hk194 := (w_X8_readItem_b194 E (M := M) (L := L) (M173 := M173))))  hf _ (lv_sub hl [0] rfl) _ _ hI
  · replace hf := xif_t c178 hf
    refine lv_aload_n hx hb dX8_readItem_181 rfl (lv_at hl 0 rfl) ?_
    refine gf_X8_89 E hI dX8_readItem_182 ?_
    refine lv_iconst (v := 3) hx hb dX8_readItem_185 (by decide) ?_
    refine lv_icmp_eq (tgt := 193) hx hb dX8_readItem_186 (by decide) (fun c186 => ?_) (fun c186 => ?_)
    · replace hf := xif_t c186 hf
      refine lv_iconst (v := 0) hx hb dX8_readItem_193 (by decide) ?_
      exact (w_X8_readItem_b194 E (M := M) (L := L) (M173 := M173)) (0 : Int32) hf _ (lv_sub hl [0] rfl) _ _ hI
    · replace hf := xif_f c186 hf
      exact (w_X8_readItem_b189 E (M := M) (L := L) (M173 := M173) (k194 := (f_X8_readItem_b194 M173)) (hk194 := (w_X8_readItem_b194 E (M := M) (L := L) (M173 := M173))))  hf _ (lv_sub hl [0] rfl) _ _ hI
set_option maxHeartbeats 4000000 in
set_option maxRecDepth 100000 in
theorem w_X8_readItem_b45 {p : Program} {l : Launch} {e : Env} {s : State} {m : MethodId} {args : Array Value} {below : List Frame} {meth : Method} {c : Code} {G : xG} {MM : xMem} (E : xE p s m args meth c cX8_readItem 2 none RX8 G) (M : xMem) (L : xLL) : f_X8_readItem_b45 M  = some MM → ∀ (ls : Array Slot), lv_has ls 2 [(0, .ref (xq G 8 0)), (1, .int (M 8 0 19))] → ∀ (H : Heap) (locs : List Loc), xI G M L s.heap H locs → W p l e (xR 5) s m args below meth c H locs 0 0 (MQ below (xQv G MM L s.heap.size) args s 0 0 (xZ G s.heap.size)) (F0 m 45 ls []) := by
  have hx := E.1
  have hb := E.2.1
  intro  hf ls hl H locs hI
  rw [f_X8_readItem_b45] at hf
  refine lv_aload_n hx hb dX8_readItem_45 rfl (lv_at hl 0 rfl) ?_
  obtain ⟨M46, g46, hf⟩ := xb1_s hf
  refine x_callVv (As := []) (rest := []) E hI mx_8_0 rfl rfl rfl (c_X8_reads l G _ (M := M) (L := L) g46) yv_X8_reads ml_X8_100 (by decide) (by decide) rfl rfl hl.1 (Nat.le_of_ble_eq_true rfl) dX8_readItem_46 (fun H locs hI => ?_)
  refine lv_iload_n hx hb dX8_readItem_49 rfl (lv_at hl 1 rfl) ?_
  refine lv_bipush (v := 115) hx hb dX8_readItem_50 (by decide) ?_
  refine lv_icmp_ne (tgt := 126) hx hb dX8_readItem_52 (by decide) (fun c52 => ?_) (fun c52 => ?_)
  · replace hf := xif_f c52 hf
    refine lv_aload_n hx hb dX8_readItem_126 rfl (lv_at hl 0 rfl) ?_
    refine gf_X8_44 E hI dX8_readItem_127 ?_
    refine lv_iconst (v := 2) hx hb dX8_readItem_130 (by decide) ?_
    refine lv_aload_n hx hb dX8_readItem_131 rfl (lv_at hl 0 rfl) ?_
    refine gf_X8_106 E hI dX8_readItem_132 ?_
    refine lv_imul hx hb dX8_readItem_135 ?_
    refine lv_aload_n hx hb dX8_readItem_136 rfl (lv_at hl 0 rfl) ?_
    refine lv_iconst (v := 1) hx hb dX8_readItem_137 (by decide) ?_
    refine lv_bipush (v := 99) hx hb dX8_readItem_138 (by decide) ?_
    obtain ⟨r140, M140, g140, hf⟩ := xb2_s hf
    refine x_callVi (As := [.int (1 : Int32), .int (99 : Int32)]) (rest := [.int ((2 : Int32) * (M46 8 0 24)), .ref (xq G 8 26)]) E hI mx_8_0 rfl rfl rfl (c_X8_takesNumber l G _ (M := M46) (L := L) (a1 := (1 : Int32)) (a2 := (99 : Int32)) g140) yv_X8_takesNumber ml_X8_109 (by decide) (by decide) rfl rfl hl.1 (Nat.le_of_ble_eq_true rfl) dX8_readItem_140 (fun H locs hI => ?_)
    obtain ⟨h143b, hf⟩ := xchk_s hf
    obtain ⟨M143, e143, hf⟩ := xlet_s hf
    refine x_iast (n := 12) E hI mx_8_26 (fun _ _ => rfl) h143b dX8_readItem_143 e143 (fun H locs hI => ?_)
    refine lv_aload_n hx hb dX8_readItem_144 rfl (lv_at hl 0 rfl) ?_
    refine gf_X8_44 E hI dX8_readItem_145 ?_
    refine lv_iconst (v := 2) hx hb dX8_readItem_148 (by decide) ?_
    refine lv_aload_n hx hb dX8_readItem_149 rfl (lv_at hl 0 rfl) ?_
    refine gf_X8_106 E hI dX8_readItem_150 ?_
    refine lv_imul hx hb dX8_readItem_153 ?_
    refine lv_iconst (v := 1) hx hb dX8_readItem_154 (by decide) ?_
    refine lv_iadd hx hb dX8_readItem_155 ?_
    refine lv_aload_n hx hb dX8_readItem_156 rfl (lv_at hl 0 rfl) ?_
    refine lv_iconst (v := 0) hx hb dX8_readItem_157 (by decide) ?_
    refine lv_iconst (v := 5) hx hb dX8_readItem_158 (by decide) ?_
    obtain ⟨r159, M159, g159, hf⟩ := xb2_s hf
    refine x_callVi (As := [.int (0 : Int32), .int (5 : Int32)]) (rest := [.int (((2 : Int32) * (M143 8 0 24)) + (1 : Int32)), .ref (xq G 8 26)]) E hI mx_8_0 rfl rfl rfl (c_X8_takesNumber l G _ (M := M143) (L := L) (a1 := (0 : Int32)) (a2 := (5 : Int32)) g159) yv_X8_takesNumber ml_X8_109 (by decide) (by decide) rfl rfl hl.1 (Nat.le_of_ble_eq_true rfl) dX8_readItem_159 (fun H locs hI => ?_)
    obtain ⟨h162b, hf⟩ := xchk_s hf
    obtain ⟨M162, e162, hf⟩ := xlet_s hf
    refine x_iast (n := 12) E hI mx_8_26 (fun _ _ => rfl) h162b dX8_readItem_162 e162 (fun H locs hI => ?_)
    refine lv_aload_n hx hb dX8_readItem_163 rfl (lv_at hl 0 rfl) ?_
    refine lv_dup hx hb dX8_readItem_164 rfl ?_
    refine gf_X8_106 E hI dX8_readItem_165 ?_
    refine lv_iconst (v := 1) hx hb dX8_readItem_168 (by decide) ?_
    refine lv_iadd hx hb dX8_readItem_169 ?_
    obtain ⟨M170, e170, hf⟩ := xlet_s hf
    refine pf_X8_106 E hI dX8_readItem_170 e170 (fun H locs hI => ?_)
    exact (w_X8_readItem_b173 E (M := M) (L := L)) M170 hf _ (lv_sub hl [0] rfl) _ _ hI
  · replace hf := xif_t c52 hf
    refine lv_aload_n hx hb dX8_readItem_55 rfl (lv_at hl 0 rfl) ?_
    refine gf_X8_41 E hI dX8_readItem_56 ?_
    refine lv_iconst (v := 3) hx hb dX8_readItem_59 (by decide) ?_
    refine lv_aload_n hx hb dX8_readItem_60 rfl (lv_at hl 0 rfl) ?_
    refine gf_X8_103 E hI dX8_readItem_61 ?_
    refine lv_imul hx hb dX8_readItem_64 ?_
    refine lv_aload_n hx hb dX8_readItem_65 rfl (lv_at hl 0 rfl) ?_
    refine lv_iconst (v := 1) hx hb dX8_readItem_66 (by decide) ?_
    refine lv_bipush (v := 99) hx hb dX8_readItem_67 (by decide) ?_
    obtain ⟨r69, M69, g69, hf⟩ := xb2_s hf
    refine x_callVi (As := [.int (1 : Int32), .int (99 : Int32)]) (rest := [.int ((3 : Int32) * (M46 8 0 22)), .ref (xq G 8 24)]) E hI mx_8_0 rfl rfl rfl (c_X8_takesNumber l G _ (M := M46) (L := L) (a1 := (1 : Int32)) (a2 := (99 : Int32)) g69) yv_X8_takesNumber ml_X8_109 (by decide) (by decide) rfl rfl hl.1 (Nat.le_of_ble_eq_true rfl) dX8_readItem_69 (fun H locs hI => ?_)
    obtain ⟨h72b, hf⟩ := xchk_s hf
    obtain ⟨M72, e72, hf⟩ := xlet_s hf
    refine x_iast (n := 15) E hI mx_8_24 (fun _ _ => rfl) h72b dX8_readItem_72 e72 (fun H locs hI => ?_)
    refine lv_aload_n hx hb dX8_readItem_73 rfl (lv_at hl 0 rfl) ?_
    refine gf_X8_41 E hI dX8_readItem_74 ?_
    refine lv_iconst (v := 3) hx hb dX8_readItem_77 (by decide) ?_
    refine lv_aload_n hx hb dX8_readItem_78 rfl (lv_at hl 0 rfl) ?_
    refine gf_X8_103 E hI dX8_readItem_79 ?_
    refine lv_imul hx hb dX8_readItem_82 ?_
    refine lv_iconst (v := 1) hx hb dX8_readItem_83 (by decide) ?_
    refine lv_iadd hx hb dX8_readItem_84 ?_
    refine lv_aload_n hx hb dX8_readItem_85 rfl (lv_at hl 0 rfl) ?_
    refine lv_iconst (v := 0) hx hb dX8_readItem_86 (by decide) ?_
    refine lv_bipush (v := 9) hx hb dX8_readItem_87 (by decide) ?_
    obtain ⟨r89, M89, g89, hf⟩ := xb2_s hf
    refine x_callVi (As := [.int (0 : Int32), .int (9 : Int32)]) (rest := [.int (((3 : Int32) * (M72 8 0 22)) + (1 : Int32)), .ref (xq G 8 24)]) E hI mx_8_0 rfl rfl rfl (c_X8_takesNumber l G _ (M := M72) (L := L) (a1 := (0 : Int32)) (a2 := (9 : Int32)) g89) yv_X8_takesNumber ml_X8_109 (by decide) (by decide) rfl rfl hl.1 (Nat.le_of_ble_eq_true rfl) dX8_readItem_89 (fun H locs hI => ?_)
    obtain ⟨h92b, hf⟩ := xchk_s hf
    obtain ⟨M92, e92, hf⟩ := xlet_s hf
    refine x_iast (n := 15) E hI mx_8_24 (fun _ _ => rfl) h92b dX8_readItem_92 e92 (fun H locs hI => ?_)
    refine lv_aload_n hx hb dX8_readItem_93 rfl (lv_at hl 0 rfl) ?_
    refine gf_X8_41 E hI dX8_readItem_94 ?_
    refine lv_iconst (v := 3) hx hb dX8_readItem_97 (by decide) ?_
    refine lv_aload_n hx hb dX8_readItem_98 rfl (lv_at hl 0 rfl) ?_
    refine gf_X8_103 E hI dX8_readItem_99 ?_
    refine lv_imul hx hb dX8_readItem_102 ?_
    refine lv_iconst (v := 2) hx hb dX8_readItem_103 (by decide) ?_
    refine lv_iadd hx hb dX8_readItem_104 ?_
    refine lv_aload_n hx hb dX8_readItem_105 rfl (lv_at hl 0 rfl) ?_
    refine lv_iconst (v := 1) hx hb dX8_readItem_106 (by decide) ?_
    refine lv_bipush (v := 9) hx hb dX8_readItem_107 (by decide) ?_
    obtain ⟨r109, M109, g109, hf⟩ := xb2_s hf
    refine x_callVi (As := [.int (1 : Int32), .int (9 : Int32)]) (rest := [.int (((3 : Int32) * (M92 8 0 22)) + (2 : Int32)), .ref (xq G 8 24)]) E hI mx_8_0 rfl rfl rfl (c_X8_takesNumber l G _ (M := M92) (L := L) (a1 := (1 : Int32)) (a2 := (9 : Int32)) g109) yv_X8_takesNumber ml_X8_109 (by decide) (by decide) rfl rfl hl.1 (Nat.le_of_ble_eq_true rfl) dX8_readItem_109 (fun H locs hI => ?_)
    obtain ⟨h112b, hf⟩ := xchk_s hf
    obtain ⟨M112, e112, hf⟩ := xlet_s hf
    refine x_iast (n := 15) E hI mx_8_24 (fun _ _ => rfl) h112b dX8_readItem_112 e112 (fun H locs hI => ?_)
    refine lv_aload_n hx hb dX8_readItem_113 rfl (lv_at hl 0 rfl) ?_
    refine lv_dup hx hb dX8_readItem_114 rfl ?_
    refine gf_X8_103 E hI dX8_readItem_115 ?_
    refine lv_iconst (v := 1) hx hb dX8_readItem_118 (by decide) ?_
    refine lv_iadd hx hb dX8_readItem_119 ?_
    obtain ⟨M120, e120, hf⟩ := xlet_s hf
    refine pf_X8_103 E hI dX8_readItem_120 e120 (fun H locs hI => ?_)
    refine lv_goto (tgt := 173) hx hb dX8_readItem_123 (by decide) ?_
    exact (w_X8_readItem_b173 E (M := M) (L := L)) M120 hf _ (lv_sub hl [0] rfl) _ _ hI
set_option maxHeartbeats 4000000 in
set_option maxRecDepth 100000 in
theorem c_X8_readItem (l : Launch) (G : xG) (sz : Nat) (M : xMem) (L : xLL) {MM : xMem} (hf : f_X8_readItem M = some MM) : Met l yX8_readItem (Cond.code yX8_readItem cX8_readItem 2 none :: xTB) (xR 5) (xP G M L sz [.ref (xq G 8 0)]) (xQv G MM L sz) 0 0 (xZ G sz) := by
  refine x_met (cc := cX8_readItem) (nL := 2) (rt := none) (by decide) (Nat.le_of_ble_eq_true rfl) ?_
  intro p e s m below meth c ls hsz E hl hI
  subst hsz
  have E : xE p s m _ meth c cX8_readItem 2 none RX8 G := E
  have hx := E.1
  have hb := E.2.1
  have hl : lv_has ls 2 [(0, .ref (xq G 8 0))] := hl
  rw [f_X8_readItem] at hf
  refine lv_aload_n hx hb dX8_readItem_0 rfl (lv_at hl 0 rfl) ?_
  refine gf_X8_86 E hI dX8_readItem_1 ?_
  refine lv_istore_n (lv' := [(1, .int (M 8 0 19)), (0, .ref (xq G 8 0))]) hx hb dX8_readItem_4 rfl hl (by decide) rfl (fun ls hl => ?_)
  refine lv_aload_n hx hb dX8_readItem_5 rfl (lv_at hl 1 rfl) ?_
  refine gf_X8_89 E hI dX8_readItem_6 ?_
  refine lv_iconst (v := 1) hx hb dX8_readItem_9 (by decide) ?_
  refine lv_icmp_ne (tgt := 39) hx hb dX8_readItem_10 (by decide) (fun c10 => ?_) (fun c10 => ?_)
  · replace hf := xif_f c10 hf
    exact (w_X8_readItem_b39 E (M := M) (L := L))  hf _ (lv_sub hl [1] rfl) _ _ hI
  · replace hf := xif_t c10 hf
    refine lv_iload_n hx hb dX8_readItem_13 rfl (lv_at hl 0 rfl) ?_
    refine lv_bipush (v := 115) hx hb dX8_readItem_14 (by decide) ?_
    refine lv_icmp_ne (tgt := 30) hx hb dX8_readItem_16 (by decide) (fun c16 => ?_) (fun c16 => ?_)
    · replace hf := xif_f c16 hf
      refine lv_aload_n hx hb dX8_readItem_30 rfl (lv_at hl 1 rfl) ?_
      refine gf_X8_106 E hI dX8_readItem_31 ?_
      refine lv_bipush (v := 6) hx hb dX8_readItem_34 (by decide) ?_
      refine lv_icmp_ne (tgt := 45) hx hb dX8_readItem_36 (by decide) (fun c36 => ?_) (fun c36 => ?_)
      · replace hf := xif_f c36 hf
        exact (w_X8_readItem_b45 E (M := M) (L := L))  hf _ (lv_sub hl [1, 0] rfl) _ _ hI
      · replace hf := xif_t c36 hf
        exact (w_X8_readItem_b39 E (M := M) (L := L))  hf _ (lv_sub hl [1] rfl) _ _ hI
    · replace hf := xif_t c16 hf
      refine lv_aload_n hx hb dX8_readItem_19 rfl (lv_at hl 1 rfl) ?_
      refine gf_X8_103 E hI dX8_readItem_20 ?_
      refine lv_iconst (v := 5) hx hb dX8_readItem_23 (by decide) ?_
      refine lv_icmp_ne (tgt := 45) hx hb dX8_readItem_24 (by decide) (fun c24 => ?_) (fun c24 => ?_)
      · replace hf := xif_f c24 hf
        exact (w_X8_readItem_b45 E (M := M) (L := L))  hf _ (lv_sub hl [1, 0] rfl) _ _ hI
      · replace hf := xif_t c24 hf
        refine lv_goto (tgt := 39) hx hb dX8_readItem_27 (by decide) ?_
        exact (w_X8_readItem_b39 E (M := M) (L := L))  hf _ (lv_sub hl [1] rfl) _ _ hI
theorem dX8_settles_0 : decode cX8_settles 0 = .ok (.aload_n 0, 1) := by decide +kernel
theorem dX8_settles_1 : decode cX8_settles 1 = .ok (.aload_n 0, 1) := by decide +kernel
theorem dX8_settles_2 : decode cX8_settles 2 = .ok (.getfield 103, 3) := by decide +kernel
theorem dX8_settles_5 : decode cX8_settles 5 = .ok (.putfield 62, 3) := by decide +kernel
theorem dX8_settles_8 : decode cX8_settles 8 = .ok (.aload_n 0, 1) := by decide +kernel
theorem dX8_settles_9 : decode cX8_settles 9 = .ok (.aload_n 0, 1) := by decide +kernel
theorem dX8_settles_10 : decode cX8_settles 10 = .ok (.getfield 106, 3) := by decide +kernel
theorem dX8_settles_13 : decode cX8_settles 13 = .ok (.putfield 70, 3) := by decide +kernel
theorem dX8_settles_16 : decode cX8_settles 16 = .ok (.iconst 0, 1) := by decide +kernel
theorem dX8_settles_17 : decode cX8_settles 17 = .ok (.istore_n 1, 1) := by decide +kernel
theorem dX8_settles_18 : decode cX8_settles 18 = .ok (.iload_n 1, 1) := by decide +kernel
theorem dX8_settles_19 : decode cX8_settles 19 = .ok (.bipush 27, 2) := by decide +kernel
theorem dX8_settles_21 : decode cX8_settles 21 = .ok (.if_icmp .ge 16, 3) := by decide +kernel
theorem dX8_settles_24 : decode cX8_settles 24 = .ok (.aload_n 0, 1) := by decide +kernel
theorem dX8_settles_25 : decode cX8_settles 25 = .ok (.getfield 22, 3) := by decide +kernel
theorem dX8_settles_28 : decode cX8_settles 28 = .ok (.iload_n 1, 1) := by decide +kernel
theorem dX8_settles_29 : decode cX8_settles 29 = .ok (.iconst 0, 1) := by decide +kernel
theorem dX8_settles_30 : decode cX8_settles 30 = .ok (.iastore, 1) := by decide +kernel
theorem dX8_settles_31 : decode cX8_settles 31 = .ok (.iinc 1 1, 3) := by decide +kernel
theorem dX8_settles_34 : decode cX8_settles 34 = .ok (.goto (-16), 3) := by decide +kernel
theorem dX8_settles_37 : decode cX8_settles 37 = .ok (.iconst 0, 1) := by decide +kernel
theorem dX8_settles_38 : decode cX8_settles 38 = .ok (.istore_n 1, 1) := by decide +kernel
theorem dX8_settles_39 : decode cX8_settles 39 = .ok (.iload_n 1, 1) := by decide +kernel
theorem dX8_settles_40 : decode cX8_settles 40 = .ok (.iconst 5, 1) := by decide +kernel
theorem dX8_settles_41 : decode cX8_settles 41 = .ok (.if_icmp .ge 80, 3) := by decide +kernel
theorem dX8_settles_44 : decode cX8_settles 44 = .ok (.aload_n 0, 1) := by decide +kernel
theorem dX8_settles_45 : decode cX8_settles 45 = .ok (.getfield 7, 3) := by decide +kernel
theorem dX8_settles_48 : decode cX8_settles 48 = .ok (.iload_n 1, 1) := by decide +kernel
theorem dX8_settles_49 : decode cX8_settles 49 = .ok (.aload_n 0, 1) := by decide +kernel
theorem dX8_settles_50 : decode cX8_settles 50 = .ok (.getfield 41, 3) := by decide +kernel
theorem dX8_settles_53 : decode cX8_settles 53 = .ok (.iconst 3, 1) := by decide +kernel
theorem dX8_settles_54 : decode cX8_settles 54 = .ok (.iload_n 1, 1) := by decide +kernel
theorem dX8_settles_55 : decode cX8_settles 55 = .ok (.imul, 1) := by decide +kernel
theorem dX8_settles_56 : decode cX8_settles 56 = .ok (.iaload, 1) := by decide +kernel
theorem dX8_settles_57 : decode cX8_settles 57 = .ok (.iastore, 1) := by decide +kernel
theorem dX8_settles_58 : decode cX8_settles 58 = .ok (.aload_n 0, 1) := by decide +kernel
theorem dX8_settles_59 : decode cX8_settles 59 = .ok (.getfield 13, 3) := by decide +kernel
theorem dX8_settles_62 : decode cX8_settles 62 = .ok (.iload_n 1, 1) := by decide +kernel
theorem dX8_settles_63 : decode cX8_settles 63 = .ok (.aload_n 0, 1) := by decide +kernel
theorem dX8_settles_64 : decode cX8_settles 64 = .ok (.getfield 41, 3) := by decide +kernel
theorem dX8_settles_67 : decode cX8_settles 67 = .ok (.iconst 3, 1) := by decide +kernel
theorem dX8_settles_68 : decode cX8_settles 68 = .ok (.iload_n 1, 1) := by decide +kernel
theorem dX8_settles_69 : decode cX8_settles 69 = .ok (.imul, 1) := by decide +kernel
theorem dX8_settles_70 : decode cX8_settles 70 = .ok (.iconst 1, 1) := by decide +kernel
theorem dX8_settles_71 : decode cX8_settles 71 = .ok (.iadd, 1) := by decide +kernel
theorem dX8_settles_72 : decode cX8_settles 72 = .ok (.iaload, 1) := by decide +kernel
theorem dX8_settles_73 : decode cX8_settles 73 = .ok (.iastore, 1) := by decide +kernel
theorem dX8_settles_74 : decode cX8_settles 74 = .ok (.aload_n 0, 1) := by decide +kernel
theorem dX8_settles_75 : decode cX8_settles 75 = .ok (.getfield 16, 3) := by decide +kernel
theorem dX8_settles_78 : decode cX8_settles 78 = .ok (.iload_n 1, 1) := by decide +kernel
theorem dX8_settles_79 : decode cX8_settles 79 = .ok (.aload_n 0, 1) := by decide +kernel
theorem dX8_settles_80 : decode cX8_settles 80 = .ok (.getfield 41, 3) := by decide +kernel
theorem dX8_settles_83 : decode cX8_settles 83 = .ok (.iconst 3, 1) := by decide +kernel
theorem dX8_settles_84 : decode cX8_settles 84 = .ok (.iload_n 1, 1) := by decide +kernel
theorem dX8_settles_85 : decode cX8_settles 85 = .ok (.imul, 1) := by decide +kernel
theorem dX8_settles_86 : decode cX8_settles 86 = .ok (.iconst 2, 1) := by decide +kernel
theorem dX8_settles_87 : decode cX8_settles 87 = .ok (.iadd, 1) := by decide +kernel
theorem dX8_settles_88 : decode cX8_settles 88 = .ok (.iaload, 1) := by decide +kernel
theorem dX8_settles_89 : decode cX8_settles 89 = .ok (.iastore, 1) := by decide +kernel
theorem dX8_settles_90 : decode cX8_settles 90 = .ok (.aload_n 0, 1) := by decide +kernel
theorem dX8_settles_91 : decode cX8_settles 91 = .ok (.getfield 22, 3) := by decide +kernel
theorem dX8_settles_94 : decode cX8_settles 94 = .ok (.bipush 12, 2) := by decide +kernel
theorem dX8_settles_96 : decode cX8_settles 96 = .ok (.iload_n 1, 1) := by decide +kernel
theorem dX8_settles_97 : decode cX8_settles 97 = .ok (.iadd, 1) := by decide +kernel
theorem dX8_settles_98 : decode cX8_settles 98 = .ok (.aload_n 0, 1) := by decide +kernel
theorem dX8_settles_99 : decode cX8_settles 99 = .ok (.getfield 7, 3) := by decide +kernel
theorem dX8_settles_102 : decode cX8_settles 102 = .ok (.iload_n 1, 1) := by decide +kernel
theorem dX8_settles_103 : decode cX8_settles 103 = .ok (.iaload, 1) := by decide +kernel
theorem dX8_settles_104 : decode cX8_settles 104 = .ok (.iastore, 1) := by decide +kernel
theorem dX8_settles_105 : decode cX8_settles 105 = .ok (.aload_n 0, 1) := by decide +kernel
theorem dX8_settles_106 : decode cX8_settles 106 = .ok (.getfield 22, 3) := by decide +kernel
theorem dX8_settles_109 : decode cX8_settles 109 = .ok (.bipush 17, 2) := by decide +kernel
theorem dX8_settles_111 : decode cX8_settles 111 = .ok (.iload_n 1, 1) := by decide +kernel
theorem dX8_settles_112 : decode cX8_settles 112 = .ok (.iadd, 1) := by decide +kernel
theorem dX8_settles_113 : decode cX8_settles 113 = .ok (.iload_n 1, 1) := by decide +kernel
theorem dX8_settles_114 : decode cX8_settles 114 = .ok (.iastore, 1) := by decide +kernel
theorem dX8_settles_115 : decode cX8_settles 115 = .ok (.iinc 1 1, 3) := by decide +kernel
theorem dX8_settles_118 : decode cX8_settles 118 = .ok (.goto (-79), 3) := by decide +kernel
theorem dX8_settles_121 : decode cX8_settles 121 = .ok (.iconst 0, 1) := by decide +kernel
theorem dX8_settles_122 : decode cX8_settles 122 = .ok (.istore_n 1, 1) := by decide +kernel
theorem dX8_settles_123 : decode cX8_settles 123 = .ok (.iload_n 1, 1) := by decide +kernel
theorem dX8_settles_124 : decode cX8_settles 124 = .ok (.bipush 6, 2) := by decide +kernel
theorem dX8_settles_126 : decode cX8_settles 126 = .ok (.if_icmp .ge 42, 3) := by decide +kernel
theorem dX8_settles_129 : decode cX8_settles 129 = .ok (.aload_n 0, 1) := by decide +kernel
theorem dX8_settles_130 : decode cX8_settles 130 = .ok (.getfield 19, 3) := by decide +kernel
theorem dX8_settles_133 : decode cX8_settles 133 = .ok (.iload_n 1, 1) := by decide +kernel
theorem dX8_settles_134 : decode cX8_settles 134 = .ok (.aload_n 0, 1) := by decide +kernel
theorem dX8_settles_135 : decode cX8_settles 135 = .ok (.getfield 44, 3) := by decide +kernel
theorem dX8_settles_138 : decode cX8_settles 138 = .ok (.iconst 2, 1) := by decide +kernel
theorem dX8_settles_139 : decode cX8_settles 139 = .ok (.iload_n 1, 1) := by decide +kernel
theorem dX8_settles_140 : decode cX8_settles 140 = .ok (.imul, 1) := by decide +kernel
theorem dX8_settles_141 : decode cX8_settles 141 = .ok (.iconst 1, 1) := by decide +kernel
theorem dX8_settles_142 : decode cX8_settles 142 = .ok (.iadd, 1) := by decide +kernel
theorem dX8_settles_143 : decode cX8_settles 143 = .ok (.iaload, 1) := by decide +kernel
theorem dX8_settles_144 : decode cX8_settles 144 = .ok (.iastore, 1) := by decide +kernel
theorem dX8_settles_145 : decode cX8_settles 145 = .ok (.aload_n 0, 1) := by decide +kernel
theorem dX8_settles_146 : decode cX8_settles 146 = .ok (.getfield 22, 3) := by decide +kernel
theorem dX8_settles_149 : decode cX8_settles 149 = .ok (.bipush 6, 2) := by decide +kernel
theorem dX8_settles_151 : decode cX8_settles 151 = .ok (.iload_n 1, 1) := by decide +kernel
theorem dX8_settles_152 : decode cX8_settles 152 = .ok (.iadd, 1) := by decide +kernel
theorem dX8_settles_153 : decode cX8_settles 153 = .ok (.aload_n 0, 1) := by decide +kernel
theorem dX8_settles_154 : decode cX8_settles 154 = .ok (.getfield 44, 3) := by decide +kernel
theorem dX8_settles_157 : decode cX8_settles 157 = .ok (.iconst 2, 1) := by decide +kernel
theorem dX8_settles_158 : decode cX8_settles 158 = .ok (.iload_n 1, 1) := by decide +kernel
theorem dX8_settles_159 : decode cX8_settles 159 = .ok (.imul, 1) := by decide +kernel
theorem dX8_settles_160 : decode cX8_settles 160 = .ok (.iaload, 1) := by decide +kernel
theorem dX8_settles_161 : decode cX8_settles 161 = .ok (.iastore, 1) := by decide +kernel
theorem dX8_settles_162 : decode cX8_settles 162 = .ok (.iinc 1 1, 3) := by decide +kernel
theorem dX8_settles_165 : decode cX8_settles 165 = .ok (.goto (-42), 3) := by decide +kernel
theorem dX8_settles_168 : decode cX8_settles 168 = .ok (.aload_n 0, 1) := by decide +kernel
theorem dX8_settles_169 : decode cX8_settles 169 = .ok (.iconst 0, 1) := by decide +kernel
theorem dX8_settles_170 : decode cX8_settles 170 = .ok (.putfield 122, 3) := by decide +kernel
theorem dX8_settles_173 : decode cX8_settles 173 = .ok (.aload_n 0, 1) := by decide +kernel
theorem dX8_settles_174 : decode cX8_settles 174 = .ok (.iconst 0, 1) := by decide +kernel
theorem dX8_settles_175 : decode cX8_settles 175 = .ok (.putfield 125, 3) := by decide +kernel
theorem dX8_settles_178 : decode cX8_settles 178 = .ok (.aload_n 0, 1) := by decide +kernel
theorem dX8_settles_179 : decode cX8_settles 179 = .ok (.getfield 31, 3) := by decide +kernel
theorem dX8_settles_182 : decode cX8_settles 182 = .ok (.iconst 0, 1) := by decide +kernel
theorem dX8_settles_183 : decode cX8_settles 183 = .ok (.iconst 0, 1) := by decide +kernel
theorem dX8_settles_184 : decode cX8_settles 184 = .ok (.bastore, 1) := by decide +kernel
theorem dX8_settles_185 : decode cX8_settles 185 = .ok (.aload_n 0, 1) := by decide +kernel
theorem dX8_settles_186 : decode cX8_settles 186 = .ok (.getfield 31, 3) := by decide +kernel
theorem dX8_settles_189 : decode cX8_settles 189 = .ok (.iconst 1, 1) := by decide +kernel
theorem dX8_settles_190 : decode cX8_settles 190 = .ok (.iconst 0, 1) := by decide +kernel
theorem dX8_settles_191 : decode cX8_settles 191 = .ok (.bastore, 1) := by decide +kernel
theorem dX8_settles_192 : decode cX8_settles 192 = .ok (.aload_n 0, 1) := by decide +kernel
theorem dX8_settles_193 : decode cX8_settles 193 = .ok (.iconst 0, 1) := by decide +kernel
theorem dX8_settles_194 : decode cX8_settles 194 = .ok (.putfield 73, 3) := by decide +kernel
theorem dX8_settles_197 : decode cX8_settles 197 = .ok (.return_, 1) := by decide +kernel
def f_X8_settles_l123 : Nat → Int32 → xMem → Option (xMem)
  | 0, _, _ => none
  | n + 1, v123_1, M123 => (if (6 : Int32) ≤ v123_1 then xlet (xsf M123 8 8 (0 : Int32)) (fun M170 => xlet (xsf M170 8 11 (0 : Int32)) (fun M175 => xlet (xst M175 8 11 (0 : Int32) (vp_nar .boolean (0 : Int32))) (fun M184 => xlet (xst M184 8 11 (1 : Int32) (vp_nar .boolean (0 : Int32))) (fun M191 => xlet (xsf M191 8 15 (0 : Int32)) (fun M194 => some M194))))) else xchk (xb (((2 : Int32) * v123_1) + (1 : Int32)) 12) (xchk (xb v123_1 6) (xlet (xst M123 8 6 v123_1 (M123 8 26 (((2 : Int32) * v123_1) + (1 : Int32)).toNatClampNeg)) (fun M144 => xchk (xb ((2 : Int32) * v123_1) 12) (xchk (xb ((6 : Int32) + v123_1) 27) (xlet (xst M144 8 7 ((6 : Int32) + v123_1) (M144 8 26 ((2 : Int32) * v123_1).toNatClampNeg)) (fun M161 => (f_X8_settles_l123 n) (v123_1 + (1 : Int32)) M161)))))))
def f_X8_settles_l39 : Nat → Int32 → xMem → Option (xMem)
  | 0, _, _ => none
  | n + 1, v39_1, M39 => (if (5 : Int32) ≤ v39_1 then (f_X8_settles_l123 FU) (0 : Int32) M39 else xchk (xb ((3 : Int32) * v39_1) 15) (xchk (xb v39_1 5) (xlet (xst M39 8 2 v39_1 (M39 8 24 ((3 : Int32) * v39_1).toNatClampNeg)) (fun M57 => xchk (xb (((3 : Int32) * v39_1) + (1 : Int32)) 15) (xchk (xb v39_1 5) (xlet (xst M57 8 3 v39_1 (M57 8 24 (((3 : Int32) * v39_1) + (1 : Int32)).toNatClampNeg)) (fun M73 => xchk (xb (((3 : Int32) * v39_1) + (2 : Int32)) 15) (xchk (xb v39_1 5) (xlet (xst M73 8 4 v39_1 (M73 8 24 (((3 : Int32) * v39_1) + (2 : Int32)).toNatClampNeg)) (fun M89 => xchk (xb v39_1 5) (xchk (xb ((12 : Int32) + v39_1) 27) (xlet (xst M89 8 7 ((12 : Int32) + v39_1) (M89 8 2 v39_1.toNatClampNeg)) (fun M104 => xchk (xb ((17 : Int32) + v39_1) 27) (xlet (xst M104 8 7 ((17 : Int32) + v39_1) v39_1) (fun M114 => (f_X8_settles_l39 n) (v39_1 + (1 : Int32)) M114)))))))))))))))
def f_X8_settles_l18 : Nat → Int32 → xMem → Option (xMem)
  | 0, _, _ => none
  | n + 1, v18_1, M18 => (if (27 : Int32) ≤ v18_1 then (f_X8_settles_l39 FU) (0 : Int32) M18 else xchk (xb v18_1 27) (xlet (xst M18 8 7 v18_1 (0 : Int32)) (fun M30 => (f_X8_settles_l18 n) (v18_1 + (1 : Int32)) M30)))
def f_X8_settles (M : xMem) : Option (xMem) := xlet (xsf M 8 0 (M 8 0 22)) (fun M5 => xlet (xsf M5 8 4 (M5 8 0 24)) (fun M13 => (f_X8_settles_l18 FU) (0 : Int32) M13))
set_option maxHeartbeats 4000000 in
set_option maxRecDepth 100000 in
theorem w_X8_settles_l123 {p : Program} {l : Launch} {e : Env} {s : State} {m : MethodId} {args : Array Value} {below : List Frame} {meth : Method} {c : Code} {G : xG} {MM : xMem} (E : xE p s m args meth c cX8_settles 2 none RX8 G) (M : xMem) (L : xLL) : ∀ (n : Nat), ∀ (v123_1 : Int32) (M123 : xMem), f_X8_settles_l123  n v123_1 M123 = some MM → ∀ (ls : Array Slot), lv_has ls 2 [(0, .ref (xq G 8 0)), (1, .int v123_1)] → ∀ (H : Heap) (locs : List Loc), xI G M123 L s.heap H locs → W p l e (xR 1) s m args below meth c H locs 0 0 (MQ below (xQv G MM L s.heap.size) args s 0 0 (xZ G s.heap.size)) (F0 m 123 ls []) := by
  have hx := E.1
  have hb := E.2.1
  intro n
  induction n with
  | zero =>
    intro v123_1 M123 hf
    exact absurd hf (by simp [f_X8_settles_l123])
  | succ n ih =>
    intro v123_1 M123 hf ls hl H locs hI
    rw [f_X8_settles_l123] at hf
    refine lv_iload_n hx hb dX8_settles_123 rfl (lv_at hl 1 rfl) ?_
    refine lv_bipush (v := 6) hx hb dX8_settles_124 (by decide) ?_
    refine lv_icmp_ge (tgt := 168) hx hb dX8_settles_126 (by decide) (fun c126 => ?_) (fun c126 => ?_)
    · replace hf := xif_t c126 hf
      refine lv_aload_n hx hb dX8_settles_168 rfl (lv_at hl 0 rfl) ?_
      refine lv_iconst (v := 0) hx hb dX8_settles_169 (by decide) ?_
      obtain ⟨M170, e170, hf⟩ := xlet_s hf
      refine pf_X8_122 E hI dX8_settles_170 e170 (fun H locs hI => ?_)
      refine lv_aload_n hx hb dX8_settles_173 rfl (lv_at hl 0 rfl) ?_
      refine lv_iconst (v := 0) hx hb dX8_settles_174 (by decide) ?_
      obtain ⟨M175, e175, hf⟩ := xlet_s hf
      refine pf_X8_125 E hI dX8_settles_175 e175 (fun H locs hI => ?_)
      refine lv_aload_n hx hb dX8_settles_178 rfl (lv_at hl 0 rfl) ?_
      refine gf_X8_31 E hI dX8_settles_179 ?_
      refine lv_iconst (v := 0) hx hb dX8_settles_182 (by decide) ?_
      refine lv_iconst (v := 0) hx hb dX8_settles_183 (by decide) ?_
      obtain ⟨M184, e184, hf⟩ := xlet_s hf
      refine x_zast (n := 2) E hI mx_8_11 (fun _ _ => rfl) (by decide) dX8_settles_184 e184 (fun H locs hI => ?_)
      refine lv_aload_n hx hb dX8_settles_185 rfl (lv_at hl 0 rfl) ?_
      refine gf_X8_31 E hI dX8_settles_186 ?_
      refine lv_iconst (v := 1) hx hb dX8_settles_189 (by decide) ?_
      refine lv_iconst (v := 0) hx hb dX8_settles_190 (by decide) ?_
      obtain ⟨M191, e191, hf⟩ := xlet_s hf
      refine x_zast (n := 2) E hI mx_8_11 (fun _ _ => rfl) (by decide) dX8_settles_191 e191 (fun H locs hI => ?_)
      refine lv_aload_n hx hb dX8_settles_192 rfl (lv_at hl 0 rfl) ?_
      refine lv_iconst (v := 0) hx hb dX8_settles_193 (by decide) ?_
      obtain ⟨M194, e194, hf⟩ := xlet_s hf
      refine pf_X8_73 E hI dX8_settles_194 e194 (fun H locs hI => ?_)
      obtain rfl := xinj1 hf
      exact x_vret E hI dX8_settles_197
    · replace hf := xif_f c126 hf
      refine lv_aload_n hx hb dX8_settles_129 rfl (lv_at hl 0 rfl) ?_
      refine gf_X8_19 E hI dX8_settles_130 ?_
      refine lv_iload_n hx hb dX8_settles_133 rfl (lv_at hl 1 rfl) ?_
      refine lv_aload_n hx hb dX8_settles_134 rfl (lv_at hl 0 rfl) ?_
      refine gf_X8_44 E hI dX8_settles_135 ?_
      refine lv_iconst (v := 2) hx hb dX8_settles_138 (by decide) ?_
      refine lv_iload_n hx hb dX8_settles_139 rfl (lv_at hl 1 rfl) ?_
      refine lv_imul hx hb dX8_settles_140 ?_
      refine lv_iconst (v := 1) hx hb dX8_settles_141 (by decide) ?_
      refine lv_iadd hx hb dX8_settles_142 ?_
      obtain ⟨h143b, hf⟩ := xchk_s hf
      refine x_iald (n := 12) E hI mx_8_26 (fun _ _ => rfl) h143b dX8_settles_143 ?_
      obtain ⟨h144b, hf⟩ := xchk_s hf
      obtain ⟨M144, e144, hf⟩ := xlet_s hf
      refine x_iast (n := 6) E hI mx_8_6 (fun _ _ => rfl) h144b dX8_settles_144 e144 (fun H locs hI => ?_)
      refine lv_aload_n hx hb dX8_settles_145 rfl (lv_at hl 0 rfl) ?_
      refine gf_X8_22 E hI dX8_settles_146 ?_
      refine lv_bipush (v := 6) hx hb dX8_settles_149 (by decide) ?_
      refine lv_iload_n hx hb dX8_settles_151 rfl (lv_at hl 1 rfl) ?_
      refine lv_iadd hx hb dX8_settles_152 ?_
      refine lv_aload_n hx hb dX8_settles_153 rfl (lv_at hl 0 rfl) ?_
      refine gf_X8_44 E hI dX8_settles_154 ?_
      refine lv_iconst (v := 2) hx hb dX8_settles_157 (by decide) ?_
      refine lv_iload_n hx hb dX8_settles_158 rfl (lv_at hl 1 rfl) ?_
      refine lv_imul hx hb dX8_settles_159 ?_
      obtain ⟨h160b, hf⟩ := xchk_s hf
      refine x_iald (n := 12) E hI mx_8_26 (fun _ _ => rfl) h160b dX8_settles_160 ?_
      obtain ⟨h161b, hf⟩ := xchk_s hf
      obtain ⟨M161, e161, hf⟩ := xlet_s hf
      refine x_iast (n := 27) E hI mx_8_7 (fun _ _ => rfl) h161b dX8_settles_161 e161 (fun H locs hI => ?_)
      refine lv_iinc (v := (v123_1 + (1 : Int32))) (lv' := [(1, .int (v123_1 + (1 : Int32))), (0, .ref (xq G 8 0))]) hx hb dX8_settles_162 hl (k := 1) rfl rfl (by decide) rfl (fun ls hl => ?_)
      refine lv_goto (tgt := 123) hx hb dX8_settles_165 (by decide) ?_
      exact ih (v123_1 + (1 : Int32)) M161 hf _ (lv_sub hl [1, 0] rfl) _ _ hI
set_option maxHeartbeats 4000000 in
set_option maxRecDepth 100000 in
theorem w_X8_settles_l39 {p : Program} {l : Launch} {e : Env} {s : State} {m : MethodId} {args : Array Value} {below : List Frame} {meth : Method} {c : Code} {G : xG} {MM : xMem} (E : xE p s m args meth c cX8_settles 2 none RX8 G) (M : xMem) (L : xLL) : ∀ (n : Nat), ∀ (v39_1 : Int32) (M39 : xMem), f_X8_settles_l39  n v39_1 M39 = some MM → ∀ (ls : Array Slot), lv_has ls 2 [(0, .ref (xq G 8 0)), (1, .int v39_1)] → ∀ (H : Heap) (locs : List Loc), xI G M39 L s.heap H locs → W p l e (xR 1) s m args below meth c H locs 0 0 (MQ below (xQv G MM L s.heap.size) args s 0 0 (xZ G s.heap.size)) (F0 m 39 ls []) := by
  have hx := E.1
  have hb := E.2.1
  intro n
  induction n with
  | zero =>
    intro v39_1 M39 hf
    exact absurd hf (by simp [f_X8_settles_l39])
  | succ n ih =>
    intro v39_1 M39 hf ls hl H locs hI
    rw [f_X8_settles_l39] at hf
    refine lv_iload_n hx hb dX8_settles_39 rfl (lv_at hl 1 rfl) ?_
    refine lv_iconst (v := 5) hx hb dX8_settles_40 (by decide) ?_
    refine lv_icmp_ge (tgt := 121) hx hb dX8_settles_41 (by decide) (fun c41 => ?_) (fun c41 => ?_)
    · replace hf := xif_t c41 hf
      refine lv_iconst (v := 0) hx hb dX8_settles_121 (by decide) ?_
      refine lv_istore_n (lv' := [(1, .int (0 : Int32)), (0, .ref (xq G 8 0))]) hx hb dX8_settles_122 rfl hl (by decide) rfl (fun ls hl => ?_)
      exact (w_X8_settles_l123 E (M := M) (L := L) FU) (0 : Int32) M39 hf _ (lv_sub hl [1, 0] rfl) _ _ hI
    · replace hf := xif_f c41 hf
      refine lv_aload_n hx hb dX8_settles_44 rfl (lv_at hl 0 rfl) ?_
      refine gf_X8_7 E hI dX8_settles_45 ?_
      refine lv_iload_n hx hb dX8_settles_48 rfl (lv_at hl 1 rfl) ?_
      refine lv_aload_n hx hb dX8_settles_49 rfl (lv_at hl 0 rfl) ?_
      refine gf_X8_41 E hI dX8_settles_50 ?_
      refine lv_iconst (v := 3) hx hb dX8_settles_53 (by decide) ?_
      refine lv_iload_n hx hb dX8_settles_54 rfl (lv_at hl 1 rfl) ?_
      refine lv_imul hx hb dX8_settles_55 ?_
      obtain ⟨h56b, hf⟩ := xchk_s hf
      refine x_iald (n := 15) E hI mx_8_24 (fun _ _ => rfl) h56b dX8_settles_56 ?_
      obtain ⟨h57b, hf⟩ := xchk_s hf
      obtain ⟨M57, e57, hf⟩ := xlet_s hf
      refine x_iast (n := 5) E hI mx_8_2 (fun _ _ => rfl) h57b dX8_settles_57 e57 (fun H locs hI => ?_)
      refine lv_aload_n hx hb dX8_settles_58 rfl (lv_at hl 0 rfl) ?_
      refine gf_X8_13 E hI dX8_settles_59 ?_
      refine lv_iload_n hx hb dX8_settles_62 rfl (lv_at hl 1 rfl) ?_
      refine lv_aload_n hx hb dX8_settles_63 rfl (lv_at hl 0 rfl) ?_
      refine gf_X8_41 E hI dX8_settles_64 ?_
      refine lv_iconst (v := 3) hx hb dX8_settles_67 (by decide) ?_
      refine lv_iload_n hx hb dX8_settles_68 rfl (lv_at hl 1 rfl) ?_
      refine lv_imul hx hb dX8_settles_69 ?_
      refine lv_iconst (v := 1) hx hb dX8_settles_70 (by decide) ?_
      refine lv_iadd hx hb dX8_settles_71 ?_
      obtain ⟨h72b, hf⟩ := xchk_s hf
      refine x_iald (n := 15) E hI mx_8_24 (fun _ _ => rfl) h72b dX8_settles_72 ?_
      obtain ⟨h73b, hf⟩ := xchk_s hf
      obtain ⟨M73, e73, hf⟩ := xlet_s hf
      refine x_iast (n := 5) E hI mx_8_3 (fun _ _ => rfl) h73b dX8_settles_73 e73 (fun H locs hI => ?_)
      refine lv_aload_n hx hb dX8_settles_74 rfl (lv_at hl 0 rfl) ?_
      refine gf_X8_16 E hI dX8_settles_75 ?_
      refine lv_iload_n hx hb dX8_settles_78 rfl (lv_at hl 1 rfl) ?_
      refine lv_aload_n hx hb dX8_settles_79 rfl (lv_at hl 0 rfl) ?_
      refine gf_X8_41 E hI dX8_settles_80 ?_
      refine lv_iconst (v := 3) hx hb dX8_settles_83 (by decide) ?_
      refine lv_iload_n hx hb dX8_settles_84 rfl (lv_at hl 1 rfl) ?_
      refine lv_imul hx hb dX8_settles_85 ?_
      refine lv_iconst (v := 2) hx hb dX8_settles_86 (by decide) ?_
      refine lv_iadd hx hb dX8_settles_87 ?_
      obtain ⟨h88b, hf⟩ := xchk_s hf
      refine x_iald (n := 15) E hI mx_8_24 (fun _ _ => rfl) h88b dX8_settles_88 ?_
      obtain ⟨h89b, hf⟩ := xchk_s hf
      obtain ⟨M89, e89, hf⟩ := xlet_s hf
      refine x_iast (n := 5) E hI mx_8_4 (fun _ _ => rfl) h89b dX8_settles_89 e89 (fun H locs hI => ?_)
      refine lv_aload_n hx hb dX8_settles_90 rfl (lv_at hl 0 rfl) ?_
      refine gf_X8_22 E hI dX8_settles_91 ?_
      refine lv_bipush (v := 12) hx hb dX8_settles_94 (by decide) ?_
      refine lv_iload_n hx hb dX8_settles_96 rfl (lv_at hl 1 rfl) ?_
      refine lv_iadd hx hb dX8_settles_97 ?_
      refine lv_aload_n hx hb dX8_settles_98 rfl (lv_at hl 0 rfl) ?_
      refine gf_X8_7 E hI dX8_settles_99 ?_
      refine lv_iload_n hx hb dX8_settles_102 rfl (lv_at hl 1 rfl) ?_
      obtain ⟨h103b, hf⟩ := xchk_s hf
      refine x_iald (n := 5) E hI mx_8_2 (fun _ _ => rfl) h103b dX8_settles_103 ?_
      obtain ⟨h104b, hf⟩ := xchk_s hf
      obtain ⟨M104, e104, hf⟩ := xlet_s hf
      refine x_iast (n := 27) E hI mx_8_7 (fun _ _ => rfl) h104b dX8_settles_104 e104 (fun H locs hI => ?_)
      refine lv_aload_n hx hb dX8_settles_105 rfl (lv_at hl 0 rfl) ?_
      refine gf_X8_22 E hI dX8_settles_106 ?_
      refine lv_bipush (v := 17) hx hb dX8_settles_109 (by decide) ?_
      refine lv_iload_n hx hb dX8_settles_111 rfl (lv_at hl 1 rfl) ?_
      refine lv_iadd hx hb dX8_settles_112 ?_
      refine lv_iload_n hx hb dX8_settles_113 rfl (lv_at hl 1 rfl) ?_
      obtain ⟨h114b, hf⟩ := xchk_s hf
      obtain ⟨M114, e114, hf⟩ := xlet_s hf
      refine x_iast (n := 27) E hI mx_8_7 (fun _ _ => rfl) h114b dX8_settles_114 e114 (fun H locs hI => ?_)
      refine lv_iinc (v := (v39_1 + (1 : Int32))) (lv' := [(1, .int (v39_1 + (1 : Int32))), (0, .ref (xq G 8 0))]) hx hb dX8_settles_115 hl (k := 1) rfl rfl (by decide) rfl (fun ls hl => ?_)
      refine lv_goto (tgt := 39) hx hb dX8_settles_118 (by decide) ?_
      exact ih (v39_1 + (1 : Int32)) M114 hf _ (lv_sub hl [1, 0] rfl) _ _ hI
set_option maxHeartbeats 4000000 in
set_option maxRecDepth 100000 in
theorem w_X8_settles_l18 {p : Program} {l : Launch} {e : Env} {s : State} {m : MethodId} {args : Array Value} {below : List Frame} {meth : Method} {c : Code} {G : xG} {MM : xMem} (E : xE p s m args meth c cX8_settles 2 none RX8 G) (M : xMem) (L : xLL) : ∀ (n : Nat), ∀ (v18_1 : Int32) (M18 : xMem), f_X8_settles_l18  n v18_1 M18 = some MM → ∀ (ls : Array Slot), lv_has ls 2 [(0, .ref (xq G 8 0)), (1, .int v18_1)] → ∀ (H : Heap) (locs : List Loc), xI G M18 L s.heap H locs → W p l e (xR 1) s m args below meth c H locs 0 0 (MQ below (xQv G MM L s.heap.size) args s 0 0 (xZ G s.heap.size)) (F0 m 18 ls []) := by
  have hx := E.1
  have hb := E.2.1
  intro n
  induction n with
  | zero =>
    intro v18_1 M18 hf
    exact absurd hf (by simp [f_X8_settles_l18])
  | succ n ih =>
    intro v18_1 M18 hf ls hl H locs hI
    rw [f_X8_settles_l18] at hf
    refine lv_iload_n hx hb dX8_settles_18 rfl (lv_at hl 1 rfl) ?_
    refine lv_bipush (v := 27) hx hb dX8_settles_19 (by decide) ?_
    refine lv_icmp_ge (tgt := 37) hx hb dX8_settles_21 (by decide) (fun c21 => ?_) (fun c21 => ?_)
    · replace hf := xif_t c21 hf
      refine lv_iconst (v := 0) hx hb dX8_settles_37 (by decide) ?_
      refine lv_istore_n (lv' := [(1, .int (0 : Int32)), (0, .ref (xq G 8 0))]) hx hb dX8_settles_38 rfl hl (by decide) rfl (fun ls hl => ?_)
      exact (w_X8_settles_l39 E (M := M) (L := L) FU) (0 : Int32) M18 hf _ (lv_sub hl [1, 0] rfl) _ _ hI
    · replace hf := xif_f c21 hf
      refine lv_aload_n hx hb dX8_settles_24 rfl (lv_at hl 0 rfl) ?_
      refine gf_X8_22 E hI dX8_settles_25 ?_
      refine lv_iload_n hx hb dX8_settles_28 rfl (lv_at hl 1 rfl) ?_
      refine lv_iconst (v := 0) hx hb dX8_settles_29 (by decide) ?_
      obtain ⟨h30b, hf⟩ := xchk_s hf
      obtain ⟨M30, e30, hf⟩ := xlet_s hf
      refine x_iast (n := 27) E hI mx_8_7 (fun _ _ => rfl) h30b dX8_settles_30 e30 (fun H locs hI => ?_)
      refine lv_iinc (v := (v18_1 + (1 : Int32))) (lv' := [(1, .int (v18_1 + (1 : Int32))), (0, .ref (xq G 8 0))]) hx hb dX8_settles_31 hl (k := 1) rfl rfl (by decide) rfl (fun ls hl => ?_)
      refine lv_goto (tgt := 18) hx hb dX8_settles_34 (by decide) ?_
      exact ih (v18_1 + (1 : Int32)) M30 hf _ (lv_sub hl [1, 0] rfl) _ _ hI
set_option maxHeartbeats 4000000 in
set_option maxRecDepth 100000 in
theorem c_X8_settles (l : Launch) (G : xG) (sz : Nat) (M : xMem) (L : xLL) {MM : xMem} (hf : f_X8_settles M = some MM) : Met l yX8_settles (Cond.code yX8_settles cX8_settles 2 none :: xTB) (xR 1) (xP G M L sz [.ref (xq G 8 0)]) (xQv G MM L sz) 0 0 (xZ G sz) := by
  refine x_met (cc := cX8_settles) (nL := 2) (rt := none) (by decide) (Nat.le_of_ble_eq_true rfl) ?_
  intro p e s m below meth c ls hsz E hl hI
  subst hsz
  have E : xE p s m _ meth c cX8_settles 2 none RX8 G := E
  have hx := E.1
  have hb := E.2.1
  have hl : lv_has ls 2 [(0, .ref (xq G 8 0))] := hl
  rw [f_X8_settles] at hf
  refine lv_aload_n hx hb dX8_settles_0 rfl (lv_at hl 0 rfl) ?_
  refine lv_aload_n hx hb dX8_settles_1 rfl (lv_at hl 0 rfl) ?_
  refine gf_X8_103 E hI dX8_settles_2 ?_
  obtain ⟨M5, e5, hf⟩ := xlet_s hf
  refine pf_X8_62 E hI dX8_settles_5 e5 (fun H locs hI => ?_)
  refine lv_aload_n hx hb dX8_settles_8 rfl (lv_at hl 0 rfl) ?_
  refine lv_aload_n hx hb dX8_settles_9 rfl (lv_at hl 0 rfl) ?_
  refine gf_X8_106 E hI dX8_settles_10 ?_
  obtain ⟨M13, e13, hf⟩ := xlet_s hf
  refine pf_X8_70 E hI dX8_settles_13 e13 (fun H locs hI => ?_)
  refine lv_iconst (v := 0) hx hb dX8_settles_16 (by decide) ?_
  refine lv_istore_n (lv' := [(1, .int (0 : Int32)), (0, .ref (xq G 8 0))]) hx hb dX8_settles_17 rfl hl (by decide) rfl (fun ls hl => ?_)
  exact (w_X8_settles_l18 E (M := M) (L := L) FU) (0 : Int32) M13 hf _ (lv_sub hl [1, 0] rfl) _ _ hI
theorem dX8_barn_0 : decode cX8_barn 0 = .ok (.aload_n 0, 1) := by decide +kernel
theorem dX8_barn_1 : decode cX8_barn 1 = .ok (.iconst 0, 1) := by decide +kernel
theorem dX8_barn_2 : decode cX8_barn 2 = .ok (.putfield 76, 3) := by decide +kernel
theorem dX8_barn_5 : decode cX8_barn 5 = .ok (.aload_n 0, 1) := by decide +kernel
theorem dX8_barn_6 : decode cX8_barn 6 = .ok (.iconst 0, 1) := by decide +kernel
theorem dX8_barn_7 : decode cX8_barn 7 = .ok (.putfield 96, 3) := by decide +kernel
theorem dX8_barn_10 : decode cX8_barn 10 = .ok (.aload_n 0, 1) := by decide +kernel
theorem dX8_barn_11 : decode cX8_barn 11 = .ok (.iconst 0, 1) := by decide +kernel
theorem dX8_barn_12 : decode cX8_barn 12 = .ok (.putfield 113, 3) := by decide +kernel
theorem dX8_barn_15 : decode cX8_barn 15 = .ok (.aload_n 0, 1) := by decide +kernel
theorem dX8_barn_16 : decode cX8_barn 16 = .ok (.iconst 0, 1) := by decide +kernel
theorem dX8_barn_17 : decode cX8_barn 17 = .ok (.putfield 103, 3) := by decide +kernel
theorem dX8_barn_20 : decode cX8_barn 20 = .ok (.aload_n 0, 1) := by decide +kernel
theorem dX8_barn_21 : decode cX8_barn 21 = .ok (.iconst 0, 1) := by decide +kernel
theorem dX8_barn_22 : decode cX8_barn 22 = .ok (.putfield 106, 3) := by decide +kernel
theorem dX8_barn_25 : decode cX8_barn 25 = .ok (.aload_n 0, 1) := by decide +kernel
theorem dX8_barn_26 : decode cX8_barn 26 = .ok (.invokevirtual 100, 3) := by decide +kernel
theorem dX8_barn_29 : decode cX8_barn 29 = .ok (.aload_n 0, 1) := by decide +kernel
theorem dX8_barn_30 : decode cX8_barn 30 = .ok (.getfield 89, 3) := by decide +kernel
theorem dX8_barn_33 : decode cX8_barn 33 = .ok (.ifCond .eq 27, 3) := by decide +kernel
theorem dX8_barn_36 : decode cX8_barn 36 = .ok (.aload_n 0, 1) := by decide +kernel
theorem dX8_barn_37 : decode cX8_barn 37 = .ok (.getfield 96, 3) := by decide +kernel
theorem dX8_barn_40 : decode cX8_barn 40 = .ok (.ifCond .ne 20, 3) := by decide +kernel
theorem dX8_barn_43 : decode cX8_barn 43 = .ok (.aload_n 0, 1) := by decide +kernel
theorem dX8_barn_44 : decode cX8_barn 44 = .ok (.invokevirtual 116, 3) := by decide +kernel
theorem dX8_barn_47 : decode cX8_barn 47 = .ok (.aload_n 0, 1) := by decide +kernel
theorem dX8_barn_48 : decode cX8_barn 48 = .ok (.dup, 1) := by decide +kernel
theorem dX8_barn_49 : decode cX8_barn 49 = .ok (.getfield 113, 3) := by decide +kernel
theorem dX8_barn_52 : decode cX8_barn 52 = .ok (.iconst 1, 1) := by decide +kernel
theorem dX8_barn_53 : decode cX8_barn 53 = .ok (.iadd, 1) := by decide +kernel
theorem dX8_barn_54 : decode cX8_barn 54 = .ok (.putfield 113, 3) := by decide +kernel
theorem dX8_barn_57 : decode cX8_barn 57 = .ok (.goto (-28), 3) := by decide +kernel
theorem dX8_barn_60 : decode cX8_barn 60 = .ok (.aload_n 0, 1) := by decide +kernel
theorem dX8_barn_61 : decode cX8_barn 61 = .ok (.getfield 96, 3) := by decide +kernel
theorem dX8_barn_64 : decode cX8_barn 64 = .ok (.ifCond .eq 11, 3) := by decide +kernel
theorem dX8_barn_67 : decode cX8_barn 67 = .ok (.bipush (-10), 2) := by decide +kernel
theorem dX8_barn_69 : decode cX8_barn 69 = .ok (.aload_n 0, 1) := by decide +kernel
theorem dX8_barn_70 : decode cX8_barn 70 = .ok (.getfield 83, 3) := by decide +kernel
theorem dX8_barn_73 : decode cX8_barn 73 = .ok (.isub, 1) := by decide +kernel
theorem dX8_barn_74 : decode cX8_barn 74 = .ok (.ireturn, 1) := by decide +kernel
theorem dX8_barn_75 : decode cX8_barn 75 = .ok (.aload_n 0, 1) := by decide +kernel
theorem dX8_barn_76 : decode cX8_barn 76 = .ok (.invokevirtual 119, 3) := by decide +kernel
theorem dX8_barn_79 : decode cX8_barn 79 = .ok (.aload_n 0, 1) := by decide +kernel
theorem dX8_barn_80 : decode cX8_barn 80 = .ok (.getfield 113, 3) := by decide +kernel
theorem dX8_barn_83 : decode cX8_barn 83 = .ok (.ireturn, 1) := by decide +kernel
def f_X8_barn_b60 (M29 : xMem) : Option (Int32 × xMem) := (if (M29 8 0 20) = (0 : Int32) then xb1 (f_X8_settles M29) (fun M76 => some ((M76 8 0 21), M76)) else some (((-10 : Int32) - (M29 8 0 17)), M29))
def f_X8_barn_l29 : Nat → xMem → Option (Int32 × xMem)
  | 0, _ => none
  | n + 1, M29 => (if (M29 8 0 18) = (0 : Int32) then (f_X8_barn_b60 M29) else (if (M29 8 0 20) = (0 : Int32) then xb1 (f_X8_readItem M29) (fun M44 => xlet (xsf M44 8 21 ((M44 8 0 21) + (1 : Int32))) (fun M54 => (f_X8_barn_l29 n) M54)) else (f_X8_barn_b60 M29)))
def f_X8_barn (M : xMem) : Option (Int32 × xMem) := xlet (xsf M 8 16 (0 : Int32)) (fun M2 => xlet (xsf M2 8 20 (0 : Int32)) (fun M7 => xlet (xsf M7 8 21 (0 : Int32)) (fun M12 => xlet (xsf M12 8 22 (0 : Int32)) (fun M17 => xlet (xsf M17 8 24 (0 : Int32)) (fun M22 => xb1 (f_X8_reads M22) (fun M26 => (f_X8_barn_l29 FU) M26))))))
set_option maxHeartbeats 4000000 in
set_option maxRecDepth 100000 in
theorem w_X8_barn_b60 {p : Program} {l : Launch} {e : Env} {s : State} {m : MethodId} {args : Array Value} {below : List Frame} {meth : Method} {c : Code} {G : xG} {rr : Int32} {MM : xMem} (E : xE p s m args meth c cX8_barn 1 (some .int) RX8 G) (M : xMem) (L : xLL) (M29 : xMem) : f_X8_barn_b60 M29  = some (rr, MM) → ∀ (ls : Array Slot), lv_has ls 1 [(0, .ref (xq G 8 0))] → ∀ (H : Heap) (locs : List Loc), xI G M29 L s.heap H locs → W p l e (xR 6) s m args below meth c H locs 0 0 (MQ below (xQi G rr MM L s.heap.size) args s 0 0 (xZ G s.heap.size)) (F0 m 60 ls []) := by
  have hx := E.1
  have hb := E.2.1
  intro  hf ls hl H locs hI
  rw [f_X8_barn_b60] at hf
  refine lv_aload_n hx hb dX8_barn_60 rfl (lv_at hl 0 rfl) ?_
  refine gf_X8_96 E hI dX8_barn_61 ?_
  refine lv_if_eq (tgt := 75) hx hb dX8_barn_64 (by decide) (fun c64 => ?_) (fun c64 => ?_)
  · replace hf := xif_t c64 hf
    refine lv_aload_n hx hb dX8_barn_75 rfl (lv_at hl 0 rfl) ?_
    obtain ⟨M76, g76, hf⟩ := xb1_s hf
    refine x_callVv (As := []) (rest := []) E hI mx_8_0 rfl rfl rfl (c_X8_settles l G _ (M := M29) (L := L) g76) yv_X8_settles ml_X8_119 (by decide) (by decide) rfl rfl hl.1 (Nat.le_of_ble_eq_true rfl) dX8_barn_76 (fun H locs hI => ?_)
    refine lv_aload_n hx hb dX8_barn_79 rfl (lv_at hl 0 rfl) ?_
    refine gf_X8_113 E hI dX8_barn_80 ?_
    obtain ⟨rfl, rfl⟩ := xinj2 hf
    exact x_iret E hI rfl dX8_barn_83
  · replace hf := xif_f c64 hf
    refine lv_bipush (v := -10) hx hb dX8_barn_67 (by decide) ?_
    refine lv_aload_n hx hb dX8_barn_69 rfl (lv_at hl 0 rfl) ?_
    refine gf_X8_83 E hI dX8_barn_70 ?_
    refine lv_isub hx hb dX8_barn_73 ?_
    obtain ⟨rfl, rfl⟩ := xinj2 hf
    exact x_iret E hI rfl dX8_barn_74
set_option maxHeartbeats 4000000 in
set_option maxRecDepth 100000 in
theorem w_X8_barn_l29 {p : Program} {l : Launch} {e : Env} {s : State} {m : MethodId} {args : Array Value} {below : List Frame} {meth : Method} {c : Code} {G : xG} {rr : Int32} {MM : xMem} (E : xE p s m args meth c cX8_barn 1 (some .int) RX8 G) (M : xMem) (L : xLL) : ∀ (n : Nat), ∀ (M29 : xMem), f_X8_barn_l29  n M29 = some (rr, MM) → ∀ (ls : Array Slot), lv_has ls 1 [(0, .ref (xq G 8 0))] → ∀ (H : Heap) (locs : List Loc), xI G M29 L s.heap H locs → W p l e (xR 6) s m args below meth c H locs 0 0 (MQ below (xQi G rr MM L s.heap.size) args s 0 0 (xZ G s.heap.size)) (F0 m 29 ls []) := by
  have hx := E.1
  have hb := E.2.1
  intro n
  induction n with
  | zero =>
    intro M29 hf
    exact absurd hf (by simp [f_X8_barn_l29])
  | succ n ih =>
    intro M29 hf ls hl H locs hI
    rw [f_X8_barn_l29] at hf
    refine lv_aload_n hx hb dX8_barn_29 rfl (lv_at hl 0 rfl) ?_
    refine gf_X8_89 E hI dX8_barn_30 ?_
    refine lv_if_eq (tgt := 60) hx hb dX8_barn_33 (by decide) (fun c33 => ?_) (fun c33 => ?_)
    · replace hf := xif_t c33 hf
      exact (w_X8_barn_b60 E (M := M) (L := L) (M29 := M29))  hf _ (lv_sub hl [0] rfl) _ _ hI
    · replace hf := xif_f c33 hf
      refine lv_aload_n hx hb dX8_barn_36 rfl (lv_at hl 0 rfl) ?_
      refine gf_X8_96 E hI dX8_barn_37 ?_
      refine lv_if_ne (tgt := 60) hx hb dX8_barn_40 (by decide) (fun c40 => ?_) (fun c40 => ?_)
      · replace hf := xif_f c40 hf
        exact (w_X8_barn_b60 E (M := M) (L := L) (M29 := M29))  hf _ (lv_sub hl [0] rfl) _ _ hI
      · replace hf := xif_t c40 hf
        refine lv_aload_n hx hb dX8_barn_43 rfl (lv_at hl 0 rfl) ?_
        obtain ⟨M44, g44, hf⟩ := xb1_s hf
        refine x_callVv (As := []) (rest := []) E hI mx_8_0 rfl rfl rfl (c_X8_readItem l G _ (M := M29) (L := L) g44) yv_X8_readItem ml_X8_116 (by decide) (by decide) rfl rfl hl.1 (Nat.le_of_ble_eq_true rfl) dX8_barn_44 (fun H locs hI => ?_)
        refine lv_aload_n hx hb dX8_barn_47 rfl (lv_at hl 0 rfl) ?_
        refine lv_dup hx hb dX8_barn_48 rfl ?_
        refine gf_X8_113 E hI dX8_barn_49 ?_
        refine lv_iconst (v := 1) hx hb dX8_barn_52 (by decide) ?_
        refine lv_iadd hx hb dX8_barn_53 ?_
        obtain ⟨M54, e54, hf⟩ := xlet_s hf
        refine pf_X8_113 E hI dX8_barn_54 e54 (fun H locs hI => ?_)
        refine lv_goto (tgt := 29) hx hb dX8_barn_57 (by decide) ?_
        exact ih M54 hf _ (lv_sub hl [0] rfl) _ _ hI
set_option maxHeartbeats 4000000 in
set_option maxRecDepth 100000 in
theorem c_X8_barn (l : Launch) (G : xG) (sz : Nat) (M : xMem) (L : xLL) {rr : Int32} {MM : xMem} (hf : f_X8_barn M = some (rr, MM)) : Met l yX8_barn (Cond.code yX8_barn cX8_barn 1 (some .int) :: xTB) (xR 6) (xP G M L sz [.ref (xq G 8 0)]) (xQi G rr MM L sz) 0 0 (xZ G sz) := by
  refine x_met (cc := cX8_barn) (nL := 1) (rt := (some .int)) (by decide) (Nat.le_of_ble_eq_true rfl) ?_
  intro p e s m below meth c ls hsz E hl hI
  subst hsz
  have E : xE p s m _ meth c cX8_barn 1 (some .int) RX8 G := E
  have hx := E.1
  have hb := E.2.1
  have hl : lv_has ls 1 [(0, .ref (xq G 8 0))] := hl
  rw [f_X8_barn] at hf
  refine lv_aload_n hx hb dX8_barn_0 rfl (lv_at hl 0 rfl) ?_
  refine lv_iconst (v := 0) hx hb dX8_barn_1 (by decide) ?_
  obtain ⟨M2, e2, hf⟩ := xlet_s hf
  refine pf_X8_76 E hI dX8_barn_2 e2 (fun H locs hI => ?_)
  refine lv_aload_n hx hb dX8_barn_5 rfl (lv_at hl 0 rfl) ?_
  refine lv_iconst (v := 0) hx hb dX8_barn_6 (by decide) ?_
  obtain ⟨M7, e7, hf⟩ := xlet_s hf
  refine pf_X8_96 E hI rfl rfl dX8_barn_7 e7 (fun H locs hI => ?_)
  refine lv_aload_n hx hb dX8_barn_10 rfl (lv_at hl 0 rfl) ?_
  refine lv_iconst (v := 0) hx hb dX8_barn_11 (by decide) ?_
  obtain ⟨M12, e12, hf⟩ := xlet_s hf
  refine pf_X8_113 E hI dX8_barn_12 e12 (fun H locs hI => ?_)
  refine lv_aload_n hx hb dX8_barn_15 rfl (lv_at hl 0 rfl) ?_
  refine lv_iconst (v := 0) hx hb dX8_barn_16 (by decide) ?_
  obtain ⟨M17, e17, hf⟩ := xlet_s hf
  refine pf_X8_103 E hI dX8_barn_17 e17 (fun H locs hI => ?_)
  refine lv_aload_n hx hb dX8_barn_20 rfl (lv_at hl 0 rfl) ?_
  refine lv_iconst (v := 0) hx hb dX8_barn_21 (by decide) ?_
  obtain ⟨M22, e22, hf⟩ := xlet_s hf
  refine pf_X8_106 E hI dX8_barn_22 e22 (fun H locs hI => ?_)
  refine lv_aload_n hx hb dX8_barn_25 rfl (lv_at hl 0 rfl) ?_
  obtain ⟨M26, g26, hf⟩ := xb1_s hf
  refine x_callVv (As := []) (rest := []) E hI mx_8_0 rfl rfl rfl (c_X8_reads l G _ (M := M22) (L := L) g26) yv_X8_reads ml_X8_100 (by decide) (by decide) rfl rfl hl.1 (Nat.le_of_ble_eq_true rfl) dX8_barn_26 (fun H locs hI => ?_)
  exact (w_X8_barn_l29 E (M := M) (L := L) FU) M26 hf _ (lv_sub hl [0] rfl) _ _ hI
theorem dX8_asItIs_0 : decode cX8_asItIs 0 = .ok (.aload_n 0, 1) := by decide +kernel
theorem dX8_asItIs_1 : decode cX8_asItIs 1 = .ok (.getfield 47, 3) := by decide +kernel
theorem dX8_asItIs_4 : decode cX8_asItIs 4 = .ok (.iconst 0, 1) := by decide +kernel
theorem dX8_asItIs_5 : decode cX8_asItIs 5 = .ok (.aload_n 0, 1) := by decide +kernel
theorem dX8_asItIs_6 : decode cX8_asItIs 6 = .ok (.getfield 22, 3) := by decide +kernel
theorem dX8_asItIs_9 : decode cX8_asItIs 9 = .ok (.iconst 0, 1) := by decide +kernel
theorem dX8_asItIs_10 : decode cX8_asItIs 10 = .ok (.invokestatic 128, 3) := by decide +kernel
theorem dX8_asItIs_13 : decode cX8_asItIs 13 = .ok (.return_, 1) := by decide +kernel
def f_X8_asItIs (M : xMem) : Option (xMem) := xb1 (f_X8_copy 8 27 27 (0 : Int32) 8 7 27 (0 : Int32) M) (fun M10 => some M10)
set_option maxHeartbeats 4000000 in
set_option maxRecDepth 100000 in
theorem c_X8_asItIs (l : Launch) (G : xG) (sz : Nat) (M : xMem) (L : xLL) {MM : xMem} (hf : f_X8_asItIs M = some MM) : Met l yX8_asItIs (Cond.code yX8_asItIs cX8_asItIs 1 none :: xTB) (xR 2) (xP G M L sz [.ref (xq G 8 0)]) (xQv G MM L sz) 0 0 (xZ G sz) := by
  refine x_met (cc := cX8_asItIs) (nL := 1) (rt := none) (by decide) (Nat.le_of_ble_eq_true rfl) ?_
  intro p e s m below meth c ls hsz E hl hI
  subst hsz
  have E : xE p s m _ meth c cX8_asItIs 1 none RX8 G := E
  have hx := E.1
  have hb := E.2.1
  have hl : lv_has ls 1 [(0, .ref (xq G 8 0))] := hl
  rw [f_X8_asItIs] at hf
  refine lv_aload_n hx hb dX8_asItIs_0 rfl (lv_at hl 0 rfl) ?_
  refine gf_X8_47 E hI dX8_asItIs_1 ?_
  refine lv_iconst (v := 0) hx hb dX8_asItIs_4 (by decide) ?_
  refine lv_aload_n hx hb dX8_asItIs_5 rfl (lv_at hl 0 rfl) ?_
  refine gf_X8_22 E hI dX8_asItIs_6 ?_
  refine lv_iconst (v := 0) hx hb dX8_asItIs_9 (by decide) ?_
  obtain ⟨M10, g10, hf⟩ := xb1_s hf
  refine x_callSv (As := [.ref (xq G 8 27), .int (0 : Int32), .ref (xq G 8 7), .int (0 : Int32)]) (rest := []) E hI (c_X8_copy l G _ (M := M) (L := L) (o0 := 8) (r0 := 27) (n0 := 27) (hm0 := mx_8_27) (hc0 := (fun _ _ => rfl)) (a1 := (0 : Int32)) (o2 := 8) (r2 := 7) (n2 := 27) (hm2 := mx_8_7) (hc2 := (fun _ _ => rfl)) (a3 := (0 : Int32)) g10) ys_X8_copy ml_X8_128 (by decide) (by decide) rfl rfl hl.1 (Nat.le_of_ble_eq_true rfl) dX8_asItIs_10 (fun H locs hI => ?_)
  obtain rfl := xinj1 hf
  exact x_vret E hI dX8_asItIs_13
theorem dX8_seemsAs_0 : decode cX8_seemsAs 0 = .ok (.aload_n 0, 1) := by decide +kernel
theorem dX8_seemsAs_1 : decode cX8_seemsAs 1 = .ok (.getfield 19, 3) := by decide +kernel
theorem dX8_seemsAs_4 : decode cX8_seemsAs 4 = .ok (.iload_n 1, 1) := by decide +kernel
theorem dX8_seemsAs_5 : decode cX8_seemsAs 5 = .ok (.iaload, 1) := by decide +kernel
theorem dX8_seemsAs_6 : decode cX8_seemsAs 6 = .ok (.iconst 2, 1) := by decide +kernel
theorem dX8_seemsAs_7 : decode cX8_seemsAs 7 = .ok (.if_icmp .eq 13, 3) := by decide +kernel
theorem dX8_seemsAs_10 : decode cX8_seemsAs 10 = .ok (.aload_n 0, 1) := by decide +kernel
theorem dX8_seemsAs_11 : decode cX8_seemsAs 11 = .ok (.getfield 19, 3) := by decide +kernel
theorem dX8_seemsAs_14 : decode cX8_seemsAs 14 = .ok (.iload_n 1, 1) := by decide +kernel
theorem dX8_seemsAs_15 : decode cX8_seemsAs 15 = .ok (.iaload, 1) := by decide +kernel
theorem dX8_seemsAs_16 : decode cX8_seemsAs 16 = .ok (.iconst 4, 1) := by decide +kernel
theorem dX8_seemsAs_17 : decode cX8_seemsAs 17 = .ok (.if_icmp .ne 9, 3) := by decide +kernel
theorem dX8_seemsAs_20 : decode cX8_seemsAs 20 = .ok (.iload_n 2, 1) := by decide +kernel
theorem dX8_seemsAs_21 : decode cX8_seemsAs 21 = .ok (.iconst 3, 1) := by decide +kernel
theorem dX8_seemsAs_22 : decode cX8_seemsAs 22 = .ok (.iadd, 1) := by decide +kernel
theorem dX8_seemsAs_23 : decode cX8_seemsAs 23 = .ok (.goto 20, 3) := by decide +kernel
theorem dX8_seemsAs_26 : decode cX8_seemsAs 26 = .ok (.aload_n 0, 1) := by decide +kernel
theorem dX8_seemsAs_27 : decode cX8_seemsAs 27 = .ok (.getfield 19, 3) := by decide +kernel
theorem dX8_seemsAs_30 : decode cX8_seemsAs 30 = .ok (.iload_n 1, 1) := by decide +kernel
theorem dX8_seemsAs_31 : decode cX8_seemsAs 31 = .ok (.iaload, 1) := by decide +kernel
theorem dX8_seemsAs_32 : decode cX8_seemsAs 32 = .ok (.iconst 5, 1) := by decide +kernel
theorem dX8_seemsAs_33 : decode cX8_seemsAs 33 = .ok (.if_icmp .ne 9, 3) := by decide +kernel
theorem dX8_seemsAs_36 : decode cX8_seemsAs 36 = .ok (.iload_n 2, 1) := by decide +kernel
theorem dX8_seemsAs_37 : decode cX8_seemsAs 37 = .ok (.iconst 2, 1) := by decide +kernel
theorem dX8_seemsAs_38 : decode cX8_seemsAs 38 = .ok (.idiv, 1) := by decide +kernel
theorem dX8_seemsAs_39 : decode cX8_seemsAs 39 = .ok (.goto 4, 3) := by decide +kernel
theorem dX8_seemsAs_42 : decode cX8_seemsAs 42 = .ok (.iload_n 2, 1) := by decide +kernel
theorem dX8_seemsAs_43 : decode cX8_seemsAs 43 = .ok (.ireturn, 1) := by decide +kernel
def f_X8_seemsAs_b43 (t43_0 : Int32) : Option (Int32) := some t43_0
def f_X8_seemsAs_b20 (a2 : Int32) (k43 : Int32 → Option (Int32)) : Option (Int32) := k43 (a2 + (3 : Int32))
def f_X8_seemsAs (a1 : Int32) (a2 : Int32) (M : xMem) : Option (Int32) := xchk (xb a1 6) ((if (M 8 6 a1.toNatClampNeg) = (2 : Int32) then (f_X8_seemsAs_b20 a2 (f_X8_seemsAs_b43)) else xchk (xb a1 6) ((if (M 8 6 a1.toNatClampNeg) = (4 : Int32) then (f_X8_seemsAs_b20 a2 (f_X8_seemsAs_b43)) else xchk (xb a1 6) ((if (M 8 6 a1.toNatClampNeg) = (5 : Int32) then (f_X8_seemsAs_b43) (a2 / (2 : Int32)) else (f_X8_seemsAs_b43) a2))))))
set_option maxHeartbeats 4000000 in
set_option maxRecDepth 100000 in
theorem w_X8_seemsAs_b43 {p : Program} {l : Launch} {e : Env} {s : State} {m : MethodId} {args : Array Value} {below : List Frame} {meth : Method} {c : Code} {G : xG} {rr : Int32} (E : xE p s m args meth c cX8_seemsAs 3 (some .int) RX8 G) (M : xMem) (L : xLL) : ∀ (t43_0 : Int32), f_X8_seemsAs_b43 t43_0 = some rr → ∀ (ls : Array Slot), lv_has ls 3 [] → ∀ (H : Heap) (locs : List Loc), xI G M L s.heap H locs → W p l e (xR 1) s m args below meth c H locs 0 0 (MQ below (xQi G rr M L s.heap.size) args s 0 0 (xZ G s.heap.size)) (F0 m 43 ls [.int t43_0]) := by
  have hx := E.1
  have hb := E.2.1
  intro t43_0 hf ls hl H locs hI
  rw [f_X8_seemsAs_b43] at hf
  obtain rfl := xinj1 hf
  exact x_iret E hI rfl dX8_seemsAs_43
set_option maxHeartbeats 4000000 in
set_option maxRecDepth 100000 in
theorem w_X8_seemsAs_b20 {p : Program} {l : Launch} {e : Env} {s : State} {m : MethodId} {args : Array Value} {below : List Frame} {meth : Method} {c : Code} {G : xG} {rr : Int32} (E : xE p s m args meth c cX8_seemsAs 3 (some .int) RX8 G) (a2 : Int32) (M : xMem) (L : xLL) (k43 : Int32 → Option (Int32)) (hk43 : ∀ (t43_0 : Int32), k43 t43_0 = some rr → ∀ (ls : Array Slot), lv_has ls 3 [] → ∀ (H : Heap) (locs : List Loc), xI G M L s.heap H locs → W p l e (xR 1) s m args below meth c H locs 0 0 (MQ below (xQi G rr M L s.heap.size) args s 0 0 (xZ G s.heap.size)) (F0 m 43 ls [.int t43_0])) : f_X8_seemsAs_b20 a2 k43  = some rr → ∀ (ls : Array Slot), lv_has ls 3 [(2, .int a2)] → ∀ (H : Heap) (locs : List Loc), xI G M L s.heap H locs → W p l e (xR 1) s m args below meth c H locs 0 0 (MQ below (xQi G rr M L s.heap.size) args s 0 0 (xZ G s.heap.size)) (F0 m 20 ls []) := by
  have hx := E.1
  have hb := E.2.1
  intro  hf ls hl H locs hI
  rw [f_X8_seemsAs_b20] at hf
  refine lv_iload_n hx hb dX8_seemsAs_20 rfl (lv_at hl 0 rfl) ?_
  refine lv_iconst (v := 3) hx hb dX8_seemsAs_21 (by decide) ?_
  refine lv_iadd hx hb dX8_seemsAs_22 ?_
  refine lv_goto (tgt := 43) hx hb dX8_seemsAs_23 (by decide) ?_
  exact hk43 (a2 + (3 : Int32)) hf _ (lv_sub hl [] rfl) _ _ hI
set_option maxHeartbeats 4000000 in
set_option maxRecDepth 100000 in
theorem c_X8_seemsAs (l : Launch) (G : xG) (sz : Nat) (M : xMem) (L : xLL) (a1 : Int32) (a2 : Int32) {rr : Int32} (hf : f_X8_seemsAs a1 a2 M = some rr) : Met l yX8_seemsAs (Cond.code yX8_seemsAs cX8_seemsAs 3 (some .int) :: xTB) (xR 1) (xP G M L sz [.ref (xq G 8 0), .int a1, .int a2]) (xQi G rr M L sz) 0 0 (xZ G sz) := by
  refine x_met (cc := cX8_seemsAs) (nL := 3) (rt := (some .int)) (by decide) (Nat.le_of_ble_eq_true rfl) ?_
  intro p e s m below meth c ls hsz E hl hI
  subst hsz
  have E : xE p s m _ meth c cX8_seemsAs 3 (some .int) RX8 G := E
  have hx := E.1
  have hb := E.2.1
  have hl : lv_has ls 3 [(0, .ref (xq G 8 0)), (1, .int a1), (2, .int a2)] := hl
  rw [f_X8_seemsAs] at hf
  refine lv_aload_n hx hb dX8_seemsAs_0 rfl (lv_at hl 0 rfl) ?_
  refine gf_X8_19 E hI dX8_seemsAs_1 ?_
  refine lv_iload_n hx hb dX8_seemsAs_4 rfl (lv_at hl 1 rfl) ?_
  obtain ⟨h5b, hf⟩ := xchk_s hf
  refine x_iald (n := 6) E hI mx_8_6 (fun _ _ => rfl) h5b dX8_seemsAs_5 ?_
  refine lv_iconst (v := 2) hx hb dX8_seemsAs_6 (by decide) ?_
  refine lv_icmp_eq (tgt := 20) hx hb dX8_seemsAs_7 (by decide) (fun c7 => ?_) (fun c7 => ?_)
  · replace hf := xif_t c7 hf
    exact (w_X8_seemsAs_b20 E (a2 := a2) (M := M) (L := L) (k43 := (f_X8_seemsAs_b43)) (hk43 := (w_X8_seemsAs_b43 E (M := M) (L := L))))  hf _ (lv_sub hl [2] rfl) _ _ hI
  · replace hf := xif_f c7 hf
    refine lv_aload_n hx hb dX8_seemsAs_10 rfl (lv_at hl 0 rfl) ?_
    refine gf_X8_19 E hI dX8_seemsAs_11 ?_
    refine lv_iload_n hx hb dX8_seemsAs_14 rfl (lv_at hl 1 rfl) ?_
    obtain ⟨h15b, hf⟩ := xchk_s hf
    refine x_iald (n := 6) E hI mx_8_6 (fun _ _ => rfl) h15b dX8_seemsAs_15 ?_
    refine lv_iconst (v := 4) hx hb dX8_seemsAs_16 (by decide) ?_
    refine lv_icmp_ne (tgt := 26) hx hb dX8_seemsAs_17 (by decide) (fun c17 => ?_) (fun c17 => ?_)
    · replace hf := xif_f c17 hf
      refine lv_aload_n hx hb dX8_seemsAs_26 rfl (lv_at hl 0 rfl) ?_
      refine gf_X8_19 E hI dX8_seemsAs_27 ?_
      refine lv_iload_n hx hb dX8_seemsAs_30 rfl (lv_at hl 1 rfl) ?_
      obtain ⟨h31b, hf⟩ := xchk_s hf
      refine x_iald (n := 6) E hI mx_8_6 (fun _ _ => rfl) h31b dX8_seemsAs_31 ?_
      refine lv_iconst (v := 5) hx hb dX8_seemsAs_32 (by decide) ?_
      refine lv_icmp_ne (tgt := 42) hx hb dX8_seemsAs_33 (by decide) (fun c33 => ?_) (fun c33 => ?_)
      · replace hf := xif_f c33 hf
        refine lv_iload_n hx hb dX8_seemsAs_42 rfl (lv_at hl 2 rfl) ?_
        exact (w_X8_seemsAs_b43 E (M := M) (L := L)) a2 hf _ (lv_sub hl [] rfl) _ _ hI
      · replace hf := xif_t c33 hf
        refine lv_iload_n hx hb dX8_seemsAs_36 rfl (lv_at hl 2 rfl) ?_
        refine lv_iconst (v := 2) hx hb dX8_seemsAs_37 (by decide) ?_
        refine lv_idiv hx hb dX8_seemsAs_38 (by decide) ?_
        refine lv_goto (tgt := 43) hx hb dX8_seemsAs_39 (by decide) ?_
        exact (w_X8_seemsAs_b43 E (M := M) (L := L)) (a2 / (2 : Int32)) hf _ (lv_sub hl [] rfl) _ _ hI
    · replace hf := xif_t c17 hf
      exact (w_X8_seemsAs_b20 E (a2 := a2) (M := M) (L := L) (k43 := (f_X8_seemsAs_b43)) (hk43 := (w_X8_seemsAs_b43 E (M := M) (L := L))))  hf _ (lv_sub hl [2] rfl) _ _ hI
theorem dX8_stiffOf_0 : decode cX8_stiffOf 0 = .ok (.aload_n 0, 1) := by decide +kernel
theorem dX8_stiffOf_1 : decode cX8_stiffOf 1 = .ok (.getfield 13, 3) := by decide +kernel
theorem dX8_stiffOf_4 : decode cX8_stiffOf 4 = .ok (.iload_n 1, 1) := by decide +kernel
theorem dX8_stiffOf_5 : decode cX8_stiffOf 5 = .ok (.iaload, 1) := by decide +kernel
theorem dX8_stiffOf_6 : decode cX8_stiffOf 6 = .ok (.ifCond .ne 7, 3) := by decide +kernel
theorem dX8_stiffOf_9 : decode cX8_stiffOf 9 = .ok (.iconst 0, 1) := by decide +kernel
theorem dX8_stiffOf_10 : decode cX8_stiffOf 10 = .ok (.goto 19, 3) := by decide +kernel
theorem dX8_stiffOf_13 : decode cX8_stiffOf 13 = .ok (.aload_n 0, 1) := by decide +kernel
theorem dX8_stiffOf_14 : decode cX8_stiffOf 14 = .ok (.getfield 47, 3) := by decide +kernel
theorem dX8_stiffOf_17 : decode cX8_stiffOf 17 = .ok (.bipush 22, 2) := by decide +kernel
theorem dX8_stiffOf_19 : decode cX8_stiffOf 19 = .ok (.iload_n 1, 1) := by decide +kernel
theorem dX8_stiffOf_20 : decode cX8_stiffOf 20 = .ok (.iadd, 1) := by decide +kernel
theorem dX8_stiffOf_21 : decode cX8_stiffOf 21 = .ok (.iaload, 1) := by decide +kernel
theorem dX8_stiffOf_22 : decode cX8_stiffOf 22 = .ok (.aload_n 0, 1) := by decide +kernel
theorem dX8_stiffOf_23 : decode cX8_stiffOf 23 = .ok (.getfield 13, 3) := by decide +kernel
theorem dX8_stiffOf_26 : decode cX8_stiffOf 26 = .ok (.iload_n 1, 1) := by decide +kernel
theorem dX8_stiffOf_27 : decode cX8_stiffOf 27 = .ok (.iaload, 1) := by decide +kernel
theorem dX8_stiffOf_28 : decode cX8_stiffOf 28 = .ok (.idiv, 1) := by decide +kernel
theorem dX8_stiffOf_29 : decode cX8_stiffOf 29 = .ok (.ireturn, 1) := by decide +kernel
def f_X8_stiffOf_b29 (t29_0 : Int32) : Option (Int32) := some t29_0
def f_X8_stiffOf (a1 : Int32) (M : xMem) : Option (Int32) := xchk (xb a1 5) ((if (M 8 3 a1.toNatClampNeg) = (0 : Int32) then (f_X8_stiffOf_b29) (0 : Int32) else xchk (xb ((22 : Int32) + a1) 27) (xchk (xb a1 5) (xchk (xnz (M 8 3 a1.toNatClampNeg)) ((f_X8_stiffOf_b29) ((M 8 27 ((22 : Int32) + a1).toNatClampNeg) / (M 8 3 a1.toNatClampNeg)))))))
set_option maxHeartbeats 4000000 in
set_option maxRecDepth 100000 in
theorem w_X8_stiffOf_b29 {p : Program} {l : Launch} {e : Env} {s : State} {m : MethodId} {args : Array Value} {below : List Frame} {meth : Method} {c : Code} {G : xG} {rr : Int32} (E : xE p s m args meth c cX8_stiffOf 2 (some .int) RX8 G) (M : xMem) (L : xLL) : ∀ (t29_0 : Int32), f_X8_stiffOf_b29 t29_0 = some rr → ∀ (ls : Array Slot), lv_has ls 2 [] → ∀ (H : Heap) (locs : List Loc), xI G M L s.heap H locs → W p l e (xR 1) s m args below meth c H locs 0 0 (MQ below (xQi G rr M L s.heap.size) args s 0 0 (xZ G s.heap.size)) (F0 m 29 ls [.int t29_0]) := by
  have hx := E.1
  have hb := E.2.1
  intro t29_0 hf ls hl H locs hI
  rw [f_X8_stiffOf_b29] at hf
  obtain rfl := xinj1 hf
  exact x_iret E hI rfl dX8_stiffOf_29
set_option maxHeartbeats 4000000 in
set_option maxRecDepth 100000 in
theorem c_X8_stiffOf (l : Launch) (G : xG) (sz : Nat) (M : xMem) (L : xLL) (a1 : Int32) {rr : Int32} (hf : f_X8_stiffOf a1 M = some rr) : Met l yX8_stiffOf (Cond.code yX8_stiffOf cX8_stiffOf 2 (some .int) :: xTB) (xR 1) (xP G M L sz [.ref (xq G 8 0), .int a1]) (xQi G rr M L sz) 0 0 (xZ G sz) := by
  refine x_met (cc := cX8_stiffOf) (nL := 2) (rt := (some .int)) (by decide) (Nat.le_of_ble_eq_true rfl) ?_
  intro p e s m below meth c ls hsz E hl hI
  subst hsz
  have E : xE p s m _ meth c cX8_stiffOf 2 (some .int) RX8 G := E
  have hx := E.1
  have hb := E.2.1
  have hl : lv_has ls 2 [(0, .ref (xq G 8 0)), (1, .int a1)] := hl
  rw [f_X8_stiffOf] at hf
  refine lv_aload_n hx hb dX8_stiffOf_0 rfl (lv_at hl 0 rfl) ?_
  refine gf_X8_13 E hI dX8_stiffOf_1 ?_
  refine lv_iload_n hx hb dX8_stiffOf_4 rfl (lv_at hl 1 rfl) ?_
  obtain ⟨h5b, hf⟩ := xchk_s hf
  refine x_iald (n := 5) E hI mx_8_3 (fun _ _ => rfl) h5b dX8_stiffOf_5 ?_
  refine lv_if_ne (tgt := 13) hx hb dX8_stiffOf_6 (by decide) (fun c6 => ?_) (fun c6 => ?_)
  · replace hf := xif_f c6 hf
    refine lv_aload_n hx hb dX8_stiffOf_13 rfl (lv_at hl 0 rfl) ?_
    refine gf_X8_47 E hI dX8_stiffOf_14 ?_
    refine lv_bipush (v := 22) hx hb dX8_stiffOf_17 (by decide) ?_
    refine lv_iload_n hx hb dX8_stiffOf_19 rfl (lv_at hl 1 rfl) ?_
    refine lv_iadd hx hb dX8_stiffOf_20 ?_
    obtain ⟨h21b, hf⟩ := xchk_s hf
    refine x_iald (n := 27) E hI mx_8_27 (fun _ _ => rfl) h21b dX8_stiffOf_21 ?_
    refine lv_aload_n hx hb dX8_stiffOf_22 rfl (lv_at hl 0 rfl) ?_
    refine gf_X8_13 E hI dX8_stiffOf_23 ?_
    refine lv_iload_n hx hb dX8_stiffOf_26 rfl (lv_at hl 1 rfl) ?_
    obtain ⟨h27b, hf⟩ := xchk_s hf
    refine x_iald (n := 5) E hI mx_8_3 (fun _ _ => rfl) h27b dX8_stiffOf_27 ?_
    obtain ⟨h28z, hf⟩ := xchk_s hf
    refine lv_idiv hx hb dX8_stiffOf_28 (xnz_s h28z) ?_
    exact (w_X8_stiffOf_b29 E (M := M) (L := L)) ((M 8 27 ((22 : Int32) + a1).toNatClampNeg) / (M 8 3 a1.toNatClampNeg)) hf _ (lv_sub hl [] rfl) _ _ hI
  · replace hf := xif_t c6 hf
    refine lv_iconst (v := 0) hx hb dX8_stiffOf_9 (by decide) ?_
    refine lv_goto (tgt := 29) hx hb dX8_stiffOf_10 (by decide) ?_
    exact (w_X8_stiffOf_b29 E (M := M) (L := L)) (0 : Int32) hf _ (lv_sub hl [] rfl) _ _ hI
theorem dX8_inPlace_0 : decode cX8_inPlace 0 = .ok (.iconst 0, 1) := by decide +kernel
theorem dX8_inPlace_1 : decode cX8_inPlace 1 = .ok (.istore_n 2, 1) := by decide +kernel
theorem dX8_inPlace_2 : decode cX8_inPlace 2 = .ok (.iconst 0, 1) := by decide +kernel
theorem dX8_inPlace_3 : decode cX8_inPlace 3 = .ok (.istore_n 3, 1) := by decide +kernel
theorem dX8_inPlace_4 : decode cX8_inPlace 4 = .ok (.iload_n 3, 1) := by decide +kernel
theorem dX8_inPlace_5 : decode cX8_inPlace 5 = .ok (.aload_n 0, 1) := by decide +kernel
theorem dX8_inPlace_6 : decode cX8_inPlace 6 = .ok (.getfield 70, 3) := by decide +kernel
theorem dX8_inPlace_9 : decode cX8_inPlace 9 = .ok (.if_icmp .ge 31, 3) := by decide +kernel
theorem dX8_inPlace_12 : decode cX8_inPlace 12 = .ok (.iload_n 2, 1) := by decide +kernel
theorem dX8_inPlace_13 : decode cX8_inPlace 13 = .ok (.aload_n 0, 1) := by decide +kernel
theorem dX8_inPlace_14 : decode cX8_inPlace 14 = .ok (.getfield 47, 3) := by decide +kernel
theorem dX8_inPlace_17 : decode cX8_inPlace 17 = .ok (.iconst 0, 1) := by decide +kernel
theorem dX8_inPlace_18 : decode cX8_inPlace 18 = .ok (.iload_n 3, 1) := by decide +kernel
theorem dX8_inPlace_19 : decode cX8_inPlace 19 = .ok (.iadd, 1) := by decide +kernel
theorem dX8_inPlace_20 : decode cX8_inPlace 20 = .ok (.iaload, 1) := by decide +kernel
theorem dX8_inPlace_21 : decode cX8_inPlace 21 = .ok (.iload_n 1, 1) := by decide +kernel
theorem dX8_inPlace_22 : decode cX8_inPlace 22 = .ok (.if_icmp .ne 9, 3) := by decide +kernel
theorem dX8_inPlace_25 : decode cX8_inPlace 25 = .ok (.iconst 1, 1) := by decide +kernel
theorem dX8_inPlace_26 : decode cX8_inPlace 26 = .ok (.iload_n 3, 1) := by decide +kernel
theorem dX8_inPlace_27 : decode cX8_inPlace 27 = .ok (.ishl, 1) := by decide +kernel
theorem dX8_inPlace_28 : decode cX8_inPlace 28 = .ok (.goto 4, 3) := by decide +kernel
theorem dX8_inPlace_31 : decode cX8_inPlace 31 = .ok (.iconst 0, 1) := by decide +kernel
theorem dX8_inPlace_32 : decode cX8_inPlace 32 = .ok (.ior, 1) := by decide +kernel
theorem dX8_inPlace_33 : decode cX8_inPlace 33 = .ok (.istore_n 2, 1) := by decide +kernel
theorem dX8_inPlace_34 : decode cX8_inPlace 34 = .ok (.iinc 3 1, 3) := by decide +kernel
theorem dX8_inPlace_37 : decode cX8_inPlace 37 = .ok (.goto (-33), 3) := by decide +kernel
theorem dX8_inPlace_40 : decode cX8_inPlace 40 = .ok (.iload_n 2, 1) := by decide +kernel
theorem dX8_inPlace_41 : decode cX8_inPlace 41 = .ok (.ireturn, 1) := by decide +kernel
def f_X8_inPlace_b32 (v4_2 : Int32) (v4_3 : Int32) (k4 : Int32 → Int32 → Option (Int32)) (t32_0 : Int32) : Option (Int32) := k4 (v4_2 ||| t32_0) (v4_3 + (1 : Int32))
def f_X8_inPlace_l4 (a1 : Int32) (M : xMem) : Nat → Int32 → Int32 → Option (Int32)
  | 0, _, _ => none
  | n + 1, v4_2, v4_3 => (if (M 8 0 4) ≤ v4_3 then some v4_2 else xchk (xb ((0 : Int32) + v4_3) 27) ((if (M 8 27 ((0 : Int32) + v4_3).toNatClampNeg) = a1 then (f_X8_inPlace_b32 v4_2 v4_3 (f_X8_inPlace_l4 a1 M n)) ((1 : Int32) <<< (v4_3 &&& 31)) else (f_X8_inPlace_b32 v4_2 v4_3 (f_X8_inPlace_l4 a1 M n)) (0 : Int32))))
def f_X8_inPlace (a1 : Int32) (M : xMem) : Option (Int32) := (f_X8_inPlace_l4 a1 M FU) (0 : Int32) (0 : Int32)
set_option maxHeartbeats 4000000 in
set_option maxRecDepth 100000 in
theorem w_X8_inPlace_b32 {p : Program} {l : Launch} {e : Env} {s : State} {m : MethodId} {args : Array Value} {below : List Frame} {meth : Method} {c : Code} {G : xG} {rr : Int32} (E : xE p s m args meth c cX8_inPlace 4 (some .int) RX8 G) (a1 : Int32) (M : xMem) (L : xLL) (v4_2 : Int32) (v4_3 : Int32) (k4 : Int32 → Int32 → Option (Int32)) (hk4 : ∀ (v4_2 : Int32) (v4_3 : Int32), k4 v4_2 v4_3 = some rr → ∀ (ls : Array Slot), lv_has ls 4 [(0, .ref (xq G 8 0)), (1, .int a1), (2, .int v4_2), (3, .int v4_3)] → ∀ (H : Heap) (locs : List Loc), xI G M L s.heap H locs → W p l e (xR 1) s m args below meth c H locs 0 0 (MQ below (xQi G rr M L s.heap.size) args s 0 0 (xZ G s.heap.size)) (F0 m 4 ls [])) : ∀ (t32_0 : Int32), f_X8_inPlace_b32 v4_2 v4_3 k4 t32_0 = some rr → ∀ (ls : Array Slot), lv_has ls 4 [(0, .ref (xq G 8 0)), (1, .int a1), (3, .int v4_3)] → ∀ (H : Heap) (locs : List Loc), xI G M L s.heap H locs → W p l e (xR 1) s m args below meth c H locs 0 0 (MQ below (xQi G rr M L s.heap.size) args s 0 0 (xZ G s.heap.size)) (F0 m 32 ls [.int t32_0, .int v4_2]) := by
  have hx := E.1
  have hb := E.2.1
  intro t32_0 hf ls hl H locs hI
  rw [f_X8_inPlace_b32] at hf
  refine lv_ior hx hb dX8_inPlace_32 ?_
  refine lv_istore_n (lv' := [(2, .int (v4_2 ||| t32_0)), (0, .ref (xq G 8 0)), (1, .int a1), (3, .int v4_3)]) hx hb dX8_inPlace_33 rfl hl (by decide) rfl (fun ls hl => ?_)
  refine lv_iinc (v := (v4_3 + (1 : Int32))) (lv' := [(3, .int (v4_3 + (1 : Int32))), (2, .int (v4_2 ||| t32_0)), (0, .ref (xq G 8 0)), (1, .int a1)]) hx hb dX8_inPlace_34 hl (k := 3) rfl rfl (by decide) rfl (fun ls hl => ?_)
  refine lv_goto (tgt := 4) hx hb dX8_inPlace_37 (by decide) ?_
  exact hk4 (v4_2 ||| t32_0) (v4_3 + (1 : Int32)) hf _ (lv_sub hl [2, 3, 1, 0] rfl) _ _ hI
set_option maxHeartbeats 4000000 in
set_option maxRecDepth 100000 in
theorem w_X8_inPlace_l4 {p : Program} {l : Launch} {e : Env} {s : State} {m : MethodId} {args : Array Value} {below : List Frame} {meth : Method} {c : Code} {G : xG} {rr : Int32} (E : xE p s m args meth c cX8_inPlace 4 (some .int) RX8 G) (a1 : Int32) (M : xMem) (L : xLL) : ∀ (n : Nat), ∀ (v4_2 : Int32) (v4_3 : Int32), f_X8_inPlace_l4 a1 M n v4_2 v4_3 = some rr → ∀ (ls : Array Slot), lv_has ls 4 [(0, .ref (xq G 8 0)), (1, .int a1), (2, .int v4_2), (3, .int v4_3)] → ∀ (H : Heap) (locs : List Loc), xI G M L s.heap H locs → W p l e (xR 1) s m args below meth c H locs 0 0 (MQ below (xQi G rr M L s.heap.size) args s 0 0 (xZ G s.heap.size)) (F0 m 4 ls []) := by
  have hx := E.1
  have hb := E.2.1
  intro n
  induction n with
  | zero =>
    intro v4_2 v4_3 hf
    exact absurd hf (by simp [f_X8_inPlace_l4])
  | succ n ih =>
    intro v4_2 v4_3 hf ls hl H locs hI
    rw [f_X8_inPlace_l4] at hf
    refine lv_iload_n hx hb dX8_inPlace_4 rfl (lv_at hl 3 rfl) ?_
    refine lv_aload_n hx hb dX8_inPlace_5 rfl (lv_at hl 0 rfl) ?_
    refine gf_X8_70 E hI dX8_inPlace_6 ?_
    refine lv_icmp_ge (tgt := 40) hx hb dX8_inPlace_9 (by decide) (fun c9 => ?_) (fun c9 => ?_)
    · replace hf := xif_t c9 hf
      refine lv_iload_n hx hb dX8_inPlace_40 rfl (lv_at hl 2 rfl) ?_
      obtain rfl := xinj1 hf
      exact x_iret E hI rfl dX8_inPlace_41
    · replace hf := xif_f c9 hf
      refine lv_iload_n hx hb dX8_inPlace_12 rfl (lv_at hl 2 rfl) ?_
      refine lv_aload_n hx hb dX8_inPlace_13 rfl (lv_at hl 0 rfl) ?_
      refine gf_X8_47 E hI dX8_inPlace_14 ?_
      refine lv_iconst (v := 0) hx hb dX8_inPlace_17 (by decide) ?_
      refine lv_iload_n hx hb dX8_inPlace_18 rfl (lv_at hl 3 rfl) ?_
      refine lv_iadd hx hb dX8_inPlace_19 ?_
      obtain ⟨h20b, hf⟩ := xchk_s hf
      refine x_iald (n := 27) E hI mx_8_27 (fun _ _ => rfl) h20b dX8_inPlace_20 ?_
      refine lv_iload_n hx hb dX8_inPlace_21 rfl (lv_at hl 1 rfl) ?_
      refine lv_icmp_ne (tgt := 31) hx hb dX8_inPlace_22 (by decide) (fun c22 => ?_) (fun c22 => ?_)
      · replace hf := xif_f c22 hf
        refine lv_iconst (v := 0) hx hb dX8_inPlace_31 (by decide) ?_
        exact (w_X8_inPlace_b32 E (a1 := a1) (M := M) (L := L) (v4_2 := v4_2) (v4_3 := v4_3) (k4 := (f_X8_inPlace_l4 a1 M n)) (hk4 := ih)) (0 : Int32) hf _ (lv_sub hl [0, 1, 3] rfl) _ _ hI
      · replace hf := xif_t c22 hf
        refine lv_iconst (v := 1) hx hb dX8_inPlace_25 (by decide) ?_
        refine lv_iload_n hx hb dX8_inPlace_26 rfl (lv_at hl 3 rfl) ?_
        refine lv_ishl hx hb dX8_inPlace_27 ?_
        refine lv_goto (tgt := 32) hx hb dX8_inPlace_28 (by decide) ?_
        exact (w_X8_inPlace_b32 E (a1 := a1) (M := M) (L := L) (v4_2 := v4_2) (v4_3 := v4_3) (k4 := (f_X8_inPlace_l4 a1 M n)) (hk4 := ih)) ((1 : Int32) <<< (v4_3 &&& 31)) hf _ (lv_sub hl [0, 1, 3] rfl) _ _ hI
set_option maxHeartbeats 4000000 in
set_option maxRecDepth 100000 in
theorem c_X8_inPlace (l : Launch) (G : xG) (sz : Nat) (M : xMem) (L : xLL) (a1 : Int32) {rr : Int32} (hf : f_X8_inPlace a1 M = some rr) : Met l yX8_inPlace (Cond.code yX8_inPlace cX8_inPlace 4 (some .int) :: xTB) (xR 1) (xP G M L sz [.ref (xq G 8 0), .int a1]) (xQi G rr M L sz) 0 0 (xZ G sz) := by
  refine x_met (cc := cX8_inPlace) (nL := 4) (rt := (some .int)) (by decide) (Nat.le_of_ble_eq_true rfl) ?_
  intro p e s m below meth c ls hsz E hl hI
  subst hsz
  have E : xE p s m _ meth c cX8_inPlace 4 (some .int) RX8 G := E
  have hx := E.1
  have hb := E.2.1
  have hl : lv_has ls 4 [(0, .ref (xq G 8 0)), (1, .int a1)] := hl
  rw [f_X8_inPlace] at hf
  refine lv_iconst (v := 0) hx hb dX8_inPlace_0 (by decide) ?_
  refine lv_istore_n (lv' := [(2, .int (0 : Int32)), (0, .ref (xq G 8 0)), (1, .int a1)]) hx hb dX8_inPlace_1 rfl hl (by decide) rfl (fun ls hl => ?_)
  refine lv_iconst (v := 0) hx hb dX8_inPlace_2 (by decide) ?_
  refine lv_istore_n (lv' := [(3, .int (0 : Int32)), (2, .int (0 : Int32)), (0, .ref (xq G 8 0)), (1, .int a1)]) hx hb dX8_inPlace_3 rfl hl (by decide) rfl (fun ls hl => ?_)
  exact (w_X8_inPlace_l4 E (a1 := a1) (M := M) (L := L) FU) (0 : Int32) (0 : Int32) hf _ (lv_sub hl [2, 3, 1, 0] rfl) _ _ hI
theorem dX8_isFull_0 : decode cX8_isFull 0 = .ok (.aload_n 0, 1) := by decide +kernel
theorem dX8_isFull_1 : decode cX8_isFull 1 = .ok (.iconst 1, 1) := by decide +kernel
theorem dX8_isFull_2 : decode cX8_isFull 2 = .ok (.iload_n 1, 1) := by decide +kernel
theorem dX8_isFull_3 : decode cX8_isFull 3 = .ok (.iadd, 1) := by decide +kernel
theorem dX8_isFull_4 : decode cX8_isFull 4 = .ok (.invokevirtual 132, 3) := by decide +kernel
theorem dX8_isFull_7 : decode cX8_isFull 7 = .ok (.invokestatic 135, 3) := by decide +kernel
theorem dX8_isFull_10 : decode cX8_isFull 10 = .ok (.aload_n 0, 1) := by decide +kernel
theorem dX8_isFull_11 : decode cX8_isFull 11 = .ok (.getfield 16, 3) := by decide +kernel
theorem dX8_isFull_14 : decode cX8_isFull 14 = .ok (.iload_n 1, 1) := by decide +kernel
theorem dX8_isFull_15 : decode cX8_isFull 15 = .ok (.iaload, 1) := by decide +kernel
theorem dX8_isFull_16 : decode cX8_isFull 16 = .ok (.if_icmp .lt 7, 3) := by decide +kernel
theorem dX8_isFull_19 : decode cX8_isFull 19 = .ok (.iconst 1, 1) := by decide +kernel
theorem dX8_isFull_20 : decode cX8_isFull 20 = .ok (.goto 4, 3) := by decide +kernel
theorem dX8_isFull_23 : decode cX8_isFull 23 = .ok (.iconst 0, 1) := by decide +kernel
theorem dX8_isFull_24 : decode cX8_isFull 24 = .ok (.ireturn, 1) := by decide +kernel
def f_X8_isFull_b24 (t24_0 : Int32) : Option (Int32) := xchk (xbo t24_0) (some t24_0)
def f_X8_isFull (a1 : Int32) (M : xMem) : Option (Int32) := xb1 (f_X8_inPlace ((1 : Int32) + a1) M) (fun r4 => xb1 (f_X8_bits r4 M) (fun r7 => xchk (xb a1 5) ((if r7 < (M 8 4 a1.toNatClampNeg) then (f_X8_isFull_b24) (0 : Int32) else (f_X8_isFull_b24) (1 : Int32)))))
set_option maxHeartbeats 4000000 in
set_option maxRecDepth 100000 in
theorem w_X8_isFull_b24 {p : Program} {l : Launch} {e : Env} {s : State} {m : MethodId} {args : Array Value} {below : List Frame} {meth : Method} {c : Code} {G : xG} {rr : Int32} (E : xE p s m args meth c cX8_isFull 2 (some .boolean) RX8 G) (M : xMem) (L : xLL) : ∀ (t24_0 : Int32), f_X8_isFull_b24 t24_0 = some rr → ∀ (ls : Array Slot), lv_has ls 2 [] → ∀ (H : Heap) (locs : List Loc), xI G M L s.heap H locs → W p l e (xR 2) s m args below meth c H locs 0 0 (MQ below (xQi G rr M L s.heap.size) args s 0 0 (xZ G s.heap.size)) (F0 m 24 ls [.int t24_0]) := by
  have hx := E.1
  have hb := E.2.1
  intro t24_0 hf ls hl H locs hI
  rw [f_X8_isFull_b24] at hf
  obtain ⟨h24n, hf⟩ := xchk_s hf
  obtain rfl := xinj1 hf
  exact x_zret E hI (xbo_s h24n) rfl dX8_isFull_24
set_option maxHeartbeats 4000000 in
set_option maxRecDepth 100000 in
theorem c_X8_isFull (l : Launch) (G : xG) (sz : Nat) (M : xMem) (L : xLL) (a1 : Int32) {rr : Int32} (hf : f_X8_isFull a1 M = some rr) : Met l yX8_isFull (Cond.code yX8_isFull cX8_isFull 2 (some .boolean) :: xTB) (xR 2) (xP G M L sz [.ref (xq G 8 0), .int a1]) (xQi G rr M L sz) 0 0 (xZ G sz) := by
  refine x_met (cc := cX8_isFull) (nL := 2) (rt := (some .boolean)) (by decide) (Nat.le_of_ble_eq_true rfl) ?_
  intro p e s m below meth c ls hsz E hl hI
  subst hsz
  have E : xE p s m _ meth c cX8_isFull 2 (some .boolean) RX8 G := E
  have hx := E.1
  have hb := E.2.1
  have hl : lv_has ls 2 [(0, .ref (xq G 8 0)), (1, .int a1)] := hl
  rw [f_X8_isFull] at hf
  refine lv_aload_n hx hb dX8_isFull_0 rfl (lv_at hl 0 rfl) ?_
  refine lv_iconst (v := 1) hx hb dX8_isFull_1 (by decide) ?_
  refine lv_iload_n hx hb dX8_isFull_2 rfl (lv_at hl 1 rfl) ?_
  refine lv_iadd hx hb dX8_isFull_3 ?_
  obtain ⟨r4, g4, hf⟩ := xb1_s hf
  refine x_callVi (As := [.int ((1 : Int32) + a1)]) (rest := []) E hI mx_8_0 rfl rfl rfl (c_X8_inPlace l G _ (M := M) (L := L) (a1 := ((1 : Int32) + a1)) g4) yv_X8_inPlace ml_X8_132 (by decide) (by decide) rfl rfl hl.1 (Nat.le_of_ble_eq_true rfl) dX8_isFull_4 (fun H locs hI => ?_)
  obtain ⟨r7, g7, hf⟩ := xb1_s hf
  refine x_callSi (As := [.int r4]) (rest := []) E hI (c_X8_bits l G _ (M := M) (L := L) (a0 := r4) g7) ys_X8_bits ml_X8_135 (by decide) (by decide) rfl rfl hl.1 (Nat.le_of_ble_eq_true rfl) dX8_isFull_7 (fun H locs hI => ?_)
  refine lv_aload_n hx hb dX8_isFull_10 rfl (lv_at hl 0 rfl) ?_
  refine gf_X8_16 E hI dX8_isFull_11 ?_
  refine lv_iload_n hx hb dX8_isFull_14 rfl (lv_at hl 1 rfl) ?_
  obtain ⟨h15b, hf⟩ := xchk_s hf
  refine x_iald (n := 5) E hI mx_8_4 (fun _ _ => rfl) h15b dX8_isFull_15 ?_
  refine lv_icmp_lt (tgt := 23) hx hb dX8_isFull_16 (by decide) (fun c16 => ?_) (fun c16 => ?_)
  · replace hf := xif_t c16 hf
    refine lv_iconst (v := 0) hx hb dX8_isFull_23 (by decide) ?_
    exact (w_X8_isFull_b24 E (M := M) (L := L)) (0 : Int32) hf _ (lv_sub hl [] rfl) _ _ hI
  · replace hf := xif_f c16 hf
    refine lv_iconst (v := 1) hx hb dX8_isFull_19 (by decide) ?_
    refine lv_goto (tgt := 24) hx hb dX8_isFull_20 (by decide) ?_
    exact (w_X8_isFull_b24 E (M := M) (L := L)) (1 : Int32) hf _ (lv_sub hl [] rfl) _ _ hI
theorem dX8_lighter_0 : decode cX8_lighter 0 = .ok (.aload_n 0, 1) := by decide +kernel
theorem dX8_lighter_1 : decode cX8_lighter 1 = .ok (.getfield 19, 3) := by decide +kernel
theorem dX8_lighter_4 : decode cX8_lighter 4 = .ok (.iload_n 1, 1) := by decide +kernel
theorem dX8_lighter_5 : decode cX8_lighter 5 = .ok (.iaload, 1) := by decide +kernel
theorem dX8_lighter_6 : decode cX8_lighter 6 = .ok (.iconst 3, 1) := by decide +kernel
theorem dX8_lighter_7 : decode cX8_lighter 7 = .ok (.if_icmp .ne 14, 3) := by decide +kernel
theorem dX8_lighter_10 : decode cX8_lighter 10 = .ok (.iload_n 2, 1) := by decide +kernel
theorem dX8_lighter_11 : decode cX8_lighter 11 = .ok (.iconst 1, 1) := by decide +kernel
theorem dX8_lighter_12 : decode cX8_lighter 12 = .ok (.if_icmp .le 9, 3) := by decide +kernel
theorem dX8_lighter_15 : decode cX8_lighter 15 = .ok (.iload_n 2, 1) := by decide +kernel
theorem dX8_lighter_16 : decode cX8_lighter 16 = .ok (.iconst 1, 1) := by decide +kernel
theorem dX8_lighter_17 : decode cX8_lighter 17 = .ok (.isub, 1) := by decide +kernel
theorem dX8_lighter_18 : decode cX8_lighter 18 = .ok (.goto 4, 3) := by decide +kernel
theorem dX8_lighter_21 : decode cX8_lighter 21 = .ok (.iload_n 2, 1) := by decide +kernel
theorem dX8_lighter_22 : decode cX8_lighter 22 = .ok (.ireturn, 1) := by decide +kernel
def f_X8_lighter_b22 (t22_0 : Int32) : Option (Int32) := some t22_0
def f_X8_lighter_b21 (a2 : Int32) (k22 : Int32 → Option (Int32)) : Option (Int32) := k22 a2
def f_X8_lighter (a1 : Int32) (a2 : Int32) (M : xMem) : Option (Int32) := xchk (xb a1 6) ((if (M 8 6 a1.toNatClampNeg) = (3 : Int32) then (if a2 ≤ (1 : Int32) then (f_X8_lighter_b21 a2 (f_X8_lighter_b22)) else (f_X8_lighter_b22) (a2 - (1 : Int32))) else (f_X8_lighter_b21 a2 (f_X8_lighter_b22))))
set_option maxHeartbeats 4000000 in
set_option maxRecDepth 100000 in
theorem w_X8_lighter_b22 {p : Program} {l : Launch} {e : Env} {s : State} {m : MethodId} {args : Array Value} {below : List Frame} {meth : Method} {c : Code} {G : xG} {rr : Int32} (E : xE p s m args meth c cX8_lighter 3 (some .int) RX8 G) (M : xMem) (L : xLL) : ∀ (t22_0 : Int32), f_X8_lighter_b22 t22_0 = some rr → ∀ (ls : Array Slot), lv_has ls 3 [] → ∀ (H : Heap) (locs : List Loc), xI G M L s.heap H locs → W p l e (xR 1) s m args below meth c H locs 0 0 (MQ below (xQi G rr M L s.heap.size) args s 0 0 (xZ G s.heap.size)) (F0 m 22 ls [.int t22_0]) := by
  have hx := E.1
  have hb := E.2.1
  intro t22_0 hf ls hl H locs hI
  rw [f_X8_lighter_b22] at hf
  obtain rfl := xinj1 hf
  exact x_iret E hI rfl dX8_lighter_22
set_option maxHeartbeats 4000000 in
set_option maxRecDepth 100000 in
theorem w_X8_lighter_b21 {p : Program} {l : Launch} {e : Env} {s : State} {m : MethodId} {args : Array Value} {below : List Frame} {meth : Method} {c : Code} {G : xG} {rr : Int32} (E : xE p s m args meth c cX8_lighter 3 (some .int) RX8 G) (a2 : Int32) (M : xMem) (L : xLL) (k22 : Int32 → Option (Int32)) (hk22 : ∀ (t22_0 : Int32), k22 t22_0 = some rr → ∀ (ls : Array Slot), lv_has ls 3 [] → ∀ (H : Heap) (locs : List Loc), xI G M L s.heap H locs → W p l e (xR 1) s m args below meth c H locs 0 0 (MQ below (xQi G rr M L s.heap.size) args s 0 0 (xZ G s.heap.size)) (F0 m 22 ls [.int t22_0])) : f_X8_lighter_b21 a2 k22  = some rr → ∀ (ls : Array Slot), lv_has ls 3 [(2, .int a2)] → ∀ (H : Heap) (locs : List Loc), xI G M L s.heap H locs → W p l e (xR 1) s m args below meth c H locs 0 0 (MQ below (xQi G rr M L s.heap.size) args s 0 0 (xZ G s.heap.size)) (F0 m 21 ls []) := by
  have hx := E.1
  have hb := E.2.1
  intro  hf ls hl H locs hI
  rw [f_X8_lighter_b21] at hf
  refine lv_iload_n hx hb dX8_lighter_21 rfl (lv_at hl 0 rfl) ?_
  exact hk22 a2 hf _ (lv_sub hl [] rfl) _ _ hI
set_option maxHeartbeats 4000000 in
set_option maxRecDepth 100000 in
theorem c_X8_lighter (l : Launch) (G : xG) (sz : Nat) (M : xMem) (L : xLL) (a1 : Int32) (a2 : Int32) {rr : Int32} (hf : f_X8_lighter a1 a2 M = some rr) : Met l yX8_lighter (Cond.code yX8_lighter cX8_lighter 3 (some .int) :: xTB) (xR 1) (xP G M L sz [.ref (xq G 8 0), .int a1, .int a2]) (xQi G rr M L sz) 0 0 (xZ G sz) := by
  refine x_met (cc := cX8_lighter) (nL := 3) (rt := (some .int)) (by decide) (Nat.le_of_ble_eq_true rfl) ?_
  intro p e s m below meth c ls hsz E hl hI
  subst hsz
  have E : xE p s m _ meth c cX8_lighter 3 (some .int) RX8 G := E
  have hx := E.1
  have hb := E.2.1
  have hl : lv_has ls 3 [(0, .ref (xq G 8 0)), (1, .int a1), (2, .int a2)] := hl
  rw [f_X8_lighter] at hf
  refine lv_aload_n hx hb dX8_lighter_0 rfl (lv_at hl 0 rfl) ?_
  refine gf_X8_19 E hI dX8_lighter_1 ?_
  refine lv_iload_n hx hb dX8_lighter_4 rfl (lv_at hl 1 rfl) ?_
  obtain ⟨h5b, hf⟩ := xchk_s hf
  refine x_iald (n := 6) E hI mx_8_6 (fun _ _ => rfl) h5b dX8_lighter_5 ?_
  refine lv_iconst (v := 3) hx hb dX8_lighter_6 (by decide) ?_
  refine lv_icmp_ne (tgt := 21) hx hb dX8_lighter_7 (by decide) (fun c7 => ?_) (fun c7 => ?_)
  · replace hf := xif_f c7 hf
    exact (w_X8_lighter_b21 E (a2 := a2) (M := M) (L := L) (k22 := (f_X8_lighter_b22)) (hk22 := (w_X8_lighter_b22 E (M := M) (L := L))))  hf _ (lv_sub hl [2] rfl) _ _ hI
  · replace hf := xif_t c7 hf
    refine lv_iload_n hx hb dX8_lighter_10 rfl (lv_at hl 2 rfl) ?_
    refine lv_iconst (v := 1) hx hb dX8_lighter_11 (by decide) ?_
    refine lv_icmp_le (tgt := 21) hx hb dX8_lighter_12 (by decide) (fun c12 => ?_) (fun c12 => ?_)
    · replace hf := xif_t c12 hf
      exact (w_X8_lighter_b21 E (a2 := a2) (M := M) (L := L) (k22 := (f_X8_lighter_b22)) (hk22 := (w_X8_lighter_b22 E (M := M) (L := L))))  hf _ (lv_sub hl [2] rfl) _ _ hI
    · replace hf := xif_f c12 hf
      refine lv_iload_n hx hb dX8_lighter_15 rfl (lv_at hl 2 rfl) ?_
      refine lv_iconst (v := 1) hx hb dX8_lighter_16 (by decide) ?_
      refine lv_isub hx hb dX8_lighter_17 ?_
      refine lv_goto (tgt := 22) hx hb dX8_lighter_18 (by decide) ?_
      exact (w_X8_lighter_b22 E (M := M) (L := L)) (a2 - (1 : Int32)) hf _ (lv_sub hl [] rfl) _ _ hI
theorem dX8_rolled_0 : decode cX8_rolled 0 = .ok (.iconst 0, 1) := by decide +kernel
theorem dX8_rolled_1 : decode cX8_rolled 1 = .ok (.istore_n 2, 1) := by decide +kernel
theorem dX8_rolled_2 : decode cX8_rolled 2 = .ok (.iload_n 2, 1) := by decide +kernel
theorem dX8_rolled_3 : decode cX8_rolled 3 = .ok (.aload_n 0, 1) := by decide +kernel
theorem dX8_rolled_4 : decode cX8_rolled 4 = .ok (.getfield 62, 3) := by decide +kernel
theorem dX8_rolled_7 : decode cX8_rolled 7 = .ok (.if_icmp .ge 127, 3) := by decide +kernel
theorem dX8_rolled_10 : decode cX8_rolled 10 = .ok (.aload_n 0, 1) := by decide +kernel
theorem dX8_rolled_11 : decode cX8_rolled 11 = .ok (.getfield 47, 3) := by decide +kernel
theorem dX8_rolled_14 : decode cX8_rolled 14 = .ok (.bipush 17, 2) := by decide +kernel
theorem dX8_rolled_16 : decode cX8_rolled 16 = .ok (.iload_n 2, 1) := by decide +kernel
theorem dX8_rolled_17 : decode cX8_rolled 17 = .ok (.iadd, 1) := by decide +kernel
theorem dX8_rolled_18 : decode cX8_rolled 18 = .ok (.iaload, 1) := by decide +kernel
theorem dX8_rolled_19 : decode cX8_rolled 19 = .ok (.istore_n 3, 1) := by decide +kernel
theorem dX8_rolled_20 : decode cX8_rolled 20 = .ok (.aload_n 0, 1) := by decide +kernel
theorem dX8_rolled_21 : decode cX8_rolled 21 = .ok (.iload_n 1, 1) := by decide +kernel
theorem dX8_rolled_22 : decode cX8_rolled 22 = .ok (.aload_n 0, 1) := by decide +kernel
theorem dX8_rolled_23 : decode cX8_rolled 23 = .ok (.getfield 47, 3) := by decide +kernel
theorem dX8_rolled_26 : decode cX8_rolled 26 = .ok (.bipush 6, 2) := by decide +kernel
theorem dX8_rolled_28 : decode cX8_rolled 28 = .ok (.iload_n 1, 1) := by decide +kernel
theorem dX8_rolled_29 : decode cX8_rolled 29 = .ok (.iadd, 1) := by decide +kernel
theorem dX8_rolled_30 : decode cX8_rolled 30 = .ok (.iaload, 1) := by decide +kernel
theorem dX8_rolled_31 : decode cX8_rolled 31 = .ok (.invokevirtual 138, 3) := by decide +kernel
theorem dX8_rolled_34 : decode cX8_rolled 34 = .ok (.aload_n 0, 1) := by decide +kernel
theorem dX8_rolled_35 : decode cX8_rolled 35 = .ok (.getfield 47, 3) := by decide +kernel
theorem dX8_rolled_38 : decode cX8_rolled 38 = .ok (.bipush 12, 2) := by decide +kernel
theorem dX8_rolled_40 : decode cX8_rolled 40 = .ok (.iload_n 3, 1) := by decide +kernel
theorem dX8_rolled_41 : decode cX8_rolled 41 = .ok (.iadd, 1) := by decide +kernel
theorem dX8_rolled_42 : decode cX8_rolled 42 = .ok (.iaload, 1) := by decide +kernel
theorem dX8_rolled_43 : decode cX8_rolled 43 = .ok (.aload_n 0, 1) := by decide +kernel
theorem dX8_rolled_44 : decode cX8_rolled 44 = .ok (.iload_n 3, 1) := by decide +kernel
theorem dX8_rolled_45 : decode cX8_rolled 45 = .ok (.invokevirtual 141, 3) := by decide +kernel
theorem dX8_rolled_48 : decode cX8_rolled 48 = .ok (.iadd, 1) := by decide +kernel
theorem dX8_rolled_49 : decode cX8_rolled 49 = .ok (.if_icmp .lt 56, 3) := by decide +kernel
theorem dX8_rolled_52 : decode cX8_rolled 52 = .ok (.aload_n 0, 1) := by decide +kernel
theorem dX8_rolled_53 : decode cX8_rolled 53 = .ok (.iload_n 3, 1) := by decide +kernel
theorem dX8_rolled_54 : decode cX8_rolled 54 = .ok (.invokevirtual 144, 3) := by decide +kernel
theorem dX8_rolled_57 : decode cX8_rolled 57 = .ok (.ifCond .ne 48, 3) := by decide +kernel
theorem dX8_rolled_60 : decode cX8_rolled 60 = .ok (.aload_n 0, 1) := by decide +kernel
theorem dX8_rolled_61 : decode cX8_rolled 61 = .ok (.getfield 47, 3) := by decide +kernel
theorem dX8_rolled_64 : decode cX8_rolled 64 = .ok (.iconst 0, 1) := by decide +kernel
theorem dX8_rolled_65 : decode cX8_rolled 65 = .ok (.iload_n 1, 1) := by decide +kernel
theorem dX8_rolled_66 : decode cX8_rolled 66 = .ok (.iadd, 1) := by decide +kernel
theorem dX8_rolled_67 : decode cX8_rolled 67 = .ok (.iconst 1, 1) := by decide +kernel
theorem dX8_rolled_68 : decode cX8_rolled 68 = .ok (.iload_n 3, 1) := by decide +kernel
theorem dX8_rolled_69 : decode cX8_rolled 69 = .ok (.iadd, 1) := by decide +kernel
theorem dX8_rolled_70 : decode cX8_rolled 70 = .ok (.iastore, 1) := by decide +kernel
theorem dX8_rolled_71 : decode cX8_rolled 71 = .ok (.aload_n 0, 1) := by decide +kernel
theorem dX8_rolled_72 : decode cX8_rolled 72 = .ok (.getfield 47, 3) := by decide +kernel
theorem dX8_rolled_75 : decode cX8_rolled 75 = .ok (.bipush 22, 2) := by decide +kernel
theorem dX8_rolled_77 : decode cX8_rolled 77 = .ok (.iload_n 3, 1) := by decide +kernel
theorem dX8_rolled_78 : decode cX8_rolled 78 = .ok (.iadd, 1) := by decide +kernel
theorem dX8_rolled_79 : decode cX8_rolled 79 = .ok (.dup2, 1) := by decide +kernel
theorem dX8_rolled_80 : decode cX8_rolled 80 = .ok (.iaload, 1) := by decide +kernel
theorem dX8_rolled_81 : decode cX8_rolled 81 = .ok (.aload_n 0, 1) := by decide +kernel
theorem dX8_rolled_82 : decode cX8_rolled 82 = .ok (.getfield 47, 3) := by decide +kernel
theorem dX8_rolled_85 : decode cX8_rolled 85 = .ok (.bipush 22, 2) := by decide +kernel
theorem dX8_rolled_87 : decode cX8_rolled 87 = .ok (.iload_n 3, 1) := by decide +kernel
theorem dX8_rolled_88 : decode cX8_rolled 88 = .ok (.iadd, 1) := by decide +kernel
theorem dX8_rolled_89 : decode cX8_rolled 89 = .ok (.iaload, 1) := by decide +kernel
theorem dX8_rolled_90 : decode cX8_rolled 90 = .ok (.sipush 999, 3) := by decide +kernel
theorem dX8_rolled_93 : decode cX8_rolled 93 = .ok (.if_icmp .ge 7, 3) := by decide +kernel
theorem dX8_rolled_96 : decode cX8_rolled 96 = .ok (.iconst 1, 1) := by decide +kernel
theorem dX8_rolled_97 : decode cX8_rolled 97 = .ok (.goto 4, 3) := by decide +kernel
theorem dX8_rolled_100 : decode cX8_rolled 100 = .ok (.iconst 0, 1) := by decide +kernel
theorem dX8_rolled_101 : decode cX8_rolled 101 = .ok (.iadd, 1) := by decide +kernel
theorem dX8_rolled_102 : decode cX8_rolled 102 = .ok (.iastore, 1) := by decide +kernel
theorem dX8_rolled_103 : decode cX8_rolled 103 = .ok (.iload_n 3, 1) := by decide +kernel
theorem dX8_rolled_104 : decode cX8_rolled 104 = .ok (.ireturn, 1) := by decide +kernel
theorem dX8_rolled_105 : decode cX8_rolled 105 = .ok (.aload_n 0, 1) := by decide +kernel
theorem dX8_rolled_106 : decode cX8_rolled 106 = .ok (.getfield 47, 3) := by decide +kernel
theorem dX8_rolled_109 : decode cX8_rolled 109 = .ok (.bipush 6, 2) := by decide +kernel
theorem dX8_rolled_111 : decode cX8_rolled 111 = .ok (.iload_n 1, 1) := by decide +kernel
theorem dX8_rolled_112 : decode cX8_rolled 112 = .ok (.iadd, 1) := by decide +kernel
theorem dX8_rolled_113 : decode cX8_rolled 113 = .ok (.aload_n 0, 1) := by decide +kernel
theorem dX8_rolled_114 : decode cX8_rolled 114 = .ok (.iload_n 1, 1) := by decide +kernel
theorem dX8_rolled_115 : decode cX8_rolled 115 = .ok (.aload_n 0, 1) := by decide +kernel
theorem dX8_rolled_116 : decode cX8_rolled 116 = .ok (.getfield 47, 3) := by decide +kernel
theorem dX8_rolled_119 : decode cX8_rolled 119 = .ok (.bipush 6, 2) := by decide +kernel
theorem dX8_rolled_121 : decode cX8_rolled 121 = .ok (.iload_n 1, 1) := by decide +kernel
theorem dX8_rolled_122 : decode cX8_rolled 122 = .ok (.iadd, 1) := by decide +kernel
theorem dX8_rolled_123 : decode cX8_rolled 123 = .ok (.iaload, 1) := by decide +kernel
theorem dX8_rolled_124 : decode cX8_rolled 124 = .ok (.invokevirtual 147, 3) := by decide +kernel
theorem dX8_rolled_127 : decode cX8_rolled 127 = .ok (.iastore, 1) := by decide +kernel
theorem dX8_rolled_128 : decode cX8_rolled 128 = .ok (.iinc 2 1, 3) := by decide +kernel
theorem dX8_rolled_131 : decode cX8_rolled 131 = .ok (.goto (-129), 3) := by decide +kernel
theorem dX8_rolled_134 : decode cX8_rolled 134 = .ok (.aload_n 0, 1) := by decide +kernel
theorem dX8_rolled_135 : decode cX8_rolled 135 = .ok (.getfield 47, 3) := by decide +kernel
theorem dX8_rolled_138 : decode cX8_rolled 138 = .ok (.iconst 0, 1) := by decide +kernel
theorem dX8_rolled_139 : decode cX8_rolled 139 = .ok (.iload_n 1, 1) := by decide +kernel
theorem dX8_rolled_140 : decode cX8_rolled 140 = .ok (.iadd, 1) := by decide +kernel
theorem dX8_rolled_141 : decode cX8_rolled 141 = .ok (.bipush 8, 2) := by decide +kernel
theorem dX8_rolled_143 : decode cX8_rolled 143 = .ok (.iastore, 1) := by decide +kernel
theorem dX8_rolled_144 : decode cX8_rolled 144 = .ok (.bipush (-9), 2) := by decide +kernel
theorem dX8_rolled_146 : decode cX8_rolled 146 = .ok (.ireturn, 1) := by decide +kernel
def f_X8_rolled_b105 (a1 : Int32) (v2_2 : Int32) (M2 : xMem) (k2 : Int32 → xMem → Option (Int32 × xMem)) : Option (Int32 × xMem) := xchk (xb ((6 : Int32) + a1) 27) (xb1 (f_X8_lighter a1 (M2 8 27 ((6 : Int32) + a1).toNatClampNeg) M2) (fun r124 => xchk (xb ((6 : Int32) + a1) 27) (xlet (xst M2 8 27 ((6 : Int32) + a1) r124) (fun M127 => k2 (v2_2 + (1 : Int32)) M127))))
def f_X8_rolled_b101 (v2_2 : Int32) (M2 : xMem) (M70 : xMem) (t101_0 : Int32) : Option (Int32 × xMem) := xchk (xb ((22 : Int32) + (M2 8 27 ((17 : Int32) + v2_2).toNatClampNeg)) 27) (xlet (xst M70 8 27 ((22 : Int32) + (M2 8 27 ((17 : Int32) + v2_2).toNatClampNeg)) ((M70 8 27 ((22 : Int32) + (M2 8 27 ((17 : Int32) + v2_2).toNatClampNeg)).toNatClampNeg) + t101_0)) (fun M102 => some ((M2 8 27 ((17 : Int32) + v2_2).toNatClampNeg), M102)))
def f_X8_rolled_l2 (a1 : Int32) : Nat → Int32 → xMem → Option (Int32 × xMem)
  | 0, _, _ => none
  | n + 1, v2_2, M2 => (if (M2 8 0 0) ≤ v2_2 then xchk (xb ((0 : Int32) + a1) 27) (xlet (xst M2 8 27 ((0 : Int32) + a1) (8 : Int32)) (fun M143 => some ((-9 : Int32), M143))) else xchk (xb ((17 : Int32) + v2_2) 27) (xchk (xb ((6 : Int32) + a1) 27) (xb1 (f_X8_seemsAs a1 (M2 8 27 ((6 : Int32) + a1).toNatClampNeg) M2) (fun r31 => xchk (xb ((12 : Int32) + (M2 8 27 ((17 : Int32) + v2_2).toNatClampNeg)) 27) (xb1 (f_X8_stiffOf (M2 8 27 ((17 : Int32) + v2_2).toNatClampNeg) M2) (fun r45 => (if r31 < ((M2 8 27 ((12 : Int32) + (M2 8 27 ((17 : Int32) + v2_2).toNatClampNeg)).toNatClampNeg) + r45) then (f_X8_rolled_b105 a1 v2_2 M2 (f_X8_rolled_l2 a1 n)) else xb1 (f_X8_isFull (M2 8 27 ((17 : Int32) + v2_2).toNatClampNeg) M2) (fun r54 => (if r54 = (0 : Int32) then xchk (xb ((0 : Int32) + a1) 27) (xlet (xst M2 8 27 ((0 : Int32) + a1) ((1 : Int32) + (M2 8 27 ((17 : Int32) + v2_2).toNatClampNeg))) (fun M70 => xchk (xb ((22 : Int32) + (M2 8 27 ((17 : Int32) + v2_2).toNatClampNeg)) 27) (xchk (xb ((22 : Int32) + (M2 8 27 ((17 : Int32) + v2_2).toNatClampNeg)) 27) ((if (999 : Int32) ≤ (M70 8 27 ((22 : Int32) + (M2 8 27 ((17 : Int32) + v2_2).toNatClampNeg)).toNatClampNeg) then (f_X8_rolled_b101 v2_2 M2 M70) (0 : Int32) else (f_X8_rolled_b101 v2_2 M2 M70) (1 : Int32)))))) else (f_X8_rolled_b105 a1 v2_2 M2 (f_X8_rolled_l2 a1 n)))))))))))
def f_X8_rolled (a1 : Int32) (M : xMem) : Option (Int32 × xMem) := (f_X8_rolled_l2 a1 FU) (0 : Int32) M
set_option maxHeartbeats 4000000 in
set_option maxRecDepth 100000 in
theorem w_X8_rolled_b105 {p : Program} {l : Launch} {e : Env} {s : State} {m : MethodId} {args : Array Value} {below : List Frame} {meth : Method} {c : Code} {G : xG} {rr : Int32} {MM : xMem} (E : xE p s m args meth c cX8_rolled 4 (some .int) RX8 G) (a1 : Int32) (M : xMem) (L : xLL) (v2_2 : Int32) (M2 : xMem) (k2 : Int32 → xMem → Option (Int32 × xMem)) (hk2 : ∀ (v2_2 : Int32) (M2 : xMem), k2 v2_2 M2 = some (rr, MM) → ∀ (ls : Array Slot), lv_has ls 4 [(0, .ref (xq G 8 0)), (1, .int a1), (2, .int v2_2)] → ∀ (H : Heap) (locs : List Loc), xI G M2 L s.heap H locs → W p l e (xR 3) s m args below meth c H locs 0 0 (MQ below (xQi G rr MM L s.heap.size) args s 0 0 (xZ G s.heap.size)) (F0 m 2 ls [])) : f_X8_rolled_b105 a1 v2_2 M2 k2  = some (rr, MM) → ∀ (ls : Array Slot), lv_has ls 4 [(0, .ref (xq G 8 0)), (1, .int a1), (2, .int v2_2)] → ∀ (H : Heap) (locs : List Loc), xI G M2 L s.heap H locs → W p l e (xR 3) s m args below meth c H locs 0 0 (MQ below (xQi G rr MM L s.heap.size) args s 0 0 (xZ G s.heap.size)) (F0 m 105 ls []) := by
  have hx := E.1
  have hb := E.2.1
  intro  hf ls hl H locs hI
  rw [f_X8_rolled_b105] at hf
  refine lv_aload_n hx hb dX8_rolled_105 rfl (lv_at hl 0 rfl) ?_
  refine gf_X8_47 E hI dX8_rolled_106 ?_
  refine lv_bipush (v := 6) hx hb dX8_rolled_109 (by decide) ?_
  refine lv_iload_n hx hb dX8_rolled_111 rfl (lv_at hl 1 rfl) ?_
  refine lv_iadd hx hb dX8_rolled_112 ?_
  refine lv_aload_n hx hb dX8_rolled_113 rfl (lv_at hl 0 rfl) ?_
  refine lv_iload_n hx hb dX8_rolled_114 rfl (lv_at hl 1 rfl) ?_
  refine lv_aload_n hx hb dX8_rolled_115 rfl (lv_at hl 0 rfl) ?_
  refine gf_X8_47 E hI dX8_rolled_116 ?_
  refine lv_bipush (v := 6) hx hb dX8_rolled_119 (by decide) ?_
  refine lv_iload_n hx hb dX8_rolled_121 rfl (lv_at hl 1 rfl) ?_
  refine lv_iadd hx hb dX8_rolled_122 ?_
  obtain ⟨h123b, hf⟩ := xchk_s hf
  refine x_iald (n := 27) E hI mx_8_27 (fun _ _ => rfl) h123b dX8_rolled_123 ?_
  obtain ⟨r124, g124, hf⟩ := xb1_s hf
  refine x_callVi (As := [.int a1, .int (M2 8 27 ((6 : Int32) + a1).toNatClampNeg)]) (rest := [.int ((6 : Int32) + a1), .ref (xq G 8 27)]) E hI mx_8_0 rfl rfl rfl (c_X8_lighter l G _ (M := M2) (L := L) (a1 := a1) (a2 := (M2 8 27 ((6 : Int32) + a1).toNatClampNeg)) g124) yv_X8_lighter ml_X8_147 (by decide) (by decide) rfl rfl hl.1 (Nat.le_of_ble_eq_true rfl) dX8_rolled_124 (fun H locs hI => ?_)
  obtain ⟨h127b, hf⟩ := xchk_s hf
  obtain ⟨M127, e127, hf⟩ := xlet_s hf
  refine x_iast (n := 27) E hI mx_8_27 (fun _ _ => rfl) h127b dX8_rolled_127 e127 (fun H locs hI => ?_)
  refine lv_iinc (v := (v2_2 + (1 : Int32))) (lv' := [(2, .int (v2_2 + (1 : Int32))), (0, .ref (xq G 8 0)), (1, .int a1)]) hx hb dX8_rolled_128 hl (k := 2) rfl rfl (by decide) rfl (fun ls hl => ?_)
  refine lv_goto (tgt := 2) hx hb dX8_rolled_131 (by decide) ?_
  exact hk2 (v2_2 + (1 : Int32)) M127 hf _ (lv_sub hl [1, 2, 0] rfl) _ _ hI
set_option maxHeartbeats 4000000 in
set_option maxRecDepth 100000 in
theorem w_X8_rolled_b101 {p : Program} {l : Launch} {e : Env} {s : State} {m : MethodId} {args : Array Value} {below : List Frame} {meth : Method} {c : Code} {G : xG} {rr : Int32} {MM : xMem} (E : xE p s m args meth c cX8_rolled 4 (some .int) RX8 G) (M : xMem) (L : xLL) (v2_2 : Int32) (M2 : xMem) (M70 : xMem) : ∀ (t101_0 : Int32), f_X8_rolled_b101 v2_2 M2 M70 t101_0 = some (rr, MM) → ∀ (ls : Array Slot), lv_has ls 4 [(3, .int (M2 8 27 ((17 : Int32) + v2_2).toNatClampNeg))] → ∀ (H : Heap) (locs : List Loc), xI G M70 L s.heap H locs → W p l e (xR 3) s m args below meth c H locs 0 0 (MQ below (xQi G rr MM L s.heap.size) args s 0 0 (xZ G s.heap.size)) (F0 m 101 ls [.int t101_0, .int (M70 8 27 ((22 : Int32) + (M2 8 27 ((17 : Int32) + v2_2).toNatClampNeg)).toNatClampNeg), .int ((22 : Int32) + (M2 8 27 ((17 : Int32) + v2_2).toNatClampNeg)), .ref (xq G 8 27)]) := by
  have hx := E.1
  have hb := E.2.1
  intro t101_0 hf ls hl H locs hI
  rw [f_X8_rolled_b101] at hf
  refine lv_iadd hx hb dX8_rolled_101 ?_
  obtain ⟨h102b, hf⟩ := xchk_s hf
  obtain ⟨M102, e102, hf⟩ := xlet_s hf
  refine x_iast (n := 27) E hI mx_8_27 (fun _ _ => rfl) h102b dX8_rolled_102 e102 (fun H locs hI => ?_)
  refine lv_iload_n hx hb dX8_rolled_103 rfl (lv_at hl 0 rfl) ?_
  obtain ⟨rfl, rfl⟩ := xinj2 hf
  exact x_iret E hI rfl dX8_rolled_104
set_option maxHeartbeats 4000000 in
set_option maxRecDepth 100000 in
theorem w_X8_rolled_l2 {p : Program} {l : Launch} {e : Env} {s : State} {m : MethodId} {args : Array Value} {below : List Frame} {meth : Method} {c : Code} {G : xG} {rr : Int32} {MM : xMem} (E : xE p s m args meth c cX8_rolled 4 (some .int) RX8 G) (a1 : Int32) (M : xMem) (L : xLL) : ∀ (n : Nat), ∀ (v2_2 : Int32) (M2 : xMem), f_X8_rolled_l2 a1 n v2_2 M2 = some (rr, MM) → ∀ (ls : Array Slot), lv_has ls 4 [(0, .ref (xq G 8 0)), (1, .int a1), (2, .int v2_2)] → ∀ (H : Heap) (locs : List Loc), xI G M2 L s.heap H locs → W p l e (xR 3) s m args below meth c H locs 0 0 (MQ below (xQi G rr MM L s.heap.size) args s 0 0 (xZ G s.heap.size)) (F0 m 2 ls []) := by
  have hx := E.1
  have hb := E.2.1
  intro n
  induction n with
  | zero =>
    intro v2_2 M2 hf
    exact absurd hf (by simp [f_X8_rolled_l2])
  | succ n ih =>
    intro v2_2 M2 hf ls hl H locs hI
    rw [f_X8_rolled_l2] at hf
    refine lv_iload_n hx hb dX8_rolled_2 rfl (lv_at hl 2 rfl) ?_
    refine lv_aload_n hx hb dX8_rolled_3 rfl (lv_at hl 0 rfl) ?_
    refine gf_X8_62 E hI dX8_rolled_4 ?_
    refine lv_icmp_ge (tgt := 134) hx hb dX8_rolled_7 (by decide) (fun c7 => ?_) (fun c7 => ?_)
    · replace hf := xif_t c7 hf
      refine lv_aload_n hx hb dX8_rolled_134 rfl (lv_at hl 0 rfl) ?_
      refine gf_X8_47 E hI dX8_rolled_135 ?_
      refine lv_iconst (v := 0) hx hb dX8_rolled_138 (by decide) ?_
      refine lv_iload_n hx hb dX8_rolled_139 rfl (lv_at hl 1 rfl) ?_
      refine lv_iadd hx hb dX8_rolled_140 ?_
      refine lv_bipush (v := 8) hx hb dX8_rolled_141 (by decide) ?_
      obtain ⟨h143b, hf⟩ := xchk_s hf
      obtain ⟨M143, e143, hf⟩ := xlet_s hf
      refine x_iast (n := 27) E hI mx_8_27 (fun _ _ => rfl) h143b dX8_rolled_143 e143 (fun H locs hI => ?_)
      refine lv_bipush (v := -9) hx hb dX8_rolled_144 (by decide) ?_
      obtain ⟨rfl, rfl⟩ := xinj2 hf
      exact x_iret E hI rfl dX8_rolled_146
    · replace hf := xif_f c7 hf
      refine lv_aload_n hx hb dX8_rolled_10 rfl (lv_at hl 0 rfl) ?_
      refine gf_X8_47 E hI dX8_rolled_11 ?_
      refine lv_bipush (v := 17) hx hb dX8_rolled_14 (by decide) ?_
      refine lv_iload_n hx hb dX8_rolled_16 rfl (lv_at hl 2 rfl) ?_
      refine lv_iadd hx hb dX8_rolled_17 ?_
      obtain ⟨h18b, hf⟩ := xchk_s hf
      refine x_iald (n := 27) E hI mx_8_27 (fun _ _ => rfl) h18b dX8_rolled_18 ?_
      refine lv_istore_n (lv' := [(3, .int (M2 8 27 ((17 : Int32) + v2_2).toNatClampNeg)), (0, .ref (xq G 8 0)), (1, .int a1), (2, .int v2_2)]) hx hb dX8_rolled_19 rfl hl (by decide) rfl (fun ls hl => ?_)
      refine lv_aload_n hx hb dX8_rolled_20 rfl (lv_at hl 1 rfl) ?_
      refine lv_iload_n hx hb dX8_rolled_21 rfl (lv_at hl 2 rfl) ?_
      refine lv_aload_n hx hb dX8_rolled_22 rfl (lv_at hl 1 rfl) ?_
      refine gf_X8_47 E hI dX8_rolled_23 ?_
      refine lv_bipush (v := 6) hx hb dX8_rolled_26 (by decide) ?_
      refine lv_iload_n hx hb dX8_rolled_28 rfl (lv_at hl 2 rfl) ?_
      refine lv_iadd hx hb dX8_rolled_29 ?_
      obtain ⟨h30b, hf⟩ := xchk_s hf
      refine x_iald (n := 27) E hI mx_8_27 (fun _ _ => rfl) h30b dX8_rolled_30 ?_
      obtain ⟨r31, g31, hf⟩ := xb1_s hf
      refine x_callVi (As := [.int a1, .int (M2 8 27 ((6 : Int32) + a1).toNatClampNeg)]) (rest := []) E hI mx_8_0 rfl rfl rfl (c_X8_seemsAs l G _ (M := M2) (L := L) (a1 := a1) (a2 := (M2 8 27 ((6 : Int32) + a1).toNatClampNeg)) g31) yv_X8_seemsAs ml_X8_138 (by decide) (by decide) rfl rfl hl.1 (Nat.le_of_ble_eq_true rfl) dX8_rolled_31 (fun H locs hI => ?_)
      refine lv_aload_n hx hb dX8_rolled_34 rfl (lv_at hl 1 rfl) ?_
      refine gf_X8_47 E hI dX8_rolled_35 ?_
      refine lv_bipush (v := 12) hx hb dX8_rolled_38 (by decide) ?_
      refine lv_iload_n hx hb dX8_rolled_40 rfl (lv_at hl 0 rfl) ?_
      refine lv_iadd hx hb dX8_rolled_41 ?_
      obtain ⟨h42b, hf⟩ := xchk_s hf
      refine x_iald (n := 27) E hI mx_8_27 (fun _ _ => rfl) h42b dX8_rolled_42 ?_
      refine lv_aload_n hx hb dX8_rolled_43 rfl (lv_at hl 1 rfl) ?_
      refine lv_iload_n hx hb dX8_rolled_44 rfl (lv_at hl 0 rfl) ?_
      obtain ⟨r45, g45, hf⟩ := xb1_s hf
      refine x_callVi (As := [.int (M2 8 27 ((17 : Int32) + v2_2).toNatClampNeg)]) (rest := [.int (M2 8 27 ((12 : Int32) + (M2 8 27 ((17 : Int32) + v2_2).toNatClampNeg)).toNatClampNeg), .int r31]) E hI mx_8_0 rfl rfl rfl (c_X8_stiffOf l G _ (M := M2) (L := L) (a1 := (M2 8 27 ((17 : Int32) + v2_2).toNatClampNeg)) g45) yv_X8_stiffOf ml_X8_141 (by decide) (by decide) rfl rfl hl.1 (Nat.le_of_ble_eq_true rfl) dX8_rolled_45 (fun H locs hI => ?_)
      refine lv_iadd hx hb dX8_rolled_48 ?_
      refine lv_icmp_lt (tgt := 105) hx hb dX8_rolled_49 (by decide) (fun c49 => ?_) (fun c49 => ?_)
      · replace hf := xif_t c49 hf
        exact (w_X8_rolled_b105 E (a1 := a1) (M := M) (L := L) (v2_2 := v2_2) (M2 := M2) (k2 := (f_X8_rolled_l2 a1 n)) (hk2 := ih))  hf _ (lv_sub hl [1, 2, 3] rfl) _ _ hI
      · replace hf := xif_f c49 hf
        refine lv_aload_n hx hb dX8_rolled_52 rfl (lv_at hl 1 rfl) ?_
        refine lv_iload_n hx hb dX8_rolled_53 rfl (lv_at hl 0 rfl) ?_
        obtain ⟨r54, g54, hf⟩ := xb1_s hf
        refine x_callVi (As := [.int (M2 8 27 ((17 : Int32) + v2_2).toNatClampNeg)]) (rest := []) E hI mx_8_0 rfl rfl rfl (c_X8_isFull l G _ (M := M2) (L := L) (a1 := (M2 8 27 ((17 : Int32) + v2_2).toNatClampNeg)) g54) yv_X8_isFull ml_X8_144 (by decide) (by decide) rfl rfl hl.1 (Nat.le_of_ble_eq_true rfl) dX8_rolled_54 (fun H locs hI => ?_)
        refine lv_if_ne (tgt := 105) hx hb dX8_rolled_57 (by decide) (fun c57 => ?_) (fun c57 => ?_)
        · replace hf := xif_f c57 hf
          exact (w_X8_rolled_b105 E (a1 := a1) (M := M) (L := L) (v2_2 := v2_2) (M2 := M2) (k2 := (f_X8_rolled_l2 a1 n)) (hk2 := ih))  hf _ (lv_sub hl [1, 2, 3] rfl) _ _ hI
        · replace hf := xif_t c57 hf
          refine lv_aload_n hx hb dX8_rolled_60 rfl (lv_at hl 1 rfl) ?_
          refine gf_X8_47 E hI dX8_rolled_61 ?_
          refine lv_iconst (v := 0) hx hb dX8_rolled_64 (by decide) ?_
          refine lv_iload_n hx hb dX8_rolled_65 rfl (lv_at hl 2 rfl) ?_
          refine lv_iadd hx hb dX8_rolled_66 ?_
          refine lv_iconst (v := 1) hx hb dX8_rolled_67 (by decide) ?_
          refine lv_iload_n hx hb dX8_rolled_68 rfl (lv_at hl 0 rfl) ?_
          refine lv_iadd hx hb dX8_rolled_69 ?_
          obtain ⟨h70b, hf⟩ := xchk_s hf
          obtain ⟨M70, e70, hf⟩ := xlet_s hf
          refine x_iast (n := 27) E hI mx_8_27 (fun _ _ => rfl) h70b dX8_rolled_70 e70 (fun H locs hI => ?_)
          refine lv_aload_n hx hb dX8_rolled_71 rfl (lv_at hl 1 rfl) ?_
          refine gf_X8_47 E hI dX8_rolled_72 ?_
          refine lv_bipush (v := 22) hx hb dX8_rolled_75 (by decide) ?_
          refine lv_iload_n hx hb dX8_rolled_77 rfl (lv_at hl 0 rfl) ?_
          refine lv_iadd hx hb dX8_rolled_78 ?_
          refine lv_dup2_11 hx hb dX8_rolled_79 rfl rfl ?_
          obtain ⟨h80b, hf⟩ := xchk_s hf
          refine x_iald (n := 27) E hI mx_8_27 (fun _ _ => rfl) h80b dX8_rolled_80 ?_
          refine lv_aload_n hx hb dX8_rolled_81 rfl (lv_at hl 1 rfl) ?_
          refine gf_X8_47 E hI dX8_rolled_82 ?_
          refine lv_bipush (v := 22) hx hb dX8_rolled_85 (by decide) ?_
          refine lv_iload_n hx hb dX8_rolled_87 rfl (lv_at hl 0 rfl) ?_
          refine lv_iadd hx hb dX8_rolled_88 ?_
          obtain ⟨h89b, hf⟩ := xchk_s hf
          refine x_iald (n := 27) E hI mx_8_27 (fun _ _ => rfl) h89b dX8_rolled_89 ?_
          refine lv_sipush (v := 999) hx hb dX8_rolled_90 (by decide) ?_
          refine lv_icmp_ge (tgt := 100) hx hb dX8_rolled_93 (by decide) (fun c93 => ?_) (fun c93 => ?_)
          · replace hf := xif_t c93 hf
            refine lv_iconst (v := 0) hx hb dX8_rolled_100 (by decide) ?_
            exact (w_X8_rolled_b101 E (M := M) (L := L) (v2_2 := v2_2) (M2 := M2) (M70 := M70)) (0 : Int32) hf _ (lv_sub hl [0] rfl) _ _ hI
          · replace hf := xif_f c93 hf
            refine lv_iconst (v := 1) hx hb dX8_rolled_96 (by decide) ?_
            refine lv_goto (tgt := 101) hx hb dX8_rolled_97 (by decide) ?_
            exact (w_X8_rolled_b101 E (M := M) (L := L) (v2_2 := v2_2) (M2 := M2) (M70 := M70)) (1 : Int32) hf _ (lv_sub hl [0] rfl) _ _ hI
set_option maxHeartbeats 4000000 in
set_option maxRecDepth 100000 in
theorem c_X8_rolled (l : Launch) (G : xG) (sz : Nat) (M : xMem) (L : xLL) (a1 : Int32) {rr : Int32} {MM : xMem} (hf : f_X8_rolled a1 M = some (rr, MM)) : Met l yX8_rolled (Cond.code yX8_rolled cX8_rolled 4 (some .int) :: xTB) (xR 3) (xP G M L sz [.ref (xq G 8 0), .int a1]) (xQi G rr MM L sz) 0 0 (xZ G sz) := by
  refine x_met (cc := cX8_rolled) (nL := 4) (rt := (some .int)) (by decide) (Nat.le_of_ble_eq_true rfl) ?_
  intro p e s m below meth c ls hsz E hl hI
  subst hsz
  have E : xE p s m _ meth c cX8_rolled 4 (some .int) RX8 G := E
  have hx := E.1
  have hb := E.2.1
  have hl : lv_has ls 4 [(0, .ref (xq G 8 0)), (1, .int a1)] := hl
  rw [f_X8_rolled] at hf
  refine lv_iconst (v := 0) hx hb dX8_rolled_0 (by decide) ?_
  refine lv_istore_n (lv' := [(2, .int (0 : Int32)), (0, .ref (xq G 8 0)), (1, .int a1)]) hx hb dX8_rolled_1 rfl hl (by decide) rfl (fun ls hl => ?_)
  exact (w_X8_rolled_l2 E (a1 := a1) (M := M) (L := L) FU) (0 : Int32) M hf _ (lv_sub hl [1, 2, 0] rfl) _ _ hI
