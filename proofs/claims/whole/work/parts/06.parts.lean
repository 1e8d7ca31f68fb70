theorem dX1_isBox_0 : decode cX1_isBox 0 = .ok (.iload_n 1, 1) := by decide +kernel
theorem dX1_isBox_1 : decode cX1_isBox 1 = .ok (.iload_n 2, 1) := by decide +kernel
theorem dX1_isBox_2 : decode cX1_isBox 2 = .ok (.iconst (-1), 1) := by decide +kernel
theorem dX1_isBox_3 : decode cX1_isBox 3 = .ok (.ixor, 1) := by decide +kernel
theorem dX1_isBox_4 : decode cX1_isBox 4 = .ok (.iand, 1) := by decide +kernel
theorem dX1_isBox_5 : decode cX1_isBox 5 = .ok (.ifCond .ne 28, 3) := by decide +kernel
theorem dX1_isBox_8 : decode cX1_isBox 8 = .ok (.iload_n 1, 1) := by decide +kernel
theorem dX1_isBox_9 : decode cX1_isBox 9 = .ok (.invokestatic 33, 3) := by decide +kernel
theorem dX1_isBox_12 : decode cX1_isBox 12 = .ok (.iload_n 3, 1) := by decide +kernel
theorem dX1_isBox_13 : decode cX1_isBox 13 = .ok (.if_icmp .ne 20, 3) := by decide +kernel
theorem dX1_isBox_16 : decode cX1_isBox 16 = .ok (.aload_n 0, 1) := by decide +kernel
theorem dX1_isBox_17 : decode cX1_isBox 17 = .ok (.getfield 15, 3) := by decide +kernel
theorem dX1_isBox_20 : decode cX1_isBox 20 = .ok (.iload_n 1, 1) := by decide +kernel
theorem dX1_isBox_21 : decode cX1_isBox 21 = .ok (.invokevirtual 29, 3) := by decide +kernel
theorem dX1_isBox_24 : decode cX1_isBox 24 = .ok (.iload 4, 2) := by decide +kernel
theorem dX1_isBox_26 : decode cX1_isBox 26 = .ok (.if_icmp .lt 7, 3) := by decide +kernel
theorem dX1_isBox_29 : decode cX1_isBox 29 = .ok (.iconst 1, 1) := by decide +kernel
theorem dX1_isBox_30 : decode cX1_isBox 30 = .ok (.goto 4, 3) := by decide +kernel
theorem dX1_isBox_33 : decode cX1_isBox 33 = .ok (.iconst 0, 1) := by decide +kernel
theorem dX1_isBox_34 : decode cX1_isBox 34 = .ok (.ireturn, 1) := by decide +kernel
def f_X1_isBox_b34 (t34_0 : Int32) : Option (Int32) := xchk (xbo t34_0) (some t34_0)
def f_X1_isBox_b33 (k34 : Int32 → Option (Int32)) : Option (Int32) := k34 (0 : Int32)
def f_X1_isBox (a1 : Int32) (a2 : Int32) (a3 : Int32) (a4 : Int32) (M : xMem) : Option (Int32) := (if (a1 &&& (a2 ^^^ (-1 : Int32))) = (0 : Int32) then xb1 (f_J6_bitCount_0f7a4 a1 M) (fun r9 => (if r9 = a3 then xb1 (f_X0_gramsOf 0 a1 M) (fun r21 => (if r21 < a4 then (f_X1_isBox_b33 (f_X1_isBox_b34)) else (f_X1_isBox_b34) (1 : Int32))) else (f_X1_isBox_b33 (f_X1_isBox_b34)))) else (f_X1_isBox_b33 (f_X1_isBox_b34)))
set_option maxHeartbeats 4000000 in
set_option maxRecDepth 100000 in
theorem w_X1_isBox_b34 {p : Program} {l : Launch} {e : Env} {s : State} {m : MethodId} {args : Array Value} {below : List Frame} {meth : Method} {c : Code} {G : xG} {rr : Int32} (E : xE p s m args meth c cX1_isBox 5 (some .boolean) RX1 G) (M : xMem) (L : xLL) : ∀ (t34_0 : Int32), f_X1_isBox_b34 t34_0 = some rr → ∀ (ls : Array Slot), lv_has ls 5 [] → ∀ (H : Heap) (locs : List Loc), xI G M L s.heap H locs → W p l e (xR 2) s m args below meth c H locs 0 0 (MQ below (xQi G rr M L s.heap.size) args s 0 0 (xZ G s.heap.size)) (F0 m 34 ls [.int t34_0]) := by
  have hx := E.1
  have hb := E.2.1
  intro t34_0 hf ls hl H locs hI
  rw [f_X1_isBox_b34] at hf
  obtain ⟨h34n, hf⟩ := xchk_s hf
  obtain rfl := xinj1 hf
  exact x_zret E hI (xbo_s h34n) rfl dX1_isBox_34
set_option maxHeartbeats 4000000 in
set_option maxRecDepth 100000 in
theorem w_X1_isBox_b33 {p : Program} {l : Launch} {e : Env} {s : State} {m : MethodId} {args : Array Value} {below : List Frame} {meth : Method} {c : Code} {G : xG} {rr : Int32} (E : xE p s m args meth c cX1_isBox 5 (some .boolean) RX1 G) (M : xMem) (L : xLL) (k34 : Int32 → Option (Int32)) (hk34 : ∀ (t34_0 : Int32), k34 t34_0 = some rr → ∀ (ls : Array Slot), lv_has ls 5 [] → ∀ (H : Heap) (locs : List Loc), xI G M L s.heap H locs → W p l e (xR 2) s m args below meth c H locs 0 0 (MQ below (xQi G rr M L s.heap.size) args s 0 0 (xZ G s.heap.size)) (F0 m 34 ls [.int t34_0])) : f_X1_isBox_b33 k34  = some rr → ∀ (ls : Array Slot), lv_has ls 5 [] → ∀ (H : Heap) (locs : List Loc), xI G M L s.heap H locs → W p l e (xR 2) s m args below meth c H locs 0 0 (MQ below (xQi G rr M L s.heap.size) args s 0 0 (xZ G s.heap.size)) (F0 m 33 ls []) := by
  have hx := E.1
  have hb := E.2.1
  intro  hf ls hl H locs hI
  rw [f_X1_isBox_b33] at hf
  refine lv_iconst (v := 0) hx hb dX1_isBox_33 (by decide) ?_
  exact hk34 (0 : Int32) hf _ (lv_sub hl [] rfl) _ _ hI
set_option maxHeartbeats 4000000 in
set_option maxRecDepth 100000 in
theorem c_X1_isBox (l : Launch) (G : xG) (sz : Nat) (M : xMem) (L : xLL) (a1 : Int32) (a2 : Int32) (a3 : Int32) (a4 : Int32) {rr : Int32} (hf : f_X1_isBox a1 a2 a3 a4 M = some rr) : Met l yX1_isBox (Cond.code yX1_isBox cX1_isBox 5 (some .boolean) :: xTB) (xR 2) (xP G M L sz [.ref (xq G 6 0), .int a1, .int a2, .int a3, .int a4]) (xQi G rr M L sz) 0 0 (xZ G sz) := by
  refine x_met (cc := cX1_isBox) (nL := 5) (rt := (some .boolean)) (by decide) (Nat.le_of_ble_eq_true rfl) ?_
  intro p e s m below meth c ls hsz E hl hI
  subst hsz
  have E : xE p s m _ meth c cX1_isBox 5 (some .boolean) RX1 G := E
  have hx := E.1
  have hb := E.2.1
  have hl : lv_has ls 5 [(0, .ref (xq G 6 0)), (1, .int a1), (2, .int a2), (3, .int a3), (4, .int a4)] := hl
  rw [f_X1_isBox] at hf
  refine lv_iload_n hx hb dX1_isBox_0 rfl (lv_at hl 1 rfl) ?_
  refine lv_iload_n hx hb dX1_isBox_1 rfl (lv_at hl 2 rfl) ?_
  refine lv_iconst (v := -1) hx hb dX1_isBox_2 (by decide) ?_
  refine lv_ixor hx hb dX1_isBox_3 ?_
  refine lv_iand hx hb dX1_isBox_4 ?_
  refine lv_if_ne (tgt := 33) hx hb dX1_isBox_5 (by decide) (fun c5 => ?_) (fun c5 => ?_)
  · replace hf := xif_f c5 hf
    exact (w_X1_isBox_b33 E (M := M) (L := L) (k34 := (f_X1_isBox_b34)) (hk34 := (w_X1_isBox_b34 E (M := M) (L := L))))  hf _ (lv_sub hl [] rfl) _ _ hI
  · replace hf := xif_t c5 hf
    refine lv_iload_n hx hb dX1_isBox_8 rfl (lv_at hl 1 rfl) ?_
    obtain ⟨r9, g9, hf⟩ := xb1_s hf
    refine x_callSi (As := [.int a1]) (rest := []) E hI (c_J6_bitCount_0f7a4 l G _ (M := M) (L := L) (a0 := a1) g9) ys_J6_bitCount_0f7a4 ml_X1_33 (by decide) (by decide) rfl rfl hl.1 (Nat.le_of_ble_eq_true rfl) dX1_isBox_9 (fun H locs hI => ?_)
    refine lv_iload_n hx hb dX1_isBox_12 rfl (lv_at hl 3 rfl) ?_
    refine lv_icmp_ne (tgt := 33) hx hb dX1_isBox_13 (by decide) (fun c13 => ?_) (fun c13 => ?_)
    · replace hf := xif_f c13 hf
      exact (w_X1_isBox_b33 E (M := M) (L := L) (k34 := (f_X1_isBox_b34)) (hk34 := (w_X1_isBox_b34 E (M := M) (L := L))))  hf _ (lv_sub hl [] rfl) _ _ hI
    · replace hf := xif_t c13 hf
      refine lv_aload_n hx hb dX1_isBox_16 rfl (lv_at hl 0 rfl) ?_
      refine gf_X1_15 E hI dX1_isBox_17 ?_
      refine lv_iload_n hx hb dX1_isBox_20 rfl (lv_at hl 1 rfl) ?_
      obtain ⟨r21, g21, hf⟩ := xb1_s hf
      refine x_callVi (As := [.int a1]) (rest := []) E hI (mf_0 (by decide)) rfl rfl rfl (c_X0_gramsOf l G _ (M := M) (L := L) (i := 0) (hi := (by decide)) (a1 := a1) g21) yv_X0_gramsOf ml_X1_29 (by decide) (by decide) rfl rfl hl.1 (Nat.le_of_ble_eq_true rfl) dX1_isBox_21 (fun H locs hI => ?_)
      refine lv_iload hx hb dX1_isBox_24 (lv_at hl 4 rfl) ?_
      refine lv_icmp_lt (tgt := 33) hx hb dX1_isBox_26 (by decide) (fun c26 => ?_) (fun c26 => ?_)
      · replace hf := xif_t c26 hf
        exact (w_X1_isBox_b33 E (M := M) (L := L) (k34 := (f_X1_isBox_b34)) (hk34 := (w_X1_isBox_b34 E (M := M) (L := L))))  hf _ (lv_sub hl [] rfl) _ _ hI
      · replace hf := xif_f c26 hf
        refine lv_iconst (v := 1) hx hb dX1_isBox_29 (by decide) ?_
        refine lv_goto (tgt := 34) hx hb dX1_isBox_30 (by decide) ?_
        exact (w_X1_isBox_b34 E (M := M) (L := L)) (1 : Int32) hf _ (lv_sub hl [] rfl) _ _ hI
theorem dX1_lightestBox_0 : decode cX1_lightestBox 0 = .ok (.aload_n 0, 1) := by decide +kernel
theorem dX1_lightestBox_1 : decode cX1_lightestBox 1 = .ok (.getfield 15, 3) := by decide +kernel
theorem dX1_lightestBox_4 : decode cX1_lightestBox 4 = .ok (.invokevirtual 19, 3) := by decide +kernel
theorem dX1_lightestBox_7 : decode cX1_lightestBox 7 = .ok (.istore_n 3, 1) := by decide +kernel
theorem dX1_lightestBox_8 : decode cX1_lightestBox 8 = .ok (.bipush (-9), 2) := by decide +kernel
theorem dX1_lightestBox_10 : decode cX1_lightestBox 10 = .ok (.istore 4, 2) := by decide +kernel
theorem dX1_lightestBox_12 : decode cX1_lightestBox 12 = .ok (.iconst 0, 1) := by decide +kernel
theorem dX1_lightestBox_13 : decode cX1_lightestBox 13 = .ok (.istore 5, 2) := by decide +kernel
theorem dX1_lightestBox_15 : decode cX1_lightestBox 15 = .ok (.iconst 1, 1) := by decide +kernel
theorem dX1_lightestBox_16 : decode cX1_lightestBox 16 = .ok (.istore 6, 2) := by decide +kernel
theorem dX1_lightestBox_18 : decode cX1_lightestBox 18 = .ok (.iload 6, 2) := by decide +kernel
theorem dX1_lightestBox_20 : decode cX1_lightestBox 20 = .ok (.bipush 64, 2) := by decide +kernel
theorem dX1_lightestBox_22 : decode cX1_lightestBox 22 = .ok (.if_icmp .ge 54, 3) := by decide +kernel
theorem dX1_lightestBox_25 : decode cX1_lightestBox 25 = .ok (.aload_n 0, 1) := by decide +kernel
theorem dX1_lightestBox_26 : decode cX1_lightestBox 26 = .ok (.iload 6, 2) := by decide +kernel
theorem dX1_lightestBox_28 : decode cX1_lightestBox 28 = .ok (.iload_n 3, 1) := by decide +kernel
theorem dX1_lightestBox_29 : decode cX1_lightestBox 29 = .ok (.iload_n 1, 1) := by decide +kernel
theorem dX1_lightestBox_30 : decode cX1_lightestBox 30 = .ok (.iload_n 2, 1) := by decide +kernel
theorem dX1_lightestBox_31 : decode cX1_lightestBox 31 = .ok (.invokevirtual 25, 3) := by decide +kernel
theorem dX1_lightestBox_34 : decode cX1_lightestBox 34 = .ok (.ifCond .eq 36, 3) := by decide +kernel
theorem dX1_lightestBox_37 : decode cX1_lightestBox 37 = .ok (.aload_n 0, 1) := by decide +kernel
theorem dX1_lightestBox_38 : decode cX1_lightestBox 38 = .ok (.getfield 15, 3) := by decide +kernel
theorem dX1_lightestBox_41 : decode cX1_lightestBox 41 = .ok (.iload 6, 2) := by decide +kernel
theorem dX1_lightestBox_43 : decode cX1_lightestBox 43 = .ok (.invokevirtual 29, 3) := by decide +kernel
theorem dX1_lightestBox_46 : decode cX1_lightestBox 46 = .ok (.istore 7, 2) := by decide +kernel
theorem dX1_lightestBox_48 : decode cX1_lightestBox 48 = .ok (.iload 4, 2) := by decide +kernel
theorem dX1_lightestBox_50 : decode cX1_lightestBox 50 = .ok (.bipush (-9), 2) := by decide +kernel
theorem dX1_lightestBox_52 : decode cX1_lightestBox 52 = .ok (.if_icmp .eq 10, 3) := by decide +kernel
theorem dX1_lightestBox_55 : decode cX1_lightestBox 55 = .ok (.iload 7, 2) := by decide +kernel
theorem dX1_lightestBox_57 : decode cX1_lightestBox 57 = .ok (.iload 5, 2) := by decide +kernel
theorem dX1_lightestBox_59 : decode cX1_lightestBox 59 = .ok (.if_icmp .ge 11, 3) := by decide +kernel
theorem dX1_lightestBox_62 : decode cX1_lightestBox 62 = .ok (.iload 6, 2) := by decide +kernel
theorem dX1_lightestBox_64 : decode cX1_lightestBox 64 = .ok (.istore 4, 2) := by decide +kernel
theorem dX1_lightestBox_66 : decode cX1_lightestBox 66 = .ok (.iload 7, 2) := by decide +kernel
theorem dX1_lightestBox_68 : decode cX1_lightestBox 68 = .ok (.istore 5, 2) := by decide +kernel
theorem dX1_lightestBox_70 : decode cX1_lightestBox 70 = .ok (.iinc 6 1, 3) := by decide +kernel
theorem dX1_lightestBox_73 : decode cX1_lightestBox 73 = .ok (.goto (-55), 3) := by decide +kernel
theorem dX1_lightestBox_76 : decode cX1_lightestBox 76 = .ok (.iload 4, 2) := by decide +kernel
theorem dX1_lightestBox_78 : decode cX1_lightestBox 78 = .ok (.ireturn, 1) := by decide +kernel
def f_X1_lightestBox_b70 (v18_6 : Int32) (k18 : Int32 → Int32 → Int32 → Option (Int32)) (v70_4 : Int32) (v70_5 : Int32) : Option (Int32) := k18 v70_4 v70_5 (v18_6 + (1 : Int32))
def f_X1_lightestBox_b62 (v18_6 : Int32) (r43 : Int32) (k70 : Int32 → Int32 → Option (Int32)) : Option (Int32) := k70 v18_6 r43
def f_X1_lightestBox_l18 (a1 : Int32) (a2 : Int32) (M : xMem) (r4 : Int32) : Nat → Int32 → Int32 → Int32 → Option (Int32)
  | 0, _, _, _ => none
  | n + 1, v18_4, v18_5, v18_6 => (if (64 : Int32) ≤ v18_6 then some v18_4 else xb1 (f_X1_isBox v18_6 r4 a1 a2 M) (fun r31 => (if r31 = (0 : Int32) then (f_X1_lightestBox_b70 v18_6 (f_X1_lightestBox_l18 a1 a2 M r4 n)) v18_4 v18_5 else xb1 (f_X0_gramsOf 0 v18_6 M) (fun r43 => (if v18_4 = (-9 : Int32) then (f_X1_lightestBox_b62 v18_6 r43 (f_X1_lightestBox_b70 v18_6 (f_X1_lightestBox_l18 a1 a2 M r4 n))) else (if v18_5 ≤ r43 then (f_X1_lightestBox_b70 v18_6 (f_X1_lightestBox_l18 a1 a2 M r4 n)) v18_4 v18_5 else (f_X1_lightestBox_b62 v18_6 r43 (f_X1_lightestBox_b70 v18_6 (f_X1_lightestBox_l18 a1 a2 M r4 n)))))))))
def f_X1_lightestBox (a1 : Int32) (a2 : Int32) (M : xMem) : Option (Int32) := xb1 (f_X0_eggsInTrays 0 M) (fun r4 => (f_X1_lightestBox_l18 a1 a2 M r4 FU) (-9 : Int32) (0 : Int32) (1 : Int32))
set_option maxHeartbeats 4000000 in
set_option maxRecDepth 100000 in
theorem w_X1_lightestBox_b70 {p : Program} {l : Launch} {e : Env} {s : State} {m : MethodId} {args : Array Value} {below : List Frame} {meth : Method} {c : Code} {G : xG} {rr : Int32} (E : xE p s m args meth c cX1_lightestBox 8 (some .int) RX1 G) (a1 : Int32) (a2 : Int32) (M : xMem) (L : xLL) (r4 : Int32) (v18_4 : Int32) (v18_5 : Int32) (v18_6 : Int32) (k18 : Int32 → Int32 → Int32 → Option (Int32)) (hk18 : ∀ (v18_4 : Int32) (v18_5 : Int32) (v18_6 : Int32), k18 v18_4 v18_5 v18_6 = some rr → ∀ (ls : Array Slot), lv_has ls 8 [(0, .ref (xq G 6 0)), (1, .int a1), (2, .int a2), (3, .int r4), (4, .int v18_4), (5, .int v18_5), (6, .int v18_6)] → ∀ (H : Heap) (locs : List Loc), xI G M L s.heap H locs → W p l e (xR 3) s m args below meth c H locs 0 0 (MQ below (xQi G rr M L s.heap.size) args s 0 0 (xZ G s.heap.size)) (F0 m 18 ls [])) : ∀ (v70_4 : Int32) (v70_5 : Int32), f_X1_lightestBox_b70 v18_6 k18 v70_4 v70_5 = some rr → ∀ (ls : Array Slot), lv_has ls 8 [(0, .ref (xq G 6 0)), (1, .int a1), (2, .int a2), (3, .int r4), (4, .int v70_4), (5, .int v70_5), (6, .int v18_6)] → ∀ (H : Heap) (locs : List Loc), xI G M L s.heap H locs → W p l e (xR 3) s m args below meth c H locs 0 0 (MQ below (xQi G rr M L s.heap.size) args s 0 0 (xZ G s.heap.size)) (F0 m 70 ls []) := by
  have hx := E.1
  have hb := E.2.1
  intro v70_4 v70_5 hf ls hl H locs hI
  rw [f_X1_lightestBox_b70] at hf
  refine lv_iinc (v := (v18_6 + (1 : Int32))) (lv' := [(6, .int (v18_6 + (1 : Int32))), (0, .ref (xq G 6 0)), (1, .int a1), (2, .int a2), (3, .int r4), (4, .int v70_4), (5, .int v70_5)]) hx hb dX1_lightestBox_70 hl (k := 6) rfl rfl (by decide) rfl (fun ls hl => ?_)
  refine lv_goto (tgt := 18) hx hb dX1_lightestBox_73 (by decide) ?_
  exact hk18 v70_4 v70_5 (v18_6 + (1 : Int32)) hf _ (lv_sub hl [1, 2, 3, 4, 5, 6, 0] rfl) _ _ hI
set_option maxHeartbeats 4000000 in
set_option maxRecDepth 100000 in
theorem w_X1_lightestBox_b62 {p : Program} {l : Launch} {e : Env} {s : State} {m : MethodId} {args : Array Value} {below : List Frame} {meth : Method} {c : Code} {G : xG} {rr : Int32} (E : xE p s m args meth c cX1_lightestBox 8 (some .int) RX1 G) (a1 : Int32) (a2 : Int32) (M : xMem) (L : xLL) (r4 : Int32) (v18_6 : Int32) (r43 : Int32) (k70 : Int32 → Int32 → Option (Int32)) (hk70 : ∀ (v70_4 : Int32) (v70_5 : Int32), k70 v70_4 v70_5 = some rr → ∀ (ls : Array Slot), lv_has ls 8 [(0, .ref (xq G 6 0)), (1, .int a1), (2, .int a2), (3, .int r4), (4, .int v70_4), (5, .int v70_5), (6, .int v18_6)] → ∀ (H : Heap) (locs : List Loc), xI G M L s.heap H locs → W p l e (xR 3) s m args below meth c H locs 0 0 (MQ below (xQi G rr M L s.heap.size) args s 0 0 (xZ G s.heap.size)) (F0 m 70 ls [])) : f_X1_lightestBox_b62 v18_6 r43 k70  = some rr → ∀ (ls : Array Slot), lv_has ls 8 [(0, .ref (xq G 6 0)), (1, .int a1), (2, .int a2), (3, .int r4), (6, .int v18_6), (7, .int r43)] → ∀ (H : Heap) (locs : List Loc), xI G M L s.heap H locs → W p l e (xR 3) s m args below meth c H locs 0 0 (MQ below (xQi G rr M L s.heap.size) args s 0 0 (xZ G s.heap.size)) (F0 m 62 ls []) := by
  have hx := E.1
  have hb := E.2.1
  intro  hf ls hl H locs hI
  rw [f_X1_lightestBox_b62] at hf
  refine lv_iload hx hb dX1_lightestBox_62 (lv_at hl 4 rfl) ?_
  refine lv_istore (lv' := [(4, .int v18_6), (0, .ref (xq G 6 0)), (1, .int a1), (2, .int a2), (3, .int r4), (6, .int v18_6), (7, .int r43)]) hx hb dX1_lightestBox_64 hl (by decide) rfl (fun ls hl => ?_)
  refine lv_iload hx hb dX1_lightestBox_66 (lv_at hl 6 rfl) ?_
  refine lv_istore (lv' := [(5, .int r43), (4, .int v18_6), (0, .ref (xq G 6 0)), (1, .int a1), (2, .int a2), (3, .int r4), (6, .int v18_6), (7, .int r43)]) hx hb dX1_lightestBox_68 hl (by decide) rfl (fun ls hl => ?_)
  exact hk70 v18_6 r43 hf _ (lv_sub hl [2, 3, 4, 5, 1, 0, 6] rfl) _ _ hI
set_option maxHeartbeats 4000000 in
set_option maxRecDepth 100000 in
theorem w_X1_lightestBox_l18 {p : Program} {l : Launch} {e : Env} {s : State} {m : MethodId} {args : Array Value} {below : List Frame} {meth : Method} {c : Code} {G : xG} {rr : Int32} (E : xE p s m args meth c cX1_lightestBox 8 (some .int) RX1 G) (a1 : Int32) (a2 : Int32) (M : xMem) (L : xLL) (r4 : Int32) : ∀ (n : Nat), ∀ (v18_4 : Int32) (v18_5 : Int32) (v18_6 : Int32), f_X1_lightestBox_l18 a1 a2 M r4 n v18_4 v18_5 v18_6 = some rr → ∀ (ls : Array Slot), lv_has ls 8 [(0, .ref (xq G 6 0)), (1, .int a1), (2, .int a2), (3, .int r4), (4, .int v18_4), (5, .int v18_5), (6, .int v18_6)] → ∀ (H : Heap) (locs : List Loc), xI G M L s.heap H locs → W p l e (xR 3) s m args below meth c H locs 0 0 (MQ below (xQi G rr M L s.heap.size) args s 0 0 (xZ G s.heap.size)) (F0 m 18 ls []) := by
  have hx := E.1
  have hb := E.2.1
  intro n
  induction n with
  | zero =>
    intro v18_4 v18_5 v18_6 hf
    exact absurd hf (by simp [f_X1_lightestBox_l18])
  | succ n ih =>
    intro v18_4 v18_5 v18_6 hf ls hl H locs hI
    rw [f_X1_lightestBox_l18] at hf
    refine lv_iload hx hb dX1_lightestBox_18 (lv_at hl 6 rfl) ?_
    refine lv_bipush (v := 64) hx hb dX1_lightestBox_20 (by decide) ?_
    refine lv_icmp_ge (tgt := 76) hx hb dX1_lightestBox_22 (by decide) (fun c22 => ?_) (fun c22 => ?_)
    · replace hf := xif_t c22 hf
      refine lv_iload hx hb dX1_lightestBox_76 (lv_at hl 4 rfl) ?_
      obtain rfl := xinj1 hf
      exact x_iret E hI rfl dX1_lightestBox_78
    · replace hf := xif_f c22 hf
      refine lv_aload_n hx hb dX1_lightestBox_25 rfl (lv_at hl 0 rfl) ?_
      refine lv_iload hx hb dX1_lightestBox_26 (lv_at hl 6 rfl) ?_
      refine lv_iload_n hx hb dX1_lightestBox_28 rfl (lv_at hl 3 rfl) ?_
      refine lv_iload_n hx hb dX1_lightestBox_29 rfl (lv_at hl 1 rfl) ?_
      refine lv_iload_n hx hb dX1_lightestBox_30 rfl (lv_at hl 2 rfl) ?_
      obtain ⟨r31, g31, hf⟩ := xb1_s hf
      refine x_callVi (As := [.int v18_6, .int r4, .int a1, .int a2]) (rest := []) E hI mx_6_0 rfl rfl rfl (c_X1_isBox l G _ (M := M) (L := L) (a1 := v18_6) (a2 := r4) (a3 := a1) (a4 := a2) g31) yv_X1_isBox ml_X1_25 (by decide) (by decide) rfl rfl hl.1 (Nat.le_of_ble_eq_true rfl) dX1_lightestBox_31 (fun H locs hI => ?_)
      refine lv_if_eq (tgt := 70) hx hb dX1_lightestBox_34 (by decide) (fun c34 => ?_) (fun c34 => ?_)
      · replace hf := xif_t c34 hf
        exact (w_X1_lightestBox_b70 E (a1 := a1) (a2 := a2) (M := M) (L := L) (r4 := r4) (v18_4 := v18_4) (v18_5 := v18_5) (v18_6 := v18_6) (k18 := (f_X1_lightestBox_l18 a1 a2 M r4 n)) (hk18 := ih)) v18_4 v18_5 hf _ (lv_sub hl [0, 1, 2, 3, 4, 5, 6] rfl) _ _ hI
      · replace hf := xif_f c34 hf
        refine lv_aload_n hx hb dX1_lightestBox_37 rfl (lv_at hl 0 rfl) ?_
        refine gf_X1_15 E hI dX1_lightestBox_38 ?_
        refine lv_iload hx hb dX1_lightestBox_41 (lv_at hl 6 rfl) ?_
        obtain ⟨r43, g43, hf⟩ := xb1_s hf
        refine x_callVi (As := [.int v18_6]) (rest := []) E hI (mf_0 (by decide)) rfl rfl rfl (c_X0_gramsOf l G _ (M := M) (L := L) (i := 0) (hi := (by decide)) (a1 := v18_6) g43) yv_X0_gramsOf ml_X1_29 (by decide) (by decide) rfl rfl hl.1 (Nat.le_of_ble_eq_true rfl) dX1_lightestBox_43 (fun H locs hI => ?_)
        refine lv_istore (lv' := [(7, .int r43), (0, .ref (xq G 6 0)), (1, .int a1), (2, .int a2), (3, .int r4), (4, .int v18_4), (5, .int v18_5), (6, .int v18_6)]) hx hb dX1_lightestBox_46 hl (by decide) rfl (fun ls hl => ?_)
        refine lv_iload hx hb dX1_lightestBox_48 (lv_at hl 5 rfl) ?_
        refine lv_bipush (v := -9) hx hb dX1_lightestBox_50 (by decide) ?_
        refine lv_icmp_eq (tgt := 62) hx hb dX1_lightestBox_52 (by decide) (fun c52 => ?_) (fun c52 => ?_)
        · replace hf := xif_t c52 hf
          exact (w_X1_lightestBox_b62 E (a1 := a1) (a2 := a2) (M := M) (L := L) (r4 := r4) (v18_6 := v18_6) (r43 := r43) (k70 := (f_X1_lightestBox_b70 v18_6 (f_X1_lightestBox_l18 a1 a2 M r4 n))) (hk70 := (w_X1_lightestBox_b70 E (a1 := a1) (a2 := a2) (M := M) (L := L) (r4 := r4) (v18_4 := v18_4) (v18_5 := v18_5) (v18_6 := v18_6) (k18 := (f_X1_lightestBox_l18 a1 a2 M r4 n)) (hk18 := ih))))  hf _ (lv_sub hl [1, 2, 3, 4, 7, 0] rfl) _ _ hI
        · replace hf := xif_f c52 hf
          refine lv_iload hx hb dX1_lightestBox_55 (lv_at hl 0 rfl) ?_
          refine lv_iload hx hb dX1_lightestBox_57 (lv_at hl 6 rfl) ?_
          refine lv_icmp_ge (tgt := 70) hx hb dX1_lightestBox_59 (by decide) (fun c59 => ?_) (fun c59 => ?_)
          · replace hf := xif_t c59 hf
            exact (w_X1_lightestBox_b70 E (a1 := a1) (a2 := a2) (M := M) (L := L) (r4 := r4) (v18_4 := v18_4) (v18_5 := v18_5) (v18_6 := v18_6) (k18 := (f_X1_lightestBox_l18 a1 a2 M r4 n)) (hk18 := ih)) v18_4 v18_5 hf _ (lv_sub hl [1, 2, 3, 4, 5, 6, 7] rfl) _ _ hI
          · replace hf := xif_f c59 hf
            exact (w_X1_lightestBox_b62 E (a1 := a1) (a2 := a2) (M := M) (L := L) (r4 := r4) (v18_6 := v18_6) (r43 := r43) (k70 := (f_X1_lightestBox_b70 v18_6 (f_X1_lightestBox_l18 a1 a2 M r4 n))) (hk70 := (w_X1_lightestBox_b70 E (a1 := a1) (a2 := a2) (M := M) (L := L) (r4 := r4) (v18_4 := v18_4) (v18_5 := v18_5) (v18_6 := v18_6) (k18 := (f_X1_lightestBox_l18 a1 a2 M r4 n)) (hk18 := ih))))  hf _ (lv_sub hl [1, 2, 3, 4, 7, 0] rfl) _ _ hI
set_option maxHeartbeats 4000000 in
set_option maxRecDepth 100000 in
theorem c_X1_lightestBox (l : Launch) (G : xG) (sz : Nat) (M : xMem) (L : xLL) (a1 : Int32) (a2 : Int32) {rr : Int32} (hf : f_X1_lightestBox a1 a2 M = some rr) : Met l yX1_lightestBox (Cond.code yX1_lightestBox cX1_lightestBox 8 (some .int) :: xTB) (xR 3) (xP G M L sz [.ref (xq G 6 0), .int a1, .int a2]) (xQi G rr M L sz) 0 0 (xZ G sz) := by
  refine x_met (cc := cX1_lightestBox) (nL := 8) (rt := (some .int)) (by decide) (Nat.le_of_ble_eq_true rfl) ?_
  intro p e s m below meth c ls hsz E hl hI
  subst hsz
  have E : xE p s m _ meth c cX1_lightestBox 8 (some .int) RX1 G := E
  have hx := E.1
  have hb := E.2.1
  have hl : lv_has ls 8 [(0, .ref (xq G 6 0)), (1, .int a1), (2, .int a2)] := hl
  rw [f_X1_lightestBox] at hf
  refine lv_aload_n hx hb dX1_lightestBox_0 rfl (lv_at hl 0 rfl) ?_
  refine gf_X1_15 E hI dX1_lightestBox_1 ?_
  obtain ⟨r4, g4, hf⟩ := xb1_s hf
  refine x_callVi (As := []) (rest := []) E hI (mf_0 (by decide)) rfl rfl rfl (c_X0_eggsInTrays l G _ (M := M) (L := L) (i := 0) (hi := (by decide)) g4) yv_X0_eggsInTrays ml_X1_19 (by decide) (by decide) rfl rfl hl.1 (Nat.le_of_ble_eq_true rfl) dX1_lightestBox_4 (fun H locs hI => ?_)
  refine lv_istore_n (lv' := [(3, .int r4), (0, .ref (xq G 6 0)), (1, .int a1), (2, .int a2)]) hx hb dX1_lightestBox_7 rfl hl (by decide) rfl (fun ls hl => ?_)
  refine lv_bipush (v := -9) hx hb dX1_lightestBox_8 (by decide) ?_
  refine lv_istore (lv' := [(4, .int (-9 : Int32)), (3, .int r4), (0, .ref (xq G 6 0)), (1, .int a1), (2, .int a2)]) hx hb dX1_lightestBox_10 hl (by decide) rfl (fun ls hl => ?_)
  refine lv_iconst (v := 0) hx hb dX1_lightestBox_12 (by decide) ?_
  refine lv_istore (lv' := [(5, .int (0 : Int32)), (4, .int (-9 : Int32)), (3, .int r4), (0, .ref (xq G 6 0)), (1, .int a1), (2, .int a2)]) hx hb dX1_lightestBox_13 hl (by decide) rfl (fun ls hl => ?_)
  refine lv_iconst (v := 1) hx hb dX1_lightestBox_15 (by decide) ?_
  refine lv_istore (lv' := [(6, .int (1 : Int32)), (5, .int (0 : Int32)), (4, .int (-9 : Int32)), (3, .int r4), (0, .ref (xq G 6 0)), (1, .int a1), (2, .int a2)]) hx hb dX1_lightestBox_16 hl (by decide) rfl (fun ls hl => ?_)
  exact (w_X1_lightestBox_l18 E (a1 := a1) (a2 := a2) (M := M) (L := L) (r4 := r4) FU) (-9 : Int32) (0 : Int32) (1 : Int32) hf _ (lv_sub hl [4, 5, 6, 3, 2, 1, 0] rfl) _ _ hI
theorem dX1_mostBoxes_0 : decode cX1_mostBoxes 0 = .ok (.aload_n 0, 1) := by decide +kernel
theorem dX1_mostBoxes_1 : decode cX1_mostBoxes 1 = .ok (.getfield 15, 3) := by decide +kernel
theorem dX1_mostBoxes_4 : decode cX1_mostBoxes 4 = .ok (.invokevirtual 19, 3) := by decide +kernel
theorem dX1_mostBoxes_7 : decode cX1_mostBoxes 7 = .ok (.istore_n 3, 1) := by decide +kernel
theorem dX1_mostBoxes_8 : decode cX1_mostBoxes 8 = .ok (.iconst 0, 1) := by decide +kernel
theorem dX1_mostBoxes_9 : decode cX1_mostBoxes 9 = .ok (.istore 4, 2) := by decide +kernel
theorem dX1_mostBoxes_11 : decode cX1_mostBoxes 11 = .ok (.iload 4, 2) := by decide +kernel
theorem dX1_mostBoxes_13 : decode cX1_mostBoxes 13 = .ok (.iload_n 3, 1) := by decide +kernel
theorem dX1_mostBoxes_14 : decode cX1_mostBoxes 14 = .ok (.if_icmp .gt 77, 3) := by decide +kernel
theorem dX1_mostBoxes_17 : decode cX1_mostBoxes 17 = .ok (.aload_n 0, 1) := by decide +kernel
theorem dX1_mostBoxes_18 : decode cX1_mostBoxes 18 = .ok (.getfield 11, 3) := by decide +kernel
theorem dX1_mostBoxes_21 : decode cX1_mostBoxes 21 = .ok (.iload 4, 2) := by decide +kernel
theorem dX1_mostBoxes_23 : decode cX1_mostBoxes 23 = .ok (.iconst 0, 1) := by decide +kernel
theorem dX1_mostBoxes_24 : decode cX1_mostBoxes 24 = .ok (.iastore, 1) := by decide +kernel
theorem dX1_mostBoxes_25 : decode cX1_mostBoxes 25 = .ok (.iconst 1, 1) := by decide +kernel
theorem dX1_mostBoxes_26 : decode cX1_mostBoxes 26 = .ok (.istore 5, 2) := by decide +kernel
theorem dX1_mostBoxes_28 : decode cX1_mostBoxes 28 = .ok (.iload 5, 2) := by decide +kernel
theorem dX1_mostBoxes_30 : decode cX1_mostBoxes 30 = .ok (.iload 4, 2) := by decide +kernel
theorem dX1_mostBoxes_32 : decode cX1_mostBoxes 32 = .ok (.if_icmp .gt 53, 3) := by decide +kernel
theorem dX1_mostBoxes_35 : decode cX1_mostBoxes 35 = .ok (.aload_n 0, 1) := by decide +kernel
theorem dX1_mostBoxes_36 : decode cX1_mostBoxes 36 = .ok (.iload 5, 2) := by decide +kernel
theorem dX1_mostBoxes_38 : decode cX1_mostBoxes 38 = .ok (.iload 4, 2) := by decide +kernel
theorem dX1_mostBoxes_40 : decode cX1_mostBoxes 40 = .ok (.iload_n 1, 1) := by decide +kernel
theorem dX1_mostBoxes_41 : decode cX1_mostBoxes 41 = .ok (.iload_n 2, 1) := by decide +kernel
theorem dX1_mostBoxes_42 : decode cX1_mostBoxes 42 = .ok (.invokevirtual 25, 3) := by decide +kernel
theorem dX1_mostBoxes_45 : decode cX1_mostBoxes 45 = .ok (.ifCond .eq 34, 3) := by decide +kernel
theorem dX1_mostBoxes_48 : decode cX1_mostBoxes 48 = .ok (.aload_n 0, 1) := by decide +kernel
theorem dX1_mostBoxes_49 : decode cX1_mostBoxes 49 = .ok (.getfield 11, 3) := by decide +kernel
theorem dX1_mostBoxes_52 : decode cX1_mostBoxes 52 = .ok (.iload 4, 2) := by decide +kernel
theorem dX1_mostBoxes_54 : decode cX1_mostBoxes 54 = .ok (.aload_n 0, 1) := by decide +kernel
theorem dX1_mostBoxes_55 : decode cX1_mostBoxes 55 = .ok (.getfield 11, 3) := by decide +kernel
theorem dX1_mostBoxes_58 : decode cX1_mostBoxes 58 = .ok (.iload 4, 2) := by decide +kernel
theorem dX1_mostBoxes_60 : decode cX1_mostBoxes 60 = .ok (.iaload, 1) := by decide +kernel
theorem dX1_mostBoxes_61 : decode cX1_mostBoxes 61 = .ok (.aload_n 0, 1) := by decide +kernel
theorem dX1_mostBoxes_62 : decode cX1_mostBoxes 62 = .ok (.getfield 11, 3) := by decide +kernel
theorem dX1_mostBoxes_65 : decode cX1_mostBoxes 65 = .ok (.iload 4, 2) := by decide +kernel
theorem dX1_mostBoxes_67 : decode cX1_mostBoxes 67 = .ok (.iload 5, 2) := by decide +kernel
theorem dX1_mostBoxes_69 : decode cX1_mostBoxes 69 = .ok (.iconst (-1), 1) := by decide +kernel
theorem dX1_mostBoxes_70 : decode cX1_mostBoxes 70 = .ok (.ixor, 1) := by decide +kernel
theorem dX1_mostBoxes_71 : decode cX1_mostBoxes 71 = .ok (.iand, 1) := by decide +kernel
theorem dX1_mostBoxes_72 : decode cX1_mostBoxes 72 = .ok (.iaload, 1) := by decide +kernel
theorem dX1_mostBoxes_73 : decode cX1_mostBoxes 73 = .ok (.iconst 1, 1) := by decide +kernel
theorem dX1_mostBoxes_74 : decode cX1_mostBoxes 74 = .ok (.iadd, 1) := by decide +kernel
theorem dX1_mostBoxes_75 : decode cX1_mostBoxes 75 = .ok (.invokestatic 38, 3) := by decide +kernel
theorem dX1_mostBoxes_78 : decode cX1_mostBoxes 78 = .ok (.iastore, 1) := by decide +kernel
theorem dX1_mostBoxes_79 : decode cX1_mostBoxes 79 = .ok (.iinc 5 1, 3) := by decide +kernel
theorem dX1_mostBoxes_82 : decode cX1_mostBoxes 82 = .ok (.goto (-54), 3) := by decide +kernel
theorem dX1_mostBoxes_85 : decode cX1_mostBoxes 85 = .ok (.iinc 4 1, 3) := by decide +kernel
theorem dX1_mostBoxes_88 : decode cX1_mostBoxes 88 = .ok (.goto (-77), 3) := by decide +kernel
theorem dX1_mostBoxes_91 : decode cX1_mostBoxes 91 = .ok (.aload_n 0, 1) := by decide +kernel
theorem dX1_mostBoxes_92 : decode cX1_mostBoxes 92 = .ok (.getfield 11, 3) := by decide +kernel
theorem dX1_mostBoxes_95 : decode cX1_mostBoxes 95 = .ok (.iload_n 3, 1) := by decide +kernel
theorem dX1_mostBoxes_96 : decode cX1_mostBoxes 96 = .ok (.iaload, 1) := by decide +kernel
theorem dX1_mostBoxes_97 : decode cX1_mostBoxes 97 = .ok (.ireturn, 1) := by decide +kernel
def f_X1_mostBoxes_b79 (v28_5 : Int32) (k28 : Int32 → xMem → Option (Int32 × xMem)) (M79 : xMem) : Option (Int32 × xMem) := k28 (v28_5 + (1 : Int32)) M79
def f_X1_mostBoxes_l28 (a1 : Int32) (a2 : Int32) (v11_4 : Int32) (k11 : Int32 → xMem → Option (Int32 × xMem)) : Nat → Int32 → xMem → Option (Int32 × xMem)
  | 0, _, _ => none
  | n + 1, v28_5, M28 => (if v11_4 < v28_5 then k11 (v11_4 + (1 : Int32)) M28 else xb1 (f_X1_isBox v28_5 v11_4 a1 a2 M28) (fun r42 => (if r42 = (0 : Int32) then (f_X1_mostBoxes_b79 v28_5 (f_X1_mostBoxes_l28 a1 a2 v11_4 k11 n)) M28 else xchk (xb v11_4 64) (xchk (xb (v11_4 &&& (v28_5 ^^^ (-1 : Int32))) 64) (xchk (xb v11_4 64) (xlet (xst M28 6 2 v11_4 (if (M28 6 2 v11_4.toNatClampNeg) < ((M28 6 2 (v11_4 &&& (v28_5 ^^^ (-1 : Int32))).toNatClampNeg) + (1 : Int32)) then ((M28 6 2 (v11_4 &&& (v28_5 ^^^ (-1 : Int32))).toNatClampNeg) + (1 : Int32)) else (M28 6 2 v11_4.toNatClampNeg))) (fun M78 => (f_X1_mostBoxes_b79 v28_5 (f_X1_mostBoxes_l28 a1 a2 v11_4 k11 n)) M78)))))))
def f_X1_mostBoxes_l11 (a1 : Int32) (a2 : Int32) (r4 : Int32) : Nat → Int32 → xMem → Option (Int32 × xMem)
  | 0, _, _ => none
  | n + 1, v11_4, M11 => (if r4 < v11_4 then xchk (xb r4 64) (some ((M11 6 2 r4.toNatClampNeg), M11)) else xchk (xb v11_4 64) (xlet (xst M11 6 2 v11_4 (0 : Int32)) (fun M24 => (f_X1_mostBoxes_l28 a1 a2 v11_4 (f_X1_mostBoxes_l11 a1 a2 r4 n) FU) (1 : Int32) M24)))
def f_X1_mostBoxes (a1 : Int32) (a2 : Int32) (M : xMem) : Option (Int32 × xMem) := xb1 (f_X0_eggsInTrays 0 M) (fun r4 => (f_X1_mostBoxes_l11 a1 a2 r4 FU) (0 : Int32) M)
set_option maxHeartbeats 4000000 in
set_option maxRecDepth 100000 in
theorem w_X1_mostBoxes_b79 {p : Program} {l : Launch} {e : Env} {s : State} {m : MethodId} {args : Array Value} {below : List Frame} {meth : Method} {c : Code} {G : xG} {rr : Int32} {MM : xMem} (E : xE p s m args meth c cX1_mostBoxes 6 (some .int) RX1 G) (a1 : Int32) (a2 : Int32) (M : xMem) (L : xLL) (r4 : Int32) (v11_4 : Int32) (v28_5 : Int32) (M28 : xMem) (k28 : Int32 → xMem → Option (Int32 × xMem)) (hk28 : ∀ (v28_5 : Int32) (M28 : xMem), k28 v28_5 M28 = some (rr, MM) → ∀ (ls : Array Slot), lv_has ls 6 [(0, .ref (xq G 6 0)), (1, .int a1), (2, .int a2), (3, .int r4), (4, .int v11_4), (5, .int v28_5)] → ∀ (H : Heap) (locs : List Loc), xI G M28 L s.heap H locs → W p l e (xR 3) s m args below meth c H locs 0 0 (MQ below (xQi G rr MM L s.heap.size) args s 0 0 (xZ G s.heap.size)) (F0 m 28 ls [])) : ∀ (M79 : xMem), f_X1_mostBoxes_b79 v28_5 k28 M79 = some (rr, MM) → ∀ (ls : Array Slot), lv_has ls 6 [(0, .ref (xq G 6 0)), (1, .int a1), (2, .int a2), (3, .int r4), (4, .int v11_4), (5, .int v28_5)] → ∀ (H : Heap) (locs : List Loc), xI G M79 L s.heap H locs → W p l e (xR 3) s m args below meth c H locs 0 0 (MQ below (xQi G rr MM L s.heap.size) args s 0 0 (xZ G s.heap.size)) (F0 m 79 ls []) := by
  have hx := E.1
  have hb := E.2.1
  intro M79 hf ls hl H locs hI
  rw [f_X1_mostBoxes_b79] at hf
  refine lv_iinc (v := (v28_5 + (1 : Int32))) (lv' := [(5, .int (v28_5 + (1 : Int32))), (0, .ref (xq G 6 0)), (1, .int a1), (2, .int a2), (3, .int r4), (4, .int v11_4)]) hx hb dX1_mostBoxes_79 hl (k := 5) rfl rfl (by decide) rfl (fun ls hl => ?_)
  refine lv_goto (tgt := 28) hx hb dX1_mostBoxes_82 (by decide) ?_
  exact hk28 (v28_5 + (1 : Int32)) M79 hf _ (lv_sub hl [1, 2, 3, 4, 5, 0] rfl) _ _ hI
set_option maxHeartbeats 4000000 in
set_option maxRecDepth 100000 in
theorem w_X1_mostBoxes_l28 {p : Program} {l : Launch} {e : Env} {s : State} {m : MethodId} {args : Array Value} {below : List Frame} {meth : Method} {c : Code} {G : xG} {rr : Int32} {MM : xMem} (E : xE p s m args meth c cX1_mostBoxes 6 (some .int) RX1 G) (a1 : Int32) (a2 : Int32) (M : xMem) (L : xLL) (r4 : Int32) (v11_4 : Int32) (M11 : xMem) (k11 : Int32 → xMem → Option (Int32 × xMem)) (hk11 : ∀ (v11_4 : Int32) (M11 : xMem), k11 v11_4 M11 = some (rr, MM) → ∀ (ls : Array Slot), lv_has ls 6 [(0, .ref (xq G 6 0)), (1, .int a1), (2, .int a2), (3, .int r4), (4, .int v11_4)] → ∀ (H : Heap) (locs : List Loc), xI G M11 L s.heap H locs → W p l e (xR 3) s m args below meth c H locs 0 0 (MQ below (xQi G rr MM L s.heap.size) args s 0 0 (xZ G s.heap.size)) (F0 m 11 ls [])) : ∀ (n : Nat), ∀ (v28_5 : Int32) (M28 : xMem), f_X1_mostBoxes_l28 a1 a2 v11_4 k11 n v28_5 M28 = some (rr, MM) → ∀ (ls : Array Slot), lv_has ls 6 [(0, .ref (xq G 6 0)), (1, .int a1), (2, .int a2), (3, .int r4), (4, .int v11_4), (5, .int v28_5)] → ∀ (H : Heap) (locs : List Loc), xI G M28 L s.heap H locs → W p l e (xR 3) s m args below meth c H locs 0 0 (MQ below (xQi G rr MM L s.heap.size) args s 0 0 (xZ G s.heap.size)) (F0 m 28 ls []) := by
  have hx := E.1
  have hb := E.2.1
  intro n
  induction n with
  | zero =>
    intro v28_5 M28 hf
    exact absurd hf (by simp [f_X1_mostBoxes_l28])
  | succ n ih =>
    intro v28_5 M28 hf ls hl H locs hI
    rw [f_X1_mostBoxes_l28] at hf
    refine lv_iload hx hb dX1_mostBoxes_28 (lv_at hl 5 rfl) ?_
    refine lv_iload hx hb dX1_mostBoxes_30 (lv_at hl 4 rfl) ?_
    refine lv_icmp_gt (tgt := 85) hx hb dX1_mostBoxes_32 (by decide) (fun c32 => ?_) (fun c32 => ?_)
    · replace hf := xif_t c32 hf
      refine lv_iinc (v := (v11_4 + (1 : Int32))) (lv' := [(4, .int (v11_4 + (1 : Int32))), (0, .ref (xq G 6 0)), (1, .int a1), (2, .int a2), (3, .int r4), (5, .int v28_5)]) hx hb dX1_mostBoxes_85 hl (k := 4) rfl rfl (by decide) rfl (fun ls hl => ?_)
      refine lv_goto (tgt := 11) hx hb dX1_mostBoxes_88 (by decide) ?_
      exact hk11 (v11_4 + (1 : Int32)) M28 hf _ (lv_sub hl [1, 2, 3, 4, 0] rfl) _ _ hI
    · replace hf := xif_f c32 hf
      refine lv_aload_n hx hb dX1_mostBoxes_35 rfl (lv_at hl 0 rfl) ?_
      refine lv_iload hx hb dX1_mostBoxes_36 (lv_at hl 5 rfl) ?_
      refine lv_iload hx hb dX1_mostBoxes_38 (lv_at hl 4 rfl) ?_
      refine lv_iload_n hx hb dX1_mostBoxes_40 rfl (lv_at hl 1 rfl) ?_
      refine lv_iload_n hx hb dX1_mostBoxes_41 rfl (lv_at hl 2 rfl) ?_
      obtain ⟨r42, g42, hf⟩ := xb1_s hf
      refine x_callVi (As := [.int v28_5, .int v11_4, .int a1, .int a2]) (rest := []) E hI mx_6_0 rfl rfl rfl (c_X1_isBox l G _ (M := M28) (L := L) (a1 := v28_5) (a2 := v11_4) (a3 := a1) (a4 := a2) g42) yv_X1_isBox ml_X1_25 (by decide) (by decide) rfl rfl hl.1 (Nat.le_of_ble_eq_true rfl) dX1_mostBoxes_42 (fun H locs hI => ?_)
      refine lv_if_eq (tgt := 79) hx hb dX1_mostBoxes_45 (by decide) (fun c45 => ?_) (fun c45 => ?_)
      · replace hf := xif_t c45 hf
        exact (w_X1_mostBoxes_b79 E (a1 := a1) (a2 := a2) (M := M) (L := L) (r4 := r4) (v11_4 := v11_4) (v28_5 := v28_5) (M28 := M28) (k28 := (f_X1_mostBoxes_l28 a1 a2 v11_4 k11 n)) (hk28 := ih)) M28 hf _ (lv_sub hl [0, 1, 2, 3, 4, 5] rfl) _ _ hI
      · replace hf := xif_f c45 hf
        refine lv_aload_n hx hb dX1_mostBoxes_48 rfl (lv_at hl 0 rfl) ?_
        refine gf_X1_11 E hI dX1_mostBoxes_49 ?_
        refine lv_iload hx hb dX1_mostBoxes_52 (lv_at hl 4 rfl) ?_
        refine lv_aload_n hx hb dX1_mostBoxes_54 rfl (lv_at hl 0 rfl) ?_
        refine gf_X1_11 E hI dX1_mostBoxes_55 ?_
        refine lv_iload hx hb dX1_mostBoxes_58 (lv_at hl 4 rfl) ?_
        obtain ⟨h60b, hf⟩ := xchk_s hf
        refine x_iald (n := 64) E hI mx_6_2 (fun _ _ => rfl) h60b dX1_mostBoxes_60 ?_
        refine lv_aload_n hx hb dX1_mostBoxes_61 rfl (lv_at hl 0 rfl) ?_
        refine gf_X1_11 E hI dX1_mostBoxes_62 ?_
        refine lv_iload hx hb dX1_mostBoxes_65 (lv_at hl 4 rfl) ?_
        refine lv_iload hx hb dX1_mostBoxes_67 (lv_at hl 5 rfl) ?_
        refine lv_iconst (v := -1) hx hb dX1_mostBoxes_69 (by decide) ?_
        refine lv_ixor hx hb dX1_mostBoxes_70 ?_
        refine lv_iand hx hb dX1_mostBoxes_71 ?_
        obtain ⟨h72b, hf⟩ := xchk_s hf
        refine x_iald (n := 64) E hI mx_6_2 (fun _ _ => rfl) h72b dX1_mostBoxes_72 ?_
        refine lv_iconst (v := 1) hx hb dX1_mostBoxes_73 (by decide) ?_
        refine lv_iadd hx hb dX1_mostBoxes_74 ?_
        refine x_max E ml_X1_38 ms_max mi_math mc_max (by decide) hl.1 (Nat.le_of_ble_eq_true rfl) dX1_mostBoxes_75 ?_
        obtain ⟨h78b, hf⟩ := xchk_s hf
        obtain ⟨M78, e78, hf⟩ := xlet_s hf
        refine x_iast (n := 64) E hI mx_6_2 (fun _ _ => rfl) h78b dX1_mostBoxes_78 e78 (fun H locs hI => ?_)
        exact (w_X1_mostBoxes_b79 E (a1 := a1) (a2 := a2) (M := M) (L := L) (r4 := r4) (v11_4 := v11_4) (v28_5 := v28_5) (M28 := M28) (k28 := (f_X1_mostBoxes_l28 a1 a2 v11_4 k11 n)) (hk28 := ih)) M78 hf _ (lv_sub hl [0, 1, 2, 3, 4, 5] rfl) _ _ hI
set_option maxHeartbeats 4000000 in
set_option maxRecDepth 100000 in
theorem w_X1_mostBoxes_l11 {p : Program} {l : Launch} {e : Env} {s : State} {m : MethodId} {args : Array Value} {below : List Frame} {meth : Method} {c : Code} {G : xG} {rr : Int32} {MM : xMem} (E : xE p s m args meth c cX1_mostBoxes 6 (some .int) RX1 G) (a1 : Int32) (a2 : Int32) (M : xMem) (L : xLL) (r4 : Int32) : ∀ (n : Nat), ∀ (v11_4 : Int32) (M11 : xMem), f_X1_mostBoxes_l11 a1 a2 r4 n v11_4 M11 = some (rr, MM) → ∀ (ls : Array Slot), lv_has ls 6 [(0, .ref (xq G 6 0)), (1, .int a1), (2, .int a2), (3, .int r4), (4, .int v11_4)] → ∀ (H : Heap) (locs : List Loc), xI G M11 L s.heap H locs → W p l e (xR 3) s m args below meth c H locs 0 0 (MQ below (xQi G rr MM L s.heap.size) args s 0 0 (xZ G s.heap.size)) (F0 m 11 ls []) := by
  have hx := E.1
  have hb := E.2.1
  intro n
  induction n with
  | zero =>
    intro v11_4 M11 hf
    exact absurd hf (by simp [f_X1_mostBoxes_l11])
  | succ n ih =>
    intro v11_4 M11 hf ls hl H locs hI
    rw [f_X1_mostBoxes_l11] at hf
    refine lv_iload hx hb dX1_mostBoxes_11 (lv_at hl 4 rfl) ?_
    refine lv_iload_n hx hb dX1_mostBoxes_13 rfl (lv_at hl 3 rfl) ?_
    refine lv_icmp_gt (tgt := 91) hx hb dX1_mostBoxes_14 (by decide) (fun c14 => ?_) (fun c14 => ?_)
    · replace hf := xif_t c14 hf
      refine lv_aload_n hx hb dX1_mostBoxes_91 rfl (lv_at hl 0 rfl) ?_
      refine gf_X1_11 E hI dX1_mostBoxes_92 ?_
      refine lv_iload_n hx hb dX1_mostBoxes_95 rfl (lv_at hl 3 rfl) ?_
      obtain ⟨h96b, hf⟩ := xchk_s hf
      refine x_iald (n := 64) E hI mx_6_2 (fun _ _ => rfl) h96b dX1_mostBoxes_96 ?_
      obtain ⟨rfl, rfl⟩ := xinj2 hf
      exact x_iret E hI rfl dX1_mostBoxes_97
    · replace hf := xif_f c14 hf
      refine lv_aload_n hx hb dX1_mostBoxes_17 rfl (lv_at hl 0 rfl) ?_
      refine gf_X1_11 E hI dX1_mostBoxes_18 ?_
      refine lv_iload hx hb dX1_mostBoxes_21 (lv_at hl 4 rfl) ?_
      refine lv_iconst (v := 0) hx hb dX1_mostBoxes_23 (by decide) ?_
      obtain ⟨h24b, hf⟩ := xchk_s hf
      obtain ⟨M24, e24, hf⟩ := xlet_s hf
      refine x_iast (n := 64) E hI mx_6_2 (fun _ _ => rfl) h24b dX1_mostBoxes_24 e24 (fun H locs hI => ?_)
      refine lv_iconst (v := 1) hx hb dX1_mostBoxes_25 (by decide) ?_
      refine lv_istore (lv' := [(5, .int (1 : Int32)), (0, .ref (xq G 6 0)), (1, .int a1), (2, .int a2), (3, .int r4), (4, .int v11_4)]) hx hb dX1_mostBoxes_26 hl (by decide) rfl (fun ls hl => ?_)
      exact (w_X1_mostBoxes_l28 E (a1 := a1) (a2 := a2) (M := M) (L := L) (r4 := r4) (v11_4 := v11_4) (M11 := M11) (k11 := (f_X1_mostBoxes_l11 a1 a2 r4 n)) (hk11 := ih) FU) (1 : Int32) M24 hf _ (lv_sub hl [1, 2, 3, 4, 5, 0] rfl) _ _ hI
set_option maxHeartbeats 4000000 in
set_option maxRecDepth 100000 in
theorem c_X1_mostBoxes (l : Launch) (G : xG) (sz : Nat) (M : xMem) (L : xLL) (a1 : Int32) (a2 : Int32) {rr : Int32} {MM : xMem} (hf : f_X1_mostBoxes a1 a2 M = some (rr, MM)) : Met l yX1_mostBoxes (Cond.code yX1_mostBoxes cX1_mostBoxes 6 (some .int) :: xTB) (xR 3) (xP G M L sz [.ref (xq G 6 0), .int a1, .int a2]) (xQi G rr MM L sz) 0 0 (xZ G sz) := by
  refine x_met (cc := cX1_mostBoxes) (nL := 6) (rt := (some .int)) (by decide) (Nat.le_of_ble_eq_true rfl) ?_
  intro p e s m below meth c ls hsz E hl hI
  subst hsz
  have E : xE p s m _ meth c cX1_mostBoxes 6 (some .int) RX1 G := E
  have hx := E.1
  have hb := E.2.1
  have hl : lv_has ls 6 [(0, .ref (xq G 6 0)), (1, .int a1), (2, .int a2)] := hl
  rw [f_X1_mostBoxes] at hf
  refine lv_aload_n hx hb dX1_mostBoxes_0 rfl (lv_at hl 0 rfl) ?_
  refine gf_X1_15 E hI dX1_mostBoxes_1 ?_
  obtain ⟨r4, g4, hf⟩ := xb1_s hf
  refine x_callVi (As := []) (rest := []) E hI (mf_0 (by decide)) rfl rfl rfl (c_X0_eggsInTrays l G _ (M := M) (L := L) (i := 0) (hi := (by decide)) g4) yv_X0_eggsInTrays ml_X1_19 (by decide) (by decide) rfl rfl hl.1 (Nat.le_of_ble_eq_true rfl) dX1_mostBoxes_4 (fun H locs hI => ?_)
  refine lv_istore_n (lv' := [(3, .int r4), (0, .ref (xq G 6 0)), (1, .int a1), (2, .int a2)]) hx hb dX1_mostBoxes_7 rfl hl (by decide) rfl (fun ls hl => ?_)
  refine lv_iconst (v := 0) hx hb dX1_mostBoxes_8 (by decide) ?_
  refine lv_istore (lv' := [(4, .int (0 : Int32)), (3, .int r4), (0, .ref (xq G 6 0)), (1, .int a1), (2, .int a2)]) hx hb dX1_mostBoxes_9 hl (by decide) rfl (fun ls hl => ?_)
  exact (w_X1_mostBoxes_l11 E (a1 := a1) (a2 := a2) (M := M) (L := L) (r4 := r4) FU) (0 : Int32) M hf _ (lv_sub hl [2, 3, 4, 1, 0] rfl) _ _ hI
theorem dX2_remember_0 : decode cX2_remember 0 = .ok (.aload_n 0, 1) := by decide +kernel
theorem dX2_remember_1 : decode cX2_remember 1 = .ok (.aload_n 0, 1) := by decide +kernel
theorem dX2_remember_2 : decode cX2_remember 2 = .ok (.getfield 20, 3) := by decide +kernel
theorem dX2_remember_5 : decode cX2_remember 5 = .ok (.iconst 1, 1) := by decide +kernel
theorem dX2_remember_6 : decode cX2_remember 6 = .ok (.iadd, 1) := by decide +kernel
theorem dX2_remember_7 : decode cX2_remember 7 = .ok (.bipush 10, 2) := by decide +kernel
theorem dX2_remember_9 : decode cX2_remember 9 = .ok (.irem, 1) := by decide +kernel
theorem dX2_remember_10 : decode cX2_remember 10 = .ok (.putfield 20, 3) := by decide +kernel
theorem dX2_remember_13 : decode cX2_remember 13 = .ok (.aload_n 0, 1) := by decide +kernel
theorem dX2_remember_14 : decode cX2_remember 14 = .ok (.getfield 11, 3) := by decide +kernel
theorem dX2_remember_17 : decode cX2_remember 17 = .ok (.aload_n 0, 1) := by decide +kernel
theorem dX2_remember_18 : decode cX2_remember 18 = .ok (.getfield 20, 3) := by decide +kernel
theorem dX2_remember_21 : decode cX2_remember 21 = .ok (.aaload, 1) := by decide +kernel
theorem dX2_remember_22 : decode cX2_remember 22 = .ok (.aload_n 1, 1) := by decide +kernel
theorem dX2_remember_23 : decode cX2_remember 23 = .ok (.invokevirtual 24, 3) := by decide +kernel
theorem dX2_remember_26 : decode cX2_remember 26 = .ok (.aload_n 0, 1) := by decide +kernel
theorem dX2_remember_27 : decode cX2_remember 27 = .ok (.bipush 10, 2) := by decide +kernel
theorem dX2_remember_29 : decode cX2_remember 29 = .ok (.aload_n 0, 1) := by decide +kernel
theorem dX2_remember_30 : decode cX2_remember 30 = .ok (.getfield 28, 3) := by decide +kernel
theorem dX2_remember_33 : decode cX2_remember 33 = .ok (.iconst 1, 1) := by decide +kernel
theorem dX2_remember_34 : decode cX2_remember 34 = .ok (.iadd, 1) := by decide +kernel
theorem dX2_remember_35 : decode cX2_remember 35 = .ok (.invokestatic 31, 3) := by decide +kernel
theorem dX2_remember_38 : decode cX2_remember 38 = .ok (.putfield 28, 3) := by decide +kernel
theorem dX2_remember_41 : decode cX2_remember 41 = .ok (.return_, 1) := by decide +kernel
def f_X2_remember (j1 : Nat) (M : xMem) : Option (xMem) := xlet (xsf M 4 1 (((M 4 0 1) + (1 : Int32)) - ((M 4 0 1) + (1 : Int32)) / (10 : Int32) * (10 : Int32))) (fun M10 => xchk (xb (M10 4 0 1) 10) (xb1 (f_X0_become ((M10 4 0 1).toNatClampNeg + 4) j1 M10) (fun M23 => xlet (xsf M23 4 2 (if ((M23 4 0 2) + (1 : Int32)) < (10 : Int32) then ((M23 4 0 2) + (1 : Int32)) else (10 : Int32))) (fun M38 => some M38))))
set_option maxHeartbeats 4000000 in
set_option maxRecDepth 100000 in
theorem c_X2_remember (l : Launch) (G : xG) (sz : Nat) (M : xMem) (L : xLL) (j1 : Nat) (hj1 : j1 < 21) {MM : xMem} (hf : f_X2_remember j1 M = some MM) : Met l yX2_remember (Cond.code yX2_remember cX2_remember 2 none :: xTB) (xR 2) (xP G M L sz [.ref (xq G 4 0), .ref (xq G (j1 + 9) 0)]) (xQv G MM L sz) 0 0 (xZ G sz) := by
  refine x_met (cc := cX2_remember) (nL := 2) (rt := none) (by decide) (Nat.le_of_ble_eq_true rfl) ?_
  intro p e s m below meth c ls hsz E hl hI
  subst hsz
  have E : xE p s m _ meth c cX2_remember 2 none RX2 G := E
  have hx := E.1
  have hb := E.2.1
  have hl : lv_has ls 2 [(0, .ref (xq G 4 0)), (1, .ref (xq G (j1 + 9) 0))] := hl
  rw [f_X2_remember] at hf
  refine lv_aload_n hx hb dX2_remember_0 rfl (lv_at hl 0 rfl) ?_
  refine lv_aload_n hx hb dX2_remember_1 rfl (lv_at hl 0 rfl) ?_
  refine gf_X2_20 E hI dX2_remember_2 ?_
  refine lv_iconst (v := 1) hx hb dX2_remember_5 (by decide) ?_
  refine lv_iadd hx hb dX2_remember_6 ?_
  refine lv_bipush (v := 10) hx hb dX2_remember_7 (by decide) ?_
  refine lv_irem hx hb dX2_remember_9 (by decide) ?_
  obtain ⟨M10, e10, hf⟩ := xlet_s hf
  refine pf_X2_20 E hI dX2_remember_10 e10 (fun H locs hI => ?_)
  refine lv_aload_n hx hb dX2_remember_13 rfl (lv_at hl 0 rfl) ?_
  refine gf_X2_11 E hI dX2_remember_14 ?_
  refine lv_aload_n hx hb dX2_remember_17 rfl (lv_at hl 0 rfl) ?_
  refine gf_X2_20 E hI dX2_remember_18 ?_
  obtain ⟨h21b, hf⟩ := xchk_s hf
  refine x_aald (n := 10) E hI mx_4_1 (fun _ _ => rfl) h21b dX2_remember_21 ?_
  refine lv_aload_n hx hb dX2_remember_22 rfl (lv_at hl 1 rfl) ?_
  obtain ⟨M23, g23, hf⟩ := xb1_s hf
  refine x_callVv (As := [.ref (xq G (j1 + 9) 0)]) (rest := []) E hI (mf_0 (xb_fl (n := 10) h21b (by decide))) rfl rfl rfl (c_X0_become l G _ (M := M10) (L := L) (i := ((M10 4 0 1).toNatClampNeg + 4)) (hi := (xb_fl (n := 10) h21b (by decide))) (j1 := j1) (hj1 := hj1) g23) yv_X0_become ml_X2_24 (by decide) (by decide) rfl rfl hl.1 (Nat.le_of_ble_eq_true rfl) dX2_remember_23 (fun H locs hI => ?_)
  refine lv_aload_n hx hb dX2_remember_26 rfl (lv_at hl 0 rfl) ?_
  refine lv_bipush (v := 10) hx hb dX2_remember_27 (by decide) ?_
  refine lv_aload_n hx hb dX2_remember_29 rfl (lv_at hl 0 rfl) ?_
  refine gf_X2_28 E hI dX2_remember_30 ?_
  refine lv_iconst (v := 1) hx hb dX2_remember_33 (by decide) ?_
  refine lv_iadd hx hb dX2_remember_34 ?_
  refine x_min E ml_X2_31 ms_min mi_math mc_min (by decide) hl.1 (Nat.le_of_ble_eq_true rfl) dX2_remember_35 ?_
  obtain ⟨M38, e38, hf⟩ := xlet_s hf
  refine pf_X2_28 E hI dX2_remember_38 e38 (fun H locs hI => ?_)
  obtain rfl := xinj1 hf
  exact x_vret E hI dX2_remember_41
theorem dX2_recall_0 : decode cX2_recall 0 = .ok (.aload_n 1, 1) := by decide +kernel
theorem dX2_recall_1 : decode cX2_recall 1 = .ok (.aload_n 0, 1) := by decide +kernel
theorem dX2_recall_2 : decode cX2_recall 2 = .ok (.getfield 11, 3) := by decide +kernel
theorem dX2_recall_5 : decode cX2_recall 5 = .ok (.aload_n 0, 1) := by decide +kernel
theorem dX2_recall_6 : decode cX2_recall 6 = .ok (.getfield 20, 3) := by decide +kernel
theorem dX2_recall_9 : decode cX2_recall 9 = .ok (.aaload, 1) := by decide +kernel
theorem dX2_recall_10 : decode cX2_recall 10 = .ok (.invokevirtual 24, 3) := by decide +kernel
theorem dX2_recall_13 : decode cX2_recall 13 = .ok (.aload_n 0, 1) := by decide +kernel
theorem dX2_recall_14 : decode cX2_recall 14 = .ok (.aload_n 0, 1) := by decide +kernel
theorem dX2_recall_15 : decode cX2_recall 15 = .ok (.getfield 20, 3) := by decide +kernel
theorem dX2_recall_18 : decode cX2_recall 18 = .ok (.bipush 10, 2) := by decide +kernel
theorem dX2_recall_20 : decode cX2_recall 20 = .ok (.iadd, 1) := by decide +kernel
theorem dX2_recall_21 : decode cX2_recall 21 = .ok (.iconst 1, 1) := by decide +kernel
theorem dX2_recall_22 : decode cX2_recall 22 = .ok (.isub, 1) := by decide +kernel
theorem dX2_recall_23 : decode cX2_recall 23 = .ok (.bipush 10, 2) := by decide +kernel
theorem dX2_recall_25 : decode cX2_recall 25 = .ok (.irem, 1) := by decide +kernel
theorem dX2_recall_26 : decode cX2_recall 26 = .ok (.putfield 20, 3) := by decide +kernel
theorem dX2_recall_29 : decode cX2_recall 29 = .ok (.aload_n 0, 1) := by decide +kernel
theorem dX2_recall_30 : decode cX2_recall 30 = .ok (.dup, 1) := by decide +kernel
theorem dX2_recall_31 : decode cX2_recall 31 = .ok (.getfield 28, 3) := by decide +kernel
theorem dX2_recall_34 : decode cX2_recall 34 = .ok (.iconst 1, 1) := by decide +kernel
theorem dX2_recall_35 : decode cX2_recall 35 = .ok (.isub, 1) := by decide +kernel
theorem dX2_recall_36 : decode cX2_recall 36 = .ok (.putfield 28, 3) := by decide +kernel
theorem dX2_recall_39 : decode cX2_recall 39 = .ok (.return_, 1) := by decide +kernel
def f_X2_recall (j1 : Nat) (M : xMem) : Option (xMem) := xchk (xb (M 4 0 1) 10) (xb1 (f_X0_become j1 ((M 4 0 1).toNatClampNeg + 4) M) (fun M10 => xlet (xsf M10 4 1 ((((M10 4 0 1) + (10 : Int32)) - (1 : Int32)) - (((M10 4 0 1) + (10 : Int32)) - (1 : Int32)) / (10 : Int32) * (10 : Int32))) (fun M26 => xlet (xsf M26 4 2 ((M26 4 0 2) - (1 : Int32))) (fun M36 => some M36))))
set_option maxHeartbeats 4000000 in
set_option maxRecDepth 100000 in
theorem c_X2_recall (l : Launch) (G : xG) (sz : Nat) (M : xMem) (L : xLL) (j1 : Nat) (hj1 : j1 < 21) {MM : xMem} (hf : f_X2_recall j1 M = some MM) : Met l yX2_recall (Cond.code yX2_recall cX2_recall 2 none :: xTB) (xR 2) (xP G M L sz [.ref (xq G 4 0), .ref (xq G (j1 + 9) 0)]) (xQv G MM L sz) 0 0 (xZ G sz) := by
  refine x_met (cc := cX2_recall) (nL := 2) (rt := none) (by decide) (Nat.le_of_ble_eq_true rfl) ?_
  intro p e s m below meth c ls hsz E hl hI
  subst hsz
  have E : xE p s m _ meth c cX2_recall 2 none RX2 G := E
  have hx := E.1
  have hb := E.2.1
  have hl : lv_has ls 2 [(0, .ref (xq G 4 0)), (1, .ref (xq G (j1 + 9) 0))] := hl
  rw [f_X2_recall] at hf
  refine lv_aload_n hx hb dX2_recall_0 rfl (lv_at hl 1 rfl) ?_
  refine lv_aload_n hx hb dX2_recall_1 rfl (lv_at hl 0 rfl) ?_
  refine gf_X2_11 E hI dX2_recall_2 ?_
  refine lv_aload_n hx hb dX2_recall_5 rfl (lv_at hl 0 rfl) ?_
  refine gf_X2_20 E hI dX2_recall_6 ?_
  obtain ⟨h9b, hf⟩ := xchk_s hf
  refine x_aald (n := 10) E hI mx_4_1 (fun _ _ => rfl) h9b dX2_recall_9 ?_
  obtain ⟨M10, g10, hf⟩ := xb1_s hf
  refine x_callVv (As := [.ref (xq G (((M 4 0 1).toNatClampNeg + 4) + 9) 0)]) (rest := []) E hI (mf_0 hj1) rfl rfl rfl (c_X0_become l G _ (M := M) (L := L) (i := j1) (hi := hj1) (j1 := ((M 4 0 1).toNatClampNeg + 4)) (hj1 := (xb_fl (n := 10) h9b (by decide))) g10) yv_X0_become ml_X2_24 (by decide) (by decide) rfl rfl hl.1 (Nat.le_of_ble_eq_true rfl) dX2_recall_10 (fun H locs hI => ?_)
  refine lv_aload_n hx hb dX2_recall_13 rfl (lv_at hl 0 rfl) ?_
  refine lv_aload_n hx hb dX2_recall_14 rfl (lv_at hl 0 rfl) ?_
  refine gf_X2_20 E hI dX2_recall_15 ?_
  refine lv_bipush (v := 10) hx hb dX2_recall_18 (by decide) ?_
  refine lv_iadd hx hb dX2_recall_20 ?_
  refine lv_iconst (v := 1) hx hb dX2_recall_21 (by decide) ?_
  refine lv_isub hx hb dX2_recall_22 ?_
  refine lv_bipush (v := 10) hx hb dX2_recall_23 (by decide) ?_
  refine lv_irem hx hb dX2_recall_25 (by decide) ?_
  obtain ⟨M26, e26, hf⟩ := xlet_s hf
  refine pf_X2_20 E hI dX2_recall_26 e26 (fun H locs hI => ?_)
  refine lv_aload_n hx hb dX2_recall_29 rfl (lv_at hl 0 rfl) ?_
  refine lv_dup hx hb dX2_recall_30 rfl ?_
  refine gf_X2_28 E hI dX2_recall_31 ?_
  refine lv_iconst (v := 1) hx hb dX2_recall_34 (by decide) ?_
  refine lv_isub hx hb dX2_recall_35 ?_
  obtain ⟨M36, e36, hf⟩ := xlet_s hf
  refine pf_X2_28 E hI dX2_recall_36 e36 (fun H locs hI => ?_)
  obtain rfl := xinj1 hf
  exact x_vret E hI dX2_recall_39
theorem dX5_add_0 : decode cX5_add 0 = .ok (.aload_n 0, 1) := by decide +kernel
theorem dX5_add_1 : decode cX5_add 1 = .ok (.getfield 9, 3) := by decide +kernel
theorem dX5_add_4 : decode cX5_add 4 = .ok (.aload_n 0, 1) := by decide +kernel
theorem dX5_add_5 : decode cX5_add 5 = .ok (.getfield 31, 3) := by decide +kernel
theorem dX5_add_8 : decode cX5_add 8 = .ok (.iload_n 1, 1) := by decide +kernel
theorem dX5_add_9 : decode cX5_add 9 = .ok (.iastore, 1) := by decide +kernel
theorem dX5_add_10 : decode cX5_add 10 = .ok (.aload_n 0, 1) := by decide +kernel
theorem dX5_add_11 : decode cX5_add 11 = .ok (.getfield 15, 3) := by decide +kernel
theorem dX5_add_14 : decode cX5_add 14 = .ok (.aload_n 0, 1) := by decide +kernel
theorem dX5_add_15 : decode cX5_add 15 = .ok (.getfield 31, 3) := by decide +kernel
theorem dX5_add_18 : decode cX5_add 18 = .ok (.iload_n 2, 1) := by decide +kernel
theorem dX5_add_19 : decode cX5_add 19 = .ok (.iastore, 1) := by decide +kernel
theorem dX5_add_20 : decode cX5_add 20 = .ok (.aload_n 0, 1) := by decide +kernel
theorem dX5_add_21 : decode cX5_add 21 = .ok (.dup, 1) := by decide +kernel
theorem dX5_add_22 : decode cX5_add 22 = .ok (.getfield 31, 3) := by decide +kernel
theorem dX5_add_25 : decode cX5_add 25 = .ok (.iconst 1, 1) := by decide +kernel
theorem dX5_add_26 : decode cX5_add 26 = .ok (.iadd, 1) := by decide +kernel
theorem dX5_add_27 : decode cX5_add 27 = .ok (.putfield 31, 3) := by decide +kernel
theorem dX5_add_30 : decode cX5_add 30 = .ok (.return_, 1) := by decide +kernel
def f_X5_add (a1 : Int32) (a2 : Int32) (M : xMem) : Option (xMem) := xchk (xb (M 7 0 3) 6) (xlet (xst M 7 2 (M 7 0 3) a1) (fun M9 => xchk (xb (M9 7 0 3) 6) (xlet (xst M9 7 3 (M9 7 0 3) a2) (fun M19 => xlet (xsf M19 7 3 ((M19 7 0 3) + (1 : Int32))) (fun M27 => some M27)))))
set_option maxHeartbeats 4000000 in
set_option maxRecDepth 100000 in
theorem c_X5_add (l : Launch) (G : xG) (sz : Nat) (M : xMem) (L : xLL) (a1 : Int32) (a2 : Int32) {MM : xMem} (hf : f_X5_add a1 a2 M = some MM) : Met l yX5_add (Cond.code yX5_add cX5_add 3 none :: xTB) (xR 1) (xP G M L sz [.ref (xq G 7 0), .int a1, .int a2]) (xQv G MM L sz) 0 0 (xZ G sz) := by
  refine x_met (cc := cX5_add) (nL := 3) (rt := none) (by decide) (Nat.le_of_ble_eq_true rfl) ?_
  intro p e s m below meth c ls hsz E hl hI
  subst hsz
  have E : xE p s m _ meth c cX5_add 3 none RX5 G := E
  have hx := E.1
  have hb := E.2.1
  have hl : lv_has ls 3 [(0, .ref (xq G 7 0)), (1, .int a1), (2, .int a2)] := hl
  rw [f_X5_add] at hf
  refine lv_aload_n hx hb dX5_add_0 rfl (lv_at hl 0 rfl) ?_
  refine gf_X5_9 E hI dX5_add_1 ?_
  refine lv_aload_n hx hb dX5_add_4 rfl (lv_at hl 0 rfl) ?_
  refine gf_X5_31 E hI dX5_add_5 ?_
  refine lv_iload_n hx hb dX5_add_8 rfl (lv_at hl 1 rfl) ?_
  obtain ⟨h9b, hf⟩ := xchk_s hf
  obtain ⟨M9, e9, hf⟩ := xlet_s hf
  refine x_iast (n := 6) E hI mx_7_2 (fun _ _ => rfl) h9b dX5_add_9 e9 (fun H locs hI => ?_)
  refine lv_aload_n hx hb dX5_add_10 rfl (lv_at hl 0 rfl) ?_
  refine gf_X5_15 E hI dX5_add_11 ?_
  refine lv_aload_n hx hb dX5_add_14 rfl (lv_at hl 0 rfl) ?_
  refine gf_X5_31 E hI dX5_add_15 ?_
  refine lv_iload_n hx hb dX5_add_18 rfl (lv_at hl 2 rfl) ?_
  obtain ⟨h19b, hf⟩ := xchk_s hf
  obtain ⟨M19, e19, hf⟩ := xlet_s hf
  refine x_iast (n := 6) E hI mx_7_3 (fun _ _ => rfl) h19b dX5_add_19 e19 (fun H locs hI => ?_)
  refine lv_aload_n hx hb dX5_add_20 rfl (lv_at hl 0 rfl) ?_
  refine lv_dup hx hb dX5_add_21 rfl ?_
  refine gf_X5_31 E hI dX5_add_22 ?_
  refine lv_iconst (v := 1) hx hb dX5_add_25 (by decide) ?_
  refine lv_iadd hx hb dX5_add_26 ?_
  obtain ⟨M27, e27, hf⟩ := xlet_s hf
  refine pf_X5_31 E hI dX5_add_27 e27 (fun H locs hI => ?_)
  obtain rfl := xinj1 hf
  exact x_vret E hI dX5_add_30
theorem dX5_fallsFrom_0 : decode cX5_fallsFrom 0 = .ok (.iconst 0, 1) := by decide +kernel
theorem dX5_fallsFrom_1 : decode cX5_fallsFrom 1 = .ok (.istore 4, 2) := by decide +kernel
theorem dX5_fallsFrom_3 : decode cX5_fallsFrom 3 = .ok (.iload 4, 2) := by decide +kernel
theorem dX5_fallsFrom_5 : decode cX5_fallsFrom 5 = .ok (.aload_n 0, 1) := by decide +kernel
theorem dX5_fallsFrom_6 : decode cX5_fallsFrom 6 = .ok (.getfield 27, 3) := by decide +kernel
theorem dX5_fallsFrom_9 : decode cX5_fallsFrom 9 = .ok (.getfield 42, 3) := by decide +kernel
theorem dX5_fallsFrom_12 : decode cX5_fallsFrom 12 = .ok (.if_icmp .ge 51, 3) := by decide +kernel
theorem dX5_fallsFrom_15 : decode cX5_fallsFrom 15 = .ok (.iload 4, 2) := by decide +kernel
theorem dX5_fallsFrom_17 : decode cX5_fallsFrom 17 = .ok (.iload_n 2, 1) := by decide +kernel
theorem dX5_fallsFrom_18 : decode cX5_fallsFrom 18 = .ok (.if_icmp .ne 18, 3) := by decide +kernel
theorem dX5_fallsFrom_21 : decode cX5_fallsFrom 21 = .ok (.aload_n 0, 1) := by decide +kernel
theorem dX5_fallsFrom_22 : decode cX5_fallsFrom 22 = .ok (.getfield 27, 3) := by decide +kernel
theorem dX5_fallsFrom_25 : decode cX5_fallsFrom 25 = .ok (.getfield 51, 3) := by decide +kernel
theorem dX5_fallsFrom_28 : decode cX5_fallsFrom 28 = .ok (.iload 4, 2) := by decide +kernel
theorem dX5_fallsFrom_30 : decode cX5_fallsFrom 30 = .ok (.iaload, 1) := by decide +kernel
theorem dX5_fallsFrom_31 : decode cX5_fallsFrom 31 = .ok (.iload_n 3, 1) := by decide +kernel
theorem dX5_fallsFrom_32 : decode cX5_fallsFrom 32 = .ok (.iadd, 1) := by decide +kernel
theorem dX5_fallsFrom_33 : decode cX5_fallsFrom 33 = .ok (.goto 13, 3) := by decide +kernel
theorem dX5_fallsFrom_36 : decode cX5_fallsFrom 36 = .ok (.aload_n 0, 1) := by decide +kernel
theorem dX5_fallsFrom_37 : decode cX5_fallsFrom 37 = .ok (.getfield 27, 3) := by decide +kernel
theorem dX5_fallsFrom_40 : decode cX5_fallsFrom 40 = .ok (.getfield 51, 3) := by decide +kernel
theorem dX5_fallsFrom_43 : decode cX5_fallsFrom 43 = .ok (.iload 4, 2) := by decide +kernel
theorem dX5_fallsFrom_45 : decode cX5_fallsFrom 45 = .ok (.iaload, 1) := by decide +kernel
theorem dX5_fallsFrom_46 : decode cX5_fallsFrom 46 = .ok (.istore 5, 2) := by decide +kernel
theorem dX5_fallsFrom_48 : decode cX5_fallsFrom 48 = .ok (.iload_n 1, 1) := by decide +kernel
theorem dX5_fallsFrom_49 : decode cX5_fallsFrom 49 = .ok (.iload 5, 2) := by decide +kernel
theorem dX5_fallsFrom_51 : decode cX5_fallsFrom 51 = .ok (.if_icmp .lt 6, 3) := by decide +kernel
theorem dX5_fallsFrom_54 : decode cX5_fallsFrom 54 = .ok (.iload 4, 2) := by decide +kernel
theorem dX5_fallsFrom_56 : decode cX5_fallsFrom 56 = .ok (.ireturn, 1) := by decide +kernel
theorem dX5_fallsFrom_57 : decode cX5_fallsFrom 57 = .ok (.iinc 4 1, 3) := by decide +kernel
theorem dX5_fallsFrom_60 : decode cX5_fallsFrom 60 = .ok (.goto (-57), 3) := by decide +kernel
theorem dX5_fallsFrom_63 : decode cX5_fallsFrom 63 = .ok (.bipush (-9), 2) := by decide +kernel
theorem dX5_fallsFrom_65 : decode cX5_fallsFrom 65 = .ok (.ireturn, 1) := by decide +kernel
def f_X5_fallsFrom_b46 (a1 : Int32) (v3_4 : Int32) (k3 : Int32 → Option (Int32)) (t46_0 : Int32) : Option (Int32) := (if a1 < t46_0 then k3 (v3_4 + (1 : Int32)) else some v3_4)
def f_X5_fallsFrom_l3 (a1 : Int32) (a2 : Int32) (a3 : Int32) (M : xMem) : Nat → Int32 → Option (Int32)
  | 0, _ => none
  | n + 1, v3_4 => (if (M 3 0 0) ≤ v3_4 then some (-9 : Int32) else (if v3_4 = a2 then xchk (xb v3_4 5) ((f_X5_fallsFrom_b46 a1 v3_4 (f_X5_fallsFrom_l3 a1 a2 a3 M n)) ((M 3 3 v3_4.toNatClampNeg) + a3)) else xchk (xb v3_4 5) ((f_X5_fallsFrom_b46 a1 v3_4 (f_X5_fallsFrom_l3 a1 a2 a3 M n)) (M 3 3 v3_4.toNatClampNeg))))
def f_X5_fallsFrom (a1 : Int32) (a2 : Int32) (a3 : Int32) (M : xMem) : Option (Int32) := (f_X5_fallsFrom_l3 a1 a2 a3 M FU) (0 : Int32)
set_option maxHeartbeats 4000000 in
set_option maxRecDepth 100000 in
theorem w_X5_fallsFrom_b46 {p : Program} {l : Launch} {e : Env} {s : State} {m : MethodId} {args : Array Value} {below : List Frame} {meth : Method} {c : Code} {G : xG} {rr : Int32} (E : xE p s m args meth c cX5_fallsFrom 6 (some .int) RX5 G) (a1 : Int32) (a2 : Int32) (a3 : Int32) (M : xMem) (L : xLL) (v3_4 : Int32) (k3 : Int32 → Option (Int32)) (hk3 : ∀ (v3_4 : Int32), k3 v3_4 = some rr → ∀ (ls : Array Slot), lv_has ls 6 [(0, .ref (xq G 7 0)), (1, .int a1), (2, .int a2), (3, .int a3), (4, .int v3_4)] → ∀ (H : Heap) (locs : List Loc), xI G M L s.heap H locs → W p l e (xR 1) s m args below meth c H locs 0 0 (MQ below (xQi G rr M L s.heap.size) args s 0 0 (xZ G s.heap.size)) (F0 m 3 ls [])) : ∀ (t46_0 : Int32), f_X5_fallsFrom_b46 a1 v3_4 k3 t46_0 = some rr → ∀ (ls : Array Slot), lv_has ls 6 [(0, .ref (xq G 7 0)), (1, .int a1), (2, .int a2), (3, .int a3), (4, .int v3_4)] → ∀ (H : Heap) (locs : List Loc), xI G M L s.heap H locs → W p l e (xR 1) s m args below meth c H locs 0 0 (MQ below (xQi G rr M L s.heap.size) args s 0 0 (xZ G s.heap.size)) (F0 m 46 ls [.int t46_0]) := by
  have hx := E.1
  have hb := E.2.1
  intro t46_0 hf ls hl H locs hI
  rw [f_X5_fallsFrom_b46] at hf
  refine lv_istore (lv' := [(5, .int t46_0), (0, .ref (xq G 7 0)), (1, .int a1), (2, .int a2), (3, .int a3), (4, .int v3_4)]) hx hb dX5_fallsFrom_46 hl (by decide) rfl (fun ls hl => ?_)
  refine lv_iload_n hx hb dX5_fallsFrom_48 rfl (lv_at hl 2 rfl) ?_
  refine lv_iload hx hb dX5_fallsFrom_49 (lv_at hl 0 rfl) ?_
  refine lv_icmp_lt (tgt := 57) hx hb dX5_fallsFrom_51 (by decide) (fun c51 => ?_) (fun c51 => ?_)
  · replace hf := xif_t c51 hf
    refine lv_iinc (v := (v3_4 + (1 : Int32))) (lv' := [(4, .int (v3_4 + (1 : Int32))), (5, .int t46_0), (0, .ref (xq G 7 0)), (1, .int a1), (2, .int a2), (3, .int a3)]) hx hb dX5_fallsFrom_57 hl (k := 5) rfl rfl (by decide) rfl (fun ls hl => ?_)
    refine lv_goto (tgt := 3) hx hb dX5_fallsFrom_60 (by decide) ?_
    exact hk3 (v3_4 + (1 : Int32)) hf _ (lv_sub hl [2, 3, 4, 5, 0] rfl) _ _ hI
  · replace hf := xif_f c51 hf
    refine lv_iload hx hb dX5_fallsFrom_54 (lv_at hl 5 rfl) ?_
    obtain rfl := xinj1 hf
    exact x_iret E hI rfl dX5_fallsFrom_56
set_option maxHeartbeats 4000000 in
set_option maxRecDepth 100000 in
theorem w_X5_fallsFrom_l3 {p : Program} {l : Launch} {e : Env} {s : State} {m : MethodId} {args : Array Value} {below : List Frame} {meth : Method} {c : Code} {G : xG} {rr : Int32} (E : xE p s m args meth c cX5_fallsFrom 6 (some .int) RX5 G) (a1 : Int32) (a2 : Int32) (a3 : Int32) (M : xMem) (L : xLL) : ∀ (n : Nat), ∀ (v3_4 : Int32), f_X5_fallsFrom_l3 a1 a2 a3 M n v3_4 = some rr → ∀ (ls : Array Slot), lv_has ls 6 [(0, .ref (xq G 7 0)), (1, .int a1), (2, .int a2), (3, .int a3), (4, .int v3_4)] → ∀ (H : Heap) (locs : List Loc), xI G M L s.heap H locs → W p l e (xR 1) s m args below meth c H locs 0 0 (MQ below (xQi G rr M L s.heap.size) args s 0 0 (xZ G s.heap.size)) (F0 m 3 ls []) := by
  have hx := E.1
  have hb := E.2.1
  intro n
  induction n with
  | zero =>
    intro v3_4 hf
    exact absurd hf (by simp [f_X5_fallsFrom_l3])
  | succ n ih =>
    intro v3_4 hf ls hl H locs hI
    rw [f_X5_fallsFrom_l3] at hf
    refine lv_iload hx hb dX5_fallsFrom_3 (lv_at hl 4 rfl) ?_
    refine lv_aload_n hx hb dX5_fallsFrom_5 rfl (lv_at hl 0 rfl) ?_
    refine gf_X5_27 E hI dX5_fallsFrom_6 ?_
    refine gf_X5_42_3 E hI dX5_fallsFrom_9 ?_
    refine lv_icmp_ge (tgt := 63) hx hb dX5_fallsFrom_12 (by decide) (fun c12 => ?_) (fun c12 => ?_)
    · replace hf := xif_t c12 hf
      refine lv_bipush (v := -9) hx hb dX5_fallsFrom_63 (by decide) ?_
      obtain rfl := xinj1 hf
      exact x_iret E hI rfl dX5_fallsFrom_65
    · replace hf := xif_f c12 hf
      refine lv_iload hx hb dX5_fallsFrom_15 (lv_at hl 4 rfl) ?_
      refine lv_iload_n hx hb dX5_fallsFrom_17 rfl (lv_at hl 2 rfl) ?_
      refine lv_icmp_ne (tgt := 36) hx hb dX5_fallsFrom_18 (by decide) (fun c18 => ?_) (fun c18 => ?_)
      · replace hf := xif_f c18 hf
        refine lv_aload_n hx hb dX5_fallsFrom_36 rfl (lv_at hl 0 rfl) ?_
        refine gf_X5_27 E hI dX5_fallsFrom_37 ?_
        refine gf_X5_51_3 E hI dX5_fallsFrom_40 ?_
        refine lv_iload hx hb dX5_fallsFrom_43 (lv_at hl 4 rfl) ?_
        obtain ⟨h45b, hf⟩ := xchk_s hf
        refine x_iald (n := 5) E hI mx_3_3 (fun _ _ => rfl) h45b dX5_fallsFrom_45 ?_
        exact (w_X5_fallsFrom_b46 E (a1 := a1) (a2 := a2) (a3 := a3) (M := M) (L := L) (v3_4 := v3_4) (k3 := (f_X5_fallsFrom_l3 a1 a2 a3 M n)) (hk3 := ih)) (M 3 3 v3_4.toNatClampNeg) hf _ (lv_sub hl [0, 1, 2, 3, 4] rfl) _ _ hI
      · replace hf := xif_t c18 hf
        refine lv_aload_n hx hb dX5_fallsFrom_21 rfl (lv_at hl 0 rfl) ?_
        refine gf_X5_27 E hI dX5_fallsFrom_22 ?_
        refine gf_X5_51_3 E hI dX5_fallsFrom_25 ?_
        refine lv_iload hx hb dX5_fallsFrom_28 (lv_at hl 4 rfl) ?_
        obtain ⟨h30b, hf⟩ := xchk_s hf
        refine x_iald (n := 5) E hI mx_3_3 (fun _ _ => rfl) h30b dX5_fallsFrom_30 ?_
        refine lv_iload_n hx hb dX5_fallsFrom_31 rfl (lv_at hl 3 rfl) ?_
        refine lv_iadd hx hb dX5_fallsFrom_32 ?_
        refine lv_goto (tgt := 46) hx hb dX5_fallsFrom_33 (by decide) ?_
        exact (w_X5_fallsFrom_b46 E (a1 := a1) (a2 := a2) (a3 := a3) (M := M) (L := L) (v3_4 := v3_4) (k3 := (f_X5_fallsFrom_l3 a1 a2 a3 M n)) (hk3 := ih)) ((M 3 3 v3_4.toNatClampNeg) + a3) hf _ (lv_sub hl [0, 1, 2, 3, 4] rfl) _ _ hI
set_option maxHeartbeats 4000000 in
set_option maxRecDepth 100000 in
theorem c_X5_fallsFrom (l : Launch) (G : xG) (sz : Nat) (M : xMem) (L : xLL) (a1 : Int32) (a2 : Int32) (a3 : Int32) {rr : Int32} (hf : f_X5_fallsFrom a1 a2 a3 M = some rr) : Met l yX5_fallsFrom (Cond.code yX5_fallsFrom cX5_fallsFrom 6 (some .int) :: xTB) (xR 1) (xP G M L sz [.ref (xq G 7 0), .int a1, .int a2, .int a3]) (xQi G rr M L sz) 0 0 (xZ G sz) := by
  refine x_met (cc := cX5_fallsFrom) (nL := 6) (rt := (some .int)) (by decide) (Nat.le_of_ble_eq_true rfl) ?_
  intro p e s m below meth c ls hsz E hl hI
  subst hsz
  have E : xE p s m _ meth c cX5_fallsFrom 6 (some .int) RX5 G := E
  have hx := E.1
  have hb := E.2.1
  have hl : lv_has ls 6 [(0, .ref (xq G 7 0)), (1, .int a1), (2, .int a2), (3, .int a3)] := hl
  rw [f_X5_fallsFrom] at hf
  refine lv_iconst (v := 0) hx hb dX5_fallsFrom_0 (by decide) ?_
  refine lv_istore (lv' := [(4, .int (0 : Int32)), (0, .ref (xq G 7 0)), (1, .int a1), (2, .int a2), (3, .int a3)]) hx hb dX5_fallsFrom_1 hl (by decide) rfl (fun ls hl => ?_)
  exact (w_X5_fallsFrom_l3 E (a1 := a1) (a2 := a2) (a3 := a3) (M := M) (L := L) FU) (0 : Int32) hf _ (lv_sub hl [1, 2, 3, 4, 0] rfl) _ _ hI
theorem dX5_addIfSo_0 : decode cX5_addIfSo 0 = .ok (.iconst 0, 1) := by decide +kernel
theorem dX5_addIfSo_1 : decode cX5_addIfSo 1 = .ok (.istore_n 3, 1) := by decide +kernel
theorem dX5_addIfSo_2 : decode cX5_addIfSo 2 = .ok (.iload_n 3, 1) := by decide +kernel
theorem dX5_addIfSo_3 : decode cX5_addIfSo 3 = .ok (.aload_n 0, 1) := by decide +kernel
theorem dX5_addIfSo_4 : decode cX5_addIfSo 4 = .ok (.getfield 31, 3) := by decide +kernel
theorem dX5_addIfSo_7 : decode cX5_addIfSo 7 = .ok (.if_icmp .ge 31, 3) := by decide +kernel
theorem dX5_addIfSo_10 : decode cX5_addIfSo 10 = .ok (.aload_n 0, 1) := by decide +kernel
theorem dX5_addIfSo_11 : decode cX5_addIfSo 11 = .ok (.aload_n 0, 1) := by decide +kernel
theorem dX5_addIfSo_12 : decode cX5_addIfSo 12 = .ok (.getfield 9, 3) := by decide +kernel
theorem dX5_addIfSo_15 : decode cX5_addIfSo 15 = .ok (.iload_n 3, 1) := by decide +kernel
theorem dX5_addIfSo_16 : decode cX5_addIfSo 16 = .ok (.iaload, 1) := by decide +kernel
theorem dX5_addIfSo_17 : decode cX5_addIfSo 17 = .ok (.iload_n 1, 1) := by decide +kernel
theorem dX5_addIfSo_18 : decode cX5_addIfSo 18 = .ok (.iload_n 2, 1) := by decide +kernel
theorem dX5_addIfSo_19 : decode cX5_addIfSo 19 = .ok (.invokevirtual 47, 3) := by decide +kernel
theorem dX5_addIfSo_22 : decode cX5_addIfSo 22 = .ok (.aload_n 0, 1) := by decide +kernel
theorem dX5_addIfSo_23 : decode cX5_addIfSo 23 = .ok (.getfield 15, 3) := by decide +kernel
theorem dX5_addIfSo_26 : decode cX5_addIfSo 26 = .ok (.iload_n 3, 1) := by decide +kernel
theorem dX5_addIfSo_27 : decode cX5_addIfSo 27 = .ok (.iaload, 1) := by decide +kernel
theorem dX5_addIfSo_28 : decode cX5_addIfSo 28 = .ok (.if_icmp .eq 4, 3) := by decide +kernel
theorem dX5_addIfSo_31 : decode cX5_addIfSo 31 = .ok (.return_, 1) := by decide +kernel
theorem dX5_addIfSo_32 : decode cX5_addIfSo 32 = .ok (.iinc 3 1, 3) := by decide +kernel
theorem dX5_addIfSo_35 : decode cX5_addIfSo 35 = .ok (.goto (-33), 3) := by decide +kernel
theorem dX5_addIfSo_38 : decode cX5_addIfSo 38 = .ok (.aload_n 0, 1) := by decide +kernel
theorem dX5_addIfSo_39 : decode cX5_addIfSo 39 = .ok (.getfield 18, 3) := by decide +kernel
theorem dX5_addIfSo_42 : decode cX5_addIfSo 42 = .ok (.aload_n 0, 1) := by decide +kernel
theorem dX5_addIfSo_43 : decode cX5_addIfSo 43 = .ok (.getfield 35, 3) := by decide +kernel
theorem dX5_addIfSo_46 : decode cX5_addIfSo 46 = .ok (.iload_n 1, 1) := by decide +kernel
theorem dX5_addIfSo_47 : decode cX5_addIfSo 47 = .ok (.iastore, 1) := by decide +kernel
theorem dX5_addIfSo_48 : decode cX5_addIfSo 48 = .ok (.aload_n 0, 1) := by decide +kernel
theorem dX5_addIfSo_49 : decode cX5_addIfSo 49 = .ok (.getfield 21, 3) := by decide +kernel
theorem dX5_addIfSo_52 : decode cX5_addIfSo 52 = .ok (.aload_n 0, 1) := by decide +kernel
theorem dX5_addIfSo_53 : decode cX5_addIfSo 53 = .ok (.getfield 35, 3) := by decide +kernel
theorem dX5_addIfSo_56 : decode cX5_addIfSo 56 = .ok (.iload_n 2, 1) := by decide +kernel
theorem dX5_addIfSo_57 : decode cX5_addIfSo 57 = .ok (.iastore, 1) := by decide +kernel
theorem dX5_addIfSo_58 : decode cX5_addIfSo 58 = .ok (.aload_n 0, 1) := by decide +kernel
theorem dX5_addIfSo_59 : decode cX5_addIfSo 59 = .ok (.dup, 1) := by decide +kernel
theorem dX5_addIfSo_60 : decode cX5_addIfSo 60 = .ok (.getfield 35, 3) := by decide +kernel
theorem dX5_addIfSo_63 : decode cX5_addIfSo 63 = .ok (.iconst 1, 1) := by decide +kernel
theorem dX5_addIfSo_64 : decode cX5_addIfSo 64 = .ok (.iadd, 1) := by decide +kernel
theorem dX5_addIfSo_65 : decode cX5_addIfSo 65 = .ok (.putfield 35, 3) := by decide +kernel
theorem dX5_addIfSo_68 : decode cX5_addIfSo 68 = .ok (.return_, 1) := by decide +kernel
def f_X5_addIfSo_l2 (a1 : Int32) (a2 : Int32) (M : xMem) : Nat → Int32 → Option (xMem)
  | 0, _ => none
  | n + 1, v2_3 => (if (M 7 0 3) ≤ v2_3 then xchk (xb (M 7 0 6) 91) (xlet (xst M 7 5 (M 7 0 6) a1) (fun M47 => xchk (xb (M47 7 0 6) 91) (xlet (xst M47 7 6 (M47 7 0 6) a2) (fun M57 => xlet (xsf M57 7 6 ((M57 7 0 6) + (1 : Int32))) (fun M65 => some M65))))) else xchk (xb v2_3 6) (xb1 (f_X5_fallsFrom (M 7 2 v2_3.toNatClampNeg) a1 a2 M) (fun r19 => xchk (xb v2_3 6) ((if r19 = (M 7 3 v2_3.toNatClampNeg) then (f_X5_addIfSo_l2 a1 a2 M n) (v2_3 + (1 : Int32)) else some M)))))
def f_X5_addIfSo (a1 : Int32) (a2 : Int32) (M : xMem) : Option (xMem) := (f_X5_addIfSo_l2 a1 a2 M FU) (0 : Int32)
set_option maxHeartbeats 4000000 in
set_option maxRecDepth 100000 in
theorem w_X5_addIfSo_l2 {p : Program} {l : Launch} {e : Env} {s : State} {m : MethodId} {args : Array Value} {below : List Frame} {meth : Method} {c : Code} {G : xG} {MM : xMem} (E : xE p s m args meth c cX5_addIfSo 4 none RX5 G) (a1 : Int32) (a2 : Int32) (M : xMem) (L : xLL) : ∀ (n : Nat), ∀ (v2_3 : Int32), f_X5_addIfSo_l2 a1 a2 M n v2_3 = some MM → ∀ (ls : Array Slot), lv_has ls 4 [(0, .ref (xq G 7 0)), (1, .int a1), (2, .int a2), (3, .int v2_3)] → ∀ (H : Heap) (locs : List Loc), xI G M L s.heap H locs → W p l e (xR 2) s m args below meth c H locs 0 0 (MQ below (xQv G MM L s.heap.size) args s 0 0 (xZ G s.heap.size)) (F0 m 2 ls []) := by
  have hx := E.1
  have hb := E.2.1
  intro n
  induction n with
  | zero =>
    intro v2_3 hf
    exact absurd hf (by simp [f_X5_addIfSo_l2])
  | succ n ih =>
    intro v2_3 hf ls hl H locs hI
    rw [f_X5_addIfSo_l2] at hf
    refine lv_iload_n hx hb dX5_addIfSo_2 rfl (lv_at hl 3 rfl) ?_
    refine lv_aload_n hx hb dX5_addIfSo_3 rfl (lv_at hl 0 rfl) ?_
    refine gf_X5_31 E hI dX5_addIfSo_4 ?_
    refine lv_icmp_ge (tgt := 38) hx hb dX5_addIfSo_7 (by decide) (fun c7 => ?_) (fun c7 => ?_)
    · replace hf := xif_t c7 hf
      refine lv_aload_n hx hb dX5_addIfSo_38 rfl (lv_at hl 0 rfl) ?_
      refine gf_X5_18 E hI dX5_addIfSo_39 ?_
      refine lv_aload_n hx hb dX5_addIfSo_42 rfl (lv_at hl 0 rfl) ?_
      refine gf_X5_35 E hI dX5_addIfSo_43 ?_
      refine lv_iload_n hx hb dX5_addIfSo_46 rfl (lv_at hl 1 rfl) ?_
      obtain ⟨h47b, hf⟩ := xchk_s hf
      obtain ⟨M47, e47, hf⟩ := xlet_s hf
      refine x_iast (n := 91) E hI mx_7_5 (fun _ _ => rfl) h47b dX5_addIfSo_47 e47 (fun H locs hI => ?_)
      refine lv_aload_n hx hb dX5_addIfSo_48 rfl (lv_at hl 0 rfl) ?_
      refine gf_X5_21 E hI dX5_addIfSo_49 ?_
      refine lv_aload_n hx hb dX5_addIfSo_52 rfl (lv_at hl 0 rfl) ?_
      refine gf_X5_35 E hI dX5_addIfSo_53 ?_
      refine lv_iload_n hx hb dX5_addIfSo_56 rfl (lv_at hl 2 rfl) ?_
      obtain ⟨h57b, hf⟩ := xchk_s hf
      obtain ⟨M57, e57, hf⟩ := xlet_s hf
      refine x_iast (n := 91) E hI mx_7_6 (fun _ _ => rfl) h57b dX5_addIfSo_57 e57 (fun H locs hI => ?_)
      refine lv_aload_n hx hb dX5_addIfSo_58 rfl (lv_at hl 0 rfl) ?_
      refine lv_dup hx hb dX5_addIfSo_59 rfl ?_
      refine gf_X5_35 E hI dX5_addIfSo_60 ?_
      refine lv_iconst (v := 1) hx hb dX5_addIfSo_63 (by decide) ?_
      refine lv_iadd hx hb dX5_addIfSo_64 ?_
      obtain ⟨M65, e65, hf⟩ := xlet_s hf
      refine pf_X5_35 E hI dX5_addIfSo_65 e65 (fun H locs hI => ?_)
      obtain rfl := xinj1 hf
      exact x_vret E hI dX5_addIfSo_68
    · replace hf := xif_f c7 hf
      refine lv_aload_n hx hb dX5_addIfSo_10 rfl (lv_at hl 0 rfl) ?_
      refine lv_aload_n hx hb dX5_addIfSo_11 rfl (lv_at hl 0 rfl) ?_
      refine gf_X5_9 E hI dX5_addIfSo_12 ?_
      refine lv_iload_n hx hb dX5_addIfSo_15 rfl (lv_at hl 3 rfl) ?_
      obtain ⟨h16b, hf⟩ := xchk_s hf
      refine x_iald (n := 6) E hI mx_7_2 (fun _ _ => rfl) h16b dX5_addIfSo_16 ?_
      refine lv_iload_n hx hb dX5_addIfSo_17 rfl (lv_at hl 1 rfl) ?_
      refine lv_iload_n hx hb dX5_addIfSo_18 rfl (lv_at hl 2 rfl) ?_
      obtain ⟨r19, g19, hf⟩ := xb1_s hf
      refine x_callVi (As := [.int (M 7 2 v2_3.toNatClampNeg), .int a1, .int a2]) (rest := []) E hI mx_7_0 rfl rfl rfl (c_X5_fallsFrom l G _ (M := M) (L := L) (a1 := (M 7 2 v2_3.toNatClampNeg)) (a2 := a1) (a3 := a2) g19) yv_X5_fallsFrom ml_X5_47 (by decide) (by decide) rfl rfl hl.1 (Nat.le_of_ble_eq_true rfl) dX5_addIfSo_19 (fun H locs hI => ?_)
      refine lv_aload_n hx hb dX5_addIfSo_22 rfl (lv_at hl 0 rfl) ?_
      refine gf_X5_15 E hI dX5_addIfSo_23 ?_
      refine lv_iload_n hx hb dX5_addIfSo_26 rfl (lv_at hl 3 rfl) ?_
      obtain ⟨h27b, hf⟩ := xchk_s hf
      refine x_iald (n := 6) E hI mx_7_3 (fun _ _ => rfl) h27b dX5_addIfSo_27 ?_
      refine lv_icmp_eq (tgt := 32) hx hb dX5_addIfSo_28 (by decide) (fun c28 => ?_) (fun c28 => ?_)
      · replace hf := xif_t c28 hf
        refine lv_iinc (v := (v2_3 + (1 : Int32))) (lv' := [(3, .int (v2_3 + (1 : Int32))), (0, .ref (xq G 7 0)), (1, .int a1), (2, .int a2)]) hx hb dX5_addIfSo_32 hl (k := 3) rfl rfl (by decide) rfl (fun ls hl => ?_)
        refine lv_goto (tgt := 2) hx hb dX5_addIfSo_35 (by decide) ?_
        exact ih (v2_3 + (1 : Int32)) hf _ (lv_sub hl [1, 2, 3, 0] rfl) _ _ hI
      · replace hf := xif_f c28 hf
        obtain rfl := xinj1 hf
        exact x_vret E hI dX5_addIfSo_31
set_option maxHeartbeats 4000000 in
set_option maxRecDepth 100000 in
theorem c_X5_addIfSo (l : Launch) (G : xG) (sz : Nat) (M : xMem) (L : xLL) (a1 : Int32) (a2 : Int32) {MM : xMem} (hf : f_X5_addIfSo a1 a2 M = some MM) : Met l yX5_addIfSo (Cond.code yX5_addIfSo cX5_addIfSo 4 none :: xTB) (xR 2) (xP G M L sz [.ref (xq G 7 0), .int a1, .int a2]) (xQv G MM L sz) 0 0 (xZ G sz) := by
  refine x_met (cc := cX5_addIfSo) (nL := 4) (rt := none) (by decide) (Nat.le_of_ble_eq_true rfl) ?_
  intro p e s m below meth c ls hsz E hl hI
  subst hsz
  have E : xE p s m _ meth c cX5_addIfSo 4 none RX5 G := E
  have hx := E.1
  have hb := E.2.1
  have hl : lv_has ls 4 [(0, .ref (xq G 7 0)), (1, .int a1), (2, .int a2)] := hl
  rw [f_X5_addIfSo] at hf
  refine lv_iconst (v := 0) hx hb dX5_addIfSo_0 (by decide) ?_
  refine lv_istore_n (lv' := [(3, .int (0 : Int32)), (0, .ref (xq G 7 0)), (1, .int a1), (2, .int a2)]) hx hb dX5_addIfSo_1 rfl hl (by decide) rfl (fun ls hl => ?_)
  exact (w_X5_addIfSo_l2 E (a1 := a1) (a2 := a2) (M := M) (L := L) FU) (0 : Int32) hf _ (lv_sub hl [1, 2, 3, 0] rfl) _ _ hI
theorem dX5_findWays_0 : decode cX5_findWays 0 = .ok (.aload_n 0, 1) := by decide +kernel
theorem dX5_findWays_1 : decode cX5_findWays 1 = .ok (.iconst 0, 1) := by decide +kernel
theorem dX5_findWays_2 : decode cX5_findWays 2 = .ok (.putfield 35, 3) := by decide +kernel
theorem dX5_findWays_5 : decode cX5_findWays 5 = .ok (.aload_n 0, 1) := by decide +kernel
theorem dX5_findWays_6 : decode cX5_findWays 6 = .ok (.bipush (-9), 2) := by decide +kernel
theorem dX5_findWays_8 : decode cX5_findWays 8 = .ok (.iconst 0, 1) := by decide +kernel
theorem dX5_findWays_9 : decode cX5_findWays 9 = .ok (.invokevirtual 38, 3) := by decide +kernel
theorem dX5_findWays_12 : decode cX5_findWays 12 = .ok (.iconst 0, 1) := by decide +kernel
theorem dX5_findWays_13 : decode cX5_findWays 13 = .ok (.istore_n 1, 1) := by decide +kernel
theorem dX5_findWays_14 : decode cX5_findWays 14 = .ok (.iload_n 1, 1) := by decide +kernel
theorem dX5_findWays_15 : decode cX5_findWays 15 = .ok (.aload_n 0, 1) := by decide +kernel
theorem dX5_findWays_16 : decode cX5_findWays 16 = .ok (.getfield 27, 3) := by decide +kernel
theorem dX5_findWays_19 : decode cX5_findWays 19 = .ok (.getfield 42, 3) := by decide +kernel
theorem dX5_findWays_22 : decode cX5_findWays 22 = .ok (.if_icmp .ge 34, 3) := by decide +kernel
theorem dX5_findWays_25 : decode cX5_findWays 25 = .ok (.bipush (-9), 2) := by decide +kernel
theorem dX5_findWays_27 : decode cX5_findWays 27 = .ok (.istore_n 2, 1) := by decide +kernel
theorem dX5_findWays_28 : decode cX5_findWays 28 = .ok (.iload_n 2, 1) := by decide +kernel
theorem dX5_findWays_29 : decode cX5_findWays 29 = .ok (.bipush 9, 2) := by decide +kernel
theorem dX5_findWays_31 : decode cX5_findWays 31 = .ok (.if_icmp .gt 19, 3) := by decide +kernel
theorem dX5_findWays_34 : decode cX5_findWays 34 = .ok (.iload_n 2, 1) := by decide +kernel
theorem dX5_findWays_35 : decode cX5_findWays 35 = .ok (.ifCond .eq 9, 3) := by decide +kernel
theorem dX5_findWays_38 : decode cX5_findWays 38 = .ok (.aload_n 0, 1) := by decide +kernel
theorem dX5_findWays_39 : decode cX5_findWays 39 = .ok (.iload_n 1, 1) := by decide +kernel
theorem dX5_findWays_40 : decode cX5_findWays 40 = .ok (.iload_n 2, 1) := by decide +kernel
theorem dX5_findWays_41 : decode cX5_findWays 41 = .ok (.invokevirtual 38, 3) := by decide +kernel
theorem dX5_findWays_44 : decode cX5_findWays 44 = .ok (.iinc 2 1, 3) := by decide +kernel
theorem dX5_findWays_47 : decode cX5_findWays 47 = .ok (.goto (-19), 3) := by decide +kernel
theorem dX5_findWays_50 : decode cX5_findWays 50 = .ok (.iinc 1 1, 3) := by decide +kernel
theorem dX5_findWays_53 : decode cX5_findWays 53 = .ok (.goto (-39), 3) := by decide +kernel
theorem dX5_findWays_56 : decode cX5_findWays 56 = .ok (.return_, 1) := by decide +kernel
def f_X5_findWays_b44 (v28_2 : Int32) (k28 : Int32 → xMem → Option (xMem)) (M44 : xMem) : Option (xMem) := k28 (v28_2 + (1 : Int32)) M44
def f_X5_findWays_l28 (v14_1 : Int32) (k14 : Int32 → xMem → Option (xMem)) : Nat → Int32 → xMem → Option (xMem)
  | 0, _, _ => none
  | n + 1, v28_2, M28 => (if (9 : Int32) < v28_2 then k14 (v14_1 + (1 : Int32)) M28 else (if v28_2 = (0 : Int32) then (f_X5_findWays_b44 v28_2 (f_X5_findWays_l28 v14_1 k14 n)) M28 else xb1 (f_X5_addIfSo v14_1 v28_2 M28) (fun M41 => (f_X5_findWays_b44 v28_2 (f_X5_findWays_l28 v14_1 k14 n)) M41)))
def f_X5_findWays_l14 : Nat → Int32 → xMem → Option (xMem)
  | 0, _, _ => none
  | n + 1, v14_1, M14 => (if (M14 3 0 0) ≤ v14_1 then some M14 else (f_X5_findWays_l28 v14_1 (f_X5_findWays_l14 n) FU) (-9 : Int32) M14)
def f_X5_findWays (M : xMem) : Option (xMem) := xlet (xsf M 7 6 (0 : Int32)) (fun M2 => xb1 (f_X5_addIfSo (-9 : Int32) (0 : Int32) M2) (fun M9 => (f_X5_findWays_l14 FU) (0 : Int32) M9))
set_option maxHeartbeats 4000000 in
set_option maxRecDepth 100000 in
theorem w_X5_findWays_b44 {p : Program} {l : Launch} {e : Env} {s : State} {m : MethodId} {args : Array Value} {below : List Frame} {meth : Method} {c : Code} {G : xG} {MM : xMem} (E : xE p s m args meth c cX5_findWays 3 none RX5 G) (M : xMem) (L : xLL) (v14_1 : Int32) (v28_2 : Int32) (M28 : xMem) (k28 : Int32 → xMem → Option (xMem)) (hk28 : ∀ (v28_2 : Int32) (M28 : xMem), k28 v28_2 M28 = some MM → ∀ (ls : Array Slot), lv_has ls 3 [(0, .ref (xq G 7 0)), (1, .int v14_1), (2, .int v28_2)] → ∀ (H : Heap) (locs : List Loc), xI G M28 L s.heap H locs → W p l e (xR 3) s m args below meth c H locs 0 0 (MQ below (xQv G MM L s.heap.size) args s 0 0 (xZ G s.heap.size)) (F0 m 28 ls [])) : ∀ (M44 : xMem), f_X5_findWays_b44 v28_2 k28 M44 = some MM → ∀ (ls : Array Slot), lv_has ls 3 [(0, .ref (xq G 7 0)), (1, .int v14_1), (2, .int v28_2)] → ∀ (H : Heap) (locs : List Loc), xI G M44 L s.heap H locs → W p l e (xR 3) s m args below meth c H locs 0 0 (MQ below (xQv G MM L s.heap.size) args s 0 0 (xZ G s.heap.size)) (F0 m 44 ls []) := by
  have hx := E.1
  have hb := E.2.1
  intro M44 hf ls hl H locs hI
  rw [f_X5_findWays_b44] at hf
  refine lv_iinc (v := (v28_2 + (1 : Int32))) (lv' := [(2, .int (v28_2 + (1 : Int32))), (0, .ref (xq G 7 0)), (1, .int v14_1)]) hx hb dX5_findWays_44 hl (k := 2) rfl rfl (by decide) rfl (fun ls hl => ?_)
  refine lv_goto (tgt := 28) hx hb dX5_findWays_47 (by decide) ?_
  exact hk28 (v28_2 + (1 : Int32)) M44 hf _ (lv_sub hl [1, 2, 0] rfl) _ _ hI
set_option maxHeartbeats 4000000 in
set_option maxRecDepth 100000 in
theorem w_X5_findWays_l28 {p : Program} {l : Launch} {e : Env} {s : State} {m : MethodId} {args : Array Value} {below : List Frame} {meth : Method} {c : Code} {G : xG} {MM : xMem} (E : xE p s m args meth c cX5_findWays 3 none RX5 G) (M : xMem) (L : xLL) (v14_1 : Int32) (M14 : xMem) (k14 : Int32 → xMem → Option (xMem)) (hk14 : ∀ (v14_1 : Int32) (M14 : xMem), k14 v14_1 M14 = some MM → ∀ (ls : Array Slot), lv_has ls 3 [(0, .ref (xq G 7 0)), (1, .int v14_1)] → ∀ (H : Heap) (locs : List Loc), xI G M14 L s.heap H locs → W p l e (xR 3) s m args below meth c H locs 0 0 (MQ below (xQv G MM L s.heap.size) args s 0 0 (xZ G s.heap.size)) (F0 m 14 ls [])) : ∀ (n : Nat), ∀ (v28_2 : Int32) (M28 : xMem), f_X5_findWays_l28 v14_1 k14 n v28_2 M28 = some MM → ∀ (ls : Array Slot), lv_has ls 3 [(0, .ref (xq G 7 0)), (1, .int v14_1), (2, .int v28_2)] → ∀ (H : Heap) (locs : List Loc), xI G M28 L s.heap H locs → W p l e (xR 3) s m args below meth c H locs 0 0 (MQ below (xQv G MM L s.heap.size) args s 0 0 (xZ G s.heap.size)) (F0 m 28 ls []) := by
  have hx := E.1
  have hb := E.2.1
  intro n
  induction n with
  | zero =>
    intro v28_2 M28 hf
    exact absurd hf (by simp [f_X5_findWays_l28])
  | succ n ih =>
    intro v28_2 M28 hf ls hl H locs hI
    rw [f_X5_findWays_l28] at hf
    refine lv_iload_n hx hb dX5_findWays_28 rfl (lv_at hl 2 rfl) ?_
    refine lv_bipush (v := 9) hx hb dX5_findWays_29 (by decide) ?_
    refine lv_icmp_gt (tgt := 50) hx hb dX5_findWays_31 (by decide) (fun c31 => ?_) (fun c31 => ?_)
    · replace hf := xif_t c31 hf
      refine lv_iinc (v := (v14_1 + (1 : Int32))) (lv' := [(1, .int (v14_1 + (1 : Int32))), (0, .ref (xq G 7 0)), (2, .int v28_2)]) hx hb dX5_findWays_50 hl (k := 1) rfl rfl (by decide) rfl (fun ls hl => ?_)
      refine lv_goto (tgt := 14) hx hb dX5_findWays_53 (by decide) ?_
      exact hk14 (v14_1 + (1 : Int32)) M28 hf _ (lv_sub hl [1, 0] rfl) _ _ hI
    · replace hf := xif_f c31 hf
      refine lv_iload_n hx hb dX5_findWays_34 rfl (lv_at hl 2 rfl) ?_
      refine lv_if_eq (tgt := 44) hx hb dX5_findWays_35 (by decide) (fun c35 => ?_) (fun c35 => ?_)
      · replace hf := xif_t c35 hf
        exact (w_X5_findWays_b44 E (M := M) (L := L) (v14_1 := v14_1) (v28_2 := v28_2) (M28 := M28) (k28 := (f_X5_findWays_l28 v14_1 k14 n)) (hk28 := ih)) M28 hf _ (lv_sub hl [0, 1, 2] rfl) _ _ hI
      · replace hf := xif_f c35 hf
        refine lv_aload_n hx hb dX5_findWays_38 rfl (lv_at hl 0 rfl) ?_
        refine lv_iload_n hx hb dX5_findWays_39 rfl (lv_at hl 1 rfl) ?_
        refine lv_iload_n hx hb dX5_findWays_40 rfl (lv_at hl 2 rfl) ?_
        obtain ⟨M41, g41, hf⟩ := xb1_s hf
        refine x_callVv (As := [.int v14_1, .int v28_2]) (rest := []) E hI mx_7_0 rfl rfl rfl (c_X5_addIfSo l G _ (M := M28) (L := L) (a1 := v14_1) (a2 := v28_2) g41) yv_X5_addIfSo ml_X5_38 (by decide) (by decide) rfl rfl hl.1 (Nat.le_of_ble_eq_true rfl) dX5_findWays_41 (fun H locs hI => ?_)
        exact (w_X5_findWays_b44 E (M := M) (L := L) (v14_1 := v14_1) (v28_2 := v28_2) (M28 := M28) (k28 := (f_X5_findWays_l28 v14_1 k14 n)) (hk28 := ih)) M41 hf _ (lv_sub hl [0, 1, 2] rfl) _ _ hI
set_option maxHeartbeats 4000000 in
set_option maxRecDepth 100000 in
theorem w_X5_findWays_l14 {p : Program} {l : Launch} {e : Env} {s : State} {m : MethodId} {args : Array Value} {below : List Frame} {meth : Method} {c : Code} {G : xG} {MM : xMem} (E : xE p s m args meth c cX5_findWays 3 none RX5 G) (M : xMem) (L : xLL) : ∀ (n : Nat), ∀ (v14_1 : Int32) (M14 : xMem), f_X5_findWays_l14  n v14_1 M14 = some MM → ∀ (ls : Array Slot), lv_has ls 3 [(0, .ref (xq G 7 0)), (1, .int v14_1)] → ∀ (H : Heap) (locs : List Loc), xI G M14 L s.heap H locs → W p l e (xR 3) s m args below meth c H locs 0 0 (MQ below (xQv G MM L s.heap.size) args s 0 0 (xZ G s.heap.size)) (F0 m 14 ls []) := by
  have hx := E.1
  have hb := E.2.1
  intro n
  induction n with
  | zero =>
    intro v14_1 M14 hf
    exact absurd hf (by simp [f_X5_findWays_l14])
  | succ n ih =>
    intro v14_1 M14 hf ls hl H locs hI
    rw [f_X5_findWays_l14] at hf
    refine lv_iload_n hx hb dX5_findWays_14 rfl (lv_at hl 1 rfl) ?_
    refine lv_aload_n hx hb dX5_findWays_15 rfl (lv_at hl 0 rfl) ?_
    refine gf_X5_27 E hI dX5_findWays_16 ?_
    refine gf_X5_42_3 E hI dX5_findWays_19 ?_
    refine lv_icmp_ge (tgt := 56) hx hb dX5_findWays_22 (by decide) (fun c22 => ?_) (fun c22 => ?_)
    · replace hf := xif_t c22 hf
      obtain rfl := xinj1 hf
      exact x_vret E hI dX5_findWays_56
    · replace hf := xif_f c22 hf
      refine lv_bipush (v := -9) hx hb dX5_findWays_25 (by decide) ?_
      refine lv_istore_n (lv' := [(2, .int (-9 : Int32)), (0, .ref (xq G 7 0)), (1, .int v14_1)]) hx hb dX5_findWays_27 rfl hl (by decide) rfl (fun ls hl => ?_)
      exact (w_X5_findWays_l28 E (M := M) (L := L) (v14_1 := v14_1) (M14 := M14) (k14 := (f_X5_findWays_l14 n)) (hk14 := ih) FU) (-9 : Int32) M14 hf _ (lv_sub hl [1, 2, 0] rfl) _ _ hI
set_option maxHeartbeats 4000000 in
set_option maxRecDepth 100000 in
theorem c_X5_findWays (l : Launch) (G : xG) (sz : Nat) (M : xMem) (L : xLL) {MM : xMem} (hf : f_X5_findWays M = some MM) : Met l yX5_findWays (Cond.code yX5_findWays cX5_findWays 3 none :: xTB) (xR 3) (xP G M L sz [.ref (xq G 7 0)]) (xQv G MM L sz) 0 0 (xZ G sz) := by
  refine x_met (cc := cX5_findWays) (nL := 3) (rt := none) (by decide) (Nat.le_of_ble_eq_true rfl) ?_
  intro p e s m below meth c ls hsz E hl hI
  subst hsz
  have E : xE p s m _ meth c cX5_findWays 3 none RX5 G := E
  have hx := E.1
  have hb := E.2.1
  have hl : lv_has ls 3 [(0, .ref (xq G 7 0))] := hl
  rw [f_X5_findWays] at hf
  refine lv_aload_n hx hb dX5_findWays_0 rfl (lv_at hl 0 rfl) ?_
  refine lv_iconst (v := 0) hx hb dX5_findWays_1 (by decide) ?_
  obtain ⟨M2, e2, hf⟩ := xlet_s hf
  refine pf_X5_35 E hI dX5_findWays_2 e2 (fun H locs hI => ?_)
  refine lv_aload_n hx hb dX5_findWays_5 rfl (lv_at hl 0 rfl) ?_
  refine lv_bipush (v := -9) hx hb dX5_findWays_6 (by decide) ?_
  refine lv_iconst (v := 0) hx hb dX5_findWays_8 (by decide) ?_
  obtain ⟨M9, g9, hf⟩ := xb1_s hf
  refine x_callVv (As := [.int (-9 : Int32), .int (0 : Int32)]) (rest := []) E hI mx_7_0 rfl rfl rfl (c_X5_addIfSo l G _ (M := M2) (L := L) (a1 := (-9 : Int32)) (a2 := (0 : Int32)) g9) yv_X5_addIfSo ml_X5_38 (by decide) (by decide) rfl rfl hl.1 (Nat.le_of_ble_eq_true rfl) dX5_findWays_9 (fun H locs hI => ?_)
  refine lv_iconst (v := 0) hx hb dX5_findWays_12 (by decide) ?_
  refine lv_istore_n (lv' := [(1, .int (0 : Int32)), (0, .ref (xq G 7 0))]) hx hb dX5_findWays_13 rfl hl (by decide) rfl (fun ls hl => ?_)
  exact (w_X5_findWays_l14 E (M := M) (L := L) FU) (0 : Int32) M9 hf _ (lv_sub hl [1, 0] rfl) _ _ hI
theorem dX5_scalesOff_0 : decode cX5_scalesOff 0 = .ok (.iconst 0, 1) := by decide +kernel
theorem dX5_scalesOff_1 : decode cX5_scalesOff 1 = .ok (.istore_n 1, 1) := by decide +kernel
theorem dX5_scalesOff_2 : decode cX5_scalesOff 2 = .ok (.iconst 0, 1) := by decide +kernel
theorem dX5_scalesOff_3 : decode cX5_scalesOff 3 = .ok (.istore_n 2, 1) := by decide +kernel
theorem dX5_scalesOff_4 : decode cX5_scalesOff 4 = .ok (.iload_n 2, 1) := by decide +kernel
theorem dX5_scalesOff_5 : decode cX5_scalesOff 5 = .ok (.aload_n 0, 1) := by decide +kernel
theorem dX5_scalesOff_6 : decode cX5_scalesOff 6 = .ok (.getfield 35, 3) := by decide +kernel
theorem dX5_scalesOff_9 : decode cX5_scalesOff 9 = .ok (.if_icmp .ge 31, 3) := by decide +kernel
theorem dX5_scalesOff_12 : decode cX5_scalesOff 12 = .ok (.aload_n 0, 1) := by decide +kernel
theorem dX5_scalesOff_13 : decode cX5_scalesOff 13 = .ok (.getfield 18, 3) := by decide +kernel
theorem dX5_scalesOff_16 : decode cX5_scalesOff 16 = .ok (.iload_n 2, 1) := by decide +kernel
theorem dX5_scalesOff_17 : decode cX5_scalesOff 17 = .ok (.iaload, 1) := by decide +kernel
theorem dX5_scalesOff_18 : decode cX5_scalesOff 18 = .ok (.bipush (-9), 2) := by decide +kernel
theorem dX5_scalesOff_20 : decode cX5_scalesOff 20 = .ok (.if_icmp .eq 14, 3) := by decide +kernel
theorem dX5_scalesOff_23 : decode cX5_scalesOff 23 = .ok (.iload_n 1, 1) := by decide +kernel
theorem dX5_scalesOff_24 : decode cX5_scalesOff 24 = .ok (.iconst 1, 1) := by decide +kernel
theorem dX5_scalesOff_25 : decode cX5_scalesOff 25 = .ok (.aload_n 0, 1) := by decide +kernel
theorem dX5_scalesOff_26 : decode cX5_scalesOff 26 = .ok (.getfield 18, 3) := by decide +kernel
theorem dX5_scalesOff_29 : decode cX5_scalesOff 29 = .ok (.iload_n 2, 1) := by decide +kernel
theorem dX5_scalesOff_30 : decode cX5_scalesOff 30 = .ok (.iaload, 1) := by decide +kernel
theorem dX5_scalesOff_31 : decode cX5_scalesOff 31 = .ok (.ishl, 1) := by decide +kernel
theorem dX5_scalesOff_32 : decode cX5_scalesOff 32 = .ok (.ior, 1) := by decide +kernel
theorem dX5_scalesOff_33 : decode cX5_scalesOff 33 = .ok (.istore_n 1, 1) := by decide +kernel
theorem dX5_scalesOff_34 : decode cX5_scalesOff 34 = .ok (.iinc 2 1, 3) := by decide +kernel
theorem dX5_scalesOff_37 : decode cX5_scalesOff 37 = .ok (.goto (-33), 3) := by decide +kernel
theorem dX5_scalesOff_40 : decode cX5_scalesOff 40 = .ok (.iload_n 1, 1) := by decide +kernel
theorem dX5_scalesOff_41 : decode cX5_scalesOff 41 = .ok (.ireturn, 1) := by decide +kernel
def f_X5_scalesOff_b34 (v4_2 : Int32) (k4 : Int32 → Int32 → Option (Int32)) (v34_1 : Int32) : Option (Int32) := k4 v34_1 (v4_2 + (1 : Int32))
def f_X5_scalesOff_l4 (M : xMem) : Nat → Int32 → Int32 → Option (Int32)
  | 0, _, _ => none
  | n + 1, v4_1, v4_2 => (if (M 7 0 6) ≤ v4_2 then some v4_1 else xchk (xb v4_2 91) ((if (M 7 5 v4_2.toNatClampNeg) = (-9 : Int32) then (f_X5_scalesOff_b34 v4_2 (f_X5_scalesOff_l4 M n)) v4_1 else xchk (xb v4_2 91) ((f_X5_scalesOff_b34 v4_2 (f_X5_scalesOff_l4 M n)) (v4_1 ||| ((1 : Int32) <<< ((M 7 5 v4_2.toNatClampNeg) &&& 31)))))))
def f_X5_scalesOff (M : xMem) : Option (Int32) := (f_X5_scalesOff_l4 M FU) (0 : Int32) (0 : Int32)
set_option maxHeartbeats 4000000 in
set_option maxRecDepth 100000 in
theorem w_X5_scalesOff_b34 {p : Program} {l : Launch} {e : Env} {s : State} {m : MethodId} {args : Array Value} {below : List Frame} {meth : Method} {c : Code} {G : xG} {rr : Int32} (E : xE p s m args meth c cX5_scalesOff 3 (some .int) RX5 G) (M : xMem) (L : xLL) (v4_1 : Int32) (v4_2 : Int32) (k4 : Int32 → Int32 → Option (Int32)) (hk4 : ∀ (v4_1 : Int32) (v4_2 : Int32), k4 v4_1 v4_2 = some rr → ∀ (ls : Array Slot), lv_has ls 3 [(0, .ref (xq G 7 0)), (1, .int v4_1), (2, .int v4_2)] → ∀ (H : Heap) (locs : List Loc), xI G M L s.heap H locs → W p l e (xR 1) s m args below meth c H locs 0 0 (MQ below (xQi G rr M L s.heap.size) args s 0 0 (xZ G s.heap.size)) (F0 m 4 ls [])) : ∀ (v34_1 : Int32), f_X5_scalesOff_b34 v4_2 k4 v34_1 = some rr → ∀ (ls : Array Slot), lv_has ls 3 [(0, .ref (xq G 7 0)), (1, .int v34_1), (2, .int v4_2)] → ∀ (H : Heap) (locs : List Loc), xI G M L s.heap H locs → W p l e (xR 1) s m args below meth c H locs 0 0 (MQ below (xQi G rr M L s.heap.size) args s 0 0 (xZ G s.heap.size)) (F0 m 34 ls []) := by
  have hx := E.1
  have hb := E.2.1
  intro v34_1 hf ls hl H locs hI
  rw [f_X5_scalesOff_b34] at hf
  refine lv_iinc (v := (v4_2 + (1 : Int32))) (lv' := [(2, .int (v4_2 + (1 : Int32))), (0, .ref (xq G 7 0)), (1, .int v34_1)]) hx hb dX5_scalesOff_34 hl (k := 2) rfl rfl (by decide) rfl (fun ls hl => ?_)
  refine lv_goto (tgt := 4) hx hb dX5_scalesOff_37 (by decide) ?_
  exact hk4 v34_1 (v4_2 + (1 : Int32)) hf _ (lv_sub hl [1, 2, 0] rfl) _ _ hI
set_option maxHeartbeats 4000000 in
set_option maxRecDepth 100000 in
theorem w_X5_scalesOff_l4 {p : Program} {l : Launch} {e : Env} {s : State} {m : MethodId} {args : Array Value} {below : List Frame} {meth : Method} {c : Code} {G : xG} {rr : Int32} (E : xE p s m args meth c cX5_scalesOff 3 (some .int) RX5 G) (M : xMem) (L : xLL) : ∀ (n : Nat), ∀ (v4_1 : Int32) (v4_2 : Int32), f_X5_scalesOff_l4 M n v4_1 v4_2 = some rr → ∀ (ls : Array Slot), lv_has ls 3 [(0, .ref (xq G 7 0)), (1, .int v4_1), (2, .int v4_2)] → ∀ (H : Heap) (locs : List Loc), xI G M L s.heap H locs → W p l e (xR 1) s m args below meth c H locs 0 0 (MQ below (xQi G rr M L s.heap.size) args s 0 0 (xZ G s.heap.size)) (F0 m 4 ls []) := by
  have hx := E.1
  have hb := E.2.1
  intro n
  induction n with
  | zero =>
    intro v4_1 v4_2 hf
    exact absurd hf (by simp [f_X5_scalesOff_l4])
  | succ n ih =>
    intro v4_1 v4_2 hf ls hl H locs hI
    rw [f_X5_scalesOff_l4] at hf
    refine lv_iload_n hx hb dX5_scalesOff_4 rfl (lv_at hl 2 rfl) ?_
    refine lv_aload_n hx hb dX5_scalesOff_5 rfl (lv_at hl 0 rfl) ?_
    refine gf_X5_35 E hI dX5_scalesOff_6 ?_
    refine lv_icmp_ge (tgt := 40) hx hb dX5_scalesOff_9 (by decide) (fun c9 => ?_) (fun c9 => ?_)
    · replace hf := xif_t c9 hf
      refine lv_iload_n hx hb dX5_scalesOff_40 rfl (lv_at hl 1 rfl) ?_
      obtain rfl := xinj1 hf
      exact x_iret E hI rfl dX5_scalesOff_41
    · replace hf := xif_f c9 hf
      refine lv_aload_n hx hb dX5_scalesOff_12 rfl (lv_at hl 0 rfl) ?_
      refine gf_X5_18 E hI dX5_scalesOff_13 ?_
      refine lv_iload_n hx hb dX5_scalesOff_16 rfl (lv_at hl 2 rfl) ?_
      obtain ⟨h17b, hf⟩ := xchk_s hf
      refine x_iald (n := 91) E hI mx_7_5 (fun _ _ => rfl) h17b dX5_scalesOff_17 ?_
      refine lv_bipush (v := -9) hx hb dX5_scalesOff_18 (by decide) ?_
      refine lv_icmp_eq (tgt := 34) hx hb dX5_scalesOff_20 (by decide) (fun c20 => ?_) (fun c20 => ?_)
      · replace hf := xif_t c20 hf
        exact (w_X5_scalesOff_b34 E (M := M) (L := L) (v4_1 := v4_1) (v4_2 := v4_2) (k4 := (f_X5_scalesOff_l4 M n)) (hk4 := ih)) v4_1 hf _ (lv_sub hl [0, 1, 2] rfl) _ _ hI
      · replace hf := xif_f c20 hf
        refine lv_iload_n hx hb dX5_scalesOff_23 rfl (lv_at hl 1 rfl) ?_
        refine lv_iconst (v := 1) hx hb dX5_scalesOff_24 (by decide) ?_
        refine lv_aload_n hx hb dX5_scalesOff_25 rfl (lv_at hl 0 rfl) ?_
        refine gf_X5_18 E hI dX5_scalesOff_26 ?_
        refine lv_iload_n hx hb dX5_scalesOff_29 rfl (lv_at hl 2 rfl) ?_
        obtain ⟨h30b, hf⟩ := xchk_s hf
        refine x_iald (n := 91) E hI mx_7_5 (fun _ _ => rfl) h30b dX5_scalesOff_30 ?_
        refine lv_ishl hx hb dX5_scalesOff_31 ?_
        refine lv_ior hx hb dX5_scalesOff_32 ?_
        refine lv_istore_n (lv' := [(1, .int (v4_1 ||| ((1 : Int32) <<< ((M 7 5 v4_2.toNatClampNeg) &&& 31)))), (0, .ref (xq G 7 0)), (2, .int v4_2)]) hx hb dX5_scalesOff_33 rfl hl (by decide) rfl (fun ls hl => ?_)
        exact (w_X5_scalesOff_b34 E (M := M) (L := L) (v4_1 := v4_1) (v4_2 := v4_2) (k4 := (f_X5_scalesOff_l4 M n)) (hk4 := ih)) (v4_1 ||| ((1 : Int32) <<< ((M 7 5 v4_2.toNatClampNeg) &&& 31))) hf _ (lv_sub hl [1, 0, 2] rfl) _ _ hI
set_option maxHeartbeats 4000000 in
set_option maxRecDepth 100000 in
theorem c_X5_scalesOff (l : Launch) (G : xG) (sz : Nat) (M : xMem) (L : xLL) {rr : Int32} (hf : f_X5_scalesOff M = some rr) : Met l yX5_scalesOff (Cond.code yX5_scalesOff cX5_scalesOff 3 (some .int) :: xTB) (xR 1) (xP G M L sz [.ref (xq G 7 0)]) (xQi G rr M L sz) 0 0 (xZ G sz) := by
  refine x_met (cc := cX5_scalesOff) (nL := 3) (rt := (some .int)) (by decide) (Nat.le_of_ble_eq_true rfl) ?_
  intro p e s m below meth c ls hsz E hl hI
  subst hsz
  have E : xE p s m _ meth c cX5_scalesOff 3 (some .int) RX5 G := E
  have hx := E.1
  have hb := E.2.1
  have hl : lv_has ls 3 [(0, .ref (xq G 7 0))] := hl
  rw [f_X5_scalesOff] at hf
  refine lv_iconst (v := 0) hx hb dX5_scalesOff_0 (by decide) ?_
  refine lv_istore_n (lv' := [(1, .int (0 : Int32)), (0, .ref (xq G 7 0))]) hx hb dX5_scalesOff_1 rfl hl (by decide) rfl (fun ls hl => ?_)
  refine lv_iconst (v := 0) hx hb dX5_scalesOff_2 (by decide) ?_
  refine lv_istore_n (lv' := [(2, .int (0 : Int32)), (1, .int (0 : Int32)), (0, .ref (xq G 7 0))]) hx hb dX5_scalesOff_3 rfl hl (by decide) rfl (fun ls hl => ?_)
  exact (w_X5_scalesOff_l4 E (M := M) (L := L) FU) (0 : Int32) (0 : Int32) hf _ (lv_sub hl [2, 1, 0] rfl) _ _ hI
theorem dX5_noneOff_0 : decode cX5_noneOff 0 = .ok (.aload_n 0, 1) := by decide +kernel
theorem dX5_noneOff_1 : decode cX5_noneOff 1 = .ok (.getfield 35, 3) := by decide +kernel
theorem dX5_noneOff_4 : decode cX5_noneOff 4 = .ok (.ifCond .le 18, 3) := by decide +kernel
theorem dX5_noneOff_7 : decode cX5_noneOff 7 = .ok (.aload_n 0, 1) := by decide +kernel
theorem dX5_noneOff_8 : decode cX5_noneOff 8 = .ok (.getfield 18, 3) := by decide +kernel
theorem dX5_noneOff_11 : decode cX5_noneOff 11 = .ok (.iconst 0, 1) := by decide +kernel
theorem dX5_noneOff_12 : decode cX5_noneOff 12 = .ok (.iaload, 1) := by decide +kernel
theorem dX5_noneOff_13 : decode cX5_noneOff 13 = .ok (.bipush (-9), 2) := by decide +kernel
theorem dX5_noneOff_15 : decode cX5_noneOff 15 = .ok (.if_icmp .ne 7, 3) := by decide +kernel
theorem dX5_noneOff_18 : decode cX5_noneOff 18 = .ok (.iconst 1, 1) := by decide +kernel
theorem dX5_noneOff_19 : decode cX5_noneOff 19 = .ok (.goto 4, 3) := by decide +kernel
theorem dX5_noneOff_22 : decode cX5_noneOff 22 = .ok (.iconst 0, 1) := by decide +kernel
theorem dX5_noneOff_23 : decode cX5_noneOff 23 = .ok (.ireturn, 1) := by decide +kernel
def f_X5_noneOff_b23 (t23_0 : Int32) : Option (Int32) := some t23_0
def f_X5_noneOff_b22 (k23 : Int32 → Option (Int32)) : Option (Int32) := k23 (0 : Int32)
def f_X5_noneOff (M : xMem) : Option (Int32) := (if (M 7 0 6) ≤ (0 : Int32) then (f_X5_noneOff_b22 (f_X5_noneOff_b23)) else (if (M 7 5 (0 : Int32).toNatClampNeg) = (-9 : Int32) then (f_X5_noneOff_b23) (1 : Int32) else (f_X5_noneOff_b22 (f_X5_noneOff_b23))))
set_option maxHeartbeats 4000000 in
set_option maxRecDepth 100000 in
theorem w_X5_noneOff_b23 {p : Program} {l : Launch} {e : Env} {s : State} {m : MethodId} {args : Array Value} {below : List Frame} {meth : Method} {c : Code} {G : xG} {rr : Int32} (E : xE p s m args meth c cX5_noneOff 1 (some .int) RX5 G) (M : xMem) (L : xLL) : ∀ (t23_0 : Int32), f_X5_noneOff_b23 t23_0 = some rr → ∀ (ls : Array Slot), lv_has ls 1 [] → ∀ (H : Heap) (locs : List Loc), xI G M L s.heap H locs → W p l e (xR 1) s m args below meth c H locs 0 0 (MQ below (xQi G rr M L s.heap.size) args s 0 0 (xZ G s.heap.size)) (F0 m 23 ls [.int t23_0]) := by
  have hx := E.1
  have hb := E.2.1
  intro t23_0 hf ls hl H locs hI
  rw [f_X5_noneOff_b23] at hf
  obtain rfl := xinj1 hf
  exact x_iret E hI rfl dX5_noneOff_23
set_option maxHeartbeats 4000000 in
set_option maxRecDepth 100000 in
theorem w_X5_noneOff_b22 {p : Program} {l : Launch} {e : Env} {s : State} {m : MethodId} {args : Array Value} {below : List Frame} {meth : Method} {c : Code} {G : xG} {rr : Int32} (E : xE p s m args meth c cX5_noneOff 1 (some .int) RX5 G) (M : xMem) (L : xLL) (k23 : Int32 → Option (Int32)) (hk23 : ∀ (t23_0 : Int32), k23 t23_0 = some rr → ∀ (ls : Array Slot), lv_has ls 1 [] → ∀ (H : Heap) (locs : List Loc), xI G M L s.heap H locs → W p l e (xR 1) s m args below meth c H locs 0 0 (MQ below (xQi G rr M L s.heap.size) args s 0 0 (xZ G s.heap.size)) (F0 m 23 ls [.int t23_0])) : f_X5_noneOff_b22 k23  = some rr → ∀ (ls : Array Slot), lv_has ls 1 [] → ∀ (H : Heap) (locs : List Loc), xI G M L s.heap H locs → W p l e (xR 1) s m args below meth c H locs 0 0 (MQ below (xQi G rr M L s.heap.size) args s 0 0 (xZ G s.heap.size)) (F0 m 22 ls []) := by
  have hx := E.1
  have hb := E.2.1
  intro  hf ls hl H locs hI
  rw [f_X5_noneOff_b22] at hf
  refine lv_iconst (v := 0) hx hb dX5_noneOff_22 (by decide) ?_
  exact hk23 (0 : Int32) hf _ (lv_sub hl [] rfl) _ _ hI
set_option maxHeartbeats 4000000 in
set_option maxRecDepth 100000 in
theorem c_X5_noneOff (l : Launch) (G : xG) (sz : Nat) (M : xMem) (L : xLL) {rr : Int32} (hf : f_X5_noneOff M = some rr) : Met l yX5_noneOff (Cond.code yX5_noneOff cX5_noneOff 1 (some .int) :: xTB) (xR 1) (xP G M L sz [.ref (xq G 7 0)]) (xQi G rr M L sz) 0 0 (xZ G sz) := by
  refine x_met (cc := cX5_noneOff) (nL := 1) (rt := (some .int)) (by decide) (Nat.le_of_ble_eq_true rfl) ?_
  intro p e s m below meth c ls hsz E hl hI
  subst hsz
  have E : xE p s m _ meth c cX5_noneOff 1 (some .int) RX5 G := E
  have hx := E.1
  have hb := E.2.1
  have hl : lv_has ls 1 [(0, .ref (xq G 7 0))] := hl
  rw [f_X5_noneOff] at hf
  refine lv_aload_n hx hb dX5_noneOff_0 rfl (lv_at hl 0 rfl) ?_
  refine gf_X5_35 E hI dX5_noneOff_1 ?_
  refine lv_if_le (tgt := 22) hx hb dX5_noneOff_4 (by decide) (fun c4 => ?_) (fun c4 => ?_)
  · replace hf := xif_t c4 hf
    exact (w_X5_noneOff_b22 E (M := M) (L := L) (k23 := (f_X5_noneOff_b23)) (hk23 := (w_X5_noneOff_b23 E (M := M) (L := L))))  hf _ (lv_sub hl [] rfl) _ _ hI
  · replace hf := xif_f c4 hf
    refine lv_aload_n hx hb dX5_noneOff_7 rfl (lv_at hl 0 rfl) ?_
    refine gf_X5_18 E hI dX5_noneOff_8 ?_
    refine lv_iconst (v := 0) hx hb dX5_noneOff_11 (by decide) ?_
    refine x_iald (n := 91) E hI mx_7_5 (fun _ _ => rfl) (by decide) dX5_noneOff_12 ?_
    refine lv_bipush (v := -9) hx hb dX5_noneOff_13 (by decide) ?_
    refine lv_icmp_ne (tgt := 22) hx hb dX5_noneOff_15 (by decide) (fun c15 => ?_) (fun c15 => ?_)
    · replace hf := xif_f c15 hf
      exact (w_X5_noneOff_b22 E (M := M) (L := L) (k23 := (f_X5_noneOff_b23)) (hk23 := (w_X5_noneOff_b23 E (M := M) (L := L))))  hf _ (lv_sub hl [] rfl) _ _ hI
    · replace hf := xif_t c15 hf
      refine lv_iconst (v := 1) hx hb dX5_noneOff_18 (by decide) ?_
      refine lv_goto (tgt := 23) hx hb dX5_noneOff_19 (by decide) ?_
      exact (w_X5_noneOff_b23 E (M := M) (L := L)) (1 : Int32) hf _ (lv_sub hl [] rfl) _ _ hI
theorem dX5_greatestPart_0 : decode cX5_greatestPart 0 = .ok (.aload_n 0, 1) := by decide +kernel
theorem dX5_greatestPart_1 : decode cX5_greatestPart 1 = .ok (.getfield 24, 3) := by decide +kernel
theorem dX5_greatestPart_4 : decode cX5_greatestPart 4 = .ok (.iconst 0, 1) := by decide +kernel
theorem dX5_greatestPart_5 : decode cX5_greatestPart 5 = .ok (.invokestatic 58, 3) := by decide +kernel
theorem dX5_greatestPart_8 : decode cX5_greatestPart 8 = .ok (.iconst 0, 1) := by decide +kernel
theorem dX5_greatestPart_9 : decode cX5_greatestPart 9 = .ok (.istore_n 2, 1) := by decide +kernel
theorem dX5_greatestPart_10 : decode cX5_greatestPart 10 = .ok (.iconst 0, 1) := by decide +kernel
theorem dX5_greatestPart_11 : decode cX5_greatestPart 11 = .ok (.istore_n 3, 1) := by decide +kernel
theorem dX5_greatestPart_12 : decode cX5_greatestPart 12 = .ok (.iload_n 3, 1) := by decide +kernel
theorem dX5_greatestPart_13 : decode cX5_greatestPart 13 = .ok (.aload_n 0, 1) := by decide +kernel
theorem dX5_greatestPart_14 : decode cX5_greatestPart 14 = .ok (.getfield 35, 3) := by decide +kernel
theorem dX5_greatestPart_17 : decode cX5_greatestPart 17 = .ok (.if_icmp .ge 66, 3) := by decide +kernel
theorem dX5_greatestPart_20 : decode cX5_greatestPart 20 = .ok (.aload_n 0, 1) := by decide +kernel
theorem dX5_greatestPart_21 : decode cX5_greatestPart 21 = .ok (.iload_n 1, 1) := by decide +kernel
theorem dX5_greatestPart_22 : decode cX5_greatestPart 22 = .ok (.aload_n 0, 1) := by decide +kernel
theorem dX5_greatestPart_23 : decode cX5_greatestPart 23 = .ok (.getfield 18, 3) := by decide +kernel
theorem dX5_greatestPart_26 : decode cX5_greatestPart 26 = .ok (.iload_n 3, 1) := by decide +kernel
theorem dX5_greatestPart_27 : decode cX5_greatestPart 27 = .ok (.iaload, 1) := by decide +kernel
theorem dX5_greatestPart_28 : decode cX5_greatestPart 28 = .ok (.aload_n 0, 1) := by decide +kernel
theorem dX5_greatestPart_29 : decode cX5_greatestPart 29 = .ok (.getfield 21, 3) := by decide +kernel
theorem dX5_greatestPart_32 : decode cX5_greatestPart 32 = .ok (.iload_n 3, 1) := by decide +kernel
theorem dX5_greatestPart_33 : decode cX5_greatestPart 33 = .ok (.iaload, 1) := by decide +kernel
theorem dX5_greatestPart_34 : decode cX5_greatestPart 34 = .ok (.invokevirtual 47, 3) := by decide +kernel
theorem dX5_greatestPart_37 : decode cX5_greatestPart 37 = .ok (.istore 4, 2) := by decide +kernel
theorem dX5_greatestPart_39 : decode cX5_greatestPart 39 = .ok (.iload 4, 2) := by decide +kernel
theorem dX5_greatestPart_41 : decode cX5_greatestPart 41 = .ok (.bipush (-9), 2) := by decide +kernel
theorem dX5_greatestPart_43 : decode cX5_greatestPart 43 = .ok (.if_icmp .ne 7, 3) := by decide +kernel
theorem dX5_greatestPart_46 : decode cX5_greatestPart 46 = .ok (.iconst 5, 1) := by decide +kernel
theorem dX5_greatestPart_47 : decode cX5_greatestPart 47 = .ok (.goto 5, 3) := by decide +kernel
theorem dX5_greatestPart_50 : decode cX5_greatestPart 50 = .ok (.iload 4, 2) := by decide +kernel
theorem dX5_greatestPart_52 : decode cX5_greatestPart 52 = .ok (.istore 5, 2) := by decide +kernel
theorem dX5_greatestPart_54 : decode cX5_greatestPart 54 = .ok (.aload_n 0, 1) := by decide +kernel
theorem dX5_greatestPart_55 : decode cX5_greatestPart 55 = .ok (.getfield 24, 3) := by decide +kernel
theorem dX5_greatestPart_58 : decode cX5_greatestPart 58 = .ok (.iload 5, 2) := by decide +kernel
theorem dX5_greatestPart_60 : decode cX5_greatestPart 60 = .ok (.dup2, 1) := by decide +kernel
theorem dX5_greatestPart_61 : decode cX5_greatestPart 61 = .ok (.iaload, 1) := by decide +kernel
theorem dX5_greatestPart_62 : decode cX5_greatestPart 62 = .ok (.iconst 1, 1) := by decide +kernel
theorem dX5_greatestPart_63 : decode cX5_greatestPart 63 = .ok (.iadd, 1) := by decide +kernel
theorem dX5_greatestPart_64 : decode cX5_greatestPart 64 = .ok (.iastore, 1) := by decide +kernel
theorem dX5_greatestPart_65 : decode cX5_greatestPart 65 = .ok (.iload_n 2, 1) := by decide +kernel
theorem dX5_greatestPart_66 : decode cX5_greatestPart 66 = .ok (.aload_n 0, 1) := by decide +kernel
theorem dX5_greatestPart_67 : decode cX5_greatestPart 67 = .ok (.getfield 24, 3) := by decide +kernel
theorem dX5_greatestPart_70 : decode cX5_greatestPart 70 = .ok (.iload 5, 2) := by decide +kernel
theorem dX5_greatestPart_72 : decode cX5_greatestPart 72 = .ok (.iaload, 1) := by decide +kernel
theorem dX5_greatestPart_73 : decode cX5_greatestPart 73 = .ok (.invokestatic 64, 3) := by decide +kernel
theorem dX5_greatestPart_76 : decode cX5_greatestPart 76 = .ok (.istore_n 2, 1) := by decide +kernel
theorem dX5_greatestPart_77 : decode cX5_greatestPart 77 = .ok (.iinc 3 1, 3) := by decide +kernel
theorem dX5_greatestPart_80 : decode cX5_greatestPart 80 = .ok (.goto (-68), 3) := by decide +kernel
theorem dX5_greatestPart_83 : decode cX5_greatestPart 83 = .ok (.iload_n 2, 1) := by decide +kernel
theorem dX5_greatestPart_84 : decode cX5_greatestPart 84 = .ok (.ireturn, 1) := by decide +kernel
def f_X5_greatestPart_b52 (v12_2 : Int32) (v12_3 : Int32) (M12 : xMem) (k12 : Int32 → Int32 → xMem → Option (Int32 × xMem)) (t52_0 : Int32) : Option (Int32 × xMem) := xchk (xb t52_0 6) (xchk (xb t52_0 6) (xlet (xst M12 7 8 t52_0 ((M12 7 8 t52_0.toNatClampNeg) + (1 : Int32))) (fun M64 => xchk (xb t52_0 6) (k12 (if v12_2 < (M64 7 8 t52_0.toNatClampNeg) then (M64 7 8 t52_0.toNatClampNeg) else v12_2) (v12_3 + (1 : Int32)) M64))))
def f_X5_greatestPart_l12 (a1 : Int32) : Nat → Int32 → Int32 → xMem → Option (Int32 × xMem)
  | 0, _, _, _ => none
  | n + 1, v12_2, v12_3, M12 => (if (M12 7 0 6) ≤ v12_3 then some (v12_2, M12) else xchk (xb v12_3 91) (xchk (xb v12_3 91) (xb1 (f_X5_fallsFrom a1 (M12 7 5 v12_3.toNatClampNeg) (M12 7 6 v12_3.toNatClampNeg) M12) (fun r34 => (if r34 = (-9 : Int32) then (f_X5_greatestPart_b52 v12_2 v12_3 M12 (f_X5_greatestPart_l12 a1 n)) (5 : Int32) else (f_X5_greatestPart_b52 v12_2 v12_3 M12 (f_X5_greatestPart_l12 a1 n)) r34)))))
def f_X5_greatestPart (a1 : Int32) (M : xMem) : Option (Int32 × xMem) := xb1 (f_J7_fill_53178 7 8 6 (0 : Int32) M) (fun M5 => (f_X5_greatestPart_l12 a1 FU) (0 : Int32) (0 : Int32) M5)
set_option maxHeartbeats 4000000 in
set_option maxRecDepth 100000 in
theorem w_X5_greatestPart_b52 {p : Program} {l : Launch} {e : Env} {s : State} {m : MethodId} {args : Array Value} {below : List Frame} {meth : Method} {c : Code} {G : xG} {rr : Int32} {MM : xMem} (E : xE p s m args meth c cX5_greatestPart 6 (some .int) RX5 G) (a1 : Int32) (M : xMem) (L : xLL) (v12_2 : Int32) (v12_3 : Int32) (M12 : xMem) (k12 : Int32 → Int32 → xMem → Option (Int32 × xMem)) (hk12 : ∀ (v12_2 : Int32) (v12_3 : Int32) (M12 : xMem), k12 v12_2 v12_3 M12 = some (rr, MM) → ∀ (ls : Array Slot), lv_has ls 6 [(0, .ref (xq G 7 0)), (1, .int a1), (2, .int v12_2), (3, .int v12_3)] → ∀ (H : Heap) (locs : List Loc), xI G M12 L s.heap H locs → W p l e (xR 2) s m args below meth c H locs 0 0 (MQ below (xQi G rr MM L s.heap.size) args s 0 0 (xZ G s.heap.size)) (F0 m 12 ls [])) : ∀ (t52_0 : Int32), f_X5_greatestPart_b52 v12_2 v12_3 M12 k12 t52_0 = some (rr, MM) → ∀ (ls : Array Slot), lv_has ls 6 [(0, .ref (xq G 7 0)), (1, .int a1), (2, .int v12_2), (3, .int v12_3)] → ∀ (H : Heap) (locs : List Loc), xI G M12 L s.heap H locs → W p l e (xR 2) s m args below meth c H locs 0 0 (MQ below (xQi G rr MM L s.heap.size) args s 0 0 (xZ G s.heap.size)) (F0 m 52 ls [.int t52_0]) := by
  have hx := E.1
  have hb := E.2.1
  intro t52_0 hf ls hl H locs hI
  rw [f_X5_greatestPart_b52] at hf
  refine lv_istore (lv' := [(5, .int t52_0), (0, .ref (xq G 7 0)), (1, .int a1), (2, .int v12_2), (3, .int v12_3)]) hx hb dX5_greatestPart_52 hl (by decide) rfl (fun ls hl => ?_)
  refine lv_aload_n hx hb dX5_greatestPart_54 rfl (lv_at hl 1 rfl) ?_
  refine gf_X5_24 E hI dX5_greatestPart_55 ?_
  refine lv_iload hx hb dX5_greatestPart_58 (lv_at hl 0 rfl) ?_
  refine lv_dup2_11 hx hb dX5_greatestPart_60 rfl rfl ?_
  obtain ⟨h61b, hf⟩ := xchk_s hf
  refine x_iald (n := 6) E hI mx_7_8 (fun _ _ => rfl) h61b dX5_greatestPart_61 ?_
  refine lv_iconst (v := 1) hx hb dX5_greatestPart_62 (by decide) ?_
  refine lv_iadd hx hb dX5_greatestPart_63 ?_
  obtain ⟨h64b, hf⟩ := xchk_s hf
  obtain ⟨M64, e64, hf⟩ := xlet_s hf
  refine x_iast (n := 6) E hI mx_7_8 (fun _ _ => rfl) h64b dX5_greatestPart_64 e64 (fun H locs hI => ?_)
  refine lv_iload_n hx hb dX5_greatestPart_65 rfl (lv_at hl 3 rfl) ?_
  refine lv_aload_n hx hb dX5_greatestPart_66 rfl (lv_at hl 1 rfl) ?_
  refine gf_X5_24 E hI dX5_greatestPart_67 ?_
  refine lv_iload hx hb dX5_greatestPart_70 (lv_at hl 0 rfl) ?_
  obtain ⟨h72b, hf⟩ := xchk_s hf
  refine x_iald (n := 6) E hI mx_7_8 (fun _ _ => rfl) h72b dX5_greatestPart_72 ?_
  refine x_max E ml_X5_64 ms_max mi_math mc_max (by decide) hl.1 (Nat.le_of_ble_eq_true rfl) dX5_greatestPart_73 ?_
  refine lv_istore_n (lv' := [(2, .int (if v12_2 < (M64 7 8 t52_0.toNatClampNeg) then (M64 7 8 t52_0.toNatClampNeg) else v12_2)), (5, .int t52_0), (0, .ref (xq G 7 0)), (1, .int a1), (3, .int v12_3)]) hx hb dX5_greatestPart_76 rfl hl (by decide) rfl (fun ls hl => ?_)
  refine lv_iinc (v := (v12_3 + (1 : Int32))) (lv' := [(3, .int (v12_3 + (1 : Int32))), (2, .int (if v12_2 < (M64 7 8 t52_0.toNatClampNeg) then (M64 7 8 t52_0.toNatClampNeg) else v12_2)), (5, .int t52_0), (0, .ref (xq G 7 0)), (1, .int a1)]) hx hb dX5_greatestPart_77 hl (k := 4) rfl rfl (by decide) rfl (fun ls hl => ?_)
  refine lv_goto (tgt := 12) hx hb dX5_greatestPart_80 (by decide) ?_
  exact hk12 (if v12_2 < (M64 7 8 t52_0.toNatClampNeg) then (M64 7 8 t52_0.toNatClampNeg) else v12_2) (v12_3 + (1 : Int32)) M64 hf _ (lv_sub hl [3, 4, 1, 0] rfl) _ _ hI
set_option maxHeartbeats 4000000 in
set_option maxRecDepth 100000 in
theorem w_X5_greatestPart_l12 {p : Program} {l : Launch} {e : Env} {s : State} {m : MethodId} {args : Array Value} {below : List Frame} {meth : Method} {c : Code} {G : xG} {rr : Int32} {MM : xMem} (E : xE p s m args meth c cX5_greatestPart 6 (some .int) RX5 G) (a1 : Int32) (M : xMem) (L : xLL) : ∀ (n : Nat), ∀ (v12_2 : Int32) (v12_3 : Int32) (M12 : xMem), f_X5_greatestPart_l12 a1 n v12_2 v12_3 M12 = some (rr, MM) → ∀ (ls : Array Slot), lv_has ls 6 [(0, .ref (xq G 7 0)), (1, .int a1), (2, .int v12_2), (3, .int v12_3)] → ∀ (H : Heap) (locs : List Loc), xI G M12 L s.heap H locs → W p l e (xR 2) s m args below meth c H locs 0 0 (MQ below (xQi G rr MM L s.heap.size) args s 0 0 (xZ G s.heap.size)) (F0 m 12 ls []) := by
  have hx := E.1
  have hb := E.2.1
  intro n
  induction n with
  | zero =>
    intro v12_2 v12_3 M12 hf
    exact absurd hf (by simp [f_X5_greatestPart_l12])
  | succ n ih =>
    intro v12_2 v12_3 M12 hf ls hl H locs hI
    rw [f_X5_greatestPart_l12] at hf
    refine lv_iload_n hx hb dX5_greatestPart_12 rfl (lv_at hl 3 rfl) ?_
    refine lv_aload_n hx hb dX5_greatestPart_13 rfl (lv_at hl 0 rfl) ?_
    refine gf_X5_35 E hI dX5_greatestPart_14 ?_
    refine lv_icmp_ge (tgt := 83) hx hb dX5_greatestPart_17 (by decide) (fun c17 => ?_) (fun c17 => ?_)
    · replace hf := xif_t c17 hf
      refine lv_iload_n hx hb dX5_greatestPart_83 rfl (lv_at hl 2 rfl) ?_
      obtain ⟨rfl, rfl⟩ := xinj2 hf
      exact x_iret E hI rfl dX5_greatestPart_84
    · replace hf := xif_f c17 hf
      refine lv_aload_n hx hb dX5_greatestPart_20 rfl (lv_at hl 0 rfl) ?_
      refine lv_iload_n hx hb dX5_greatestPart_21 rfl (lv_at hl 1 rfl) ?_
      refine lv_aload_n hx hb dX5_greatestPart_22 rfl (lv_at hl 0 rfl) ?_
      refine gf_X5_18 E hI dX5_greatestPart_23 ?_
      refine lv_iload_n hx hb dX5_greatestPart_26 rfl (lv_at hl 3 rfl) ?_
      obtain ⟨h27b, hf⟩ := xchk_s hf
      refine x_iald (n := 91) E hI mx_7_5 (fun _ _ => rfl) h27b dX5_greatestPart_27 ?_
      refine lv_aload_n hx hb dX5_greatestPart_28 rfl (lv_at hl 0 rfl) ?_
      refine gf_X5_21 E hI dX5_greatestPart_29 ?_
      refine lv_iload_n hx hb dX5_greatestPart_32 rfl (lv_at hl 3 rfl) ?_
      obtain ⟨h33b, hf⟩ := xchk_s hf
      refine x_iald (n := 91) E hI mx_7_6 (fun _ _ => rfl) h33b dX5_greatestPart_33 ?_
      obtain ⟨r34, g34, hf⟩ := xb1_s hf
      refine x_callVi (As := [.int a1, .int (M12 7 5 v12_3.toNatClampNeg), .int (M12 7 6 v12_3.toNatClampNeg)]) (rest := []) E hI mx_7_0 rfl rfl rfl (c_X5_fallsFrom l G _ (M := M12) (L := L) (a1 := a1) (a2 := (M12 7 5 v12_3.toNatClampNeg)) (a3 := (M12 7 6 v12_3.toNatClampNeg)) g34) yv_X5_fallsFrom ml_X5_47 (by decide) (by decide) rfl rfl hl.1 (Nat.le_of_ble_eq_true rfl) dX5_greatestPart_34 (fun H locs hI => ?_)
      refine lv_istore (lv' := [(4, .int r34), (0, .ref (xq G 7 0)), (1, .int a1), (2, .int v12_2), (3, .int v12_3)]) hx hb dX5_greatestPart_37 hl (by decide) rfl (fun ls hl => ?_)
      refine lv_iload hx hb dX5_greatestPart_39 (lv_at hl 0 rfl) ?_
      refine lv_bipush (v := -9) hx hb dX5_greatestPart_41 (by decide) ?_
      refine lv_icmp_ne (tgt := 50) hx hb dX5_greatestPart_43 (by decide) (fun c43 => ?_) (fun c43 => ?_)
      · replace hf := xif_f c43 hf
        refine lv_iload hx hb dX5_greatestPart_50 (lv_at hl 0 rfl) ?_
        exact (w_X5_greatestPart_b52 E (a1 := a1) (M := M) (L := L) (v12_2 := v12_2) (v12_3 := v12_3) (M12 := M12) (k12 := (f_X5_greatestPart_l12 a1 n)) (hk12 := ih)) r34 hf _ (lv_sub hl [1, 2, 3, 4] rfl) _ _ hI
      · replace hf := xif_t c43 hf
        refine lv_iconst (v := 5) hx hb dX5_greatestPart_46 (by decide) ?_
        refine lv_goto (tgt := 52) hx hb dX5_greatestPart_47 (by decide) ?_
        exact (w_X5_greatestPart_b52 E (a1 := a1) (M := M) (L := L) (v12_2 := v12_2) (v12_3 := v12_3) (M12 := M12) (k12 := (f_X5_greatestPart_l12 a1 n)) (hk12 := ih)) (5 : Int32) hf _ (lv_sub hl [1, 2, 3, 4] rfl) _ _ hI
set_option maxHeartbeats 4000000 in
set_option maxRecDepth 100000 in
theorem c_X5_greatestPart (l : Launch) (G : xG) (sz : Nat) (M : xMem) (L : xLL) (a1 : Int32) {rr : Int32} {MM : xMem} (hf : f_X5_greatestPart a1 M = some (rr, MM)) : Met l yX5_greatestPart (Cond.code yX5_greatestPart cX5_greatestPart 6 (some .int) :: xTB) (xR 2) (xP G M L sz [.ref (xq G 7 0), .int a1]) (xQi G rr MM L sz) 0 0 (xZ G sz) := by
  refine x_met (cc := cX5_greatestPart) (nL := 6) (rt := (some .int)) (by decide) (Nat.le_of_ble_eq_true rfl) ?_
  intro p e s m below meth c ls hsz E hl hI
  subst hsz
  have E : xE p s m _ meth c cX5_greatestPart 6 (some .int) RX5 G := E
  have hx := E.1
  have hb := E.2.1
  have hl : lv_has ls 6 [(0, .ref (xq G 7 0)), (1, .int a1)] := hl
  rw [f_X5_greatestPart] at hf
  refine lv_aload_n hx hb dX5_greatestPart_0 rfl (lv_at hl 0 rfl) ?_
  refine gf_X5_24 E hI dX5_greatestPart_1 ?_
  refine lv_iconst (v := 0) hx hb dX5_greatestPart_4 (by decide) ?_
  obtain ⟨M5, g5, hf⟩ := xb1_s hf
  refine x_callSv (As := [.ref (xq G 7 8), .int (0 : Int32)]) (rest := []) E hI (c_J7_fill_53178 l G _ (M := M) (L := L) (o0 := 7) (r0 := 8) (n0 := 6) (hm0 := mx_7_8) (hc0 := (fun _ _ => rfl)) (a1 := (0 : Int32)) g5) ys_J7_fill_53178 ml_X5_58 (by decide) (by decide) rfl rfl hl.1 (Nat.le_of_ble_eq_true rfl) dX5_greatestPart_5 (fun H locs hI => ?_)
  refine lv_iconst (v := 0) hx hb dX5_greatestPart_8 (by decide) ?_
  refine lv_istore_n (lv' := [(2, .int (0 : Int32)), (0, .ref (xq G 7 0)), (1, .int a1)]) hx hb dX5_greatestPart_9 rfl hl (by decide) rfl (fun ls hl => ?_)
  refine lv_iconst (v := 0) hx hb dX5_greatestPart_10 (by decide) ?_
  refine lv_istore_n (lv' := [(3, .int (0 : Int32)), (2, .int (0 : Int32)), (0, .ref (xq G 7 0)), (1, .int a1)]) hx hb dX5_greatestPart_11 rfl hl (by decide) rfl (fun ls hl => ?_)
  exact (w_X5_greatestPart_l12 E (a1 := a1) (M := M) (L := L) FU) (0 : Int32) (0 : Int32) M5 hf _ (lv_sub hl [2, 3, 1, 0] rfl) _ _ hI
theorem dX5_weightToTry_0 : decode cX5_weightToTry 0 = .ok (.bipush (-9), 2) := by decide +kernel
theorem dX5_weightToTry_2 : decode cX5_weightToTry 2 = .ok (.istore_n 1, 1) := by decide +kernel
theorem dX5_weightToTry_3 : decode cX5_weightToTry 3 = .ok (.aload_n 0, 1) := by decide +kernel
theorem dX5_weightToTry_4 : decode cX5_weightToTry 4 = .ok (.getfield 35, 3) := by decide +kernel
theorem dX5_weightToTry_7 : decode cX5_weightToTry 7 = .ok (.istore_n 2, 1) := by decide +kernel
theorem dX5_weightToTry_8 : decode cX5_weightToTry 8 = .ok (.iconst 1, 1) := by decide +kernel
theorem dX5_weightToTry_9 : decode cX5_weightToTry 9 = .ok (.istore_n 3, 1) := by decide +kernel
theorem dX5_weightToTry_10 : decode cX5_weightToTry 10 = .ok (.iload_n 3, 1) := by decide +kernel
theorem dX5_weightToTry_11 : decode cX5_weightToTry 11 = .ok (.bipush 99, 2) := by decide +kernel
theorem dX5_weightToTry_13 : decode cX5_weightToTry 13 = .ok (.if_icmp .gt 41, 3) := by decide +kernel
theorem dX5_weightToTry_16 : decode cX5_weightToTry 16 = .ok (.aload_n 0, 1) := by decide +kernel
theorem dX5_weightToTry_17 : decode cX5_weightToTry 17 = .ok (.getfield 35, 3) := by decide +kernel
theorem dX5_weightToTry_20 : decode cX5_weightToTry 20 = .ok (.iconst 1, 1) := by decide +kernel
theorem dX5_weightToTry_21 : decode cX5_weightToTry 21 = .ok (.if_icmp .le 33, 3) := by decide +kernel
theorem dX5_weightToTry_24 : decode cX5_weightToTry 24 = .ok (.aload_n 0, 1) := by decide +kernel
theorem dX5_weightToTry_25 : decode cX5_weightToTry 25 = .ok (.iload_n 3, 1) := by decide +kernel
theorem dX5_weightToTry_26 : decode cX5_weightToTry 26 = .ok (.invokevirtual 54, 3) := by decide +kernel
theorem dX5_weightToTry_29 : decode cX5_weightToTry 29 = .ok (.istore 4, 2) := by decide +kernel
theorem dX5_weightToTry_31 : decode cX5_weightToTry 31 = .ok (.iload_n 1, 1) := by decide +kernel
theorem dX5_weightToTry_32 : decode cX5_weightToTry 32 = .ok (.bipush (-9), 2) := by decide +kernel
theorem dX5_weightToTry_34 : decode cX5_weightToTry 34 = .ok (.if_icmp .eq 9, 3) := by decide +kernel
theorem dX5_weightToTry_37 : decode cX5_weightToTry 37 = .ok (.iload 4, 2) := by decide +kernel
theorem dX5_weightToTry_39 : decode cX5_weightToTry 39 = .ok (.iload_n 2, 1) := by decide +kernel
theorem dX5_weightToTry_40 : decode cX5_weightToTry 40 = .ok (.if_icmp .ge 8, 3) := by decide +kernel
theorem dX5_weightToTry_43 : decode cX5_weightToTry 43 = .ok (.iload_n 3, 1) := by decide +kernel
theorem dX5_weightToTry_44 : decode cX5_weightToTry 44 = .ok (.istore_n 1, 1) := by decide +kernel
theorem dX5_weightToTry_45 : decode cX5_weightToTry 45 = .ok (.iload 4, 2) := by decide +kernel
theorem dX5_weightToTry_47 : decode cX5_weightToTry 47 = .ok (.istore_n 2, 1) := by decide +kernel
theorem dX5_weightToTry_48 : decode cX5_weightToTry 48 = .ok (.iinc 3 1, 3) := by decide +kernel
theorem dX5_weightToTry_51 : decode cX5_weightToTry 51 = .ok (.goto (-41), 3) := by decide +kernel
theorem dX5_weightToTry_54 : decode cX5_weightToTry 54 = .ok (.iload_n 1, 1) := by decide +kernel
theorem dX5_weightToTry_55 : decode cX5_weightToTry 55 = .ok (.ireturn, 1) := by decide +kernel
def f_X5_weightToTry_b54 (v10_1 : Int32) (M10 : xMem) : Option (Int32 × xMem) := some (v10_1, M10)
def f_X5_weightToTry_b48 (v10_3 : Int32) (M26 : xMem) (k10 : Int32 → Int32 → Int32 → xMem → Option (Int32 × xMem)) (v48_1 : Int32) (v48_2 : Int32) : Option (Int32 × xMem) := k10 v48_1 v48_2 (v10_3 + (1 : Int32)) M26
def f_X5_weightToTry_b43 (v10_3 : Int32) (r26 : Int32) (k48 : Int32 → Int32 → Option (Int32 × xMem)) : Option (Int32 × xMem) := k48 v10_3 r26
def f_X5_weightToTry_l10 : Nat → Int32 → Int32 → Int32 → xMem → Option (Int32 × xMem)
  | 0, _, _, _, _ => none
  | n + 1, v10_1, v10_2, v10_3, M10 => (if (99 : Int32) < v10_3 then (f_X5_weightToTry_b54 v10_1 M10) else (if (M10 7 0 6) ≤ (1 : Int32) then (f_X5_weightToTry_b54 v10_1 M10) else xb2 (f_X5_greatestPart v10_3 M10) (fun r26 M26 => (if v10_1 = (-9 : Int32) then (f_X5_weightToTry_b43 v10_3 r26 (f_X5_weightToTry_b48 v10_3 M26 (f_X5_weightToTry_l10 n))) else (if v10_2 ≤ r26 then (f_X5_weightToTry_b48 v10_3 M26 (f_X5_weightToTry_l10 n)) v10_1 v10_2 else (f_X5_weightToTry_b43 v10_3 r26 (f_X5_weightToTry_b48 v10_3 M26 (f_X5_weightToTry_l10 n))))))))
def f_X5_weightToTry (M : xMem) : Option (Int32 × xMem) := (f_X5_weightToTry_l10 FU) (-9 : Int32) (M 7 0 6) (1 : Int32) M
set_option maxHeartbeats 4000000 in
set_option maxRecDepth 100000 in
theorem w_X5_weightToTry_b54 {p : Program} {l : Launch} {e : Env} {s : State} {m : MethodId} {args : Array Value} {below : List Frame} {meth : Method} {c : Code} {G : xG} {rr : Int32} {MM : xMem} (E : xE p s m args meth c cX5_weightToTry 5 (some .int) RX5 G) (M : xMem) (L : xLL) (v10_1 : Int32) (M10 : xMem) : f_X5_weightToTry_b54 v10_1 M10  = some (rr, MM) → ∀ (ls : Array Slot), lv_has ls 5 [(1, .int v10_1)] → ∀ (H : Heap) (locs : List Loc), xI G M10 L s.heap H locs → W p l e (xR 3) s m args below meth c H locs 0 0 (MQ below (xQi G rr MM L s.heap.size) args s 0 0 (xZ G s.heap.size)) (F0 m 54 ls []) := by
  have hx := E.1
  have hb := E.2.1
  intro  hf ls hl H locs hI
  rw [f_X5_weightToTry_b54] at hf
  refine lv_iload_n hx hb dX5_weightToTry_54 rfl (lv_at hl 0 rfl) ?_
  obtain ⟨rfl, rfl⟩ := xinj2 hf
  exact x_iret E hI rfl dX5_weightToTry_55
set_option maxHeartbeats 4000000 in
set_option maxRecDepth 100000 in
theorem w_X5_weightToTry_b48 {p : Program} {l : Launch} {e : Env} {s : State} {m : MethodId} {args : Array Value} {below : List Frame} {meth : Method} {c : Code} {G : xG} {rr : Int32} {MM : xMem} (E : xE p s m args meth c cX5_weightToTry 5 (some .int) RX5 G) (M : xMem) (L : xLL) (v10_1 : Int32) (v10_2 : Int32) (v10_3 : Int32) (M10 : xMem) (M26 : xMem) (k10 : Int32 → Int32 → Int32 → xMem → Option (Int32 × xMem)) (hk10 : ∀ (v10_1 : Int32) (v10_2 : Int32) (v10_3 : Int32) (M10 : xMem), k10 v10_1 v10_2 v10_3 M10 = some (rr, MM) → ∀ (ls : Array Slot), lv_has ls 5 [(0, .ref (xq G 7 0)), (1, .int v10_1), (2, .int v10_2), (3, .int v10_3)] → ∀ (H : Heap) (locs : List Loc), xI G M10 L s.heap H locs → W p l e (xR 3) s m args below meth c H locs 0 0 (MQ below (xQi G rr MM L s.heap.size) args s 0 0 (xZ G s.heap.size)) (F0 m 10 ls [])) : ∀ (v48_1 : Int32) (v48_2 : Int32), f_X5_weightToTry_b48 v10_3 M26 k10 v48_1 v48_2 = some (rr, MM) → ∀ (ls : Array Slot), lv_has ls 5 [(0, .ref (xq G 7 0)), (1, .int v48_1), (2, .int v48_2), (3, .int v10_3)] → ∀ (H : Heap) (locs : List Loc), xI G M26 L s.heap H locs → W p l e (xR 3) s m args below meth c H locs 0 0 (MQ below (xQi G rr MM L s.heap.size) args s 0 0 (xZ G s.heap.size)) (F0 m 48 ls []) := by
  have hx := E.1
  have hb := E.2.1
  intro v48_1 v48_2 hf ls hl H locs hI
  rw [f_X5_weightToTry_b48] at hf
  refine lv_iinc (v := (v10_3 + (1 : Int32))) (lv' := [(3, .int (v10_3 + (1 : Int32))), (0, .ref (xq G 7 0)), (1, .int v48_1), (2, .int v48_2)]) hx hb dX5_weightToTry_48 hl (k := 3) rfl rfl (by decide) rfl (fun ls hl => ?_)
  refine lv_goto (tgt := 10) hx hb dX5_weightToTry_51 (by decide) ?_
  exact hk10 v48_1 v48_2 (v10_3 + (1 : Int32)) M26 hf _ (lv_sub hl [1, 2, 3, 0] rfl) _ _ hI
set_option maxHeartbeats 4000000 in
set_option maxRecDepth 100000 in
theorem w_X5_weightToTry_b43 {p : Program} {l : Launch} {e : Env} {s : State} {m : MethodId} {args : Array Value} {below : List Frame} {meth : Method} {c : Code} {G : xG} {rr : Int32} {MM : xMem} (E : xE p s m args meth c cX5_weightToTry 5 (some .int) RX5 G) (M : xMem) (L : xLL) (v10_3 : Int32) (r26 : Int32) (M26 : xMem) (k48 : Int32 → Int32 → Option (Int32 × xMem)) (hk48 : ∀ (v48_1 : Int32) (v48_2 : Int32), k48 v48_1 v48_2 = some (rr, MM) → ∀ (ls : Array Slot), lv_has ls 5 [(0, .ref (xq G 7 0)), (1, .int v48_1), (2, .int v48_2), (3, .int v10_3)] → ∀ (H : Heap) (locs : List Loc), xI G M26 L s.heap H locs → W p l e (xR 3) s m args below meth c H locs 0 0 (MQ below (xQi G rr MM L s.heap.size) args s 0 0 (xZ G s.heap.size)) (F0 m 48 ls [])) : f_X5_weightToTry_b43 v10_3 r26 k48  = some (rr, MM) → ∀ (ls : Array Slot), lv_has ls 5 [(0, .ref (xq G 7 0)), (3, .int v10_3), (4, .int r26)] → ∀ (H : Heap) (locs : List Loc), xI G M26 L s.heap H locs → W p l e (xR 3) s m args below meth c H locs 0 0 (MQ below (xQi G rr MM L s.heap.size) args s 0 0 (xZ G s.heap.size)) (F0 m 43 ls []) := by
  have hx := E.1
  have hb := E.2.1
  intro  hf ls hl H locs hI
  rw [f_X5_weightToTry_b43] at hf
  refine lv_iload_n hx hb dX5_weightToTry_43 rfl (lv_at hl 1 rfl) ?_
  refine lv_istore_n (lv' := [(1, .int v10_3), (0, .ref (xq G 7 0)), (3, .int v10_3), (4, .int r26)]) hx hb dX5_weightToTry_44 rfl hl (by decide) rfl (fun ls hl => ?_)
  refine lv_iload hx hb dX5_weightToTry_45 (lv_at hl 3 rfl) ?_
  refine lv_istore_n (lv' := [(2, .int r26), (1, .int v10_3), (0, .ref (xq G 7 0)), (3, .int v10_3), (4, .int r26)]) hx hb dX5_weightToTry_47 rfl hl (by decide) rfl (fun ls hl => ?_)
  exact hk48 v10_3 r26 hf _ (lv_sub hl [2, 1, 0, 3] rfl) _ _ hI
set_option maxHeartbeats 4000000 in
set_option maxRecDepth 100000 in
theorem w_X5_weightToTry_l10 {p : Program} {l : Launch} {e : Env} {s : State} {m : MethodId} {args : Array Value} {below : List Frame} {meth : Method} {c : Code} {G : xG} {rr : Int32} {MM : xMem} (E : xE p s m args meth c cX5_weightToTry 5 (some .int) RX5 G) (M : xMem) (L : xLL) : ∀ (n : Nat), ∀ (v10_1 : Int32) (v10_2 : Int32) (v10_3 : Int32) (M10 : xMem), f_X5_weightToTry_l10  n v10_1 v10_2 v10_3 M10 = some (rr, MM) → ∀ (ls : Array Slot), lv_has ls 5 [(0, .ref (xq G 7 0)), (1, .int v10_1), (2, .int v10_2), (3, .int v10_3)] → ∀ (H : Heap) (locs : List Loc), xI G M10 L s.heap H locs → W p l e (xR 3) s m args below meth c H locs 0 0 (MQ below (xQi G rr MM L s.heap.size) args s 0 0 (xZ G s.heap.size)) (F0 m 10 ls []) := by
  have hx := E.1
  have hb := E.2.1
  intro n
  induction n with
  | zero =>
    intro v10_1 v10_2 v10_3 M10 hf
    exact absurd hf (by simp [f_X5_weightToTry_l10])
  | succ n ih =>
    intro v10_1 v10_2 v10_3 M10 hf ls hl H locs hI
    rw [f_X5_weightToTry_l10] at hf
    refine lv_iload_n hx hb dX5_weightToTry_10 rfl (lv_at hl 3 rfl) ?_
    refine lv_bipush (v := 99) hx hb dX5_weightToTry_11 (by decide) ?_
    refine lv_icmp_gt (tgt := 54) hx hb dX5_weightToTry_13 (by decide) (fun c13 => ?_) (fun c13 => ?_)
    · replace hf := xif_t c13 hf
      exact (w_X5_weightToTry_b54 E (M := M) (L := L) (v10_1 := v10_1) (M10 := M10))  hf _ (lv_sub hl [1] rfl) _ _ hI
    · replace hf := xif_f c13 hf
      refine lv_aload_n hx hb dX5_weightToTry_16 rfl (lv_at hl 0 rfl) ?_
      refine gf_X5_35 E hI dX5_weightToTry_17 ?_
      refine lv_iconst (v := 1) hx hb dX5_weightToTry_20 (by decide) ?_
      refine lv_icmp_le (tgt := 54) hx hb dX5_weightToTry_21 (by decide) (fun c21 => ?_) (fun c21 => ?_)
      · replace hf := xif_t c21 hf
        exact (w_X5_weightToTry_b54 E (M := M) (L := L) (v10_1 := v10_1) (M10 := M10))  hf _ (lv_sub hl [1] rfl) _ _ hI
      · replace hf := xif_f c21 hf
        refine lv_aload_n hx hb dX5_weightToTry_24 rfl (lv_at hl 0 rfl) ?_
        refine lv_iload_n hx hb dX5_weightToTry_25 rfl (lv_at hl 3 rfl) ?_
        obtain ⟨r26, M26, g26, hf⟩ := xb2_s hf
        refine x_callVi (As := [.int v10_3]) (rest := []) E hI mx_7_0 rfl rfl rfl (c_X5_greatestPart l G _ (M := M10) (L := L) (a1 := v10_3) g26) yv_X5_greatestPart ml_X5_54 (by decide) (by decide) rfl rfl hl.1 (Nat.le_of_ble_eq_true rfl) dX5_weightToTry_26 (fun H locs hI => ?_)
        refine lv_istore (lv' := [(4, .int r26), (0, .ref (xq G 7 0)), (1, .int v10_1), (2, .int v10_2), (3, .int v10_3)]) hx hb dX5_weightToTry_29 hl (by decide) rfl (fun ls hl => ?_)
        refine lv_iload_n hx hb dX5_weightToTry_31 rfl (lv_at hl 2 rfl) ?_
        refine lv_bipush (v := -9) hx hb dX5_weightToTry_32 (by decide) ?_
        refine lv_icmp_eq (tgt := 43) hx hb dX5_weightToTry_34 (by decide) (fun c34 => ?_) (fun c34 => ?_)
        · replace hf := xif_t c34 hf
          exact (w_X5_weightToTry_b43 E (M := M) (L := L) (v10_3 := v10_3) (r26 := r26) (M26 := M26) (k48 := (f_X5_weightToTry_b48 v10_3 M26 (f_X5_weightToTry_l10 n))) (hk48 := (w_X5_weightToTry_b48 E (M := M) (L := L) (v10_1 := v10_1) (v10_2 := v10_2) (v10_3 := v10_3) (M10 := M10) (M26 := M26) (k10 := (f_X5_weightToTry_l10 n)) (hk10 := ih))))  hf _ (lv_sub hl [1, 4, 0] rfl) _ _ hI
        · replace hf := xif_f c34 hf
          refine lv_iload hx hb dX5_weightToTry_37 (lv_at hl 0 rfl) ?_
          refine lv_iload_n hx hb dX5_weightToTry_39 rfl (lv_at hl 3 rfl) ?_
          refine lv_icmp_ge (tgt := 48) hx hb dX5_weightToTry_40 (by decide) (fun c40 => ?_) (fun c40 => ?_)
          · replace hf := xif_t c40 hf
            exact (w_X5_weightToTry_b48 E (M := M) (L := L) (v10_1 := v10_1) (v10_2 := v10_2) (v10_3 := v10_3) (M10 := M10) (M26 := M26) (k10 := (f_X5_weightToTry_l10 n)) (hk10 := ih)) v10_1 v10_2 hf _ (lv_sub hl [1, 2, 3, 4] rfl) _ _ hI
          · replace hf := xif_f c40 hf
            exact (w_X5_weightToTry_b43 E (M := M) (L := L) (v10_3 := v10_3) (r26 := r26) (M26 := M26) (k48 := (f_X5_weightToTry_b48 v10_3 M26 (f_X5_weightToTry_l10 n))) (hk48 := (w_X5_weightToTry_b48 E (M := M) (L := L) (v10_1 := v10_1) (v10_2 := v10_2) (v10_3 := v10_3) (M10 := M10) (M26 := M26) (k10 := (f_X5_weightToTry_l10 n)) (hk10 := ih))))  hf _ (lv_sub hl [1, 4, 0] rfl) _ _ hI
set_option maxHeartbeats 4000000 in
set_option maxRecDepth 100000 in
theorem c_X5_weightToTry (l : Launch) (G : xG) (sz : Nat) (M : xMem) (L : xLL) {rr : Int32} {MM : xMem} (hf : f_X5_weightToTry M = some (rr, MM)) : Met l yX5_weightToTry (Cond.code yX5_weightToTry cX5_weightToTry 5 (some .int) :: xTB) (xR 3) (xP G M L sz [.ref (xq G 7 0)]) (xQi G rr MM L sz) 0 0 (xZ G sz) := by
  refine x_met (cc := cX5_weightToTry) (nL := 5) (rt := (some .int)) (by decide) (Nat.le_of_ble_eq_true rfl) ?_
  intro p e s m below meth c ls hsz E hl hI
  subst hsz
  have E : xE p s m _ meth c cX5_weightToTry 5 (some .int) RX5 G := E
  have hx := E.1
  have hb := E.2.1
  have hl : lv_has ls 5 [(0, .ref (xq G 7 0))] := hl
  rw [f_X5_weightToTry] at hf
  refine lv_bipush (v := -9) hx hb dX5_weightToTry_0 (by decide) ?_
  refine lv_istore_n (lv' := [(1, .int (-9 : Int32)), (0, .ref (xq G 7 0))]) hx hb dX5_weightToTry_2 rfl hl (by decide) rfl (fun ls hl => ?_)
  refine lv_aload_n hx hb dX5_weightToTry_3 rfl (lv_at hl 1 rfl) ?_
  refine gf_X5_35 E hI dX5_weightToTry_4 ?_
  refine lv_istore_n (lv' := [(2, .int (M 7 0 6)), (1, .int (-9 : Int32)), (0, .ref (xq G 7 0))]) hx hb dX5_weightToTry_7 rfl hl (by decide) rfl (fun ls hl => ?_)
  refine lv_iconst (v := 1) hx hb dX5_weightToTry_8 (by decide) ?_
  refine lv_istore_n (lv' := [(3, .int (1 : Int32)), (2, .int (M 7 0 6)), (1, .int (-9 : Int32)), (0, .ref (xq G 7 0))]) hx hb dX5_weightToTry_9 rfl hl (by decide) rfl (fun ls hl => ?_)
  exact (w_X5_weightToTry_l10 E (M := M) (L := L) FU) (-9 : Int32) (M 7 0 6) (1 : Int32) M hf _ (lv_sub hl [3, 2, 1, 0] rfl) _ _ hI
theorem dX4_keepTried_0 : decode cX4_keepTried 0 = .ok (.aload_n 0, 1) := by decide +kernel
theorem dX4_keepTried_1 : decode cX4_keepTried 1 = .ok (.iload_n 1, 1) := by decide +kernel
theorem dX4_keepTried_2 : decode cX4_keepTried 2 = .ok (.putfield 43, 3) := by decide +kernel
theorem dX4_keepTried_5 : decode cX4_keepTried 5 = .ok (.aload_n 0, 1) := by decide +kernel
theorem dX4_keepTried_6 : decode cX4_keepTried 6 = .ok (.getfield 17, 3) := by decide +kernel
theorem dX4_keepTried_9 : decode cX4_keepTried 9 = .ok (.iconst 0, 1) := by decide +kernel
theorem dX4_keepTried_10 : decode cX4_keepTried 10 = .ok (.aload_n 0, 1) := by decide +kernel
theorem dX4_keepTried_11 : decode cX4_keepTried 11 = .ok (.getfield 21, 3) := by decide +kernel
theorem dX4_keepTried_14 : decode cX4_keepTried 14 = .ok (.iconst 0, 1) := by decide +kernel
theorem dX4_keepTried_15 : decode cX4_keepTried 15 = .ok (.aload_n 0, 1) := by decide +kernel
theorem dX4_keepTried_16 : decode cX4_keepTried 16 = .ok (.getfield 39, 3) := by decide +kernel
theorem dX4_keepTried_19 : decode cX4_keepTried 19 = .ok (.invokestatic 96, 3) := by decide +kernel
theorem dX4_keepTried_22 : decode cX4_keepTried 22 = .ok (.return_, 1) := by decide +kernel
def f_X4_keepTried (a1 : Int32) (M : xMem) : Option (xMem) := xlet (xsf M 5 5 a1) (fun M2 => xchk (xcb (0 : Int32) (0 : Int32) (M2 5 0 4) 6 6) (xlet (xcp M2 5 3 (0 : Int32) 5 4 (0 : Int32) (M2 5 0 4)) (fun M19 => some M19)))
set_option maxHeartbeats 4000000 in
set_option maxRecDepth 100000 in
theorem c_X4_keepTried (l : Launch) (G : xG) (sz : Nat) (M : xMem) (L : xLL) (a1 : Int32) {MM : xMem} (hf : f_X4_keepTried a1 M = some MM) : Met l yX4_keepTried (Cond.code yX4_keepTried cX4_keepTried 2 none :: xTB) (xR 1) (xP G M L sz [.ref (xq G 5 0), .int a1]) (xQv G MM L sz) 0 0 (xZ G sz) := by
  refine x_met (cc := cX4_keepTried) (nL := 2) (rt := none) (by decide) (Nat.le_of_ble_eq_true rfl) ?_
  intro p e s m below meth c ls hsz E hl hI
  subst hsz
  have E : xE p s m _ meth c cX4_keepTried 2 none RX4 G := E
  have hx := E.1
  have hb := E.2.1
  have hl : lv_has ls 2 [(0, .ref (xq G 5 0)), (1, .int a1)] := hl
  rw [f_X4_keepTried] at hf
  refine lv_aload_n hx hb dX4_keepTried_0 rfl (lv_at hl 0 rfl) ?_
  refine lv_iload_n hx hb dX4_keepTried_1 rfl (lv_at hl 1 rfl) ?_
  obtain ⟨M2, e2, hf⟩ := xlet_s hf
  refine pf_X4_43 E hI dX4_keepTried_2 e2 (fun H locs hI => ?_)
  refine lv_aload_n hx hb dX4_keepTried_5 rfl (lv_at hl 0 rfl) ?_
  refine gf_X4_17 E hI dX4_keepTried_6 ?_
  refine lv_iconst (v := 0) hx hb dX4_keepTried_9 (by decide) ?_
  refine lv_aload_n hx hb dX4_keepTried_10 rfl (lv_at hl 0 rfl) ?_
  refine gf_X4_21 E hI dX4_keepTried_11 ?_
  refine lv_iconst (v := 0) hx hb dX4_keepTried_14 (by decide) ?_
  refine lv_aload_n hx hb dX4_keepTried_15 rfl (lv_at hl 0 rfl) ?_
  refine gf_X4_39 E hI dX4_keepTried_16 ?_
  obtain ⟨h19c, hf⟩ := xchk_s hf
  obtain ⟨M19, e19, hf⟩ := xlet_s hf
  refine x_copy E hI mx_5_3 (fun _ _ => rfl) mx_5_4 (fun _ _ => rfl) ml_X4_96 ac_n ac_s ac_i (by decide) hl.1 (Nat.le_of_ble_eq_true rfl) h19c dX4_keepTried_19 e19 (fun H locs hI => ?_)
  obtain rfl := xinj1 hf
  exact x_vret E hI dX4_keepTried_22
theorem dX4_tryRow_0 : decode cX4_tryRow 0 = .ok (.aload_n 0, 1) := by decide +kernel
theorem dX4_tryRow_1 : decode cX4_tryRow 1 = .ok (.getfield 11, 3) := by decide +kernel
theorem dX4_tryRow_4 : decode cX4_tryRow 4 = .ok (.iconst 1, 1) := by decide +kernel
theorem dX4_tryRow_5 : decode cX4_tryRow 5 = .ok (.aaload, 1) := by decide +kernel
theorem dX4_tryRow_6 : decode cX4_tryRow 6 = .ok (.astore_n 1, 1) := by decide +kernel
theorem dX4_tryRow_7 : decode cX4_tryRow 7 = .ok (.aload_n 1, 1) := by decide +kernel
theorem dX4_tryRow_8 : decode cX4_tryRow 8 = .ok (.aload_n 0, 1) := by decide +kernel
theorem dX4_tryRow_9 : decode cX4_tryRow 9 = .ok (.getfield 11, 3) := by decide +kernel
theorem dX4_tryRow_12 : decode cX4_tryRow 12 = .ok (.iconst 0, 1) := by decide +kernel
theorem dX4_tryRow_13 : decode cX4_tryRow 13 = .ok (.aaload, 1) := by decide +kernel
theorem dX4_tryRow_14 : decode cX4_tryRow 14 = .ok (.invokevirtual 31, 3) := by decide +kernel
theorem dX4_tryRow_17 : decode cX4_tryRow 17 = .ok (.aload_n 0, 1) := by decide +kernel
theorem dX4_tryRow_18 : decode cX4_tryRow 18 = .ok (.getfield 17, 3) := by decide +kernel
theorem dX4_tryRow_21 : decode cX4_tryRow 21 = .ok (.iconst 0, 1) := by decide +kernel
theorem dX4_tryRow_22 : decode cX4_tryRow 22 = .ok (.aload_n 1, 1) := by decide +kernel
theorem dX4_tryRow_23 : decode cX4_tryRow 23 = .ok (.getfield 93, 3) := by decide +kernel
theorem dX4_tryRow_26 : decode cX4_tryRow 26 = .ok (.iconst 0, 1) := by decide +kernel
theorem dX4_tryRow_27 : decode cX4_tryRow 27 = .ok (.aload_n 0, 1) := by decide +kernel
theorem dX4_tryRow_28 : decode cX4_tryRow 28 = .ok (.getfield 39, 3) := by decide +kernel
theorem dX4_tryRow_31 : decode cX4_tryRow 31 = .ok (.invokestatic 96, 3) := by decide +kernel
theorem dX4_tryRow_34 : decode cX4_tryRow 34 = .ok (.iconst 0, 1) := by decide +kernel
theorem dX4_tryRow_35 : decode cX4_tryRow 35 = .ok (.istore_n 2, 1) := by decide +kernel
theorem dX4_tryRow_36 : decode cX4_tryRow 36 = .ok (.iload_n 2, 1) := by decide +kernel
theorem dX4_tryRow_37 : decode cX4_tryRow 37 = .ok (.aload_n 0, 1) := by decide +kernel
theorem dX4_tryRow_38 : decode cX4_tryRow 38 = .ok (.getfield 24, 3) := by decide +kernel
theorem dX4_tryRow_41 : decode cX4_tryRow 41 = .ok (.getfield 66, 3) := by decide +kernel
theorem dX4_tryRow_44 : decode cX4_tryRow 44 = .ok (.if_icmp .ge 24, 3) := by decide +kernel
theorem dX4_tryRow_47 : decode cX4_tryRow 47 = .ok (.aload_n 1, 1) := by decide +kernel
theorem dX4_tryRow_48 : decode cX4_tryRow 48 = .ok (.getfield 71, 3) := by decide +kernel
theorem dX4_tryRow_51 : decode cX4_tryRow 51 = .ok (.iload_n 2, 1) := by decide +kernel
theorem dX4_tryRow_52 : decode cX4_tryRow 52 = .ok (.iaload, 1) := by decide +kernel
theorem dX4_tryRow_53 : decode cX4_tryRow 53 = .ok (.ifCond .ne 9, 3) := by decide +kernel
theorem dX4_tryRow_56 : decode cX4_tryRow 56 = .ok (.aload_n 1, 1) := by decide +kernel
theorem dX4_tryRow_57 : decode cX4_tryRow 57 = .ok (.iload_n 2, 1) := by decide +kernel
theorem dX4_tryRow_58 : decode cX4_tryRow 58 = .ok (.invokevirtual 74, 3) := by decide +kernel
theorem dX4_tryRow_61 : decode cX4_tryRow 61 = .ok (.pop, 1) := by decide +kernel
theorem dX4_tryRow_62 : decode cX4_tryRow 62 = .ok (.iinc 2 1, 3) := by decide +kernel
theorem dX4_tryRow_65 : decode cX4_tryRow 65 = .ok (.goto (-29), 3) := by decide +kernel
theorem dX4_tryRow_68 : decode cX4_tryRow 68 = .ok (.aload_n 1, 1) := by decide +kernel
theorem dX4_tryRow_69 : decode cX4_tryRow 69 = .ok (.invokevirtual 46, 3) := by decide +kernel
theorem dX4_tryRow_72 : decode cX4_tryRow 72 = .ok (.invokestatic 50, 3) := by decide +kernel
theorem dX4_tryRow_75 : decode cX4_tryRow 75 = .ok (.istore_n 2, 1) := by decide +kernel
theorem dX4_tryRow_76 : decode cX4_tryRow 76 = .ok (.iload_n 2, 1) := by decide +kernel
theorem dX4_tryRow_77 : decode cX4_tryRow 77 = .ok (.aload_n 0, 1) := by decide +kernel
theorem dX4_tryRow_78 : decode cX4_tryRow 78 = .ok (.getfield 43, 3) := by decide +kernel
theorem dX4_tryRow_81 : decode cX4_tryRow 81 = .ok (.if_icmp .le 8, 3) := by decide +kernel
theorem dX4_tryRow_84 : decode cX4_tryRow 84 = .ok (.aload_n 0, 1) := by decide +kernel
theorem dX4_tryRow_85 : decode cX4_tryRow 85 = .ok (.iload_n 2, 1) := by decide +kernel
theorem dX4_tryRow_86 : decode cX4_tryRow 86 = .ok (.invokevirtual 59, 3) := by decide +kernel
theorem dX4_tryRow_89 : decode cX4_tryRow 89 = .ok (.return_, 1) := by decide +kernel
def f_X4_tryRow_b89 (M89 : xMem) : Option (xMem) := some M89
def f_X4_tryRow_b62 (v36_2 : Int32) (k36 : Int32 → xMem → Option (xMem)) (M62 : xMem) : Option (xMem) := k36 (v36_2 + (1 : Int32)) M62
def f_X4_tryRow_l36 : Nat → Int32 → xMem → Option (xMem)
  | 0, _, _ => none
  | n + 1, v36_2, M36 => (if (M36 3 0 1) ≤ v36_2 then xb1 (f_X0_rightEggs ((1 : Int32).toNatClampNeg + 14) M36) (fun r69 => xb1 (f_J6_bitCount_0f7a4 r69 M36) (fun r72 => (if r72 ≤ (M36 5 0 5) then (f_X4_tryRow_b89) M36 else xb1 (f_X4_keepTried r72 M36) (fun M86 => (f_X4_tryRow_b89) M86)))) else xchk (xb v36_2 6) ((if (M36 (((1 : Int32).toNatClampNeg + 14) + 9) 2 v36_2.toNatClampNeg) = (0 : Int32) then xb2 (f_X0_roll ((1 : Int32).toNatClampNeg + 14) v36_2 M36) (fun r58 M58 => (f_X4_tryRow_b62 v36_2 (f_X4_tryRow_l36 n)) M58) else (f_X4_tryRow_b62 v36_2 (f_X4_tryRow_l36 n)) M36)))
def f_X4_tryRow (M : xMem) : Option (xMem) := xb1 (f_X0_become ((1 : Int32).toNatClampNeg + 14) ((0 : Int32).toNatClampNeg + 14) M) (fun M14 => xchk (xcb (0 : Int32) (0 : Int32) (M14 5 0 4) 6 5) (xlet (xcp M14 5 3 (0 : Int32) (((1 : Int32).toNatClampNeg + 14) + 9) 5 (0 : Int32) (M14 5 0 4)) (fun M31 => (f_X4_tryRow_l36 FU) (0 : Int32) M31)))
set_option maxHeartbeats 4000000 in
set_option maxRecDepth 100000 in
theorem w_X4_tryRow_b89 {p : Program} {l : Launch} {e : Env} {s : State} {m : MethodId} {args : Array Value} {below : List Frame} {meth : Method} {c : Code} {G : xG} {MM : xMem} (E : xE p s m args meth c cX4_tryRow 3 none RX4 G) (M : xMem) (L : xLL) : ∀ (M89 : xMem), f_X4_tryRow_b89 M89 = some MM → ∀ (ls : Array Slot), lv_has ls 3 [] → ∀ (H : Heap) (locs : List Loc), xI G M89 L s.heap H locs → W p l e (xR 4) s m args below meth c H locs 0 0 (MQ below (xQv G MM L s.heap.size) args s 0 0 (xZ G s.heap.size)) (F0 m 89 ls []) := by
  have hx := E.1
  have hb := E.2.1
  intro M89 hf ls hl H locs hI
  rw [f_X4_tryRow_b89] at hf
  obtain rfl := xinj1 hf
  exact x_vret E hI dX4_tryRow_89
set_option maxHeartbeats 4000000 in
set_option maxRecDepth 100000 in
theorem w_X4_tryRow_b62 {p : Program} {l : Launch} {e : Env} {s : State} {m : MethodId} {args : Array Value} {below : List Frame} {meth : Method} {c : Code} {G : xG} {MM : xMem} (E : xE p s m args meth c cX4_tryRow 3 none RX4 G) (M : xMem) (L : xLL) (v36_2 : Int32) (M36 : xMem) (k36 : Int32 → xMem → Option (xMem)) (hk36 : ∀ (v36_2 : Int32) (M36 : xMem), k36 v36_2 M36 = some MM → ∀ (ls : Array Slot), lv_has ls 3 [(0, .ref (xq G 5 0)), (1, .ref (xq G (((1 : Int32).toNatClampNeg + 14) + 9) 0)), (2, .int v36_2)] → ∀ (H : Heap) (locs : List Loc), xI G M36 L s.heap H locs → W p l e (xR 4) s m args below meth c H locs 0 0 (MQ below (xQv G MM L s.heap.size) args s 0 0 (xZ G s.heap.size)) (F0 m 36 ls [])) : ∀ (M62 : xMem), f_X4_tryRow_b62 v36_2 k36 M62 = some MM → ∀ (ls : Array Slot), lv_has ls 3 [(0, .ref (xq G 5 0)), (1, .ref (xq G (((1 : Int32).toNatClampNeg + 14) + 9) 0)), (2, .int v36_2)] → ∀ (H : Heap) (locs : List Loc), xI G M62 L s.heap H locs → W p l e (xR 4) s m args below meth c H locs 0 0 (MQ below (xQv G MM L s.heap.size) args s 0 0 (xZ G s.heap.size)) (F0 m 62 ls []) := by
  have hx := E.1
  have hb := E.2.1
  intro M62 hf ls hl H locs hI
  rw [f_X4_tryRow_b62] at hf
  refine lv_iinc (v := (v36_2 + (1 : Int32))) (lv' := [(2, .int (v36_2 + (1 : Int32))), (0, .ref (xq G 5 0)), (1, .ref (xq G (((1 : Int32).toNatClampNeg + 14) + 9) 0))]) hx hb dX4_tryRow_62 hl (k := 2) rfl rfl (by decide) rfl (fun ls hl => ?_)
  refine lv_goto (tgt := 36) hx hb dX4_tryRow_65 (by decide) ?_
  exact hk36 (v36_2 + (1 : Int32)) M62 hf _ (lv_sub hl [1, 2, 0] rfl) _ _ hI
set_option maxHeartbeats 4000000 in
set_option maxRecDepth 100000 in
theorem w_X4_tryRow_l36 {p : Program} {l : Launch} {e : Env} {s : State} {m : MethodId} {args : Array Value} {below : List Frame} {meth : Method} {c : Code} {G : xG} {MM : xMem} (E : xE p s m args meth c cX4_tryRow 3 none RX4 G) (M : xMem) (L : xLL) : ∀ (n : Nat), ∀ (v36_2 : Int32) (M36 : xMem), f_X4_tryRow_l36  n v36_2 M36 = some MM → ∀ (ls : Array Slot), lv_has ls 3 [(0, .ref (xq G 5 0)), (1, .ref (xq G (((1 : Int32).toNatClampNeg + 14) + 9) 0)), (2, .int v36_2)] → ∀ (H : Heap) (locs : List Loc), xI G M36 L s.heap H locs → W p l e (xR 4) s m args below meth c H locs 0 0 (MQ below (xQv G MM L s.heap.size) args s 0 0 (xZ G s.heap.size)) (F0 m 36 ls []) := by
  have hx := E.1
  have hb := E.2.1
  intro n
  induction n with
  | zero =>
    intro v36_2 M36 hf
    exact absurd hf (by simp [f_X4_tryRow_l36])
  | succ n ih =>
    intro v36_2 M36 hf ls hl H locs hI
    rw [f_X4_tryRow_l36] at hf
    refine lv_iload_n hx hb dX4_tryRow_36 rfl (lv_at hl 2 rfl) ?_
    refine lv_aload_n hx hb dX4_tryRow_37 rfl (lv_at hl 0 rfl) ?_
    refine gf_X4_24 E hI dX4_tryRow_38 ?_
    refine gf_X4_66_3 E hI dX4_tryRow_41 ?_
    refine lv_icmp_ge (tgt := 68) hx hb dX4_tryRow_44 (by decide) (fun c44 => ?_) (fun c44 => ?_)
    · replace hf := xif_t c44 hf
      refine lv_aload_n hx hb dX4_tryRow_68 rfl (lv_at hl 1 rfl) ?_
      obtain ⟨r69, g69, hf⟩ := xb1_s hf
      refine x_callVi (As := []) (rest := []) E hI (mf_0 (xb_fl (n := 7) (by decide) (by decide))) rfl rfl rfl (c_X0_rightEggs l G _ (M := M36) (L := L) (i := ((1 : Int32).toNatClampNeg + 14)) (hi := (xb_fl (n := 7) (by decide) (by decide))) g69) yv_X0_rightEggs ml_X4_46 (by decide) (by decide) rfl rfl hl.1 (Nat.le_of_ble_eq_true rfl) dX4_tryRow_69 (fun H locs hI => ?_)
      obtain ⟨r72, g72, hf⟩ := xb1_s hf
      refine x_callSi (As := [.int r69]) (rest := []) E hI (c_J6_bitCount_0f7a4 l G _ (M := M36) (L := L) (a0 := r69) g72) ys_J6_bitCount_0f7a4 ml_X4_50 (by decide) (by decide) rfl rfl hl.1 (Nat.le_of_ble_eq_true rfl) dX4_tryRow_72 (fun H locs hI => ?_)
      refine lv_istore_n (lv' := [(2, .int r72), (0, .ref (xq G 5 0)), (1, .ref (xq G (((1 : Int32).toNatClampNeg + 14) + 9) 0))]) hx hb dX4_tryRow_75 rfl hl (by decide) rfl (fun ls hl => ?_)
      refine lv_iload_n hx hb dX4_tryRow_76 rfl (lv_at hl 0 rfl) ?_
      refine lv_aload_n hx hb dX4_tryRow_77 rfl (lv_at hl 1 rfl) ?_
      refine gf_X4_43 E hI dX4_tryRow_78 ?_
      refine lv_icmp_le (tgt := 89) hx hb dX4_tryRow_81 (by decide) (fun c81 => ?_) (fun c81 => ?_)
      · replace hf := xif_t c81 hf
        exact (w_X4_tryRow_b89 E (M := M) (L := L)) M36 hf _ (lv_sub hl [] rfl) _ _ hI
      · replace hf := xif_f c81 hf
        refine lv_aload_n hx hb dX4_tryRow_84 rfl (lv_at hl 1 rfl) ?_
        refine lv_iload_n hx hb dX4_tryRow_85 rfl (lv_at hl 0 rfl) ?_
        obtain ⟨M86, g86, hf⟩ := xb1_s hf
        refine x_callVv (As := [.int r72]) (rest := []) E hI mx_5_0 rfl rfl rfl (c_X4_keepTried l G _ (M := M36) (L := L) (a1 := r72) g86) yv_X4_keepTried ml_X4_59 (by decide) (by decide) rfl rfl hl.1 (Nat.le_of_ble_eq_true rfl) dX4_tryRow_86 (fun H locs hI => ?_)
        exact (w_X4_tryRow_b89 E (M := M) (L := L)) M86 hf _ (lv_sub hl [] rfl) _ _ hI
    · replace hf := xif_f c44 hf
      refine lv_aload_n hx hb dX4_tryRow_47 rfl (lv_at hl 1 rfl) ?_
      refine gf_X4_71 E hI (xb_fl (n := 7) (by decide) (by decide)) dX4_tryRow_48 ?_
      refine lv_iload_n hx hb dX4_tryRow_51 rfl (lv_at hl 2 rfl) ?_
      obtain ⟨h52b, hf⟩ := xchk_s hf
      refine x_iald (n := 6) E hI (mf_2 (xb_fl (n := 7) (by decide) (by decide))) (fun _ _ => rfl) h52b dX4_tryRow_52 ?_
      refine lv_if_ne (tgt := 62) hx hb dX4_tryRow_53 (by decide) (fun c53 => ?_) (fun c53 => ?_)
      · replace hf := xif_f c53 hf
        exact (w_X4_tryRow_b62 E (M := M) (L := L) (v36_2 := v36_2) (M36 := M36) (k36 := (f_X4_tryRow_l36 n)) (hk36 := ih)) M36 hf _ (lv_sub hl [0, 1, 2] rfl) _ _ hI
      · replace hf := xif_t c53 hf
        refine lv_aload_n hx hb dX4_tryRow_56 rfl (lv_at hl 1 rfl) ?_
        refine lv_iload_n hx hb dX4_tryRow_57 rfl (lv_at hl 2 rfl) ?_
        obtain ⟨r58, M58, g58, hf⟩ := xb2_s hf
        refine x_callVi (As := [.int v36_2]) (rest := []) E hI (mf_0 (xb_fl (n := 7) (by decide) (by decide))) rfl rfl rfl (c_X0_roll l G _ (M := M36) (L := L) (i := ((1 : Int32).toNatClampNeg + 14)) (hi := (xb_fl (n := 7) (by decide) (by decide))) (a1 := v36_2) g58) yv_X0_roll ml_X4_74 (by decide) (by decide) rfl rfl hl.1 (Nat.le_of_ble_eq_true rfl) dX4_tryRow_58 (fun H locs hI => ?_)
        refine lv_pop hx hb dX4_tryRow_61 rfl ?_
        exact (w_X4_tryRow_b62 E (M := M) (L := L) (v36_2 := v36_2) (M36 := M36) (k36 := (f_X4_tryRow_l36 n)) (hk36 := ih)) M58 hf _ (lv_sub hl [0, 1, 2] rfl) _ _ hI
set_option maxHeartbeats 4000000 in
set_option maxRecDepth 100000 in
theorem c_X4_tryRow (l : Launch) (G : xG) (sz : Nat) (M : xMem) (L : xLL) {MM : xMem} (hf : f_X4_tryRow M = some MM) : Met l yX4_tryRow (Cond.code yX4_tryRow cX4_tryRow 3 none :: xTB) (xR 4) (xP G M L sz [.ref (xq G 5 0)]) (xQv G MM L sz) 0 0 (xZ G sz) := by
  refine x_met (cc := cX4_tryRow) (nL := 3) (rt := none) (by decide) (Nat.le_of_ble_eq_true rfl) ?_
  intro p e s m below meth c ls hsz E hl hI
  subst hsz
  have E : xE p s m _ meth c cX4_tryRow 3 none RX4 G := E
  have hx := E.1
  have hb := E.2.1
  have hl : lv_has ls 3 [(0, .ref (xq G 5 0))] := hl
  rw [f_X4_tryRow] at hf
  refine lv_aload_n hx hb dX4_tryRow_0 rfl (lv_at hl 0 rfl) ?_
  refine gf_X4_11 E hI dX4_tryRow_1 ?_
  refine lv_iconst (v := 1) hx hb dX4_tryRow_4 (by decide) ?_
  refine x_aald (n := 7) E hI mx_5_2 (fun _ _ => rfl) (by decide) dX4_tryRow_5 ?_
  refine lv_astore_n (lv' := [(1, .ref (xq G (((1 : Int32).toNatClampNeg + 14) + 9) 0)), (0, .ref (xq G 5 0))]) hx hb dX4_tryRow_6 rfl hl (by decide) rfl (fun ls hl => ?_)
  refine lv_aload_n hx hb dX4_tryRow_7 rfl (lv_at hl 0 rfl) ?_
  refine lv_aload_n hx hb dX4_tryRow_8 rfl (lv_at hl 1 rfl) ?_
  refine gf_X4_11 E hI dX4_tryRow_9 ?_
  refine lv_iconst (v := 0) hx hb dX4_tryRow_12 (by decide) ?_
  refine x_aald (n := 7) E hI mx_5_2 (fun _ _ => rfl) (by decide) dX4_tryRow_13 ?_
  obtain ⟨M14, g14, hf⟩ := xb1_s hf
  refine x_callVv (As := [.ref (xq G (((0 : Int32).toNatClampNeg + 14) + 9) 0)]) (rest := []) E hI (mf_0 (xb_fl (n := 7) (by decide) (by decide))) rfl rfl rfl (c_X0_become l G _ (M := M) (L := L) (i := ((1 : Int32).toNatClampNeg + 14)) (hi := (xb_fl (n := 7) (by decide) (by decide))) (j1 := ((0 : Int32).toNatClampNeg + 14)) (hj1 := (xb_fl (n := 7) (by decide) (by decide))) g14) yv_X0_become ml_X4_31 (by decide) (by decide) rfl rfl hl.1 (Nat.le_of_ble_eq_true rfl) dX4_tryRow_14 (fun H locs hI => ?_)
  refine lv_aload_n hx hb dX4_tryRow_17 rfl (lv_at hl 1 rfl) ?_
  refine gf_X4_17 E hI dX4_tryRow_18 ?_
  refine lv_iconst (v := 0) hx hb dX4_tryRow_21 (by decide) ?_
  refine lv_aload_n hx hb dX4_tryRow_22 rfl (lv_at hl 0 rfl) ?_
  refine gf_X4_93 E hI (xb_fl (n := 7) (by decide) (by decide)) dX4_tryRow_23 ?_
  refine lv_iconst (v := 0) hx hb dX4_tryRow_26 (by decide) ?_
  refine lv_aload_n hx hb dX4_tryRow_27 rfl (lv_at hl 1 rfl) ?_
  refine gf_X4_39 E hI dX4_tryRow_28 ?_
  obtain ⟨h31c, hf⟩ := xchk_s hf
  obtain ⟨M31, e31, hf⟩ := xlet_s hf
  refine x_copy E hI mx_5_3 (fun _ _ => rfl) (mf_5 (xb_fl (n := 7) (by decide) (by decide))) (fun _ _ => rfl) ml_X4_96 ac_n ac_s ac_i (by decide) hl.1 (Nat.le_of_ble_eq_true rfl) h31c dX4_tryRow_31 e31 (fun H locs hI => ?_)
  refine lv_iconst (v := 0) hx hb dX4_tryRow_34 (by decide) ?_
  refine lv_istore_n (lv' := [(2, .int (0 : Int32)), (1, .ref (xq G (((1 : Int32).toNatClampNeg + 14) + 9) 0)), (0, .ref (xq G 5 0))]) hx hb dX4_tryRow_35 rfl hl (by decide) rfl (fun ls hl => ?_)
  exact (w_X4_tryRow_l36 E (M := M) (L := L) FU) (0 : Int32) M31 hf _ (lv_sub hl [2, 1, 0] rfl) _ _ hI
