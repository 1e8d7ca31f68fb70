theorem dX4_rollEach_0 : decode cX4_rollEach 0 = .ok (.aload_n 0, 1) := by decide +kernel
theorem dX4_rollEach_1 : decode cX4_rollEach 1 = .ok (.getfield 11, 3) := by decide +kernel
theorem dX4_rollEach_4 : decode cX4_rollEach 4 = .ok (.iload_n 1, 1) := by decide +kernel
theorem dX4_rollEach_5 : decode cX4_rollEach 5 = .ok (.aaload, 1) := by decide +kernel
theorem dX4_rollEach_6 : decode cX4_rollEach 6 = .ok (.astore_n 3, 1) := by decide +kernel
theorem dX4_rollEach_7 : decode cX4_rollEach 7 = .ok (.aload_n 0, 1) := by decide +kernel
theorem dX4_rollEach_8 : decode cX4_rollEach 8 = .ok (.getfield 11, 3) := by decide +kernel
theorem dX4_rollEach_11 : decode cX4_rollEach 11 = .ok (.iload_n 1, 1) := by decide +kernel
theorem dX4_rollEach_12 : decode cX4_rollEach 12 = .ok (.iconst 1, 1) := by decide +kernel
theorem dX4_rollEach_13 : decode cX4_rollEach 13 = .ok (.iadd, 1) := by decide +kernel
theorem dX4_rollEach_14 : decode cX4_rollEach 14 = .ok (.aaload, 1) := by decide +kernel
theorem dX4_rollEach_15 : decode cX4_rollEach 15 = .ok (.astore 4, 2) := by decide +kernel
theorem dX4_rollEach_17 : decode cX4_rollEach 17 = .ok (.iconst 0, 1) := by decide +kernel
theorem dX4_rollEach_18 : decode cX4_rollEach 18 = .ok (.istore 5, 2) := by decide +kernel
theorem dX4_rollEach_20 : decode cX4_rollEach 20 = .ok (.iload 5, 2) := by decide +kernel
theorem dX4_rollEach_22 : decode cX4_rollEach 22 = .ok (.aload_n 0, 1) := by decide +kernel
theorem dX4_rollEach_23 : decode cX4_rollEach 23 = .ok (.getfield 24, 3) := by decide +kernel
theorem dX4_rollEach_26 : decode cX4_rollEach 26 = .ok (.getfield 66, 3) := by decide +kernel
theorem dX4_rollEach_29 : decode cX4_rollEach 29 = .ok (.if_icmp .ge 65, 3) := by decide +kernel
theorem dX4_rollEach_32 : decode cX4_rollEach 32 = .ok (.aload_n 3, 1) := by decide +kernel
theorem dX4_rollEach_33 : decode cX4_rollEach 33 = .ok (.getfield 71, 3) := by decide +kernel
theorem dX4_rollEach_36 : decode cX4_rollEach 36 = .ok (.iload 5, 2) := by decide +kernel
theorem dX4_rollEach_38 : decode cX4_rollEach 38 = .ok (.iaload, 1) := by decide +kernel
theorem dX4_rollEach_39 : decode cX4_rollEach 39 = .ok (.ifCond .ne 49, 3) := by decide +kernel
theorem dX4_rollEach_42 : decode cX4_rollEach 42 = .ok (.aload 4, 2) := by decide +kernel
theorem dX4_rollEach_44 : decode cX4_rollEach 44 = .ok (.aload_n 3, 1) := by decide +kernel
theorem dX4_rollEach_45 : decode cX4_rollEach 45 = .ok (.invokevirtual 31, 3) := by decide +kernel
theorem dX4_rollEach_48 : decode cX4_rollEach 48 = .ok (.aload 4, 2) := by decide +kernel
theorem dX4_rollEach_50 : decode cX4_rollEach 50 = .ok (.iload 5, 2) := by decide +kernel
theorem dX4_rollEach_52 : decode cX4_rollEach 52 = .ok (.invokevirtual 74, 3) := by decide +kernel
theorem dX4_rollEach_55 : decode cX4_rollEach 55 = .ok (.pop, 1) := by decide +kernel
theorem dX4_rollEach_56 : decode cX4_rollEach 56 = .ok (.aload_n 0, 1) := by decide +kernel
theorem dX4_rollEach_57 : decode cX4_rollEach 57 = .ok (.getfield 17, 3) := by decide +kernel
theorem dX4_rollEach_60 : decode cX4_rollEach 60 = .ok (.iload_n 1, 1) := by decide +kernel
theorem dX4_rollEach_61 : decode cX4_rollEach 61 = .ok (.iload 5, 2) := by decide +kernel
theorem dX4_rollEach_63 : decode cX4_rollEach 63 = .ok (.iastore, 1) := by decide +kernel
theorem dX4_rollEach_64 : decode cX4_rollEach 64 = .ok (.aload_n 0, 1) := by decide +kernel
theorem dX4_rollEach_65 : decode cX4_rollEach 65 = .ok (.iload_n 1, 1) := by decide +kernel
theorem dX4_rollEach_66 : decode cX4_rollEach 66 = .ok (.iconst 1, 1) := by decide +kernel
theorem dX4_rollEach_67 : decode cX4_rollEach 67 = .ok (.iadd, 1) := by decide +kernel
theorem dX4_rollEach_68 : decode cX4_rollEach 68 = .ok (.aload 4, 2) := by decide +kernel
theorem dX4_rollEach_70 : decode cX4_rollEach 70 = .ok (.iload 5, 2) := by decide +kernel
theorem dX4_rollEach_72 : decode cX4_rollEach 72 = .ok (.invokevirtual 77, 3) := by decide +kernel
theorem dX4_rollEach_75 : decode cX4_rollEach 75 = .ok (.ifCond .eq 9, 3) := by decide +kernel
theorem dX4_rollEach_78 : decode cX4_rollEach 78 = .ok (.iload_n 2, 1) := by decide +kernel
theorem dX4_rollEach_79 : decode cX4_rollEach 79 = .ok (.iconst 1, 1) := by decide +kernel
theorem dX4_rollEach_80 : decode cX4_rollEach 80 = .ok (.iadd, 1) := by decide +kernel
theorem dX4_rollEach_81 : decode cX4_rollEach 81 = .ok (.goto 4, 3) := by decide +kernel
theorem dX4_rollEach_84 : decode cX4_rollEach 84 = .ok (.iload_n 2, 1) := by decide +kernel
theorem dX4_rollEach_85 : decode cX4_rollEach 85 = .ok (.invokevirtual 55, 3) := by decide +kernel
theorem dX4_rollEach_88 : decode cX4_rollEach 88 = .ok (.iinc 5 1, 3) := by decide +kernel
theorem dX4_rollEach_91 : decode cX4_rollEach 91 = .ok (.goto (-71), 3) := by decide +kernel
theorem dX4_rollEach_94 : decode cX4_rollEach 94 = .ok (.return_, 1) := by decide +kernel
def f_X4_rollEach_b88 (v20_5 : Int32) (k20 : Int32 → xMem → Option (xMem)) (M88 : xMem) : Option (xMem) := k20 (v20_5 + (1 : Int32)) M88
def f_X4_rollEach_b85 (a1 : Int32) (fr : Int32 → Int32 → xMem → Option (xMem)) (M63 : xMem) (k88 : xMem → Option (xMem)) (t85_0 : Int32) : Option (xMem) := xb1 (fr (a1 + (1 : Int32)) t85_0 M63) (fun M85 => k88 M85)
def f_X4_rollEach_l20 (a1 : Int32) (a2 : Int32) (fr : Int32 → Int32 → xMem → Option (xMem)) : Nat → Int32 → xMem → Option (xMem)
  | 0, _, _ => none
  | n + 1, v20_5, M20 => (if (M20 3 0 1) ≤ v20_5 then some M20 else xchk (xb v20_5 6) ((if (M20 ((a1.toNatClampNeg + 14) + 9) 2 v20_5.toNatClampNeg) = (0 : Int32) then xb1 (f_X0_become ((a1 + (1 : Int32)).toNatClampNeg + 14) (a1.toNatClampNeg + 14) M20) (fun M45 => xb2 (f_X0_roll ((a1 + (1 : Int32)).toNatClampNeg + 14) v20_5 M45) (fun r52 M52 => xchk (xb a1 6) (xlet (xst M52 5 3 a1 v20_5) (fun M63 => xb1 (f_X0_isRight ((a1 + (1 : Int32)).toNatClampNeg + 14) v20_5 M63) (fun r72 => (if r72 = (0 : Int32) then (f_X4_rollEach_b85 a1 fr M63 (f_X4_rollEach_b88 v20_5 (f_X4_rollEach_l20 a1 a2 fr n))) a2 else (f_X4_rollEach_b85 a1 fr M63 (f_X4_rollEach_b88 v20_5 (f_X4_rollEach_l20 a1 a2 fr n))) (a2 + (1 : Int32)))))))) else (f_X4_rollEach_b88 v20_5 (f_X4_rollEach_l20 a1 a2 fr n)) M20)))
def f_X4_rollEach (fr : Int32 → Int32 → xMem → Option (xMem)) (a1 : Int32) (a2 : Int32) (M : xMem) : Option (xMem) := xchk (xb a1 7) (xchk (xb (a1 + (1 : Int32)) 7) ((f_X4_rollEach_l20 a1 a2 fr FU) (0 : Int32) M))
set_option maxHeartbeats 4000000 in
set_option maxRecDepth 100000 in
theorem w_X4_rollEach_b88 {p : Program} {l : Launch} {e : Env} {s : State} {m : MethodId} {args : Array Value} {below : List Frame} {meth : Method} {c : Code} {G : xG} {MM : xMem} (E : xE p s m args meth c cX4_rollEach 6 none RX4 G) (a1 : Int32) (a2 : Int32) (M : xMem) (L : xLL) (hr : Nat) (v20_5 : Int32) (M20 : xMem) (k20 : Int32 → xMem → Option (xMem)) (hk20 : ∀ (v20_5 : Int32) (M20 : xMem), k20 v20_5 M20 = some MM → ∀ (ls : Array Slot), lv_has ls 6 [(0, .ref (xq G 5 0)), (1, .int a1), (2, .int a2), (3, .ref (xq G ((a1.toNatClampNeg + 14) + 9) 0)), (4, .ref (xq G (((a1 + (1 : Int32)).toNatClampNeg + 14) + 9) 0)), (5, .int v20_5)] → ∀ (H : Heap) (locs : List Loc), xI G M20 L s.heap H locs → W p l e (xR (hr + 1)) s m args below meth c H locs 0 0 (MQ below (xQv G MM L s.heap.size) args s 0 0 (xZ G s.heap.size)) (F0 m 20 ls [])) : ∀ (M88 : xMem), f_X4_rollEach_b88 v20_5 k20 M88 = some MM → ∀ (ls : Array Slot), lv_has ls 6 [(0, .ref (xq G 5 0)), (1, .int a1), (2, .int a2), (3, .ref (xq G ((a1.toNatClampNeg + 14) + 9) 0)), (4, .ref (xq G (((a1 + (1 : Int32)).toNatClampNeg + 14) + 9) 0)), (5, .int v20_5)] → ∀ (H : Heap) (locs : List Loc), xI G M88 L s.heap H locs → W p l e (xR (hr + 1)) s m args below meth c H locs 0 0 (MQ below (xQv G MM L s.heap.size) args s 0 0 (xZ G s.heap.size)) (F0 m 88 ls []) := by
  have hx := E.1
  have hb := E.2.1
  intro M88 hf ls hl H locs hI
  rw [f_X4_rollEach_b88] at hf
  refine lv_iinc (v := (v20_5 + (1 : Int32))) (lv' := [(5, .int (v20_5 + (1 : Int32))), (0, .ref (xq G 5 0)), (1, .int a1), (2, .int a2), (3, .ref (xq G ((a1.toNatClampNeg + 14) + 9) 0)), (4, .ref (xq G (((a1 + (1 : Int32)).toNatClampNeg + 14) + 9) 0))]) hx hb dX4_rollEach_88 hl (k := 5) rfl rfl (by decide) rfl (fun ls hl => ?_)
  refine lv_goto (tgt := 20) hx hb dX4_rollEach_91 (by decide) ?_
  exact hk20 (v20_5 + (1 : Int32)) M88 hf _ (lv_sub hl [1, 2, 3, 4, 5, 0] rfl) _ _ hI
set_option maxHeartbeats 4000000 in
set_option maxRecDepth 100000 in
theorem w_X4_rollEach_b85 {p : Program} {l : Launch} {e : Env} {s : State} {m : MethodId} {args : Array Value} {below : List Frame} {meth : Method} {c : Code} {G : xG} {MM : xMem} (E : xE p s m args meth c cX4_rollEach 6 none RX4 G) (a1 : Int32) (a2 : Int32) (M : xMem) (L : xLL) (fr : Int32 → Int32 → xMem → Option (xMem)) (hr : Nat) (v20_5 : Int32) (M63 : xMem) (h8 : 8 ≤ hr) (hrec : ∀ (a1 a2 : Int32) (M MM : xMem) (sz : Nat), fr a1 a2 M = some MM → Met l yX4_rollOneMore (Cond.code yX4_rollOneMore cX4_rollOneMore 3 none :: xTB) (xR hr) (xP G M L sz [.ref (xq G 5 0), .int a1, .int a2]) (xQv G MM L sz) 0 0 (xZ G sz)) (k88 : xMem → Option (xMem)) (hk88 : ∀ (M88 : xMem), k88 M88 = some MM → ∀ (ls : Array Slot), lv_has ls 6 [(0, .ref (xq G 5 0)), (1, .int a1), (2, .int a2), (3, .ref (xq G ((a1.toNatClampNeg + 14) + 9) 0)), (4, .ref (xq G (((a1 + (1 : Int32)).toNatClampNeg + 14) + 9) 0)), (5, .int v20_5)] → ∀ (H : Heap) (locs : List Loc), xI G M88 L s.heap H locs → W p l e (xR (hr + 1)) s m args below meth c H locs 0 0 (MQ below (xQv G MM L s.heap.size) args s 0 0 (xZ G s.heap.size)) (F0 m 88 ls [])) : ∀ (t85_0 : Int32), f_X4_rollEach_b85 a1 fr M63 k88 t85_0 = some MM → ∀ (ls : Array Slot), lv_has ls 6 [(0, .ref (xq G 5 0)), (1, .int a1), (2, .int a2), (3, .ref (xq G ((a1.toNatClampNeg + 14) + 9) 0)), (4, .ref (xq G (((a1 + (1 : Int32)).toNatClampNeg + 14) + 9) 0)), (5, .int v20_5)] → ∀ (H : Heap) (locs : List Loc), xI G M63 L s.heap H locs → W p l e (xR (hr + 1)) s m args below meth c H locs 0 0 (MQ below (xQv G MM L s.heap.size) args s 0 0 (xZ G s.heap.size)) (F0 m 85 ls [.int t85_0, .int (a1 + (1 : Int32)), .ref (xq G 5 0)]) := by
  have hx := E.1
  have hb := E.2.1
  intro t85_0 hf ls hl H locs hI
  rw [f_X4_rollEach_b85] at hf
  obtain ⟨M85, g85, hf⟩ := xb1_s hf
  refine x_callVv (As := [.int (a1 + (1 : Int32)), .int t85_0]) (rest := []) E hI mx_5_0 rfl rfl rfl (hrec _ _ _ _ _ g85) yv_X4_rollOneMore ml_X4_55 (by have h9 := h8; omega) (by decide) rfl rfl hl.1 (Nat.le_of_ble_eq_true rfl) dX4_rollEach_85 (fun H locs hI => ?_)
  exact hk88 M85 hf _ (lv_sub hl [0, 1, 2, 3, 4, 5] rfl) _ _ hI
set_option maxHeartbeats 4000000 in
set_option maxRecDepth 100000 in
theorem w_X4_rollEach_l20 {p : Program} {l : Launch} {e : Env} {s : State} {m : MethodId} {args : Array Value} {below : List Frame} {meth : Method} {c : Code} {G : xG} {MM : xMem} (E : xE p s m args meth c cX4_rollEach 6 none RX4 G) (a1 : Int32) (a2 : Int32) (M : xMem) (L : xLL) (fr : Int32 → Int32 → xMem → Option (xMem)) (hr : Nat) (h8 : 8 ≤ hr) (hrec : ∀ (a1 a2 : Int32) (M MM : xMem) (sz : Nat), fr a1 a2 M = some MM → Met l yX4_rollOneMore (Cond.code yX4_rollOneMore cX4_rollOneMore 3 none :: xTB) (xR hr) (xP G M L sz [.ref (xq G 5 0), .int a1, .int a2]) (xQv G MM L sz) 0 0 (xZ G sz)) (h5b : xb a1 7 = true) (h14b : xb (a1 + (1 : Int32)) 7 = true) : ∀ (n : Nat), ∀ (v20_5 : Int32) (M20 : xMem), f_X4_rollEach_l20 a1 a2 fr n v20_5 M20 = some MM → ∀ (ls : Array Slot), lv_has ls 6 [(0, .ref (xq G 5 0)), (1, .int a1), (2, .int a2), (3, .ref (xq G ((a1.toNatClampNeg + 14) + 9) 0)), (4, .ref (xq G (((a1 + (1 : Int32)).toNatClampNeg + 14) + 9) 0)), (5, .int v20_5)] → ∀ (H : Heap) (locs : List Loc), xI G M20 L s.heap H locs → W p l e (xR (hr + 1)) s m args below meth c H locs 0 0 (MQ below (xQv G MM L s.heap.size) args s 0 0 (xZ G s.heap.size)) (F0 m 20 ls []) := by
  have hx := E.1
  have hb := E.2.1
  intro n
  induction n with
  | zero =>
    intro v20_5 M20 hf
    exact absurd hf (by simp [f_X4_rollEach_l20])
  | succ n ih =>
    intro v20_5 M20 hf ls hl H locs hI
    rw [f_X4_rollEach_l20] at hf
    refine lv_iload hx hb dX4_rollEach_20 (lv_at hl 5 rfl) ?_
    refine lv_aload_n hx hb dX4_rollEach_22 rfl (lv_at hl 0 rfl) ?_
    refine gf_X4_24 E hI dX4_rollEach_23 ?_
    refine gf_X4_66_3 E hI dX4_rollEach_26 ?_
    refine lv_icmp_ge (tgt := 94) hx hb dX4_rollEach_29 (by decide) (fun c29 => ?_) (fun c29 => ?_)
    · replace hf := xif_t c29 hf
      obtain rfl := xinj1 hf
      exact x_vret E hI dX4_rollEach_94
    · replace hf := xif_f c29 hf
      refine lv_aload_n hx hb dX4_rollEach_32 rfl (lv_at hl 3 rfl) ?_
      refine gf_X4_71 E hI (xb_fl (n := 7) h5b (by decide)) dX4_rollEach_33 ?_
      refine lv_iload hx hb dX4_rollEach_36 (lv_at hl 5 rfl) ?_
      obtain ⟨h38b, hf⟩ := xchk_s hf
      refine x_iald (n := 6) E hI (mf_2 (xb_fl (n := 7) h5b (by decide))) (fun _ _ => rfl) h38b dX4_rollEach_38 ?_
      refine lv_if_ne (tgt := 88) hx hb dX4_rollEach_39 (by decide) (fun c39 => ?_) (fun c39 => ?_)
      · replace hf := xif_f c39 hf
        exact (w_X4_rollEach_b88 E (a1 := a1) (a2 := a2) (M := M) (L := L) (hr := hr) (v20_5 := v20_5) (M20 := M20) (k20 := (f_X4_rollEach_l20 a1 a2 fr n)) (hk20 := ih)) M20 hf _ (lv_sub hl [0, 1, 2, 3, 4, 5] rfl) _ _ hI
      · replace hf := xif_t c39 hf
        refine lv_aload hx hb dX4_rollEach_42 (lv_at hl 4 rfl) ?_
        refine lv_aload_n hx hb dX4_rollEach_44 rfl (lv_at hl 3 rfl) ?_
        obtain ⟨M45, g45, hf⟩ := xb1_s hf
        refine x_callVv (As := [.ref (xq G ((a1.toNatClampNeg + 14) + 9) 0)]) (rest := []) E hI (mf_0 (xb_fl (n := 7) h14b (by decide))) rfl rfl rfl (c_X0_become l G _ (M := M20) (L := L) (i := ((a1 + (1 : Int32)).toNatClampNeg + 14)) (hi := (xb_fl (n := 7) h14b (by decide))) (j1 := (a1.toNatClampNeg + 14)) (hj1 := (xb_fl (n := 7) h5b (by decide))) g45) yv_X0_become ml_X4_31 (by have h9 := h8; omega) (by decide) rfl rfl hl.1 (Nat.le_of_ble_eq_true rfl) dX4_rollEach_45 (fun H locs hI => ?_)
        refine lv_aload hx hb dX4_rollEach_48 (lv_at hl 4 rfl) ?_
        refine lv_iload hx hb dX4_rollEach_50 (lv_at hl 5 rfl) ?_
        obtain ⟨r52, M52, g52, hf⟩ := xb2_s hf
        refine x_callVi (As := [.int v20_5]) (rest := []) E hI (mf_0 (xb_fl (n := 7) h14b (by decide))) rfl rfl rfl (c_X0_roll l G _ (M := M45) (L := L) (i := ((a1 + (1 : Int32)).toNatClampNeg + 14)) (hi := (xb_fl (n := 7) h14b (by decide))) (a1 := v20_5) g52) yv_X0_roll ml_X4_74 (by have h9 := h8; omega) (by decide) rfl rfl hl.1 (Nat.le_of_ble_eq_true rfl) dX4_rollEach_52 (fun H locs hI => ?_)
        refine lv_pop hx hb dX4_rollEach_55 rfl ?_
        refine lv_aload_n hx hb dX4_rollEach_56 rfl (lv_at hl 0 rfl) ?_
        refine gf_X4_17 E hI dX4_rollEach_57 ?_
        refine lv_iload_n hx hb dX4_rollEach_60 rfl (lv_at hl 1 rfl) ?_
        refine lv_iload hx hb dX4_rollEach_61 (lv_at hl 5 rfl) ?_
        obtain ⟨h63b, hf⟩ := xchk_s hf
        obtain ⟨M63, e63, hf⟩ := xlet_s hf
        refine x_iast (n := 6) E hI mx_5_3 (fun _ _ => rfl) h63b dX4_rollEach_63 e63 (fun H locs hI => ?_)
        refine lv_aload_n hx hb dX4_rollEach_64 rfl (lv_at hl 0 rfl) ?_
        refine lv_iload_n hx hb dX4_rollEach_65 rfl (lv_at hl 1 rfl) ?_
        refine lv_iconst (v := 1) hx hb dX4_rollEach_66 (by decide) ?_
        refine lv_iadd hx hb dX4_rollEach_67 ?_
        refine lv_aload hx hb dX4_rollEach_68 (lv_at hl 4 rfl) ?_
        refine lv_iload hx hb dX4_rollEach_70 (lv_at hl 5 rfl) ?_
        obtain ⟨r72, g72, hf⟩ := xb1_s hf
        refine x_callVi (As := [.int v20_5]) (rest := [.int (a1 + (1 : Int32)), .ref (xq G 5 0)]) E hI (mf_0 (xb_fl (n := 7) h14b (by decide))) rfl rfl rfl (c_X0_isRight l G _ (M := M63) (L := L) (i := ((a1 + (1 : Int32)).toNatClampNeg + 14)) (hi := (xb_fl (n := 7) h14b (by decide))) (a1 := v20_5) g72) yv_X0_isRight ml_X4_77 (by have h9 := h8; omega) (by decide) rfl rfl hl.1 (Nat.le_of_ble_eq_true rfl) dX4_rollEach_72 (fun H locs hI => ?_)
        refine lv_if_eq (tgt := 84) hx hb dX4_rollEach_75 (by decide) (fun c75 => ?_) (fun c75 => ?_)
        · replace hf := xif_t c75 hf
          refine lv_iload_n hx hb dX4_rollEach_84 rfl (lv_at hl 2 rfl) ?_
          exact (w_X4_rollEach_b85 E (a1 := a1) (a2 := a2) (M := M) (L := L) (fr := fr) (hr := hr) (v20_5 := v20_5) (M63 := M63) (h8 := h8) (hrec := hrec) (k88 := (f_X4_rollEach_b88 v20_5 (f_X4_rollEach_l20 a1 a2 fr n))) (hk88 := (w_X4_rollEach_b88 E (a1 := a1) (a2 := a2) (M := M) (L := L) (hr := hr) (v20_5 := v20_5) (M20 := M20) (k20 := (f_X4_rollEach_l20 a1 a2 fr n)) (hk20 := ih)))) a2 hf _ (lv_sub hl [0, 1, 2, 3, 4, 5] rfl) _ _ hI
        · replace hf := xif_f c75 hf
          refine lv_iload_n hx hb dX4_rollEach_78 rfl (lv_at hl 2 rfl) ?_
          refine lv_iconst (v := 1) hx hb dX4_rollEach_79 (by decide) ?_
          refine lv_iadd hx hb dX4_rollEach_80 ?_
          refine lv_goto (tgt := 85) hx hb dX4_rollEach_81 (by decide) ?_
          exact (w_X4_rollEach_b85 E (a1 := a1) (a2 := a2) (M := M) (L := L) (fr := fr) (hr := hr) (v20_5 := v20_5) (M63 := M63) (h8 := h8) (hrec := hrec) (k88 := (f_X4_rollEach_b88 v20_5 (f_X4_rollEach_l20 a1 a2 fr n))) (hk88 := (w_X4_rollEach_b88 E (a1 := a1) (a2 := a2) (M := M) (L := L) (hr := hr) (v20_5 := v20_5) (M20 := M20) (k20 := (f_X4_rollEach_l20 a1 a2 fr n)) (hk20 := ih)))) (a2 + (1 : Int32)) hf _ (lv_sub hl [0, 1, 2, 3, 4, 5] rfl) _ _ hI
set_option maxHeartbeats 4000000 in
set_option maxRecDepth 100000 in
theorem c_X4_rollEach (l : Launch) (G : xG) (sz : Nat) (M : xMem) (L : xLL) (fr : Int32 → Int32 → xMem → Option (xMem)) (hr : Nat) (h8 : 8 ≤ hr) (hrec : ∀ (a1 a2 : Int32) (M MM : xMem) (sz : Nat), fr a1 a2 M = some MM → Met l yX4_rollOneMore (Cond.code yX4_rollOneMore cX4_rollOneMore 3 none :: xTB) (xR hr) (xP G M L sz [.ref (xq G 5 0), .int a1, .int a2]) (xQv G MM L sz) 0 0 (xZ G sz)) (a1 : Int32) (a2 : Int32) {MM : xMem} (hf : f_X4_rollEach fr a1 a2 M = some MM) : Met l yX4_rollEach (Cond.code yX4_rollEach cX4_rollEach 6 none :: xTB) (xR (hr + 1)) (xP G M L sz [.ref (xq G 5 0), .int a1, .int a2]) (xQv G MM L sz) 0 0 (xZ G sz) := by
  refine x_met (cc := cX4_rollEach) (nL := 6) (rt := none) (by decide) (Nat.le_of_ble_eq_true rfl) ?_
  intro p e s m below meth c ls hsz E hl hI
  subst hsz
  have E : xE p s m _ meth c cX4_rollEach 6 none RX4 G := E
  have hx := E.1
  have hb := E.2.1
  have hl : lv_has ls 6 [(0, .ref (xq G 5 0)), (1, .int a1), (2, .int a2)] := hl
  rw [f_X4_rollEach] at hf
  refine lv_aload_n hx hb dX4_rollEach_0 rfl (lv_at hl 0 rfl) ?_
  refine gf_X4_11 E hI dX4_rollEach_1 ?_
  refine lv_iload_n hx hb dX4_rollEach_4 rfl (lv_at hl 1 rfl) ?_
  obtain ⟨h5b, hf⟩ := xchk_s hf
  refine x_aald (n := 7) E hI mx_5_2 (fun _ _ => rfl) h5b dX4_rollEach_5 ?_
  refine lv_astore_n (lv' := [(3, .ref (xq G ((a1.toNatClampNeg + 14) + 9) 0)), (0, .ref (xq G 5 0)), (1, .int a1), (2, .int a2)]) hx hb dX4_rollEach_6 rfl hl (by decide) rfl (fun ls hl => ?_)
  refine lv_aload_n hx hb dX4_rollEach_7 rfl (lv_at hl 1 rfl) ?_
  refine gf_X4_11 E hI dX4_rollEach_8 ?_
  refine lv_iload_n hx hb dX4_rollEach_11 rfl (lv_at hl 2 rfl) ?_
  refine lv_iconst (v := 1) hx hb dX4_rollEach_12 (by decide) ?_
  refine lv_iadd hx hb dX4_rollEach_13 ?_
  obtain ⟨h14b, hf⟩ := xchk_s hf
  refine x_aald (n := 7) E hI mx_5_2 (fun _ _ => rfl) h14b dX4_rollEach_14 ?_
  refine lv_astore (lv' := [(4, .ref (xq G (((a1 + (1 : Int32)).toNatClampNeg + 14) + 9) 0)), (3, .ref (xq G ((a1.toNatClampNeg + 14) + 9) 0)), (0, .ref (xq G 5 0)), (1, .int a1), (2, .int a2)]) hx hb dX4_rollEach_15 hl (by decide) rfl (fun ls hl => ?_)
  refine lv_iconst (v := 0) hx hb dX4_rollEach_17 (by decide) ?_
  refine lv_istore (lv' := [(5, .int (0 : Int32)), (4, .ref (xq G (((a1 + (1 : Int32)).toNatClampNeg + 14) + 9) 0)), (3, .ref (xq G ((a1.toNatClampNeg + 14) + 9) 0)), (0, .ref (xq G 5 0)), (1, .int a1), (2, .int a2)]) hx hb dX4_rollEach_18 hl (by decide) rfl (fun ls hl => ?_)
  exact (w_X4_rollEach_l20 E (a1 := a1) (a2 := a2) (M := M) (L := L) (fr := fr) (hr := hr) (h8 := h8) (hrec := hrec) (h5b := h5b) (h14b := h14b) FU) (0 : Int32) M hf _ (lv_sub hl [3, 4, 5, 2, 1, 0] rfl) _ _ hI
theorem dX4_rollOneMore_0 : decode cX4_rollOneMore 0 = .ok (.iload_n 2, 1) := by decide +kernel
theorem dX4_rollOneMore_1 : decode cX4_rollOneMore 1 = .ok (.aload_n 0, 1) := by decide +kernel
theorem dX4_rollOneMore_2 : decode cX4_rollOneMore 2 = .ok (.getfield 39, 3) := by decide +kernel
theorem dX4_rollOneMore_5 : decode cX4_rollOneMore 5 = .ok (.iadd, 1) := by decide +kernel
theorem dX4_rollOneMore_6 : decode cX4_rollOneMore 6 = .ok (.iload_n 1, 1) := by decide +kernel
theorem dX4_rollOneMore_7 : decode cX4_rollOneMore 7 = .ok (.isub, 1) := by decide +kernel
theorem dX4_rollOneMore_8 : decode cX4_rollOneMore 8 = .ok (.aload_n 0, 1) := by decide +kernel
theorem dX4_rollOneMore_9 : decode cX4_rollOneMore 9 = .ok (.getfield 43, 3) := by decide +kernel
theorem dX4_rollOneMore_12 : decode cX4_rollOneMore 12 = .ok (.if_icmp .gt 4, 3) := by decide +kernel
theorem dX4_rollOneMore_15 : decode cX4_rollOneMore 15 = .ok (.return_, 1) := by decide +kernel
theorem dX4_rollOneMore_16 : decode cX4_rollOneMore 16 = .ok (.iload_n 1, 1) := by decide +kernel
theorem dX4_rollOneMore_17 : decode cX4_rollOneMore 17 = .ok (.aload_n 0, 1) := by decide +kernel
theorem dX4_rollOneMore_18 : decode cX4_rollOneMore 18 = .ok (.getfield 39, 3) := by decide +kernel
theorem dX4_rollOneMore_21 : decode cX4_rollOneMore 21 = .ok (.if_icmp .lt 11, 3) := by decide +kernel
theorem dX4_rollOneMore_24 : decode cX4_rollOneMore 24 = .ok (.aload_n 0, 1) := by decide +kernel
theorem dX4_rollOneMore_25 : decode cX4_rollOneMore 25 = .ok (.iload_n 2, 1) := by decide +kernel
theorem dX4_rollOneMore_26 : decode cX4_rollOneMore 26 = .ok (.invokevirtual 59, 3) := by decide +kernel
theorem dX4_rollOneMore_29 : decode cX4_rollOneMore 29 = .ok (.goto 9, 3) := by decide +kernel
theorem dX4_rollOneMore_32 : decode cX4_rollOneMore 32 = .ok (.aload_n 0, 1) := by decide +kernel
theorem dX4_rollOneMore_33 : decode cX4_rollOneMore 33 = .ok (.iload_n 1, 1) := by decide +kernel
theorem dX4_rollOneMore_34 : decode cX4_rollOneMore 34 = .ok (.iload_n 2, 1) := by decide +kernel
theorem dX4_rollOneMore_35 : decode cX4_rollOneMore 35 = .ok (.invokevirtual 63, 3) := by decide +kernel
theorem dX4_rollOneMore_38 : decode cX4_rollOneMore 38 = .ok (.return_, 1) := by decide +kernel
def f_X4_rollOneMore_b38 (M38 : xMem) : Option (xMem) := some M38
def fF_X4_rollOneMore (fr : Int32 → Int32 → xMem → Option (xMem)) (a1 : Int32) (a2 : Int32) (M : xMem) : Option (xMem) := (if (M 5 0 5) < ((a2 + (M 5 0 4)) - a1) then (if a1 < (M 5 0 4) then xb1 (f_X4_rollEach fr a1 a2 M) (fun M35 => (f_X4_rollOneMore_b38) M35) else xb1 (f_X4_keepTried a2 M) (fun M26 => (f_X4_rollOneMore_b38) M26)) else some M)
set_option maxHeartbeats 4000000 in
set_option maxRecDepth 100000 in
theorem w_X4_rollOneMore_b38 {p : Program} {l : Launch} {e : Env} {s : State} {m : MethodId} {args : Array Value} {below : List Frame} {meth : Method} {c : Code} {G : xG} {MM : xMem} (E : xE p s m args meth c cX4_rollOneMore 3 none RX4 G) (M : xMem) (L : xLL) (hr : Nat) : ∀ (M38 : xMem), f_X4_rollOneMore_b38 M38 = some MM → ∀ (ls : Array Slot), lv_has ls 3 [] → ∀ (H : Heap) (locs : List Loc), xI G M38 L s.heap H locs → W p l e (xR (hr + 2)) s m args below meth c H locs 0 0 (MQ below (xQv G MM L s.heap.size) args s 0 0 (xZ G s.heap.size)) (F0 m 38 ls []) := by
  have hx := E.1
  have hb := E.2.1
  intro M38 hf ls hl H locs hI
  rw [f_X4_rollOneMore_b38] at hf
  obtain rfl := xinj1 hf
  exact x_vret E hI dX4_rollOneMore_38
set_option maxHeartbeats 4000000 in
set_option maxRecDepth 100000 in
theorem cF_X4_rollOneMore (l : Launch) (G : xG) (sz : Nat) (M : xMem) (L : xLL) (fr : Int32 → Int32 → xMem → Option (xMem)) (hr : Nat) (h8 : 8 ≤ hr) (hrec : ∀ (a1 a2 : Int32) (M MM : xMem) (sz : Nat), fr a1 a2 M = some MM → Met l yX4_rollOneMore (Cond.code yX4_rollOneMore cX4_rollOneMore 3 none :: xTB) (xR hr) (xP G M L sz [.ref (xq G 5 0), .int a1, .int a2]) (xQv G MM L sz) 0 0 (xZ G sz)) (a1 : Int32) (a2 : Int32) {MM : xMem} (hf : fF_X4_rollOneMore fr a1 a2 M = some MM) : Met l yX4_rollOneMore (Cond.code yX4_rollOneMore cX4_rollOneMore 3 none :: xTB) (xR (hr + 2)) (xP G M L sz [.ref (xq G 5 0), .int a1, .int a2]) (xQv G MM L sz) 0 0 (xZ G sz) := by
  refine x_met (cc := cX4_rollOneMore) (nL := 3) (rt := none) (by decide) (Nat.le_of_ble_eq_true rfl) ?_
  intro p e s m below meth c ls hsz E hl hI
  subst hsz
  have E : xE p s m _ meth c cX4_rollOneMore 3 none RX4 G := E
  have hx := E.1
  have hb := E.2.1
  have hl : lv_has ls 3 [(0, .ref (xq G 5 0)), (1, .int a1), (2, .int a2)] := hl
  rw [fF_X4_rollOneMore] at hf
  refine lv_iload_n hx hb dX4_rollOneMore_0 rfl (lv_at hl 2 rfl) ?_
  refine lv_aload_n hx hb dX4_rollOneMore_1 rfl (lv_at hl 0 rfl) ?_
  refine gf_X4_39 E hI dX4_rollOneMore_2 ?_
  refine lv_iadd hx hb dX4_rollOneMore_5 ?_
  refine lv_iload_n hx hb dX4_rollOneMore_6 rfl (lv_at hl 1 rfl) ?_
  refine lv_isub hx hb dX4_rollOneMore_7 ?_
  refine lv_aload_n hx hb dX4_rollOneMore_8 rfl (lv_at hl 0 rfl) ?_
  refine gf_X4_43 E hI dX4_rollOneMore_9 ?_
  refine lv_icmp_gt (tgt := 16) hx hb dX4_rollOneMore_12 (by decide) (fun c12 => ?_) (fun c12 => ?_)
  · replace hf := xif_t c12 hf
    refine lv_iload_n hx hb dX4_rollOneMore_16 rfl (lv_at hl 1 rfl) ?_
    refine lv_aload_n hx hb dX4_rollOneMore_17 rfl (lv_at hl 0 rfl) ?_
    refine gf_X4_39 E hI dX4_rollOneMore_18 ?_
    refine lv_icmp_lt (tgt := 32) hx hb dX4_rollOneMore_21 (by decide) (fun c21 => ?_) (fun c21 => ?_)
    · replace hf := xif_t c21 hf
      refine lv_aload_n hx hb dX4_rollOneMore_32 rfl (lv_at hl 0 rfl) ?_
      refine lv_iload_n hx hb dX4_rollOneMore_33 rfl (lv_at hl 1 rfl) ?_
      refine lv_iload_n hx hb dX4_rollOneMore_34 rfl (lv_at hl 2 rfl) ?_
      obtain ⟨M35, g35, hf⟩ := xb1_s hf
      refine x_callVv (As := [.int a1, .int a2]) (rest := []) E hI mx_5_0 rfl rfl rfl (c_X4_rollEach l G _ (fr := fr) (hr := hr) (h8 := h8) (hrec := hrec) (M := M) (L := L) (a1 := a1) (a2 := a2) g35) yv_X4_rollEach ml_X4_63 (by have h9 := h8; omega) (by decide) rfl rfl hl.1 (Nat.le_of_ble_eq_true rfl) dX4_rollOneMore_35 (fun H locs hI => ?_)
      exact (w_X4_rollOneMore_b38 E (M := M) (L := L) (hr := hr)) M35 hf _ (lv_sub hl [] rfl) _ _ hI
    · replace hf := xif_f c21 hf
      refine lv_aload_n hx hb dX4_rollOneMore_24 rfl (lv_at hl 0 rfl) ?_
      refine lv_iload_n hx hb dX4_rollOneMore_25 rfl (lv_at hl 2 rfl) ?_
      obtain ⟨M26, g26, hf⟩ := xb1_s hf
      refine x_callVv (As := [.int a2]) (rest := []) E hI mx_5_0 rfl rfl rfl (c_X4_keepTried l G _ (M := M) (L := L) (a1 := a2) g26) yv_X4_keepTried ml_X4_59 (by have h9 := h8; omega) (by decide) rfl rfl hl.1 (Nat.le_of_ble_eq_true rfl) dX4_rollOneMore_26 (fun H locs hI => ?_)
      refine lv_goto (tgt := 38) hx hb dX4_rollOneMore_29 (by decide) ?_
      exact (w_X4_rollOneMore_b38 E (M := M) (L := L) (hr := hr)) M26 hf _ (lv_sub hl [] rfl) _ _ hI
  · replace hf := xif_f c12 hf
    obtain rfl := xinj1 hf
    exact x_vret E hI dX4_rollOneMore_15
def f_X4_rollOneMore : Nat → Int32 → Int32 → xMem → Option (xMem)
  | 0, _, _, _ => none
  | d + 1, a1, a2, M => fF_X4_rollOneMore (f_X4_rollOneMore d) a1 a2 M
theorem c_X4_rollOneMore (l : Launch) (G : xG) (sz : Nat) (d : Nat) (M : xMem) (L : xLL) (a1 a2 : Int32) {MM : xMem} (hf : f_X4_rollOneMore d a1 a2 M = some MM) : Met l yX4_rollOneMore (Cond.code yX4_rollOneMore cX4_rollOneMore 3 none :: xTB) (xR (10 + 2 * d)) (xP G M L sz [.ref (xq G 5 0), .int a1, .int a2]) (xQv G MM L sz) 0 0 (xZ G sz) := by
  induction d generalizing sz M a1 a2 MM with
  | zero => cases hf
  | succ d ih => exact cF_X4_rollOneMore l G sz M L (f_X4_rollOneMore d) (10 + 2 * d) (by omega) (fun a1 a2 M MM sz h => ih sz M a1 a2 h) a1 a2 hf

theorem dX4_placeEach_0 : decode cX4_placeEach 0 = .ok (.iconst 0, 1) := by decide +kernel
theorem dX4_placeEach_1 : decode cX4_placeEach 1 = .ok (.istore_n 3, 1) := by decide +kernel
theorem dX4_placeEach_2 : decode cX4_placeEach 2 = .ok (.iload_n 3, 1) := by decide +kernel
theorem dX4_placeEach_3 : decode cX4_placeEach 3 = .ok (.aload_n 0, 1) := by decide +kernel
theorem dX4_placeEach_4 : decode cX4_placeEach 4 = .ok (.getfield 24, 3) := by decide +kernel
theorem dX4_placeEach_7 : decode cX4_placeEach 7 = .ok (.getfield 81, 3) := by decide +kernel
theorem dX4_placeEach_10 : decode cX4_placeEach 10 = .ok (.if_icmp .ge 36, 3) := by decide +kernel
theorem dX4_placeEach_13 : decode cX4_placeEach 13 = .ok (.iload_n 2, 1) := by decide +kernel
theorem dX4_placeEach_14 : decode cX4_placeEach 14 = .ok (.iload_n 3, 1) := by decide +kernel
theorem dX4_placeEach_15 : decode cX4_placeEach 15 = .ok (.ishr, 1) := by decide +kernel
theorem dX4_placeEach_16 : decode cX4_placeEach 16 = .ok (.iconst 1, 1) := by decide +kernel
theorem dX4_placeEach_17 : decode cX4_placeEach 17 = .ok (.iand, 1) := by decide +kernel
theorem dX4_placeEach_18 : decode cX4_placeEach 18 = .ok (.ifCond .ne 22, 3) := by decide +kernel
theorem dX4_placeEach_21 : decode cX4_placeEach 21 = .ok (.aload_n 0, 1) := by decide +kernel
theorem dX4_placeEach_22 : decode cX4_placeEach 22 = .ok (.getfield 17, 3) := by decide +kernel
theorem dX4_placeEach_25 : decode cX4_placeEach 25 = .ok (.iload_n 1, 1) := by decide +kernel
theorem dX4_placeEach_26 : decode cX4_placeEach 26 = .ok (.iload_n 3, 1) := by decide +kernel
theorem dX4_placeEach_27 : decode cX4_placeEach 27 = .ok (.iastore, 1) := by decide +kernel
theorem dX4_placeEach_28 : decode cX4_placeEach 28 = .ok (.aload_n 0, 1) := by decide +kernel
theorem dX4_placeEach_29 : decode cX4_placeEach 29 = .ok (.iload_n 1, 1) := by decide +kernel
theorem dX4_placeEach_30 : decode cX4_placeEach 30 = .ok (.iconst 1, 1) := by decide +kernel
theorem dX4_placeEach_31 : decode cX4_placeEach 31 = .ok (.iadd, 1) := by decide +kernel
theorem dX4_placeEach_32 : decode cX4_placeEach 32 = .ok (.iload_n 2, 1) := by decide +kernel
theorem dX4_placeEach_33 : decode cX4_placeEach 33 = .ok (.iconst 1, 1) := by decide +kernel
theorem dX4_placeEach_34 : decode cX4_placeEach 34 = .ok (.iload_n 3, 1) := by decide +kernel
theorem dX4_placeEach_35 : decode cX4_placeEach 35 = .ok (.ishl, 1) := by decide +kernel
theorem dX4_placeEach_36 : decode cX4_placeEach 36 = .ok (.ior, 1) := by decide +kernel
theorem dX4_placeEach_37 : decode cX4_placeEach 37 = .ok (.invokevirtual 84, 3) := by decide +kernel
theorem dX4_placeEach_40 : decode cX4_placeEach 40 = .ok (.iinc 3 1, 3) := by decide +kernel
theorem dX4_placeEach_43 : decode cX4_placeEach 43 = .ok (.goto (-41), 3) := by decide +kernel
theorem dX4_placeEach_46 : decode cX4_placeEach 46 = .ok (.return_, 1) := by decide +kernel
def f_X4_placeEach_b40 (v2_3 : Int32) (k2 : Int32 → xMem → Option (xMem)) (M40 : xMem) : Option (xMem) := k2 (v2_3 + (1 : Int32)) M40
def f_X4_placeEach_l2 (a1 : Int32) (a2 : Int32) (fr : Int32 → Int32 → xMem → Option (xMem)) : Nat → Int32 → xMem → Option (xMem)
  | 0, _, _ => none
  | n + 1, v2_3, M2 => (if (M2 3 0 0) ≤ v2_3 then some M2 else (if ((a2 >>> (v2_3 &&& 31)) &&& (1 : Int32)) = (0 : Int32) then xchk (xb a1 6) (xlet (xst M2 5 3 a1 v2_3) (fun M27 => xb1 (fr (a1 + (1 : Int32)) (a2 ||| ((1 : Int32) <<< (v2_3 &&& 31))) M27) (fun M37 => (f_X4_placeEach_b40 v2_3 (f_X4_placeEach_l2 a1 a2 fr n)) M37))) else (f_X4_placeEach_b40 v2_3 (f_X4_placeEach_l2 a1 a2 fr n)) M2))
def f_X4_placeEach (fr : Int32 → Int32 → xMem → Option (xMem)) (a1 : Int32) (a2 : Int32) (M : xMem) : Option (xMem) := (f_X4_placeEach_l2 a1 a2 fr FU) (0 : Int32) M
set_option maxHeartbeats 4000000 in
set_option maxRecDepth 100000 in
theorem w_X4_placeEach_b40 {p : Program} {l : Launch} {e : Env} {s : State} {m : MethodId} {args : Array Value} {below : List Frame} {meth : Method} {c : Code} {G : xG} {MM : xMem} (E : xE p s m args meth c cX4_placeEach 4 none RX4 G) (a1 : Int32) (a2 : Int32) (M : xMem) (L : xLL) (hr : Nat) (v2_3 : Int32) (M2 : xMem) (k2 : Int32 → xMem → Option (xMem)) (hk2 : ∀ (v2_3 : Int32) (M2 : xMem), k2 v2_3 M2 = some MM → ∀ (ls : Array Slot), lv_has ls 4 [(0, .ref (xq G 5 0)), (1, .int a1), (2, .int a2), (3, .int v2_3)] → ∀ (H : Heap) (locs : List Loc), xI G M2 L s.heap H locs → W p l e (xR (hr + 1)) s m args below meth c H locs 0 0 (MQ below (xQv G MM L s.heap.size) args s 0 0 (xZ G s.heap.size)) (F0 m 2 ls [])) : ∀ (M40 : xMem), f_X4_placeEach_b40 v2_3 k2 M40 = some MM → ∀ (ls : Array Slot), lv_has ls 4 [(0, .ref (xq G 5 0)), (1, .int a1), (2, .int a2), (3, .int v2_3)] → ∀ (H : Heap) (locs : List Loc), xI G M40 L s.heap H locs → W p l e (xR (hr + 1)) s m args below meth c H locs 0 0 (MQ below (xQv G MM L s.heap.size) args s 0 0 (xZ G s.heap.size)) (F0 m 40 ls []) := by
  have hx := E.1
  have hb := E.2.1
  intro M40 hf ls hl H locs hI
  rw [f_X4_placeEach_b40] at hf
  refine lv_iinc (v := (v2_3 + (1 : Int32))) (lv' := [(3, .int (v2_3 + (1 : Int32))), (0, .ref (xq G 5 0)), (1, .int a1), (2, .int a2)]) hx hb dX4_placeEach_40 hl (k := 3) rfl rfl (by decide) rfl (fun ls hl => ?_)
  refine lv_goto (tgt := 2) hx hb dX4_placeEach_43 (by decide) ?_
  exact hk2 (v2_3 + (1 : Int32)) M40 hf _ (lv_sub hl [1, 2, 3, 0] rfl) _ _ hI
set_option maxHeartbeats 4000000 in
set_option maxRecDepth 100000 in
theorem w_X4_placeEach_l2 {p : Program} {l : Launch} {e : Env} {s : State} {m : MethodId} {args : Array Value} {below : List Frame} {meth : Method} {c : Code} {G : xG} {MM : xMem} (E : xE p s m args meth c cX4_placeEach 4 none RX4 G) (a1 : Int32) (a2 : Int32) (M : xMem) (L : xLL) (fr : Int32 → Int32 → xMem → Option (xMem)) (hr : Nat) (h8 : 8 ≤ hr) (hrec : ∀ (a1 a2 : Int32) (M MM : xMem) (sz : Nat), fr a1 a2 M = some MM → Met l yX4_placeOneMore (Cond.code yX4_placeOneMore cX4_placeOneMore 3 none :: xTB) (xR hr) (xP G M L sz [.ref (xq G 5 0), .int a1, .int a2]) (xQv G MM L sz) 0 0 (xZ G sz)) : ∀ (n : Nat), ∀ (v2_3 : Int32) (M2 : xMem), f_X4_placeEach_l2 a1 a2 fr n v2_3 M2 = some MM → ∀ (ls : Array Slot), lv_has ls 4 [(0, .ref (xq G 5 0)), (1, .int a1), (2, .int a2), (3, .int v2_3)] → ∀ (H : Heap) (locs : List Loc), xI G M2 L s.heap H locs → W p l e (xR (hr + 1)) s m args below meth c H locs 0 0 (MQ below (xQv G MM L s.heap.size) args s 0 0 (xZ G s.heap.size)) (F0 m 2 ls []) := by
  have hx := E.1
  have hb := E.2.1
  intro n
  induction n with
  | zero =>
    intro v2_3 M2 hf
    exact absurd hf (by simp [f_X4_placeEach_l2])
  | succ n ih =>
    intro v2_3 M2 hf ls hl H locs hI
    rw [f_X4_placeEach_l2] at hf
    refine lv_iload_n hx hb dX4_placeEach_2 rfl (lv_at hl 3 rfl) ?_
    refine lv_aload_n hx hb dX4_placeEach_3 rfl (lv_at hl 0 rfl) ?_
    refine gf_X4_24 E hI dX4_placeEach_4 ?_
    refine gf_X4_81_3 E hI dX4_placeEach_7 ?_
    refine lv_icmp_ge (tgt := 46) hx hb dX4_placeEach_10 (by decide) (fun c10 => ?_) (fun c10 => ?_)
    · replace hf := xif_t c10 hf
      obtain rfl := xinj1 hf
      exact x_vret E hI dX4_placeEach_46
    · replace hf := xif_f c10 hf
      refine lv_iload_n hx hb dX4_placeEach_13 rfl (lv_at hl 2 rfl) ?_
      refine lv_iload_n hx hb dX4_placeEach_14 rfl (lv_at hl 3 rfl) ?_
      refine lv_ishr hx hb dX4_placeEach_15 ?_
      refine lv_iconst (v := 1) hx hb dX4_placeEach_16 (by decide) ?_
      refine lv_iand hx hb dX4_placeEach_17 ?_
      refine lv_if_ne (tgt := 40) hx hb dX4_placeEach_18 (by decide) (fun c18 => ?_) (fun c18 => ?_)
      · replace hf := xif_f c18 hf
        exact (w_X4_placeEach_b40 E (a1 := a1) (a2 := a2) (M := M) (L := L) (hr := hr) (v2_3 := v2_3) (M2 := M2) (k2 := (f_X4_placeEach_l2 a1 a2 fr n)) (hk2 := ih)) M2 hf _ (lv_sub hl [0, 1, 2, 3] rfl) _ _ hI
      · replace hf := xif_t c18 hf
        refine lv_aload_n hx hb dX4_placeEach_21 rfl (lv_at hl 0 rfl) ?_
        refine gf_X4_17 E hI dX4_placeEach_22 ?_
        refine lv_iload_n hx hb dX4_placeEach_25 rfl (lv_at hl 1 rfl) ?_
        refine lv_iload_n hx hb dX4_placeEach_26 rfl (lv_at hl 3 rfl) ?_
        obtain ⟨h27b, hf⟩ := xchk_s hf
        obtain ⟨M27, e27, hf⟩ := xlet_s hf
        refine x_iast (n := 6) E hI mx_5_3 (fun _ _ => rfl) h27b dX4_placeEach_27 e27 (fun H locs hI => ?_)
        refine lv_aload_n hx hb dX4_placeEach_28 rfl (lv_at hl 0 rfl) ?_
        refine lv_iload_n hx hb dX4_placeEach_29 rfl (lv_at hl 1 rfl) ?_
        refine lv_iconst (v := 1) hx hb dX4_placeEach_30 (by decide) ?_
        refine lv_iadd hx hb dX4_placeEach_31 ?_
        refine lv_iload_n hx hb dX4_placeEach_32 rfl (lv_at hl 2 rfl) ?_
        refine lv_iconst (v := 1) hx hb dX4_placeEach_33 (by decide) ?_
        refine lv_iload_n hx hb dX4_placeEach_34 rfl (lv_at hl 3 rfl) ?_
        refine lv_ishl hx hb dX4_placeEach_35 ?_
        refine lv_ior hx hb dX4_placeEach_36 ?_
        obtain ⟨M37, g37, hf⟩ := xb1_s hf
        refine x_callVv (As := [.int (a1 + (1 : Int32)), .int (a2 ||| ((1 : Int32) <<< (v2_3 &&& 31)))]) (rest := []) E hI mx_5_0 rfl rfl rfl (hrec _ _ _ _ _ g37) yv_X4_placeOneMore ml_X4_84 (by have h9 := h8; omega) (by decide) rfl rfl hl.1 (Nat.le_of_ble_eq_true rfl) dX4_placeEach_37 (fun H locs hI => ?_)
        exact (w_X4_placeEach_b40 E (a1 := a1) (a2 := a2) (M := M) (L := L) (hr := hr) (v2_3 := v2_3) (M2 := M2) (k2 := (f_X4_placeEach_l2 a1 a2 fr n)) (hk2 := ih)) M37 hf _ (lv_sub hl [0, 1, 2, 3] rfl) _ _ hI
set_option maxHeartbeats 4000000 in
set_option maxRecDepth 100000 in
theorem c_X4_placeEach (l : Launch) (G : xG) (sz : Nat) (M : xMem) (L : xLL) (fr : Int32 → Int32 → xMem → Option (xMem)) (hr : Nat) (h8 : 8 ≤ hr) (hrec : ∀ (a1 a2 : Int32) (M MM : xMem) (sz : Nat), fr a1 a2 M = some MM → Met l yX4_placeOneMore (Cond.code yX4_placeOneMore cX4_placeOneMore 3 none :: xTB) (xR hr) (xP G M L sz [.ref (xq G 5 0), .int a1, .int a2]) (xQv G MM L sz) 0 0 (xZ G sz)) (a1 : Int32) (a2 : Int32) {MM : xMem} (hf : f_X4_placeEach fr a1 a2 M = some MM) : Met l yX4_placeEach (Cond.code yX4_placeEach cX4_placeEach 4 none :: xTB) (xR (hr + 1)) (xP G M L sz [.ref (xq G 5 0), .int a1, .int a2]) (xQv G MM L sz) 0 0 (xZ G sz) := by
  refine x_met (cc := cX4_placeEach) (nL := 4) (rt := none) (by decide) (Nat.le_of_ble_eq_true rfl) ?_
  intro p e s m below meth c ls hsz E hl hI
  subst hsz
  have E : xE p s m _ meth c cX4_placeEach 4 none RX4 G := E
  have hx := E.1
  have hb := E.2.1
  have hl : lv_has ls 4 [(0, .ref (xq G 5 0)), (1, .int a1), (2, .int a2)] := hl
  rw [f_X4_placeEach] at hf
  refine lv_iconst (v := 0) hx hb dX4_placeEach_0 (by decide) ?_
  refine lv_istore_n (lv' := [(3, .int (0 : Int32)), (0, .ref (xq G 5 0)), (1, .int a1), (2, .int a2)]) hx hb dX4_placeEach_1 rfl hl (by decide) rfl (fun ls hl => ?_)
  exact (w_X4_placeEach_l2 E (a1 := a1) (a2 := a2) (M := M) (L := L) (fr := fr) (hr := hr) (h8 := h8) (hrec := hrec) FU) (0 : Int32) M hf _ (lv_sub hl [1, 2, 3, 0] rfl) _ _ hI
theorem dX4_placeOneMore_0 : decode cX4_placeOneMore 0 = .ok (.iload_n 1, 1) := by decide +kernel
theorem dX4_placeOneMore_1 : decode cX4_placeOneMore 1 = .ok (.aload_n 0, 1) := by decide +kernel
theorem dX4_placeOneMore_2 : decode cX4_placeOneMore 2 = .ok (.getfield 39, 3) := by decide +kernel
theorem dX4_placeOneMore_5 : decode cX4_placeOneMore 5 = .ok (.if_icmp .lt 10, 3) := by decide +kernel
theorem dX4_placeOneMore_8 : decode cX4_placeOneMore 8 = .ok (.aload_n 0, 1) := by decide +kernel
theorem dX4_placeOneMore_9 : decode cX4_placeOneMore 9 = .ok (.invokevirtual 87, 3) := by decide +kernel
theorem dX4_placeOneMore_12 : decode cX4_placeOneMore 12 = .ok (.goto 9, 3) := by decide +kernel
theorem dX4_placeOneMore_15 : decode cX4_placeOneMore 15 = .ok (.aload_n 0, 1) := by decide +kernel
theorem dX4_placeOneMore_16 : decode cX4_placeOneMore 16 = .ok (.iload_n 1, 1) := by decide +kernel
theorem dX4_placeOneMore_17 : decode cX4_placeOneMore 17 = .ok (.iload_n 2, 1) := by decide +kernel
theorem dX4_placeOneMore_18 : decode cX4_placeOneMore 18 = .ok (.invokevirtual 90, 3) := by decide +kernel
theorem dX4_placeOneMore_21 : decode cX4_placeOneMore 21 = .ok (.return_, 1) := by decide +kernel
def f_X4_placeOneMore_b21 (M21 : xMem) : Option (xMem) := some M21
def fF_X4_placeOneMore (fr : Int32 → Int32 → xMem → Option (xMem)) (a1 : Int32) (a2 : Int32) (M : xMem) : Option (xMem) := (if a1 < (M 5 0 4) then xb1 (f_X4_placeEach fr a1 a2 M) (fun M18 => (f_X4_placeOneMore_b21) M18) else xb1 (f_X4_tryRow M) (fun M9 => (f_X4_placeOneMore_b21) M9))
set_option maxHeartbeats 4000000 in
set_option maxRecDepth 100000 in
theorem w_X4_placeOneMore_b21 {p : Program} {l : Launch} {e : Env} {s : State} {m : MethodId} {args : Array Value} {below : List Frame} {meth : Method} {c : Code} {G : xG} {MM : xMem} (E : xE p s m args meth c cX4_placeOneMore 3 none RX4 G) (M : xMem) (L : xLL) (hr : Nat) : ∀ (M21 : xMem), f_X4_placeOneMore_b21 M21 = some MM → ∀ (ls : Array Slot), lv_has ls 3 [] → ∀ (H : Heap) (locs : List Loc), xI G M21 L s.heap H locs → W p l e (xR (hr + 2)) s m args below meth c H locs 0 0 (MQ below (xQv G MM L s.heap.size) args s 0 0 (xZ G s.heap.size)) (F0 m 21 ls []) := by
  have hx := E.1
  have hb := E.2.1
  intro M21 hf ls hl H locs hI
  rw [f_X4_placeOneMore_b21] at hf
  obtain rfl := xinj1 hf
  exact x_vret E hI dX4_placeOneMore_21
set_option maxHeartbeats 4000000 in
set_option maxRecDepth 100000 in
theorem cF_X4_placeOneMore (l : Launch) (G : xG) (sz : Nat) (M : xMem) (L : xLL) (fr : Int32 → Int32 → xMem → Option (xMem)) (hr : Nat) (h8 : 8 ≤ hr) (hrec : ∀ (a1 a2 : Int32) (M MM : xMem) (sz : Nat), fr a1 a2 M = some MM → Met l yX4_placeOneMore (Cond.code yX4_placeOneMore cX4_placeOneMore 3 none :: xTB) (xR hr) (xP G M L sz [.ref (xq G 5 0), .int a1, .int a2]) (xQv G MM L sz) 0 0 (xZ G sz)) (a1 : Int32) (a2 : Int32) {MM : xMem} (hf : fF_X4_placeOneMore fr a1 a2 M = some MM) : Met l yX4_placeOneMore (Cond.code yX4_placeOneMore cX4_placeOneMore 3 none :: xTB) (xR (hr + 2)) (xP G M L sz [.ref (xq G 5 0), .int a1, .int a2]) (xQv G MM L sz) 0 0 (xZ G sz) := by
  refine x_met (cc := cX4_placeOneMore) (nL := 3) (rt := none) (by decide) (Nat.le_of_ble_eq_true rfl) ?_
  intro p e s m below meth c ls hsz E hl hI
  subst hsz
  have E : xE p s m _ meth c cX4_placeOneMore 3 none RX4 G := E
  have hx := E.1
  have hb := E.2.1
  have hl : lv_has ls 3 [(0, .ref (xq G 5 0)), (1, .int a1), (2, .int a2)] := hl
  rw [fF_X4_placeOneMore] at hf
  refine lv_iload_n hx hb dX4_placeOneMore_0 rfl (lv_at hl 1 rfl) ?_
  refine lv_aload_n hx hb dX4_placeOneMore_1 rfl (lv_at hl 0 rfl) ?_
  refine gf_X4_39 E hI dX4_placeOneMore_2 ?_
  refine lv_icmp_lt (tgt := 15) hx hb dX4_placeOneMore_5 (by decide) (fun c5 => ?_) (fun c5 => ?_)
  · replace hf := xif_t c5 hf
    refine lv_aload_n hx hb dX4_placeOneMore_15 rfl (lv_at hl 0 rfl) ?_
    refine lv_iload_n hx hb dX4_placeOneMore_16 rfl (lv_at hl 1 rfl) ?_
    refine lv_iload_n hx hb dX4_placeOneMore_17 rfl (lv_at hl 2 rfl) ?_
    obtain ⟨M18, g18, hf⟩ := xb1_s hf
    refine x_callVv (As := [.int a1, .int a2]) (rest := []) E hI mx_5_0 rfl rfl rfl (c_X4_placeEach l G _ (fr := fr) (hr := hr) (h8 := h8) (hrec := hrec) (M := M) (L := L) (a1 := a1) (a2 := a2) g18) yv_X4_placeEach ml_X4_90 (by have h9 := h8; omega) (by decide) rfl rfl hl.1 (Nat.le_of_ble_eq_true rfl) dX4_placeOneMore_18 (fun H locs hI => ?_)
    exact (w_X4_placeOneMore_b21 E (M := M) (L := L) (hr := hr)) M18 hf _ (lv_sub hl [] rfl) _ _ hI
  · replace hf := xif_f c5 hf
    refine lv_aload_n hx hb dX4_placeOneMore_8 rfl (lv_at hl 0 rfl) ?_
    obtain ⟨M9, g9, hf⟩ := xb1_s hf
    refine x_callVv (As := []) (rest := []) E hI mx_5_0 rfl rfl rfl (c_X4_tryRow l G _ (M := M) (L := L) g9) yv_X4_tryRow ml_X4_87 (by have h9 := h8; omega) (by decide) rfl rfl hl.1 (Nat.le_of_ble_eq_true rfl) dX4_placeOneMore_9 (fun H locs hI => ?_)
    refine lv_goto (tgt := 21) hx hb dX4_placeOneMore_12 (by decide) ?_
    exact (w_X4_placeOneMore_b21 E (M := M) (L := L) (hr := hr)) M9 hf _ (lv_sub hl [] rfl) _ _ hI
def f_X4_placeOneMore : Nat → Int32 → Int32 → xMem → Option (xMem)
  | 0, _, _, _ => none
  | d + 1, a1, a2, M => fF_X4_placeOneMore (f_X4_placeOneMore d) a1 a2 M
theorem c_X4_placeOneMore (l : Launch) (G : xG) (sz : Nat) (d : Nat) (M : xMem) (L : xLL) (a1 a2 : Int32) {MM : xMem} (hf : f_X4_placeOneMore d a1 a2 M = some MM) : Met l yX4_placeOneMore (Cond.code yX4_placeOneMore cX4_placeOneMore 3 none :: xTB) (xR (10 + 2 * d)) (xP G M L sz [.ref (xq G 5 0), .int a1, .int a2]) (xQv G MM L sz) 0 0 (xZ G sz) := by
  induction d generalizing sz M a1 a2 MM with
  | zero => cases hf
  | succ d ih => exact cF_X4_placeOneMore l G sz M L (f_X4_placeOneMore d) (10 + 2 * d) (by omega) (fun a1 a2 M MM sz h => ih sz M a1 a2 h) a1 a2 hf

theorem dX4_orderEggs_0 : decode cX4_orderEggs 0 = .ok (.aload_n 0, 1) := by decide +kernel
theorem dX4_orderEggs_1 : decode cX4_orderEggs 1 = .ok (.getfield 11, 3) := by decide +kernel
theorem dX4_orderEggs_4 : decode cX4_orderEggs 4 = .ok (.iconst 0, 1) := by decide +kernel
theorem dX4_orderEggs_5 : decode cX4_orderEggs 5 = .ok (.aaload, 1) := by decide +kernel
theorem dX4_orderEggs_6 : decode cX4_orderEggs 6 = .ok (.aload_n 1, 1) := by decide +kernel
theorem dX4_orderEggs_7 : decode cX4_orderEggs 7 = .ok (.invokevirtual 31, 3) := by decide +kernel
theorem dX4_orderEggs_10 : decode cX4_orderEggs 10 = .ok (.aload_n 0, 1) := by decide +kernel
theorem dX4_orderEggs_11 : decode cX4_orderEggs 11 = .ok (.aload_n 1, 1) := by decide +kernel
theorem dX4_orderEggs_12 : decode cX4_orderEggs 12 = .ok (.iconst 0, 1) := by decide +kernel
theorem dX4_orderEggs_13 : decode cX4_orderEggs 13 = .ok (.invokevirtual 35, 3) := by decide +kernel
theorem dX4_orderEggs_16 : decode cX4_orderEggs 16 = .ok (.putfield 39, 3) := by decide +kernel
theorem dX4_orderEggs_19 : decode cX4_orderEggs 19 = .ok (.aload_n 0, 1) := by decide +kernel
theorem dX4_orderEggs_20 : decode cX4_orderEggs 20 = .ok (.iconst (-1), 1) := by decide +kernel
theorem dX4_orderEggs_21 : decode cX4_orderEggs 21 = .ok (.putfield 43, 3) := by decide +kernel
theorem dX4_orderEggs_24 : decode cX4_orderEggs 24 = .ok (.aload_n 0, 1) := by decide +kernel
theorem dX4_orderEggs_25 : decode cX4_orderEggs 25 = .ok (.iconst 0, 1) := by decide +kernel
theorem dX4_orderEggs_26 : decode cX4_orderEggs 26 = .ok (.aload_n 1, 1) := by decide +kernel
theorem dX4_orderEggs_27 : decode cX4_orderEggs 27 = .ok (.invokevirtual 46, 3) := by decide +kernel
theorem dX4_orderEggs_30 : decode cX4_orderEggs 30 = .ok (.invokestatic 50, 3) := by decide +kernel
theorem dX4_orderEggs_33 : decode cX4_orderEggs 33 = .ok (.invokevirtual 55, 3) := by decide +kernel
theorem dX4_orderEggs_36 : decode cX4_orderEggs 36 = .ok (.return_, 1) := by decide +kernel
def f_X4_orderEggs (j1 : Nat) (M : xMem) : Option (xMem) := xb1 (f_X0_become ((0 : Int32).toNatClampNeg + 14) j1 M) (fun M7 => xb1 (f_X0_howManyAt j1 (0 : Int32) M7) (fun r13 => xlet (xsf M7 5 4 r13) (fun M16 => xlet (xsf M16 5 5 (-1 : Int32)) (fun M21 => xb1 (f_X0_rightEggs j1 M21) (fun r27 => xb1 (f_J6_bitCount_0f7a4 r27 M21) (fun r30 => xb1 (f_X4_rollOneMore 8 (0 : Int32) r30 M21) (fun M33 => some M33)))))))
set_option maxHeartbeats 4000000 in
set_option maxRecDepth 100000 in
theorem c_X4_orderEggs (l : Launch) (G : xG) (sz : Nat) (M : xMem) (L : xLL) (j1 : Nat) (hj1 : j1 < 21) {MM : xMem} (hf : f_X4_orderEggs j1 M = some MM) : Met l yX4_orderEggs (Cond.code yX4_orderEggs cX4_orderEggs 2 none :: xTB) (xR 27) (xP G M L sz [.ref (xq G 5 0), .ref (xq G (j1 + 9) 0)]) (xQv G MM L sz) 0 0 (xZ G sz) := by
  refine x_met (cc := cX4_orderEggs) (nL := 2) (rt := none) (by decide) (Nat.le_of_ble_eq_true rfl) ?_
  intro p e s m below meth c ls hsz E hl hI
  subst hsz
  have E : xE p s m _ meth c cX4_orderEggs 2 none RX4 G := E
  have hx := E.1
  have hb := E.2.1
  have hl : lv_has ls 2 [(0, .ref (xq G 5 0)), (1, .ref (xq G (j1 + 9) 0))] := hl
  rw [f_X4_orderEggs] at hf
  refine lv_aload_n hx hb dX4_orderEggs_0 rfl (lv_at hl 0 rfl) ?_
  refine gf_X4_11 E hI dX4_orderEggs_1 ?_
  refine lv_iconst (v := 0) hx hb dX4_orderEggs_4 (by decide) ?_
  refine x_aald (n := 7) E hI mx_5_2 (fun _ _ => rfl) (by decide) dX4_orderEggs_5 ?_
  refine lv_aload_n hx hb dX4_orderEggs_6 rfl (lv_at hl 1 rfl) ?_
  obtain ⟨M7, g7, hf⟩ := xb1_s hf
  refine x_callVv (As := [.ref (xq G (j1 + 9) 0)]) (rest := []) E hI (mf_0 (xb_fl (n := 7) (by decide) (by decide))) rfl rfl rfl (c_X0_become l G _ (M := M) (L := L) (i := ((0 : Int32).toNatClampNeg + 14)) (hi := (xb_fl (n := 7) (by decide) (by decide))) (j1 := j1) (hj1 := hj1) g7) yv_X0_become ml_X4_31 (by decide) (by decide) rfl rfl hl.1 (Nat.le_of_ble_eq_true rfl) dX4_orderEggs_7 (fun H locs hI => ?_)
  refine lv_aload_n hx hb dX4_orderEggs_10 rfl (lv_at hl 0 rfl) ?_
  refine lv_aload_n hx hb dX4_orderEggs_11 rfl (lv_at hl 1 rfl) ?_
  refine lv_iconst (v := 0) hx hb dX4_orderEggs_12 (by decide) ?_
  obtain ⟨r13, g13, hf⟩ := xb1_s hf
  refine x_callVi (As := [.int (0 : Int32)]) (rest := [.ref (xq G 5 0)]) E hI (mf_0 hj1) rfl rfl rfl (c_X0_howManyAt l G _ (M := M7) (L := L) (i := j1) (hi := hj1) (a1 := (0 : Int32)) g13) yv_X0_howManyAt ml_X4_35 (by decide) (by decide) rfl rfl hl.1 (Nat.le_of_ble_eq_true rfl) dX4_orderEggs_13 (fun H locs hI => ?_)
  obtain ⟨M16, e16, hf⟩ := xlet_s hf
  refine pf_X4_39 E hI dX4_orderEggs_16 e16 (fun H locs hI => ?_)
  refine lv_aload_n hx hb dX4_orderEggs_19 rfl (lv_at hl 0 rfl) ?_
  refine lv_iconst (v := -1) hx hb dX4_orderEggs_20 (by decide) ?_
  obtain ⟨M21, e21, hf⟩ := xlet_s hf
  refine pf_X4_43 E hI dX4_orderEggs_21 e21 (fun H locs hI => ?_)
  refine lv_aload_n hx hb dX4_orderEggs_24 rfl (lv_at hl 0 rfl) ?_
  refine lv_iconst (v := 0) hx hb dX4_orderEggs_25 (by decide) ?_
  refine lv_aload_n hx hb dX4_orderEggs_26 rfl (lv_at hl 1 rfl) ?_
  obtain ⟨r27, g27, hf⟩ := xb1_s hf
  refine x_callVi (As := []) (rest := [.int (0 : Int32), .ref (xq G 5 0)]) E hI (mf_0 hj1) rfl rfl rfl (c_X0_rightEggs l G _ (M := M21) (L := L) (i := j1) (hi := hj1) g27) yv_X0_rightEggs ml_X4_46 (by decide) (by decide) rfl rfl hl.1 (Nat.le_of_ble_eq_true rfl) dX4_orderEggs_27 (fun H locs hI => ?_)
  obtain ⟨r30, g30, hf⟩ := xb1_s hf
  refine x_callSi (As := [.int r27]) (rest := [.int (0 : Int32), .ref (xq G 5 0)]) E hI (c_J6_bitCount_0f7a4 l G _ (M := M21) (L := L) (a0 := r27) g30) ys_J6_bitCount_0f7a4 ml_X4_50 (by decide) (by decide) rfl rfl hl.1 (Nat.le_of_ble_eq_true rfl) dX4_orderEggs_30 (fun H locs hI => ?_)
  obtain ⟨M33, g33, hf⟩ := xb1_s hf
  refine x_callVv (As := [.int (0 : Int32), .int r30]) (rest := []) E hI mx_5_0 rfl rfl rfl (c_X4_rollOneMore l G _ 8 (M := M21) (L := L) (a1 := (0 : Int32)) (a2 := r30) g33) yv_X4_rollOneMore ml_X4_55 (by decide) (by decide) rfl rfl hl.1 (Nat.le_of_ble_eq_true rfl) dX4_orderEggs_33 (fun H locs hI => ?_)
  obtain rfl := xinj1 hf
  exact x_vret E hI dX4_orderEggs_36
theorem dX4_orderScales_0 : decode cX4_orderScales 0 = .ok (.aload_n 0, 1) := by decide +kernel
theorem dX4_orderScales_1 : decode cX4_orderScales 1 = .ok (.getfield 11, 3) := by decide +kernel
theorem dX4_orderScales_4 : decode cX4_orderScales 4 = .ok (.iconst 0, 1) := by decide +kernel
theorem dX4_orderScales_5 : decode cX4_orderScales 5 = .ok (.aaload, 1) := by decide +kernel
theorem dX4_orderScales_6 : decode cX4_orderScales 6 = .ok (.aload_n 1, 1) := by decide +kernel
theorem dX4_orderScales_7 : decode cX4_orderScales 7 = .ok (.invokevirtual 31, 3) := by decide +kernel
theorem dX4_orderScales_10 : decode cX4_orderScales 10 = .ok (.aload_n 0, 1) := by decide +kernel
theorem dX4_orderScales_11 : decode cX4_orderScales 11 = .ok (.aload_n 0, 1) := by decide +kernel
theorem dX4_orderScales_12 : decode cX4_orderScales 12 = .ok (.getfield 24, 3) := by decide +kernel
theorem dX4_orderScales_15 : decode cX4_orderScales 15 = .ok (.getfield 81, 3) := by decide +kernel
theorem dX4_orderScales_18 : decode cX4_orderScales 18 = .ok (.putfield 39, 3) := by decide +kernel
theorem dX4_orderScales_21 : decode cX4_orderScales 21 = .ok (.aload_n 0, 1) := by decide +kernel
theorem dX4_orderScales_22 : decode cX4_orderScales 22 = .ok (.iconst (-1), 1) := by decide +kernel
theorem dX4_orderScales_23 : decode cX4_orderScales 23 = .ok (.putfield 43, 3) := by decide +kernel
theorem dX4_orderScales_26 : decode cX4_orderScales 26 = .ok (.aload_n 0, 1) := by decide +kernel
theorem dX4_orderScales_27 : decode cX4_orderScales 27 = .ok (.iconst 0, 1) := by decide +kernel
theorem dX4_orderScales_28 : decode cX4_orderScales 28 = .ok (.iconst 0, 1) := by decide +kernel
theorem dX4_orderScales_29 : decode cX4_orderScales 29 = .ok (.invokevirtual 84, 3) := by decide +kernel
theorem dX4_orderScales_32 : decode cX4_orderScales 32 = .ok (.return_, 1) := by decide +kernel
def f_X4_orderScales (j1 : Nat) (M : xMem) : Option (xMem) := xb1 (f_X0_become ((0 : Int32).toNatClampNeg + 14) j1 M) (fun M7 => xlet (xsf M7 5 4 (M7 3 0 0)) (fun M18 => xlet (xsf M18 5 5 (-1 : Int32)) (fun M23 => xb1 (f_X4_placeOneMore 8 (0 : Int32) (0 : Int32) M23) (fun M29 => some M29))))
set_option maxHeartbeats 4000000 in
set_option maxRecDepth 100000 in
theorem c_X4_orderScales (l : Launch) (G : xG) (sz : Nat) (M : xMem) (L : xLL) (j1 : Nat) (hj1 : j1 < 21) {MM : xMem} (hf : f_X4_orderScales j1 M = some MM) : Met l yX4_orderScales (Cond.code yX4_orderScales cX4_orderScales 2 none :: xTB) (xR 27) (xP G M L sz [.ref (xq G 5 0), .ref (xq G (j1 + 9) 0)]) (xQv G MM L sz) 0 0 (xZ G sz) := by
  refine x_met (cc := cX4_orderScales) (nL := 2) (rt := none) (by decide) (Nat.le_of_ble_eq_true rfl) ?_
  intro p e s m below meth c ls hsz E hl hI
  subst hsz
  have E : xE p s m _ meth c cX4_orderScales 2 none RX4 G := E
  have hx := E.1
  have hb := E.2.1
  have hl : lv_has ls 2 [(0, .ref (xq G 5 0)), (1, .ref (xq G (j1 + 9) 0))] := hl
  rw [f_X4_orderScales] at hf
  refine lv_aload_n hx hb dX4_orderScales_0 rfl (lv_at hl 0 rfl) ?_
  refine gf_X4_11 E hI dX4_orderScales_1 ?_
  refine lv_iconst (v := 0) hx hb dX4_orderScales_4 (by decide) ?_
  refine x_aald (n := 7) E hI mx_5_2 (fun _ _ => rfl) (by decide) dX4_orderScales_5 ?_
  refine lv_aload_n hx hb dX4_orderScales_6 rfl (lv_at hl 1 rfl) ?_
  obtain ⟨M7, g7, hf⟩ := xb1_s hf
  refine x_callVv (As := [.ref (xq G (j1 + 9) 0)]) (rest := []) E hI (mf_0 (xb_fl (n := 7) (by decide) (by decide))) rfl rfl rfl (c_X0_become l G _ (M := M) (L := L) (i := ((0 : Int32).toNatClampNeg + 14)) (hi := (xb_fl (n := 7) (by decide) (by decide))) (j1 := j1) (hj1 := hj1) g7) yv_X0_become ml_X4_31 (by decide) (by decide) rfl rfl hl.1 (Nat.le_of_ble_eq_true rfl) dX4_orderScales_7 (fun H locs hI => ?_)
  refine lv_aload_n hx hb dX4_orderScales_10 rfl (lv_at hl 0 rfl) ?_
  refine lv_aload_n hx hb dX4_orderScales_11 rfl (lv_at hl 0 rfl) ?_
  refine gf_X4_24 E hI dX4_orderScales_12 ?_
  refine gf_X4_81_3 E hI dX4_orderScales_15 ?_
  obtain ⟨M18, e18, hf⟩ := xlet_s hf
  refine pf_X4_39 E hI dX4_orderScales_18 e18 (fun H locs hI => ?_)
  refine lv_aload_n hx hb dX4_orderScales_21 rfl (lv_at hl 0 rfl) ?_
  refine lv_iconst (v := -1) hx hb dX4_orderScales_22 (by decide) ?_
  obtain ⟨M23, e23, hf⟩ := xlet_s hf
  refine pf_X4_43 E hI dX4_orderScales_23 e23 (fun H locs hI => ?_)
  refine lv_aload_n hx hb dX4_orderScales_26 rfl (lv_at hl 0 rfl) ?_
  refine lv_iconst (v := 0) hx hb dX4_orderScales_27 (by decide) ?_
  refine lv_iconst (v := 0) hx hb dX4_orderScales_28 (by decide) ?_
  obtain ⟨M29, g29, hf⟩ := xb1_s hf
  refine x_callVv (As := [.int (0 : Int32), .int (0 : Int32)]) (rest := []) E hI mx_5_0 rfl rfl rfl (c_X4_placeOneMore l G _ 8 (M := M23) (L := L) (a1 := (0 : Int32)) (a2 := (0 : Int32)) g29) yv_X4_placeOneMore ml_X4_84 (by decide) (by decide) rfl rfl hl.1 (Nat.le_of_ble_eq_true rfl) dX4_orderScales_29 (fun H locs hI => ?_)
  obtain rfl := xinj1 hf
  exact x_vret E hI dX4_orderScales_32
theorem dX7_order_0 : decode cX7_order 0 = .ok (.iload_n 1, 1) := by decide +kernel
theorem dX7_order_1 : decode cX7_order 1 = .ok (.iconst (-1), 1) := by decide +kernel
theorem dX7_order_2 : decode cX7_order 2 = .ok (.iconst 5, 1) := by decide +kernel
theorem dX7_order_3 : decode cX7_order 3 = .ok (.invokestatic 73, 3) := by decide +kernel
theorem dX7_order_6 : decode cX7_order 6 = .ok (.ifCond .eq 5, 3) := by decide +kernel
theorem dX7_order_9 : decode cX7_order 9 = .ok (.iconst (-1), 1) := by decide +kernel
theorem dX7_order_10 : decode cX7_order 10 = .ok (.ireturn, 1) := by decide +kernel
theorem dX7_order_11 : decode cX7_order 11 = .ok (.aload_n 0, 1) := by decide +kernel
theorem dX7_order_12 : decode cX7_order 12 = .ok (.getfield 53, 3) := by decide +kernel
theorem dX7_order_15 : decode cX7_order 15 = .ok (.aload_n 0, 1) := by decide +kernel
theorem dX7_order_16 : decode cX7_order 16 = .ok (.getfield 28, 3) := by decide +kernel
theorem dX7_order_19 : decode cX7_order 19 = .ok (.invokevirtual 173, 3) := by decide +kernel
theorem dX7_order_22 : decode cX7_order 22 = .ok (.iload_n 1, 1) := by decide +kernel
theorem dX7_order_23 : decode cX7_order 23 = .ok (.iconst (-1), 1) := by decide +kernel
theorem dX7_order_24 : decode cX7_order 24 = .ok (.if_icmp .ne 11, 3) := by decide +kernel
theorem dX7_order_27 : decode cX7_order 27 = .ok (.aload_n 0, 1) := by decide +kernel
theorem dX7_order_28 : decode cX7_order 28 = .ok (.getfield 53, 3) := by decide +kernel
theorem dX7_order_31 : decode cX7_order 31 = .ok (.getfield 176, 3) := by decide +kernel
theorem dX7_order_34 : decode cX7_order 34 = .ok (.ireturn, 1) := by decide +kernel
theorem dX7_order_35 : decode cX7_order 35 = .ok (.iload_n 1, 1) := by decide +kernel
theorem dX7_order_36 : decode cX7_order 36 = .ok (.aload_n 0, 1) := by decide +kernel
theorem dX7_order_37 : decode cX7_order 37 = .ok (.getfield 53, 3) := by decide +kernel
theorem dX7_order_40 : decode cX7_order 40 = .ok (.getfield 179, 3) := by decide +kernel
theorem dX7_order_43 : decode cX7_order 43 = .ok (.if_icmp .ge 15, 3) := by decide +kernel
theorem dX7_order_46 : decode cX7_order 46 = .ok (.aload_n 0, 1) := by decide +kernel
theorem dX7_order_47 : decode cX7_order 47 = .ok (.getfield 53, 3) := by decide +kernel
theorem dX7_order_50 : decode cX7_order 50 = .ok (.getfield 180, 3) := by decide +kernel
theorem dX7_order_53 : decode cX7_order 53 = .ok (.iload_n 1, 1) := by decide +kernel
theorem dX7_order_54 : decode cX7_order 54 = .ok (.iaload, 1) := by decide +kernel
theorem dX7_order_55 : decode cX7_order 55 = .ok (.goto 5, 3) := by decide +kernel
theorem dX7_order_58 : decode cX7_order 58 = .ok (.bipush (-9), 2) := by decide +kernel
theorem dX7_order_60 : decode cX7_order 60 = .ok (.ireturn, 1) := by decide +kernel
def f_X7_order_b60 (M19 : xMem) (t60_0 : Int32) : Option (Int32 × xMem) := some (t60_0, M19)
def f_X7_order (a1 : Int32) (M : xMem) : Option (Int32 × xMem) := xb1 (f_X7_beyond a1 (-1 : Int32) (5 : Int32) M) (fun r3 => (if r3 = (0 : Int32) then xb1 (f_X4_orderEggs 0 M) (fun M19 => (if a1 = (-1 : Int32) then some ((M19 5 0 5), M19) else (if (M19 5 0 4) ≤ a1 then (f_X7_order_b60 M19) (-9 : Int32) else xchk (xb a1 6) ((f_X7_order_b60 M19) (M19 5 4 a1.toNatClampNeg))))) else some ((-1 : Int32), M)))
set_option maxHeartbeats 4000000 in
set_option maxRecDepth 100000 in
theorem w_X7_order_b60 {p : Program} {l : Launch} {e : Env} {s : State} {m : MethodId} {args : Array Value} {below : List Frame} {meth : Method} {c : Code} {G : xG} {rr : Int32} {MM : xMem} (E : xE p s m args meth c cX7_order 2 (some .int) RX7 G) (M : xMem) (L : xLL) (M19 : xMem) : ∀ (t60_0 : Int32), f_X7_order_b60 M19 t60_0 = some (rr, MM) → ∀ (ls : Array Slot), lv_has ls 2 [] → ∀ (H : Heap) (locs : List Loc), xI G M19 L s.heap H locs → W p l e (xR 28) s m args below meth c H locs 0 0 (MQ below (xQi G rr MM L s.heap.size) args s 0 0 (xZ G s.heap.size)) (F0 m 60 ls [.int t60_0]) := by
  have hx := E.1
  have hb := E.2.1
  intro t60_0 hf ls hl H locs hI
  rw [f_X7_order_b60] at hf
  obtain ⟨rfl, rfl⟩ := xinj2 hf
  exact x_iret E hI rfl dX7_order_60
set_option maxHeartbeats 4000000 in
set_option maxRecDepth 100000 in
theorem c_X7_order (l : Launch) (G : xG) (sz : Nat) (M : xMem) (L : xLL) (a1 : Int32) {rr : Int32} {MM : xMem} (hf : f_X7_order a1 M = some (rr, MM)) : Met l yX7_order (Cond.code yX7_order cX7_order 2 (some .int) :: xTB) (xR 28) (xP G M L sz [.ref (xq G 0 0), .int a1]) (xQi G rr MM L sz) 0 0 (xZ G sz) := by
  refine x_met (cc := cX7_order) (nL := 2) (rt := (some .int)) (by decide) (Nat.le_of_ble_eq_true rfl) ?_
  intro p e s m below meth c ls hsz E hl hI
  subst hsz
  have E : xE p s m _ meth c cX7_order 2 (some .int) RX7 G := E
  have hx := E.1
  have hb := E.2.1
  have hl : lv_has ls 2 [(0, .ref (xq G 0 0)), (1, .int a1)] := hl
  rw [f_X7_order] at hf
  refine lv_iload_n hx hb dX7_order_0 rfl (lv_at hl 1 rfl) ?_
  refine lv_iconst (v := -1) hx hb dX7_order_1 (by decide) ?_
  refine lv_iconst (v := 5) hx hb dX7_order_2 (by decide) ?_
  obtain ⟨r3, g3, hf⟩ := xb1_s hf
  refine x_callSi (As := [.int a1, .int (-1 : Int32), .int (5 : Int32)]) (rest := []) E hI (c_X7_beyond l G _ (M := M) (L := L) (a0 := a1) (a1 := (-1 : Int32)) (a2 := (5 : Int32)) g3) ys_X7_beyond ml_X7_73 (by decide) (by decide) rfl rfl hl.1 (Nat.le_of_ble_eq_true rfl) dX7_order_3 (fun H locs hI => ?_)
  refine lv_if_eq (tgt := 11) hx hb dX7_order_6 (by decide) (fun c6 => ?_) (fun c6 => ?_)
  · replace hf := xif_t c6 hf
    refine lv_aload_n hx hb dX7_order_11 rfl (lv_at hl 0 rfl) ?_
    refine gf_X7_53 E hI dX7_order_12 ?_
    refine lv_aload_n hx hb dX7_order_15 rfl (lv_at hl 0 rfl) ?_
    refine gf_X7_28 E hI dX7_order_16 ?_
    obtain ⟨M19, g19, hf⟩ := xb1_s hf
    refine x_callVv (As := [.ref (xq G (0 + 9) 0)]) (rest := []) E hI mx_5_0 rfl rfl rfl (c_X4_orderEggs l G _ (M := M) (L := L) (j1 := 0) (hj1 := (by decide)) g19) yv_X4_orderEggs ml_X7_173 (by decide) (by decide) rfl rfl hl.1 (Nat.le_of_ble_eq_true rfl) dX7_order_19 (fun H locs hI => ?_)
    refine lv_iload_n hx hb dX7_order_22 rfl (lv_at hl 1 rfl) ?_
    refine lv_iconst (v := -1) hx hb dX7_order_23 (by decide) ?_
    refine lv_icmp_ne (tgt := 35) hx hb dX7_order_24 (by decide) (fun c24 => ?_) (fun c24 => ?_)
    · replace hf := xif_f c24 hf
      refine lv_iload_n hx hb dX7_order_35 rfl (lv_at hl 1 rfl) ?_
      refine lv_aload_n hx hb dX7_order_36 rfl (lv_at hl 0 rfl) ?_
      refine gf_X7_53 E hI dX7_order_37 ?_
      refine gf_X7_179 E hI dX7_order_40 ?_
      refine lv_icmp_ge (tgt := 58) hx hb dX7_order_43 (by decide) (fun c43 => ?_) (fun c43 => ?_)
      · replace hf := xif_t c43 hf
        refine lv_bipush (v := -9) hx hb dX7_order_58 (by decide) ?_
        exact (w_X7_order_b60 E (M := M) (L := L) (M19 := M19)) (-9 : Int32) hf _ (lv_sub hl [] rfl) _ _ hI
      · replace hf := xif_f c43 hf
        refine lv_aload_n hx hb dX7_order_46 rfl (lv_at hl 0 rfl) ?_
        refine gf_X7_53 E hI dX7_order_47 ?_
        refine gf_X7_180 E hI dX7_order_50 ?_
        refine lv_iload_n hx hb dX7_order_53 rfl (lv_at hl 1 rfl) ?_
        obtain ⟨h54b, hf⟩ := xchk_s hf
        refine x_iald (n := 6) E hI mx_5_4 (fun _ _ => rfl) h54b dX7_order_54 ?_
        refine lv_goto (tgt := 60) hx hb dX7_order_55 (by decide) ?_
        exact (w_X7_order_b60 E (M := M) (L := L) (M19 := M19)) (M19 5 4 a1.toNatClampNeg) hf _ (lv_sub hl [] rfl) _ _ hI
    · replace hf := xif_t c24 hf
      refine lv_aload_n hx hb dX7_order_27 rfl (lv_at hl 0 rfl) ?_
      refine gf_X7_53 E hI dX7_order_28 ?_
      refine gf_X7_176 E hI dX7_order_31 ?_
      obtain ⟨rfl, rfl⟩ := xinj2 hf
      exact x_iret E hI rfl dX7_order_34
  · replace hf := xif_f c6 hf
    refine lv_iconst (v := -1) hx hb dX7_order_9 (by decide) ?_
    obtain ⟨rfl, rfl⟩ := xinj2 hf
    exact x_iret E hI rfl dX7_order_10
theorem dX7_row_0 : decode cX7_row 0 = .ok (.iload_n 1, 1) := by decide +kernel
theorem dX7_row_1 : decode cX7_row 1 = .ok (.iconst (-1), 1) := by decide +kernel
theorem dX7_row_2 : decode cX7_row 2 = .ok (.aload_n 0, 1) := by decide +kernel
theorem dX7_row_3 : decode cX7_row 3 = .ok (.getfield 19, 3) := by decide +kernel
theorem dX7_row_6 : decode cX7_row 6 = .ok (.getfield 162, 3) := by decide +kernel
theorem dX7_row_9 : decode cX7_row 9 = .ok (.iconst 1, 1) := by decide +kernel
theorem dX7_row_10 : decode cX7_row 10 = .ok (.isub, 1) := by decide +kernel
theorem dX7_row_11 : decode cX7_row 11 = .ok (.invokestatic 73, 3) := by decide +kernel
theorem dX7_row_14 : decode cX7_row 14 = .ok (.ifCond .eq 5, 3) := by decide +kernel
theorem dX7_row_17 : decode cX7_row 17 = .ok (.iconst (-1), 1) := by decide +kernel
theorem dX7_row_18 : decode cX7_row 18 = .ok (.ireturn, 1) := by decide +kernel
theorem dX7_row_19 : decode cX7_row 19 = .ok (.aload_n 0, 1) := by decide +kernel
theorem dX7_row_20 : decode cX7_row 20 = .ok (.getfield 53, 3) := by decide +kernel
theorem dX7_row_23 : decode cX7_row 23 = .ok (.aload_n 0, 1) := by decide +kernel
theorem dX7_row_24 : decode cX7_row 24 = .ok (.getfield 28, 3) := by decide +kernel
theorem dX7_row_27 : decode cX7_row 27 = .ok (.invokevirtual 183, 3) := by decide +kernel
theorem dX7_row_30 : decode cX7_row 30 = .ok (.iload_n 1, 1) := by decide +kernel
theorem dX7_row_31 : decode cX7_row 31 = .ok (.iconst (-1), 1) := by decide +kernel
theorem dX7_row_32 : decode cX7_row 32 = .ok (.if_icmp .ne 13, 3) := by decide +kernel
theorem dX7_row_35 : decode cX7_row 35 = .ok (.aload_n 0, 1) := by decide +kernel
theorem dX7_row_36 : decode cX7_row 36 = .ok (.getfield 53, 3) := by decide +kernel
theorem dX7_row_39 : decode cX7_row 39 = .ok (.getfield 176, 3) := by decide +kernel
theorem dX7_row_42 : decode cX7_row 42 = .ok (.goto 12, 3) := by decide +kernel
theorem dX7_row_45 : decode cX7_row 45 = .ok (.aload_n 0, 1) := by decide +kernel
theorem dX7_row_46 : decode cX7_row 46 = .ok (.getfield 53, 3) := by decide +kernel
theorem dX7_row_49 : decode cX7_row 49 = .ok (.getfield 180, 3) := by decide +kernel
theorem dX7_row_52 : decode cX7_row 52 = .ok (.iload_n 1, 1) := by decide +kernel
theorem dX7_row_53 : decode cX7_row 53 = .ok (.iaload, 1) := by decide +kernel
theorem dX7_row_54 : decode cX7_row 54 = .ok (.ireturn, 1) := by decide +kernel
def f_X7_row_b54 (M27 : xMem) (t54_0 : Int32) : Option (Int32 × xMem) := some (t54_0, M27)
def f_X7_row (a1 : Int32) (M : xMem) : Option (Int32 × xMem) := xb1 (f_X7_beyond a1 (-1 : Int32) ((M 3 0 0) - (1 : Int32)) M) (fun r11 => (if r11 = (0 : Int32) then xb1 (f_X4_orderScales 0 M) (fun M27 => (if a1 = (-1 : Int32) then (f_X7_row_b54 M27) (M27 5 0 5) else xchk (xb a1 6) ((f_X7_row_b54 M27) (M27 5 4 a1.toNatClampNeg)))) else some ((-1 : Int32), M)))
set_option maxHeartbeats 4000000 in
set_option maxRecDepth 100000 in
theorem w_X7_row_b54 {p : Program} {l : Launch} {e : Env} {s : State} {m : MethodId} {args : Array Value} {below : List Frame} {meth : Method} {c : Code} {G : xG} {rr : Int32} {MM : xMem} (E : xE p s m args meth c cX7_row 2 (some .int) RX7 G) (M : xMem) (L : xLL) (M27 : xMem) : ∀ (t54_0 : Int32), f_X7_row_b54 M27 t54_0 = some (rr, MM) → ∀ (ls : Array Slot), lv_has ls 2 [] → ∀ (H : Heap) (locs : List Loc), xI G M27 L s.heap H locs → W p l e (xR 28) s m args below meth c H locs 0 0 (MQ below (xQi G rr MM L s.heap.size) args s 0 0 (xZ G s.heap.size)) (F0 m 54 ls [.int t54_0]) := by
  have hx := E.1
  have hb := E.2.1
  intro t54_0 hf ls hl H locs hI
  rw [f_X7_row_b54] at hf
  obtain ⟨rfl, rfl⟩ := xinj2 hf
  exact x_iret E hI rfl dX7_row_54
set_option maxHeartbeats 4000000 in
set_option maxRecDepth 100000 in
theorem c_X7_row (l : Launch) (G : xG) (sz : Nat) (M : xMem) (L : xLL) (a1 : Int32) {rr : Int32} {MM : xMem} (hf : f_X7_row a1 M = some (rr, MM)) : Met l yX7_row (Cond.code yX7_row cX7_row 2 (some .int) :: xTB) (xR 28) (xP G M L sz [.ref (xq G 0 0), .int a1]) (xQi G rr MM L sz) 0 0 (xZ G sz) := by
  refine x_met (cc := cX7_row) (nL := 2) (rt := (some .int)) (by decide) (Nat.le_of_ble_eq_true rfl) ?_
  intro p e s m below meth c ls hsz E hl hI
  subst hsz
  have E : xE p s m _ meth c cX7_row 2 (some .int) RX7 G := E
  have hx := E.1
  have hb := E.2.1
  have hl : lv_has ls 2 [(0, .ref (xq G 0 0)), (1, .int a1)] := hl
  rw [f_X7_row] at hf
  refine lv_iload_n hx hb dX7_row_0 rfl (lv_at hl 1 rfl) ?_
  refine lv_iconst (v := -1) hx hb dX7_row_1 (by decide) ?_
  refine lv_aload_n hx hb dX7_row_2 rfl (lv_at hl 0 rfl) ?_
  refine gf_X7_19 E hI dX7_row_3 ?_
  refine gf_X7_162_3 E hI dX7_row_6 ?_
  refine lv_iconst (v := 1) hx hb dX7_row_9 (by decide) ?_
  refine lv_isub hx hb dX7_row_10 ?_
  obtain ⟨r11, g11, hf⟩ := xb1_s hf
  refine x_callSi (As := [.int a1, .int (-1 : Int32), .int ((M 3 0 0) - (1 : Int32))]) (rest := []) E hI (c_X7_beyond l G _ (M := M) (L := L) (a0 := a1) (a1 := (-1 : Int32)) (a2 := ((M 3 0 0) - (1 : Int32))) g11) ys_X7_beyond ml_X7_73 (by decide) (by decide) rfl rfl hl.1 (Nat.le_of_ble_eq_true rfl) dX7_row_11 (fun H locs hI => ?_)
  refine lv_if_eq (tgt := 19) hx hb dX7_row_14 (by decide) (fun c14 => ?_) (fun c14 => ?_)
  · replace hf := xif_t c14 hf
    refine lv_aload_n hx hb dX7_row_19 rfl (lv_at hl 0 rfl) ?_
    refine gf_X7_53 E hI dX7_row_20 ?_
    refine lv_aload_n hx hb dX7_row_23 rfl (lv_at hl 0 rfl) ?_
    refine gf_X7_28 E hI dX7_row_24 ?_
    obtain ⟨M27, g27, hf⟩ := xb1_s hf
    refine x_callVv (As := [.ref (xq G (0 + 9) 0)]) (rest := []) E hI mx_5_0 rfl rfl rfl (c_X4_orderScales l G _ (M := M) (L := L) (j1 := 0) (hj1 := (by decide)) g27) yv_X4_orderScales ml_X7_183 (by decide) (by decide) rfl rfl hl.1 (Nat.le_of_ble_eq_true rfl) dX7_row_27 (fun H locs hI => ?_)
    refine lv_iload_n hx hb dX7_row_30 rfl (lv_at hl 1 rfl) ?_
    refine lv_iconst (v := -1) hx hb dX7_row_31 (by decide) ?_
    refine lv_icmp_ne (tgt := 45) hx hb dX7_row_32 (by decide) (fun c32 => ?_) (fun c32 => ?_)
    · replace hf := xif_f c32 hf
      refine lv_aload_n hx hb dX7_row_45 rfl (lv_at hl 0 rfl) ?_
      refine gf_X7_53 E hI dX7_row_46 ?_
      refine gf_X7_180 E hI dX7_row_49 ?_
      refine lv_iload_n hx hb dX7_row_52 rfl (lv_at hl 1 rfl) ?_
      obtain ⟨h53b, hf⟩ := xchk_s hf
      refine x_iald (n := 6) E hI mx_5_4 (fun _ _ => rfl) h53b dX7_row_53 ?_
      exact (w_X7_row_b54 E (M := M) (L := L) (M27 := M27)) (M27 5 4 a1.toNatClampNeg) hf _ (lv_sub hl [] rfl) _ _ hI
    · replace hf := xif_t c32 hf
      refine lv_aload_n hx hb dX7_row_35 rfl (lv_at hl 0 rfl) ?_
      refine gf_X7_53 E hI dX7_row_36 ?_
      refine gf_X7_176 E hI dX7_row_39 ?_
      refine lv_goto (tgt := 54) hx hb dX7_row_42 (by decide) ?_
      exact (w_X7_row_b54 E (M := M) (L := L) (M27 := M27)) (M27 5 0 5) hf _ (lv_sub hl [] rfl) _ _ hI
  · replace hf := xif_f c14 hf
    refine lv_iconst (v := -1) hx hb dX7_row_17 (by decide) ?_
    obtain ⟨rfl, rfl⟩ := xinj2 hf
    exact x_iret E hI rfl dX7_row_18
