theorem dX8_belongsAs_0 : decode cX8_belongsAs 0 = .ok (.iconst 0, 1) := by decide +kernel
theorem dX8_belongsAs_1 : decode cX8_belongsAs 1 = .ok (.istore_n 2, 1) := by decide +kernel
theorem dX8_belongsAs_2 : decode cX8_belongsAs 2 = .ok (.iload_n 2, 1) := by decide +kernel
theorem dX8_belongsAs_3 : decode cX8_belongsAs 3 = .ok (.aload_n 0, 1) := by decide +kernel
theorem dX8_belongsAs_4 : decode cX8_belongsAs 4 = .ok (.getfield 62, 3) := by decide +kernel
theorem dX8_belongsAs_7 : decode cX8_belongsAs 7 = .ok (.if_icmp .ge 42, 3) := by decide +kernel
theorem dX8_belongsAs_10 : decode cX8_belongsAs 10 = .ok (.aload_n 0, 1) := by decide +kernel
theorem dX8_belongsAs_11 : decode cX8_belongsAs 11 = .ok (.getfield 47, 3) := by decide +kernel
theorem dX8_belongsAs_14 : decode cX8_belongsAs 14 = .ok (.bipush 17, 2) := by decide +kernel
theorem dX8_belongsAs_16 : decode cX8_belongsAs 16 = .ok (.iload_n 2, 1) := by decide +kernel
theorem dX8_belongsAs_17 : decode cX8_belongsAs 17 = .ok (.iadd, 1) := by decide +kernel
theorem dX8_belongsAs_18 : decode cX8_belongsAs 18 = .ok (.iaload, 1) := by decide +kernel
theorem dX8_belongsAs_19 : decode cX8_belongsAs 19 = .ok (.istore_n 3, 1) := by decide +kernel
theorem dX8_belongsAs_20 : decode cX8_belongsAs 20 = .ok (.aload_n 0, 1) := by decide +kernel
theorem dX8_belongsAs_21 : decode cX8_belongsAs 21 = .ok (.getfield 47, 3) := by decide +kernel
theorem dX8_belongsAs_24 : decode cX8_belongsAs 24 = .ok (.bipush 12, 2) := by decide +kernel
theorem dX8_belongsAs_26 : decode cX8_belongsAs 26 = .ok (.iload_n 3, 1) := by decide +kernel
theorem dX8_belongsAs_27 : decode cX8_belongsAs 27 = .ok (.iadd, 1) := by decide +kernel
theorem dX8_belongsAs_28 : decode cX8_belongsAs 28 = .ok (.iaload, 1) := by decide +kernel
theorem dX8_belongsAs_29 : decode cX8_belongsAs 29 = .ok (.aload_n 0, 1) := by decide +kernel
theorem dX8_belongsAs_30 : decode cX8_belongsAs 30 = .ok (.getfield 47, 3) := by decide +kernel
theorem dX8_belongsAs_33 : decode cX8_belongsAs 33 = .ok (.bipush 6, 2) := by decide +kernel
theorem dX8_belongsAs_35 : decode cX8_belongsAs 35 = .ok (.iload_n 1, 1) := by decide +kernel
theorem dX8_belongsAs_36 : decode cX8_belongsAs 36 = .ok (.iadd, 1) := by decide +kernel
theorem dX8_belongsAs_37 : decode cX8_belongsAs 37 = .ok (.iaload, 1) := by decide +kernel
theorem dX8_belongsAs_38 : decode cX8_belongsAs 38 = .ok (.if_icmp .gt 5, 3) := by decide +kernel
theorem dX8_belongsAs_41 : decode cX8_belongsAs 41 = .ok (.iload_n 3, 1) := by decide +kernel
theorem dX8_belongsAs_42 : decode cX8_belongsAs 42 = .ok (.ireturn, 1) := by decide +kernel
theorem dX8_belongsAs_43 : decode cX8_belongsAs 43 = .ok (.iinc 2 1, 3) := by decide +kernel
theorem dX8_belongsAs_46 : decode cX8_belongsAs 46 = .ok (.goto (-44), 3) := by decide +kernel
theorem dX8_belongsAs_49 : decode cX8_belongsAs 49 = .ok (.bipush (-9), 2) := by decide +kernel
theorem dX8_belongsAs_51 : decode cX8_belongsAs 51 = .ok (.ireturn, 1) := by decide +kernel
def f_X8_belongsAs_l2 (a1 : Int32) (M : xMem) : Nat → Int32 → Option (Int32)
  | 0, _ => none
  | n + 1, v2_2 => (if (M 8 0 0) ≤ v2_2 then some (-9 : Int32) else xchk (xb ((17 : Int32) + v2_2) 27) (xchk (xb ((12 : Int32) + (M 8 27 ((17 : Int32) + v2_2).toNatClampNeg)) 27) (xchk (xb ((6 : Int32) + a1) 27) ((if (M 8 27 ((6 : Int32) + a1).toNatClampNeg) < (M 8 27 ((12 : Int32) + (M 8 27 ((17 : Int32) + v2_2).toNatClampNeg)).toNatClampNeg) then (f_X8_belongsAs_l2 a1 M n) (v2_2 + (1 : Int32)) else some (M 8 27 ((17 : Int32) + v2_2).toNatClampNeg))))))
def f_X8_belongsAs (a1 : Int32) (M : xMem) : Option (Int32) := (f_X8_belongsAs_l2 a1 M FU) (0 : Int32)
set_option maxHeartbeats 4000000 in
set_option maxRecDepth 100000 in
theorem w_X8_belongsAs_l2 {p : Program} {l : Launch} {e : Env} {s : State} {m : MethodId} {args : Array Value} {below : List Frame} {meth : Method} {c : Code} {G : xG} {rr : Int32} (E : xE p s m args meth c cX8_belongsAs 4 (some .int) RX8 G) (a1 : Int32) (M : xMem) (L : xLL) : ∀ (n : Nat), ∀ (v2_2 : Int32), f_X8_belongsAs_l2 a1 M n v2_2 = some rr → ∀ (ls : Array Slot), lv_has ls 4 [(0, .ref (xq G 8 0)), (1, .int a1), (2, .int v2_2)] → ∀ (H : Heap) (locs : List Loc), xI G M L s.heap H locs → W p l e (xR 1) s m args below meth c H locs 0 0 (MQ below (xQi G rr M L s.heap.size) args s 0 0 (xZ G s.heap.size)) (F0 m 2 ls []) := by
  have hx := E.1
  have hb := E.2.1
  intro n
  induction n with
  | zero =>
    intro v2_2 hf
    exact absurd hf (by simp [f_X8_belongsAs_l2])
  | succ n ih =>
    intro v2_2 hf ls hl H locs hI
    rw [f_X8_belongsAs_l2] at hf
    refine lv_iload_n hx hb dX8_belongsAs_2 rfl (lv_at hl 2 rfl) ?_
    refine lv_aload_n hx hb dX8_belongsAs_3 rfl (lv_at hl 0 rfl) ?_
    refine gf_X8_62 E hI dX8_belongsAs_4 ?_
    refine lv_icmp_ge (tgt := 49) hx hb dX8_belongsAs_7 (by decide) (fun c7 => ?_) (fun c7 => ?_)
    · replace hf := xif_t c7 hf
      refine lv_bipush (v := -9) hx hb dX8_belongsAs_49 (by decide) ?_
      obtain rfl := xinj1 hf
      exact x_iret E hI rfl dX8_belongsAs_51
    · replace hf := xif_f c7 hf
      refine lv_aload_n hx hb dX8_belongsAs_10 rfl (lv_at hl 0 rfl) ?_
      refine gf_X8_47 E hI dX8_belongsAs_11 ?_
      refine lv_bipush (v := 17) hx hb dX8_belongsAs_14 (by decide) ?_
      refine lv_iload_n hx hb dX8_belongsAs_16 rfl (lv_at hl 2 rfl) ?_
      refine lv_iadd hx hb dX8_belongsAs_17 ?_
      obtain ⟨h18b, hf⟩ := xchk_s hf
      refine x_iald (n := 27) E hI mx_8_27 (fun _ _ => rfl) h18b dX8_belongsAs_18 ?_
      refine lv_istore_n (lv' := [(3, .int (M 8 27 ((17 : Int32) + v2_2).toNatClampNeg)), (0, .ref (xq G 8 0)), (1, .int a1), (2, .int v2_2)]) hx hb dX8_belongsAs_19 rfl hl (by decide) rfl (fun ls hl => ?_)
      refine lv_aload_n hx hb dX8_belongsAs_20 rfl (lv_at hl 1 rfl) ?_
      refine gf_X8_47 E hI dX8_belongsAs_21 ?_
      refine lv_bipush (v := 12) hx hb dX8_belongsAs_24 (by decide) ?_
      refine lv_iload_n hx hb dX8_belongsAs_26 rfl (lv_at hl 0 rfl) ?_
      refine lv_iadd hx hb dX8_belongsAs_27 ?_
      obtain ⟨h28b, hf⟩ := xchk_s hf
      refine x_iald (n := 27) E hI mx_8_27 (fun _ _ => rfl) h28b dX8_belongsAs_28 ?_
      refine lv_aload_n hx hb dX8_belongsAs_29 rfl (lv_at hl 1 rfl) ?_
      refine gf_X8_47 E hI dX8_belongsAs_30 ?_
      refine lv_bipush (v := 6) hx hb dX8_belongsAs_33 (by decide) ?_
      refine lv_iload_n hx hb dX8_belongsAs_35 rfl (lv_at hl 2 rfl) ?_
      refine lv_iadd hx hb dX8_belongsAs_36 ?_
      obtain ⟨h37b, hf⟩ := xchk_s hf
      refine x_iald (n := 27) E hI mx_8_27 (fun _ _ => rfl) h37b dX8_belongsAs_37 ?_
      refine lv_icmp_gt (tgt := 43) hx hb dX8_belongsAs_38 (by decide) (fun c38 => ?_) (fun c38 => ?_)
      · replace hf := xif_t c38 hf
        refine lv_iinc (v := (v2_2 + (1 : Int32))) (lv' := [(2, .int (v2_2 + (1 : Int32))), (3, .int (M 8 27 ((17 : Int32) + v2_2).toNatClampNeg)), (0, .ref (xq G 8 0)), (1, .int a1)]) hx hb dX8_belongsAs_43 hl (k := 3) rfl rfl (by decide) rfl (fun ls hl => ?_)
        refine lv_goto (tgt := 2) hx hb dX8_belongsAs_46 (by decide) ?_
        exact ih (v2_2 + (1 : Int32)) hf _ (lv_sub hl [2, 3, 0] rfl) _ _ hI
      · replace hf := xif_f c38 hf
        refine lv_iload_n hx hb dX8_belongsAs_41 rfl (lv_at hl 0 rfl) ?_
        obtain rfl := xinj1 hf
        exact x_iret E hI rfl dX8_belongsAs_42
set_option maxHeartbeats 4000000 in
set_option maxRecDepth 100000 in
theorem c_X8_belongsAs (l : Launch) (G : xG) (sz : Nat) (M : xMem) (L : xLL) (a1 : Int32) {rr : Int32} (hf : f_X8_belongsAs a1 M = some rr) : Met l yX8_belongsAs (Cond.code yX8_belongsAs cX8_belongsAs 4 (some .int) :: xTB) (xR 1) (xP G M L sz [.ref (xq G 8 0), .int a1]) (xQi G rr M L sz) 0 0 (xZ G sz) := by
  refine x_met (cc := cX8_belongsAs) (nL := 4) (rt := (some .int)) (by decide) (Nat.le_of_ble_eq_true rfl) ?_
  intro p e s m below meth c ls hsz E hl hI
  subst hsz
  have E : xE p s m _ meth c cX8_belongsAs 4 (some .int) RX8 G := E
  have hx := E.1
  have hb := E.2.1
  have hl : lv_has ls 4 [(0, .ref (xq G 8 0)), (1, .int a1)] := hl
  rw [f_X8_belongsAs] at hf
  refine lv_iconst (v := 0) hx hb dX8_belongsAs_0 (by decide) ?_
  refine lv_istore_n (lv' := [(2, .int (0 : Int32)), (0, .ref (xq G 8 0)), (1, .int a1)]) hx hb dX8_belongsAs_1 rfl hl (by decide) rfl (fun ls hl => ?_)
  exact (w_X8_belongsAs_l2 E (a1 := a1) (M := M) (L := L) FU) (0 : Int32) hf _ (lv_sub hl [1, 2, 0] rfl) _ _ hI
theorem dX8_right_0 : decode cX8_right 0 = .ok (.iconst 0, 1) := by decide +kernel
theorem dX8_right_1 : decode cX8_right 1 = .ok (.istore_n 1, 1) := by decide +kernel
theorem dX8_right_2 : decode cX8_right 2 = .ok (.iconst 0, 1) := by decide +kernel
theorem dX8_right_3 : decode cX8_right 3 = .ok (.istore_n 2, 1) := by decide +kernel
theorem dX8_right_4 : decode cX8_right 4 = .ok (.iload_n 2, 1) := by decide +kernel
theorem dX8_right_5 : decode cX8_right 5 = .ok (.aload_n 0, 1) := by decide +kernel
theorem dX8_right_6 : decode cX8_right 6 = .ok (.getfield 70, 3) := by decide +kernel
theorem dX8_right_9 : decode cX8_right 9 = .ok (.if_icmp .ge 48, 3) := by decide +kernel
theorem dX8_right_12 : decode cX8_right 12 = .ok (.aload_n 0, 1) := by decide +kernel
theorem dX8_right_13 : decode cX8_right 13 = .ok (.iload_n 2, 1) := by decide +kernel
theorem dX8_right_14 : decode cX8_right 14 = .ok (.invokevirtual 150, 3) := by decide +kernel
theorem dX8_right_17 : decode cX8_right 17 = .ok (.istore_n 3, 1) := by decide +kernel
theorem dX8_right_18 : decode cX8_right 18 = .ok (.iload_n 1, 1) := by decide +kernel
theorem dX8_right_19 : decode cX8_right 19 = .ok (.aload_n 0, 1) := by decide +kernel
theorem dX8_right_20 : decode cX8_right 20 = .ok (.getfield 47, 3) := by decide +kernel
theorem dX8_right_23 : decode cX8_right 23 = .ok (.iconst 0, 1) := by decide +kernel
theorem dX8_right_24 : decode cX8_right 24 = .ok (.iload_n 2, 1) := by decide +kernel
theorem dX8_right_25 : decode cX8_right 25 = .ok (.iadd, 1) := by decide +kernel
theorem dX8_right_26 : decode cX8_right 26 = .ok (.iaload, 1) := by decide +kernel
theorem dX8_right_27 : decode cX8_right 27 = .ok (.iload_n 3, 1) := by decide +kernel
theorem dX8_right_28 : decode cX8_right 28 = .ok (.ifCond .ge 8, 3) := by decide +kernel
theorem dX8_right_31 : decode cX8_right 31 = .ok (.bipush 8, 2) := by decide +kernel
theorem dX8_right_33 : decode cX8_right 33 = .ok (.goto 6, 3) := by decide +kernel
theorem dX8_right_36 : decode cX8_right 36 = .ok (.iconst 1, 1) := by decide +kernel
theorem dX8_right_37 : decode cX8_right 37 = .ok (.iload_n 3, 1) := by decide +kernel
theorem dX8_right_38 : decode cX8_right 38 = .ok (.iadd, 1) := by decide +kernel
theorem dX8_right_39 : decode cX8_right 39 = .ok (.if_icmp .ne 9, 3) := by decide +kernel
theorem dX8_right_42 : decode cX8_right 42 = .ok (.iconst 1, 1) := by decide +kernel
theorem dX8_right_43 : decode cX8_right 43 = .ok (.iload_n 2, 1) := by decide +kernel
theorem dX8_right_44 : decode cX8_right 44 = .ok (.ishl, 1) := by decide +kernel
theorem dX8_right_45 : decode cX8_right 45 = .ok (.goto 4, 3) := by decide +kernel
theorem dX8_right_48 : decode cX8_right 48 = .ok (.iconst 0, 1) := by decide +kernel
theorem dX8_right_49 : decode cX8_right 49 = .ok (.ior, 1) := by decide +kernel
theorem dX8_right_50 : decode cX8_right 50 = .ok (.istore_n 1, 1) := by decide +kernel
theorem dX8_right_51 : decode cX8_right 51 = .ok (.iinc 2 1, 3) := by decide +kernel
theorem dX8_right_54 : decode cX8_right 54 = .ok (.goto (-50), 3) := by decide +kernel
theorem dX8_right_57 : decode cX8_right 57 = .ok (.iload_n 1, 1) := by decide +kernel
theorem dX8_right_58 : decode cX8_right 58 = .ok (.ireturn, 1) := by decide +kernel
def f_X8_right_b49 (v4_1 : Int32) (v4_2 : Int32) (k4 : Int32 → Int32 → Option (Int32)) (t49_0 : Int32) : Option (Int32) := k4 (v4_1 ||| t49_0) (v4_2 + (1 : Int32))
def f_X8_right_b39 (M : xMem) (v4_1 : Int32) (v4_2 : Int32) (k4 : Int32 → Int32 → Option (Int32)) (t39_0 : Int32) : Option (Int32) := (if (M 8 27 ((0 : Int32) + v4_2).toNatClampNeg) = t39_0 then (f_X8_right_b49 v4_1 v4_2 k4) ((1 : Int32) <<< (v4_2 &&& 31)) else (f_X8_right_b49 v4_1 v4_2 k4) (0 : Int32))
def f_X8_right_l4 (M : xMem) : Nat → Int32 → Int32 → Option (Int32)
  | 0, _, _ => none
  | n + 1, v4_1, v4_2 => (if (M 8 0 4) ≤ v4_2 then some v4_1 else xb1 (f_X8_belongsAs v4_2 M) (fun r14 => xchk (xb ((0 : Int32) + v4_2) 27) ((if (0 : Int32) ≤ r14 then (f_X8_right_b39 M v4_1 v4_2 (f_X8_right_l4 M n)) ((1 : Int32) + r14) else (f_X8_right_b39 M v4_1 v4_2 (f_X8_right_l4 M n)) (8 : Int32)))))
def f_X8_right (M : xMem) : Option (Int32) := (f_X8_right_l4 M FU) (0 : Int32) (0 : Int32)
set_option maxHeartbeats 4000000 in
set_option maxRecDepth 100000 in
theorem w_X8_right_b49 {p : Program} {l : Launch} {e : Env} {s : State} {m : MethodId} {args : Array Value} {below : List Frame} {meth : Method} {c : Code} {G : xG} {rr : Int32} (E : xE p s m args meth c cX8_right 4 (some .int) RX8 G) (M : xMem) (L : xLL) (v4_1 : Int32) (v4_2 : Int32) (k4 : Int32 → Int32 → Option (Int32)) (hk4 : ∀ (v4_1 : Int32) (v4_2 : Int32), k4 v4_1 v4_2 = some rr → ∀ (ls : Array Slot), lv_has ls 4 [(0, .ref (xq G 8 0)), (1, .int v4_1), (2, .int v4_2)] → ∀ (H : Heap) (locs : List Loc), xI G M L s.heap H locs → W p l e (xR 2) s m args below meth c H locs 0 0 (MQ below (xQi G rr M L s.heap.size) args s 0 0 (xZ G s.heap.size)) (F0 m 4 ls [])) : ∀ (t49_0 : Int32), f_X8_right_b49 v4_1 v4_2 k4 t49_0 = some rr → ∀ (ls : Array Slot), lv_has ls 4 [(0, .ref (xq G 8 0)), (2, .int v4_2)] → ∀ (H : Heap) (locs : List Loc), xI G M L s.heap H locs → W p l e (xR 2) s m args below meth c H locs 0 0 (MQ below (xQi G rr M L s.heap.size) args s 0 0 (xZ G s.heap.size)) (F0 m 49 ls [.int t49_0, .int v4_1]) := by
  have hx := E.1
  have hb := E.2.1
  intro t49_0 hf ls hl H locs hI
  rw [f_X8_right_b49] at hf
  refine lv_ior hx hb dX8_right_49 ?_
  refine lv_istore_n (lv' := [(1, .int (v4_1 ||| t49_0)), (0, .ref (xq G 8 0)), (2, .int v4_2)]) hx hb dX8_right_50 rfl hl (by decide) rfl (fun ls hl => ?_)
  refine lv_iinc (v := (v4_2 + (1 : Int32))) (lv' := [(2, .int (v4_2 + (1 : Int32))), (1, .int (v4_1 ||| t49_0)), (0, .ref (xq G 8 0))]) hx hb dX8_right_51 hl (k := 2) rfl rfl (by decide) rfl (fun ls hl => ?_)
  refine lv_goto (tgt := 4) hx hb dX8_right_54 (by decide) ?_
  exact hk4 (v4_1 ||| t49_0) (v4_2 + (1 : Int32)) hf _ (lv_sub hl [2, 1, 0] rfl) _ _ hI
set_option maxHeartbeats 4000000 in
set_option maxRecDepth 100000 in
theorem w_X8_right_b39 {p : Program} {l : Launch} {e : Env} {s : State} {m : MethodId} {args : Array Value} {below : List Frame} {meth : Method} {c : Code} {G : xG} {rr : Int32} (E : xE p s m args meth c cX8_right 4 (some .int) RX8 G) (M : xMem) (L : xLL) (v4_1 : Int32) (v4_2 : Int32) (k4 : Int32 → Int32 → Option (Int32)) (hk4 : ∀ (v4_1 : Int32) (v4_2 : Int32), k4 v4_1 v4_2 = some rr → ∀ (ls : Array Slot), lv_has ls 4 [(0, .ref (xq G 8 0)), (1, .int v4_1), (2, .int v4_2)] → ∀ (H : Heap) (locs : List Loc), xI G M L s.heap H locs → W p l e (xR 2) s m args below meth c H locs 0 0 (MQ below (xQi G rr M L s.heap.size) args s 0 0 (xZ G s.heap.size)) (F0 m 4 ls [])) : ∀ (t39_0 : Int32), f_X8_right_b39 M v4_1 v4_2 k4 t39_0 = some rr → ∀ (ls : Array Slot), lv_has ls 4 [(0, .ref (xq G 8 0)), (2, .int v4_2)] → ∀ (H : Heap) (locs : List Loc), xI G M L s.heap H locs → W p l e (xR 2) s m args below meth c H locs 0 0 (MQ below (xQi G rr M L s.heap.size) args s 0 0 (xZ G s.heap.size)) (F0 m 39 ls [.int t39_0, .int (M 8 27 ((0 : Int32) + v4_2).toNatClampNeg), .int v4_1]) := by
  have hx := E.1
  have hb := E.2.1
  intro t39_0 hf ls hl H locs hI
  rw [f_X8_right_b39] at hf
  refine lv_icmp_ne (tgt := 48) hx hb dX8_right_39 (by decide) (fun c39 => ?_) (fun c39 => ?_)
  · replace hf := xif_f c39 hf
    refine lv_iconst (v := 0) hx hb dX8_right_48 (by decide) ?_
    exact (w_X8_right_b49 E (M := M) (L := L) (v4_1 := v4_1) (v4_2 := v4_2) (k4 := k4) (hk4 := hk4)) (0 : Int32) hf _ (lv_sub hl [0, 1] rfl) _ _ hI
  · replace hf := xif_t c39 hf
    refine lv_iconst (v := 1) hx hb dX8_right_42 (by decide) ?_
    refine lv_iload_n hx hb dX8_right_43 rfl (lv_at hl 1 rfl) ?_
    refine lv_ishl hx hb dX8_right_44 ?_
    refine lv_goto (tgt := 49) hx hb dX8_right_45 (by decide) ?_
    exact (w_X8_right_b49 E (M := M) (L := L) (v4_1 := v4_1) (v4_2 := v4_2) (k4 := k4) (hk4 := hk4)) ((1 : Int32) <<< (v4_2 &&& 31)) hf _ (lv_sub hl [0, 1] rfl) _ _ hI
set_option maxHeartbeats 4000000 in
set_option maxRecDepth 100000 in
theorem w_X8_right_l4 {p : Program} {l : Launch} {e : Env} {s : State} {m : MethodId} {args : Array Value} {below : List Frame} {meth : Method} {c : Code} {G : xG} {rr : Int32} (E : xE p s m args meth c cX8_right 4 (some .int) RX8 G) (M : xMem) (L : xLL) : ∀ (n : Nat), ∀ (v4_1 : Int32) (v4_2 : Int32), f_X8_right_l4 M n v4_1 v4_2 = some rr → ∀ (ls : Array Slot), lv_has ls 4 [(0, .ref (xq G 8 0)), (1, .int v4_1), (2, .int v4_2)] → ∀ (H : Heap) (locs : List Loc), xI G M L s.heap H locs → W p l e (xR 2) s m args below meth c H locs 0 0 (MQ below (xQi G rr M L s.heap.size) args s 0 0 (xZ G s.heap.size)) (F0 m 4 ls []) := by
  have hx := E.1
  have hb := E.2.1
  intro n
  induction n with
  | zero =>
    intro v4_1 v4_2 hf
    exact absurd hf (by simp [f_X8_right_l4])
  | succ n ih =>
    intro v4_1 v4_2 hf ls hl H locs hI
    rw [f_X8_right_l4] at hf
    refine lv_iload_n hx hb dX8_right_4 rfl (lv_at hl 2 rfl) ?_
    refine lv_aload_n hx hb dX8_right_5 rfl (lv_at hl 0 rfl) ?_
    refine gf_X8_70 E hI dX8_right_6 ?_
    refine lv_icmp_ge (tgt := 57) hx hb dX8_right_9 (by decide) (fun c9 => ?_) (fun c9 => ?_)
    · replace hf := xif_t c9 hf
      refine lv_iload_n hx hb dX8_right_57 rfl (lv_at hl 1 rfl) ?_
      obtain rfl := xinj1 hf
      exact x_iret E hI rfl dX8_right_58
    · replace hf := xif_f c9 hf
      refine lv_aload_n hx hb dX8_right_12 rfl (lv_at hl 0 rfl) ?_
      refine lv_iload_n hx hb dX8_right_13 rfl (lv_at hl 2 rfl) ?_
      obtain ⟨r14, g14, hf⟩ := xb1_s hf
      refine x_callVi (As := [.int v4_2]) (rest := []) E hI mx_8_0 rfl rfl rfl (c_X8_belongsAs l G _ (M := M) (L := L) (a1 := v4_2) g14) yv_X8_belongsAs ml_X8_150 (by decide) (by decide) rfl rfl hl.1 (Nat.le_of_ble_eq_true rfl) dX8_right_14 (fun H locs hI => ?_)
      refine lv_istore_n (lv' := [(3, .int r14), (0, .ref (xq G 8 0)), (1, .int v4_1), (2, .int v4_2)]) hx hb dX8_right_17 rfl hl (by decide) rfl (fun ls hl => ?_)
      refine lv_iload_n hx hb dX8_right_18 rfl (lv_at hl 2 rfl) ?_
      refine lv_aload_n hx hb dX8_right_19 rfl (lv_at hl 1 rfl) ?_
      refine gf_X8_47 E hI dX8_right_20 ?_
      refine lv_iconst (v := 0) hx hb dX8_right_23 (by decide) ?_
      refine lv_iload_n hx hb dX8_right_24 rfl (lv_at hl 3 rfl) ?_
      refine lv_iadd hx hb dX8_right_25 ?_
      obtain ⟨h26b, hf⟩ := xchk_s hf
      refine x_iald (n := 27) E hI mx_8_27 (fun _ _ => rfl) h26b dX8_right_26 ?_
      refine lv_iload_n hx hb dX8_right_27 rfl (lv_at hl 0 rfl) ?_
      refine lv_if_ge (tgt := 36) hx hb dX8_right_28 (by decide) (fun c28 => ?_) (fun c28 => ?_)
      · replace hf := xif_t c28 hf
        refine lv_iconst (v := 1) hx hb dX8_right_36 (by decide) ?_
        refine lv_iload_n hx hb dX8_right_37 rfl (lv_at hl 0 rfl) ?_
        refine lv_iadd hx hb dX8_right_38 ?_
        exact (w_X8_right_b39 E (M := M) (L := L) (v4_1 := v4_1) (v4_2 := v4_2) (k4 := (f_X8_right_l4 M n)) (hk4 := ih)) ((1 : Int32) + r14) hf _ (lv_sub hl [1, 3] rfl) _ _ hI
      · replace hf := xif_f c28 hf
        refine lv_bipush (v := 8) hx hb dX8_right_31 (by decide) ?_
        refine lv_goto (tgt := 39) hx hb dX8_right_33 (by decide) ?_
        exact (w_X8_right_b39 E (M := M) (L := L) (v4_1 := v4_1) (v4_2 := v4_2) (k4 := (f_X8_right_l4 M n)) (hk4 := ih)) (8 : Int32) hf _ (lv_sub hl [1, 3] rfl) _ _ hI
set_option maxHeartbeats 4000000 in
set_option maxRecDepth 100000 in
theorem c_X8_right (l : Launch) (G : xG) (sz : Nat) (M : xMem) (L : xLL) {rr : Int32} (hf : f_X8_right M = some rr) : Met l yX8_right (Cond.code yX8_right cX8_right 4 (some .int) :: xTB) (xR 2) (xP G M L sz [.ref (xq G 8 0)]) (xQi G rr M L sz) 0 0 (xZ G sz) := by
  refine x_met (cc := cX8_right) (nL := 4) (rt := (some .int)) (by decide) (Nat.le_of_ble_eq_true rfl) ?_
  intro p e s m below meth c ls hsz E hl hI
  subst hsz
  have E : xE p s m _ meth c cX8_right 4 (some .int) RX8 G := E
  have hx := E.1
  have hb := E.2.1
  have hl : lv_has ls 4 [(0, .ref (xq G 8 0))] := hl
  rw [f_X8_right] at hf
  refine lv_iconst (v := 0) hx hb dX8_right_0 (by decide) ?_
  refine lv_istore_n (lv' := [(1, .int (0 : Int32)), (0, .ref (xq G 8 0))]) hx hb dX8_right_1 rfl hl (by decide) rfl (fun ls hl => ?_)
  refine lv_iconst (v := 0) hx hb dX8_right_2 (by decide) ?_
  refine lv_istore_n (lv' := [(2, .int (0 : Int32)), (1, .int (0 : Int32)), (0, .ref (xq G 8 0))]) hx hb dX8_right_3 rfl hl (by decide) rfl (fun ls hl => ?_)
  exact (w_X8_right_l4 E (M := M) (L := L) FU) (0 : Int32) (0 : Int32) hf _ (lv_sub hl [2, 1, 0] rfl) _ _ hI
theorem dX8_fellAll_0 : decode cX8_fellAll 0 = .ok (.iconst 0, 1) := by decide +kernel
theorem dX8_fellAll_1 : decode cX8_fellAll 1 = .ok (.istore_n 1, 1) := by decide +kernel
theorem dX8_fellAll_2 : decode cX8_fellAll 2 = .ok (.iconst 0, 1) := by decide +kernel
theorem dX8_fellAll_3 : decode cX8_fellAll 3 = .ok (.istore_n 2, 1) := by decide +kernel
theorem dX8_fellAll_4 : decode cX8_fellAll 4 = .ok (.iload_n 2, 1) := by decide +kernel
theorem dX8_fellAll_5 : decode cX8_fellAll 5 = .ok (.aload_n 0, 1) := by decide +kernel
theorem dX8_fellAll_6 : decode cX8_fellAll 6 = .ok (.getfield 62, 3) := by decide +kernel
theorem dX8_fellAll_9 : decode cX8_fellAll 9 = .ok (.if_icmp .ge 21, 3) := by decide +kernel
theorem dX8_fellAll_12 : decode cX8_fellAll 12 = .ok (.iload_n 1, 1) := by decide +kernel
theorem dX8_fellAll_13 : decode cX8_fellAll 13 = .ok (.aload_n 0, 1) := by decide +kernel
theorem dX8_fellAll_14 : decode cX8_fellAll 14 = .ok (.getfield 47, 3) := by decide +kernel
theorem dX8_fellAll_17 : decode cX8_fellAll 17 = .ok (.bipush 22, 2) := by decide +kernel
theorem dX8_fellAll_19 : decode cX8_fellAll 19 = .ok (.iload_n 2, 1) := by decide +kernel
theorem dX8_fellAll_20 : decode cX8_fellAll 20 = .ok (.iadd, 1) := by decide +kernel
theorem dX8_fellAll_21 : decode cX8_fellAll 21 = .ok (.iaload, 1) := by decide +kernel
theorem dX8_fellAll_22 : decode cX8_fellAll 22 = .ok (.iadd, 1) := by decide +kernel
theorem dX8_fellAll_23 : decode cX8_fellAll 23 = .ok (.istore_n 1, 1) := by decide +kernel
theorem dX8_fellAll_24 : decode cX8_fellAll 24 = .ok (.iinc 2 1, 3) := by decide +kernel
theorem dX8_fellAll_27 : decode cX8_fellAll 27 = .ok (.goto (-23), 3) := by decide +kernel
theorem dX8_fellAll_30 : decode cX8_fellAll 30 = .ok (.iload_n 1, 1) := by decide +kernel
theorem dX8_fellAll_31 : decode cX8_fellAll 31 = .ok (.ireturn, 1) := by decide +kernel
def f_X8_fellAll_l4 (M : xMem) : Nat → Int32 → Int32 → Option (Int32)
  | 0, _, _ => none
  | n + 1, v4_1, v4_2 => (if (M 8 0 0) ≤ v4_2 then some v4_1 else xchk (xb ((22 : Int32) + v4_2) 27) ((f_X8_fellAll_l4 M n) (v4_1 + (M 8 27 ((22 : Int32) + v4_2).toNatClampNeg)) (v4_2 + (1 : Int32))))
def f_X8_fellAll (M : xMem) : Option (Int32) := (f_X8_fellAll_l4 M FU) (0 : Int32) (0 : Int32)
set_option maxHeartbeats 4000000 in
set_option maxRecDepth 100000 in
theorem w_X8_fellAll_l4 {p : Program} {l : Launch} {e : Env} {s : State} {m : MethodId} {args : Array Value} {below : List Frame} {meth : Method} {c : Code} {G : xG} {rr : Int32} (E : xE p s m args meth c cX8_fellAll 3 (some .int) RX8 G) (M : xMem) (L : xLL) : ∀ (n : Nat), ∀ (v4_1 : Int32) (v4_2 : Int32), f_X8_fellAll_l4 M n v4_1 v4_2 = some rr → ∀ (ls : Array Slot), lv_has ls 3 [(0, .ref (xq G 8 0)), (1, .int v4_1), (2, .int v4_2)] → ∀ (H : Heap) (locs : List Loc), xI G M L s.heap H locs → W p l e (xR 1) s m args below meth c H locs 0 0 (MQ below (xQi G rr M L s.heap.size) args s 0 0 (xZ G s.heap.size)) (F0 m 4 ls []) := by
  have hx := E.1
  have hb := E.2.1
  intro n
  induction n with
  | zero =>
    intro v4_1 v4_2 hf
    exact absurd hf (by simp [f_X8_fellAll_l4])
  | succ n ih =>
    intro v4_1 v4_2 hf ls hl H locs hI
    rw [f_X8_fellAll_l4] at hf
    refine lv_iload_n hx hb dX8_fellAll_4 rfl (lv_at hl 2 rfl) ?_
    refine lv_aload_n hx hb dX8_fellAll_5 rfl (lv_at hl 0 rfl) ?_
    refine gf_X8_62 E hI dX8_fellAll_6 ?_
    refine lv_icmp_ge (tgt := 30) hx hb dX8_fellAll_9 (by decide) (fun c9 => ?_) (fun c9 => ?_)
    · replace hf := xif_t c9 hf
      refine lv_iload_n hx hb dX8_fellAll_30 rfl (lv_at hl 1 rfl) ?_
      obtain rfl := xinj1 hf
      exact x_iret E hI rfl dX8_fellAll_31
    · replace hf := xif_f c9 hf
      refine lv_iload_n hx hb dX8_fellAll_12 rfl (lv_at hl 1 rfl) ?_
      refine lv_aload_n hx hb dX8_fellAll_13 rfl (lv_at hl 0 rfl) ?_
      refine gf_X8_47 E hI dX8_fellAll_14 ?_
      refine lv_bipush (v := 22) hx hb dX8_fellAll_17 (by decide) ?_
      refine lv_iload_n hx hb dX8_fellAll_19 rfl (lv_at hl 2 rfl) ?_
      refine lv_iadd hx hb dX8_fellAll_20 ?_
      obtain ⟨h21b, hf⟩ := xchk_s hf
      refine x_iald (n := 27) E hI mx_8_27 (fun _ _ => rfl) h21b dX8_fellAll_21 ?_
      refine lv_iadd hx hb dX8_fellAll_22 ?_
      refine lv_istore_n (lv' := [(1, .int (v4_1 + (M 8 27 ((22 : Int32) + v4_2).toNatClampNeg))), (0, .ref (xq G 8 0)), (2, .int v4_2)]) hx hb dX8_fellAll_23 rfl hl (by decide) rfl (fun ls hl => ?_)
      refine lv_iinc (v := (v4_2 + (1 : Int32))) (lv' := [(2, .int (v4_2 + (1 : Int32))), (1, .int (v4_1 + (M 8 27 ((22 : Int32) + v4_2).toNatClampNeg))), (0, .ref (xq G 8 0))]) hx hb dX8_fellAll_24 hl (k := 2) rfl rfl (by decide) rfl (fun ls hl => ?_)
      refine lv_goto (tgt := 4) hx hb dX8_fellAll_27 (by decide) ?_
      exact ih (v4_1 + (M 8 27 ((22 : Int32) + v4_2).toNatClampNeg)) (v4_2 + (1 : Int32)) hf _ (lv_sub hl [2, 1, 0] rfl) _ _ hI
set_option maxHeartbeats 4000000 in
set_option maxRecDepth 100000 in
theorem c_X8_fellAll (l : Launch) (G : xG) (sz : Nat) (M : xMem) (L : xLL) {rr : Int32} (hf : f_X8_fellAll M = some rr) : Met l yX8_fellAll (Cond.code yX8_fellAll cX8_fellAll 3 (some .int) :: xTB) (xR 1) (xP G M L sz [.ref (xq G 8 0)]) (xQi G rr M L sz) 0 0 (xZ G sz) := by
  refine x_met (cc := cX8_fellAll) (nL := 3) (rt := (some .int)) (by decide) (Nat.le_of_ble_eq_true rfl) ?_
  intro p e s m below meth c ls hsz E hl hI
  subst hsz
  have E : xE p s m _ meth c cX8_fellAll 3 (some .int) RX8 G := E
  have hx := E.1
  have hb := E.2.1
  have hl : lv_has ls 3 [(0, .ref (xq G 8 0))] := hl
  rw [f_X8_fellAll] at hf
  refine lv_iconst (v := 0) hx hb dX8_fellAll_0 (by decide) ?_
  refine lv_istore_n (lv' := [(1, .int (0 : Int32)), (0, .ref (xq G 8 0))]) hx hb dX8_fellAll_1 rfl hl (by decide) rfl (fun ls hl => ?_)
  refine lv_iconst (v := 0) hx hb dX8_fellAll_2 (by decide) ?_
  refine lv_istore_n (lv' := [(2, .int (0 : Int32)), (1, .int (0 : Int32)), (0, .ref (xq G 8 0))]) hx hb dX8_fellAll_3 rfl hl (by decide) rfl (fun ls hl => ?_)
  exact (w_X8_fellAll_l4 E (M := M) (L := L) FU) (0 : Int32) (0 : Int32) hf _ (lv_sub hl [2, 1, 0] rfl) _ _ hI
theorem dX8_placeOf_0 : decode cX8_placeOf 0 = .ok (.iconst 0, 1) := by decide +kernel
theorem dX8_placeOf_1 : decode cX8_placeOf 1 = .ok (.istore_n 2, 1) := by decide +kernel
theorem dX8_placeOf_2 : decode cX8_placeOf 2 = .ok (.iconst 0, 1) := by decide +kernel
theorem dX8_placeOf_3 : decode cX8_placeOf 3 = .ok (.istore_n 3, 1) := by decide +kernel
theorem dX8_placeOf_4 : decode cX8_placeOf 4 = .ok (.iload_n 3, 1) := by decide +kernel
theorem dX8_placeOf_5 : decode cX8_placeOf 5 = .ok (.aload_n 0, 1) := by decide +kernel
theorem dX8_placeOf_6 : decode cX8_placeOf 6 = .ok (.getfield 62, 3) := by decide +kernel
theorem dX8_placeOf_9 : decode cX8_placeOf 9 = .ok (.if_icmp .ge 28, 3) := by decide +kernel
theorem dX8_placeOf_12 : decode cX8_placeOf 12 = .ok (.aload_n 0, 1) := by decide +kernel
theorem dX8_placeOf_13 : decode cX8_placeOf 13 = .ok (.getfield 22, 3) := by decide +kernel
theorem dX8_placeOf_16 : decode cX8_placeOf 16 = .ok (.bipush 17, 2) := by decide +kernel
theorem dX8_placeOf_18 : decode cX8_placeOf 18 = .ok (.iload_n 3, 1) := by decide +kernel
theorem dX8_placeOf_19 : decode cX8_placeOf 19 = .ok (.iadd, 1) := by decide +kernel
theorem dX8_placeOf_20 : decode cX8_placeOf 20 = .ok (.iaload, 1) := by decide +kernel
theorem dX8_placeOf_21 : decode cX8_placeOf 21 = .ok (.iload_n 1, 1) := by decide +kernel
theorem dX8_placeOf_22 : decode cX8_placeOf 22 = .ok (.if_icmp .ne 7, 3) := by decide +kernel
theorem dX8_placeOf_25 : decode cX8_placeOf 25 = .ok (.iload_n 3, 1) := by decide +kernel
theorem dX8_placeOf_26 : decode cX8_placeOf 26 = .ok (.goto 4, 3) := by decide +kernel
theorem dX8_placeOf_29 : decode cX8_placeOf 29 = .ok (.iload_n 2, 1) := by decide +kernel
theorem dX8_placeOf_30 : decode cX8_placeOf 30 = .ok (.istore_n 2, 1) := by decide +kernel
theorem dX8_placeOf_31 : decode cX8_placeOf 31 = .ok (.iinc 3 1, 3) := by decide +kernel
theorem dX8_placeOf_34 : decode cX8_placeOf 34 = .ok (.goto (-30), 3) := by decide +kernel
theorem dX8_placeOf_37 : decode cX8_placeOf 37 = .ok (.iload_n 2, 1) := by decide +kernel
theorem dX8_placeOf_38 : decode cX8_placeOf 38 = .ok (.ireturn, 1) := by decide +kernel
def f_X8_placeOf_b30 (v4_3 : Int32) (k4 : Int32 → Int32 → Option (Int32)) (t30_0 : Int32) : Option (Int32) := k4 t30_0 (v4_3 + (1 : Int32))
def f_X8_placeOf_l4 (a1 : Int32) (M : xMem) : Nat → Int32 → Int32 → Option (Int32)
  | 0, _, _ => none
  | n + 1, v4_2, v4_3 => (if (M 8 0 0) ≤ v4_3 then some v4_2 else xchk (xb ((17 : Int32) + v4_3) 27) ((if (M 8 7 ((17 : Int32) + v4_3).toNatClampNeg) = a1 then (f_X8_placeOf_b30 v4_3 (f_X8_placeOf_l4 a1 M n)) v4_3 else (f_X8_placeOf_b30 v4_3 (f_X8_placeOf_l4 a1 M n)) v4_2)))
def f_X8_placeOf (a1 : Int32) (M : xMem) : Option (Int32) := (f_X8_placeOf_l4 a1 M FU) (0 : Int32) (0 : Int32)
set_option maxHeartbeats 4000000 in
set_option maxRecDepth 100000 in
theorem w_X8_placeOf_b30 {p : Program} {l : Launch} {e : Env} {s : State} {m : MethodId} {args : Array Value} {below : List Frame} {meth : Method} {c : Code} {G : xG} {rr : Int32} (E : xE p s m args meth c cX8_placeOf 4 (some .int) RX8 G) (a1 : Int32) (M : xMem) (L : xLL) (v4_2 : Int32) (v4_3 : Int32) (k4 : Int32 → Int32 → Option (Int32)) (hk4 : ∀ (v4_2 : Int32) (v4_3 : Int32), k4 v4_2 v4_3 = some rr → ∀ (ls : Array Slot), lv_has ls 4 [(0, .ref (xq G 8 0)), (1, .int a1), (2, .int v4_2), (3, .int v4_3)] → ∀ (H : Heap) (locs : List Loc), xI G M L s.heap H locs → W p l e (xR 1) s m args below meth c H locs 0 0 (MQ below (xQi G rr M L s.heap.size) args s 0 0 (xZ G s.heap.size)) (F0 m 4 ls [])) : ∀ (t30_0 : Int32), f_X8_placeOf_b30 v4_3 k4 t30_0 = some rr → ∀ (ls : Array Slot), lv_has ls 4 [(0, .ref (xq G 8 0)), (1, .int a1), (3, .int v4_3)] → ∀ (H : Heap) (locs : List Loc), xI G M L s.heap H locs → W p l e (xR 1) s m args below meth c H locs 0 0 (MQ below (xQi G rr M L s.heap.size) args s 0 0 (xZ G s.heap.size)) (F0 m 30 ls [.int t30_0]) := by
  have hx := E.1
  have hb := E.2.1
  intro t30_0 hf ls hl H locs hI
  rw [f_X8_placeOf_b30] at hf
  refine lv_istore_n (lv' := [(2, .int t30_0), (0, .ref (xq G 8 0)), (1, .int a1), (3, .int v4_3)]) hx hb dX8_placeOf_30 rfl hl (by decide) rfl (fun ls hl => ?_)
  refine lv_iinc (v := (v4_3 + (1 : Int32))) (lv' := [(3, .int (v4_3 + (1 : Int32))), (2, .int t30_0), (0, .ref (xq G 8 0)), (1, .int a1)]) hx hb dX8_placeOf_31 hl (k := 3) rfl rfl (by decide) rfl (fun ls hl => ?_)
  refine lv_goto (tgt := 4) hx hb dX8_placeOf_34 (by decide) ?_
  exact hk4 t30_0 (v4_3 + (1 : Int32)) hf _ (lv_sub hl [2, 3, 1, 0] rfl) _ _ hI
set_option maxHeartbeats 4000000 in
set_option maxRecDepth 100000 in
theorem w_X8_placeOf_l4 {p : Program} {l : Launch} {e : Env} {s : State} {m : MethodId} {args : Array Value} {below : List Frame} {meth : Method} {c : Code} {G : xG} {rr : Int32} (E : xE p s m args meth c cX8_placeOf 4 (some .int) RX8 G) (a1 : Int32) (M : xMem) (L : xLL) : ∀ (n : Nat), ∀ (v4_2 : Int32) (v4_3 : Int32), f_X8_placeOf_l4 a1 M n v4_2 v4_3 = some rr → ∀ (ls : Array Slot), lv_has ls 4 [(0, .ref (xq G 8 0)), (1, .int a1), (2, .int v4_2), (3, .int v4_3)] → ∀ (H : Heap) (locs : List Loc), xI G M L s.heap H locs → W p l e (xR 1) s m args below meth c H locs 0 0 (MQ below (xQi G rr M L s.heap.size) args s 0 0 (xZ G s.heap.size)) (F0 m 4 ls []) := by
  have hx := E.1
  have hb := E.2.1
  intro n
  induction n with
  | zero =>
    intro v4_2 v4_3 hf
    exact absurd hf (by simp [f_X8_placeOf_l4])
  | succ n ih =>
    intro v4_2 v4_3 hf ls hl H locs hI
    rw [f_X8_placeOf_l4] at hf
    refine lv_iload_n hx hb dX8_placeOf_4 rfl (lv_at hl 3 rfl) ?_
    refine lv_aload_n hx hb dX8_placeOf_5 rfl (lv_at hl 0 rfl) ?_
    refine gf_X8_62 E hI dX8_placeOf_6 ?_
    refine lv_icmp_ge (tgt := 37) hx hb dX8_placeOf_9 (by decide) (fun c9 => ?_) (fun c9 => ?_)
    · replace hf := xif_t c9 hf
      refine lv_iload_n hx hb dX8_placeOf_37 rfl (lv_at hl 2 rfl) ?_
      obtain rfl := xinj1 hf
      exact x_iret E hI rfl dX8_placeOf_38
    · replace hf := xif_f c9 hf
      refine lv_aload_n hx hb dX8_placeOf_12 rfl (lv_at hl 0 rfl) ?_
      refine gf_X8_22 E hI dX8_placeOf_13 ?_
      refine lv_bipush (v := 17) hx hb dX8_placeOf_16 (by decide) ?_
      refine lv_iload_n hx hb dX8_placeOf_18 rfl (lv_at hl 3 rfl) ?_
      refine lv_iadd hx hb dX8_placeOf_19 ?_
      obtain ⟨h20b, hf⟩ := xchk_s hf
      refine x_iald (n := 27) E hI mx_8_7 (fun _ _ => rfl) h20b dX8_placeOf_20 ?_
      refine lv_iload_n hx hb dX8_placeOf_21 rfl (lv_at hl 1 rfl) ?_
      refine lv_icmp_ne (tgt := 29) hx hb dX8_placeOf_22 (by decide) (fun c22 => ?_) (fun c22 => ?_)
      · replace hf := xif_f c22 hf
        refine lv_iload_n hx hb dX8_placeOf_29 rfl (lv_at hl 2 rfl) ?_
        exact (w_X8_placeOf_b30 E (a1 := a1) (M := M) (L := L) (v4_2 := v4_2) (v4_3 := v4_3) (k4 := (f_X8_placeOf_l4 a1 M n)) (hk4 := ih)) v4_2 hf _ (lv_sub hl [0, 1, 3] rfl) _ _ hI
      · replace hf := xif_t c22 hf
        refine lv_iload_n hx hb dX8_placeOf_25 rfl (lv_at hl 3 rfl) ?_
        refine lv_goto (tgt := 30) hx hb dX8_placeOf_26 (by decide) ?_
        exact (w_X8_placeOf_b30 E (a1 := a1) (M := M) (L := L) (v4_2 := v4_2) (v4_3 := v4_3) (k4 := (f_X8_placeOf_l4 a1 M n)) (hk4 := ih)) v4_3 hf _ (lv_sub hl [0, 1, 3] rfl) _ _ hI
set_option maxHeartbeats 4000000 in
set_option maxRecDepth 100000 in
theorem c_X8_placeOf (l : Launch) (G : xG) (sz : Nat) (M : xMem) (L : xLL) (a1 : Int32) {rr : Int32} (hf : f_X8_placeOf a1 M = some rr) : Met l yX8_placeOf (Cond.code yX8_placeOf cX8_placeOf 4 (some .int) :: xTB) (xR 1) (xP G M L sz [.ref (xq G 8 0), .int a1]) (xQi G rr M L sz) 0 0 (xZ G sz) := by
  refine x_met (cc := cX8_placeOf) (nL := 4) (rt := (some .int)) (by decide) (Nat.le_of_ble_eq_true rfl) ?_
  intro p e s m below meth c ls hsz E hl hI
  subst hsz
  have E : xE p s m _ meth c cX8_placeOf 4 (some .int) RX8 G := E
  have hx := E.1
  have hb := E.2.1
  have hl : lv_has ls 4 [(0, .ref (xq G 8 0)), (1, .int a1)] := hl
  rw [f_X8_placeOf] at hf
  refine lv_iconst (v := 0) hx hb dX8_placeOf_0 (by decide) ?_
  refine lv_istore_n (lv' := [(2, .int (0 : Int32)), (0, .ref (xq G 8 0)), (1, .int a1)]) hx hb dX8_placeOf_1 rfl hl (by decide) rfl (fun ls hl => ?_)
  refine lv_iconst (v := 0) hx hb dX8_placeOf_2 (by decide) ?_
  refine lv_istore_n (lv' := [(3, .int (0 : Int32)), (2, .int (0 : Int32)), (0, .ref (xq G 8 0)), (1, .int a1)]) hx hb dX8_placeOf_3 rfl hl (by decide) rfl (fun ls hl => ?_)
  exact (w_X8_placeOf_l4 E (a1 := a1) (M := M) (L := L) FU) (0 : Int32) (0 : Int32) hf _ (lv_sub hl [2, 3, 1, 0] rfl) _ _ hI
theorem dX8_scale_0 : decode cX8_scale 0 = .ok (.aload_n 0, 1) := by decide +kernel
theorem dX8_scale_1 : decode cX8_scale 1 = .ok (.iload_n 1, 1) := by decide +kernel
theorem dX8_scale_2 : decode cX8_scale 2 = .ok (.invokevirtual 153, 3) := by decide +kernel
theorem dX8_scale_5 : decode cX8_scale 5 = .ok (.ifCond .ne 5, 3) := by decide +kernel
theorem dX8_scale_8 : decode cX8_scale 8 = .ok (.iconst (-1), 1) := by decide +kernel
theorem dX8_scale_9 : decode cX8_scale 9 = .ok (.ireturn, 1) := by decide +kernel
theorem dX8_scale_10 : decode cX8_scale 10 = .ok (.aload_n 0, 1) := by decide +kernel
theorem dX8_scale_11 : decode cX8_scale 11 = .ok (.invokevirtual 156, 3) := by decide +kernel
theorem dX8_scale_14 : decode cX8_scale 14 = .ok (.iload_n 2, 1) := by decide +kernel
theorem dX8_scale_15 : decode cX8_scale 15 = .ok (.tableswitch 85 0 5 #[37, 47, 54, 61, 71, 77], 37) := by decide +kernel
theorem dX8_scale_52 : decode cX8_scale 52 = .ok (.aload_n 0, 1) := by decide +kernel
theorem dX8_scale_53 : decode cX8_scale 53 = .ok (.getfield 22, 3) := by decide +kernel
theorem dX8_scale_56 : decode cX8_scale 56 = .ok (.bipush 12, 2) := by decide +kernel
theorem dX8_scale_58 : decode cX8_scale 58 = .ok (.iload_n 1, 1) := by decide +kernel
theorem dX8_scale_59 : decode cX8_scale 59 = .ok (.iadd, 1) := by decide +kernel
theorem dX8_scale_60 : decode cX8_scale 60 = .ok (.iaload, 1) := by decide +kernel
theorem dX8_scale_61 : decode cX8_scale 61 = .ok (.ireturn, 1) := by decide +kernel
theorem dX8_scale_62 : decode cX8_scale 62 = .ok (.aload_n 0, 1) := by decide +kernel
theorem dX8_scale_63 : decode cX8_scale 63 = .ok (.getfield 13, 3) := by decide +kernel
theorem dX8_scale_66 : decode cX8_scale 66 = .ok (.iload_n 1, 1) := by decide +kernel
theorem dX8_scale_67 : decode cX8_scale 67 = .ok (.iaload, 1) := by decide +kernel
theorem dX8_scale_68 : decode cX8_scale 68 = .ok (.ireturn, 1) := by decide +kernel
theorem dX8_scale_69 : decode cX8_scale 69 = .ok (.aload_n 0, 1) := by decide +kernel
theorem dX8_scale_70 : decode cX8_scale 70 = .ok (.getfield 16, 3) := by decide +kernel
theorem dX8_scale_73 : decode cX8_scale 73 = .ok (.iload_n 1, 1) := by decide +kernel
theorem dX8_scale_74 : decode cX8_scale 74 = .ok (.iaload, 1) := by decide +kernel
theorem dX8_scale_75 : decode cX8_scale 75 = .ok (.ireturn, 1) := by decide +kernel
theorem dX8_scale_76 : decode cX8_scale 76 = .ok (.aload_n 0, 1) := by decide +kernel
theorem dX8_scale_77 : decode cX8_scale 77 = .ok (.getfield 22, 3) := by decide +kernel
theorem dX8_scale_80 : decode cX8_scale 80 = .ok (.bipush 22, 2) := by decide +kernel
theorem dX8_scale_82 : decode cX8_scale 82 = .ok (.iload_n 1, 1) := by decide +kernel
theorem dX8_scale_83 : decode cX8_scale 83 = .ok (.iadd, 1) := by decide +kernel
theorem dX8_scale_84 : decode cX8_scale 84 = .ok (.iaload, 1) := by decide +kernel
theorem dX8_scale_85 : decode cX8_scale 85 = .ok (.ireturn, 1) := by decide +kernel
theorem dX8_scale_86 : decode cX8_scale 86 = .ok (.aload_n 0, 1) := by decide +kernel
theorem dX8_scale_87 : decode cX8_scale 87 = .ok (.iload_n 1, 1) := by decide +kernel
theorem dX8_scale_88 : decode cX8_scale 88 = .ok (.invokevirtual 159, 3) := by decide +kernel
theorem dX8_scale_91 : decode cX8_scale 91 = .ok (.ireturn, 1) := by decide +kernel
theorem dX8_scale_92 : decode cX8_scale 92 = .ok (.aload_n 0, 1) := by decide +kernel
theorem dX8_scale_93 : decode cX8_scale 93 = .ok (.iconst 1, 1) := by decide +kernel
theorem dX8_scale_94 : decode cX8_scale 94 = .ok (.iload_n 1, 1) := by decide +kernel
theorem dX8_scale_95 : decode cX8_scale 95 = .ok (.iadd, 1) := by decide +kernel
theorem dX8_scale_96 : decode cX8_scale 96 = .ok (.invokevirtual 132, 3) := by decide +kernel
theorem dX8_scale_99 : decode cX8_scale 99 = .ok (.ireturn, 1) := by decide +kernel
theorem dX8_scale_100 : decode cX8_scale 100 = .ok (.iconst (-1), 1) := by decide +kernel
theorem dX8_scale_101 : decode cX8_scale 101 = .ok (.ireturn, 1) := by decide +kernel
def f_X8_scale (a1 : Int32) (a2 : Int32) (M : xMem) : Option (Int32 × xMem) := xb1 (f_X8_isScale a1 M) (fun r2 => (if r2 = (0 : Int32) then some ((-1 : Int32), M) else xb1 (f_X8_asItIs M) (fun M11 => (if a2 = (0 : Int32) then xchk (xb ((12 : Int32) + a1) 27) (some ((M11 8 7 ((12 : Int32) + a1).toNatClampNeg), M11)) else (if a2 = (1 : Int32) then xchk (xb a1 5) (some ((M11 8 3 a1.toNatClampNeg), M11)) else (if a2 = (2 : Int32) then xchk (xb a1 5) (some ((M11 8 4 a1.toNatClampNeg), M11)) else (if a2 = (3 : Int32) then xchk (xb ((22 : Int32) + a1) 27) (some ((M11 8 7 ((22 : Int32) + a1).toNatClampNeg), M11)) else (if a2 = (4 : Int32) then xb1 (f_X8_placeOf a1 M11) (fun r88 => some (r88, M11)) else (if a2 = (5 : Int32) then xb1 (f_X8_inPlace ((1 : Int32) + a1) M11) (fun r96 => some (r96, M11)) else some ((-1 : Int32), M11))))))))))
set_option maxHeartbeats 4000000 in
set_option maxRecDepth 100000 in
theorem c_X8_scale (l : Launch) (G : xG) (sz : Nat) (M : xMem) (L : xLL) (a1 : Int32) (a2 : Int32) {rr : Int32} {MM : xMem} (hf : f_X8_scale a1 a2 M = some (rr, MM)) : Met l yX8_scale (Cond.code yX8_scale cX8_scale 3 (some .int) :: xTB) (xR 3) (xP G M L sz [.ref (xq G 8 0), .int a1, .int a2]) (xQi G rr MM L sz) 0 0 (xZ G sz) := by
  refine x_met (cc := cX8_scale) (nL := 3) (rt := (some .int)) (by decide) (Nat.le_of_ble_eq_true rfl) ?_
  intro p e s m below meth c ls hsz E hl hI
  subst hsz
  have E : xE p s m _ meth c cX8_scale 3 (some .int) RX8 G := E
  have hx := E.1
  have hb := E.2.1
  have hl : lv_has ls 3 [(0, .ref (xq G 8 0)), (1, .int a1), (2, .int a2)] := hl
  rw [f_X8_scale] at hf
  refine lv_aload_n hx hb dX8_scale_0 rfl (lv_at hl 0 rfl) ?_
  refine lv_iload_n hx hb dX8_scale_1 rfl (lv_at hl 1 rfl) ?_
  obtain ⟨r2, g2, hf⟩ := xb1_s hf
  refine x_callVi (As := [.int a1]) (rest := []) E hI mx_8_0 rfl rfl rfl (c_X8_isScale l G _ (M := M) (L := L) (a1 := a1) g2) yv_X8_isScale ml_X8_153 (by decide) (by decide) rfl rfl hl.1 (Nat.le_of_ble_eq_true rfl) dX8_scale_2 (fun H locs hI => ?_)
  refine lv_if_ne (tgt := 10) hx hb dX8_scale_5 (by decide) (fun c5 => ?_) (fun c5 => ?_)
  · replace hf := xif_f c5 hf
    refine lv_aload_n hx hb dX8_scale_10 rfl (lv_at hl 0 rfl) ?_
    obtain ⟨M11, g11, hf⟩ := xb1_s hf
    refine x_callVv (As := []) (rest := []) E hI mx_8_0 rfl rfl rfl (c_X8_asItIs l G _ (M := M) (L := L) g11) yv_X8_asItIs ml_X8_156 (by decide) (by decide) rfl rfl hl.1 (Nat.le_of_ble_eq_true rfl) dX8_scale_11 (fun H locs hI => ?_)
    refine lv_iload_n hx hb dX8_scale_14 rfl (lv_at hl 2 rfl) ?_
    by_cases c15_0 : a2 = (0 : Int32)
    · replace hf := xif_t c15_0 hf
      refine x_tsIn (off := 37) (tgt := 52) hx hb c15_0 dX8_scale_15 (by decide) (by decide) (by decide) (by decide) ?_
      refine lv_aload_n hx hb dX8_scale_52 rfl (lv_at hl 0 rfl) ?_
      refine gf_X8_22 E hI dX8_scale_53 ?_
      refine lv_bipush (v := 12) hx hb dX8_scale_56 (by decide) ?_
      refine lv_iload_n hx hb dX8_scale_58 rfl (lv_at hl 1 rfl) ?_
      refine lv_iadd hx hb dX8_scale_59 ?_
      obtain ⟨h60b, hf⟩ := xchk_s hf
      refine x_iald (n := 27) E hI mx_8_7 (fun _ _ => rfl) h60b dX8_scale_60 ?_
      obtain ⟨rfl, rfl⟩ := xinj2 hf
      exact x_iret E hI rfl dX8_scale_61
    · replace hf := xif_f c15_0 hf
      by_cases c15_1 : a2 = (1 : Int32)
      · replace hf := xif_t c15_1 hf
        refine x_tsIn (off := 47) (tgt := 62) hx hb c15_1 dX8_scale_15 (by decide) (by decide) (by decide) (by decide) ?_
        refine lv_aload_n hx hb dX8_scale_62 rfl (lv_at hl 0 rfl) ?_
        refine gf_X8_13 E hI dX8_scale_63 ?_
        refine lv_iload_n hx hb dX8_scale_66 rfl (lv_at hl 1 rfl) ?_
        obtain ⟨h67b, hf⟩ := xchk_s hf
        refine x_iald (n := 5) E hI mx_8_3 (fun _ _ => rfl) h67b dX8_scale_67 ?_
        obtain ⟨rfl, rfl⟩ := xinj2 hf
        exact x_iret E hI rfl dX8_scale_68
      · replace hf := xif_f c15_1 hf
        by_cases c15_2 : a2 = (2 : Int32)
        · replace hf := xif_t c15_2 hf
          refine x_tsIn (off := 54) (tgt := 69) hx hb c15_2 dX8_scale_15 (by decide) (by decide) (by decide) (by decide) ?_
          refine lv_aload_n hx hb dX8_scale_69 rfl (lv_at hl 0 rfl) ?_
          refine gf_X8_16 E hI dX8_scale_70 ?_
          refine lv_iload_n hx hb dX8_scale_73 rfl (lv_at hl 1 rfl) ?_
          obtain ⟨h74b, hf⟩ := xchk_s hf
          refine x_iald (n := 5) E hI mx_8_4 (fun _ _ => rfl) h74b dX8_scale_74 ?_
          obtain ⟨rfl, rfl⟩ := xinj2 hf
          exact x_iret E hI rfl dX8_scale_75
        · replace hf := xif_f c15_2 hf
          by_cases c15_3 : a2 = (3 : Int32)
          · replace hf := xif_t c15_3 hf
            refine x_tsIn (off := 61) (tgt := 76) hx hb c15_3 dX8_scale_15 (by decide) (by decide) (by decide) (by decide) ?_
            refine lv_aload_n hx hb dX8_scale_76 rfl (lv_at hl 0 rfl) ?_
            refine gf_X8_22 E hI dX8_scale_77 ?_
            refine lv_bipush (v := 22) hx hb dX8_scale_80 (by decide) ?_
            refine lv_iload_n hx hb dX8_scale_82 rfl (lv_at hl 1 rfl) ?_
            refine lv_iadd hx hb dX8_scale_83 ?_
            obtain ⟨h84b, hf⟩ := xchk_s hf
            refine x_iald (n := 27) E hI mx_8_7 (fun _ _ => rfl) h84b dX8_scale_84 ?_
            obtain ⟨rfl, rfl⟩ := xinj2 hf
            exact x_iret E hI rfl dX8_scale_85
          · replace hf := xif_f c15_3 hf
            by_cases c15_4 : a2 = (4 : Int32)
            · replace hf := xif_t c15_4 hf
              refine x_tsIn (off := 71) (tgt := 86) hx hb c15_4 dX8_scale_15 (by decide) (by decide) (by decide) (by decide) ?_
              refine lv_aload_n hx hb dX8_scale_86 rfl (lv_at hl 0 rfl) ?_
              refine lv_iload_n hx hb dX8_scale_87 rfl (lv_at hl 1 rfl) ?_
              obtain ⟨r88, g88, hf⟩ := xb1_s hf
              refine x_callVi (As := [.int a1]) (rest := []) E hI mx_8_0 rfl rfl rfl (c_X8_placeOf l G _ (M := M11) (L := L) (a1 := a1) g88) yv_X8_placeOf ml_X8_159 (by decide) (by decide) rfl rfl hl.1 (Nat.le_of_ble_eq_true rfl) dX8_scale_88 (fun H locs hI => ?_)
              obtain ⟨rfl, rfl⟩ := xinj2 hf
              exact x_iret E hI rfl dX8_scale_91
            · replace hf := xif_f c15_4 hf
              by_cases c15_5 : a2 = (5 : Int32)
              · replace hf := xif_t c15_5 hf
                refine x_tsIn (off := 77) (tgt := 92) hx hb c15_5 dX8_scale_15 (by decide) (by decide) (by decide) (by decide) ?_
                refine lv_aload_n hx hb dX8_scale_92 rfl (lv_at hl 0 rfl) ?_
                refine lv_iconst (v := 1) hx hb dX8_scale_93 (by decide) ?_
                refine lv_iload_n hx hb dX8_scale_94 rfl (lv_at hl 1 rfl) ?_
                refine lv_iadd hx hb dX8_scale_95 ?_
                obtain ⟨r96, g96, hf⟩ := xb1_s hf
                refine x_callVi (As := [.int ((1 : Int32) + a1)]) (rest := []) E hI mx_8_0 rfl rfl rfl (c_X8_inPlace l G _ (M := M11) (L := L) (a1 := ((1 : Int32) + a1)) g96) yv_X8_inPlace ml_X8_132 (by decide) (by decide) rfl rfl hl.1 (Nat.le_of_ble_eq_true rfl) dX8_scale_96 (fun H locs hI => ?_)
                obtain ⟨rfl, rfl⟩ := xinj2 hf
                exact x_iret E hI rfl dX8_scale_99
              · replace hf := xif_f c15_5 hf
                refine x_tsOut hx hb dX8_scale_15 (fun k hk => by
                  have hk2 : k = 0 ∨ k = 1 ∨ k = 2 ∨ k = 3 ∨ k = 4 ∨ k = 5 := by
                    have hk3 : k < 6 := hk
                    omega
                  rcases hk2 with rfl | rfl | rfl | rfl | rfl | rfl
                  · exact c15_0
                  · exact c15_1
                  · exact c15_2
                  · exact c15_3
                  · exact c15_4
                  · exact c15_5) (tgt := 100) (by decide) ?_
                refine lv_iconst (v := -1) hx hb dX8_scale_100 (by decide) ?_
                obtain ⟨rfl, rfl⟩ := xinj2 hf
                exact x_iret E hI rfl dX8_scale_101
  · replace hf := xif_t c5 hf
    refine lv_iconst (v := -1) hx hb dX8_scale_8 (by decide) ?_
    obtain ⟨rfl, rfl⟩ := xinj2 hf
    exact x_iret E hI rfl dX8_scale_9
theorem dX8_egg_0 : decode cX8_egg 0 = .ok (.aload_n 0, 1) := by decide +kernel
theorem dX8_egg_1 : decode cX8_egg 1 = .ok (.iload_n 1, 1) := by decide +kernel
theorem dX8_egg_2 : decode cX8_egg 2 = .ok (.invokevirtual 162, 3) := by decide +kernel
theorem dX8_egg_5 : decode cX8_egg 5 = .ok (.ifCond .ne 5, 3) := by decide +kernel
theorem dX8_egg_8 : decode cX8_egg 8 = .ok (.iconst (-1), 1) := by decide +kernel
theorem dX8_egg_9 : decode cX8_egg 9 = .ok (.ireturn, 1) := by decide +kernel
theorem dX8_egg_10 : decode cX8_egg 10 = .ok (.aload_n 0, 1) := by decide +kernel
theorem dX8_egg_11 : decode cX8_egg 11 = .ok (.invokevirtual 156, 3) := by decide +kernel
theorem dX8_egg_14 : decode cX8_egg 14 = .ok (.iload_n 2, 1) := by decide +kernel
theorem dX8_egg_15 : decode cX8_egg 15 = .ok (.tableswitch 80 0 4 #[33, 43, 50, 59, 74], 33) := by decide +kernel
theorem dX8_egg_48 : decode cX8_egg 48 = .ok (.aload_n 0, 1) := by decide +kernel
theorem dX8_egg_49 : decode cX8_egg 49 = .ok (.getfield 22, 3) := by decide +kernel
theorem dX8_egg_52 : decode cX8_egg 52 = .ok (.bipush 6, 2) := by decide +kernel
theorem dX8_egg_54 : decode cX8_egg 54 = .ok (.iload_n 1, 1) := by decide +kernel
theorem dX8_egg_55 : decode cX8_egg 55 = .ok (.iadd, 1) := by decide +kernel
theorem dX8_egg_56 : decode cX8_egg 56 = .ok (.iaload, 1) := by decide +kernel
theorem dX8_egg_57 : decode cX8_egg 57 = .ok (.ireturn, 1) := by decide +kernel
theorem dX8_egg_58 : decode cX8_egg 58 = .ok (.aload_n 0, 1) := by decide +kernel
theorem dX8_egg_59 : decode cX8_egg 59 = .ok (.getfield 19, 3) := by decide +kernel
theorem dX8_egg_62 : decode cX8_egg 62 = .ok (.iload_n 1, 1) := by decide +kernel
theorem dX8_egg_63 : decode cX8_egg 63 = .ok (.iaload, 1) := by decide +kernel
theorem dX8_egg_64 : decode cX8_egg 64 = .ok (.ireturn, 1) := by decide +kernel
theorem dX8_egg_65 : decode cX8_egg 65 = .ok (.aload_n 0, 1) := by decide +kernel
theorem dX8_egg_66 : decode cX8_egg 66 = .ok (.getfield 22, 3) := by decide +kernel
theorem dX8_egg_69 : decode cX8_egg 69 = .ok (.iconst 0, 1) := by decide +kernel
theorem dX8_egg_70 : decode cX8_egg 70 = .ok (.iload_n 1, 1) := by decide +kernel
theorem dX8_egg_71 : decode cX8_egg 71 = .ok (.iadd, 1) := by decide +kernel
theorem dX8_egg_72 : decode cX8_egg 72 = .ok (.iaload, 1) := by decide +kernel
theorem dX8_egg_73 : decode cX8_egg 73 = .ok (.ireturn, 1) := by decide +kernel
theorem dX8_egg_74 : decode cX8_egg 74 = .ok (.aload_n 0, 1) := by decide +kernel
theorem dX8_egg_75 : decode cX8_egg 75 = .ok (.iload_n 1, 1) := by decide +kernel
theorem dX8_egg_76 : decode cX8_egg 76 = .ok (.aload_n 0, 1) := by decide +kernel
theorem dX8_egg_77 : decode cX8_egg 77 = .ok (.getfield 22, 3) := by decide +kernel
theorem dX8_egg_80 : decode cX8_egg 80 = .ok (.bipush 6, 2) := by decide +kernel
theorem dX8_egg_82 : decode cX8_egg 82 = .ok (.iload_n 1, 1) := by decide +kernel
theorem dX8_egg_83 : decode cX8_egg 83 = .ok (.iadd, 1) := by decide +kernel
theorem dX8_egg_84 : decode cX8_egg 84 = .ok (.iaload, 1) := by decide +kernel
theorem dX8_egg_85 : decode cX8_egg 85 = .ok (.invokevirtual 138, 3) := by decide +kernel
theorem dX8_egg_88 : decode cX8_egg 88 = .ok (.ireturn, 1) := by decide +kernel
theorem dX8_egg_89 : decode cX8_egg 89 = .ok (.aload_n 0, 1) := by decide +kernel
theorem dX8_egg_90 : decode cX8_egg 90 = .ok (.iload_n 1, 1) := by decide +kernel
theorem dX8_egg_91 : decode cX8_egg 91 = .ok (.invokevirtual 150, 3) := by decide +kernel
theorem dX8_egg_94 : decode cX8_egg 94 = .ok (.ireturn, 1) := by decide +kernel
theorem dX8_egg_95 : decode cX8_egg 95 = .ok (.iconst (-1), 1) := by decide +kernel
theorem dX8_egg_96 : decode cX8_egg 96 = .ok (.ireturn, 1) := by decide +kernel
def f_X8_egg (a1 : Int32) (a2 : Int32) (M : xMem) : Option (Int32 × xMem) := xb1 (f_X8_isEgg a1 M) (fun r2 => (if r2 = (0 : Int32) then some ((-1 : Int32), M) else xb1 (f_X8_asItIs M) (fun M11 => (if a2 = (0 : Int32) then xchk (xb ((6 : Int32) + a1) 27) (some ((M11 8 7 ((6 : Int32) + a1).toNatClampNeg), M11)) else (if a2 = (1 : Int32) then xchk (xb a1 6) (some ((M11 8 6 a1.toNatClampNeg), M11)) else (if a2 = (2 : Int32) then xchk (xb ((0 : Int32) + a1) 27) (some ((M11 8 7 ((0 : Int32) + a1).toNatClampNeg), M11)) else (if a2 = (3 : Int32) then xchk (xb ((6 : Int32) + a1) 27) (xb1 (f_X8_seemsAs a1 (M11 8 7 ((6 : Int32) + a1).toNatClampNeg) M11) (fun r85 => some (r85, M11))) else (if a2 = (4 : Int32) then xb1 (f_X8_belongsAs a1 M11) (fun r91 => some (r91, M11)) else some ((-1 : Int32), M11)))))))))
set_option maxHeartbeats 4000000 in
set_option maxRecDepth 100000 in
theorem c_X8_egg (l : Launch) (G : xG) (sz : Nat) (M : xMem) (L : xLL) (a1 : Int32) (a2 : Int32) {rr : Int32} {MM : xMem} (hf : f_X8_egg a1 a2 M = some (rr, MM)) : Met l yX8_egg (Cond.code yX8_egg cX8_egg 3 (some .int) :: xTB) (xR 3) (xP G M L sz [.ref (xq G 8 0), .int a1, .int a2]) (xQi G rr MM L sz) 0 0 (xZ G sz) := by
  refine x_met (cc := cX8_egg) (nL := 3) (rt := (some .int)) (by decide) (Nat.le_of_ble_eq_true rfl) ?_
  intro p e s m below meth c ls hsz E hl hI
  subst hsz
  have E : xE p s m _ meth c cX8_egg 3 (some .int) RX8 G := E
  have hx := E.1
  have hb := E.2.1
  have hl : lv_has ls 3 [(0, .ref (xq G 8 0)), (1, .int a1), (2, .int a2)] := hl
  rw [f_X8_egg] at hf
  refine lv_aload_n hx hb dX8_egg_0 rfl (lv_at hl 0 rfl) ?_
  refine lv_iload_n hx hb dX8_egg_1 rfl (lv_at hl 1 rfl) ?_
  obtain ⟨r2, g2, hf⟩ := xb1_s hf
  refine x_callVi (As := [.int a1]) (rest := []) E hI mx_8_0 rfl rfl rfl (c_X8_isEgg l G _ (M := M) (L := L) (a1 := a1) g2) yv_X8_isEgg ml_X8_162 (by decide) (by decide) rfl rfl hl.1 (Nat.le_of_ble_eq_true rfl) dX8_egg_2 (fun H locs hI => ?_)
  refine lv_if_ne (tgt := 10) hx hb dX8_egg_5 (by decide) (fun c5 => ?_) (fun c5 => ?_)
  · replace hf := xif_f c5 hf
    refine lv_aload_n hx hb dX8_egg_10 rfl (lv_at hl 0 rfl) ?_
    obtain ⟨M11, g11, hf⟩ := xb1_s hf
    refine x_callVv (As := []) (rest := []) E hI mx_8_0 rfl rfl rfl (c_X8_asItIs l G _ (M := M) (L := L) g11) yv_X8_asItIs ml_X8_156 (by decide) (by decide) rfl rfl hl.1 (Nat.le_of_ble_eq_true rfl) dX8_egg_11 (fun H locs hI => ?_)
    refine lv_iload_n hx hb dX8_egg_14 rfl (lv_at hl 2 rfl) ?_
    by_cases c15_0 : a2 = (0 : Int32)
    · replace hf := xif_t c15_0 hf
      refine x_tsIn (off := 33) (tgt := 48) hx hb c15_0 dX8_egg_15 (by decide) (by decide) (by decide) (by decide) ?_
      refine lv_aload_n hx hb dX8_egg_48 rfl (lv_at hl 0 rfl) ?_
      refine gf_X8_22 E hI dX8_egg_49 ?_
      refine lv_bipush (v := 6) hx hb dX8_egg_52 (by decide) ?_
      refine lv_iload_n hx hb dX8_egg_54 rfl (lv_at hl 1 rfl) ?_
      refine lv_iadd hx hb dX8_egg_55 ?_
      obtain ⟨h56b, hf⟩ := xchk_s hf
      refine x_iald (n := 27) E hI mx_8_7 (fun _ _ => rfl) h56b dX8_egg_56 ?_
      obtain ⟨rfl, rfl⟩ := xinj2 hf
      exact x_iret E hI rfl dX8_egg_57
    · replace hf := xif_f c15_0 hf
      by_cases c15_1 : a2 = (1 : Int32)
      · replace hf := xif_t c15_1 hf
        refine x_tsIn (off := 43) (tgt := 58) hx hb c15_1 dX8_egg_15 (by decide) (by decide) (by decide) (by decide) ?_
        refine lv_aload_n hx hb dX8_egg_58 rfl (lv_at hl 0 rfl) ?_
        refine gf_X8_19 E hI dX8_egg_59 ?_
        refine lv_iload_n hx hb dX8_egg_62 rfl (lv_at hl 1 rfl) ?_
        obtain ⟨h63b, hf⟩ := xchk_s hf
        refine x_iald (n := 6) E hI mx_8_6 (fun _ _ => rfl) h63b dX8_egg_63 ?_
        obtain ⟨rfl, rfl⟩ := xinj2 hf
        exact x_iret E hI rfl dX8_egg_64
      · replace hf := xif_f c15_1 hf
        by_cases c15_2 : a2 = (2 : Int32)
        · replace hf := xif_t c15_2 hf
          refine x_tsIn (off := 50) (tgt := 65) hx hb c15_2 dX8_egg_15 (by decide) (by decide) (by decide) (by decide) ?_
          refine lv_aload_n hx hb dX8_egg_65 rfl (lv_at hl 0 rfl) ?_
          refine gf_X8_22 E hI dX8_egg_66 ?_
          refine lv_iconst (v := 0) hx hb dX8_egg_69 (by decide) ?_
          refine lv_iload_n hx hb dX8_egg_70 rfl (lv_at hl 1 rfl) ?_
          refine lv_iadd hx hb dX8_egg_71 ?_
          obtain ⟨h72b, hf⟩ := xchk_s hf
          refine x_iald (n := 27) E hI mx_8_7 (fun _ _ => rfl) h72b dX8_egg_72 ?_
          obtain ⟨rfl, rfl⟩ := xinj2 hf
          exact x_iret E hI rfl dX8_egg_73
        · replace hf := xif_f c15_2 hf
          by_cases c15_3 : a2 = (3 : Int32)
          · replace hf := xif_t c15_3 hf
            refine x_tsIn (off := 59) (tgt := 74) hx hb c15_3 dX8_egg_15 (by decide) (by decide) (by decide) (by decide) ?_
            refine lv_aload_n hx hb dX8_egg_74 rfl (lv_at hl 0 rfl) ?_
            refine lv_iload_n hx hb dX8_egg_75 rfl (lv_at hl 1 rfl) ?_
            refine lv_aload_n hx hb dX8_egg_76 rfl (lv_at hl 0 rfl) ?_
            refine gf_X8_22 E hI dX8_egg_77 ?_
            refine lv_bipush (v := 6) hx hb dX8_egg_80 (by decide) ?_
            refine lv_iload_n hx hb dX8_egg_82 rfl (lv_at hl 1 rfl) ?_
            refine lv_iadd hx hb dX8_egg_83 ?_
            obtain ⟨h84b, hf⟩ := xchk_s hf
            refine x_iald (n := 27) E hI mx_8_7 (fun _ _ => rfl) h84b dX8_egg_84 ?_
            obtain ⟨r85, g85, hf⟩ := xb1_s hf
            refine x_callVi (As := [.int a1, .int (M11 8 7 ((6 : Int32) + a1).toNatClampNeg)]) (rest := []) E hI mx_8_0 rfl rfl rfl (c_X8_seemsAs l G _ (M := M11) (L := L) (a1 := a1) (a2 := (M11 8 7 ((6 : Int32) + a1).toNatClampNeg)) g85) yv_X8_seemsAs ml_X8_138 (by decide) (by decide) rfl rfl hl.1 (Nat.le_of_ble_eq_true rfl) dX8_egg_85 (fun H locs hI => ?_)
            obtain ⟨rfl, rfl⟩ := xinj2 hf
            exact x_iret E hI rfl dX8_egg_88
          · replace hf := xif_f c15_3 hf
            by_cases c15_4 : a2 = (4 : Int32)
            · replace hf := xif_t c15_4 hf
              refine x_tsIn (off := 74) (tgt := 89) hx hb c15_4 dX8_egg_15 (by decide) (by decide) (by decide) (by decide) ?_
              refine lv_aload_n hx hb dX8_egg_89 rfl (lv_at hl 0 rfl) ?_
              refine lv_iload_n hx hb dX8_egg_90 rfl (lv_at hl 1 rfl) ?_
              obtain ⟨r91, g91, hf⟩ := xb1_s hf
              refine x_callVi (As := [.int a1]) (rest := []) E hI mx_8_0 rfl rfl rfl (c_X8_belongsAs l G _ (M := M11) (L := L) (a1 := a1) g91) yv_X8_belongsAs ml_X8_150 (by decide) (by decide) rfl rfl hl.1 (Nat.le_of_ble_eq_true rfl) dX8_egg_91 (fun H locs hI => ?_)
              obtain ⟨rfl, rfl⟩ := xinj2 hf
              exact x_iret E hI rfl dX8_egg_94
            · replace hf := xif_f c15_4 hf
              refine x_tsOut hx hb dX8_egg_15 (fun k hk => by
                have hk2 : k = 0 ∨ k = 1 ∨ k = 2 ∨ k = 3 ∨ k = 4 := by
                  have hk3 : k < 5 := hk
                  omega
                rcases hk2 with rfl | rfl | rfl | rfl | rfl
                · exact c15_0
                · exact c15_1
                · exact c15_2
                · exact c15_3
                · exact c15_4) (tgt := 95) (by decide) ?_
              refine lv_iconst (v := -1) hx hb dX8_egg_95 (by decide) ?_
              obtain ⟨rfl, rfl⟩ := xinj2 hf
              exact x_iret E hI rfl dX8_egg_96
  · replace hf := xif_t c5 hf
    refine lv_iconst (v := -1) hx hb dX8_egg_8 (by decide) ?_
    obtain ⟨rfl, rfl⟩ := xinj2 hf
    exact x_iret E hI rfl dX8_egg_9
theorem dX8_now_0 : decode cX8_now 0 = .ok (.aload_n 0, 1) := by decide +kernel
theorem dX8_now_1 : decode cX8_now 1 = .ok (.invokevirtual 156, 3) := by decide +kernel
theorem dX8_now_4 : decode cX8_now 4 = .ok (.iload_n 1, 1) := by decide +kernel
theorem dX8_now_5 : decode cX8_now 5 = .ok (.tableswitch 63 0 4 #[35, 41, 48, 53, 58], 35) := by decide +kernel
theorem dX8_now_40 : decode cX8_now 40 = .ok (.aload_n 0, 1) := by decide +kernel
theorem dX8_now_41 : decode cX8_now 41 = .ok (.iconst 0, 1) := by decide +kernel
theorem dX8_now_42 : decode cX8_now 42 = .ok (.invokevirtual 132, 3) := by decide +kernel
theorem dX8_now_45 : decode cX8_now 45 = .ok (.ireturn, 1) := by decide +kernel
theorem dX8_now_46 : decode cX8_now 46 = .ok (.aload_n 0, 1) := by decide +kernel
theorem dX8_now_47 : decode cX8_now 47 = .ok (.bipush 8, 2) := by decide +kernel
theorem dX8_now_49 : decode cX8_now 49 = .ok (.invokevirtual 132, 3) := by decide +kernel
theorem dX8_now_52 : decode cX8_now 52 = .ok (.ireturn, 1) := by decide +kernel
theorem dX8_now_53 : decode cX8_now 53 = .ok (.aload_n 0, 1) := by decide +kernel
theorem dX8_now_54 : decode cX8_now 54 = .ok (.invokevirtual 165, 3) := by decide +kernel
theorem dX8_now_57 : decode cX8_now 57 = .ok (.ireturn, 1) := by decide +kernel
theorem dX8_now_58 : decode cX8_now 58 = .ok (.aload_n 0, 1) := by decide +kernel
theorem dX8_now_59 : decode cX8_now 59 = .ok (.invokevirtual 169, 3) := by decide +kernel
theorem dX8_now_62 : decode cX8_now 62 = .ok (.ireturn, 1) := by decide +kernel
theorem dX8_now_63 : decode cX8_now 63 = .ok (.aload_n 0, 1) := by decide +kernel
theorem dX8_now_64 : decode cX8_now 64 = .ok (.getfield 122, 3) := by decide +kernel
theorem dX8_now_67 : decode cX8_now 67 = .ok (.ireturn, 1) := by decide +kernel
theorem dX8_now_68 : decode cX8_now 68 = .ok (.iconst (-1), 1) := by decide +kernel
theorem dX8_now_69 : decode cX8_now 69 = .ok (.ireturn, 1) := by decide +kernel
def f_X8_now (a1 : Int32) (M : xMem) : Option (Int32 × xMem) := xb1 (f_X8_asItIs M) (fun M1 => (if a1 = (0 : Int32) then xb1 (f_X8_inPlace (0 : Int32) M1) (fun r42 => some (r42, M1)) else (if a1 = (1 : Int32) then xb1 (f_X8_inPlace (8 : Int32) M1) (fun r49 => some (r49, M1)) else (if a1 = (2 : Int32) then xb1 (f_X8_right M1) (fun r54 => some (r54, M1)) else (if a1 = (3 : Int32) then xb1 (f_X8_fellAll M1) (fun r59 => some (r59, M1)) else (if a1 = (4 : Int32) then some ((M1 8 0 8), M1) else some ((-1 : Int32), M1)))))))
set_option maxHeartbeats 4000000 in
set_option maxRecDepth 100000 in
theorem c_X8_now (l : Launch) (G : xG) (sz : Nat) (M : xMem) (L : xLL) (a1 : Int32) {rr : Int32} {MM : xMem} (hf : f_X8_now a1 M = some (rr, MM)) : Met l yX8_now (Cond.code yX8_now cX8_now 2 (some .int) :: xTB) (xR 3) (xP G M L sz [.ref (xq G 8 0), .int a1]) (xQi G rr MM L sz) 0 0 (xZ G sz) := by
  refine x_met (cc := cX8_now) (nL := 2) (rt := (some .int)) (by decide) (Nat.le_of_ble_eq_true rfl) ?_
  intro p e s m below meth c ls hsz E hl hI
  subst hsz
  have E : xE p s m _ meth c cX8_now 2 (some .int) RX8 G := E
  have hx := E.1
  have hb := E.2.1
  have hl : lv_has ls 2 [(0, .ref (xq G 8 0)), (1, .int a1)] := hl
  rw [f_X8_now] at hf
  refine lv_aload_n hx hb dX8_now_0 rfl (lv_at hl 0 rfl) ?_
  obtain ⟨M1, g1, hf⟩ := xb1_s hf
  refine x_callVv (As := []) (rest := []) E hI mx_8_0 rfl rfl rfl (c_X8_asItIs l G _ (M := M) (L := L) g1) yv_X8_asItIs ml_X8_156 (by decide) (by decide) rfl rfl hl.1 (Nat.le_of_ble_eq_true rfl) dX8_now_1 (fun H locs hI => ?_)
  refine lv_iload_n hx hb dX8_now_4 rfl (lv_at hl 1 rfl) ?_
  by_cases c5_0 : a1 = (0 : Int32)
  · replace hf := xif_t c5_0 hf
    refine x_tsIn (off := 35) (tgt := 40) hx hb c5_0 dX8_now_5 (by decide) (by decide) (by decide) (by decide) ?_
    refine lv_aload_n hx hb dX8_now_40 rfl (lv_at hl 0 rfl) ?_
    refine lv_iconst (v := 0) hx hb dX8_now_41 (by decide) ?_
    obtain ⟨r42, g42, hf⟩ := xb1_s hf
    refine x_callVi (As := [.int (0 : Int32)]) (rest := []) E hI mx_8_0 rfl rfl rfl (c_X8_inPlace l G _ (M := M1) (L := L) (a1 := (0 : Int32)) g42) yv_X8_inPlace ml_X8_132 (by decide) (by decide) rfl rfl hl.1 (Nat.le_of_ble_eq_true rfl) dX8_now_42 (fun H locs hI => ?_)
    obtain ⟨rfl, rfl⟩ := xinj2 hf
    exact x_iret E hI rfl dX8_now_45
  · replace hf := xif_f c5_0 hf
    by_cases c5_1 : a1 = (1 : Int32)
    · replace hf := xif_t c5_1 hf
      refine x_tsIn (off := 41) (tgt := 46) hx hb c5_1 dX8_now_5 (by decide) (by decide) (by decide) (by decide) ?_
      refine lv_aload_n hx hb dX8_now_46 rfl (lv_at hl 0 rfl) ?_
      refine lv_bipush (v := 8) hx hb dX8_now_47 (by decide) ?_
      obtain ⟨r49, g49, hf⟩ := xb1_s hf
      refine x_callVi (As := [.int (8 : Int32)]) (rest := []) E hI mx_8_0 rfl rfl rfl (c_X8_inPlace l G _ (M := M1) (L := L) (a1 := (8 : Int32)) g49) yv_X8_inPlace ml_X8_132 (by decide) (by decide) rfl rfl hl.1 (Nat.le_of_ble_eq_true rfl) dX8_now_49 (fun H locs hI => ?_)
      obtain ⟨rfl, rfl⟩ := xinj2 hf
      exact x_iret E hI rfl dX8_now_52
    · replace hf := xif_f c5_1 hf
      by_cases c5_2 : a1 = (2 : Int32)
      · replace hf := xif_t c5_2 hf
        refine x_tsIn (off := 48) (tgt := 53) hx hb c5_2 dX8_now_5 (by decide) (by decide) (by decide) (by decide) ?_
        refine lv_aload_n hx hb dX8_now_53 rfl (lv_at hl 0 rfl) ?_
        obtain ⟨r54, g54, hf⟩ := xb1_s hf
        refine x_callVi (As := []) (rest := []) E hI mx_8_0 rfl rfl rfl (c_X8_right l G _ (M := M1) (L := L) g54) yv_X8_right ml_X8_165 (by decide) (by decide) rfl rfl hl.1 (Nat.le_of_ble_eq_true rfl) dX8_now_54 (fun H locs hI => ?_)
        obtain ⟨rfl, rfl⟩ := xinj2 hf
        exact x_iret E hI rfl dX8_now_57
      · replace hf := xif_f c5_2 hf
        by_cases c5_3 : a1 = (3 : Int32)
        · replace hf := xif_t c5_3 hf
          refine x_tsIn (off := 53) (tgt := 58) hx hb c5_3 dX8_now_5 (by decide) (by decide) (by decide) (by decide) ?_
          refine lv_aload_n hx hb dX8_now_58 rfl (lv_at hl 0 rfl) ?_
          obtain ⟨r59, g59, hf⟩ := xb1_s hf
          refine x_callVi (As := []) (rest := []) E hI mx_8_0 rfl rfl rfl (c_X8_fellAll l G _ (M := M1) (L := L) g59) yv_X8_fellAll ml_X8_169 (by decide) (by decide) rfl rfl hl.1 (Nat.le_of_ble_eq_true rfl) dX8_now_59 (fun H locs hI => ?_)
          obtain ⟨rfl, rfl⟩ := xinj2 hf
          exact x_iret E hI rfl dX8_now_62
        · replace hf := xif_f c5_3 hf
          by_cases c5_4 : a1 = (4 : Int32)
          · replace hf := xif_t c5_4 hf
            refine x_tsIn (off := 58) (tgt := 63) hx hb c5_4 dX8_now_5 (by decide) (by decide) (by decide) (by decide) ?_
            refine lv_aload_n hx hb dX8_now_63 rfl (lv_at hl 0 rfl) ?_
            refine gf_X8_122 E hI dX8_now_64 ?_
            obtain ⟨rfl, rfl⟩ := xinj2 hf
            exact x_iret E hI rfl dX8_now_67
          · replace hf := xif_f c5_4 hf
            refine x_tsOut hx hb dX8_now_5 (fun k hk => by
              have hk2 : k = 0 ∨ k = 1 ∨ k = 2 ∨ k = 3 ∨ k = 4 := by
                have hk3 : k < 5 := hk
                omega
              rcases hk2 with rfl | rfl | rfl | rfl | rfl
              · exact c5_0
              · exact c5_1
              · exact c5_2
              · exact c5_3
              · exact c5_4) (tgt := 68) (by decide) ?_
            refine lv_iconst (v := -1) hx hb dX8_now_68 (by decide) ?_
            obtain ⟨rfl, rfl⟩ := xinj2 hf
            exact x_iret E hI rfl dX8_now_69
theorem dX8_remembers_0 : decode cX8_remembers 0 = .ok (.aload_n 0, 1) := by decide +kernel
theorem dX8_remembers_1 : decode cX8_remembers 1 = .ok (.getfield 122, 3) := by decide +kernel
theorem dX8_remembers_4 : decode cX8_remembers 4 = .ok (.bipush 10, 2) := by decide +kernel
theorem dX8_remembers_6 : decode cX8_remembers 6 = .ok (.if_icmp .ne 43, 3) := by decide +kernel
theorem dX8_remembers_9 : decode cX8_remembers 9 = .ok (.iconst 0, 1) := by decide +kernel
theorem dX8_remembers_10 : decode cX8_remembers 10 = .ok (.istore_n 1, 1) := by decide +kernel
theorem dX8_remembers_11 : decode cX8_remembers 11 = .ok (.iload_n 1, 1) := by decide +kernel
theorem dX8_remembers_12 : decode cX8_remembers 12 = .ok (.sipush 243, 3) := by decide +kernel
theorem dX8_remembers_15 : decode cX8_remembers 15 = .ok (.if_icmp .ge 24, 3) := by decide +kernel
theorem dX8_remembers_18 : decode cX8_remembers 18 = .ok (.aload_n 0, 1) := by decide +kernel
theorem dX8_remembers_19 : decode cX8_remembers 19 = .ok (.getfield 25, 3) := by decide +kernel
theorem dX8_remembers_22 : decode cX8_remembers 22 = .ok (.iload_n 1, 1) := by decide +kernel
theorem dX8_remembers_23 : decode cX8_remembers 23 = .ok (.aload_n 0, 1) := by decide +kernel
theorem dX8_remembers_24 : decode cX8_remembers 24 = .ok (.getfield 25, 3) := by decide +kernel
theorem dX8_remembers_27 : decode cX8_remembers 27 = .ok (.iload_n 1, 1) := by decide +kernel
theorem dX8_remembers_28 : decode cX8_remembers 28 = .ok (.bipush 27, 2) := by decide +kernel
theorem dX8_remembers_30 : decode cX8_remembers 30 = .ok (.iadd, 1) := by decide +kernel
theorem dX8_remembers_31 : decode cX8_remembers 31 = .ok (.iaload, 1) := by decide +kernel
theorem dX8_remembers_32 : decode cX8_remembers 32 = .ok (.iastore, 1) := by decide +kernel
theorem dX8_remembers_33 : decode cX8_remembers 33 = .ok (.iinc 1 1, 3) := by decide +kernel
theorem dX8_remembers_36 : decode cX8_remembers 36 = .ok (.goto (-25), 3) := by decide +kernel
theorem dX8_remembers_39 : decode cX8_remembers 39 = .ok (.aload_n 0, 1) := by decide +kernel
theorem dX8_remembers_40 : decode cX8_remembers 40 = .ok (.dup, 1) := by decide +kernel
theorem dX8_remembers_41 : decode cX8_remembers 41 = .ok (.getfield 122, 3) := by decide +kernel
theorem dX8_remembers_44 : decode cX8_remembers 44 = .ok (.iconst 1, 1) := by decide +kernel
theorem dX8_remembers_45 : decode cX8_remembers 45 = .ok (.isub, 1) := by decide +kernel
theorem dX8_remembers_46 : decode cX8_remembers 46 = .ok (.putfield 122, 3) := by decide +kernel
theorem dX8_remembers_49 : decode cX8_remembers 49 = .ok (.aload_n 0, 1) := by decide +kernel
theorem dX8_remembers_50 : decode cX8_remembers 50 = .ok (.getfield 25, 3) := by decide +kernel
theorem dX8_remembers_53 : decode cX8_remembers 53 = .ok (.bipush 27, 2) := by decide +kernel
theorem dX8_remembers_55 : decode cX8_remembers 55 = .ok (.aload_n 0, 1) := by decide +kernel
theorem dX8_remembers_56 : decode cX8_remembers 56 = .ok (.getfield 122, 3) := by decide +kernel
theorem dX8_remembers_59 : decode cX8_remembers 59 = .ok (.imul, 1) := by decide +kernel
theorem dX8_remembers_60 : decode cX8_remembers 60 = .ok (.aload_n 0, 1) := by decide +kernel
theorem dX8_remembers_61 : decode cX8_remembers 61 = .ok (.getfield 22, 3) := by decide +kernel
theorem dX8_remembers_64 : decode cX8_remembers 64 = .ok (.iconst 0, 1) := by decide +kernel
theorem dX8_remembers_65 : decode cX8_remembers 65 = .ok (.invokestatic 128, 3) := by decide +kernel
theorem dX8_remembers_68 : decode cX8_remembers 68 = .ok (.aload_n 0, 1) := by decide +kernel
theorem dX8_remembers_69 : decode cX8_remembers 69 = .ok (.dup, 1) := by decide +kernel
theorem dX8_remembers_70 : decode cX8_remembers 70 = .ok (.getfield 122, 3) := by decide +kernel
theorem dX8_remembers_73 : decode cX8_remembers 73 = .ok (.iconst 1, 1) := by decide +kernel
theorem dX8_remembers_74 : decode cX8_remembers 74 = .ok (.iadd, 1) := by decide +kernel
theorem dX8_remembers_75 : decode cX8_remembers 75 = .ok (.putfield 122, 3) := by decide +kernel
theorem dX8_remembers_78 : decode cX8_remembers 78 = .ok (.return_, 1) := by decide +kernel
def f_X8_remembers_b49 (M49 : xMem) : Option (xMem) := xb1 (f_X8_copy 8 8 270 ((27 : Int32) * (M49 8 0 8)) 8 7 27 (0 : Int32) M49) (fun M65 => xlet (xsf M65 8 8 ((M65 8 0 8) + (1 : Int32))) (fun M75 => some M75))
def f_X8_remembers_l11 (k49 : xMem → Option (xMem)) : Nat → Int32 → xMem → Option (xMem)
  | 0, _, _ => none
  | n + 1, v11_1, M11 => (if (243 : Int32) ≤ v11_1 then xlet (xsf M11 8 8 ((M11 8 0 8) - (1 : Int32))) (fun M46 => k49 M46) else xchk (xb (v11_1 + (27 : Int32)) 270) (xchk (xb v11_1 270) (xlet (xst M11 8 8 v11_1 (M11 8 8 (v11_1 + (27 : Int32)).toNatClampNeg)) (fun M32 => (f_X8_remembers_l11 k49 n) (v11_1 + (1 : Int32)) M32))))
def f_X8_remembers (M : xMem) : Option (xMem) := (if (M 8 0 8) = (10 : Int32) then (f_X8_remembers_l11 (f_X8_remembers_b49) FU) (0 : Int32) M else (f_X8_remembers_b49) M)
set_option maxHeartbeats 4000000 in
set_option maxRecDepth 100000 in
theorem w_X8_remembers_b49 {p : Program} {l : Launch} {e : Env} {s : State} {m : MethodId} {args : Array Value} {below : List Frame} {meth : Method} {c : Code} {G : xG} {MM : xMem} (E : xE p s m args meth c cX8_remembers 2 none RX8 G) (M : xMem) (L : xLL) : ∀ (M49 : xMem), f_X8_remembers_b49 M49 = some MM → ∀ (ls : Array Slot), lv_has ls 2 [(0, .ref (xq G 8 0))] → ∀ (H : Heap) (locs : List Loc), xI G M49 L s.heap H locs → W p l e (xR 2) s m args below meth c H locs 0 0 (MQ below (xQv G MM L s.heap.size) args s 0 0 (xZ G s.heap.size)) (F0 m 49 ls []) := by
  have hx := E.1
  have hb := E.2.1
  intro M49 hf ls hl H locs hI
  rw [f_X8_remembers_b49] at hf
  refine lv_aload_n hx hb dX8_remembers_49 rfl (lv_at hl 0 rfl) ?_
  refine gf_X8_25 E hI dX8_remembers_50 ?_
  refine lv_bipush (v := 27) hx hb dX8_remembers_53 (by decide) ?_
  refine lv_aload_n hx hb dX8_remembers_55 rfl (lv_at hl 0 rfl) ?_
  refine gf_X8_122 E hI dX8_remembers_56 ?_
  refine lv_imul hx hb dX8_remembers_59 ?_
  refine lv_aload_n hx hb dX8_remembers_60 rfl (lv_at hl 0 rfl) ?_
  refine gf_X8_22 E hI dX8_remembers_61 ?_
  refine lv_iconst (v := 0) hx hb dX8_remembers_64 (by decide) ?_
  obtain ⟨M65, g65, hf⟩ := xb1_s hf
  refine x_callSv (As := [.ref (xq G 8 8), .int ((27 : Int32) * (M49 8 0 8)), .ref (xq G 8 7), .int (0 : Int32)]) (rest := []) E hI (c_X8_copy l G _ (M := M49) (L := L) (o0 := 8) (r0 := 8) (n0 := 270) (hm0 := mx_8_8) (hc0 := (fun _ _ => rfl)) (a1 := ((27 : Int32) * (M49 8 0 8))) (o2 := 8) (r2 := 7) (n2 := 27) (hm2 := mx_8_7) (hc2 := (fun _ _ => rfl)) (a3 := (0 : Int32)) g65) ys_X8_copy ml_X8_128 (by decide) (by decide) rfl rfl hl.1 (Nat.le_of_ble_eq_true rfl) dX8_remembers_65 (fun H locs hI => ?_)
  refine lv_aload_n hx hb dX8_remembers_68 rfl (lv_at hl 0 rfl) ?_
  refine lv_dup hx hb dX8_remembers_69 rfl ?_
  refine gf_X8_122 E hI dX8_remembers_70 ?_
  refine lv_iconst (v := 1) hx hb dX8_remembers_73 (by decide) ?_
  refine lv_iadd hx hb dX8_remembers_74 ?_
  obtain ⟨M75, e75, hf⟩ := xlet_s hf
  refine pf_X8_122 E hI dX8_remembers_75 e75 (fun H locs hI => ?_)
  obtain rfl := xinj1 hf
  exact x_vret E hI dX8_remembers_78
set_option maxHeartbeats 4000000 in
set_option maxRecDepth 100000 in
theorem w_X8_remembers_l11 {p : Program} {l : Launch} {e : Env} {s : State} {m : MethodId} {args : Array Value} {below : List Frame} {meth : Method} {c : Code} {G : xG} {MM : xMem} (E : xE p s m args meth c cX8_remembers 2 none RX8 G) (M : xMem) (L : xLL) (k49 : xMem → Option (xMem)) (hk49 : ∀ (M49 : xMem), k49 M49 = some MM → ∀ (ls : Array Slot), lv_has ls 2 [(0, .ref (xq G 8 0))] → ∀ (H : Heap) (locs : List Loc), xI G M49 L s.heap H locs → W p l e (xR 2) s m args below meth c H locs 0 0 (MQ below (xQv G MM L s.heap.size) args s 0 0 (xZ G s.heap.size)) (F0 m 49 ls [])) : ∀ (n : Nat), ∀ (v11_1 : Int32) (M11 : xMem), f_X8_remembers_l11 k49 n v11_1 M11 = some MM → ∀ (ls : Array Slot), lv_has ls 2 [(0, .ref (xq G 8 0)), (1, .int v11_1)] → ∀ (H : Heap) (locs : List Loc), xI G M11 L s.heap H locs → W p l e (xR 2) s m args below meth c H locs 0 0 (MQ below (xQv G MM L s.heap.size) args s 0 0 (xZ G s.heap.size)) (F0 m 11 ls []) := by
  have hx := E.1
  have hb := E.2.1
  intro n
  induction n with
  | zero =>
    intro v11_1 M11 hf
    exact absurd hf (by simp [f_X8_remembers_l11])
  | succ n ih =>
    intro v11_1 M11 hf ls hl H locs hI
    rw [f_X8_remembers_l11] at hf
    refine lv_iload_n hx hb dX8_remembers_11 rfl (lv_at hl 1 rfl) ?_
    refine lv_sipush (v := 243) hx hb dX8_remembers_12 (by decide) ?_
    refine lv_icmp_ge (tgt := 39) hx hb dX8_remembers_15 (by decide) (fun c15 => ?_) (fun c15 => ?_)
    · replace hf := xif_t c15 hf
      refine lv_aload_n hx hb dX8_remembers_39 rfl (lv_at hl 0 rfl) ?_
      refine lv_dup hx hb dX8_remembers_40 rfl ?_
      refine gf_X8_122 E hI dX8_remembers_41 ?_
      refine lv_iconst (v := 1) hx hb dX8_remembers_44 (by decide) ?_
      refine lv_isub hx hb dX8_remembers_45 ?_
      obtain ⟨M46, e46, hf⟩ := xlet_s hf
      refine pf_X8_122 E hI dX8_remembers_46 e46 (fun H locs hI => ?_)
      exact hk49 M46 hf _ (lv_sub hl [0] rfl) _ _ hI
    · replace hf := xif_f c15 hf
      refine lv_aload_n hx hb dX8_remembers_18 rfl (lv_at hl 0 rfl) ?_
      refine gf_X8_25 E hI dX8_remembers_19 ?_
      refine lv_iload_n hx hb dX8_remembers_22 rfl (lv_at hl 1 rfl) ?_
      refine lv_aload_n hx hb dX8_remembers_23 rfl (lv_at hl 0 rfl) ?_
      refine gf_X8_25 E hI dX8_remembers_24 ?_
      refine lv_iload_n hx hb dX8_remembers_27 rfl (lv_at hl 1 rfl) ?_
      refine lv_bipush (v := 27) hx hb dX8_remembers_28 (by decide) ?_
      refine lv_iadd hx hb dX8_remembers_30 ?_
      obtain ⟨h31b, hf⟩ := xchk_s hf
      refine x_iald (n := 270) E hI mx_8_8 (fun _ _ => rfl) h31b dX8_remembers_31 ?_
      obtain ⟨h32b, hf⟩ := xchk_s hf
      obtain ⟨M32, e32, hf⟩ := xlet_s hf
      refine x_iast (n := 270) E hI mx_8_8 (fun _ _ => rfl) h32b dX8_remembers_32 e32 (fun H locs hI => ?_)
      refine lv_iinc (v := (v11_1 + (1 : Int32))) (lv' := [(1, .int (v11_1 + (1 : Int32))), (0, .ref (xq G 8 0))]) hx hb dX8_remembers_33 hl (k := 1) rfl rfl (by decide) rfl (fun ls hl => ?_)
      refine lv_goto (tgt := 11) hx hb dX8_remembers_36 (by decide) ?_
      exact ih (v11_1 + (1 : Int32)) M32 hf _ (lv_sub hl [1, 0] rfl) _ _ hI
set_option maxHeartbeats 4000000 in
set_option maxRecDepth 100000 in
theorem c_X8_remembers (l : Launch) (G : xG) (sz : Nat) (M : xMem) (L : xLL) {MM : xMem} (hf : f_X8_remembers M = some MM) : Met l yX8_remembers (Cond.code yX8_remembers cX8_remembers 2 none :: xTB) (xR 2) (xP G M L sz [.ref (xq G 8 0)]) (xQv G MM L sz) 0 0 (xZ G sz) := by
  refine x_met (cc := cX8_remembers) (nL := 2) (rt := none) (by decide) (Nat.le_of_ble_eq_true rfl) ?_
  intro p e s m below meth c ls hsz E hl hI
  subst hsz
  have E : xE p s m _ meth c cX8_remembers 2 none RX8 G := E
  have hx := E.1
  have hb := E.2.1
  have hl : lv_has ls 2 [(0, .ref (xq G 8 0))] := hl
  rw [f_X8_remembers] at hf
  refine lv_aload_n hx hb dX8_remembers_0 rfl (lv_at hl 0 rfl) ?_
  refine gf_X8_122 E hI dX8_remembers_1 ?_
  refine lv_bipush (v := 10) hx hb dX8_remembers_4 (by decide) ?_
  refine lv_icmp_ne (tgt := 49) hx hb dX8_remembers_6 (by decide) (fun c6 => ?_) (fun c6 => ?_)
  · replace hf := xif_f c6 hf
    exact (w_X8_remembers_b49 E (M := M) (L := L)) M hf _ (lv_sub hl [0] rfl) _ _ hI
  · replace hf := xif_t c6 hf
    refine lv_iconst (v := 0) hx hb dX8_remembers_9 (by decide) ?_
    refine lv_istore_n (lv' := [(1, .int (0 : Int32)), (0, .ref (xq G 8 0))]) hx hb dX8_remembers_10 rfl hl (by decide) rfl (fun ls hl => ?_)
    exact (w_X8_remembers_l11 E (M := M) (L := L) (k49 := (f_X8_remembers_b49)) (hk49 := (w_X8_remembers_b49 E (M := M) (L := L))) FU) (0 : Int32) M hf _ (lv_sub hl [1, 0] rfl) _ _ hI
theorem dX8_rolls_0 : decode cX8_rolls 0 = .ok (.aload_n 0, 1) := by decide +kernel
theorem dX8_rolls_1 : decode cX8_rolls 1 = .ok (.iload_n 1, 1) := by decide +kernel
theorem dX8_rolls_2 : decode cX8_rolls 2 = .ok (.invokevirtual 162, 3) := by decide +kernel
theorem dX8_rolls_5 : decode cX8_rolls 5 = .ok (.ifCond .ne 5, 3) := by decide +kernel
theorem dX8_rolls_8 : decode cX8_rolls 8 = .ok (.iconst (-1), 1) := by decide +kernel
theorem dX8_rolls_9 : decode cX8_rolls 9 = .ok (.ireturn, 1) := by decide +kernel
theorem dX8_rolls_10 : decode cX8_rolls 10 = .ok (.aload_n 0, 1) := by decide +kernel
theorem dX8_rolls_11 : decode cX8_rolls 11 = .ok (.getfield 22, 3) := by decide +kernel
theorem dX8_rolls_14 : decode cX8_rolls 14 = .ok (.iconst 0, 1) := by decide +kernel
theorem dX8_rolls_15 : decode cX8_rolls 15 = .ok (.iload_n 1, 1) := by decide +kernel
theorem dX8_rolls_16 : decode cX8_rolls 16 = .ok (.iadd, 1) := by decide +kernel
theorem dX8_rolls_17 : decode cX8_rolls 17 = .ok (.iaload, 1) := by decide +kernel
theorem dX8_rolls_18 : decode cX8_rolls 18 = .ok (.ifCond .eq 6, 3) := by decide +kernel
theorem dX8_rolls_21 : decode cX8_rolls 21 = .ok (.bipush (-2), 2) := by decide +kernel
theorem dX8_rolls_23 : decode cX8_rolls 23 = .ok (.ireturn, 1) := by decide +kernel
theorem dX8_rolls_24 : decode cX8_rolls 24 = .ok (.aload_n 0, 1) := by decide +kernel
theorem dX8_rolls_25 : decode cX8_rolls 25 = .ok (.invokevirtual 172, 3) := by decide +kernel
theorem dX8_rolls_28 : decode cX8_rolls 28 = .ok (.aload_n 0, 1) := by decide +kernel
theorem dX8_rolls_29 : decode cX8_rolls 29 = .ok (.invokevirtual 156, 3) := by decide +kernel
theorem dX8_rolls_32 : decode cX8_rolls 32 = .ok (.aload_n 0, 1) := by decide +kernel
theorem dX8_rolls_33 : decode cX8_rolls 33 = .ok (.iload_n 1, 1) := by decide +kernel
theorem dX8_rolls_34 : decode cX8_rolls 34 = .ok (.invokevirtual 175, 3) := by decide +kernel
theorem dX8_rolls_37 : decode cX8_rolls 37 = .ok (.istore_n 2, 1) := by decide +kernel
theorem dX8_rolls_38 : decode cX8_rolls 38 = .ok (.aload_n 0, 1) := by decide +kernel
theorem dX8_rolls_39 : decode cX8_rolls 39 = .ok (.getfield 22, 3) := by decide +kernel
theorem dX8_rolls_42 : decode cX8_rolls 42 = .ok (.iconst 0, 1) := by decide +kernel
theorem dX8_rolls_43 : decode cX8_rolls 43 = .ok (.aload_n 0, 1) := by decide +kernel
theorem dX8_rolls_44 : decode cX8_rolls 44 = .ok (.getfield 47, 3) := by decide +kernel
theorem dX8_rolls_47 : decode cX8_rolls 47 = .ok (.iconst 0, 1) := by decide +kernel
theorem dX8_rolls_48 : decode cX8_rolls 48 = .ok (.invokestatic 128, 3) := by decide +kernel
theorem dX8_rolls_51 : decode cX8_rolls 51 = .ok (.iload_n 2, 1) := by decide +kernel
theorem dX8_rolls_52 : decode cX8_rolls 52 = .ok (.ireturn, 1) := by decide +kernel
def f_X8_rolls (a1 : Int32) (M : xMem) : Option (Int32 × xMem) := xb1 (f_X8_isEgg a1 M) (fun r2 => (if r2 = (0 : Int32) then some ((-1 : Int32), M) else xchk (xb ((0 : Int32) + a1) 27) ((if (M 8 7 ((0 : Int32) + a1).toNatClampNeg) = (0 : Int32) then xb1 (f_X8_remembers M) (fun M25 => xb1 (f_X8_asItIs M25) (fun M29 => xb2 (f_X8_rolled a1 M29) (fun r34 M34 => xb1 (f_X8_copy 8 7 27 (0 : Int32) 8 27 27 (0 : Int32) M34) (fun M48 => some (r34, M48))))) else some ((-2 : Int32), M)))))
set_option maxHeartbeats 4000000 in
set_option maxRecDepth 100000 in
theorem c_X8_rolls (l : Launch) (G : xG) (sz : Nat) (M : xMem) (L : xLL) (a1 : Int32) {rr : Int32} {MM : xMem} (hf : f_X8_rolls a1 M = some (rr, MM)) : Met l yX8_rolls (Cond.code yX8_rolls cX8_rolls 3 (some .int) :: xTB) (xR 4) (xP G M L sz [.ref (xq G 8 0), .int a1]) (xQi G rr MM L sz) 0 0 (xZ G sz) := by
  refine x_met (cc := cX8_rolls) (nL := 3) (rt := (some .int)) (by decide) (Nat.le_of_ble_eq_true rfl) ?_
  intro p e s m below meth c ls hsz E hl hI
  subst hsz
  have E : xE p s m _ meth c cX8_rolls 3 (some .int) RX8 G := E
  have hx := E.1
  have hb := E.2.1
  have hl : lv_has ls 3 [(0, .ref (xq G 8 0)), (1, .int a1)] := hl
  rw [f_X8_rolls] at hf
  refine lv_aload_n hx hb dX8_rolls_0 rfl (lv_at hl 0 rfl) ?_
  refine lv_iload_n hx hb dX8_rolls_1 rfl (lv_at hl 1 rfl) ?_
  obtain ⟨r2, g2, hf⟩ := xb1_s hf
  refine x_callVi (As := [.int a1]) (rest := []) E hI mx_8_0 rfl rfl rfl (c_X8_isEgg l G _ (M := M) (L := L) (a1 := a1) g2) yv_X8_isEgg ml_X8_162 (by decide) (by decide) rfl rfl hl.1 (Nat.le_of_ble_eq_true rfl) dX8_rolls_2 (fun H locs hI => ?_)
  refine lv_if_ne (tgt := 10) hx hb dX8_rolls_5 (by decide) (fun c5 => ?_) (fun c5 => ?_)
  · replace hf := xif_f c5 hf
    refine lv_aload_n hx hb dX8_rolls_10 rfl (lv_at hl 0 rfl) ?_
    refine gf_X8_22 E hI dX8_rolls_11 ?_
    refine lv_iconst (v := 0) hx hb dX8_rolls_14 (by decide) ?_
    refine lv_iload_n hx hb dX8_rolls_15 rfl (lv_at hl 1 rfl) ?_
    refine lv_iadd hx hb dX8_rolls_16 ?_
    obtain ⟨h17b, hf⟩ := xchk_s hf
    refine x_iald (n := 27) E hI mx_8_7 (fun _ _ => rfl) h17b dX8_rolls_17 ?_
    refine lv_if_eq (tgt := 24) hx hb dX8_rolls_18 (by decide) (fun c18 => ?_) (fun c18 => ?_)
    · replace hf := xif_t c18 hf
      refine lv_aload_n hx hb dX8_rolls_24 rfl (lv_at hl 0 rfl) ?_
      obtain ⟨M25, g25, hf⟩ := xb1_s hf
      refine x_callVv (As := []) (rest := []) E hI mx_8_0 rfl rfl rfl (c_X8_remembers l G _ (M := M) (L := L) g25) yv_X8_remembers ml_X8_172 (by decide) (by decide) rfl rfl hl.1 (Nat.le_of_ble_eq_true rfl) dX8_rolls_25 (fun H locs hI => ?_)
      refine lv_aload_n hx hb dX8_rolls_28 rfl (lv_at hl 0 rfl) ?_
      obtain ⟨M29, g29, hf⟩ := xb1_s hf
      refine x_callVv (As := []) (rest := []) E hI mx_8_0 rfl rfl rfl (c_X8_asItIs l G _ (M := M25) (L := L) g29) yv_X8_asItIs ml_X8_156 (by decide) (by decide) rfl rfl hl.1 (Nat.le_of_ble_eq_true rfl) dX8_rolls_29 (fun H locs hI => ?_)
      refine lv_aload_n hx hb dX8_rolls_32 rfl (lv_at hl 0 rfl) ?_
      refine lv_iload_n hx hb dX8_rolls_33 rfl (lv_at hl 1 rfl) ?_
      obtain ⟨r34, M34, g34, hf⟩ := xb2_s hf
      refine x_callVi (As := [.int a1]) (rest := []) E hI mx_8_0 rfl rfl rfl (c_X8_rolled l G _ (M := M29) (L := L) (a1 := a1) g34) yv_X8_rolled ml_X8_175 (by decide) (by decide) rfl rfl hl.1 (Nat.le_of_ble_eq_true rfl) dX8_rolls_34 (fun H locs hI => ?_)
      refine lv_istore_n (lv' := [(2, .int r34), (0, .ref (xq G 8 0)), (1, .int a1)]) hx hb dX8_rolls_37 rfl hl (by decide) rfl (fun ls hl => ?_)
      refine lv_aload_n hx hb dX8_rolls_38 rfl (lv_at hl 1 rfl) ?_
      refine gf_X8_22 E hI dX8_rolls_39 ?_
      refine lv_iconst (v := 0) hx hb dX8_rolls_42 (by decide) ?_
      refine lv_aload_n hx hb dX8_rolls_43 rfl (lv_at hl 1 rfl) ?_
      refine gf_X8_47 E hI dX8_rolls_44 ?_
      refine lv_iconst (v := 0) hx hb dX8_rolls_47 (by decide) ?_
      obtain ⟨M48, g48, hf⟩ := xb1_s hf
      refine x_callSv (As := [.ref (xq G 8 7), .int (0 : Int32), .ref (xq G 8 27), .int (0 : Int32)]) (rest := []) E hI (c_X8_copy l G _ (M := M34) (L := L) (o0 := 8) (r0 := 7) (n0 := 27) (hm0 := mx_8_7) (hc0 := (fun _ _ => rfl)) (a1 := (0 : Int32)) (o2 := 8) (r2 := 27) (n2 := 27) (hm2 := mx_8_27) (hc2 := (fun _ _ => rfl)) (a3 := (0 : Int32)) g48) ys_X8_copy ml_X8_128 (by decide) (by decide) rfl rfl hl.1 (Nat.le_of_ble_eq_true rfl) dX8_rolls_48 (fun H locs hI => ?_)
      refine lv_iload_n hx hb dX8_rolls_51 rfl (lv_at hl 0 rfl) ?_
      obtain ⟨rfl, rfl⟩ := xinj2 hf
      exact x_iret E hI rfl dX8_rolls_52
    · replace hf := xif_f c18 hf
      refine lv_bipush (v := -2) hx hb dX8_rolls_21 (by decide) ?_
      obtain ⟨rfl, rfl⟩ := xinj2 hf
      exact x_iret E hI rfl dX8_rolls_23
  · replace hf := xif_t c5 hf
    refine lv_iconst (v := -1) hx hb dX8_rolls_8 (by decide) ?_
    obtain ⟨rfl, rfl⟩ := xinj2 hf
    exact x_iret E hI rfl dX8_rolls_9
theorem dX8_takes_0 : decode cX8_takes 0 = .ok (.aload_n 0, 1) := by decide +kernel
theorem dX8_takes_1 : decode cX8_takes 1 = .ok (.iload_n 1, 1) := by decide +kernel
theorem dX8_takes_2 : decode cX8_takes 2 = .ok (.invokevirtual 162, 3) := by decide +kernel
theorem dX8_takes_5 : decode cX8_takes 5 = .ok (.ifCond .ne 5, 3) := by decide +kernel
theorem dX8_takes_8 : decode cX8_takes 8 = .ok (.iconst (-1), 1) := by decide +kernel
theorem dX8_takes_9 : decode cX8_takes 9 = .ok (.ireturn, 1) := by decide +kernel
theorem dX8_takes_10 : decode cX8_takes 10 = .ok (.aload_n 0, 1) := by decide +kernel
theorem dX8_takes_11 : decode cX8_takes 11 = .ok (.getfield 22, 3) := by decide +kernel
theorem dX8_takes_14 : decode cX8_takes 14 = .ok (.iconst 0, 1) := by decide +kernel
theorem dX8_takes_15 : decode cX8_takes 15 = .ok (.iload_n 1, 1) := by decide +kernel
theorem dX8_takes_16 : decode cX8_takes 16 = .ok (.iadd, 1) := by decide +kernel
theorem dX8_takes_17 : decode cX8_takes 17 = .ok (.iaload, 1) := by decide +kernel
theorem dX8_takes_18 : decode cX8_takes 18 = .ok (.ifCond .eq 16, 3) := by decide +kernel
theorem dX8_takes_21 : decode cX8_takes 21 = .ok (.aload_n 0, 1) := by decide +kernel
theorem dX8_takes_22 : decode cX8_takes 22 = .ok (.getfield 22, 3) := by decide +kernel
theorem dX8_takes_25 : decode cX8_takes 25 = .ok (.iconst 0, 1) := by decide +kernel
theorem dX8_takes_26 : decode cX8_takes 26 = .ok (.iload_n 1, 1) := by decide +kernel
theorem dX8_takes_27 : decode cX8_takes 27 = .ok (.iadd, 1) := by decide +kernel
theorem dX8_takes_28 : decode cX8_takes 28 = .ok (.iaload, 1) := by decide +kernel
theorem dX8_takes_29 : decode cX8_takes 29 = .ok (.bipush 9, 2) := by decide +kernel
theorem dX8_takes_31 : decode cX8_takes 31 = .ok (.if_icmp .ne 6, 3) := by decide +kernel
theorem dX8_takes_34 : decode cX8_takes 34 = .ok (.bipush (-2), 2) := by decide +kernel
theorem dX8_takes_36 : decode cX8_takes 36 = .ok (.ireturn, 1) := by decide +kernel
theorem dX8_takes_37 : decode cX8_takes 37 = .ok (.aload_n 0, 1) := by decide +kernel
theorem dX8_takes_38 : decode cX8_takes 38 = .ok (.invokevirtual 172, 3) := by decide +kernel
theorem dX8_takes_41 : decode cX8_takes 41 = .ok (.aload_n 0, 1) := by decide +kernel
theorem dX8_takes_42 : decode cX8_takes 42 = .ok (.getfield 22, 3) := by decide +kernel
theorem dX8_takes_45 : decode cX8_takes 45 = .ok (.iconst 0, 1) := by decide +kernel
theorem dX8_takes_46 : decode cX8_takes 46 = .ok (.iload_n 1, 1) := by decide +kernel
theorem dX8_takes_47 : decode cX8_takes 47 = .ok (.iadd, 1) := by decide +kernel
theorem dX8_takes_48 : decode cX8_takes 48 = .ok (.iconst 0, 1) := by decide +kernel
theorem dX8_takes_49 : decode cX8_takes 49 = .ok (.iastore, 1) := by decide +kernel
theorem dX8_takes_50 : decode cX8_takes 50 = .ok (.aload_n 0, 1) := by decide +kernel
theorem dX8_takes_51 : decode cX8_takes 51 = .ok (.invokevirtual 156, 3) := by decide +kernel
theorem dX8_takes_54 : decode cX8_takes 54 = .ok (.aload_n 0, 1) := by decide +kernel
theorem dX8_takes_55 : decode cX8_takes 55 = .ok (.iconst 0, 1) := by decide +kernel
theorem dX8_takes_56 : decode cX8_takes 56 = .ok (.invokevirtual 132, 3) := by decide +kernel
theorem dX8_takes_59 : decode cX8_takes 59 = .ok (.invokestatic 135, 3) := by decide +kernel
theorem dX8_takes_62 : decode cX8_takes 62 = .ok (.ireturn, 1) := by decide +kernel
def f_X8_takes_b34 (M : xMem) : Option (Int32 × xMem) := some ((-2 : Int32), M)
def f_X8_takes (a1 : Int32) (M : xMem) : Option (Int32 × xMem) := xb1 (f_X8_isEgg a1 M) (fun r2 => (if r2 = (0 : Int32) then some ((-1 : Int32), M) else xchk (xb ((0 : Int32) + a1) 27) ((if (M 8 7 ((0 : Int32) + a1).toNatClampNeg) = (0 : Int32) then (f_X8_takes_b34 M) else xchk (xb ((0 : Int32) + a1) 27) ((if (M 8 7 ((0 : Int32) + a1).toNatClampNeg) = (9 : Int32) then (f_X8_takes_b34 M) else xb1 (f_X8_remembers M) (fun M38 => xchk (xb ((0 : Int32) + a1) 27) (xlet (xst M38 8 7 ((0 : Int32) + a1) (0 : Int32)) (fun M49 => xb1 (f_X8_asItIs M49) (fun M51 => xb1 (f_X8_inPlace (0 : Int32) M51) (fun r56 => xb1 (f_X8_bits r56 M51) (fun r59 => some (r59, M51)))))))))))))
set_option maxHeartbeats 4000000 in
set_option maxRecDepth 100000 in
theorem w_X8_takes_b34 {p : Program} {l : Launch} {e : Env} {s : State} {m : MethodId} {args : Array Value} {below : List Frame} {meth : Method} {c : Code} {G : xG} {rr : Int32} {MM : xMem} (E : xE p s m args meth c cX8_takes 2 (some .int) RX8 G) (M : xMem) (L : xLL) : f_X8_takes_b34 M  = some (rr, MM) → ∀ (ls : Array Slot), lv_has ls 2 [] → ∀ (H : Heap) (locs : List Loc), xI G M L s.heap H locs → W p l e (xR 3) s m args below meth c H locs 0 0 (MQ below (xQi G rr MM L s.heap.size) args s 0 0 (xZ G s.heap.size)) (F0 m 34 ls []) := by
  have hx := E.1
  have hb := E.2.1
  intro  hf ls hl H locs hI
  rw [f_X8_takes_b34] at hf
  refine lv_bipush (v := -2) hx hb dX8_takes_34 (by decide) ?_
  obtain ⟨rfl, rfl⟩ := xinj2 hf
  exact x_iret E hI rfl dX8_takes_36
set_option maxHeartbeats 4000000 in
set_option maxRecDepth 100000 in
theorem c_X8_takes (l : Launch) (G : xG) (sz : Nat) (M : xMem) (L : xLL) (a1 : Int32) {rr : Int32} {MM : xMem} (hf : f_X8_takes a1 M = some (rr, MM)) : Met l yX8_takes (Cond.code yX8_takes cX8_takes 2 (some .int) :: xTB) (xR 3) (xP G M L sz [.ref (xq G 8 0), .int a1]) (xQi G rr MM L sz) 0 0 (xZ G sz) := by
  refine x_met (cc := cX8_takes) (nL := 2) (rt := (some .int)) (by decide) (Nat.le_of_ble_eq_true rfl) ?_
  intro p e s m below meth c ls hsz E hl hI
  subst hsz
  have E : xE p s m _ meth c cX8_takes 2 (some .int) RX8 G := E
  have hx := E.1
  have hb := E.2.1
  have hl : lv_has ls 2 [(0, .ref (xq G 8 0)), (1, .int a1)] := hl
  rw [f_X8_takes] at hf
  refine lv_aload_n hx hb dX8_takes_0 rfl (lv_at hl 0 rfl) ?_
  refine lv_iload_n hx hb dX8_takes_1 rfl (lv_at hl 1 rfl) ?_
  obtain ⟨r2, g2, hf⟩ := xb1_s hf
  refine x_callVi (As := [.int a1]) (rest := []) E hI mx_8_0 rfl rfl rfl (c_X8_isEgg l G _ (M := M) (L := L) (a1 := a1) g2) yv_X8_isEgg ml_X8_162 (by decide) (by decide) rfl rfl hl.1 (Nat.le_of_ble_eq_true rfl) dX8_takes_2 (fun H locs hI => ?_)
  refine lv_if_ne (tgt := 10) hx hb dX8_takes_5 (by decide) (fun c5 => ?_) (fun c5 => ?_)
  · replace hf := xif_f c5 hf
    refine lv_aload_n hx hb dX8_takes_10 rfl (lv_at hl 0 rfl) ?_
    refine gf_X8_22 E hI dX8_takes_11 ?_
    refine lv_iconst (v := 0) hx hb dX8_takes_14 (by decide) ?_
    refine lv_iload_n hx hb dX8_takes_15 rfl (lv_at hl 1 rfl) ?_
    refine lv_iadd hx hb dX8_takes_16 ?_
    obtain ⟨h17b, hf⟩ := xchk_s hf
    refine x_iald (n := 27) E hI mx_8_7 (fun _ _ => rfl) h17b dX8_takes_17 ?_
    refine lv_if_eq (tgt := 34) hx hb dX8_takes_18 (by decide) (fun c18 => ?_) (fun c18 => ?_)
    · replace hf := xif_t c18 hf
      exact (w_X8_takes_b34 E (M := M) (L := L))  hf _ (lv_sub hl [] rfl) _ _ hI
    · replace hf := xif_f c18 hf
      refine lv_aload_n hx hb dX8_takes_21 rfl (lv_at hl 0 rfl) ?_
      refine gf_X8_22 E hI dX8_takes_22 ?_
      refine lv_iconst (v := 0) hx hb dX8_takes_25 (by decide) ?_
      refine lv_iload_n hx hb dX8_takes_26 rfl (lv_at hl 1 rfl) ?_
      refine lv_iadd hx hb dX8_takes_27 ?_
      obtain ⟨h28b, hf⟩ := xchk_s hf
      refine x_iald (n := 27) E hI mx_8_7 (fun _ _ => rfl) h28b dX8_takes_28 ?_
      refine lv_bipush (v := 9) hx hb dX8_takes_29 (by decide) ?_
      refine lv_icmp_ne (tgt := 37) hx hb dX8_takes_31 (by decide) (fun c31 => ?_) (fun c31 => ?_)
      · replace hf := xif_f c31 hf
        refine lv_aload_n hx hb dX8_takes_37 rfl (lv_at hl 0 rfl) ?_
        obtain ⟨M38, g38, hf⟩ := xb1_s hf
        refine x_callVv (As := []) (rest := []) E hI mx_8_0 rfl rfl rfl (c_X8_remembers l G _ (M := M) (L := L) g38) yv_X8_remembers ml_X8_172 (by decide) (by decide) rfl rfl hl.1 (Nat.le_of_ble_eq_true rfl) dX8_takes_38 (fun H locs hI => ?_)
        refine lv_aload_n hx hb dX8_takes_41 rfl (lv_at hl 0 rfl) ?_
        refine gf_X8_22 E hI dX8_takes_42 ?_
        refine lv_iconst (v := 0) hx hb dX8_takes_45 (by decide) ?_
        refine lv_iload_n hx hb dX8_takes_46 rfl (lv_at hl 1 rfl) ?_
        refine lv_iadd hx hb dX8_takes_47 ?_
        refine lv_iconst (v := 0) hx hb dX8_takes_48 (by decide) ?_
        obtain ⟨h49b, hf⟩ := xchk_s hf
        obtain ⟨M49, e49, hf⟩ := xlet_s hf
        refine x_iast (n := 27) E hI mx_8_7 (fun _ _ => rfl) h49b dX8_takes_49 e49 (fun H locs hI => ?_)
        refine lv_aload_n hx hb dX8_takes_50 rfl (lv_at hl 0 rfl) ?_
        obtain ⟨M51, g51, hf⟩ := xb1_s hf
        refine x_callVv (As := []) (rest := []) E hI mx_8_0 rfl rfl rfl (c_X8_asItIs l G _ (M := M49) (L := L) g51) yv_X8_asItIs ml_X8_156 (by decide) (by decide) rfl rfl hl.1 (Nat.le_of_ble_eq_true rfl) dX8_takes_51 (fun H locs hI => ?_)
        refine lv_aload_n hx hb dX8_takes_54 rfl (lv_at hl 0 rfl) ?_
        refine lv_iconst (v := 0) hx hb dX8_takes_55 (by decide) ?_
        obtain ⟨r56, g56, hf⟩ := xb1_s hf
        refine x_callVi (As := [.int (0 : Int32)]) (rest := []) E hI mx_8_0 rfl rfl rfl (c_X8_inPlace l G _ (M := M51) (L := L) (a1 := (0 : Int32)) g56) yv_X8_inPlace ml_X8_132 (by decide) (by decide) rfl rfl hl.1 (Nat.le_of_ble_eq_true rfl) dX8_takes_56 (fun H locs hI => ?_)
        obtain ⟨r59, g59, hf⟩ := xb1_s hf
        refine x_callSi (As := [.int r56]) (rest := []) E hI (c_X8_bits l G _ (M := M51) (L := L) (a0 := r56) g59) ys_X8_bits ml_X8_135 (by decide) (by decide) rfl rfl hl.1 (Nat.le_of_ble_eq_true rfl) dX8_takes_59 (fun H locs hI => ?_)
        obtain ⟨rfl, rfl⟩ := xinj2 hf
        exact x_iret E hI rfl dX8_takes_62
      · replace hf := xif_t c31 hf
        exact (w_X8_takes_b34 E (M := M) (L := L))  hf _ (lv_sub hl [] rfl) _ _ hI
  · replace hf := xif_t c5 hf
    refine lv_iconst (v := -1) hx hb dX8_takes_8 (by decide) ?_
    obtain ⟨rfl, rfl⟩ := xinj2 hf
    exact x_iret E hI rfl dX8_takes_9
theorem dX8_wipes_0 : decode cX8_wipes 0 = .ok (.aload_n 0, 1) := by decide +kernel
theorem dX8_wipes_1 : decode cX8_wipes 1 = .ok (.iload_n 1, 1) := by decide +kernel
theorem dX8_wipes_2 : decode cX8_wipes 2 = .ok (.invokevirtual 153, 3) := by decide +kernel
theorem dX8_wipes_5 : decode cX8_wipes 5 = .ok (.ifCond .ne 5, 3) := by decide +kernel
theorem dX8_wipes_8 : decode cX8_wipes 8 = .ok (.iconst (-1), 1) := by decide +kernel
theorem dX8_wipes_9 : decode cX8_wipes 9 = .ok (.ireturn, 1) := by decide +kernel
theorem dX8_wipes_10 : decode cX8_wipes 10 = .ok (.aload_n 0, 1) := by decide +kernel
theorem dX8_wipes_11 : decode cX8_wipes 11 = .ok (.getfield 22, 3) := by decide +kernel
theorem dX8_wipes_14 : decode cX8_wipes 14 = .ok (.bipush 22, 2) := by decide +kernel
theorem dX8_wipes_16 : decode cX8_wipes 16 = .ok (.iload_n 1, 1) := by decide +kernel
theorem dX8_wipes_17 : decode cX8_wipes 17 = .ok (.iadd, 1) := by decide +kernel
theorem dX8_wipes_18 : decode cX8_wipes 18 = .ok (.iaload, 1) := by decide +kernel
theorem dX8_wipes_19 : decode cX8_wipes 19 = .ok (.istore_n 2, 1) := by decide +kernel
theorem dX8_wipes_20 : decode cX8_wipes 20 = .ok (.iload_n 2, 1) := by decide +kernel
theorem dX8_wipes_21 : decode cX8_wipes 21 = .ok (.ifCond .ne 6, 3) := by decide +kernel
theorem dX8_wipes_24 : decode cX8_wipes 24 = .ok (.bipush (-2), 2) := by decide +kernel
theorem dX8_wipes_26 : decode cX8_wipes 26 = .ok (.ireturn, 1) := by decide +kernel
theorem dX8_wipes_27 : decode cX8_wipes 27 = .ok (.aload_n 0, 1) := by decide +kernel
theorem dX8_wipes_28 : decode cX8_wipes 28 = .ok (.invokevirtual 172, 3) := by decide +kernel
theorem dX8_wipes_31 : decode cX8_wipes 31 = .ok (.aload_n 0, 1) := by decide +kernel
theorem dX8_wipes_32 : decode cX8_wipes 32 = .ok (.getfield 22, 3) := by decide +kernel
theorem dX8_wipes_35 : decode cX8_wipes 35 = .ok (.bipush 22, 2) := by decide +kernel
theorem dX8_wipes_37 : decode cX8_wipes 37 = .ok (.iload_n 1, 1) := by decide +kernel
theorem dX8_wipes_38 : decode cX8_wipes 38 = .ok (.iadd, 1) := by decide +kernel
theorem dX8_wipes_39 : decode cX8_wipes 39 = .ok (.iconst 0, 1) := by decide +kernel
theorem dX8_wipes_40 : decode cX8_wipes 40 = .ok (.iastore, 1) := by decide +kernel
theorem dX8_wipes_41 : decode cX8_wipes 41 = .ok (.iload_n 2, 1) := by decide +kernel
theorem dX8_wipes_42 : decode cX8_wipes 42 = .ok (.ireturn, 1) := by decide +kernel
def f_X8_wipes (a1 : Int32) (M : xMem) : Option (Int32 × xMem) := xb1 (f_X8_isScale a1 M) (fun r2 => (if r2 = (0 : Int32) then some ((-1 : Int32), M) else xchk (xb ((22 : Int32) + a1) 27) ((if (M 8 7 ((22 : Int32) + a1).toNatClampNeg) = (0 : Int32) then some ((-2 : Int32), M) else xb1 (f_X8_remembers M) (fun M28 => xchk (xb ((22 : Int32) + a1) 27) (xlet (xst M28 8 7 ((22 : Int32) + a1) (0 : Int32)) (fun M40 => some ((M 8 7 ((22 : Int32) + a1).toNatClampNeg), M40))))))))
set_option maxHeartbeats 4000000 in
set_option maxRecDepth 100000 in
theorem c_X8_wipes (l : Launch) (G : xG) (sz : Nat) (M : xMem) (L : xLL) (a1 : Int32) {rr : Int32} {MM : xMem} (hf : f_X8_wipes a1 M = some (rr, MM)) : Met l yX8_wipes (Cond.code yX8_wipes cX8_wipes 3 (some .int) :: xTB) (xR 3) (xP G M L sz [.ref (xq G 8 0), .int a1]) (xQi G rr MM L sz) 0 0 (xZ G sz) := by
  refine x_met (cc := cX8_wipes) (nL := 3) (rt := (some .int)) (by decide) (Nat.le_of_ble_eq_true rfl) ?_
  intro p e s m below meth c ls hsz E hl hI
  subst hsz
  have E : xE p s m _ meth c cX8_wipes 3 (some .int) RX8 G := E
  have hx := E.1
  have hb := E.2.1
  have hl : lv_has ls 3 [(0, .ref (xq G 8 0)), (1, .int a1)] := hl
  rw [f_X8_wipes] at hf
  refine lv_aload_n hx hb dX8_wipes_0 rfl (lv_at hl 0 rfl) ?_
  refine lv_iload_n hx hb dX8_wipes_1 rfl (lv_at hl 1 rfl) ?_
  obtain ⟨r2, g2, hf⟩ := xb1_s hf
  refine x_callVi (As := [.int a1]) (rest := []) E hI mx_8_0 rfl rfl rfl (c_X8_isScale l G _ (M := M) (L := L) (a1 := a1) g2) yv_X8_isScale ml_X8_153 (by decide) (by decide) rfl rfl hl.1 (Nat.le_of_ble_eq_true rfl) dX8_wipes_2 (fun H locs hI => ?_)
  refine lv_if_ne (tgt := 10) hx hb dX8_wipes_5 (by decide) (fun c5 => ?_) (fun c5 => ?_)
  · replace hf := xif_f c5 hf
    refine lv_aload_n hx hb dX8_wipes_10 rfl (lv_at hl 0 rfl) ?_
    refine gf_X8_22 E hI dX8_wipes_11 ?_
    refine lv_bipush (v := 22) hx hb dX8_wipes_14 (by decide) ?_
    refine lv_iload_n hx hb dX8_wipes_16 rfl (lv_at hl 1 rfl) ?_
    refine lv_iadd hx hb dX8_wipes_17 ?_
    obtain ⟨h18b, hf⟩ := xchk_s hf
    refine x_iald (n := 27) E hI mx_8_7 (fun _ _ => rfl) h18b dX8_wipes_18 ?_
    refine lv_istore_n (lv' := [(2, .int (M 8 7 ((22 : Int32) + a1).toNatClampNeg)), (0, .ref (xq G 8 0)), (1, .int a1)]) hx hb dX8_wipes_19 rfl hl (by decide) rfl (fun ls hl => ?_)
    refine lv_iload_n hx hb dX8_wipes_20 rfl (lv_at hl 0 rfl) ?_
    refine lv_if_ne (tgt := 27) hx hb dX8_wipes_21 (by decide) (fun c21 => ?_) (fun c21 => ?_)
    · replace hf := xif_f c21 hf
      refine lv_aload_n hx hb dX8_wipes_27 rfl (lv_at hl 1 rfl) ?_
      obtain ⟨M28, g28, hf⟩ := xb1_s hf
      refine x_callVv (As := []) (rest := []) E hI mx_8_0 rfl rfl rfl (c_X8_remembers l G _ (M := M) (L := L) g28) yv_X8_remembers ml_X8_172 (by decide) (by decide) rfl rfl hl.1 (Nat.le_of_ble_eq_true rfl) dX8_wipes_28 (fun H locs hI => ?_)
      refine lv_aload_n hx hb dX8_wipes_31 rfl (lv_at hl 1 rfl) ?_
      refine gf_X8_22 E hI dX8_wipes_32 ?_
      refine lv_bipush (v := 22) hx hb dX8_wipes_35 (by decide) ?_
      refine lv_iload_n hx hb dX8_wipes_37 rfl (lv_at hl 2 rfl) ?_
      refine lv_iadd hx hb dX8_wipes_38 ?_
      refine lv_iconst (v := 0) hx hb dX8_wipes_39 (by decide) ?_
      obtain ⟨h40b, hf⟩ := xchk_s hf
      obtain ⟨M40, e40, hf⟩ := xlet_s hf
      refine x_iast (n := 27) E hI mx_8_7 (fun _ _ => rfl) h40b dX8_wipes_40 e40 (fun H locs hI => ?_)
      refine lv_iload_n hx hb dX8_wipes_41 rfl (lv_at hl 0 rfl) ?_
      obtain ⟨rfl, rfl⟩ := xinj2 hf
      exact x_iret E hI rfl dX8_wipes_42
    · replace hf := xif_t c21 hf
      refine lv_bipush (v := -2) hx hb dX8_wipes_24 (by decide) ?_
      obtain ⟨rfl, rfl⟩ := xinj2 hf
      exact x_iret E hI rfl dX8_wipes_26
  · replace hf := xif_t c5 hf
    refine lv_iconst (v := -1) hx hb dX8_wipes_8 (by decide) ?_
    obtain ⟨rfl, rfl⟩ := xinj2 hf
    exact x_iret E hI rfl dX8_wipes_9
theorem dX8_sets_0 : decode cX8_sets 0 = .ok (.aload_n 0, 1) := by decide +kernel
theorem dX8_sets_1 : decode cX8_sets 1 = .ok (.iload_n 1, 1) := by decide +kernel
theorem dX8_sets_2 : decode cX8_sets 2 = .ok (.invokevirtual 153, 3) := by decide +kernel
theorem dX8_sets_5 : decode cX8_sets 5 = .ok (.ifCond .eq 13, 3) := by decide +kernel
theorem dX8_sets_8 : decode cX8_sets 8 = .ok (.iload_n 2, 1) := by decide +kernel
theorem dX8_sets_9 : decode cX8_sets 9 = .ok (.iconst 1, 1) := by decide +kernel
theorem dX8_sets_10 : decode cX8_sets 10 = .ok (.bipush 99, 2) := by decide +kernel
theorem dX8_sets_12 : decode cX8_sets 12 = .ok (.invokestatic 66, 3) := by decide +kernel
theorem dX8_sets_15 : decode cX8_sets 15 = .ok (.ifCond .ne 5, 3) := by decide +kernel
theorem dX8_sets_18 : decode cX8_sets 18 = .ok (.iconst (-1), 1) := by decide +kernel
theorem dX8_sets_19 : decode cX8_sets 19 = .ok (.ireturn, 1) := by decide +kernel
theorem dX8_sets_20 : decode cX8_sets 20 = .ok (.aload_n 0, 1) := by decide +kernel
theorem dX8_sets_21 : decode cX8_sets 21 = .ok (.getfield 22, 3) := by decide +kernel
theorem dX8_sets_24 : decode cX8_sets 24 = .ok (.bipush 12, 2) := by decide +kernel
theorem dX8_sets_26 : decode cX8_sets 26 = .ok (.iload_n 1, 1) := by decide +kernel
theorem dX8_sets_27 : decode cX8_sets 27 = .ok (.iadd, 1) := by decide +kernel
theorem dX8_sets_28 : decode cX8_sets 28 = .ok (.iaload, 1) := by decide +kernel
theorem dX8_sets_29 : decode cX8_sets 29 = .ok (.istore_n 3, 1) := by decide +kernel
theorem dX8_sets_30 : decode cX8_sets 30 = .ok (.iload_n 3, 1) := by decide +kernel
theorem dX8_sets_31 : decode cX8_sets 31 = .ok (.iload_n 2, 1) := by decide +kernel
theorem dX8_sets_32 : decode cX8_sets 32 = .ok (.if_icmp .ne 6, 3) := by decide +kernel
theorem dX8_sets_35 : decode cX8_sets 35 = .ok (.bipush (-2), 2) := by decide +kernel
theorem dX8_sets_37 : decode cX8_sets 37 = .ok (.ireturn, 1) := by decide +kernel
theorem dX8_sets_38 : decode cX8_sets 38 = .ok (.aload_n 0, 1) := by decide +kernel
theorem dX8_sets_39 : decode cX8_sets 39 = .ok (.invokevirtual 172, 3) := by decide +kernel
theorem dX8_sets_42 : decode cX8_sets 42 = .ok (.aload_n 0, 1) := by decide +kernel
theorem dX8_sets_43 : decode cX8_sets 43 = .ok (.getfield 22, 3) := by decide +kernel
theorem dX8_sets_46 : decode cX8_sets 46 = .ok (.bipush 12, 2) := by decide +kernel
theorem dX8_sets_48 : decode cX8_sets 48 = .ok (.iload_n 1, 1) := by decide +kernel
theorem dX8_sets_49 : decode cX8_sets 49 = .ok (.iadd, 1) := by decide +kernel
theorem dX8_sets_50 : decode cX8_sets 50 = .ok (.iload_n 2, 1) := by decide +kernel
theorem dX8_sets_51 : decode cX8_sets 51 = .ok (.iastore, 1) := by decide +kernel
theorem dX8_sets_52 : decode cX8_sets 52 = .ok (.iload_n 3, 1) := by decide +kernel
theorem dX8_sets_53 : decode cX8_sets 53 = .ok (.ireturn, 1) := by decide +kernel
def f_X8_sets_b18 (M : xMem) : Option (Int32 × xMem) := some ((-1 : Int32), M)
def f_X8_sets (a1 : Int32) (a2 : Int32) (M : xMem) : Option (Int32 × xMem) := xb1 (f_X8_isScale a1 M) (fun r2 => (if r2 = (0 : Int32) then (f_X8_sets_b18 M) else xb1 (f_X8_in a2 (1 : Int32) (99 : Int32) M) (fun r12 => (if r12 = (0 : Int32) then (f_X8_sets_b18 M) else xchk (xb ((12 : Int32) + a1) 27) ((if (M 8 7 ((12 : Int32) + a1).toNatClampNeg) = a2 then some ((-2 : Int32), M) else xb1 (f_X8_remembers M) (fun M39 => xchk (xb ((12 : Int32) + a1) 27) (xlet (xst M39 8 7 ((12 : Int32) + a1) a2) (fun M51 => some ((M 8 7 ((12 : Int32) + a1).toNatClampNeg), M51))))))))))
set_option maxHeartbeats 4000000 in
set_option maxRecDepth 100000 in
theorem w_X8_sets_b18 {p : Program} {l : Launch} {e : Env} {s : State} {m : MethodId} {args : Array Value} {below : List Frame} {meth : Method} {c : Code} {G : xG} {rr : Int32} {MM : xMem} (E : xE p s m args meth c cX8_sets 4 (some .int) RX8 G) (M : xMem) (L : xLL) : f_X8_sets_b18 M  = some (rr, MM) → ∀ (ls : Array Slot), lv_has ls 4 [] → ∀ (H : Heap) (locs : List Loc), xI G M L s.heap H locs → W p l e (xR 3) s m args below meth c H locs 0 0 (MQ below (xQi G rr MM L s.heap.size) args s 0 0 (xZ G s.heap.size)) (F0 m 18 ls []) := by
  have hx := E.1
  have hb := E.2.1
  intro  hf ls hl H locs hI
  rw [f_X8_sets_b18] at hf
  refine lv_iconst (v := -1) hx hb dX8_sets_18 (by decide) ?_
  obtain ⟨rfl, rfl⟩ := xinj2 hf
  exact x_iret E hI rfl dX8_sets_19
set_option maxHeartbeats 4000000 in
set_option maxRecDepth 100000 in
theorem c_X8_sets (l : Launch) (G : xG) (sz : Nat) (M : xMem) (L : xLL) (a1 : Int32) (a2 : Int32) {rr : Int32} {MM : xMem} (hf : f_X8_sets a1 a2 M = some (rr, MM)) : Met l yX8_sets (Cond.code yX8_sets cX8_sets 4 (some .int) :: xTB) (xR 3) (xP G M L sz [.ref (xq G 8 0), .int a1, .int a2]) (xQi G rr MM L sz) 0 0 (xZ G sz) := by
  refine x_met (cc := cX8_sets) (nL := 4) (rt := (some .int)) (by decide) (Nat.le_of_ble_eq_true rfl) ?_
  intro p e s m below meth c ls hsz E hl hI
  subst hsz
  have E : xE p s m _ meth c cX8_sets 4 (some .int) RX8 G := E
  have hx := E.1
  have hb := E.2.1
  have hl : lv_has ls 4 [(0, .ref (xq G 8 0)), (1, .int a1), (2, .int a2)] := hl
  rw [f_X8_sets] at hf
  refine lv_aload_n hx hb dX8_sets_0 rfl (lv_at hl 0 rfl) ?_
  refine lv_iload_n hx hb dX8_sets_1 rfl (lv_at hl 1 rfl) ?_
  obtain ⟨r2, g2, hf⟩ := xb1_s hf
  refine x_callVi (As := [.int a1]) (rest := []) E hI mx_8_0 rfl rfl rfl (c_X8_isScale l G _ (M := M) (L := L) (a1 := a1) g2) yv_X8_isScale ml_X8_153 (by decide) (by decide) rfl rfl hl.1 (Nat.le_of_ble_eq_true rfl) dX8_sets_2 (fun H locs hI => ?_)
  refine lv_if_eq (tgt := 18) hx hb dX8_sets_5 (by decide) (fun c5 => ?_) (fun c5 => ?_)
  · replace hf := xif_t c5 hf
    exact (w_X8_sets_b18 E (M := M) (L := L))  hf _ (lv_sub hl [] rfl) _ _ hI
  · replace hf := xif_f c5 hf
    refine lv_iload_n hx hb dX8_sets_8 rfl (lv_at hl 2 rfl) ?_
    refine lv_iconst (v := 1) hx hb dX8_sets_9 (by decide) ?_
    refine lv_bipush (v := 99) hx hb dX8_sets_10 (by decide) ?_
    obtain ⟨r12, g12, hf⟩ := xb1_s hf
    refine x_callSi (As := [.int a2, .int (1 : Int32), .int (99 : Int32)]) (rest := []) E hI (c_X8_in l G _ (M := M) (L := L) (a0 := a2) (a1 := (1 : Int32)) (a2 := (99 : Int32)) g12) ys_X8_in ml_X8_66 (by decide) (by decide) rfl rfl hl.1 (Nat.le_of_ble_eq_true rfl) dX8_sets_12 (fun H locs hI => ?_)
    refine lv_if_ne (tgt := 20) hx hb dX8_sets_15 (by decide) (fun c15 => ?_) (fun c15 => ?_)
    · replace hf := xif_f c15 hf
      refine lv_aload_n hx hb dX8_sets_20 rfl (lv_at hl 0 rfl) ?_
      refine gf_X8_22 E hI dX8_sets_21 ?_
      refine lv_bipush (v := 12) hx hb dX8_sets_24 (by decide) ?_
      refine lv_iload_n hx hb dX8_sets_26 rfl (lv_at hl 1 rfl) ?_
      refine lv_iadd hx hb dX8_sets_27 ?_
      obtain ⟨h28b, hf⟩ := xchk_s hf
      refine x_iald (n := 27) E hI mx_8_7 (fun _ _ => rfl) h28b dX8_sets_28 ?_
      refine lv_istore_n (lv' := [(3, .int (M 8 7 ((12 : Int32) + a1).toNatClampNeg)), (0, .ref (xq G 8 0)), (1, .int a1), (2, .int a2)]) hx hb dX8_sets_29 rfl hl (by decide) rfl (fun ls hl => ?_)
      refine lv_iload_n hx hb dX8_sets_30 rfl (lv_at hl 0 rfl) ?_
      refine lv_iload_n hx hb dX8_sets_31 rfl (lv_at hl 3 rfl) ?_
      refine lv_icmp_ne (tgt := 38) hx hb dX8_sets_32 (by decide) (fun c32 => ?_) (fun c32 => ?_)
      · replace hf := xif_f c32 hf
        refine lv_aload_n hx hb dX8_sets_38 rfl (lv_at hl 1 rfl) ?_
        obtain ⟨M39, g39, hf⟩ := xb1_s hf
        refine x_callVv (As := []) (rest := []) E hI mx_8_0 rfl rfl rfl (c_X8_remembers l G _ (M := M) (L := L) g39) yv_X8_remembers ml_X8_172 (by decide) (by decide) rfl rfl hl.1 (Nat.le_of_ble_eq_true rfl) dX8_sets_39 (fun H locs hI => ?_)
        refine lv_aload_n hx hb dX8_sets_42 rfl (lv_at hl 1 rfl) ?_
        refine gf_X8_22 E hI dX8_sets_43 ?_
        refine lv_bipush (v := 12) hx hb dX8_sets_46 (by decide) ?_
        refine lv_iload_n hx hb dX8_sets_48 rfl (lv_at hl 2 rfl) ?_
        refine lv_iadd hx hb dX8_sets_49 ?_
        refine lv_iload_n hx hb dX8_sets_50 rfl (lv_at hl 3 rfl) ?_
        obtain ⟨h51b, hf⟩ := xchk_s hf
        obtain ⟨M51, e51, hf⟩ := xlet_s hf
        refine x_iast (n := 27) E hI mx_8_7 (fun _ _ => rfl) h51b dX8_sets_51 e51 (fun H locs hI => ?_)
        refine lv_iload_n hx hb dX8_sets_52 rfl (lv_at hl 0 rfl) ?_
        obtain ⟨rfl, rfl⟩ := xinj2 hf
        exact x_iret E hI rfl dX8_sets_53
      · replace hf := xif_t c32 hf
        refine lv_bipush (v := -2) hx hb dX8_sets_35 (by decide) ?_
        obtain ⟨rfl, rfl⟩ := xinj2 hf
        exact x_iret E hI rfl dX8_sets_37
    · replace hf := xif_t c15 hf
      exact (w_X8_sets_b18 E (M := M) (L := L))  hf _ (lv_sub hl [] rfl) _ _ hI
theorem dX8_shifts_0 : decode cX8_shifts 0 = .ok (.aload_n 0, 1) := by decide +kernel
theorem dX8_shifts_1 : decode cX8_shifts 1 = .ok (.iload_n 1, 1) := by decide +kernel
theorem dX8_shifts_2 : decode cX8_shifts 2 = .ok (.invokevirtual 153, 3) := by decide +kernel
theorem dX8_shifts_5 : decode cX8_shifts 5 = .ok (.ifCond .ne 5, 3) := by decide +kernel
theorem dX8_shifts_8 : decode cX8_shifts 8 = .ok (.iconst (-1), 1) := by decide +kernel
theorem dX8_shifts_9 : decode cX8_shifts 9 = .ok (.ireturn, 1) := by decide +kernel
theorem dX8_shifts_10 : decode cX8_shifts 10 = .ok (.aload_n 0, 1) := by decide +kernel
theorem dX8_shifts_11 : decode cX8_shifts 11 = .ok (.iload_n 1, 1) := by decide +kernel
theorem dX8_shifts_12 : decode cX8_shifts 12 = .ok (.invokevirtual 159, 3) := by decide +kernel
theorem dX8_shifts_15 : decode cX8_shifts 15 = .ok (.istore_n 2, 1) := by decide +kernel
theorem dX8_shifts_16 : decode cX8_shifts 16 = .ok (.iload_n 2, 1) := by decide +kernel
theorem dX8_shifts_17 : decode cX8_shifts 17 = .ok (.aload_n 0, 1) := by decide +kernel
theorem dX8_shifts_18 : decode cX8_shifts 18 = .ok (.getfield 62, 3) := by decide +kernel
theorem dX8_shifts_21 : decode cX8_shifts 21 = .ok (.iconst 1, 1) := by decide +kernel
theorem dX8_shifts_22 : decode cX8_shifts 22 = .ok (.isub, 1) := by decide +kernel
theorem dX8_shifts_23 : decode cX8_shifts 23 = .ok (.if_icmp .ne 6, 3) := by decide +kernel
theorem dX8_shifts_26 : decode cX8_shifts 26 = .ok (.bipush (-2), 2) := by decide +kernel
theorem dX8_shifts_28 : decode cX8_shifts 28 = .ok (.ireturn, 1) := by decide +kernel
theorem dX8_shifts_29 : decode cX8_shifts 29 = .ok (.aload_n 0, 1) := by decide +kernel
theorem dX8_shifts_30 : decode cX8_shifts 30 = .ok (.invokevirtual 172, 3) := by decide +kernel
theorem dX8_shifts_33 : decode cX8_shifts 33 = .ok (.aload_n 0, 1) := by decide +kernel
theorem dX8_shifts_34 : decode cX8_shifts 34 = .ok (.getfield 22, 3) := by decide +kernel
theorem dX8_shifts_37 : decode cX8_shifts 37 = .ok (.bipush 17, 2) := by decide +kernel
theorem dX8_shifts_39 : decode cX8_shifts 39 = .ok (.iload_n 2, 1) := by decide +kernel
theorem dX8_shifts_40 : decode cX8_shifts 40 = .ok (.iadd, 1) := by decide +kernel
theorem dX8_shifts_41 : decode cX8_shifts 41 = .ok (.aload_n 0, 1) := by decide +kernel
theorem dX8_shifts_42 : decode cX8_shifts 42 = .ok (.getfield 22, 3) := by decide +kernel
theorem dX8_shifts_45 : decode cX8_shifts 45 = .ok (.bipush 17, 2) := by decide +kernel
theorem dX8_shifts_47 : decode cX8_shifts 47 = .ok (.iload_n 2, 1) := by decide +kernel
theorem dX8_shifts_48 : decode cX8_shifts 48 = .ok (.iadd, 1) := by decide +kernel
theorem dX8_shifts_49 : decode cX8_shifts 49 = .ok (.iconst 1, 1) := by decide +kernel
theorem dX8_shifts_50 : decode cX8_shifts 50 = .ok (.iadd, 1) := by decide +kernel
theorem dX8_shifts_51 : decode cX8_shifts 51 = .ok (.iaload, 1) := by decide +kernel
theorem dX8_shifts_52 : decode cX8_shifts 52 = .ok (.iastore, 1) := by decide +kernel
theorem dX8_shifts_53 : decode cX8_shifts 53 = .ok (.aload_n 0, 1) := by decide +kernel
theorem dX8_shifts_54 : decode cX8_shifts 54 = .ok (.getfield 22, 3) := by decide +kernel
theorem dX8_shifts_57 : decode cX8_shifts 57 = .ok (.bipush 17, 2) := by decide +kernel
theorem dX8_shifts_59 : decode cX8_shifts 59 = .ok (.iload_n 2, 1) := by decide +kernel
theorem dX8_shifts_60 : decode cX8_shifts 60 = .ok (.iadd, 1) := by decide +kernel
theorem dX8_shifts_61 : decode cX8_shifts 61 = .ok (.iconst 1, 1) := by decide +kernel
theorem dX8_shifts_62 : decode cX8_shifts 62 = .ok (.iadd, 1) := by decide +kernel
theorem dX8_shifts_63 : decode cX8_shifts 63 = .ok (.iload_n 1, 1) := by decide +kernel
theorem dX8_shifts_64 : decode cX8_shifts 64 = .ok (.iastore, 1) := by decide +kernel
theorem dX8_shifts_65 : decode cX8_shifts 65 = .ok (.iload_n 2, 1) := by decide +kernel
theorem dX8_shifts_66 : decode cX8_shifts 66 = .ok (.iconst 1, 1) := by decide +kernel
theorem dX8_shifts_67 : decode cX8_shifts 67 = .ok (.iadd, 1) := by decide +kernel
theorem dX8_shifts_68 : decode cX8_shifts 68 = .ok (.ireturn, 1) := by decide +kernel
def f_X8_shifts (a1 : Int32) (M : xMem) : Option (Int32 × xMem) := xb1 (f_X8_isScale a1 M) (fun r2 => (if r2 = (0 : Int32) then some ((-1 : Int32), M) else xb1 (f_X8_placeOf a1 M) (fun r12 => (if r12 = ((M 8 0 0) - (1 : Int32)) then some ((-2 : Int32), M) else xb1 (f_X8_remembers M) (fun M30 => xchk (xb (((17 : Int32) + r12) + (1 : Int32)) 27) (xchk (xb ((17 : Int32) + r12) 27) (xlet (xst M30 8 7 ((17 : Int32) + r12) (M30 8 7 (((17 : Int32) + r12) + (1 : Int32)).toNatClampNeg)) (fun M52 => xchk (xb (((17 : Int32) + r12) + (1 : Int32)) 27) (xlet (xst M52 8 7 (((17 : Int32) + r12) + (1 : Int32)) a1) (fun M64 => some ((r12 + (1 : Int32)), M64)))))))))))
set_option maxHeartbeats 4000000 in
set_option maxRecDepth 100000 in
theorem c_X8_shifts (l : Launch) (G : xG) (sz : Nat) (M : xMem) (L : xLL) (a1 : Int32) {rr : Int32} {MM : xMem} (hf : f_X8_shifts a1 M = some (rr, MM)) : Met l yX8_shifts (Cond.code yX8_shifts cX8_shifts 3 (some .int) :: xTB) (xR 3) (xP G M L sz [.ref (xq G 8 0), .int a1]) (xQi G rr MM L sz) 0 0 (xZ G sz) := by
  refine x_met (cc := cX8_shifts) (nL := 3) (rt := (some .int)) (by decide) (Nat.le_of_ble_eq_true rfl) ?_
  intro p e s m below meth c ls hsz E hl hI
  subst hsz
  have E : xE p s m _ meth c cX8_shifts 3 (some .int) RX8 G := E
  have hx := E.1
  have hb := E.2.1
  have hl : lv_has ls 3 [(0, .ref (xq G 8 0)), (1, .int a1)] := hl
  rw [f_X8_shifts] at hf
  refine lv_aload_n hx hb dX8_shifts_0 rfl (lv_at hl 0 rfl) ?_
  refine lv_iload_n hx hb dX8_shifts_1 rfl (lv_at hl 1 rfl) ?_
  obtain ⟨r2, g2, hf⟩ := xb1_s hf
  refine x_callVi (As := [.int a1]) (rest := []) E hI mx_8_0 rfl rfl rfl (c_X8_isScale l G _ (M := M) (L := L) (a1 := a1) g2) yv_X8_isScale ml_X8_153 (by decide) (by decide) rfl rfl hl.1 (Nat.le_of_ble_eq_true rfl) dX8_shifts_2 (fun H locs hI => ?_)
  refine lv_if_ne (tgt := 10) hx hb dX8_shifts_5 (by decide) (fun c5 => ?_) (fun c5 => ?_)
  · replace hf := xif_f c5 hf
    refine lv_aload_n hx hb dX8_shifts_10 rfl (lv_at hl 0 rfl) ?_
    refine lv_iload_n hx hb dX8_shifts_11 rfl (lv_at hl 1 rfl) ?_
    obtain ⟨r12, g12, hf⟩ := xb1_s hf
    refine x_callVi (As := [.int a1]) (rest := []) E hI mx_8_0 rfl rfl rfl (c_X8_placeOf l G _ (M := M) (L := L) (a1 := a1) g12) yv_X8_placeOf ml_X8_159 (by decide) (by decide) rfl rfl hl.1 (Nat.le_of_ble_eq_true rfl) dX8_shifts_12 (fun H locs hI => ?_)
    refine lv_istore_n (lv' := [(2, .int r12), (0, .ref (xq G 8 0)), (1, .int a1)]) hx hb dX8_shifts_15 rfl hl (by decide) rfl (fun ls hl => ?_)
    refine lv_iload_n hx hb dX8_shifts_16 rfl (lv_at hl 0 rfl) ?_
    refine lv_aload_n hx hb dX8_shifts_17 rfl (lv_at hl 1 rfl) ?_
    refine gf_X8_62 E hI dX8_shifts_18 ?_
    refine lv_iconst (v := 1) hx hb dX8_shifts_21 (by decide) ?_
    refine lv_isub hx hb dX8_shifts_22 ?_
    refine lv_icmp_ne (tgt := 29) hx hb dX8_shifts_23 (by decide) (fun c23 => ?_) (fun c23 => ?_)
    · replace hf := xif_f c23 hf
      refine lv_aload_n hx hb dX8_shifts_29 rfl (lv_at hl 1 rfl) ?_
      obtain ⟨M30, g30, hf⟩ := xb1_s hf
      refine x_callVv (As := []) (rest := []) E hI mx_8_0 rfl rfl rfl (c_X8_remembers l G _ (M := M) (L := L) g30) yv_X8_remembers ml_X8_172 (by decide) (by decide) rfl rfl hl.1 (Nat.le_of_ble_eq_true rfl) dX8_shifts_30 (fun H locs hI => ?_)
      refine lv_aload_n hx hb dX8_shifts_33 rfl (lv_at hl 1 rfl) ?_
      refine gf_X8_22 E hI dX8_shifts_34 ?_
      refine lv_bipush (v := 17) hx hb dX8_shifts_37 (by decide) ?_
      refine lv_iload_n hx hb dX8_shifts_39 rfl (lv_at hl 0 rfl) ?_
      refine lv_iadd hx hb dX8_shifts_40 ?_
      refine lv_aload_n hx hb dX8_shifts_41 rfl (lv_at hl 1 rfl) ?_
      refine gf_X8_22 E hI dX8_shifts_42 ?_
      refine lv_bipush (v := 17) hx hb dX8_shifts_45 (by decide) ?_
      refine lv_iload_n hx hb dX8_shifts_47 rfl (lv_at hl 0 rfl) ?_
      refine lv_iadd hx hb dX8_shifts_48 ?_
      refine lv_iconst (v := 1) hx hb dX8_shifts_49 (by decide) ?_
      refine lv_iadd hx hb dX8_shifts_50 ?_
      obtain ⟨h51b, hf⟩ := xchk_s hf
      refine x_iald (n := 27) E hI mx_8_7 (fun _ _ => rfl) h51b dX8_shifts_51 ?_
      obtain ⟨h52b, hf⟩ := xchk_s hf
      obtain ⟨M52, e52, hf⟩ := xlet_s hf
      refine x_iast (n := 27) E hI mx_8_7 (fun _ _ => rfl) h52b dX8_shifts_52 e52 (fun H locs hI => ?_)
      refine lv_aload_n hx hb dX8_shifts_53 rfl (lv_at hl 1 rfl) ?_
      refine gf_X8_22 E hI dX8_shifts_54 ?_
      refine lv_bipush (v := 17) hx hb dX8_shifts_57 (by decide) ?_
      refine lv_iload_n hx hb dX8_shifts_59 rfl (lv_at hl 0 rfl) ?_
      refine lv_iadd hx hb dX8_shifts_60 ?_
      refine lv_iconst (v := 1) hx hb dX8_shifts_61 (by decide) ?_
      refine lv_iadd hx hb dX8_shifts_62 ?_
      refine lv_iload_n hx hb dX8_shifts_63 rfl (lv_at hl 2 rfl) ?_
      obtain ⟨h64b, hf⟩ := xchk_s hf
      obtain ⟨M64, e64, hf⟩ := xlet_s hf
      refine x_iast (n := 27) E hI mx_8_7 (fun _ _ => rfl) h64b dX8_shifts_64 e64 (fun H locs hI => ?_)
      refine lv_iload_n hx hb dX8_shifts_65 rfl (lv_at hl 0 rfl) ?_
      refine lv_iconst (v := 1) hx hb dX8_shifts_66 (by decide) ?_
      refine lv_iadd hx hb dX8_shifts_67 ?_
      obtain ⟨rfl, rfl⟩ := xinj2 hf
      exact x_iret E hI rfl dX8_shifts_68
    · replace hf := xif_t c23 hf
      refine lv_bipush (v := -2) hx hb dX8_shifts_26 (by decide) ?_
      obtain ⟨rfl, rfl⟩ := xinj2 hf
      exact x_iret E hI rfl dX8_shifts_28
  · replace hf := xif_t c5 hf
    refine lv_iconst (v := -1) hx hb dX8_shifts_8 (by decide) ?_
    obtain ⟨rfl, rfl⟩ := xinj2 hf
    exact x_iret E hI rfl dX8_shifts_9
theorem dX8_drops_0 : decode cX8_drops 0 = .ok (.aload_n 0, 1) := by decide +kernel
theorem dX8_drops_1 : decode cX8_drops 1 = .ok (.iload_n 1, 1) := by decide +kernel
theorem dX8_drops_2 : decode cX8_drops 2 = .ok (.invokevirtual 162, 3) := by decide +kernel
theorem dX8_drops_5 : decode cX8_drops 5 = .ok (.ifCond .ne 5, 3) := by decide +kernel
theorem dX8_drops_8 : decode cX8_drops 8 = .ok (.iconst (-1), 1) := by decide +kernel
theorem dX8_drops_9 : decode cX8_drops 9 = .ok (.ireturn, 1) := by decide +kernel
theorem dX8_drops_10 : decode cX8_drops 10 = .ok (.aload_n 0, 1) := by decide +kernel
theorem dX8_drops_11 : decode cX8_drops 11 = .ok (.getfield 22, 3) := by decide +kernel
theorem dX8_drops_14 : decode cX8_drops 14 = .ok (.iconst 0, 1) := by decide +kernel
theorem dX8_drops_15 : decode cX8_drops 15 = .ok (.iload_n 1, 1) := by decide +kernel
theorem dX8_drops_16 : decode cX8_drops 16 = .ok (.iadd, 1) := by decide +kernel
theorem dX8_drops_17 : decode cX8_drops 17 = .ok (.iaload, 1) := by decide +kernel
theorem dX8_drops_18 : decode cX8_drops 18 = .ok (.istore_n 2, 1) := by decide +kernel
theorem dX8_drops_19 : decode cX8_drops 19 = .ok (.iload_n 2, 1) := by decide +kernel
theorem dX8_drops_20 : decode cX8_drops 20 = .ok (.bipush 9, 2) := by decide +kernel
theorem dX8_drops_22 : decode cX8_drops 22 = .ok (.if_icmp .ne 6, 3) := by decide +kernel
theorem dX8_drops_25 : decode cX8_drops 25 = .ok (.bipush (-2), 2) := by decide +kernel
theorem dX8_drops_27 : decode cX8_drops 27 = .ok (.ireturn, 1) := by decide +kernel
theorem dX8_drops_28 : decode cX8_drops 28 = .ok (.aload_n 0, 1) := by decide +kernel
theorem dX8_drops_29 : decode cX8_drops 29 = .ok (.invokevirtual 172, 3) := by decide +kernel
theorem dX8_drops_32 : decode cX8_drops 32 = .ok (.aload_n 0, 1) := by decide +kernel
theorem dX8_drops_33 : decode cX8_drops 33 = .ok (.getfield 22, 3) := by decide +kernel
theorem dX8_drops_36 : decode cX8_drops 36 = .ok (.iconst 0, 1) := by decide +kernel
theorem dX8_drops_37 : decode cX8_drops 37 = .ok (.iload_n 1, 1) := by decide +kernel
theorem dX8_drops_38 : decode cX8_drops 38 = .ok (.iadd, 1) := by decide +kernel
theorem dX8_drops_39 : decode cX8_drops 39 = .ok (.bipush 9, 2) := by decide +kernel
theorem dX8_drops_41 : decode cX8_drops 41 = .ok (.iastore, 1) := by decide +kernel
theorem dX8_drops_42 : decode cX8_drops 42 = .ok (.iload_n 2, 1) := by decide +kernel
theorem dX8_drops_43 : decode cX8_drops 43 = .ok (.ireturn, 1) := by decide +kernel
def f_X8_drops (a1 : Int32) (M : xMem) : Option (Int32 × xMem) := xb1 (f_X8_isEgg a1 M) (fun r2 => (if r2 = (0 : Int32) then some ((-1 : Int32), M) else xchk (xb ((0 : Int32) + a1) 27) ((if (M 8 7 ((0 : Int32) + a1).toNatClampNeg) = (9 : Int32) then some ((-2 : Int32), M) else xb1 (f_X8_remembers M) (fun M29 => xchk (xb ((0 : Int32) + a1) 27) (xlet (xst M29 8 7 ((0 : Int32) + a1) (9 : Int32)) (fun M41 => some ((M 8 7 ((0 : Int32) + a1).toNatClampNeg), M41))))))))
set_option maxHeartbeats 4000000 in
set_option maxRecDepth 100000 in
theorem c_X8_drops (l : Launch) (G : xG) (sz : Nat) (M : xMem) (L : xLL) (a1 : Int32) {rr : Int32} {MM : xMem} (hf : f_X8_drops a1 M = some (rr, MM)) : Met l yX8_drops (Cond.code yX8_drops cX8_drops 3 (some .int) :: xTB) (xR 3) (xP G M L sz [.ref (xq G 8 0), .int a1]) (xQi G rr MM L sz) 0 0 (xZ G sz) := by
  refine x_met (cc := cX8_drops) (nL := 3) (rt := (some .int)) (by decide) (Nat.le_of_ble_eq_true rfl) ?_
  intro p e s m below meth c ls hsz E hl hI
  subst hsz
  have E : xE p s m _ meth c cX8_drops 3 (some .int) RX8 G := E
  have hx := E.1
  have hb := E.2.1
  have hl : lv_has ls 3 [(0, .ref (xq G 8 0)), (1, .int a1)] := hl
  rw [f_X8_drops] at hf
  refine lv_aload_n hx hb dX8_drops_0 rfl (lv_at hl 0 rfl) ?_
  refine lv_iload_n hx hb dX8_drops_1 rfl (lv_at hl 1 rfl) ?_
  obtain ⟨r2, g2, hf⟩ := xb1_s hf
  refine x_callVi (As := [.int a1]) (rest := []) E hI mx_8_0 rfl rfl rfl (c_X8_isEgg l G _ (M := M) (L := L) (a1 := a1) g2) yv_X8_isEgg ml_X8_162 (by decide) (by decide) rfl rfl hl.1 (Nat.le_of_ble_eq_true rfl) dX8_drops_2 (fun H locs hI => ?_)
  refine lv_if_ne (tgt := 10) hx hb dX8_drops_5 (by decide) (fun c5 => ?_) (fun c5 => ?_)
  · replace hf := xif_f c5 hf
    refine lv_aload_n hx hb dX8_drops_10 rfl (lv_at hl 0 rfl) ?_
    refine gf_X8_22 E hI dX8_drops_11 ?_
    refine lv_iconst (v := 0) hx hb dX8_drops_14 (by decide) ?_
    refine lv_iload_n hx hb dX8_drops_15 rfl (lv_at hl 1 rfl) ?_
    refine lv_iadd hx hb dX8_drops_16 ?_
    obtain ⟨h17b, hf⟩ := xchk_s hf
    refine x_iald (n := 27) E hI mx_8_7 (fun _ _ => rfl) h17b dX8_drops_17 ?_
    refine lv_istore_n (lv' := [(2, .int (M 8 7 ((0 : Int32) + a1).toNatClampNeg)), (0, .ref (xq G 8 0)), (1, .int a1)]) hx hb dX8_drops_18 rfl hl (by decide) rfl (fun ls hl => ?_)
    refine lv_iload_n hx hb dX8_drops_19 rfl (lv_at hl 0 rfl) ?_
    refine lv_bipush (v := 9) hx hb dX8_drops_20 (by decide) ?_
    refine lv_icmp_ne (tgt := 28) hx hb dX8_drops_22 (by decide) (fun c22 => ?_) (fun c22 => ?_)
    · replace hf := xif_f c22 hf
      refine lv_aload_n hx hb dX8_drops_28 rfl (lv_at hl 1 rfl) ?_
      obtain ⟨M29, g29, hf⟩ := xb1_s hf
      refine x_callVv (As := []) (rest := []) E hI mx_8_0 rfl rfl rfl (c_X8_remembers l G _ (M := M) (L := L) g29) yv_X8_remembers ml_X8_172 (by decide) (by decide) rfl rfl hl.1 (Nat.le_of_ble_eq_true rfl) dX8_drops_29 (fun H locs hI => ?_)
      refine lv_aload_n hx hb dX8_drops_32 rfl (lv_at hl 1 rfl) ?_
      refine gf_X8_22 E hI dX8_drops_33 ?_
      refine lv_iconst (v := 0) hx hb dX8_drops_36 (by decide) ?_
      refine lv_iload_n hx hb dX8_drops_37 rfl (lv_at hl 2 rfl) ?_
      refine lv_iadd hx hb dX8_drops_38 ?_
      refine lv_bipush (v := 9) hx hb dX8_drops_39 (by decide) ?_
      obtain ⟨h41b, hf⟩ := xchk_s hf
      obtain ⟨M41, e41, hf⟩ := xlet_s hf
      refine x_iast (n := 27) E hI mx_8_7 (fun _ _ => rfl) h41b dX8_drops_41 e41 (fun H locs hI => ?_)
      refine lv_iload_n hx hb dX8_drops_42 rfl (lv_at hl 0 rfl) ?_
      obtain ⟨rfl, rfl⟩ := xinj2 hf
      exact x_iret E hI rfl dX8_drops_43
    · replace hf := xif_t c22 hf
      refine lv_bipush (v := -2) hx hb dX8_drops_25 (by decide) ?_
      obtain ⟨rfl, rfl⟩ := xinj2 hf
      exact x_iret E hI rfl dX8_drops_27
  · replace hf := xif_t c5 hf
    refine lv_iconst (v := -1) hx hb dX8_drops_8 (by decide) ?_
    obtain ⟨rfl, rfl⟩ := xinj2 hf
    exact x_iret E hI rfl dX8_drops_9
theorem dX8_undo_0 : decode cX8_undo 0 = .ok (.aload_n 0, 1) := by decide +kernel
theorem dX8_undo_1 : decode cX8_undo 1 = .ok (.getfield 122, 3) := by decide +kernel
theorem dX8_undo_4 : decode cX8_undo 4 = .ok (.ifCond .ne 6, 3) := by decide +kernel
theorem dX8_undo_7 : decode cX8_undo 7 = .ok (.bipush (-2), 2) := by decide +kernel
theorem dX8_undo_9 : decode cX8_undo 9 = .ok (.ireturn, 1) := by decide +kernel
theorem dX8_undo_10 : decode cX8_undo 10 = .ok (.aload_n 0, 1) := by decide +kernel
theorem dX8_undo_11 : decode cX8_undo 11 = .ok (.dup, 1) := by decide +kernel
theorem dX8_undo_12 : decode cX8_undo 12 = .ok (.getfield 122, 3) := by decide +kernel
theorem dX8_undo_15 : decode cX8_undo 15 = .ok (.iconst 1, 1) := by decide +kernel
theorem dX8_undo_16 : decode cX8_undo 16 = .ok (.isub, 1) := by decide +kernel
theorem dX8_undo_17 : decode cX8_undo 17 = .ok (.putfield 122, 3) := by decide +kernel
theorem dX8_undo_20 : decode cX8_undo 20 = .ok (.aload_n 0, 1) := by decide +kernel
theorem dX8_undo_21 : decode cX8_undo 21 = .ok (.getfield 22, 3) := by decide +kernel
theorem dX8_undo_24 : decode cX8_undo 24 = .ok (.iconst 0, 1) := by decide +kernel
theorem dX8_undo_25 : decode cX8_undo 25 = .ok (.aload_n 0, 1) := by decide +kernel
theorem dX8_undo_26 : decode cX8_undo 26 = .ok (.getfield 25, 3) := by decide +kernel
theorem dX8_undo_29 : decode cX8_undo 29 = .ok (.bipush 27, 2) := by decide +kernel
theorem dX8_undo_31 : decode cX8_undo 31 = .ok (.aload_n 0, 1) := by decide +kernel
theorem dX8_undo_32 : decode cX8_undo 32 = .ok (.getfield 122, 3) := by decide +kernel
theorem dX8_undo_35 : decode cX8_undo 35 = .ok (.imul, 1) := by decide +kernel
theorem dX8_undo_36 : decode cX8_undo 36 = .ok (.invokestatic 128, 3) := by decide +kernel
theorem dX8_undo_39 : decode cX8_undo 39 = .ok (.aload_n 0, 1) := by decide +kernel
theorem dX8_undo_40 : decode cX8_undo 40 = .ok (.getfield 122, 3) := by decide +kernel
theorem dX8_undo_43 : decode cX8_undo 43 = .ok (.ireturn, 1) := by decide +kernel
def f_X8_undo (M : xMem) : Option (Int32 × xMem) := (if (M 8 0 8) = (0 : Int32) then some ((-2 : Int32), M) else xlet (xsf M 8 8 ((M 8 0 8) - (1 : Int32))) (fun M17 => xb1 (f_X8_copy 8 7 27 (0 : Int32) 8 8 270 ((27 : Int32) * (M17 8 0 8)) M17) (fun M36 => some ((M36 8 0 8), M36))))
set_option maxHeartbeats 4000000 in
set_option maxRecDepth 100000 in
theorem c_X8_undo (l : Launch) (G : xG) (sz : Nat) (M : xMem) (L : xLL) {rr : Int32} {MM : xMem} (hf : f_X8_undo M = some (rr, MM)) : Met l yX8_undo (Cond.code yX8_undo cX8_undo 1 (some .int) :: xTB) (xR 2) (xP G M L sz [.ref (xq G 8 0)]) (xQi G rr MM L sz) 0 0 (xZ G sz) := by
  refine x_met (cc := cX8_undo) (nL := 1) (rt := (some .int)) (by decide) (Nat.le_of_ble_eq_true rfl) ?_
  intro p e s m below meth c ls hsz E hl hI
  subst hsz
  have E : xE p s m _ meth c cX8_undo 1 (some .int) RX8 G := E
  have hx := E.1
  have hb := E.2.1
  have hl : lv_has ls 1 [(0, .ref (xq G 8 0))] := hl
  rw [f_X8_undo] at hf
  refine lv_aload_n hx hb dX8_undo_0 rfl (lv_at hl 0 rfl) ?_
  refine gf_X8_122 E hI dX8_undo_1 ?_
  refine lv_if_ne (tgt := 10) hx hb dX8_undo_4 (by decide) (fun c4 => ?_) (fun c4 => ?_)
  · replace hf := xif_f c4 hf
    refine lv_aload_n hx hb dX8_undo_10 rfl (lv_at hl 0 rfl) ?_
    refine lv_dup hx hb dX8_undo_11 rfl ?_
    refine gf_X8_122 E hI dX8_undo_12 ?_
    refine lv_iconst (v := 1) hx hb dX8_undo_15 (by decide) ?_
    refine lv_isub hx hb dX8_undo_16 ?_
    obtain ⟨M17, e17, hf⟩ := xlet_s hf
    refine pf_X8_122 E hI dX8_undo_17 e17 (fun H locs hI => ?_)
    refine lv_aload_n hx hb dX8_undo_20 rfl (lv_at hl 0 rfl) ?_
    refine gf_X8_22 E hI dX8_undo_21 ?_
    refine lv_iconst (v := 0) hx hb dX8_undo_24 (by decide) ?_
    refine lv_aload_n hx hb dX8_undo_25 rfl (lv_at hl 0 rfl) ?_
    refine gf_X8_25 E hI dX8_undo_26 ?_
    refine lv_bipush (v := 27) hx hb dX8_undo_29 (by decide) ?_
    refine lv_aload_n hx hb dX8_undo_31 rfl (lv_at hl 0 rfl) ?_
    refine gf_X8_122 E hI dX8_undo_32 ?_
    refine lv_imul hx hb dX8_undo_35 ?_
    obtain ⟨M36, g36, hf⟩ := xb1_s hf
    refine x_callSv (As := [.ref (xq G 8 7), .int (0 : Int32), .ref (xq G 8 8), .int ((27 : Int32) * (M17 8 0 8))]) (rest := []) E hI (c_X8_copy l G _ (M := M17) (L := L) (o0 := 8) (r0 := 7) (n0 := 27) (hm0 := mx_8_7) (hc0 := (fun _ _ => rfl)) (a1 := (0 : Int32)) (o2 := 8) (r2 := 8) (n2 := 270) (hm2 := mx_8_8) (hc2 := (fun _ _ => rfl)) (a3 := ((27 : Int32) * (M17 8 0 8))) g36) ys_X8_copy ml_X8_128 (by decide) (by decide) rfl rfl hl.1 (Nat.le_of_ble_eq_true rfl) dX8_undo_36 (fun H locs hI => ?_)
    refine lv_aload_n hx hb dX8_undo_39 rfl (lv_at hl 0 rfl) ?_
    refine gf_X8_122 E hI dX8_undo_40 ?_
    obtain ⟨rfl, rfl⟩ := xinj2 hf
    exact x_iret E hI rfl dX8_undo_43
  · replace hf := xif_t c4 hf
    refine lv_bipush (v := -2) hx hb dX8_undo_7 (by decide) ?_
    obtain ⟨rfl, rfl⟩ := xinj2 hf
    exact x_iret E hI rfl dX8_undo_9
theorem dX8_goes_0 : decode cX8_goes 0 = .ok (.aload_n 0, 1) := by decide +kernel
theorem dX8_goes_1 : decode cX8_goes 1 = .ok (.iload_n 1, 1) := by decide +kernel
theorem dX8_goes_2 : decode cX8_goes 2 = .ok (.invokevirtual 162, 3) := by decide +kernel
theorem dX8_goes_5 : decode cX8_goes 5 = .ok (.ifCond .ne 5, 3) := by decide +kernel
theorem dX8_goes_8 : decode cX8_goes 8 = .ok (.iconst (-1), 1) := by decide +kernel
theorem dX8_goes_9 : decode cX8_goes 9 = .ok (.ireturn, 1) := by decide +kernel
theorem dX8_goes_10 : decode cX8_goes 10 = .ok (.aload_n 0, 1) := by decide +kernel
theorem dX8_goes_11 : decode cX8_goes 11 = .ok (.getfield 22, 3) := by decide +kernel
theorem dX8_goes_14 : decode cX8_goes 14 = .ok (.iconst 0, 1) := by decide +kernel
theorem dX8_goes_15 : decode cX8_goes 15 = .ok (.iload_n 1, 1) := by decide +kernel
theorem dX8_goes_16 : decode cX8_goes 16 = .ok (.iadd, 1) := by decide +kernel
theorem dX8_goes_17 : decode cX8_goes 17 = .ok (.iaload, 1) := by decide +kernel
theorem dX8_goes_18 : decode cX8_goes 18 = .ok (.ifCond .eq 6, 3) := by decide +kernel
theorem dX8_goes_21 : decode cX8_goes 21 = .ok (.bipush (-2), 2) := by decide +kernel
theorem dX8_goes_23 : decode cX8_goes 23 = .ok (.ireturn, 1) := by decide +kernel
theorem dX8_goes_24 : decode cX8_goes 24 = .ok (.aload_n 0, 1) := by decide +kernel
theorem dX8_goes_25 : decode cX8_goes 25 = .ok (.invokevirtual 156, 3) := by decide +kernel
theorem dX8_goes_28 : decode cX8_goes 28 = .ok (.aload_n 0, 1) := by decide +kernel
theorem dX8_goes_29 : decode cX8_goes 29 = .ok (.iload_n 1, 1) := by decide +kernel
theorem dX8_goes_30 : decode cX8_goes 30 = .ok (.invokevirtual 175, 3) := by decide +kernel
theorem dX8_goes_33 : decode cX8_goes 33 = .ok (.ireturn, 1) := by decide +kernel
def f_X8_goes (a1 : Int32) (M : xMem) : Option (Int32 × xMem) := xb1 (f_X8_isEgg a1 M) (fun r2 => (if r2 = (0 : Int32) then some ((-1 : Int32), M) else xchk (xb ((0 : Int32) + a1) 27) ((if (M 8 7 ((0 : Int32) + a1).toNatClampNeg) = (0 : Int32) then xb1 (f_X8_asItIs M) (fun M25 => xb2 (f_X8_rolled a1 M25) (fun r30 M30 => some (r30, M30))) else some ((-2 : Int32), M)))))
set_option maxHeartbeats 4000000 in
set_option maxRecDepth 100000 in
theorem c_X8_goes (l : Launch) (G : xG) (sz : Nat) (M : xMem) (L : xLL) (a1 : Int32) {rr : Int32} {MM : xMem} (hf : f_X8_goes a1 M = some (rr, MM)) : Met l yX8_goes (Cond.code yX8_goes cX8_goes 2 (some .int) :: xTB) (xR 4) (xP G M L sz [.ref (xq G 8 0), .int a1]) (xQi G rr MM L sz) 0 0 (xZ G sz) := by
  refine x_met (cc := cX8_goes) (nL := 2) (rt := (some .int)) (by decide) (Nat.le_of_ble_eq_true rfl) ?_
  intro p e s m below meth c ls hsz E hl hI
  subst hsz
  have E : xE p s m _ meth c cX8_goes 2 (some .int) RX8 G := E
  have hx := E.1
  have hb := E.2.1
  have hl : lv_has ls 2 [(0, .ref (xq G 8 0)), (1, .int a1)] := hl
  rw [f_X8_goes] at hf
  refine lv_aload_n hx hb dX8_goes_0 rfl (lv_at hl 0 rfl) ?_
  refine lv_iload_n hx hb dX8_goes_1 rfl (lv_at hl 1 rfl) ?_
  obtain ⟨r2, g2, hf⟩ := xb1_s hf
  refine x_callVi (As := [.int a1]) (rest := []) E hI mx_8_0 rfl rfl rfl (c_X8_isEgg l G _ (M := M) (L := L) (a1 := a1) g2) yv_X8_isEgg ml_X8_162 (by decide) (by decide) rfl rfl hl.1 (Nat.le_of_ble_eq_true rfl) dX8_goes_2 (fun H locs hI => ?_)
  refine lv_if_ne (tgt := 10) hx hb dX8_goes_5 (by decide) (fun c5 => ?_) (fun c5 => ?_)
  · replace hf := xif_f c5 hf
    refine lv_aload_n hx hb dX8_goes_10 rfl (lv_at hl 0 rfl) ?_
    refine gf_X8_22 E hI dX8_goes_11 ?_
    refine lv_iconst (v := 0) hx hb dX8_goes_14 (by decide) ?_
    refine lv_iload_n hx hb dX8_goes_15 rfl (lv_at hl 1 rfl) ?_
    refine lv_iadd hx hb dX8_goes_16 ?_
    obtain ⟨h17b, hf⟩ := xchk_s hf
    refine x_iald (n := 27) E hI mx_8_7 (fun _ _ => rfl) h17b dX8_goes_17 ?_
    refine lv_if_eq (tgt := 24) hx hb dX8_goes_18 (by decide) (fun c18 => ?_) (fun c18 => ?_)
    · replace hf := xif_t c18 hf
      refine lv_aload_n hx hb dX8_goes_24 rfl (lv_at hl 0 rfl) ?_
      obtain ⟨M25, g25, hf⟩ := xb1_s hf
      refine x_callVv (As := []) (rest := []) E hI mx_8_0 rfl rfl rfl (c_X8_asItIs l G _ (M := M) (L := L) g25) yv_X8_asItIs ml_X8_156 (by decide) (by decide) rfl rfl hl.1 (Nat.le_of_ble_eq_true rfl) dX8_goes_25 (fun H locs hI => ?_)
      refine lv_aload_n hx hb dX8_goes_28 rfl (lv_at hl 0 rfl) ?_
      refine lv_iload_n hx hb dX8_goes_29 rfl (lv_at hl 1 rfl) ?_
      obtain ⟨r30, M30, g30, hf⟩ := xb2_s hf
      refine x_callVi (As := [.int a1]) (rest := []) E hI mx_8_0 rfl rfl rfl (c_X8_rolled l G _ (M := M25) (L := L) (a1 := a1) g30) yv_X8_rolled ml_X8_175 (by decide) (by decide) rfl rfl hl.1 (Nat.le_of_ble_eq_true rfl) dX8_goes_30 (fun H locs hI => ?_)
      obtain ⟨rfl, rfl⟩ := xinj2 hf
      exact x_iret E hI rfl dX8_goes_33
    · replace hf := xif_f c18 hf
      refine lv_bipush (v := -2) hx hb dX8_goes_21 (by decide) ?_
      obtain ⟨rfl, rfl⟩ := xinj2 hf
      exact x_iret E hI rfl dX8_goes_23
  · replace hf := xif_t c5 hf
    refine lv_iconst (v := -1) hx hb dX8_goes_8 (by decide) ?_
    obtain ⟨rfl, rfl⟩ := xinj2 hf
    exact x_iret E hI rfl dX8_goes_9
theorem dX8_isOrder_0 : decode cX8_isOrder 0 = .ok (.iload_n 1, 1) := by decide +kernel
theorem dX8_isOrder_1 : decode cX8_isOrder 1 = .ok (.istore 4, 2) := by decide +kernel
theorem dX8_isOrder_3 : decode cX8_isOrder 3 = .ok (.iconst 0, 1) := by decide +kernel
theorem dX8_isOrder_4 : decode cX8_isOrder 4 = .ok (.istore 5, 2) := by decide +kernel
theorem dX8_isOrder_6 : decode cX8_isOrder 6 = .ok (.iconst 1, 1) := by decide +kernel
theorem dX8_isOrder_7 : decode cX8_isOrder 7 = .ok (.istore 6, 2) := by decide +kernel
theorem dX8_isOrder_9 : decode cX8_isOrder 9 = .ok (.iload_n 2, 1) := by decide +kernel
theorem dX8_isOrder_10 : decode cX8_isOrder 10 = .ok (.iconst 1, 1) := by decide +kernel
theorem dX8_isOrder_11 : decode cX8_isOrder 11 = .ok (.isub, 1) := by decide +kernel
theorem dX8_isOrder_12 : decode cX8_isOrder 12 = .ok (.istore 7, 2) := by decide +kernel
theorem dX8_isOrder_14 : decode cX8_isOrder 14 = .ok (.iload 7, 2) := by decide +kernel
theorem dX8_isOrder_16 : decode cX8_isOrder 16 = .ok (.ifCond .lt 73, 3) := by decide +kernel
theorem dX8_isOrder_19 : decode cX8_isOrder 19 = .ok (.aload_n 0, 1) := by decide +kernel
theorem dX8_isOrder_20 : decode cX8_isOrder 20 = .ok (.getfield 50, 3) := by decide +kernel
theorem dX8_isOrder_23 : decode cX8_isOrder 23 = .ok (.iload 7, 2) := by decide +kernel
theorem dX8_isOrder_25 : decode cX8_isOrder 25 = .ok (.iload 4, 2) := by decide +kernel
theorem dX8_isOrder_27 : decode cX8_isOrder 27 = .ok (.bipush 6, 2) := by decide +kernel
theorem dX8_isOrder_29 : decode cX8_isOrder 29 = .ok (.irem, 1) := by decide +kernel
theorem dX8_isOrder_30 : decode cX8_isOrder 30 = .ok (.iastore, 1) := by decide +kernel
theorem dX8_isOrder_31 : decode cX8_isOrder 31 = .ok (.iload 4, 2) := by decide +kernel
theorem dX8_isOrder_33 : decode cX8_isOrder 33 = .ok (.bipush 6, 2) := by decide +kernel
theorem dX8_isOrder_35 : decode cX8_isOrder 35 = .ok (.idiv, 1) := by decide +kernel
theorem dX8_isOrder_36 : decode cX8_isOrder 36 = .ok (.istore 4, 2) := by decide +kernel
theorem dX8_isOrder_38 : decode cX8_isOrder 38 = .ok (.iload 6, 2) := by decide +kernel
theorem dX8_isOrder_40 : decode cX8_isOrder 40 = .ok (.ifCond .eq 26, 3) := by decide +kernel
theorem dX8_isOrder_43 : decode cX8_isOrder 43 = .ok (.iload_n 3, 1) := by decide +kernel
theorem dX8_isOrder_44 : decode cX8_isOrder 44 = .ok (.iload 5, 2) := by decide +kernel
theorem dX8_isOrder_46 : decode cX8_isOrder 46 = .ok (.iconst (-1), 1) := by decide +kernel
theorem dX8_isOrder_47 : decode cX8_isOrder 47 = .ok (.ixor, 1) := by decide +kernel
theorem dX8_isOrder_48 : decode cX8_isOrder 48 = .ok (.iand, 1) := by decide +kernel
theorem dX8_isOrder_49 : decode cX8_isOrder 49 = .ok (.aload_n 0, 1) := by decide +kernel
theorem dX8_isOrder_50 : decode cX8_isOrder 50 = .ok (.getfield 50, 3) := by decide +kernel
theorem dX8_isOrder_53 : decode cX8_isOrder 53 = .ok (.iload 7, 2) := by decide +kernel
theorem dX8_isOrder_55 : decode cX8_isOrder 55 = .ok (.iaload, 1) := by decide +kernel
theorem dX8_isOrder_56 : decode cX8_isOrder 56 = .ok (.invokestatic 178, 3) := by decide +kernel
theorem dX8_isOrder_59 : decode cX8_isOrder 59 = .ok (.ifCond .eq 7, 3) := by decide +kernel
theorem dX8_isOrder_62 : decode cX8_isOrder 62 = .ok (.iconst 1, 1) := by decide +kernel
theorem dX8_isOrder_63 : decode cX8_isOrder 63 = .ok (.goto 4, 3) := by decide +kernel
theorem dX8_isOrder_66 : decode cX8_isOrder 66 = .ok (.iconst 0, 1) := by decide +kernel
theorem dX8_isOrder_67 : decode cX8_isOrder 67 = .ok (.istore 6, 2) := by decide +kernel
theorem dX8_isOrder_69 : decode cX8_isOrder 69 = .ok (.iload 5, 2) := by decide +kernel
theorem dX8_isOrder_71 : decode cX8_isOrder 71 = .ok (.iconst 1, 1) := by decide +kernel
theorem dX8_isOrder_72 : decode cX8_isOrder 72 = .ok (.aload_n 0, 1) := by decide +kernel
theorem dX8_isOrder_73 : decode cX8_isOrder 73 = .ok (.getfield 50, 3) := by decide +kernel
theorem dX8_isOrder_76 : decode cX8_isOrder 76 = .ok (.iload 7, 2) := by decide +kernel
theorem dX8_isOrder_78 : decode cX8_isOrder 78 = .ok (.iaload, 1) := by decide +kernel
theorem dX8_isOrder_79 : decode cX8_isOrder 79 = .ok (.ishl, 1) := by decide +kernel
theorem dX8_isOrder_80 : decode cX8_isOrder 80 = .ok (.ior, 1) := by decide +kernel
theorem dX8_isOrder_81 : decode cX8_isOrder 81 = .ok (.istore 5, 2) := by decide +kernel
theorem dX8_isOrder_83 : decode cX8_isOrder 83 = .ok (.iinc 7 (-1), 3) := by decide +kernel
theorem dX8_isOrder_86 : decode cX8_isOrder 86 = .ok (.goto (-72), 3) := by decide +kernel
theorem dX8_isOrder_89 : decode cX8_isOrder 89 = .ok (.iload 6, 2) := by decide +kernel
theorem dX8_isOrder_91 : decode cX8_isOrder 91 = .ok (.ireturn, 1) := by decide +kernel
def f_X8_isOrder_b67 (v14_4 : Int32) (v14_5 : Int32) (v14_7 : Int32) (M30 : xMem) (k14 : Int32 → Int32 → Int32 → Int32 → xMem → Option (Int32 × xMem)) (t67_0 : Int32) : Option (Int32 × xMem) := xchk (xb v14_7 6) (k14 (v14_4 / (6 : Int32)) (v14_5 ||| ((1 : Int32) <<< ((M30 8 28 v14_7.toNatClampNeg) &&& 31))) t67_0 (v14_7 + (-1 : Int32)) M30)
def f_X8_isOrder_b66 (k67 : Int32 → Option (Int32 × xMem)) : Option (Int32 × xMem) := k67 (0 : Int32)
def f_X8_isOrder_l14 (a3 : Int32) : Nat → Int32 → Int32 → Int32 → Int32 → xMem → Option (Int32 × xMem)
  | 0, _, _, _, _, _ => none
  | n + 1, v14_4, v14_5, v14_6, v14_7, M14 => (if v14_7 < (0 : Int32) then xchk (xbo v14_6) (some (v14_6, M14)) else xchk (xb v14_7 6) (xlet (xst M14 8 28 v14_7 (v14_4 - v14_4 / (6 : Int32) * (6 : Int32))) (fun M30 => (if v14_6 = (0 : Int32) then (f_X8_isOrder_b66 (f_X8_isOrder_b67 v14_4 v14_5 v14_7 M30 (f_X8_isOrder_l14 a3 n))) else xchk (xb v14_7 6) (xb1 (f_X8_has (a3 &&& (v14_5 ^^^ (-1 : Int32))) (M30 8 28 v14_7.toNatClampNeg) M30) (fun r56 => (if r56 = (0 : Int32) then (f_X8_isOrder_b66 (f_X8_isOrder_b67 v14_4 v14_5 v14_7 M30 (f_X8_isOrder_l14 a3 n))) else (f_X8_isOrder_b67 v14_4 v14_5 v14_7 M30 (f_X8_isOrder_l14 a3 n)) (1 : Int32))))))))
def f_X8_isOrder (a1 : Int32) (a2 : Int32) (a3 : Int32) (M : xMem) : Option (Int32 × xMem) := (f_X8_isOrder_l14 a3 FU) a1 (0 : Int32) (1 : Int32) (a2 - (1 : Int32)) M
set_option maxHeartbeats 4000000 in
set_option maxRecDepth 100000 in
theorem w_X8_isOrder_b67 {p : Program} {l : Launch} {e : Env} {s : State} {m : MethodId} {args : Array Value} {below : List Frame} {meth : Method} {c : Code} {G : xG} {rr : Int32} {MM : xMem} (E : xE p s m args meth c cX8_isOrder 8 (some .boolean) RX8 G) (a3 : Int32) (M : xMem) (L : xLL) (v14_4 : Int32) (v14_5 : Int32) (v14_6 : Int32) (v14_7 : Int32) (M14 : xMem) (M30 : xMem) (k14 : Int32 → Int32 → Int32 → Int32 → xMem → Option (Int32 × xMem)) (hk14 : ∀ (v14_4 : Int32) (v14_5 : Int32) (v14_6 : Int32) (v14_7 : Int32) (M14 : xMem), k14 v14_4 v14_5 v14_6 v14_7 M14 = some (rr, MM) → ∀ (ls : Array Slot), lv_has ls 8 [(0, .ref (xq G 8 0)), (3, .int a3), (4, .int v14_4), (5, .int v14_5), (6, .int v14_6), (7, .int v14_7)] → ∀ (H : Heap) (locs : List Loc), xI G M14 L s.heap H locs → W p l e (xR 2) s m args below meth c H locs 0 0 (MQ below (xQi G rr MM L s.heap.size) args s 0 0 (xZ G s.heap.size)) (F0 m 14 ls [])) : ∀ (t67_0 : Int32), f_X8_isOrder_b67 v14_4 v14_5 v14_7 M30 k14 t67_0 = some (rr, MM) → ∀ (ls : Array Slot), lv_has ls 8 [(0, .ref (xq G 8 0)), (3, .int a3), (4, .int (v14_4 / (6 : Int32))), (5, .int v14_5), (7, .int v14_7)] → ∀ (H : Heap) (locs : List Loc), xI G M30 L s.heap H locs → W p l e (xR 2) s m args below meth c H locs 0 0 (MQ below (xQi G rr MM L s.heap.size) args s 0 0 (xZ G s.heap.size)) (F0 m 67 ls [.int t67_0]) := by
  have hx := E.1
  have hb := E.2.1
  intro t67_0 hf ls hl H locs hI
  rw [f_X8_isOrder_b67] at hf
  refine lv_istore (lv' := [(6, .int t67_0), (0, .ref (xq G 8 0)), (3, .int a3), (4, .int (v14_4 / (6 : Int32))), (5, .int v14_5), (7, .int v14_7)]) hx hb dX8_isOrder_67 hl (by decide) rfl (fun ls hl => ?_)
  refine lv_iload hx hb dX8_isOrder_69 (lv_at hl 4 rfl) ?_
  refine lv_iconst (v := 1) hx hb dX8_isOrder_71 (by decide) ?_
  refine lv_aload_n hx hb dX8_isOrder_72 rfl (lv_at hl 1 rfl) ?_
  refine gf_X8_50 E hI dX8_isOrder_73 ?_
  refine lv_iload hx hb dX8_isOrder_76 (lv_at hl 5 rfl) ?_
  obtain ⟨h78b, hf⟩ := xchk_s hf
  refine x_iald (n := 6) E hI mx_8_28 (fun _ _ => rfl) h78b dX8_isOrder_78 ?_
  refine lv_ishl hx hb dX8_isOrder_79 ?_
  refine lv_ior hx hb dX8_isOrder_80 ?_
  refine lv_istore (lv' := [(5, .int (v14_5 ||| ((1 : Int32) <<< ((M30 8 28 v14_7.toNatClampNeg) &&& 31)))), (6, .int t67_0), (0, .ref (xq G 8 0)), (3, .int a3), (4, .int (v14_4 / (6 : Int32))), (7, .int v14_7)]) hx hb dX8_isOrder_81 hl (by decide) rfl (fun ls hl => ?_)
  refine lv_iinc (v := (v14_7 + (-1 : Int32))) (lv' := [(7, .int (v14_7 + (-1 : Int32))), (5, .int (v14_5 ||| ((1 : Int32) <<< ((M30 8 28 v14_7.toNatClampNeg) &&& 31)))), (6, .int t67_0), (0, .ref (xq G 8 0)), (3, .int a3), (4, .int (v14_4 / (6 : Int32)))]) hx hb dX8_isOrder_83 hl (k := 5) rfl rfl (by decide) rfl (fun ls hl => ?_)
  refine lv_goto (tgt := 14) hx hb dX8_isOrder_86 (by decide) ?_
  exact hk14 (v14_4 / (6 : Int32)) (v14_5 ||| ((1 : Int32) <<< ((M30 8 28 v14_7.toNatClampNeg) &&& 31))) t67_0 (v14_7 + (-1 : Int32)) M30 hf _ (lv_sub hl [3, 4, 5, 1, 2, 0] rfl) _ _ hI
set_option maxHeartbeats 4000000 in
set_option maxRecDepth 100000 in
theorem w_X8_isOrder_b66 {p : Program} {l : Launch} {e : Env} {s : State} {m : MethodId} {args : Array Value} {below : List Frame} {meth : Method} {c : Code} {G : xG} {rr : Int32} {MM : xMem} (E : xE p s m args meth c cX8_isOrder 8 (some .boolean) RX8 G) (a3 : Int32) (M : xMem) (L : xLL) (v14_4 : Int32) (v14_5 : Int32) (v14_7 : Int32) (M30 : xMem) (k67 : Int32 → Option (Int32 × xMem)) (hk67 : ∀ (t67_0 : Int32), k67 t67_0 = some (rr, MM) → ∀ (ls : Array Slot), lv_has ls 8 [(0, .ref (xq G 8 0)), (3, .int a3), (4, .int (v14_4 / (6 : Int32))), (5, .int v14_5), (7, .int v14_7)] → ∀ (H : Heap) (locs : List Loc), xI G M30 L s.heap H locs → W p l e (xR 2) s m args below meth c H locs 0 0 (MQ below (xQi G rr MM L s.heap.size) args s 0 0 (xZ G s.heap.size)) (F0 m 67 ls [.int t67_0])) : f_X8_isOrder_b66 k67  = some (rr, MM) → ∀ (ls : Array Slot), lv_has ls 8 [(0, .ref (xq G 8 0)), (3, .int a3), (4, .int (v14_4 / (6 : Int32))), (5, .int v14_5), (7, .int v14_7)] → ∀ (H : Heap) (locs : List Loc), xI G M30 L s.heap H locs → W p l e (xR 2) s m args below meth c H locs 0 0 (MQ below (xQi G rr MM L s.heap.size) args s 0 0 (xZ G s.heap.size)) (F0 m 66 ls []) := by
  have hx := E.1
  have hb := E.2.1
  intro  hf ls hl H locs hI
  rw [f_X8_isOrder_b66] at hf
  refine lv_iconst (v := 0) hx hb dX8_isOrder_66 (by decide) ?_
  exact hk67 (0 : Int32) hf _ (lv_sub hl [0, 1, 2, 3, 4] rfl) _ _ hI
set_option maxHeartbeats 4000000 in
set_option maxRecDepth 100000 in
theorem w_X8_isOrder_l14 {p : Program} {l : Launch} {e : Env} {s : State} {m : MethodId} {args : Array Value} {below : List Frame} {meth : Method} {c : Code} {G : xG} {rr : Int32} {MM : xMem} (E : xE p s m args meth c cX8_isOrder 8 (some .boolean) RX8 G) (a1 : Int32) (a3 : Int32) (M : xMem) (L : xLL) : ∀ (n : Nat), ∀ (v14_4 : Int32) (v14_5 : Int32) (v14_6 : Int32) (v14_7 : Int32) (M14 : xMem), f_X8_isOrder_l14 a3 n v14_4 v14_5 v14_6 v14_7 M14 = some (rr, MM) → ∀ (ls : Array Slot), lv_has ls 8 [(0, .ref (xq G 8 0)), (3, .int a3), (4, .int v14_4), (5, .int v14_5), (6, .int v14_6), (7, .int v14_7)] → ∀ (H : Heap) (locs : List Loc), xI G M14 L s.heap H locs → W p l e (xR 2) s m args below meth c H locs 0 0 (MQ below (xQi G rr MM L s.heap.size) args s 0 0 (xZ G s.heap.size)) (F0 m 14 ls []) := by
  have hx := E.1
  have hb := E.2.1
  intro n
  induction n with
  | zero =>
    intro v14_4 v14_5 v14_6 v14_7 M14 hf
    exact absurd hf (by simp [f_X8_isOrder_l14])
  | succ n ih =>
    intro v14_4 v14_5 v14_6 v14_7 M14 hf ls hl H locs hI
    rw [f_X8_isOrder_l14] at hf
    refine lv_iload hx hb dX8_isOrder_14 (lv_at hl 5 rfl) ?_
    refine lv_if_lt (tgt := 89) hx hb dX8_isOrder_16 (by decide) (fun c16 => ?_) (fun c16 => ?_)
    · replace hf := xif_t c16 hf
      refine lv_iload hx hb dX8_isOrder_89 (lv_at hl 4 rfl) ?_
      obtain ⟨h91n, hf⟩ := xchk_s hf
      obtain ⟨rfl, rfl⟩ := xinj2 hf
      exact x_zret E hI (xbo_s h91n) rfl dX8_isOrder_91
    · replace hf := xif_f c16 hf
      refine lv_aload_n hx hb dX8_isOrder_19 rfl (lv_at hl 0 rfl) ?_
      refine gf_X8_50 E hI dX8_isOrder_20 ?_
      refine lv_iload hx hb dX8_isOrder_23 (lv_at hl 5 rfl) ?_
      refine lv_iload hx hb dX8_isOrder_25 (lv_at hl 2 rfl) ?_
      refine lv_bipush (v := 6) hx hb dX8_isOrder_27 (by decide) ?_
      refine lv_irem hx hb dX8_isOrder_29 (by decide) ?_
      obtain ⟨h30b, hf⟩ := xchk_s hf
      obtain ⟨M30, e30, hf⟩ := xlet_s hf
      refine x_iast (n := 6) E hI mx_8_28 (fun _ _ => rfl) h30b dX8_isOrder_30 e30 (fun H locs hI => ?_)
      refine lv_iload hx hb dX8_isOrder_31 (lv_at hl 2 rfl) ?_
      refine lv_bipush (v := 6) hx hb dX8_isOrder_33 (by decide) ?_
      refine lv_idiv hx hb dX8_isOrder_35 (by decide) ?_
      refine lv_istore (lv' := [(4, .int (v14_4 / (6 : Int32))), (0, .ref (xq G 8 0)), (3, .int a3), (5, .int v14_5), (6, .int v14_6), (7, .int v14_7)]) hx hb dX8_isOrder_36 hl (by decide) rfl (fun ls hl => ?_)
      refine lv_iload hx hb dX8_isOrder_38 (lv_at hl 4 rfl) ?_
      refine lv_if_eq (tgt := 66) hx hb dX8_isOrder_40 (by decide) (fun c40 => ?_) (fun c40 => ?_)
      · replace hf := xif_t c40 hf
        exact (w_X8_isOrder_b66 E (a3 := a3) (M := M) (L := L) (v14_4 := v14_4) (v14_5 := v14_5) (v14_7 := v14_7) (M30 := M30) (k67 := (f_X8_isOrder_b67 v14_4 v14_5 v14_7 M30 (f_X8_isOrder_l14 a3 n))) (hk67 := (w_X8_isOrder_b67 E (a3 := a3) (M := M) (L := L) (v14_4 := v14_4) (v14_5 := v14_5) (v14_6 := v14_6) (v14_7 := v14_7) (M14 := M14) (M30 := M30) (k14 := (f_X8_isOrder_l14 a3 n)) (hk14 := ih))))  hf _ (lv_sub hl [1, 2, 0, 3, 5] rfl) _ _ hI
      · replace hf := xif_f c40 hf
        refine lv_iload_n hx hb dX8_isOrder_43 rfl (lv_at hl 2 rfl) ?_
        refine lv_iload hx hb dX8_isOrder_44 (lv_at hl 3 rfl) ?_
        refine lv_iconst (v := -1) hx hb dX8_isOrder_46 (by decide) ?_
        refine lv_ixor hx hb dX8_isOrder_47 ?_
        refine lv_iand hx hb dX8_isOrder_48 ?_
        refine lv_aload_n hx hb dX8_isOrder_49 rfl (lv_at hl 1 rfl) ?_
        refine gf_X8_50 E hI dX8_isOrder_50 ?_
        refine lv_iload hx hb dX8_isOrder_53 (lv_at hl 5 rfl) ?_
        obtain ⟨h55b, hf⟩ := xchk_s hf
        refine x_iald (n := 6) E hI mx_8_28 (fun _ _ => rfl) h55b dX8_isOrder_55 ?_
        obtain ⟨r56, g56, hf⟩ := xb1_s hf
        refine x_callSi (As := [.int (a3 &&& (v14_5 ^^^ (-1 : Int32))), .int (M30 8 28 v14_7.toNatClampNeg)]) (rest := []) E hI (c_X8_has l G _ (M := M30) (L := L) (a0 := (a3 &&& (v14_5 ^^^ (-1 : Int32)))) (a1 := (M30 8 28 v14_7.toNatClampNeg)) g56) ys_X8_has ml_X8_178 (by decide) (by decide) rfl rfl hl.1 (Nat.le_of_ble_eq_true rfl) dX8_isOrder_56 (fun H locs hI => ?_)
        refine lv_if_eq (tgt := 66) hx hb dX8_isOrder_59 (by decide) (fun c59 => ?_) (fun c59 => ?_)
        · replace hf := xif_t c59 hf
          exact (w_X8_isOrder_b66 E (a3 := a3) (M := M) (L := L) (v14_4 := v14_4) (v14_5 := v14_5) (v14_7 := v14_7) (M30 := M30) (k67 := (f_X8_isOrder_b67 v14_4 v14_5 v14_7 M30 (f_X8_isOrder_l14 a3 n))) (hk67 := (w_X8_isOrder_b67 E (a3 := a3) (M := M) (L := L) (v14_4 := v14_4) (v14_5 := v14_5) (v14_6 := v14_6) (v14_7 := v14_7) (M14 := M14) (M30 := M30) (k14 := (f_X8_isOrder_l14 a3 n)) (hk14 := ih))))  hf _ (lv_sub hl [1, 2, 0, 3, 5] rfl) _ _ hI
        · replace hf := xif_f c59 hf
          refine lv_iconst (v := 1) hx hb dX8_isOrder_62 (by decide) ?_
          refine lv_goto (tgt := 67) hx hb dX8_isOrder_63 (by decide) ?_
          exact (w_X8_isOrder_b67 E (a3 := a3) (M := M) (L := L) (v14_4 := v14_4) (v14_5 := v14_5) (v14_6 := v14_6) (v14_7 := v14_7) (M14 := M14) (M30 := M30) (k14 := (f_X8_isOrder_l14 a3 n)) (hk14 := ih)) (1 : Int32) hf _ (lv_sub hl [1, 2, 0, 3, 5] rfl) _ _ hI
set_option maxHeartbeats 4000000 in
set_option maxRecDepth 100000 in
theorem c_X8_isOrder (l : Launch) (G : xG) (sz : Nat) (M : xMem) (L : xLL) (a1 : Int32) (a2 : Int32) (a3 : Int32) {rr : Int32} {MM : xMem} (hf : f_X8_isOrder a1 a2 a3 M = some (rr, MM)) : Met l yX8_isOrder (Cond.code yX8_isOrder cX8_isOrder 8 (some .boolean) :: xTB) (xR 2) (xP G M L sz [.ref (xq G 8 0), .int a1, .int a2, .int a3]) (xQi G rr MM L sz) 0 0 (xZ G sz) := by
  refine x_met (cc := cX8_isOrder) (nL := 8) (rt := (some .boolean)) (by decide) (Nat.le_of_ble_eq_true rfl) ?_
  intro p e s m below meth c ls hsz E hl hI
  subst hsz
  have E : xE p s m _ meth c cX8_isOrder 8 (some .boolean) RX8 G := E
  have hx := E.1
  have hb := E.2.1
  have hl : lv_has ls 8 [(0, .ref (xq G 8 0)), (1, .int a1), (2, .int a2), (3, .int a3)] := hl
  rw [f_X8_isOrder] at hf
  refine lv_iload_n hx hb dX8_isOrder_0 rfl (lv_at hl 1 rfl) ?_
  refine lv_istore (lv' := [(4, .int a1), (0, .ref (xq G 8 0)), (1, .int a1), (2, .int a2), (3, .int a3)]) hx hb dX8_isOrder_1 hl (by decide) rfl (fun ls hl => ?_)
  refine lv_iconst (v := 0) hx hb dX8_isOrder_3 (by decide) ?_
  refine lv_istore (lv' := [(5, .int (0 : Int32)), (4, .int a1), (0, .ref (xq G 8 0)), (1, .int a1), (2, .int a2), (3, .int a3)]) hx hb dX8_isOrder_4 hl (by decide) rfl (fun ls hl => ?_)
  refine lv_iconst (v := 1) hx hb dX8_isOrder_6 (by decide) ?_
  refine lv_istore (lv' := [(6, .int (1 : Int32)), (5, .int (0 : Int32)), (4, .int a1), (0, .ref (xq G 8 0)), (1, .int a1), (2, .int a2), (3, .int a3)]) hx hb dX8_isOrder_7 hl (by decide) rfl (fun ls hl => ?_)
  refine lv_iload_n hx hb dX8_isOrder_9 rfl (lv_at hl 5 rfl) ?_
  refine lv_iconst (v := 1) hx hb dX8_isOrder_10 (by decide) ?_
  refine lv_isub hx hb dX8_isOrder_11 ?_
  refine lv_istore (lv' := [(7, .int (a2 - (1 : Int32))), (6, .int (1 : Int32)), (5, .int (0 : Int32)), (4, .int a1), (0, .ref (xq G 8 0)), (1, .int a1), (2, .int a2), (3, .int a3)]) hx hb dX8_isOrder_12 hl (by decide) rfl (fun ls hl => ?_)
  exact (w_X8_isOrder_l14 E (a1 := a1) (a3 := a3) (M := M) (L := L) FU) a1 (0 : Int32) (1 : Int32) (a2 - (1 : Int32)) M hf _ (lv_sub hl [4, 7, 3, 2, 1, 0] rfl) _ _ hI
theorem dX8_sixes_0 : decode cX8_sixes 0 = .ok (.iconst 1, 1) := by decide +kernel
theorem dX8_sixes_1 : decode cX8_sixes 1 = .ok (.istore_n 1, 1) := by decide +kernel
theorem dX8_sixes_2 : decode cX8_sixes 2 = .ok (.iconst 0, 1) := by decide +kernel
theorem dX8_sixes_3 : decode cX8_sixes 3 = .ok (.istore_n 2, 1) := by decide +kernel
theorem dX8_sixes_4 : decode cX8_sixes 4 = .ok (.iload_n 2, 1) := by decide +kernel
theorem dX8_sixes_5 : decode cX8_sixes 5 = .ok (.iload_n 0, 1) := by decide +kernel
theorem dX8_sixes_6 : decode cX8_sixes 6 = .ok (.if_icmp .ge 14, 3) := by decide +kernel
theorem dX8_sixes_9 : decode cX8_sixes 9 = .ok (.iload_n 1, 1) := by decide +kernel
theorem dX8_sixes_10 : decode cX8_sixes 10 = .ok (.bipush 6, 2) := by decide +kernel
theorem dX8_sixes_12 : decode cX8_sixes 12 = .ok (.imul, 1) := by decide +kernel
theorem dX8_sixes_13 : decode cX8_sixes 13 = .ok (.istore_n 1, 1) := by decide +kernel
theorem dX8_sixes_14 : decode cX8_sixes 14 = .ok (.iinc 2 1, 3) := by decide +kernel
theorem dX8_sixes_17 : decode cX8_sixes 17 = .ok (.goto (-13), 3) := by decide +kernel
theorem dX8_sixes_20 : decode cX8_sixes 20 = .ok (.iload_n 1, 1) := by decide +kernel
theorem dX8_sixes_21 : decode cX8_sixes 21 = .ok (.ireturn, 1) := by decide +kernel
def f_X8_sixes_l4 (a0 : Int32) : Nat → Int32 → Int32 → Option (Int32)
  | 0, _, _ => none
  | n + 1, v4_1, v4_2 => (if a0 ≤ v4_2 then some v4_1 else (f_X8_sixes_l4 a0 n) (v4_1 * (6 : Int32)) (v4_2 + (1 : Int32)))
def f_X8_sixes (a0 : Int32) (M : xMem) : Option (Int32) := (f_X8_sixes_l4 a0 FU) (1 : Int32) (0 : Int32)
set_option maxHeartbeats 4000000 in
set_option maxRecDepth 100000 in
theorem w_X8_sixes_l4 {p : Program} {l : Launch} {e : Env} {s : State} {m : MethodId} {args : Array Value} {below : List Frame} {meth : Method} {c : Code} {G : xG} {rr : Int32} (E : xE p s m args meth c cX8_sixes 3 (some .int) RX8 G) (a0 : Int32) (M : xMem) (L : xLL) : ∀ (n : Nat), ∀ (v4_1 : Int32) (v4_2 : Int32), f_X8_sixes_l4 a0 n v4_1 v4_2 = some rr → ∀ (ls : Array Slot), lv_has ls 3 [(0, .int a0), (1, .int v4_1), (2, .int v4_2)] → ∀ (H : Heap) (locs : List Loc), xI G M L s.heap H locs → W p l e (xR 1) s m args below meth c H locs 0 0 (MQ below (xQi G rr M L s.heap.size) args s 0 0 (xZ G s.heap.size)) (F0 m 4 ls []) := by
  have hx := E.1
  have hb := E.2.1
  intro n
  induction n with
  | zero =>
    intro v4_1 v4_2 hf
    exact absurd hf (by simp [f_X8_sixes_l4])
  | succ n ih =>
    intro v4_1 v4_2 hf ls hl H locs hI
    rw [f_X8_sixes_l4] at hf
    refine lv_iload_n hx hb dX8_sixes_4 rfl (lv_at hl 2 rfl) ?_
    refine lv_iload_n hx hb dX8_sixes_5 rfl (lv_at hl 0 rfl) ?_
    refine lv_icmp_ge (tgt := 20) hx hb dX8_sixes_6 (by decide) (fun c6 => ?_) (fun c6 => ?_)
    · replace hf := xif_t c6 hf
      refine lv_iload_n hx hb dX8_sixes_20 rfl (lv_at hl 1 rfl) ?_
      obtain rfl := xinj1 hf
      exact x_iret E hI rfl dX8_sixes_21
    · replace hf := xif_f c6 hf
      refine lv_iload_n hx hb dX8_sixes_9 rfl (lv_at hl 1 rfl) ?_
      refine lv_bipush (v := 6) hx hb dX8_sixes_10 (by decide) ?_
      refine lv_imul hx hb dX8_sixes_12 ?_
      refine lv_istore_n (lv' := [(1, .int (v4_1 * (6 : Int32))), (0, .int a0), (2, .int v4_2)]) hx hb dX8_sixes_13 rfl hl (by decide) rfl (fun ls hl => ?_)
      refine lv_iinc (v := (v4_2 + (1 : Int32))) (lv' := [(2, .int (v4_2 + (1 : Int32))), (1, .int (v4_1 * (6 : Int32))), (0, .int a0)]) hx hb dX8_sixes_14 hl (k := 2) rfl rfl (by decide) rfl (fun ls hl => ?_)
      refine lv_goto (tgt := 4) hx hb dX8_sixes_17 (by decide) ?_
      exact ih (v4_1 * (6 : Int32)) (v4_2 + (1 : Int32)) hf _ (lv_sub hl [2, 1, 0] rfl) _ _ hI
set_option maxHeartbeats 4000000 in
set_option maxRecDepth 100000 in
theorem c_X8_sixes (l : Launch) (G : xG) (sz : Nat) (M : xMem) (L : xLL) (a0 : Int32) {rr : Int32} (hf : f_X8_sixes a0 M = some rr) : Met l yX8_sixes (Cond.code yX8_sixes cX8_sixes 3 (some .int) :: xTB) (xR 1) (xP G M L sz [.int a0]) (xQi G rr M L sz) 0 0 (xZ G sz) := by
  refine x_met (cc := cX8_sixes) (nL := 3) (rt := (some .int)) (by decide) (Nat.le_of_ble_eq_true rfl) ?_
  intro p e s m below meth c ls hsz E hl hI
  subst hsz
  have E : xE p s m _ meth c cX8_sixes 3 (some .int) RX8 G := E
  have hx := E.1
  have hb := E.2.1
  have hl : lv_has ls 3 [(0, .int a0)] := hl
  rw [f_X8_sixes] at hf
  refine lv_iconst (v := 1) hx hb dX8_sixes_0 (by decide) ?_
  refine lv_istore_n (lv' := [(1, .int (1 : Int32)), (0, .int a0)]) hx hb dX8_sixes_1 rfl hl (by decide) rfl (fun ls hl => ?_)
  refine lv_iconst (v := 0) hx hb dX8_sixes_2 (by decide) ?_
  refine lv_istore_n (lv' := [(2, .int (0 : Int32)), (1, .int (1 : Int32)), (0, .int a0)]) hx hb dX8_sixes_3 rfl hl (by decide) rfl (fun ls hl => ?_)
  exact (w_X8_sixes_l4 E (a0 := a0) (M := M) (L := L) FU) (1 : Int32) (0 : Int32) hf _ (lv_sub hl [2, 1, 0] rfl) _ _ hI
theorem dX8_keepsOrder_0 : decode cX8_keepsOrder 0 = .ok (.iconst 0, 1) := by decide +kernel
theorem dX8_keepsOrder_1 : decode cX8_keepsOrder 1 = .ok (.istore_n 1, 1) := by decide +kernel
theorem dX8_keepsOrder_2 : decode cX8_keepsOrder 2 = .ok (.iload_n 1, 1) := by decide +kernel
theorem dX8_keepsOrder_3 : decode cX8_keepsOrder 3 = .ok (.bipush 6, 2) := by decide +kernel
theorem dX8_keepsOrder_5 : decode cX8_keepsOrder 5 = .ok (.if_icmp .ge 21, 3) := by decide +kernel
theorem dX8_keepsOrder_8 : decode cX8_keepsOrder 8 = .ok (.aload_n 0, 1) := by decide +kernel
theorem dX8_keepsOrder_9 : decode cX8_keepsOrder 9 = .ok (.getfield 53, 3) := by decide +kernel
theorem dX8_keepsOrder_12 : decode cX8_keepsOrder 12 = .ok (.iload_n 1, 1) := by decide +kernel
theorem dX8_keepsOrder_13 : decode cX8_keepsOrder 13 = .ok (.aload_n 0, 1) := by decide +kernel
theorem dX8_keepsOrder_14 : decode cX8_keepsOrder 14 = .ok (.getfield 50, 3) := by decide +kernel
theorem dX8_keepsOrder_17 : decode cX8_keepsOrder 17 = .ok (.iload_n 1, 1) := by decide +kernel
theorem dX8_keepsOrder_18 : decode cX8_keepsOrder 18 = .ok (.iaload, 1) := by decide +kernel
theorem dX8_keepsOrder_19 : decode cX8_keepsOrder 19 = .ok (.iastore, 1) := by decide +kernel
theorem dX8_keepsOrder_20 : decode cX8_keepsOrder 20 = .ok (.iinc 1 1, 3) := by decide +kernel
theorem dX8_keepsOrder_23 : decode cX8_keepsOrder 23 = .ok (.goto (-21), 3) := by decide +kernel
theorem dX8_keepsOrder_26 : decode cX8_keepsOrder 26 = .ok (.return_, 1) := by decide +kernel
def f_X8_keepsOrder_l2 : Nat → Int32 → xMem → Option (xMem)
  | 0, _, _ => none
  | n + 1, v2_1, M2 => (if (6 : Int32) ≤ v2_1 then some M2 else xchk (xb v2_1 6) (xchk (xb v2_1 6) (xlet (xst M2 8 29 v2_1 (M2 8 28 v2_1.toNatClampNeg)) (fun M19 => (f_X8_keepsOrder_l2 n) (v2_1 + (1 : Int32)) M19))))
def f_X8_keepsOrder (M : xMem) : Option (xMem) := (f_X8_keepsOrder_l2 FU) (0 : Int32) M
set_option maxHeartbeats 4000000 in
set_option maxRecDepth 100000 in
theorem w_X8_keepsOrder_l2 {p : Program} {l : Launch} {e : Env} {s : State} {m : MethodId} {args : Array Value} {below : List Frame} {meth : Method} {c : Code} {G : xG} {MM : xMem} (E : xE p s m args meth c cX8_keepsOrder 2 none RX8 G) (M : xMem) (L : xLL) : ∀ (n : Nat), ∀ (v2_1 : Int32) (M2 : xMem), f_X8_keepsOrder_l2  n v2_1 M2 = some MM → ∀ (ls : Array Slot), lv_has ls 2 [(0, .ref (xq G 8 0)), (1, .int v2_1)] → ∀ (H : Heap) (locs : List Loc), xI G M2 L s.heap H locs → W p l e (xR 1) s m args below meth c H locs 0 0 (MQ below (xQv G MM L s.heap.size) args s 0 0 (xZ G s.heap.size)) (F0 m 2 ls []) := by
  have hx := E.1
  have hb := E.2.1
  intro n
  induction n with
  | zero =>
    intro v2_1 M2 hf
    exact absurd hf (by simp [f_X8_keepsOrder_l2])
  | succ n ih =>
    intro v2_1 M2 hf ls hl H locs hI
    rw [f_X8_keepsOrder_l2] at hf
    refine lv_iload_n hx hb dX8_keepsOrder_2 rfl (lv_at hl 1 rfl) ?_
    refine lv_bipush (v := 6) hx hb dX8_keepsOrder_3 (by decide) ?_
    refine lv_icmp_ge (tgt := 26) hx hb dX8_keepsOrder_5 (by decide) (fun c5 => ?_) (fun c5 => ?_)
    · replace hf := xif_t c5 hf
      obtain rfl := xinj1 hf
      exact x_vret E hI dX8_keepsOrder_26
    · replace hf := xif_f c5 hf
      refine lv_aload_n hx hb dX8_keepsOrder_8 rfl (lv_at hl 0 rfl) ?_
      refine gf_X8_53 E hI dX8_keepsOrder_9 ?_
      refine lv_iload_n hx hb dX8_keepsOrder_12 rfl (lv_at hl 1 rfl) ?_
      refine lv_aload_n hx hb dX8_keepsOrder_13 rfl (lv_at hl 0 rfl) ?_
      refine gf_X8_50 E hI dX8_keepsOrder_14 ?_
      refine lv_iload_n hx hb dX8_keepsOrder_17 rfl (lv_at hl 1 rfl) ?_
      obtain ⟨h18b, hf⟩ := xchk_s hf
      refine x_iald (n := 6) E hI mx_8_28 (fun _ _ => rfl) h18b dX8_keepsOrder_18 ?_
      obtain ⟨h19b, hf⟩ := xchk_s hf
      obtain ⟨M19, e19, hf⟩ := xlet_s hf
      refine x_iast (n := 6) E hI mx_8_29 (fun _ _ => rfl) h19b dX8_keepsOrder_19 e19 (fun H locs hI => ?_)
      refine lv_iinc (v := (v2_1 + (1 : Int32))) (lv' := [(1, .int (v2_1 + (1 : Int32))), (0, .ref (xq G 8 0))]) hx hb dX8_keepsOrder_20 hl (k := 1) rfl rfl (by decide) rfl (fun ls hl => ?_)
      refine lv_goto (tgt := 2) hx hb dX8_keepsOrder_23 (by decide) ?_
      exact ih (v2_1 + (1 : Int32)) M19 hf _ (lv_sub hl [1, 0] rfl) _ _ hI
set_option maxHeartbeats 4000000 in
set_option maxRecDepth 100000 in
theorem c_X8_keepsOrder (l : Launch) (G : xG) (sz : Nat) (M : xMem) (L : xLL) {MM : xMem} (hf : f_X8_keepsOrder M = some MM) : Met l yX8_keepsOrder (Cond.code yX8_keepsOrder cX8_keepsOrder 2 none :: xTB) (xR 1) (xP G M L sz [.ref (xq G 8 0)]) (xQv G MM L sz) 0 0 (xZ G sz) := by
  refine x_met (cc := cX8_keepsOrder) (nL := 2) (rt := none) (by decide) (Nat.le_of_ble_eq_true rfl) ?_
  intro p e s m below meth c ls hsz E hl hI
  subst hsz
  have E : xE p s m _ meth c cX8_keepsOrder 2 none RX8 G := E
  have hx := E.1
  have hb := E.2.1
  have hl : lv_has ls 2 [(0, .ref (xq G 8 0))] := hl
  rw [f_X8_keepsOrder] at hf
  refine lv_iconst (v := 0) hx hb dX8_keepsOrder_0 (by decide) ?_
  refine lv_istore_n (lv' := [(1, .int (0 : Int32)), (0, .ref (xq G 8 0))]) hx hb dX8_keepsOrder_1 rfl hl (by decide) rfl (fun ls hl => ?_)
  exact (w_X8_keepsOrder_l2 E (M := M) (L := L) FU) (0 : Int32) M hf _ (lv_sub hl [1, 0] rfl) _ _ hI
theorem dX8_order_0 : decode cX8_order 0 = .ok (.iload_n 1, 1) := by decide +kernel
theorem dX8_order_1 : decode cX8_order 1 = .ok (.iconst (-1), 1) := by decide +kernel
theorem dX8_order_2 : decode cX8_order 2 = .ok (.iconst 5, 1) := by decide +kernel
theorem dX8_order_3 : decode cX8_order 3 = .ok (.invokestatic 66, 3) := by decide +kernel
theorem dX8_order_6 : decode cX8_order 6 = .ok (.ifCond .ne 5, 3) := by decide +kernel
theorem dX8_order_9 : decode cX8_order 9 = .ok (.iconst (-1), 1) := by decide +kernel
theorem dX8_order_10 : decode cX8_order 10 = .ok (.ireturn, 1) := by decide +kernel
theorem dX8_order_11 : decode cX8_order 11 = .ok (.aload_n 0, 1) := by decide +kernel
theorem dX8_order_12 : decode cX8_order 12 = .ok (.invokevirtual 156, 3) := by decide +kernel
theorem dX8_order_15 : decode cX8_order 15 = .ok (.aload_n 0, 1) := by decide +kernel
theorem dX8_order_16 : decode cX8_order 16 = .ok (.iconst 0, 1) := by decide +kernel
theorem dX8_order_17 : decode cX8_order 17 = .ok (.invokevirtual 132, 3) := by decide +kernel
theorem dX8_order_20 : decode cX8_order 20 = .ok (.istore_n 2, 1) := by decide +kernel
theorem dX8_order_21 : decode cX8_order 21 = .ok (.iload_n 2, 1) := by decide +kernel
theorem dX8_order_22 : decode cX8_order 22 = .ok (.invokestatic 135, 3) := by decide +kernel
theorem dX8_order_25 : decode cX8_order 25 = .ok (.istore_n 3, 1) := by decide +kernel
theorem dX8_order_26 : decode cX8_order 26 = .ok (.iload_n 3, 1) := by decide +kernel
theorem dX8_order_27 : decode cX8_order 27 = .ok (.invokestatic 182, 3) := by decide +kernel
theorem dX8_order_30 : decode cX8_order 30 = .ok (.istore 4, 2) := by decide +kernel
theorem dX8_order_32 : decode cX8_order 32 = .ok (.iconst (-1), 1) := by decide +kernel
theorem dX8_order_33 : decode cX8_order 33 = .ok (.istore 5, 2) := by decide +kernel
theorem dX8_order_35 : decode cX8_order 35 = .ok (.iconst 0, 1) := by decide +kernel
theorem dX8_order_36 : decode cX8_order 36 = .ok (.istore 6, 2) := by decide +kernel
theorem dX8_order_38 : decode cX8_order 38 = .ok (.iload 6, 2) := by decide +kernel
theorem dX8_order_40 : decode cX8_order 40 = .ok (.iload 4, 2) := by decide +kernel
theorem dX8_order_42 : decode cX8_order 42 = .ok (.if_icmp .ge 75, 3) := by decide +kernel
theorem dX8_order_45 : decode cX8_order 45 = .ok (.aload_n 0, 1) := by decide +kernel
theorem dX8_order_46 : decode cX8_order 46 = .ok (.iload 6, 2) := by decide +kernel
theorem dX8_order_48 : decode cX8_order 48 = .ok (.iload_n 3, 1) := by decide +kernel
theorem dX8_order_49 : decode cX8_order 49 = .ok (.iload_n 2, 1) := by decide +kernel
theorem dX8_order_50 : decode cX8_order 50 = .ok (.invokevirtual 185, 3) := by decide +kernel
theorem dX8_order_53 : decode cX8_order 53 = .ok (.ifCond .eq 58, 3) := by decide +kernel
theorem dX8_order_56 : decode cX8_order 56 = .ok (.aload_n 0, 1) := by decide +kernel
theorem dX8_order_57 : decode cX8_order 57 = .ok (.invokevirtual 156, 3) := by decide +kernel
theorem dX8_order_60 : decode cX8_order 60 = .ok (.iconst 0, 1) := by decide +kernel
theorem dX8_order_61 : decode cX8_order 61 = .ok (.istore 7, 2) := by decide +kernel
theorem dX8_order_63 : decode cX8_order 63 = .ok (.iload 7, 2) := by decide +kernel
theorem dX8_order_65 : decode cX8_order 65 = .ok (.iload_n 3, 1) := by decide +kernel
theorem dX8_order_66 : decode cX8_order 66 = .ok (.if_icmp .ge 21, 3) := by decide +kernel
theorem dX8_order_69 : decode cX8_order 69 = .ok (.aload_n 0, 1) := by decide +kernel
theorem dX8_order_70 : decode cX8_order 70 = .ok (.aload_n 0, 1) := by decide +kernel
theorem dX8_order_71 : decode cX8_order 71 = .ok (.getfield 50, 3) := by decide +kernel
theorem dX8_order_74 : decode cX8_order 74 = .ok (.iload 7, 2) := by decide +kernel
theorem dX8_order_76 : decode cX8_order 76 = .ok (.iaload, 1) := by decide +kernel
theorem dX8_order_77 : decode cX8_order 77 = .ok (.invokevirtual 175, 3) := by decide +kernel
theorem dX8_order_80 : decode cX8_order 80 = .ok (.pop, 1) := by decide +kernel
theorem dX8_order_81 : decode cX8_order 81 = .ok (.iinc 7 1, 3) := by decide +kernel
theorem dX8_order_84 : decode cX8_order 84 = .ok (.goto (-21), 3) := by decide +kernel
theorem dX8_order_87 : decode cX8_order 87 = .ok (.aload_n 0, 1) := by decide +kernel
theorem dX8_order_88 : decode cX8_order 88 = .ok (.invokevirtual 165, 3) := by decide +kernel
theorem dX8_order_91 : decode cX8_order 91 = .ok (.invokestatic 135, 3) := by decide +kernel
theorem dX8_order_94 : decode cX8_order 94 = .ok (.istore 7, 2) := by decide +kernel
theorem dX8_order_96 : decode cX8_order 96 = .ok (.iload 7, 2) := by decide +kernel
theorem dX8_order_98 : decode cX8_order 98 = .ok (.iload 5, 2) := by decide +kernel
theorem dX8_order_100 : decode cX8_order 100 = .ok (.if_icmp .le 11, 3) := by decide +kernel
theorem dX8_order_103 : decode cX8_order 103 = .ok (.iload 7, 2) := by decide +kernel
theorem dX8_order_105 : decode cX8_order 105 = .ok (.istore 5, 2) := by decide +kernel
theorem dX8_order_107 : decode cX8_order 107 = .ok (.aload_n 0, 1) := by decide +kernel
theorem dX8_order_108 : decode cX8_order 108 = .ok (.invokevirtual 188, 3) := by decide +kernel
theorem dX8_order_111 : decode cX8_order 111 = .ok (.iinc 6 1, 3) := by decide +kernel
theorem dX8_order_114 : decode cX8_order 114 = .ok (.goto (-76), 3) := by decide +kernel
theorem dX8_order_117 : decode cX8_order 117 = .ok (.iload_n 1, 1) := by decide +kernel
theorem dX8_order_118 : decode cX8_order 118 = .ok (.ifCond .ge 8, 3) := by decide +kernel
theorem dX8_order_121 : decode cX8_order 121 = .ok (.iload 5, 2) := by decide +kernel
theorem dX8_order_123 : decode cX8_order 123 = .ok (.goto 19, 3) := by decide +kernel
theorem dX8_order_126 : decode cX8_order 126 = .ok (.iload_n 1, 1) := by decide +kernel
theorem dX8_order_127 : decode cX8_order 127 = .ok (.iload_n 3, 1) := by decide +kernel
theorem dX8_order_128 : decode cX8_order 128 = .ok (.if_icmp .ge 12, 3) := by decide +kernel
theorem dX8_order_131 : decode cX8_order 131 = .ok (.aload_n 0, 1) := by decide +kernel
theorem dX8_order_132 : decode cX8_order 132 = .ok (.getfield 53, 3) := by decide +kernel
theorem dX8_order_135 : decode cX8_order 135 = .ok (.iload_n 1, 1) := by decide +kernel
theorem dX8_order_136 : decode cX8_order 136 = .ok (.iaload, 1) := by decide +kernel
theorem dX8_order_137 : decode cX8_order 137 = .ok (.goto 5, 3) := by decide +kernel
theorem dX8_order_140 : decode cX8_order 140 = .ok (.bipush (-9), 2) := by decide +kernel
theorem dX8_order_142 : decode cX8_order 142 = .ok (.ireturn, 1) := by decide +kernel
def f_X8_order_b142 (M38 : xMem) (t142_0 : Int32) : Option (Int32 × xMem) := some (t142_0, M38)
def f_X8_order_b111 (v38_6 : Int32) (k38 : Int32 → Int32 → xMem → Option (Int32 × xMem)) (v111_5 : Int32) (M111 : xMem) : Option (Int32 × xMem) := k38 v111_5 (v38_6 + (1 : Int32)) M111
def f_X8_order_l63 (r22 : Int32) (v38_5 : Int32) (k111 : Int32 → xMem → Option (Int32 × xMem)) : Nat → Int32 → xMem → Option (Int32 × xMem)
  | 0, _, _ => none
  | n + 1, v63_7, M63 => (if r22 ≤ v63_7 then xb1 (f_X8_right M63) (fun r88 => xb1 (f_X8_bits r88 M63) (fun r91 => (if r91 ≤ v38_5 then k111 v38_5 M63 else xb1 (f_X8_keepsOrder M63) (fun M108 => k111 r91 M108)))) else xchk (xb v63_7 6) (xb2 (f_X8_rolled (M63 8 28 v63_7.toNatClampNeg) M63) (fun r77 M77 => (f_X8_order_l63 r22 v38_5 k111 n) (v63_7 + (1 : Int32)) M77)))
def f_X8_order_l38 (a1 : Int32) (r17 : Int32) (r22 : Int32) (r27 : Int32) : Nat → Int32 → Int32 → xMem → Option (Int32 × xMem)
  | 0, _, _, _ => none
  | n + 1, v38_5, v38_6, M38 => (if r27 ≤ v38_6 then (if (0 : Int32) ≤ a1 then (if r22 ≤ a1 then (f_X8_order_b142 M38) (-9 : Int32) else xchk (xb a1 6) ((f_X8_order_b142 M38) (M38 8 29 a1.toNatClampNeg))) else (f_X8_order_b142 M38) v38_5) else xb2 (f_X8_isOrder v38_6 r22 r17 M38) (fun r50 M50 => (if r50 = (0 : Int32) then (f_X8_order_b111 v38_6 (f_X8_order_l38 a1 r17 r22 r27 n)) v38_5 M50 else xb1 (f_X8_asItIs M50) (fun M57 => (f_X8_order_l63 r22 v38_5 (f_X8_order_b111 v38_6 (f_X8_order_l38 a1 r17 r22 r27 n)) FU) (0 : Int32) M57))))
def f_X8_order (a1 : Int32) (M : xMem) : Option (Int32 × xMem) := xb1 (f_X8_in a1 (-1 : Int32) (5 : Int32) M) (fun r3 => (if r3 = (0 : Int32) then some ((-1 : Int32), M) else xb1 (f_X8_asItIs M) (fun M12 => xb1 (f_X8_inPlace (0 : Int32) M12) (fun r17 => xb1 (f_X8_bits r17 M12) (fun r22 => xb1 (f_X8_sixes r22 M12) (fun r27 => (f_X8_order_l38 a1 r17 r22 r27 FU) (-1 : Int32) (0 : Int32) M12))))))
set_option maxHeartbeats 4000000 in
set_option maxRecDepth 100000 in
theorem w_X8_order_b142 {p : Program} {l : Launch} {e : Env} {s : State} {m : MethodId} {args : Array Value} {below : List Frame} {meth : Method} {c : Code} {G : xG} {rr : Int32} {MM : xMem} (E : xE p s m args meth c cX8_order 8 (some .int) RX8 G) (M : xMem) (L : xLL) (M38 : xMem) : ∀ (t142_0 : Int32), f_X8_order_b142 M38 t142_0 = some (rr, MM) → ∀ (ls : Array Slot), lv_has ls 8 [] → ∀ (H : Heap) (locs : List Loc), xI G M38 L s.heap H locs → W p l e (xR 4) s m args below meth c H locs 0 0 (MQ below (xQi G rr MM L s.heap.size) args s 0 0 (xZ G s.heap.size)) (F0 m 142 ls [.int t142_0]) := by
  have hx := E.1
  have hb := E.2.1
  intro t142_0 hf ls hl H locs hI
  rw [f_X8_order_b142] at hf
  obtain ⟨rfl, rfl⟩ := xinj2 hf
  exact x_iret E hI rfl dX8_order_142
set_option maxHeartbeats 4000000 in
set_option maxRecDepth 100000 in
theorem w_X8_order_b111 {p : Program} {l : Launch} {e : Env} {s : State} {m : MethodId} {args : Array Value} {below : List Frame} {meth : Method} {c : Code} {G : xG} {rr : Int32} {MM : xMem} (E : xE p s m args meth c cX8_order 8 (some .int) RX8 G) (a1 : Int32) (M : xMem) (L : xLL) (r17 : Int32) (r22 : Int32) (r27 : Int32) (v38_5 : Int32) (v38_6 : Int32) (M38 : xMem) (k38 : Int32 → Int32 → xMem → Option (Int32 × xMem)) (hk38 : ∀ (v38_5 : Int32) (v38_6 : Int32) (M38 : xMem), k38 v38_5 v38_6 M38 = some (rr, MM) → ∀ (ls : Array Slot), lv_has ls 8 [(0, .ref (xq G 8 0)), (1, .int a1), (2, .int r17), (3, .int r22), (4, .int r27), (5, .int v38_5), (6, .int v38_6)] → ∀ (H : Heap) (locs : List Loc), xI G M38 L s.heap H locs → W p l e (xR 4) s m args below meth c H locs 0 0 (MQ below (xQi G rr MM L s.heap.size) args s 0 0 (xZ G s.heap.size)) (F0 m 38 ls [])) : ∀ (v111_5 : Int32) (M111 : xMem), f_X8_order_b111 v38_6 k38 v111_5 M111 = some (rr, MM) → ∀ (ls : Array Slot), lv_has ls 8 [(0, .ref (xq G 8 0)), (1, .int a1), (2, .int r17), (3, .int r22), (4, .int r27), (5, .int v111_5), (6, .int v38_6)] → ∀ (H : Heap) (locs : List Loc), xI G M111 L s.heap H locs → W p l e (xR 4) s m args below meth c H locs 0 0 (MQ below (xQi G rr MM L s.heap.size) args s 0 0 (xZ G s.heap.size)) (F0 m 111 ls []) := by
  have hx := E.1
  have hb := E.2.1
  intro v111_5 M111 hf ls hl H locs hI
  rw [f_X8_order_b111] at hf
  refine lv_iinc (v := (v38_6 + (1 : Int32))) (lv' := [(6, .int (v38_6 + (1 : Int32))), (0, .ref (xq G 8 0)), (1, .int a1), (2, .int r17), (3, .int r22), (4, .int r27), (5, .int v111_5)]) hx hb dX8_order_111 hl (k := 6) rfl rfl (by decide) rfl (fun ls hl => ?_)
  refine lv_goto (tgt := 38) hx hb dX8_order_114 (by decide) ?_
  exact hk38 v111_5 (v38_6 + (1 : Int32)) M111 hf _ (lv_sub hl [1, 2, 3, 4, 5, 6, 0] rfl) _ _ hI
set_option maxHeartbeats 4000000 in
set_option maxRecDepth 100000 in
theorem w_X8_order_l63 {p : Program} {l : Launch} {e : Env} {s : State} {m : MethodId} {args : Array Value} {below : List Frame} {meth : Method} {c : Code} {G : xG} {rr : Int32} {MM : xMem} (E : xE p s m args meth c cX8_order 8 (some .int) RX8 G) (a1 : Int32) (M : xMem) (L : xLL) (r17 : Int32) (r22 : Int32) (r27 : Int32) (v38_5 : Int32) (v38_6 : Int32) (k111 : Int32 → xMem → Option (Int32 × xMem)) (hk111 : ∀ (v111_5 : Int32) (M111 : xMem), k111 v111_5 M111 = some (rr, MM) → ∀ (ls : Array Slot), lv_has ls 8 [(0, .ref (xq G 8 0)), (1, .int a1), (2, .int r17), (3, .int r22), (4, .int r27), (5, .int v111_5), (6, .int v38_6)] → ∀ (H : Heap) (locs : List Loc), xI G M111 L s.heap H locs → W p l e (xR 4) s m args below meth c H locs 0 0 (MQ below (xQi G rr MM L s.heap.size) args s 0 0 (xZ G s.heap.size)) (F0 m 111 ls [])) : ∀ (n : Nat), ∀ (v63_7 : Int32) (M63 : xMem), f_X8_order_l63 r22 v38_5 k111 n v63_7 M63 = some (rr, MM) → ∀ (ls : Array Slot), lv_has ls 8 [(0, .ref (xq G 8 0)), (1, .int a1), (2, .int r17), (3, .int r22), (4, .int r27), (5, .int v38_5), (6, .int v38_6), (7, .int v63_7)] → ∀ (H : Heap) (locs : List Loc), xI G M63 L s.heap H locs → W p l e (xR 4) s m args below meth c H locs 0 0 (MQ below (xQi G rr MM L s.heap.size) args s 0 0 (xZ G s.heap.size)) (F0 m 63 ls []) := by
  have hx := E.1
  have hb := E.2.1
  intro n
  induction n with
  | zero =>
    intro v63_7 M63 hf
    exact absurd hf (by simp [f_X8_order_l63])
  | succ n ih =>
    intro v63_7 M63 hf ls hl H locs hI
    rw [f_X8_order_l63] at hf
    refine lv_iload hx hb dX8_order_63 (lv_at hl 7 rfl) ?_
    refine lv_iload_n hx hb dX8_order_65 rfl (lv_at hl 3 rfl) ?_
    refine lv_icmp_ge (tgt := 87) hx hb dX8_order_66 (by decide) (fun c66 => ?_) (fun c66 => ?_)
    · replace hf := xif_t c66 hf
      refine lv_aload_n hx hb dX8_order_87 rfl (lv_at hl 0 rfl) ?_
      obtain ⟨r88, g88, hf⟩ := xb1_s hf
      refine x_callVi (As := []) (rest := []) E hI mx_8_0 rfl rfl rfl (c_X8_right l G _ (M := M63) (L := L) g88) yv_X8_right ml_X8_165 (by decide) (by decide) rfl rfl hl.1 (Nat.le_of_ble_eq_true rfl) dX8_order_88 (fun H locs hI => ?_)
      obtain ⟨r91, g91, hf⟩ := xb1_s hf
      refine x_callSi (As := [.int r88]) (rest := []) E hI (c_X8_bits l G _ (M := M63) (L := L) (a0 := r88) g91) ys_X8_bits ml_X8_135 (by decide) (by decide) rfl rfl hl.1 (Nat.le_of_ble_eq_true rfl) dX8_order_91 (fun H locs hI => ?_)
      refine lv_istore (lv' := [(7, .int r91), (0, .ref (xq G 8 0)), (1, .int a1), (2, .int r17), (3, .int r22), (4, .int r27), (5, .int v38_5), (6, .int v38_6)]) hx hb dX8_order_94 hl (by decide) rfl (fun ls hl => ?_)
      refine lv_iload hx hb dX8_order_96 (lv_at hl 0 rfl) ?_
      refine lv_iload hx hb dX8_order_98 (lv_at hl 6 rfl) ?_
      refine lv_icmp_le (tgt := 111) hx hb dX8_order_100 (by decide) (fun c100 => ?_) (fun c100 => ?_)
      · replace hf := xif_t c100 hf
        exact hk111 v38_5 M63 hf _ (lv_sub hl [1, 2, 3, 4, 5, 6, 7] rfl) _ _ hI
      · replace hf := xif_f c100 hf
        refine lv_iload hx hb dX8_order_103 (lv_at hl 0 rfl) ?_
        refine lv_istore (lv' := [(5, .int r91), (7, .int r91), (0, .ref (xq G 8 0)), (1, .int a1), (2, .int r17), (3, .int r22), (4, .int r27), (6, .int v38_6)]) hx hb dX8_order_105 hl (by decide) rfl (fun ls hl => ?_)
        refine lv_aload_n hx hb dX8_order_107 rfl (lv_at hl 2 rfl) ?_
        obtain ⟨M108, g108, hf⟩ := xb1_s hf
        refine x_callVv (As := []) (rest := []) E hI mx_8_0 rfl rfl rfl (c_X8_keepsOrder l G _ (M := M63) (L := L) g108) yv_X8_keepsOrder ml_X8_188 (by decide) (by decide) rfl rfl hl.1 (Nat.le_of_ble_eq_true rfl) dX8_order_108 (fun H locs hI => ?_)
        exact hk111 r91 M108 hf _ (lv_sub hl [2, 3, 4, 5, 6, 0, 7] rfl) _ _ hI
    · replace hf := xif_f c66 hf
      refine lv_aload_n hx hb dX8_order_69 rfl (lv_at hl 0 rfl) ?_
      refine lv_aload_n hx hb dX8_order_70 rfl (lv_at hl 0 rfl) ?_
      refine gf_X8_50 E hI dX8_order_71 ?_
      refine lv_iload hx hb dX8_order_74 (lv_at hl 7 rfl) ?_
      obtain ⟨h76b, hf⟩ := xchk_s hf
      refine x_iald (n := 6) E hI mx_8_28 (fun _ _ => rfl) h76b dX8_order_76 ?_
      obtain ⟨r77, M77, g77, hf⟩ := xb2_s hf
      refine x_callVi (As := [.int (M63 8 28 v63_7.toNatClampNeg)]) (rest := []) E hI mx_8_0 rfl rfl rfl (c_X8_rolled l G _ (M := M63) (L := L) (a1 := (M63 8 28 v63_7.toNatClampNeg)) g77) yv_X8_rolled ml_X8_175 (by decide) (by decide) rfl rfl hl.1 (Nat.le_of_ble_eq_true rfl) dX8_order_77 (fun H locs hI => ?_)
      refine lv_pop hx hb dX8_order_80 rfl ?_
      refine lv_iinc (v := (v63_7 + (1 : Int32))) (lv' := [(7, .int (v63_7 + (1 : Int32))), (0, .ref (xq G 8 0)), (1, .int a1), (2, .int r17), (3, .int r22), (4, .int r27), (5, .int v38_5), (6, .int v38_6)]) hx hb dX8_order_81 hl (k := 7) rfl rfl (by decide) rfl (fun ls hl => ?_)
      refine lv_goto (tgt := 63) hx hb dX8_order_84 (by decide) ?_
      exact ih (v63_7 + (1 : Int32)) M77 hf _ (lv_sub hl [1, 2, 3, 4, 5, 6, 7, 0] rfl) _ _ hI
set_option maxHeartbeats 4000000 in
set_option maxRecDepth 100000 in
theorem w_X8_order_l38 {p : Program} {l : Launch} {e : Env} {s : State} {m : MethodId} {args : Array Value} {below : List Frame} {meth : Method} {c : Code} {G : xG} {rr : Int32} {MM : xMem} (E : xE p s m args meth c cX8_order 8 (some .int) RX8 G) (a1 : Int32) (M : xMem) (L : xLL) (r17 : Int32) (r22 : Int32) (r27 : Int32) : ∀ (n : Nat), ∀ (v38_5 : Int32) (v38_6 : Int32) (M38 : xMem), f_X8_order_l38 a1 r17 r22 r27 n v38_5 v38_6 M38 = some (rr, MM) → ∀ (ls : Array Slot), lv_has ls 8 [(0, .ref (xq G 8 0)), (1, .int a1), (2, .int r17), (3, .int r22), (4, .int r27), (5, .int v38_5), (6, .int v38_6)] → ∀ (H : Heap) (locs : List Loc), xI G M38 L s.heap H locs → W p l e (xR 4) s m args below meth c H locs 0 0 (MQ below (xQi G rr MM L s.heap.size) args s 0 0 (xZ G s.heap.size)) (F0 m 38 ls []) := by
  have hx := E.1
  have hb := E.2.1
  intro n
  induction n with
  | zero =>
    intro v38_5 v38_6 M38 hf
    exact absurd hf (by simp [f_X8_order_l38])
  | succ n ih =>
    intro v38_5 v38_6 M38 hf ls hl H locs hI
    rw [f_X8_order_l38] at hf
    refine lv_iload hx hb dX8_order_38 (lv_at hl 6 rfl) ?_
    refine lv_iload hx hb dX8_order_40 (lv_at hl 4 rfl) ?_
    refine lv_icmp_ge (tgt := 117) hx hb dX8_order_42 (by decide) (fun c42 => ?_) (fun c42 => ?_)
    · replace hf := xif_t c42 hf
      refine lv_iload_n hx hb dX8_order_117 rfl (lv_at hl 1 rfl) ?_
      refine lv_if_ge (tgt := 126) hx hb dX8_order_118 (by decide) (fun c118 => ?_) (fun c118 => ?_)
      · replace hf := xif_t c118 hf
        refine lv_iload_n hx hb dX8_order_126 rfl (lv_at hl 1 rfl) ?_
        refine lv_iload_n hx hb dX8_order_127 rfl (lv_at hl 3 rfl) ?_
        refine lv_icmp_ge (tgt := 140) hx hb dX8_order_128 (by decide) (fun c128 => ?_) (fun c128 => ?_)
        · replace hf := xif_t c128 hf
          refine lv_bipush (v := -9) hx hb dX8_order_140 (by decide) ?_
          exact (w_X8_order_b142 E (M := M) (L := L) (M38 := M38)) (-9 : Int32) hf _ (lv_sub hl [] rfl) _ _ hI
        · replace hf := xif_f c128 hf
          refine lv_aload_n hx hb dX8_order_131 rfl (lv_at hl 0 rfl) ?_
          refine gf_X8_53 E hI dX8_order_132 ?_
          refine lv_iload_n hx hb dX8_order_135 rfl (lv_at hl 1 rfl) ?_
          obtain ⟨h136b, hf⟩ := xchk_s hf
          refine x_iald (n := 6) E hI mx_8_29 (fun _ _ => rfl) h136b dX8_order_136 ?_
          refine lv_goto (tgt := 142) hx hb dX8_order_137 (by decide) ?_
          exact (w_X8_order_b142 E (M := M) (L := L) (M38 := M38)) (M38 8 29 a1.toNatClampNeg) hf _ (lv_sub hl [] rfl) _ _ hI
      · replace hf := xif_f c118 hf
        refine lv_iload hx hb dX8_order_121 (lv_at hl 5 rfl) ?_
        refine lv_goto (tgt := 142) hx hb dX8_order_123 (by decide) ?_
        exact (w_X8_order_b142 E (M := M) (L := L) (M38 := M38)) v38_5 hf _ (lv_sub hl [] rfl) _ _ hI
    · replace hf := xif_f c42 hf
      refine lv_aload_n hx hb dX8_order_45 rfl (lv_at hl 0 rfl) ?_
      refine lv_iload hx hb dX8_order_46 (lv_at hl 6 rfl) ?_
      refine lv_iload_n hx hb dX8_order_48 rfl (lv_at hl 3 rfl) ?_
      refine lv_iload_n hx hb dX8_order_49 rfl (lv_at hl 2 rfl) ?_
      obtain ⟨r50, M50, g50, hf⟩ := xb2_s hf
      refine x_callVi (As := [.int v38_6, .int r22, .int r17]) (rest := []) E hI mx_8_0 rfl rfl rfl (c_X8_isOrder l G _ (M := M38) (L := L) (a1 := v38_6) (a2 := r22) (a3 := r17) g50) yv_X8_isOrder ml_X8_185 (by decide) (by decide) rfl rfl hl.1 (Nat.le_of_ble_eq_true rfl) dX8_order_50 (fun H locs hI => ?_)
      refine lv_if_eq (tgt := 111) hx hb dX8_order_53 (by decide) (fun c53 => ?_) (fun c53 => ?_)
      · replace hf := xif_t c53 hf
        exact (w_X8_order_b111 E (a1 := a1) (M := M) (L := L) (r17 := r17) (r22 := r22) (r27 := r27) (v38_5 := v38_5) (v38_6 := v38_6) (M38 := M38) (k38 := (f_X8_order_l38 a1 r17 r22 r27 n)) (hk38 := ih)) v38_5 M50 hf _ (lv_sub hl [0, 1, 2, 3, 4, 5, 6] rfl) _ _ hI
      · replace hf := xif_f c53 hf
        refine lv_aload_n hx hb dX8_order_56 rfl (lv_at hl 0 rfl) ?_
        obtain ⟨M57, g57, hf⟩ := xb1_s hf
        refine x_callVv (As := []) (rest := []) E hI mx_8_0 rfl rfl rfl (c_X8_asItIs l G _ (M := M50) (L := L) g57) yv_X8_asItIs ml_X8_156 (by decide) (by decide) rfl rfl hl.1 (Nat.le_of_ble_eq_true rfl) dX8_order_57 (fun H locs hI => ?_)
        refine lv_iconst (v := 0) hx hb dX8_order_60 (by decide) ?_
        refine lv_istore (lv' := [(7, .int (0 : Int32)), (0, .ref (xq G 8 0)), (1, .int a1), (2, .int r17), (3, .int r22), (4, .int r27), (5, .int v38_5), (6, .int v38_6)]) hx hb dX8_order_61 hl (by decide) rfl (fun ls hl => ?_)
        exact (w_X8_order_l63 E (a1 := a1) (M := M) (L := L) (r17 := r17) (r22 := r22) (r27 := r27) (v38_5 := v38_5) (v38_6 := v38_6) (k111 := (f_X8_order_b111 v38_6 (f_X8_order_l38 a1 r17 r22 r27 n))) (hk111 := (w_X8_order_b111 E (a1 := a1) (M := M) (L := L) (r17 := r17) (r22 := r22) (r27 := r27) (v38_5 := v38_5) (v38_6 := v38_6) (M38 := M38) (k38 := (f_X8_order_l38 a1 r17 r22 r27 n)) (hk38 := ih))) FU) (0 : Int32) M57 hf _ (lv_sub hl [1, 2, 3, 4, 5, 6, 7, 0] rfl) _ _ hI
set_option maxHeartbeats 4000000 in
set_option maxRecDepth 100000 in
theorem c_X8_order (l : Launch) (G : xG) (sz : Nat) (M : xMem) (L : xLL) (a1 : Int32) {rr : Int32} {MM : xMem} (hf : f_X8_order a1 M = some (rr, MM)) : Met l yX8_order (Cond.code yX8_order cX8_order 8 (some .int) :: xTB) (xR 4) (xP G M L sz [.ref (xq G 8 0), .int a1]) (xQi G rr MM L sz) 0 0 (xZ G sz) := by
  refine x_met (cc := cX8_order) (nL := 8) (rt := (some .int)) (by decide) (Nat.le_of_ble_eq_true rfl) ?_
  intro p e s m below meth c ls hsz E hl hI
  subst hsz
  have E : xE p s m _ meth c cX8_order 8 (some .int) RX8 G := E
  have hx := E.1
  have hb := E.2.1
  have hl : lv_has ls 8 [(0, .ref (xq G 8 0)), (1, .int a1)] := hl
  rw [f_X8_order] at hf
  refine lv_iload_n hx hb dX8_order_0 rfl (lv_at hl 1 rfl) ?_
  refine lv_iconst (v := -1) hx hb dX8_order_1 (by decide) ?_
  refine lv_iconst (v := 5) hx hb dX8_order_2 (by decide) ?_
  obtain ⟨r3, g3, hf⟩ := xb1_s hf
  refine x_callSi (As := [.int a1, .int (-1 : Int32), .int (5 : Int32)]) (rest := []) E hI (c_X8_in l G _ (M := M) (L := L) (a0 := a1) (a1 := (-1 : Int32)) (a2 := (5 : Int32)) g3) ys_X8_in ml_X8_66 (by decide) (by decide) rfl rfl hl.1 (Nat.le_of_ble_eq_true rfl) dX8_order_3 (fun H locs hI => ?_)
  refine lv_if_ne (tgt := 11) hx hb dX8_order_6 (by decide) (fun c6 => ?_) (fun c6 => ?_)
  · replace hf := xif_f c6 hf
    refine lv_aload_n hx hb dX8_order_11 rfl (lv_at hl 0 rfl) ?_
    obtain ⟨M12, g12, hf⟩ := xb1_s hf
    refine x_callVv (As := []) (rest := []) E hI mx_8_0 rfl rfl rfl (c_X8_asItIs l G _ (M := M) (L := L) g12) yv_X8_asItIs ml_X8_156 (by decide) (by decide) rfl rfl hl.1 (Nat.le_of_ble_eq_true rfl) dX8_order_12 (fun H locs hI => ?_)
    refine lv_aload_n hx hb dX8_order_15 rfl (lv_at hl 0 rfl) ?_
    refine lv_iconst (v := 0) hx hb dX8_order_16 (by decide) ?_
    obtain ⟨r17, g17, hf⟩ := xb1_s hf
    refine x_callVi (As := [.int (0 : Int32)]) (rest := []) E hI mx_8_0 rfl rfl rfl (c_X8_inPlace l G _ (M := M12) (L := L) (a1 := (0 : Int32)) g17) yv_X8_inPlace ml_X8_132 (by decide) (by decide) rfl rfl hl.1 (Nat.le_of_ble_eq_true rfl) dX8_order_17 (fun H locs hI => ?_)
    refine lv_istore_n (lv' := [(2, .int r17), (0, .ref (xq G 8 0)), (1, .int a1)]) hx hb dX8_order_20 rfl hl (by decide) rfl (fun ls hl => ?_)
    refine lv_iload_n hx hb dX8_order_21 rfl (lv_at hl 0 rfl) ?_
    obtain ⟨r22, g22, hf⟩ := xb1_s hf
    refine x_callSi (As := [.int r17]) (rest := []) E hI (c_X8_bits l G _ (M := M12) (L := L) (a0 := r17) g22) ys_X8_bits ml_X8_135 (by decide) (by decide) rfl rfl hl.1 (Nat.le_of_ble_eq_true rfl) dX8_order_22 (fun H locs hI => ?_)
    refine lv_istore_n (lv' := [(3, .int r22), (2, .int r17), (0, .ref (xq G 8 0)), (1, .int a1)]) hx hb dX8_order_25 rfl hl (by decide) rfl (fun ls hl => ?_)
    refine lv_iload_n hx hb dX8_order_26 rfl (lv_at hl 0 rfl) ?_
    obtain ⟨r27, g27, hf⟩ := xb1_s hf
    refine x_callSi (As := [.int r22]) (rest := []) E hI (c_X8_sixes l G _ (M := M12) (L := L) (a0 := r22) g27) ys_X8_sixes ml_X8_182 (by decide) (by decide) rfl rfl hl.1 (Nat.le_of_ble_eq_true rfl) dX8_order_27 (fun H locs hI => ?_)
    refine lv_istore (lv' := [(4, .int r27), (3, .int r22), (2, .int r17), (0, .ref (xq G 8 0)), (1, .int a1)]) hx hb dX8_order_30 hl (by decide) rfl (fun ls hl => ?_)
    refine lv_iconst (v := -1) hx hb dX8_order_32 (by decide) ?_
    refine lv_istore (lv' := [(5, .int (-1 : Int32)), (4, .int r27), (3, .int r22), (2, .int r17), (0, .ref (xq G 8 0)), (1, .int a1)]) hx hb dX8_order_33 hl (by decide) rfl (fun ls hl => ?_)
    refine lv_iconst (v := 0) hx hb dX8_order_35 (by decide) ?_
    refine lv_istore (lv' := [(6, .int (0 : Int32)), (5, .int (-1 : Int32)), (4, .int r27), (3, .int r22), (2, .int r17), (0, .ref (xq G 8 0)), (1, .int a1)]) hx hb dX8_order_36 hl (by decide) rfl (fun ls hl => ?_)
    exact (w_X8_order_l38 E (a1 := a1) (M := M) (L := L) (r17 := r17) (r22 := r22) (r27 := r27) FU) (-1 : Int32) (0 : Int32) M12 hf _ (lv_sub hl [5, 6, 4, 3, 2, 1, 0] rfl) _ _ hI
  · replace hf := xif_t c6 hf
    refine lv_iconst (v := -1) hx hb dX8_order_9 (by decide) ?_
    obtain ⟨rfl, rfl⟩ := xinj2 hf
    exact x_iret E hI rfl dX8_order_10
theorem dX8_rollsAll_0 : decode cX8_rollsAll 0 = .ok (.iconst 0, 1) := by decide +kernel
theorem dX8_rollsAll_1 : decode cX8_rollsAll 1 = .ok (.istore_n 1, 1) := by decide +kernel
theorem dX8_rollsAll_2 : decode cX8_rollsAll 2 = .ok (.iload_n 1, 1) := by decide +kernel
theorem dX8_rollsAll_3 : decode cX8_rollsAll 3 = .ok (.aload_n 0, 1) := by decide +kernel
theorem dX8_rollsAll_4 : decode cX8_rollsAll 4 = .ok (.getfield 70, 3) := by decide +kernel
theorem dX8_rollsAll_7 : decode cX8_rollsAll 7 = .ok (.if_icmp .ge 26, 3) := by decide +kernel
theorem dX8_rollsAll_10 : decode cX8_rollsAll 10 = .ok (.aload_n 0, 1) := by decide +kernel
theorem dX8_rollsAll_11 : decode cX8_rollsAll 11 = .ok (.getfield 47, 3) := by decide +kernel
theorem dX8_rollsAll_14 : decode cX8_rollsAll 14 = .ok (.iconst 0, 1) := by decide +kernel
theorem dX8_rollsAll_15 : decode cX8_rollsAll 15 = .ok (.iload_n 1, 1) := by decide +kernel
theorem dX8_rollsAll_16 : decode cX8_rollsAll 16 = .ok (.iadd, 1) := by decide +kernel
theorem dX8_rollsAll_17 : decode cX8_rollsAll 17 = .ok (.iaload, 1) := by decide +kernel
theorem dX8_rollsAll_18 : decode cX8_rollsAll 18 = .ok (.ifCond .ne 9, 3) := by decide +kernel
theorem dX8_rollsAll_21 : decode cX8_rollsAll 21 = .ok (.aload_n 0, 1) := by decide +kernel
theorem dX8_rollsAll_22 : decode cX8_rollsAll 22 = .ok (.iload_n 1, 1) := by decide +kernel
theorem dX8_rollsAll_23 : decode cX8_rollsAll 23 = .ok (.invokevirtual 175, 3) := by decide +kernel
theorem dX8_rollsAll_26 : decode cX8_rollsAll 26 = .ok (.pop, 1) := by decide +kernel
theorem dX8_rollsAll_27 : decode cX8_rollsAll 27 = .ok (.iinc 1 1, 3) := by decide +kernel
theorem dX8_rollsAll_30 : decode cX8_rollsAll 30 = .ok (.goto (-28), 3) := by decide +kernel
theorem dX8_rollsAll_33 : decode cX8_rollsAll 33 = .ok (.return_, 1) := by decide +kernel
def f_X8_rollsAll_b27 (v2_1 : Int32) (k2 : Int32 → xMem → Option (xMem)) (M27 : xMem) : Option (xMem) := k2 (v2_1 + (1 : Int32)) M27
def f_X8_rollsAll_l2 : Nat → Int32 → xMem → Option (xMem)
  | 0, _, _ => none
  | n + 1, v2_1, M2 => (if (M2 8 0 4) ≤ v2_1 then some M2 else xchk (xb ((0 : Int32) + v2_1) 27) ((if (M2 8 27 ((0 : Int32) + v2_1).toNatClampNeg) = (0 : Int32) then xb2 (f_X8_rolled v2_1 M2) (fun r23 M23 => (f_X8_rollsAll_b27 v2_1 (f_X8_rollsAll_l2 n)) M23) else (f_X8_rollsAll_b27 v2_1 (f_X8_rollsAll_l2 n)) M2)))
def f_X8_rollsAll (M : xMem) : Option (xMem) := (f_X8_rollsAll_l2 FU) (0 : Int32) M
set_option maxHeartbeats 4000000 in
set_option maxRecDepth 100000 in
theorem w_X8_rollsAll_b27 {p : Program} {l : Launch} {e : Env} {s : State} {m : MethodId} {args : Array Value} {below : List Frame} {meth : Method} {c : Code} {G : xG} {MM : xMem} (E : xE p s m args meth c cX8_rollsAll 2 none RX8 G) (M : xMem) (L : xLL) (v2_1 : Int32) (M2 : xMem) (k2 : Int32 → xMem → Option (xMem)) (hk2 : ∀ (v2_1 : Int32) (M2 : xMem), k2 v2_1 M2 = some MM → ∀ (ls : Array Slot), lv_has ls 2 [(0, .ref (xq G 8 0)), (1, .int v2_1)] → ∀ (H : Heap) (locs : List Loc), xI G M2 L s.heap H locs → W p l e (xR 4) s m args below meth c H locs 0 0 (MQ below (xQv G MM L s.heap.size) args s 0 0 (xZ G s.heap.size)) (F0 m 2 ls [])) : ∀ (M27 : xMem), f_X8_rollsAll_b27 v2_1 k2 M27 = some MM → ∀ (ls : Array Slot), lv_has ls 2 [(0, .ref (xq G 8 0)), (1, .int v2_1)] → ∀ (H : Heap) (locs : List Loc), xI G M27 L s.heap H locs → W p l e (xR 4) s m args below meth c H locs 0 0 (MQ below (xQv G MM L s.heap.size) args s 0 0 (xZ G s.heap.size)) (F0 m 27 ls []) := by
  have hx := E.1
  have hb := E.2.1
  intro M27 hf ls hl H locs hI
  rw [f_X8_rollsAll_b27] at hf
  refine lv_iinc (v := (v2_1 + (1 : Int32))) (lv' := [(1, .int (v2_1 + (1 : Int32))), (0, .ref (xq G 8 0))]) hx hb dX8_rollsAll_27 hl (k := 1) rfl rfl (by decide) rfl (fun ls hl => ?_)
  refine lv_goto (tgt := 2) hx hb dX8_rollsAll_30 (by decide) ?_
  exact hk2 (v2_1 + (1 : Int32)) M27 hf _ (lv_sub hl [1, 0] rfl) _ _ hI
set_option maxHeartbeats 4000000 in
set_option maxRecDepth 100000 in
theorem w_X8_rollsAll_l2 {p : Program} {l : Launch} {e : Env} {s : State} {m : MethodId} {args : Array Value} {below : List Frame} {meth : Method} {c : Code} {G : xG} {MM : xMem} (E : xE p s m args meth c cX8_rollsAll 2 none RX8 G) (M : xMem) (L : xLL) : ∀ (n : Nat), ∀ (v2_1 : Int32) (M2 : xMem), f_X8_rollsAll_l2  n v2_1 M2 = some MM → ∀ (ls : Array Slot), lv_has ls 2 [(0, .ref (xq G 8 0)), (1, .int v2_1)] → ∀ (H : Heap) (locs : List Loc), xI G M2 L s.heap H locs → W p l e (xR 4) s m args below meth c H locs 0 0 (MQ below (xQv G MM L s.heap.size) args s 0 0 (xZ G s.heap.size)) (F0 m 2 ls []) := by
  have hx := E.1
  have hb := E.2.1
  intro n
  induction n with
  | zero =>
    intro v2_1 M2 hf
    exact absurd hf (by simp [f_X8_rollsAll_l2])
  | succ n ih =>
    intro v2_1 M2 hf ls hl H locs hI
    rw [f_X8_rollsAll_l2] at hf
    refine lv_iload_n hx hb dX8_rollsAll_2 rfl (lv_at hl 1 rfl) ?_
    refine lv_aload_n hx hb dX8_rollsAll_3 rfl (lv_at hl 0 rfl) ?_
    refine gf_X8_70 E hI dX8_rollsAll_4 ?_
    refine lv_icmp_ge (tgt := 33) hx hb dX8_rollsAll_7 (by decide) (fun c7 => ?_) (fun c7 => ?_)
    · replace hf := xif_t c7 hf
      obtain rfl := xinj1 hf
      exact x_vret E hI dX8_rollsAll_33
    · replace hf := xif_f c7 hf
      refine lv_aload_n hx hb dX8_rollsAll_10 rfl (lv_at hl 0 rfl) ?_
      refine gf_X8_47 E hI dX8_rollsAll_11 ?_
      refine lv_iconst (v := 0) hx hb dX8_rollsAll_14 (by decide) ?_
      refine lv_iload_n hx hb dX8_rollsAll_15 rfl (lv_at hl 1 rfl) ?_
      refine lv_iadd hx hb dX8_rollsAll_16 ?_
      obtain ⟨h17b, hf⟩ := xchk_s hf
      refine x_iald (n := 27) E hI mx_8_27 (fun _ _ => rfl) h17b dX8_rollsAll_17 ?_
      refine lv_if_ne (tgt := 27) hx hb dX8_rollsAll_18 (by decide) (fun c18 => ?_) (fun c18 => ?_)
      · replace hf := xif_f c18 hf
        exact (w_X8_rollsAll_b27 E (M := M) (L := L) (v2_1 := v2_1) (M2 := M2) (k2 := (f_X8_rollsAll_l2 n)) (hk2 := ih)) M2 hf _ (lv_sub hl [0, 1] rfl) _ _ hI
      · replace hf := xif_t c18 hf
        refine lv_aload_n hx hb dX8_rollsAll_21 rfl (lv_at hl 0 rfl) ?_
        refine lv_iload_n hx hb dX8_rollsAll_22 rfl (lv_at hl 1 rfl) ?_
        obtain ⟨r23, M23, g23, hf⟩ := xb2_s hf
        refine x_callVi (As := [.int v2_1]) (rest := []) E hI mx_8_0 rfl rfl rfl (c_X8_rolled l G _ (M := M2) (L := L) (a1 := v2_1) g23) yv_X8_rolled ml_X8_175 (by decide) (by decide) rfl rfl hl.1 (Nat.le_of_ble_eq_true rfl) dX8_rollsAll_23 (fun H locs hI => ?_)
        refine lv_pop hx hb dX8_rollsAll_26 rfl ?_
        exact (w_X8_rollsAll_b27 E (M := M) (L := L) (v2_1 := v2_1) (M2 := M2) (k2 := (f_X8_rollsAll_l2 n)) (hk2 := ih)) M23 hf _ (lv_sub hl [0, 1] rfl) _ _ hI
set_option maxHeartbeats 4000000 in
set_option maxRecDepth 100000 in
theorem c_X8_rollsAll (l : Launch) (G : xG) (sz : Nat) (M : xMem) (L : xLL) {MM : xMem} (hf : f_X8_rollsAll M = some MM) : Met l yX8_rollsAll (Cond.code yX8_rollsAll cX8_rollsAll 2 none :: xTB) (xR 4) (xP G M L sz [.ref (xq G 8 0)]) (xQv G MM L sz) 0 0 (xZ G sz) := by
  refine x_met (cc := cX8_rollsAll) (nL := 2) (rt := none) (by decide) (Nat.le_of_ble_eq_true rfl) ?_
  intro p e s m below meth c ls hsz E hl hI
  subst hsz
  have E : xE p s m _ meth c cX8_rollsAll 2 none RX8 G := E
  have hx := E.1
  have hb := E.2.1
  have hl : lv_has ls 2 [(0, .ref (xq G 8 0))] := hl
  rw [f_X8_rollsAll] at hf
  refine lv_iconst (v := 0) hx hb dX8_rollsAll_0 (by decide) ?_
  refine lv_istore_n (lv' := [(1, .int (0 : Int32)), (0, .ref (xq G 8 0))]) hx hb dX8_rollsAll_1 rfl hl (by decide) rfl (fun ls hl => ?_)
  exact (w_X8_rollsAll_l2 E (M := M) (L := L) FU) (0 : Int32) M hf _ (lv_sub hl [1, 0] rfl) _ _ hI
theorem dX8_row_0 : decode cX8_row 0 = .ok (.iload_n 1, 1) := by decide +kernel
theorem dX8_row_1 : decode cX8_row 1 = .ok (.iconst (-1), 1) := by decide +kernel
theorem dX8_row_2 : decode cX8_row 2 = .ok (.aload_n 0, 1) := by decide +kernel
theorem dX8_row_3 : decode cX8_row 3 = .ok (.getfield 62, 3) := by decide +kernel
theorem dX8_row_6 : decode cX8_row 6 = .ok (.iconst 1, 1) := by decide +kernel
theorem dX8_row_7 : decode cX8_row 7 = .ok (.isub, 1) := by decide +kernel
theorem dX8_row_8 : decode cX8_row 8 = .ok (.invokestatic 66, 3) := by decide +kernel
theorem dX8_row_11 : decode cX8_row 11 = .ok (.ifCond .ne 5, 3) := by decide +kernel
theorem dX8_row_14 : decode cX8_row 14 = .ok (.iconst (-1), 1) := by decide +kernel
theorem dX8_row_15 : decode cX8_row 15 = .ok (.ireturn, 1) := by decide +kernel
theorem dX8_row_16 : decode cX8_row 16 = .ok (.aload_n 0, 1) := by decide +kernel
theorem dX8_row_17 : decode cX8_row 17 = .ok (.getfield 62, 3) := by decide +kernel
theorem dX8_row_20 : decode cX8_row 20 = .ok (.invokestatic 182, 3) := by decide +kernel
theorem dX8_row_23 : decode cX8_row 23 = .ok (.istore_n 2, 1) := by decide +kernel
theorem dX8_row_24 : decode cX8_row 24 = .ok (.iconst (-1), 1) := by decide +kernel
theorem dX8_row_25 : decode cX8_row 25 = .ok (.istore_n 3, 1) := by decide +kernel
theorem dX8_row_26 : decode cX8_row 26 = .ok (.iconst 0, 1) := by decide +kernel
theorem dX8_row_27 : decode cX8_row 27 = .ok (.istore 4, 2) := by decide +kernel
theorem dX8_row_29 : decode cX8_row 29 = .ok (.iload 4, 2) := by decide +kernel
theorem dX8_row_31 : decode cX8_row 31 = .ok (.iload_n 2, 1) := by decide +kernel
theorem dX8_row_32 : decode cX8_row 32 = .ok (.if_icmp .ge 95, 3) := by decide +kernel
theorem dX8_row_35 : decode cX8_row 35 = .ok (.aload_n 0, 1) := by decide +kernel
theorem dX8_row_36 : decode cX8_row 36 = .ok (.iload 4, 2) := by decide +kernel
theorem dX8_row_38 : decode cX8_row 38 = .ok (.aload_n 0, 1) := by decide +kernel
theorem dX8_row_39 : decode cX8_row 39 = .ok (.getfield 62, 3) := by decide +kernel
theorem dX8_row_42 : decode cX8_row 42 = .ok (.iconst 1, 1) := by decide +kernel
theorem dX8_row_43 : decode cX8_row 43 = .ok (.aload_n 0, 1) := by decide +kernel
theorem dX8_row_44 : decode cX8_row 44 = .ok (.getfield 62, 3) := by decide +kernel
theorem dX8_row_47 : decode cX8_row 47 = .ok (.ishl, 1) := by decide +kernel
theorem dX8_row_48 : decode cX8_row 48 = .ok (.iconst 1, 1) := by decide +kernel
theorem dX8_row_49 : decode cX8_row 49 = .ok (.isub, 1) := by decide +kernel
theorem dX8_row_50 : decode cX8_row 50 = .ok (.invokevirtual 185, 3) := by decide +kernel
theorem dX8_row_53 : decode cX8_row 53 = .ok (.ifCond .eq 68, 3) := by decide +kernel
theorem dX8_row_56 : decode cX8_row 56 = .ok (.aload_n 0, 1) := by decide +kernel
theorem dX8_row_57 : decode cX8_row 57 = .ok (.invokevirtual 156, 3) := by decide +kernel
theorem dX8_row_60 : decode cX8_row 60 = .ok (.iconst 0, 1) := by decide +kernel
theorem dX8_row_61 : decode cX8_row 61 = .ok (.istore 5, 2) := by decide +kernel
theorem dX8_row_63 : decode cX8_row 63 = .ok (.iload 5, 2) := by decide +kernel
theorem dX8_row_65 : decode cX8_row 65 = .ok (.aload_n 0, 1) := by decide +kernel
theorem dX8_row_66 : decode cX8_row 66 = .ok (.getfield 62, 3) := by decide +kernel
theorem dX8_row_69 : decode cX8_row 69 = .ok (.if_icmp .ge 26, 3) := by decide +kernel
theorem dX8_row_72 : decode cX8_row 72 = .ok (.aload_n 0, 1) := by decide +kernel
theorem dX8_row_73 : decode cX8_row 73 = .ok (.getfield 47, 3) := by decide +kernel
theorem dX8_row_76 : decode cX8_row 76 = .ok (.bipush 17, 2) := by decide +kernel
theorem dX8_row_78 : decode cX8_row 78 = .ok (.iload 5, 2) := by decide +kernel
theorem dX8_row_80 : decode cX8_row 80 = .ok (.iadd, 1) := by decide +kernel
theorem dX8_row_81 : decode cX8_row 81 = .ok (.aload_n 0, 1) := by decide +kernel
theorem dX8_row_82 : decode cX8_row 82 = .ok (.getfield 50, 3) := by decide +kernel
theorem dX8_row_85 : decode cX8_row 85 = .ok (.iload 5, 2) := by decide +kernel
theorem dX8_row_87 : decode cX8_row 87 = .ok (.iaload, 1) := by decide +kernel
theorem dX8_row_88 : decode cX8_row 88 = .ok (.iastore, 1) := by decide +kernel
theorem dX8_row_89 : decode cX8_row 89 = .ok (.iinc 5 1, 3) := by decide +kernel
theorem dX8_row_92 : decode cX8_row 92 = .ok (.goto (-29), 3) := by decide +kernel
theorem dX8_row_95 : decode cX8_row 95 = .ok (.aload_n 0, 1) := by decide +kernel
theorem dX8_row_96 : decode cX8_row 96 = .ok (.invokevirtual 191, 3) := by decide +kernel
theorem dX8_row_99 : decode cX8_row 99 = .ok (.aload_n 0, 1) := by decide +kernel
theorem dX8_row_100 : decode cX8_row 100 = .ok (.invokevirtual 165, 3) := by decide +kernel
theorem dX8_row_103 : decode cX8_row 103 = .ok (.invokestatic 135, 3) := by decide +kernel
theorem dX8_row_106 : decode cX8_row 106 = .ok (.istore 5, 2) := by decide +kernel
theorem dX8_row_108 : decode cX8_row 108 = .ok (.iload 5, 2) := by decide +kernel
theorem dX8_row_110 : decode cX8_row 110 = .ok (.iload_n 3, 1) := by decide +kernel
theorem dX8_row_111 : decode cX8_row 111 = .ok (.if_icmp .le 10, 3) := by decide +kernel
theorem dX8_row_114 : decode cX8_row 114 = .ok (.iload 5, 2) := by decide +kernel
theorem dX8_row_116 : decode cX8_row 116 = .ok (.istore_n 3, 1) := by decide +kernel
theorem dX8_row_117 : decode cX8_row 117 = .ok (.aload_n 0, 1) := by decide +kernel
theorem dX8_row_118 : decode cX8_row 118 = .ok (.invokevirtual 188, 3) := by decide +kernel
theorem dX8_row_121 : decode cX8_row 121 = .ok (.iinc 4 1, 3) := by decide +kernel
theorem dX8_row_124 : decode cX8_row 124 = .ok (.goto (-95), 3) := by decide +kernel
theorem dX8_row_127 : decode cX8_row 127 = .ok (.iload_n 1, 1) := by decide +kernel
theorem dX8_row_128 : decode cX8_row 128 = .ok (.ifCond .ge 7, 3) := by decide +kernel
theorem dX8_row_131 : decode cX8_row 131 = .ok (.iload_n 3, 1) := by decide +kernel
theorem dX8_row_132 : decode cX8_row 132 = .ok (.goto 9, 3) := by decide +kernel
theorem dX8_row_135 : decode cX8_row 135 = .ok (.aload_n 0, 1) := by decide +kernel
theorem dX8_row_136 : decode cX8_row 136 = .ok (.getfield 53, 3) := by decide +kernel
theorem dX8_row_139 : decode cX8_row 139 = .ok (.iload_n 1, 1) := by decide +kernel
theorem dX8_row_140 : decode cX8_row 140 = .ok (.iaload, 1) := by decide +kernel
theorem dX8_row_141 : decode cX8_row 141 = .ok (.ireturn, 1) := by decide +kernel
def f_X8_row_b141 (M29 : xMem) (t141_0 : Int32) : Option (Int32 × xMem) := some (t141_0, M29)
def f_X8_row_b121 (v29_4 : Int32) (k29 : Int32 → Int32 → xMem → Option (Int32 × xMem)) (v121_3 : Int32) (M121 : xMem) : Option (Int32 × xMem) := k29 v121_3 (v29_4 + (1 : Int32)) M121
def f_X8_row_l63 (v29_3 : Int32) (k121 : Int32 → xMem → Option (Int32 × xMem)) : Nat → Int32 → xMem → Option (Int32 × xMem)
  | 0, _, _ => none
  | n + 1, v63_5, M63 => (if (M63 8 0 0) ≤ v63_5 then xb1 (f_X8_rollsAll M63) (fun M96 => xb1 (f_X8_right M96) (fun r100 => xb1 (f_X8_bits r100 M96) (fun r103 => (if r103 ≤ v29_3 then k121 v29_3 M96 else xb1 (f_X8_keepsOrder M96) (fun M118 => k121 r103 M118))))) else xchk (xb v63_5 6) (xchk (xb ((17 : Int32) + v63_5) 27) (xlet (xst M63 8 27 ((17 : Int32) + v63_5) (M63 8 28 v63_5.toNatClampNeg)) (fun M88 => (f_X8_row_l63 v29_3 k121 n) (v63_5 + (1 : Int32)) M88))))
def f_X8_row_l29 (a1 : Int32) (r20 : Int32) : Nat → Int32 → Int32 → xMem → Option (Int32 × xMem)
  | 0, _, _, _ => none
  | n + 1, v29_3, v29_4, M29 => (if r20 ≤ v29_4 then (if (0 : Int32) ≤ a1 then xchk (xb a1 6) ((f_X8_row_b141 M29) (M29 8 29 a1.toNatClampNeg)) else (f_X8_row_b141 M29) v29_3) else xb2 (f_X8_isOrder v29_4 (M29 8 0 0) (((1 : Int32) <<< ((M29 8 0 0) &&& 31)) - (1 : Int32)) M29) (fun r50 M50 => (if r50 = (0 : Int32) then (f_X8_row_b121 v29_4 (f_X8_row_l29 a1 r20 n)) v29_3 M50 else xb1 (f_X8_asItIs M50) (fun M57 => (f_X8_row_l63 v29_3 (f_X8_row_b121 v29_4 (f_X8_row_l29 a1 r20 n)) FU) (0 : Int32) M57))))
def f_X8_row (a1 : Int32) (M : xMem) : Option (Int32 × xMem) := xb1 (f_X8_in a1 (-1 : Int32) ((M 8 0 0) - (1 : Int32)) M) (fun r8 => (if r8 = (0 : Int32) then some ((-1 : Int32), M) else xb1 (f_X8_sixes (M 8 0 0) M) (fun r20 => (f_X8_row_l29 a1 r20 FU) (-1 : Int32) (0 : Int32) M)))
set_option maxHeartbeats 4000000 in
set_option maxRecDepth 100000 in
theorem w_X8_row_b141 {p : Program} {l : Launch} {e : Env} {s : State} {m : MethodId} {args : Array Value} {below : List Frame} {meth : Method} {c : Code} {G : xG} {rr : Int32} {MM : xMem} (E : xE p s m args meth c cX8_row 6 (some .int) RX8 G) (M : xMem) (L : xLL) (M29 : xMem) : ∀ (t141_0 : Int32), f_X8_row_b141 M29 t141_0 = some (rr, MM) → ∀ (ls : Array Slot), lv_has ls 6 [] → ∀ (H : Heap) (locs : List Loc), xI G M29 L s.heap H locs → W p l e (xR 5) s m args below meth c H locs 0 0 (MQ below (xQi G rr MM L s.heap.size) args s 0 0 (xZ G s.heap.size)) (F0 m 141 ls [.int t141_0]) := by
  have hx := E.1
  have hb := E.2.1
  intro t141_0 hf ls hl H locs hI
  rw [f_X8_row_b141] at hf
  obtain ⟨rfl, rfl⟩ := xinj2 hf
  exact x_iret E hI rfl dX8_row_141
set_option maxHeartbeats 4000000 in
set_option maxRecDepth 100000 in
theorem w_X8_row_b121 {p : Program} {l : Launch} {e : Env} {s : State} {m : MethodId} {args : Array Value} {below : List Frame} {meth : Method} {c : Code} {G : xG} {rr : Int32} {MM : xMem} (E : xE p s m args meth c cX8_row 6 (some .int) RX8 G) (a1 : Int32) (M : xMem) (L : xLL) (r20 : Int32) (v29_3 : Int32) (v29_4 : Int32) (M29 : xMem) (k29 : Int32 → Int32 → xMem → Option (Int32 × xMem)) (hk29 : ∀ (v29_3 : Int32) (v29_4 : Int32) (M29 : xMem), k29 v29_3 v29_4 M29 = some (rr, MM) → ∀ (ls : Array Slot), lv_has ls 6 [(0, .ref (xq G 8 0)), (1, .int a1), (2, .int r20), (3, .int v29_3), (4, .int v29_4)] → ∀ (H : Heap) (locs : List Loc), xI G M29 L s.heap H locs → W p l e (xR 5) s m args below meth c H locs 0 0 (MQ below (xQi G rr MM L s.heap.size) args s 0 0 (xZ G s.heap.size)) (F0 m 29 ls [])) : ∀ (v121_3 : Int32) (M121 : xMem), f_X8_row_b121 v29_4 k29 v121_3 M121 = some (rr, MM) → ∀ (ls : Array Slot), lv_has ls 6 [(0, .ref (xq G 8 0)), (1, .int a1), (2, .int r20), (3, .int v121_3), (4, .int v29_4)] → ∀ (H : Heap) (locs : List Loc), xI G M121 L s.heap H locs → W p l e (xR 5) s m args below meth c H locs 0 0 (MQ below (xQi G rr MM L s.heap.size) args s 0 0 (xZ G s.heap.size)) (F0 m 121 ls []) := by
  have hx := E.1
  have hb := E.2.1
  intro v121_3 M121 hf ls hl H locs hI
  rw [f_X8_row_b121] at hf
  refine lv_iinc (v := (v29_4 + (1 : Int32))) (lv' := [(4, .int (v29_4 + (1 : Int32))), (0, .ref (xq G 8 0)), (1, .int a1), (2, .int r20), (3, .int v121_3)]) hx hb dX8_row_121 hl (k := 4) rfl rfl (by decide) rfl (fun ls hl => ?_)
  refine lv_goto (tgt := 29) hx hb dX8_row_124 (by decide) ?_
  exact hk29 v121_3 (v29_4 + (1 : Int32)) M121 hf _ (lv_sub hl [1, 2, 3, 4, 0] rfl) _ _ hI
set_option maxHeartbeats 4000000 in
set_option maxRecDepth 100000 in
theorem w_X8_row_l63 {p : Program} {l : Launch} {e : Env} {s : State} {m : MethodId} {args : Array Value} {below : List Frame} {meth : Method} {c : Code} {G : xG} {rr : Int32} {MM : xMem} (E : xE p s m args meth c cX8_row 6 (some .int) RX8 G) (a1 : Int32) (M : xMem) (L : xLL) (r20 : Int32) (v29_3 : Int32) (v29_4 : Int32) (k121 : Int32 → xMem → Option (Int32 × xMem)) (hk121 : ∀ (v121_3 : Int32) (M121 : xMem), k121 v121_3 M121 = some (rr, MM) → ∀ (ls : Array Slot), lv_has ls 6 [(0, .ref (xq G 8 0)), (1, .int a1), (2, .int r20), (3, .int v121_3), (4, .int v29_4)] → ∀ (H : Heap) (locs : List Loc), xI G M121 L s.heap H locs → W p l e (xR 5) s m args below meth c H locs 0 0 (MQ below (xQi G rr MM L s.heap.size) args s 0 0 (xZ G s.heap.size)) (F0 m 121 ls [])) : ∀ (n : Nat), ∀ (v63_5 : Int32) (M63 : xMem), f_X8_row_l63 v29_3 k121 n v63_5 M63 = some (rr, MM) → ∀ (ls : Array Slot), lv_has ls 6 [(0, .ref (xq G 8 0)), (1, .int a1), (2, .int r20), (3, .int v29_3), (4, .int v29_4), (5, .int v63_5)] → ∀ (H : Heap) (locs : List Loc), xI G M63 L s.heap H locs → W p l e (xR 5) s m args below meth c H locs 0 0 (MQ below (xQi G rr MM L s.heap.size) args s 0 0 (xZ G s.heap.size)) (F0 m 63 ls []) := by
  have hx := E.1
  have hb := E.2.1
  intro n
  induction n with
  | zero =>
    intro v63_5 M63 hf
    exact absurd hf (by simp [f_X8_row_l63])
  | succ n ih =>
    intro v63_5 M63 hf ls hl H locs hI
    rw [f_X8_row_l63] at hf
    refine lv_iload hx hb dX8_row_63 (lv_at hl 5 rfl) ?_
    refine lv_aload_n hx hb dX8_row_65 rfl (lv_at hl 0 rfl) ?_
    refine gf_X8_62 E hI dX8_row_66 ?_
    refine lv_icmp_ge (tgt := 95) hx hb dX8_row_69 (by decide) (fun c69 => ?_) (fun c69 => ?_)
    · replace hf := xif_t c69 hf
      refine lv_aload_n hx hb dX8_row_95 rfl (lv_at hl 0 rfl) ?_
      obtain ⟨M96, g96, hf⟩ := xb1_s hf
      refine x_callVv (As := []) (rest := []) E hI mx_8_0 rfl rfl rfl (c_X8_rollsAll l G _ (M := M63) (L := L) g96) yv_X8_rollsAll ml_X8_191 (by decide) (by decide) rfl rfl hl.1 (Nat.le_of_ble_eq_true rfl) dX8_row_96 (fun H locs hI => ?_)
      refine lv_aload_n hx hb dX8_row_99 rfl (lv_at hl 0 rfl) ?_
      obtain ⟨r100, g100, hf⟩ := xb1_s hf
      refine x_callVi (As := []) (rest := []) E hI mx_8_0 rfl rfl rfl (c_X8_right l G _ (M := M96) (L := L) g100) yv_X8_right ml_X8_165 (by decide) (by decide) rfl rfl hl.1 (Nat.le_of_ble_eq_true rfl) dX8_row_100 (fun H locs hI => ?_)
      obtain ⟨r103, g103, hf⟩ := xb1_s hf
      refine x_callSi (As := [.int r100]) (rest := []) E hI (c_X8_bits l G _ (M := M96) (L := L) (a0 := r100) g103) ys_X8_bits ml_X8_135 (by decide) (by decide) rfl rfl hl.1 (Nat.le_of_ble_eq_true rfl) dX8_row_103 (fun H locs hI => ?_)
      refine lv_istore (lv' := [(5, .int r103), (0, .ref (xq G 8 0)), (1, .int a1), (2, .int r20), (3, .int v29_3), (4, .int v29_4)]) hx hb dX8_row_106 hl (by decide) rfl (fun ls hl => ?_)
      refine lv_iload hx hb dX8_row_108 (lv_at hl 0 rfl) ?_
      refine lv_iload_n hx hb dX8_row_110 rfl (lv_at hl 4 rfl) ?_
      refine lv_icmp_le (tgt := 121) hx hb dX8_row_111 (by decide) (fun c111 => ?_) (fun c111 => ?_)
      · replace hf := xif_t c111 hf
        exact hk121 v29_3 M96 hf _ (lv_sub hl [1, 2, 3, 4, 5] rfl) _ _ hI
      · replace hf := xif_f c111 hf
        refine lv_iload hx hb dX8_row_114 (lv_at hl 0 rfl) ?_
        refine lv_istore_n (lv' := [(3, .int r103), (5, .int r103), (0, .ref (xq G 8 0)), (1, .int a1), (2, .int r20), (4, .int v29_4)]) hx hb dX8_row_116 rfl hl (by decide) rfl (fun ls hl => ?_)
        refine lv_aload_n hx hb dX8_row_117 rfl (lv_at hl 2 rfl) ?_
        obtain ⟨M118, g118, hf⟩ := xb1_s hf
        refine x_callVv (As := []) (rest := []) E hI mx_8_0 rfl rfl rfl (c_X8_keepsOrder l G _ (M := M96) (L := L) g118) yv_X8_keepsOrder ml_X8_188 (by decide) (by decide) rfl rfl hl.1 (Nat.le_of_ble_eq_true rfl) dX8_row_118 (fun H locs hI => ?_)
        exact hk121 r103 M118 hf _ (lv_sub hl [2, 3, 4, 0, 5] rfl) _ _ hI
    · replace hf := xif_f c69 hf
      refine lv_aload_n hx hb dX8_row_72 rfl (lv_at hl 0 rfl) ?_
      refine gf_X8_47 E hI dX8_row_73 ?_
      refine lv_bipush (v := 17) hx hb dX8_row_76 (by decide) ?_
      refine lv_iload hx hb dX8_row_78 (lv_at hl 5 rfl) ?_
      refine lv_iadd hx hb dX8_row_80 ?_
      refine lv_aload_n hx hb dX8_row_81 rfl (lv_at hl 0 rfl) ?_
      refine gf_X8_50 E hI dX8_row_82 ?_
      refine lv_iload hx hb dX8_row_85 (lv_at hl 5 rfl) ?_
      obtain ⟨h87b, hf⟩ := xchk_s hf
      refine x_iald (n := 6) E hI mx_8_28 (fun _ _ => rfl) h87b dX8_row_87 ?_
      obtain ⟨h88b, hf⟩ := xchk_s hf
      obtain ⟨M88, e88, hf⟩ := xlet_s hf
      refine x_iast (n := 27) E hI mx_8_27 (fun _ _ => rfl) h88b dX8_row_88 e88 (fun H locs hI => ?_)
      refine lv_iinc (v := (v63_5 + (1 : Int32))) (lv' := [(5, .int (v63_5 + (1 : Int32))), (0, .ref (xq G 8 0)), (1, .int a1), (2, .int r20), (3, .int v29_3), (4, .int v29_4)]) hx hb dX8_row_89 hl (k := 5) rfl rfl (by decide) rfl (fun ls hl => ?_)
      refine lv_goto (tgt := 63) hx hb dX8_row_92 (by decide) ?_
      exact ih (v63_5 + (1 : Int32)) M88 hf _ (lv_sub hl [1, 2, 3, 4, 5, 0] rfl) _ _ hI
set_option maxHeartbeats 4000000 in
set_option maxRecDepth 100000 in
theorem w_X8_row_l29 {p : Program} {l : Launch} {e : Env} {s : State} {m : MethodId} {args : Array Value} {below : List Frame} {meth : Method} {c : Code} {G : xG} {rr : Int32} {MM : xMem} (E : xE p s m args meth c cX8_row 6 (some .int) RX8 G) (a1 : Int32) (M : xMem) (L : xLL) (r20 : Int32) : ∀ (n : Nat), ∀ (v29_3 : Int32) (v29_4 : Int32) (M29 : xMem), f_X8_row_l29 a1 r20 n v29_3 v29_4 M29 = some (rr, MM) → ∀ (ls : Array Slot), lv_has ls 6 [(0, .ref (xq G 8 0)), (1, .int a1), (2, .int r20), (3, .int v29_3), (4, .int v29_4)] → ∀ (H : Heap) (locs : List Loc), xI G M29 L s.heap H locs → W p l e (xR 5) s m args below meth c H locs 0 0 (MQ below (xQi G rr MM L s.heap.size) args s 0 0 (xZ G s.heap.size)) (F0 m 29 ls []) := by
  have hx := E.1
  have hb := E.2.1
  intro n
  induction n with
  | zero =>
    intro v29_3 v29_4 M29 hf
    exact absurd hf (by simp [f_X8_row_l29])
  | succ n ih =>
    intro v29_3 v29_4 M29 hf ls hl H locs hI
    rw [f_X8_row_l29] at hf
    refine lv_iload hx hb dX8_row_29 (lv_at hl 4 rfl) ?_
    refine lv_iload_n hx hb dX8_row_31 rfl (lv_at hl 2 rfl) ?_
    refine lv_icmp_ge (tgt := 127) hx hb dX8_row_32 (by decide) (fun c32 => ?_) (fun c32 => ?_)
    · replace hf := xif_t c32 hf
      refine lv_iload_n hx hb dX8_row_127 rfl (lv_at hl 1 rfl) ?_
      refine lv_if_ge (tgt := 135) hx hb dX8_row_128 (by decide) (fun c128 => ?_) (fun c128 => ?_)
      · replace hf := xif_t c128 hf
        refine lv_aload_n hx hb dX8_row_135 rfl (lv_at hl 0 rfl) ?_
        refine gf_X8_53 E hI dX8_row_136 ?_
        refine lv_iload_n hx hb dX8_row_139 rfl (lv_at hl 1 rfl) ?_
        obtain ⟨h140b, hf⟩ := xchk_s hf
        refine x_iald (n := 6) E hI mx_8_29 (fun _ _ => rfl) h140b dX8_row_140 ?_
        exact (w_X8_row_b141 E (M := M) (L := L) (M29 := M29)) (M29 8 29 a1.toNatClampNeg) hf _ (lv_sub hl [] rfl) _ _ hI
      · replace hf := xif_f c128 hf
        refine lv_iload_n hx hb dX8_row_131 rfl (lv_at hl 3 rfl) ?_
        refine lv_goto (tgt := 141) hx hb dX8_row_132 (by decide) ?_
        exact (w_X8_row_b141 E (M := M) (L := L) (M29 := M29)) v29_3 hf _ (lv_sub hl [] rfl) _ _ hI
    · replace hf := xif_f c32 hf
      refine lv_aload_n hx hb dX8_row_35 rfl (lv_at hl 0 rfl) ?_
      refine lv_iload hx hb dX8_row_36 (lv_at hl 4 rfl) ?_
      refine lv_aload_n hx hb dX8_row_38 rfl (lv_at hl 0 rfl) ?_
      refine gf_X8_62 E hI dX8_row_39 ?_
      refine lv_iconst (v := 1) hx hb dX8_row_42 (by decide) ?_
      refine lv_aload_n hx hb dX8_row_43 rfl (lv_at hl 0 rfl) ?_
      refine gf_X8_62 E hI dX8_row_44 ?_
      refine lv_ishl hx hb dX8_row_47 ?_
      refine lv_iconst (v := 1) hx hb dX8_row_48 (by decide) ?_
      refine lv_isub hx hb dX8_row_49 ?_
      obtain ⟨r50, M50, g50, hf⟩ := xb2_s hf
      refine x_callVi (As := [.int v29_4, .int (M29 8 0 0), .int (((1 : Int32) <<< ((M29 8 0 0) &&& 31)) - (1 : Int32))]) (rest := []) E hI mx_8_0 rfl rfl rfl (c_X8_isOrder l G _ (M := M29) (L := L) (a1 := v29_4) (a2 := (M29 8 0 0)) (a3 := (((1 : Int32) <<< ((M29 8 0 0) &&& 31)) - (1 : Int32))) g50) yv_X8_isOrder ml_X8_185 (by decide) (by decide) rfl rfl hl.1 (Nat.le_of_ble_eq_true rfl) dX8_row_50 (fun H locs hI => ?_)
      refine lv_if_eq (tgt := 121) hx hb dX8_row_53 (by decide) (fun c53 => ?_) (fun c53 => ?_)
      · replace hf := xif_t c53 hf
        exact (w_X8_row_b121 E (a1 := a1) (M := M) (L := L) (r20 := r20) (v29_3 := v29_3) (v29_4 := v29_4) (M29 := M29) (k29 := (f_X8_row_l29 a1 r20 n)) (hk29 := ih)) v29_3 M50 hf _ (lv_sub hl [0, 1, 2, 3, 4] rfl) _ _ hI
      · replace hf := xif_f c53 hf
        refine lv_aload_n hx hb dX8_row_56 rfl (lv_at hl 0 rfl) ?_
        obtain ⟨M57, g57, hf⟩ := xb1_s hf
        refine x_callVv (As := []) (rest := []) E hI mx_8_0 rfl rfl rfl (c_X8_asItIs l G _ (M := M50) (L := L) g57) yv_X8_asItIs ml_X8_156 (by decide) (by decide) rfl rfl hl.1 (Nat.le_of_ble_eq_true rfl) dX8_row_57 (fun H locs hI => ?_)
        refine lv_iconst (v := 0) hx hb dX8_row_60 (by decide) ?_
        refine lv_istore (lv' := [(5, .int (0 : Int32)), (0, .ref (xq G 8 0)), (1, .int a1), (2, .int r20), (3, .int v29_3), (4, .int v29_4)]) hx hb dX8_row_61 hl (by decide) rfl (fun ls hl => ?_)
        exact (w_X8_row_l63 E (a1 := a1) (M := M) (L := L) (r20 := r20) (v29_3 := v29_3) (v29_4 := v29_4) (k121 := (f_X8_row_b121 v29_4 (f_X8_row_l29 a1 r20 n))) (hk121 := (w_X8_row_b121 E (a1 := a1) (M := M) (L := L) (r20 := r20) (v29_3 := v29_3) (v29_4 := v29_4) (M29 := M29) (k29 := (f_X8_row_l29 a1 r20 n)) (hk29 := ih))) FU) (0 : Int32) M57 hf _ (lv_sub hl [1, 2, 3, 4, 5, 0] rfl) _ _ hI
set_option maxHeartbeats 4000000 in
set_option maxRecDepth 100000 in
theorem c_X8_row (l : Launch) (G : xG) (sz : Nat) (M : xMem) (L : xLL) (a1 : Int32) {rr : Int32} {MM : xMem} (hf : f_X8_row a1 M = some (rr, MM)) : Met l yX8_row (Cond.code yX8_row cX8_row 6 (some .int) :: xTB) (xR 5) (xP G M L sz [.ref (xq G 8 0), .int a1]) (xQi G rr MM L sz) 0 0 (xZ G sz) := by
  refine x_met (cc := cX8_row) (nL := 6) (rt := (some .int)) (by decide) (Nat.le_of_ble_eq_true rfl) ?_
  intro p e s m below meth c ls hsz E hl hI
  subst hsz
  have E : xE p s m _ meth c cX8_row 6 (some .int) RX8 G := E
  have hx := E.1
  have hb := E.2.1
  have hl : lv_has ls 6 [(0, .ref (xq G 8 0)), (1, .int a1)] := hl
  rw [f_X8_row] at hf
  refine lv_iload_n hx hb dX8_row_0 rfl (lv_at hl 1 rfl) ?_
  refine lv_iconst (v := -1) hx hb dX8_row_1 (by decide) ?_
  refine lv_aload_n hx hb dX8_row_2 rfl (lv_at hl 0 rfl) ?_
  refine gf_X8_62 E hI dX8_row_3 ?_
  refine lv_iconst (v := 1) hx hb dX8_row_6 (by decide) ?_
  refine lv_isub hx hb dX8_row_7 ?_
  obtain ⟨r8, g8, hf⟩ := xb1_s hf
  refine x_callSi (As := [.int a1, .int (-1 : Int32), .int ((M 8 0 0) - (1 : Int32))]) (rest := []) E hI (c_X8_in l G _ (M := M) (L := L) (a0 := a1) (a1 := (-1 : Int32)) (a2 := ((M 8 0 0) - (1 : Int32))) g8) ys_X8_in ml_X8_66 (by decide) (by decide) rfl rfl hl.1 (Nat.le_of_ble_eq_true rfl) dX8_row_8 (fun H locs hI => ?_)
  refine lv_if_ne (tgt := 16) hx hb dX8_row_11 (by decide) (fun c11 => ?_) (fun c11 => ?_)
  · replace hf := xif_f c11 hf
    refine lv_aload_n hx hb dX8_row_16 rfl (lv_at hl 0 rfl) ?_
    refine gf_X8_62 E hI dX8_row_17 ?_
    obtain ⟨r20, g20, hf⟩ := xb1_s hf
    refine x_callSi (As := [.int (M 8 0 0)]) (rest := []) E hI (c_X8_sixes l G _ (M := M) (L := L) (a0 := (M 8 0 0)) g20) ys_X8_sixes ml_X8_182 (by decide) (by decide) rfl rfl hl.1 (Nat.le_of_ble_eq_true rfl) dX8_row_20 (fun H locs hI => ?_)
    refine lv_istore_n (lv' := [(2, .int r20), (0, .ref (xq G 8 0)), (1, .int a1)]) hx hb dX8_row_23 rfl hl (by decide) rfl (fun ls hl => ?_)
    refine lv_iconst (v := -1) hx hb dX8_row_24 (by decide) ?_
    refine lv_istore_n (lv' := [(3, .int (-1 : Int32)), (2, .int r20), (0, .ref (xq G 8 0)), (1, .int a1)]) hx hb dX8_row_25 rfl hl (by decide) rfl (fun ls hl => ?_)
    refine lv_iconst (v := 0) hx hb dX8_row_26 (by decide) ?_
    refine lv_istore (lv' := [(4, .int (0 : Int32)), (3, .int (-1 : Int32)), (2, .int r20), (0, .ref (xq G 8 0)), (1, .int a1)]) hx hb dX8_row_27 hl (by decide) rfl (fun ls hl => ?_)
    exact (w_X8_row_l29 E (a1 := a1) (M := M) (L := L) (r20 := r20) FU) (-1 : Int32) (0 : Int32) M hf _ (lv_sub hl [3, 4, 2, 1, 0] rfl) _ _ hI
  · replace hf := xif_t c11 hf
    refine lv_iconst (v := -1) hx hb dX8_row_14 (by decide) ?_
    obtain ⟨rfl, rfl⟩ := xinj2 hf
    exact x_iret E hI rfl dX8_row_15
