theorem dX7_type_0 : decode cX7_type 0 = .ok (.iload_n 1, 1) := by decide +kernel
theorem dX7_type_1 : decode cX7_type 1 = .ok (.iconst 0, 1) := by decide +kernel
theorem dX7_type_2 : decode cX7_type 2 = .ok (.sipush 255, 3) := by decide +kernel
theorem dX7_type_5 : decode cX7_type 5 = .ok (.invokestatic 73, 3) := by decide +kernel
theorem dX7_type_8 : decode cX7_type 8 = .ok (.ifCond .eq 5, 3) := by decide +kernel
theorem dX7_type_11 : decode cX7_type 11 = .ok (.iconst (-1), 1) := by decide +kernel
theorem dX7_type_12 : decode cX7_type 12 = .ok (.ireturn, 1) := by decide +kernel
theorem dX7_type_13 : decode cX7_type 13 = .ok (.aload_n 0, 1) := by decide +kernel
theorem dX7_type_14 : decode cX7_type 14 = .ok (.getfield 10, 3) := by decide +kernel
theorem dX7_type_17 : decode cX7_type 17 = .ok (.getfield 77, 3) := by decide +kernel
theorem dX7_type_20 : decode cX7_type 20 = .ok (.bipush 120, 2) := by decide +kernel
theorem dX7_type_22 : decode cX7_type 22 = .ok (.if_icmp .lt 6, 3) := by decide +kernel
theorem dX7_type_25 : decode cX7_type 25 = .ok (.bipush (-3), 2) := by decide +kernel
theorem dX7_type_27 : decode cX7_type 27 = .ok (.ireturn, 1) := by decide +kernel
theorem dX7_type_28 : decode cX7_type 28 = .ok (.aload_n 0, 1) := by decide +kernel
theorem dX7_type_29 : decode cX7_type 29 = .ok (.getfield 10, 3) := by decide +kernel
theorem dX7_type_32 : decode cX7_type 32 = .ok (.getfield 81, 3) := by decide +kernel
theorem dX7_type_35 : decode cX7_type 35 = .ok (.aload_n 0, 1) := by decide +kernel
theorem dX7_type_36 : decode cX7_type 36 = .ok (.getfield 10, 3) := by decide +kernel
theorem dX7_type_39 : decode cX7_type 39 = .ok (.getfield 77, 3) := by decide +kernel
theorem dX7_type_42 : decode cX7_type 42 = .ok (.iload_n 1, 1) := by decide +kernel
theorem dX7_type_43 : decode cX7_type 43 = .ok (.i2c, 1) := by decide +kernel
theorem dX7_type_44 : decode cX7_type 44 = .ok (.castore, 1) := by decide +kernel
theorem dX7_type_45 : decode cX7_type 45 = .ok (.aload_n 0, 1) := by decide +kernel
theorem dX7_type_46 : decode cX7_type 46 = .ok (.getfield 10, 3) := by decide +kernel
theorem dX7_type_49 : decode cX7_type 49 = .ok (.dup, 1) := by decide +kernel
theorem dX7_type_50 : decode cX7_type 50 = .ok (.getfield 77, 3) := by decide +kernel
theorem dX7_type_53 : decode cX7_type 53 = .ok (.iconst 1, 1) := by decide +kernel
theorem dX7_type_54 : decode cX7_type 54 = .ok (.iadd, 1) := by decide +kernel
theorem dX7_type_55 : decode cX7_type 55 = .ok (.putfield 77, 3) := by decide +kernel
theorem dX7_type_58 : decode cX7_type 58 = .ok (.aload_n 0, 1) := by decide +kernel
theorem dX7_type_59 : decode cX7_type 59 = .ok (.getfield 10, 3) := by decide +kernel
theorem dX7_type_62 : decode cX7_type 62 = .ok (.getfield 77, 3) := by decide +kernel
theorem dX7_type_65 : decode cX7_type 65 = .ok (.ireturn, 1) := by decide +kernel
def f_X7_type (a1 : Int32) (M : xMem) : Option (Int32 × xMem) := xb1 (f_X7_beyond a1 (0 : Int32) (255 : Int32) M) (fun r5 => (if r5 = (0 : Int32) then (if (M 1 0 1) < (120 : Int32) then xchk (xb (M 1 0 1) 120) (xlet (xst M 1 1 (M 1 0 1) (vp_nar .char (((a1).toUInt32 % 65536).toInt32))) (fun M44 => xlet (xsf M44 1 1 ((M44 1 0 1) + (1 : Int32))) (fun M55 => some ((M55 1 0 1), M55)))) else some ((-3 : Int32), M)) else some ((-1 : Int32), M)))
set_option maxHeartbeats 4000000 in
set_option maxRecDepth 100000 in
theorem c_X7_type (l : Launch) (G : xG) (sz : Nat) (M : xMem) (L : xLL) (a1 : Int32) {rr : Int32} {MM : xMem} (hf : f_X7_type a1 M = some (rr, MM)) : Met l yX7_type (Cond.code yX7_type cX7_type 2 (some .int) :: xTB) (xR 2) (xP G M L sz [.ref (xq G 0 0), .int a1]) (xQi G rr MM L sz) 0 0 (xZ G sz) := by
  refine x_met (cc := cX7_type) (nL := 2) (rt := (some .int)) (by decide) (Nat.le_of_ble_eq_true rfl) ?_
  intro p e s m below meth c ls hsz E hl hI
  subst hsz
  have E : xE p s m _ meth c cX7_type 2 (some .int) RX7 G := E
  have hx := E.1
  have hb := E.2.1
  have hl : lv_has ls 2 [(0, .ref (xq G 0 0)), (1, .int a1)] := hl
  rw [f_X7_type] at hf
  refine lv_iload_n hx hb dX7_type_0 rfl (lv_at hl 1 rfl) ?_
  refine lv_iconst (v := 0) hx hb dX7_type_1 (by decide) ?_
  refine lv_sipush (v := 255) hx hb dX7_type_2 (by decide) ?_
  obtain ⟨r5, g5, hf⟩ := xb1_s hf
  refine x_callSi (As := [.int a1, .int (0 : Int32), .int (255 : Int32)]) (rest := []) E hI (c_X7_beyond l G _ (M := M) (L := L) (a0 := a1) (a1 := (0 : Int32)) (a2 := (255 : Int32)) g5) ys_X7_beyond ml_X7_73 (by decide) (by decide) rfl rfl hl.1 (Nat.le_of_ble_eq_true rfl) dX7_type_5 (fun H locs hI => ?_)
  refine lv_if_eq (tgt := 13) hx hb dX7_type_8 (by decide) (fun c8 => ?_) (fun c8 => ?_)
  · replace hf := xif_t c8 hf
    refine lv_aload_n hx hb dX7_type_13 rfl (lv_at hl 0 rfl) ?_
    refine gf_X7_10 E hI dX7_type_14 ?_
    refine gf_X7_77 E hI dX7_type_17 ?_
    refine lv_bipush (v := 120) hx hb dX7_type_20 (by decide) ?_
    refine lv_icmp_lt (tgt := 28) hx hb dX7_type_22 (by decide) (fun c22 => ?_) (fun c22 => ?_)
    · replace hf := xif_t c22 hf
      refine lv_aload_n hx hb dX7_type_28 rfl (lv_at hl 0 rfl) ?_
      refine gf_X7_10 E hI dX7_type_29 ?_
      refine gf_X7_81 E hI dX7_type_32 ?_
      refine lv_aload_n hx hb dX7_type_35 rfl (lv_at hl 0 rfl) ?_
      refine gf_X7_10 E hI dX7_type_36 ?_
      refine gf_X7_77 E hI dX7_type_39 ?_
      refine lv_iload_n hx hb dX7_type_42 rfl (lv_at hl 1 rfl) ?_
      refine lv_i2c hx hb dX7_type_43 rfl ?_
      obtain ⟨h44b, hf⟩ := xchk_s hf
      obtain ⟨M44, e44, hf⟩ := xlet_s hf
      refine x_cast (n := 120) E hI mx_1_1 (fun _ _ => rfl) h44b dX7_type_44 e44 (fun H locs hI => ?_)
      refine lv_aload_n hx hb dX7_type_45 rfl (lv_at hl 0 rfl) ?_
      refine gf_X7_10 E hI dX7_type_46 ?_
      refine lv_dup hx hb dX7_type_49 rfl ?_
      refine gf_X7_77 E hI dX7_type_50 ?_
      refine lv_iconst (v := 1) hx hb dX7_type_53 (by decide) ?_
      refine lv_iadd hx hb dX7_type_54 ?_
      obtain ⟨M55, e55, hf⟩ := xlet_s hf
      refine pf_X7_77 E hI dX7_type_55 e55 (fun H locs hI => ?_)
      refine lv_aload_n hx hb dX7_type_58 rfl (lv_at hl 0 rfl) ?_
      refine gf_X7_10 E hI dX7_type_59 ?_
      refine gf_X7_77 E hI dX7_type_62 ?_
      obtain ⟨rfl, rfl⟩ := xinj2 hf
      exact x_iret E hI rfl dX7_type_65
    · replace hf := xif_f c22 hf
      refine lv_bipush (v := -3) hx hb dX7_type_25 (by decide) ?_
      obtain ⟨rfl, rfl⟩ := xinj2 hf
      exact x_iret E hI rfl dX7_type_27
  · replace hf := xif_f c8 hf
    refine lv_iconst (v := -1) hx hb dX7_type_11 (by decide) ?_
    obtain ⟨rfl, rfl⟩ := xinj2 hf
    exact x_iret E hI rfl dX7_type_12
theorem dX7_clear_0 : decode cX7_clear 0 = .ok (.aload_n 0, 1) := by decide +kernel
theorem dX7_clear_1 : decode cX7_clear 1 = .ok (.getfield 10, 3) := by decide +kernel
theorem dX7_clear_4 : decode cX7_clear 4 = .ok (.getfield 77, 3) := by decide +kernel
theorem dX7_clear_7 : decode cX7_clear 7 = .ok (.istore_n 1, 1) := by decide +kernel
theorem dX7_clear_8 : decode cX7_clear 8 = .ok (.aload_n 0, 1) := by decide +kernel
theorem dX7_clear_9 : decode cX7_clear 9 = .ok (.getfield 10, 3) := by decide +kernel
theorem dX7_clear_12 : decode cX7_clear 12 = .ok (.iconst 0, 1) := by decide +kernel
theorem dX7_clear_13 : decode cX7_clear 13 = .ok (.putfield 77, 3) := by decide +kernel
theorem dX7_clear_16 : decode cX7_clear 16 = .ok (.iload_n 1, 1) := by decide +kernel
theorem dX7_clear_17 : decode cX7_clear 17 = .ok (.ireturn, 1) := by decide +kernel
def f_X7_clear (M : xMem) : Option (Int32 × xMem) := xlet (xsf M 1 1 (0 : Int32)) (fun M13 => some ((M 1 0 1), M13))
set_option maxHeartbeats 4000000 in
set_option maxRecDepth 100000 in
theorem c_X7_clear (l : Launch) (G : xG) (sz : Nat) (M : xMem) (L : xLL) {rr : Int32} {MM : xMem} (hf : f_X7_clear M = some (rr, MM)) : Met l yX7_clear (Cond.code yX7_clear cX7_clear 2 (some .int) :: xTB) (xR 1) (xP G M L sz [.ref (xq G 0 0)]) (xQi G rr MM L sz) 0 0 (xZ G sz) := by
  refine x_met (cc := cX7_clear) (nL := 2) (rt := (some .int)) (by decide) (Nat.le_of_ble_eq_true rfl) ?_
  intro p e s m below meth c ls hsz E hl hI
  subst hsz
  have E : xE p s m _ meth c cX7_clear 2 (some .int) RX7 G := E
  have hx := E.1
  have hb := E.2.1
  have hl : lv_has ls 2 [(0, .ref (xq G 0 0))] := hl
  rw [f_X7_clear] at hf
  refine lv_aload_n hx hb dX7_clear_0 rfl (lv_at hl 0 rfl) ?_
  refine gf_X7_10 E hI dX7_clear_1 ?_
  refine gf_X7_77 E hI dX7_clear_4 ?_
  refine lv_istore_n (lv' := [(1, .int (M 1 0 1)), (0, .ref (xq G 0 0))]) hx hb dX7_clear_7 rfl hl (by decide) rfl (fun ls hl => ?_)
  refine lv_aload_n hx hb dX7_clear_8 rfl (lv_at hl 1 rfl) ?_
  refine gf_X7_10 E hI dX7_clear_9 ?_
  refine lv_iconst (v := 0) hx hb dX7_clear_12 (by decide) ?_
  obtain ⟨M13, e13, hf⟩ := xlet_s hf
  refine pf_X7_77 E hI dX7_clear_13 e13 (fun H locs hI => ?_)
  refine lv_iload_n hx hb dX7_clear_16 rfl (lv_at hl 0 rfl) ?_
  obtain ⟨rfl, rfl⟩ := xinj2 hf
  exact x_iret E hI rfl dX7_clear_17
theorem dX7_barn_0 : decode cX7_barn 0 = .ok (.aload_n 0, 1) := by decide +kernel
theorem dX7_barn_1 : decode cX7_barn 1 = .ok (.getfield 10, 3) := by decide +kernel
theorem dX7_barn_4 : decode cX7_barn 4 = .ok (.invokevirtual 85, 3) := by decide +kernel
theorem dX7_barn_7 : decode cX7_barn 7 = .ok (.istore_n 1, 1) := by decide +kernel
theorem dX7_barn_8 : decode cX7_barn 8 = .ok (.iload_n 1, 1) := by decide +kernel
theorem dX7_barn_9 : decode cX7_barn 9 = .ok (.ifCond .ge 5, 3) := by decide +kernel
theorem dX7_barn_12 : decode cX7_barn 12 = .ok (.iload_n 1, 1) := by decide +kernel
theorem dX7_barn_13 : decode cX7_barn 13 = .ok (.ireturn, 1) := by decide +kernel
theorem dX7_barn_14 : decode cX7_barn 14 = .ok (.aload_n 0, 1) := by decide +kernel
theorem dX7_barn_15 : decode cX7_barn 15 = .ok (.getfield 19, 3) := by decide +kernel
theorem dX7_barn_18 : decode cX7_barn 18 = .ok (.aload_n 0, 1) := by decide +kernel
theorem dX7_barn_19 : decode cX7_barn 19 = .ok (.getfield 10, 3) := by decide +kernel
theorem dX7_barn_22 : decode cX7_barn 22 = .ok (.getfield 89, 3) := by decide +kernel
theorem dX7_barn_25 : decode cX7_barn 25 = .ok (.invokevirtual 92, 3) := by decide +kernel
theorem dX7_barn_28 : decode cX7_barn 28 = .ok (.aload_n 0, 1) := by decide +kernel
theorem dX7_barn_29 : decode cX7_barn 29 = .ok (.getfield 28, 3) := by decide +kernel
theorem dX7_barn_32 : decode cX7_barn 32 = .ok (.invokevirtual 95, 3) := by decide +kernel
theorem dX7_barn_35 : decode cX7_barn 35 = .ok (.aload_n 0, 1) := by decide +kernel
theorem dX7_barn_36 : decode cX7_barn 36 = .ok (.getfield 38, 3) := by decide +kernel
theorem dX7_barn_39 : decode cX7_barn 39 = .ok (.iconst 0, 1) := by decide +kernel
theorem dX7_barn_40 : decode cX7_barn 40 = .ok (.putfield 98, 3) := by decide +kernel
theorem dX7_barn_43 : decode cX7_barn 43 = .ok (.aload_n 0, 1) := by decide +kernel
theorem dX7_barn_44 : decode cX7_barn 44 = .ok (.getfield 69, 3) := by decide +kernel
theorem dX7_barn_47 : decode cX7_barn 47 = .ok (.iconst 0, 1) := by decide +kernel
theorem dX7_barn_48 : decode cX7_barn 48 = .ok (.putfield 101, 3) := by decide +kernel
theorem dX7_barn_51 : decode cX7_barn 51 = .ok (.iconst 0, 1) := by decide +kernel
theorem dX7_barn_52 : decode cX7_barn 52 = .ok (.istore_n 2, 1) := by decide +kernel
theorem dX7_barn_53 : decode cX7_barn 53 = .ok (.iload_n 2, 1) := by decide +kernel
theorem dX7_barn_54 : decode cX7_barn 54 = .ok (.iconst 2, 1) := by decide +kernel
theorem dX7_barn_55 : decode cX7_barn 55 = .ok (.if_icmp .ge 16, 3) := by decide +kernel
theorem dX7_barn_58 : decode cX7_barn 58 = .ok (.aload_n 0, 1) := by decide +kernel
theorem dX7_barn_59 : decode cX7_barn 59 = .ok (.getfield 46, 3) := by decide +kernel
theorem dX7_barn_62 : decode cX7_barn 62 = .ok (.iload_n 2, 1) := by decide +kernel
theorem dX7_barn_63 : decode cX7_barn 63 = .ok (.iconst 0, 1) := by decide +kernel
theorem dX7_barn_64 : decode cX7_barn 64 = .ok (.bastore, 1) := by decide +kernel
theorem dX7_barn_65 : decode cX7_barn 65 = .ok (.iinc 2 1, 3) := by decide +kernel
theorem dX7_barn_68 : decode cX7_barn 68 = .ok (.goto (-15), 3) := by decide +kernel
theorem dX7_barn_71 : decode cX7_barn 71 = .ok (.aload_n 0, 1) := by decide +kernel
theorem dX7_barn_72 : decode cX7_barn 72 = .ok (.getfield 10, 3) := by decide +kernel
theorem dX7_barn_75 : decode cX7_barn 75 = .ok (.iconst 0, 1) := by decide +kernel
theorem dX7_barn_76 : decode cX7_barn 76 = .ok (.putfield 77, 3) := by decide +kernel
theorem dX7_barn_79 : decode cX7_barn 79 = .ok (.iload_n 1, 1) := by decide +kernel
theorem dX7_barn_80 : decode cX7_barn 80 = .ok (.ireturn, 1) := by decide +kernel
def f_X7_barn_l53 (r4 : Int32) : Nat → Int32 → xMem → Option (Int32 × xMem)
  | 0, _, _ => none
  | n + 1, v53_2, M53 => (if (2 : Int32) ≤ v53_2 then xlet (xsf M53 1 1 (0 : Int32)) (fun M76 => some (r4, M76)) else xchk (xb v53_2 2) (xlet (xst M53 0 7 v53_2 (vp_nar .boolean (0 : Int32))) (fun M64 => (f_X7_barn_l53 r4 n) (v53_2 + (1 : Int32)) M64)))
def f_X7_barn (M : xMem) : Option (Int32 × xMem) := xb2 (f_X3_readItems M) (fun r4 M4 => (if (0 : Int32) ≤ r4 then xb1 (f_X6_become M4) (fun M25 => xb1 (f_X0_begin 0 M25) (fun M32 => xlet (xsf M32 4 2 (0 : Int32)) (fun M40 => xlet (xsf M40 7 3 (0 : Int32)) (fun M48 => (f_X7_barn_l53 r4 FU) (0 : Int32) M48)))) else some (r4, M4)))
set_option maxHeartbeats 4000000 in
set_option maxRecDepth 100000 in
theorem w_X7_barn_l53 {p : Program} {l : Launch} {e : Env} {s : State} {m : MethodId} {args : Array Value} {below : List Frame} {meth : Method} {c : Code} {G : xG} {rr : Int32} {MM : xMem} (E : xE p s m args meth c cX7_barn 3 (some .int) RX7 G) (M : xMem) (L : xLL) (r4 : Int32) : ∀ (n : Nat), ∀ (v53_2 : Int32) (M53 : xMem), f_X7_barn_l53 r4 n v53_2 M53 = some (rr, MM) → ∀ (ls : Array Slot), lv_has ls 3 [(0, .ref (xq G 0 0)), (1, .int r4), (2, .int v53_2)] → ∀ (H : Heap) (locs : List Loc), xI G M53 L s.heap H locs → W p l e (xR 8) s m args below meth c H locs 0 0 (MQ below (xQi G rr MM L s.heap.size) args s 0 0 (xZ G s.heap.size)) (F0 m 53 ls []) := by
  have hx := E.1
  have hb := E.2.1
  intro n
  induction n with
  | zero =>
    intro v53_2 M53 hf
    exact absurd hf (by simp [f_X7_barn_l53])
  | succ n ih =>
    intro v53_2 M53 hf ls hl H locs hI
    rw [f_X7_barn_l53] at hf
    refine lv_iload_n hx hb dX7_barn_53 rfl (lv_at hl 2 rfl) ?_
    refine lv_iconst (v := 2) hx hb dX7_barn_54 (by decide) ?_
    refine lv_icmp_ge (tgt := 71) hx hb dX7_barn_55 (by decide) (fun c55 => ?_) (fun c55 => ?_)
    · replace hf := xif_t c55 hf
      refine lv_aload_n hx hb dX7_barn_71 rfl (lv_at hl 0 rfl) ?_
      refine gf_X7_10 E hI dX7_barn_72 ?_
      refine lv_iconst (v := 0) hx hb dX7_barn_75 (by decide) ?_
      obtain ⟨M76, e76, hf⟩ := xlet_s hf
      refine pf_X7_77 E hI dX7_barn_76 e76 (fun H locs hI => ?_)
      refine lv_iload_n hx hb dX7_barn_79 rfl (lv_at hl 1 rfl) ?_
      obtain ⟨rfl, rfl⟩ := xinj2 hf
      exact x_iret E hI rfl dX7_barn_80
    · replace hf := xif_f c55 hf
      refine lv_aload_n hx hb dX7_barn_58 rfl (lv_at hl 0 rfl) ?_
      refine gf_X7_46 E hI dX7_barn_59 ?_
      refine lv_iload_n hx hb dX7_barn_62 rfl (lv_at hl 2 rfl) ?_
      refine lv_iconst (v := 0) hx hb dX7_barn_63 (by decide) ?_
      obtain ⟨h64b, hf⟩ := xchk_s hf
      obtain ⟨M64, e64, hf⟩ := xlet_s hf
      refine x_zast (n := 2) E hI mx_0_7 (fun _ _ => rfl) h64b dX7_barn_64 e64 (fun H locs hI => ?_)
      refine lv_iinc (v := (v53_2 + (1 : Int32))) (lv' := [(2, .int (v53_2 + (1 : Int32))), (0, .ref (xq G 0 0)), (1, .int r4)]) hx hb dX7_barn_65 hl (k := 2) rfl rfl (by decide) rfl (fun ls hl => ?_)
      refine lv_goto (tgt := 53) hx hb dX7_barn_68 (by decide) ?_
      exact ih (v53_2 + (1 : Int32)) M64 hf _ (lv_sub hl [1, 2, 0] rfl) _ _ hI
set_option maxHeartbeats 4000000 in
set_option maxRecDepth 100000 in
theorem c_X7_barn (l : Launch) (G : xG) (sz : Nat) (M : xMem) (L : xLL) {rr : Int32} {MM : xMem} (hf : f_X7_barn M = some (rr, MM)) : Met l yX7_barn (Cond.code yX7_barn cX7_barn 3 (some .int) :: xTB) (xR 8) (xP G M L sz [.ref (xq G 0 0)]) (xQi G rr MM L sz) 0 0 (xZ G sz) := by
  refine x_met (cc := cX7_barn) (nL := 3) (rt := (some .int)) (by decide) (Nat.le_of_ble_eq_true rfl) ?_
  intro p e s m below meth c ls hsz E hl hI
  subst hsz
  have E : xE p s m _ meth c cX7_barn 3 (some .int) RX7 G := E
  have hx := E.1
  have hb := E.2.1
  have hl : lv_has ls 3 [(0, .ref (xq G 0 0))] := hl
  rw [f_X7_barn] at hf
  refine lv_aload_n hx hb dX7_barn_0 rfl (lv_at hl 0 rfl) ?_
  refine gf_X7_10 E hI dX7_barn_1 ?_
  obtain ⟨r4, M4, g4, hf⟩ := xb2_s hf
  refine x_callVi (As := []) (rest := []) E hI mx_1_0 rfl rfl rfl (c_X3_readItems l G _ (M := M) (L := L) g4) yv_X3_readItems ml_X7_85 (by decide) (by decide) rfl rfl hl.1 (Nat.le_of_ble_eq_true rfl) dX7_barn_4 (fun H locs hI => ?_)
  refine lv_istore_n (lv' := [(1, .int r4), (0, .ref (xq G 0 0))]) hx hb dX7_barn_7 rfl hl (by decide) rfl (fun ls hl => ?_)
  refine lv_iload_n hx hb dX7_barn_8 rfl (lv_at hl 0 rfl) ?_
  refine lv_if_ge (tgt := 14) hx hb dX7_barn_9 (by decide) (fun c9 => ?_) (fun c9 => ?_)
  · replace hf := xif_t c9 hf
    refine lv_aload_n hx hb dX7_barn_14 rfl (lv_at hl 1 rfl) ?_
    refine gf_X7_19 E hI dX7_barn_15 ?_
    refine lv_aload_n hx hb dX7_barn_18 rfl (lv_at hl 1 rfl) ?_
    refine gf_X7_10 E hI dX7_barn_19 ?_
    refine gf_X7_89 E hI dX7_barn_22 ?_
    obtain ⟨M25, g25, hf⟩ := xb1_s hf
    refine x_callVv (As := [.ref (xq G 2 0)]) (rest := []) E hI mx_3_0 rfl rfl rfl (c_X6_become l G _ (M := M4) (L := L) g25) yv_X6_become ml_X7_92 (by decide) (by decide) rfl rfl hl.1 (Nat.le_of_ble_eq_true rfl) dX7_barn_25 (fun H locs hI => ?_)
    refine lv_aload_n hx hb dX7_barn_28 rfl (lv_at hl 1 rfl) ?_
    refine gf_X7_28 E hI dX7_barn_29 ?_
    obtain ⟨M32, g32, hf⟩ := xb1_s hf
    refine x_callVv (As := []) (rest := []) E hI (mf_0 (by decide)) rfl rfl rfl (c_X0_begin l G _ (M := M25) (L := L) (i := 0) (hi := (by decide)) g32) yv_X0_begin ml_X7_95 (by decide) (by decide) rfl rfl hl.1 (Nat.le_of_ble_eq_true rfl) dX7_barn_32 (fun H locs hI => ?_)
    refine lv_aload_n hx hb dX7_barn_35 rfl (lv_at hl 1 rfl) ?_
    refine gf_X7_38 E hI dX7_barn_36 ?_
    refine lv_iconst (v := 0) hx hb dX7_barn_39 (by decide) ?_
    obtain ⟨M40, e40, hf⟩ := xlet_s hf
    refine pf_X7_98 E hI dX7_barn_40 e40 (fun H locs hI => ?_)
    refine lv_aload_n hx hb dX7_barn_43 rfl (lv_at hl 1 rfl) ?_
    refine gf_X7_69 E hI dX7_barn_44 ?_
    refine lv_iconst (v := 0) hx hb dX7_barn_47 (by decide) ?_
    obtain ⟨M48, e48, hf⟩ := xlet_s hf
    refine pf_X7_101 E hI dX7_barn_48 e48 (fun H locs hI => ?_)
    refine lv_iconst (v := 0) hx hb dX7_barn_51 (by decide) ?_
    refine lv_istore_n (lv' := [(2, .int (0 : Int32)), (1, .int r4), (0, .ref (xq G 0 0))]) hx hb dX7_barn_52 rfl hl (by decide) rfl (fun ls hl => ?_)
    exact (w_X7_barn_l53 E (M := M) (L := L) (r4 := r4) FU) (0 : Int32) M48 hf _ (lv_sub hl [2, 1, 0] rfl) _ _ hI
  · replace hf := xif_f c9 hf
    refine lv_iload_n hx hb dX7_barn_12 rfl (lv_at hl 0 rfl) ?_
    obtain ⟨rfl, rfl⟩ := xinj2 hf
    exact x_iret E hI rfl dX7_barn_13
theorem dX7_noScale_0 : decode cX7_noScale 0 = .ok (.iload_n 1, 1) := by decide +kernel
theorem dX7_noScale_1 : decode cX7_noScale 1 = .ok (.iconst 0, 1) := by decide +kernel
theorem dX7_noScale_2 : decode cX7_noScale 2 = .ok (.aload_n 0, 1) := by decide +kernel
theorem dX7_noScale_3 : decode cX7_noScale 3 = .ok (.getfield 19, 3) := by decide +kernel
theorem dX7_noScale_6 : decode cX7_noScale 6 = .ok (.getfield 162, 3) := by decide +kernel
theorem dX7_noScale_9 : decode cX7_noScale 9 = .ok (.iconst 1, 1) := by decide +kernel
theorem dX7_noScale_10 : decode cX7_noScale 10 = .ok (.isub, 1) := by decide +kernel
theorem dX7_noScale_11 : decode cX7_noScale 11 = .ok (.invokestatic 73, 3) := by decide +kernel
theorem dX7_noScale_14 : decode cX7_noScale 14 = .ok (.ireturn, 1) := by decide +kernel
def f_X7_noScale (a1 : Int32) (M : xMem) : Option (Int32) := xb1 (f_X7_beyond a1 (0 : Int32) ((M 3 0 0) - (1 : Int32)) M) (fun r11 => xchk (xbo r11) (some r11))
set_option maxHeartbeats 4000000 in
set_option maxRecDepth 100000 in
theorem c_X7_noScale (l : Launch) (G : xG) (sz : Nat) (M : xMem) (L : xLL) (a1 : Int32) {rr : Int32} (hf : f_X7_noScale a1 M = some rr) : Met l yX7_noScale (Cond.code yX7_noScale cX7_noScale 2 (some .boolean) :: xTB) (xR 2) (xP G M L sz [.ref (xq G 0 0), .int a1]) (xQi G rr M L sz) 0 0 (xZ G sz) := by
  refine x_met (cc := cX7_noScale) (nL := 2) (rt := (some .boolean)) (by decide) (Nat.le_of_ble_eq_true rfl) ?_
  intro p e s m below meth c ls hsz E hl hI
  subst hsz
  have E : xE p s m _ meth c cX7_noScale 2 (some .boolean) RX7 G := E
  have hx := E.1
  have hb := E.2.1
  have hl : lv_has ls 2 [(0, .ref (xq G 0 0)), (1, .int a1)] := hl
  rw [f_X7_noScale] at hf
  refine lv_iload_n hx hb dX7_noScale_0 rfl (lv_at hl 1 rfl) ?_
  refine lv_iconst (v := 0) hx hb dX7_noScale_1 (by decide) ?_
  refine lv_aload_n hx hb dX7_noScale_2 rfl (lv_at hl 0 rfl) ?_
  refine gf_X7_19 E hI dX7_noScale_3 ?_
  refine gf_X7_162_3 E hI dX7_noScale_6 ?_
  refine lv_iconst (v := 1) hx hb dX7_noScale_9 (by decide) ?_
  refine lv_isub hx hb dX7_noScale_10 ?_
  obtain ⟨r11, g11, hf⟩ := xb1_s hf
  refine x_callSi (As := [.int a1, .int (0 : Int32), .int ((M 3 0 0) - (1 : Int32))]) (rest := []) E hI (c_X7_beyond l G _ (M := M) (L := L) (a0 := a1) (a1 := (0 : Int32)) (a2 := ((M 3 0 0) - (1 : Int32))) g11) ys_X7_beyond ml_X7_73 (by decide) (by decide) rfl rfl hl.1 (Nat.le_of_ble_eq_true rfl) dX7_noScale_11 (fun H locs hI => ?_)
  obtain ⟨h14n, hf⟩ := xchk_s hf
  obtain rfl := xinj1 hf
  exact x_zret E hI (xbo_s h14n) rfl dX7_noScale_14
theorem dX7_scale_0 : decode cX7_scale 0 = .ok (.aload_n 0, 1) := by decide +kernel
theorem dX7_scale_1 : decode cX7_scale 1 = .ok (.iload_n 1, 1) := by decide +kernel
theorem dX7_scale_2 : decode cX7_scale 2 = .ok (.invokevirtual 104, 3) := by decide +kernel
theorem dX7_scale_5 : decode cX7_scale 5 = .ok (.ifCond .eq 5, 3) := by decide +kernel
theorem dX7_scale_8 : decode cX7_scale 8 = .ok (.iconst (-1), 1) := by decide +kernel
theorem dX7_scale_9 : decode cX7_scale 9 = .ok (.ireturn, 1) := by decide +kernel
theorem dX7_scale_10 : decode cX7_scale 10 = .ok (.iload_n 2, 1) := by decide +kernel
theorem dX7_scale_11 : decode cX7_scale 11 = .ok (.tableswitch 97 0 5 #[37, 47, 57, 67, 77, 86], 37) := by decide +kernel
theorem dX7_scale_48 : decode cX7_scale 48 = .ok (.aload_n 0, 1) := by decide +kernel
theorem dX7_scale_49 : decode cX7_scale 49 = .ok (.getfield 28, 3) := by decide +kernel
theorem dX7_scale_52 : decode cX7_scale 52 = .ok (.getfield 108, 3) := by decide +kernel
theorem dX7_scale_55 : decode cX7_scale 55 = .ok (.iload_n 1, 1) := by decide +kernel
theorem dX7_scale_56 : decode cX7_scale 56 = .ok (.iaload, 1) := by decide +kernel
theorem dX7_scale_57 : decode cX7_scale 57 = .ok (.ireturn, 1) := by decide +kernel
theorem dX7_scale_58 : decode cX7_scale 58 = .ok (.aload_n 0, 1) := by decide +kernel
theorem dX7_scale_59 : decode cX7_scale 59 = .ok (.getfield 19, 3) := by decide +kernel
theorem dX7_scale_62 : decode cX7_scale 62 = .ok (.getfield 112, 3) := by decide +kernel
theorem dX7_scale_65 : decode cX7_scale 65 = .ok (.iload_n 1, 1) := by decide +kernel
theorem dX7_scale_66 : decode cX7_scale 66 = .ok (.iaload, 1) := by decide +kernel
theorem dX7_scale_67 : decode cX7_scale 67 = .ok (.ireturn, 1) := by decide +kernel
theorem dX7_scale_68 : decode cX7_scale 68 = .ok (.aload_n 0, 1) := by decide +kernel
theorem dX7_scale_69 : decode cX7_scale 69 = .ok (.getfield 19, 3) := by decide +kernel
theorem dX7_scale_72 : decode cX7_scale 72 = .ok (.getfield 115, 3) := by decide +kernel
theorem dX7_scale_75 : decode cX7_scale 75 = .ok (.iload_n 1, 1) := by decide +kernel
theorem dX7_scale_76 : decode cX7_scale 76 = .ok (.iaload, 1) := by decide +kernel
theorem dX7_scale_77 : decode cX7_scale 77 = .ok (.ireturn, 1) := by decide +kernel
theorem dX7_scale_78 : decode cX7_scale 78 = .ok (.aload_n 0, 1) := by decide +kernel
theorem dX7_scale_79 : decode cX7_scale 79 = .ok (.getfield 28, 3) := by decide +kernel
theorem dX7_scale_82 : decode cX7_scale 82 = .ok (.getfield 118, 3) := by decide +kernel
theorem dX7_scale_85 : decode cX7_scale 85 = .ok (.iload_n 1, 1) := by decide +kernel
theorem dX7_scale_86 : decode cX7_scale 86 = .ok (.iaload, 1) := by decide +kernel
theorem dX7_scale_87 : decode cX7_scale 87 = .ok (.ireturn, 1) := by decide +kernel
theorem dX7_scale_88 : decode cX7_scale 88 = .ok (.aload_n 0, 1) := by decide +kernel
theorem dX7_scale_89 : decode cX7_scale 89 = .ok (.getfield 28, 3) := by decide +kernel
theorem dX7_scale_92 : decode cX7_scale 92 = .ok (.iload_n 1, 1) := by decide +kernel
theorem dX7_scale_93 : decode cX7_scale 93 = .ok (.invokevirtual 121, 3) := by decide +kernel
theorem dX7_scale_96 : decode cX7_scale 96 = .ok (.ireturn, 1) := by decide +kernel
theorem dX7_scale_97 : decode cX7_scale 97 = .ok (.aload_n 0, 1) := by decide +kernel
theorem dX7_scale_98 : decode cX7_scale 98 = .ok (.getfield 28, 3) := by decide +kernel
theorem dX7_scale_101 : decode cX7_scale 101 = .ok (.iload_n 1, 1) := by decide +kernel
theorem dX7_scale_102 : decode cX7_scale 102 = .ok (.iconst 1, 1) := by decide +kernel
theorem dX7_scale_103 : decode cX7_scale 103 = .ok (.iadd, 1) := by decide +kernel
theorem dX7_scale_104 : decode cX7_scale 104 = .ok (.invokevirtual 125, 3) := by decide +kernel
theorem dX7_scale_107 : decode cX7_scale 107 = .ok (.ireturn, 1) := by decide +kernel
theorem dX7_scale_108 : decode cX7_scale 108 = .ok (.iconst (-1), 1) := by decide +kernel
theorem dX7_scale_109 : decode cX7_scale 109 = .ok (.ireturn, 1) := by decide +kernel
def f_X7_scale (a1 : Int32) (a2 : Int32) (M : xMem) : Option (Int32) := xb1 (f_X7_noScale a1 M) (fun r2 => (if r2 = (0 : Int32) then (if a2 = (0 : Int32) then xchk (xb a1 5) (some (M (0 + 9) 4 a1.toNatClampNeg)) else (if a2 = (1 : Int32) then xchk (xb a1 5) (some (M 3 4 a1.toNatClampNeg)) else (if a2 = (2 : Int32) then xchk (xb a1 5) (some (M 3 5 a1.toNatClampNeg)) else (if a2 = (3 : Int32) then xchk (xb a1 5) (some (M (0 + 9) 6 a1.toNatClampNeg)) else (if a2 = (4 : Int32) then xb1 (f_X0_placeOf 0 a1 M) (fun r93 => some r93) else (if a2 = (5 : Int32) then xb1 (f_X0_eggsAt 0 (a1 + (1 : Int32)) M) (fun r104 => some r104) else some (-1 : Int32))))))) else some (-1 : Int32)))
set_option maxHeartbeats 4000000 in
set_option maxRecDepth 100000 in
theorem c_X7_scale (l : Launch) (G : xG) (sz : Nat) (M : xMem) (L : xLL) (a1 : Int32) (a2 : Int32) {rr : Int32} (hf : f_X7_scale a1 a2 M = some rr) : Met l yX7_scale (Cond.code yX7_scale cX7_scale 3 (some .int) :: xTB) (xR 3) (xP G M L sz [.ref (xq G 0 0), .int a1, .int a2]) (xQi G rr M L sz) 0 0 (xZ G sz) := by
  refine x_met (cc := cX7_scale) (nL := 3) (rt := (some .int)) (by decide) (Nat.le_of_ble_eq_true rfl) ?_
  intro p e s m below meth c ls hsz E hl hI
  subst hsz
  have E : xE p s m _ meth c cX7_scale 3 (some .int) RX7 G := E
  have hx := E.1
  have hb := E.2.1
  have hl : lv_has ls 3 [(0, .ref (xq G 0 0)), (1, .int a1), (2, .int a2)] := hl
  rw [f_X7_scale] at hf
  refine lv_aload_n hx hb dX7_scale_0 rfl (lv_at hl 0 rfl) ?_
  refine lv_iload_n hx hb dX7_scale_1 rfl (lv_at hl 1 rfl) ?_
  obtain ⟨r2, g2, hf⟩ := xb1_s hf
  refine x_callVi (As := [.int a1]) (rest := []) E hI mx_0_0 rfl rfl rfl (c_X7_noScale l G _ (M := M) (L := L) (a1 := a1) g2) yv_X7_noScale ml_X7_104 (by decide) (by decide) rfl rfl hl.1 (Nat.le_of_ble_eq_true rfl) dX7_scale_2 (fun H locs hI => ?_)
  refine lv_if_eq (tgt := 10) hx hb dX7_scale_5 (by decide) (fun c5 => ?_) (fun c5 => ?_)
  · replace hf := xif_t c5 hf
    refine lv_iload_n hx hb dX7_scale_10 rfl (lv_at hl 2 rfl) ?_
    by_cases c11_0 : a2 = (0 : Int32)
    · replace hf := xif_t c11_0 hf
      refine x_tsIn (off := 37) (tgt := 48) hx hb c11_0 dX7_scale_11 (by decide) (by decide) (by decide) (by decide) ?_
      refine lv_aload_n hx hb dX7_scale_48 rfl (lv_at hl 0 rfl) ?_
      refine gf_X7_28 E hI dX7_scale_49 ?_
      refine gf_X7_108 E hI (by decide) dX7_scale_52 ?_
      refine lv_iload_n hx hb dX7_scale_55 rfl (lv_at hl 1 rfl) ?_
      obtain ⟨h56b, hf⟩ := xchk_s hf
      refine x_iald (n := 5) E hI (mf_4 (by decide)) (fun _ _ => rfl) h56b dX7_scale_56 ?_
      obtain rfl := xinj1 hf
      exact x_iret E hI rfl dX7_scale_57
    · replace hf := xif_f c11_0 hf
      by_cases c11_1 : a2 = (1 : Int32)
      · replace hf := xif_t c11_1 hf
        refine x_tsIn (off := 47) (tgt := 58) hx hb c11_1 dX7_scale_11 (by decide) (by decide) (by decide) (by decide) ?_
        refine lv_aload_n hx hb dX7_scale_58 rfl (lv_at hl 0 rfl) ?_
        refine gf_X7_19 E hI dX7_scale_59 ?_
        refine gf_X7_112_3 E hI dX7_scale_62 ?_
        refine lv_iload_n hx hb dX7_scale_65 rfl (lv_at hl 1 rfl) ?_
        obtain ⟨h66b, hf⟩ := xchk_s hf
        refine x_iald (n := 5) E hI mx_3_4 (fun _ _ => rfl) h66b dX7_scale_66 ?_
        obtain rfl := xinj1 hf
        exact x_iret E hI rfl dX7_scale_67
      · replace hf := xif_f c11_1 hf
        by_cases c11_2 : a2 = (2 : Int32)
        · replace hf := xif_t c11_2 hf
          refine x_tsIn (off := 57) (tgt := 68) hx hb c11_2 dX7_scale_11 (by decide) (by decide) (by decide) (by decide) ?_
          refine lv_aload_n hx hb dX7_scale_68 rfl (lv_at hl 0 rfl) ?_
          refine gf_X7_19 E hI dX7_scale_69 ?_
          refine gf_X7_115_3 E hI dX7_scale_72 ?_
          refine lv_iload_n hx hb dX7_scale_75 rfl (lv_at hl 1 rfl) ?_
          obtain ⟨h76b, hf⟩ := xchk_s hf
          refine x_iald (n := 5) E hI mx_3_5 (fun _ _ => rfl) h76b dX7_scale_76 ?_
          obtain rfl := xinj1 hf
          exact x_iret E hI rfl dX7_scale_77
        · replace hf := xif_f c11_2 hf
          by_cases c11_3 : a2 = (3 : Int32)
          · replace hf := xif_t c11_3 hf
            refine x_tsIn (off := 67) (tgt := 78) hx hb c11_3 dX7_scale_11 (by decide) (by decide) (by decide) (by decide) ?_
            refine lv_aload_n hx hb dX7_scale_78 rfl (lv_at hl 0 rfl) ?_
            refine gf_X7_28 E hI dX7_scale_79 ?_
            refine gf_X7_118 E hI (by decide) dX7_scale_82 ?_
            refine lv_iload_n hx hb dX7_scale_85 rfl (lv_at hl 1 rfl) ?_
            obtain ⟨h86b, hf⟩ := xchk_s hf
            refine x_iald (n := 5) E hI (mf_6 (by decide)) (fun _ _ => rfl) h86b dX7_scale_86 ?_
            obtain rfl := xinj1 hf
            exact x_iret E hI rfl dX7_scale_87
          · replace hf := xif_f c11_3 hf
            by_cases c11_4 : a2 = (4 : Int32)
            · replace hf := xif_t c11_4 hf
              refine x_tsIn (off := 77) (tgt := 88) hx hb c11_4 dX7_scale_11 (by decide) (by decide) (by decide) (by decide) ?_
              refine lv_aload_n hx hb dX7_scale_88 rfl (lv_at hl 0 rfl) ?_
              refine gf_X7_28 E hI dX7_scale_89 ?_
              refine lv_iload_n hx hb dX7_scale_92 rfl (lv_at hl 1 rfl) ?_
              obtain ⟨r93, g93, hf⟩ := xb1_s hf
              refine x_callVi (As := [.int a1]) (rest := []) E hI (mf_0 (by decide)) rfl rfl rfl (c_X0_placeOf l G _ (M := M) (L := L) (i := 0) (hi := (by decide)) (a1 := a1) g93) yv_X0_placeOf ml_X7_121 (by decide) (by decide) rfl rfl hl.1 (Nat.le_of_ble_eq_true rfl) dX7_scale_93 (fun H locs hI => ?_)
              obtain rfl := xinj1 hf
              exact x_iret E hI rfl dX7_scale_96
            · replace hf := xif_f c11_4 hf
              by_cases c11_5 : a2 = (5 : Int32)
              · replace hf := xif_t c11_5 hf
                refine x_tsIn (off := 86) (tgt := 97) hx hb c11_5 dX7_scale_11 (by decide) (by decide) (by decide) (by decide) ?_
                refine lv_aload_n hx hb dX7_scale_97 rfl (lv_at hl 0 rfl) ?_
                refine gf_X7_28 E hI dX7_scale_98 ?_
                refine lv_iload_n hx hb dX7_scale_101 rfl (lv_at hl 1 rfl) ?_
                refine lv_iconst (v := 1) hx hb dX7_scale_102 (by decide) ?_
                refine lv_iadd hx hb dX7_scale_103 ?_
                obtain ⟨r104, g104, hf⟩ := xb1_s hf
                refine x_callVi (As := [.int (a1 + (1 : Int32))]) (rest := []) E hI (mf_0 (by decide)) rfl rfl rfl (c_X0_eggsAt l G _ (M := M) (L := L) (i := 0) (hi := (by decide)) (a1 := (a1 + (1 : Int32))) g104) yv_X0_eggsAt ml_X7_125 (by decide) (by decide) rfl rfl hl.1 (Nat.le_of_ble_eq_true rfl) dX7_scale_104 (fun H locs hI => ?_)
                obtain rfl := xinj1 hf
                exact x_iret E hI rfl dX7_scale_107
              · replace hf := xif_f c11_5 hf
                refine x_tsOut hx hb dX7_scale_11 (fun k hk => by
                  have hk2 : k = 0 ∨ k = 1 ∨ k = 2 ∨ k = 3 ∨ k = 4 ∨ k = 5 := by
                    have hk3 : k < 6 := hk
                    omega
                  rcases hk2 with rfl | rfl | rfl | rfl | rfl | rfl
                  · exact c11_0
                  · exact c11_1
                  · exact c11_2
                  · exact c11_3
                  · exact c11_4
                  · exact c11_5) (tgt := 108) (by decide) ?_
                refine lv_iconst (v := -1) hx hb dX7_scale_108 (by decide) ?_
                obtain rfl := xinj1 hf
                exact x_iret E hI rfl dX7_scale_109
  · replace hf := xif_f c5 hf
    refine lv_iconst (v := -1) hx hb dX7_scale_8 (by decide) ?_
    obtain rfl := xinj1 hf
    exact x_iret E hI rfl dX7_scale_9
theorem dX7_noEgg_0 : decode cX7_noEgg 0 = .ok (.iload_n 1, 1) := by decide +kernel
theorem dX7_noEgg_1 : decode cX7_noEgg 1 = .ok (.iconst 0, 1) := by decide +kernel
theorem dX7_noEgg_2 : decode cX7_noEgg 2 = .ok (.aload_n 0, 1) := by decide +kernel
theorem dX7_noEgg_3 : decode cX7_noEgg 3 = .ok (.getfield 19, 3) := by decide +kernel
theorem dX7_noEgg_6 : decode cX7_noEgg 6 = .ok (.getfield 253, 3) := by decide +kernel
theorem dX7_noEgg_9 : decode cX7_noEgg 9 = .ok (.iconst 1, 1) := by decide +kernel
theorem dX7_noEgg_10 : decode cX7_noEgg 10 = .ok (.isub, 1) := by decide +kernel
theorem dX7_noEgg_11 : decode cX7_noEgg 11 = .ok (.invokestatic 73, 3) := by decide +kernel
theorem dX7_noEgg_14 : decode cX7_noEgg 14 = .ok (.ireturn, 1) := by decide +kernel
def f_X7_noEgg (a1 : Int32) (M : xMem) : Option (Int32) := xb1 (f_X7_beyond a1 (0 : Int32) ((M 3 0 1) - (1 : Int32)) M) (fun r11 => xchk (xbo r11) (some r11))
set_option maxHeartbeats 4000000 in
set_option maxRecDepth 100000 in
theorem c_X7_noEgg (l : Launch) (G : xG) (sz : Nat) (M : xMem) (L : xLL) (a1 : Int32) {rr : Int32} (hf : f_X7_noEgg a1 M = some rr) : Met l yX7_noEgg (Cond.code yX7_noEgg cX7_noEgg 2 (some .boolean) :: xTB) (xR 2) (xP G M L sz [.ref (xq G 0 0), .int a1]) (xQi G rr M L sz) 0 0 (xZ G sz) := by
  refine x_met (cc := cX7_noEgg) (nL := 2) (rt := (some .boolean)) (by decide) (Nat.le_of_ble_eq_true rfl) ?_
  intro p e s m below meth c ls hsz E hl hI
  subst hsz
  have E : xE p s m _ meth c cX7_noEgg 2 (some .boolean) RX7 G := E
  have hx := E.1
  have hb := E.2.1
  have hl : lv_has ls 2 [(0, .ref (xq G 0 0)), (1, .int a1)] := hl
  rw [f_X7_noEgg] at hf
  refine lv_iload_n hx hb dX7_noEgg_0 rfl (lv_at hl 1 rfl) ?_
  refine lv_iconst (v := 0) hx hb dX7_noEgg_1 (by decide) ?_
  refine lv_aload_n hx hb dX7_noEgg_2 rfl (lv_at hl 0 rfl) ?_
  refine gf_X7_19 E hI dX7_noEgg_3 ?_
  refine gf_X7_253_3 E hI dX7_noEgg_6 ?_
  refine lv_iconst (v := 1) hx hb dX7_noEgg_9 (by decide) ?_
  refine lv_isub hx hb dX7_noEgg_10 ?_
  obtain ⟨r11, g11, hf⟩ := xb1_s hf
  refine x_callSi (As := [.int a1, .int (0 : Int32), .int ((M 3 0 1) - (1 : Int32))]) (rest := []) E hI (c_X7_beyond l G _ (M := M) (L := L) (a0 := a1) (a1 := (0 : Int32)) (a2 := ((M 3 0 1) - (1 : Int32))) g11) ys_X7_beyond ml_X7_73 (by decide) (by decide) rfl rfl hl.1 (Nat.le_of_ble_eq_true rfl) dX7_noEgg_11 (fun H locs hI => ?_)
  obtain ⟨h14n, hf⟩ := xchk_s hf
  obtain rfl := xinj1 hf
  exact x_zret E hI (xbo_s h14n) rfl dX7_noEgg_14
theorem dX7_egg_0 : decode cX7_egg 0 = .ok (.aload_n 0, 1) := by decide +kernel
theorem dX7_egg_1 : decode cX7_egg 1 = .ok (.iload_n 1, 1) := by decide +kernel
theorem dX7_egg_2 : decode cX7_egg 2 = .ok (.invokevirtual 128, 3) := by decide +kernel
theorem dX7_egg_5 : decode cX7_egg 5 = .ok (.ifCond .eq 5, 3) := by decide +kernel
theorem dX7_egg_8 : decode cX7_egg 8 = .ok (.iconst (-1), 1) := by decide +kernel
theorem dX7_egg_9 : decode cX7_egg 9 = .ok (.ireturn, 1) := by decide +kernel
theorem dX7_egg_10 : decode cX7_egg 10 = .ok (.iload_n 2, 1) := by decide +kernel
theorem dX7_egg_11 : decode cX7_egg 11 = .ok (.tableswitch 90 0 4 #[33, 43, 53, 63, 81], 33) := by decide +kernel
theorem dX7_egg_44 : decode cX7_egg 44 = .ok (.aload_n 0, 1) := by decide +kernel
theorem dX7_egg_45 : decode cX7_egg 45 = .ok (.getfield 28, 3) := by decide +kernel
theorem dX7_egg_48 : decode cX7_egg 48 = .ok (.getfield 131, 3) := by decide +kernel
theorem dX7_egg_51 : decode cX7_egg 51 = .ok (.iload_n 1, 1) := by decide +kernel
theorem dX7_egg_52 : decode cX7_egg 52 = .ok (.iaload, 1) := by decide +kernel
theorem dX7_egg_53 : decode cX7_egg 53 = .ok (.ireturn, 1) := by decide +kernel
theorem dX7_egg_54 : decode cX7_egg 54 = .ok (.aload_n 0, 1) := by decide +kernel
theorem dX7_egg_55 : decode cX7_egg 55 = .ok (.getfield 19, 3) := by decide +kernel
theorem dX7_egg_58 : decode cX7_egg 58 = .ok (.getfield 134, 3) := by decide +kernel
theorem dX7_egg_61 : decode cX7_egg 61 = .ok (.iload_n 1, 1) := by decide +kernel
theorem dX7_egg_62 : decode cX7_egg 62 = .ok (.iaload, 1) := by decide +kernel
theorem dX7_egg_63 : decode cX7_egg 63 = .ok (.ireturn, 1) := by decide +kernel
theorem dX7_egg_64 : decode cX7_egg 64 = .ok (.aload_n 0, 1) := by decide +kernel
theorem dX7_egg_65 : decode cX7_egg 65 = .ok (.getfield 28, 3) := by decide +kernel
theorem dX7_egg_68 : decode cX7_egg 68 = .ok (.getfield 137, 3) := by decide +kernel
theorem dX7_egg_71 : decode cX7_egg 71 = .ok (.iload_n 1, 1) := by decide +kernel
theorem dX7_egg_72 : decode cX7_egg 72 = .ok (.iaload, 1) := by decide +kernel
theorem dX7_egg_73 : decode cX7_egg 73 = .ok (.ireturn, 1) := by decide +kernel
theorem dX7_egg_74 : decode cX7_egg 74 = .ok (.aload_n 0, 1) := by decide +kernel
theorem dX7_egg_75 : decode cX7_egg 75 = .ok (.getfield 19, 3) := by decide +kernel
theorem dX7_egg_78 : decode cX7_egg 78 = .ok (.iload_n 1, 1) := by decide +kernel
theorem dX7_egg_79 : decode cX7_egg 79 = .ok (.aload_n 0, 1) := by decide +kernel
theorem dX7_egg_80 : decode cX7_egg 80 = .ok (.getfield 28, 3) := by decide +kernel
theorem dX7_egg_83 : decode cX7_egg 83 = .ok (.getfield 131, 3) := by decide +kernel
theorem dX7_egg_86 : decode cX7_egg 86 = .ok (.iload_n 1, 1) := by decide +kernel
theorem dX7_egg_87 : decode cX7_egg 87 = .ok (.iaload, 1) := by decide +kernel
theorem dX7_egg_88 : decode cX7_egg 88 = .ok (.invokevirtual 140, 3) := by decide +kernel
theorem dX7_egg_91 : decode cX7_egg 91 = .ok (.ireturn, 1) := by decide +kernel
theorem dX7_egg_92 : decode cX7_egg 92 = .ok (.aload_n 0, 1) := by decide +kernel
theorem dX7_egg_93 : decode cX7_egg 93 = .ok (.getfield 28, 3) := by decide +kernel
theorem dX7_egg_96 : decode cX7_egg 96 = .ok (.iload_n 1, 1) := by decide +kernel
theorem dX7_egg_97 : decode cX7_egg 97 = .ok (.invokevirtual 144, 3) := by decide +kernel
theorem dX7_egg_100 : decode cX7_egg 100 = .ok (.ireturn, 1) := by decide +kernel
theorem dX7_egg_101 : decode cX7_egg 101 = .ok (.iconst (-1), 1) := by decide +kernel
theorem dX7_egg_102 : decode cX7_egg 102 = .ok (.ireturn, 1) := by decide +kernel
def f_X7_egg (a1 : Int32) (a2 : Int32) (M : xMem) : Option (Int32) := xb1 (f_X7_noEgg a1 M) (fun r2 => (if r2 = (0 : Int32) then (if a2 = (0 : Int32) then xchk (xb a1 6) (some (M (0 + 9) 3 a1.toNatClampNeg)) else (if a2 = (1 : Int32) then xchk (xb a1 6) (some (M 3 7 a1.toNatClampNeg)) else (if a2 = (2 : Int32) then xchk (xb a1 6) (some (M (0 + 9) 2 a1.toNatClampNeg)) else (if a2 = (3 : Int32) then xchk (xb a1 6) (xb1 (f_X6_seems a1 (M (0 + 9) 3 a1.toNatClampNeg) M) (fun r88 => some r88)) else (if a2 = (4 : Int32) then xb1 (f_X0_belongs 0 a1 M) (fun r97 => some r97) else some (-1 : Int32)))))) else some (-1 : Int32)))
set_option maxHeartbeats 4000000 in
set_option maxRecDepth 100000 in
theorem c_X7_egg (l : Launch) (G : xG) (sz : Nat) (M : xMem) (L : xLL) (a1 : Int32) (a2 : Int32) {rr : Int32} (hf : f_X7_egg a1 a2 M = some rr) : Met l yX7_egg (Cond.code yX7_egg cX7_egg 3 (some .int) :: xTB) (xR 3) (xP G M L sz [.ref (xq G 0 0), .int a1, .int a2]) (xQi G rr M L sz) 0 0 (xZ G sz) := by
  refine x_met (cc := cX7_egg) (nL := 3) (rt := (some .int)) (by decide) (Nat.le_of_ble_eq_true rfl) ?_
  intro p e s m below meth c ls hsz E hl hI
  subst hsz
  have E : xE p s m _ meth c cX7_egg 3 (some .int) RX7 G := E
  have hx := E.1
  have hb := E.2.1
  have hl : lv_has ls 3 [(0, .ref (xq G 0 0)), (1, .int a1), (2, .int a2)] := hl
  rw [f_X7_egg] at hf
  refine lv_aload_n hx hb dX7_egg_0 rfl (lv_at hl 0 rfl) ?_
  refine lv_iload_n hx hb dX7_egg_1 rfl (lv_at hl 1 rfl) ?_
  obtain ⟨r2, g2, hf⟩ := xb1_s hf
  refine x_callVi (As := [.int a1]) (rest := []) E hI mx_0_0 rfl rfl rfl (c_X7_noEgg l G _ (M := M) (L := L) (a1 := a1) g2) yv_X7_noEgg ml_X7_128 (by decide) (by decide) rfl rfl hl.1 (Nat.le_of_ble_eq_true rfl) dX7_egg_2 (fun H locs hI => ?_)
  refine lv_if_eq (tgt := 10) hx hb dX7_egg_5 (by decide) (fun c5 => ?_) (fun c5 => ?_)
  · replace hf := xif_t c5 hf
    refine lv_iload_n hx hb dX7_egg_10 rfl (lv_at hl 2 rfl) ?_
    by_cases c11_0 : a2 = (0 : Int32)
    · replace hf := xif_t c11_0 hf
      refine x_tsIn (off := 33) (tgt := 44) hx hb c11_0 dX7_egg_11 (by decide) (by decide) (by decide) (by decide) ?_
      refine lv_aload_n hx hb dX7_egg_44 rfl (lv_at hl 0 rfl) ?_
      refine gf_X7_28 E hI dX7_egg_45 ?_
      refine gf_X7_131 E hI (by decide) dX7_egg_48 ?_
      refine lv_iload_n hx hb dX7_egg_51 rfl (lv_at hl 1 rfl) ?_
      obtain ⟨h52b, hf⟩ := xchk_s hf
      refine x_iald (n := 6) E hI (mf_3 (by decide)) (fun _ _ => rfl) h52b dX7_egg_52 ?_
      obtain rfl := xinj1 hf
      exact x_iret E hI rfl dX7_egg_53
    · replace hf := xif_f c11_0 hf
      by_cases c11_1 : a2 = (1 : Int32)
      · replace hf := xif_t c11_1 hf
        refine x_tsIn (off := 43) (tgt := 54) hx hb c11_1 dX7_egg_11 (by decide) (by decide) (by decide) (by decide) ?_
        refine lv_aload_n hx hb dX7_egg_54 rfl (lv_at hl 0 rfl) ?_
        refine gf_X7_19 E hI dX7_egg_55 ?_
        refine gf_X7_134_3 E hI dX7_egg_58 ?_
        refine lv_iload_n hx hb dX7_egg_61 rfl (lv_at hl 1 rfl) ?_
        obtain ⟨h62b, hf⟩ := xchk_s hf
        refine x_iald (n := 6) E hI mx_3_7 (fun _ _ => rfl) h62b dX7_egg_62 ?_
        obtain rfl := xinj1 hf
        exact x_iret E hI rfl dX7_egg_63
      · replace hf := xif_f c11_1 hf
        by_cases c11_2 : a2 = (2 : Int32)
        · replace hf := xif_t c11_2 hf
          refine x_tsIn (off := 53) (tgt := 64) hx hb c11_2 dX7_egg_11 (by decide) (by decide) (by decide) (by decide) ?_
          refine lv_aload_n hx hb dX7_egg_64 rfl (lv_at hl 0 rfl) ?_
          refine gf_X7_28 E hI dX7_egg_65 ?_
          refine gf_X7_137 E hI (by decide) dX7_egg_68 ?_
          refine lv_iload_n hx hb dX7_egg_71 rfl (lv_at hl 1 rfl) ?_
          obtain ⟨h72b, hf⟩ := xchk_s hf
          refine x_iald (n := 6) E hI (mf_2 (by decide)) (fun _ _ => rfl) h72b dX7_egg_72 ?_
          obtain rfl := xinj1 hf
          exact x_iret E hI rfl dX7_egg_73
        · replace hf := xif_f c11_2 hf
          by_cases c11_3 : a2 = (3 : Int32)
          · replace hf := xif_t c11_3 hf
            refine x_tsIn (off := 63) (tgt := 74) hx hb c11_3 dX7_egg_11 (by decide) (by decide) (by decide) (by decide) ?_
            refine lv_aload_n hx hb dX7_egg_74 rfl (lv_at hl 0 rfl) ?_
            refine gf_X7_19 E hI dX7_egg_75 ?_
            refine lv_iload_n hx hb dX7_egg_78 rfl (lv_at hl 1 rfl) ?_
            refine lv_aload_n hx hb dX7_egg_79 rfl (lv_at hl 0 rfl) ?_
            refine gf_X7_28 E hI dX7_egg_80 ?_
            refine gf_X7_131 E hI (by decide) dX7_egg_83 ?_
            refine lv_iload_n hx hb dX7_egg_86 rfl (lv_at hl 1 rfl) ?_
            obtain ⟨h87b, hf⟩ := xchk_s hf
            refine x_iald (n := 6) E hI (mf_3 (by decide)) (fun _ _ => rfl) h87b dX7_egg_87 ?_
            obtain ⟨r88, g88, hf⟩ := xb1_s hf
            refine x_callVi (As := [.int a1, .int (M (0 + 9) 3 a1.toNatClampNeg)]) (rest := []) E hI mx_3_0 rfl rfl rfl (c_X6_seems l G _ (M := M) (L := L) (a1 := a1) (a2 := (M (0 + 9) 3 a1.toNatClampNeg)) g88) yv_X6_seems ml_X7_140 (by decide) (by decide) rfl rfl hl.1 (Nat.le_of_ble_eq_true rfl) dX7_egg_88 (fun H locs hI => ?_)
            obtain rfl := xinj1 hf
            exact x_iret E hI rfl dX7_egg_91
          · replace hf := xif_f c11_3 hf
            by_cases c11_4 : a2 = (4 : Int32)
            · replace hf := xif_t c11_4 hf
              refine x_tsIn (off := 81) (tgt := 92) hx hb c11_4 dX7_egg_11 (by decide) (by decide) (by decide) (by decide) ?_
              refine lv_aload_n hx hb dX7_egg_92 rfl (lv_at hl 0 rfl) ?_
              refine gf_X7_28 E hI dX7_egg_93 ?_
              refine lv_iload_n hx hb dX7_egg_96 rfl (lv_at hl 1 rfl) ?_
              obtain ⟨r97, g97, hf⟩ := xb1_s hf
              refine x_callVi (As := [.int a1]) (rest := []) E hI (mf_0 (by decide)) rfl rfl rfl (c_X0_belongs l G _ (M := M) (L := L) (i := 0) (hi := (by decide)) (a1 := a1) g97) yv_X0_belongs ml_X7_144 (by decide) (by decide) rfl rfl hl.1 (Nat.le_of_ble_eq_true rfl) dX7_egg_97 (fun H locs hI => ?_)
              obtain rfl := xinj1 hf
              exact x_iret E hI rfl dX7_egg_100
            · replace hf := xif_f c11_4 hf
              refine x_tsOut hx hb dX7_egg_11 (fun k hk => by
                have hk2 : k = 0 ∨ k = 1 ∨ k = 2 ∨ k = 3 ∨ k = 4 := by
                  have hk3 : k < 5 := hk
                  omega
                rcases hk2 with rfl | rfl | rfl | rfl | rfl
                · exact c11_0
                · exact c11_1
                · exact c11_2
                · exact c11_3
                · exact c11_4) (tgt := 101) (by decide) ?_
              refine lv_iconst (v := -1) hx hb dX7_egg_101 (by decide) ?_
              obtain rfl := xinj1 hf
              exact x_iret E hI rfl dX7_egg_102
  · replace hf := xif_f c5 hf
    refine lv_iconst (v := -1) hx hb dX7_egg_8 (by decide) ?_
    obtain rfl := xinj1 hf
    exact x_iret E hI rfl dX7_egg_9
theorem dX7_now_0 : decode cX7_now 0 = .ok (.iload_n 1, 1) := by decide +kernel
theorem dX7_now_1 : decode cX7_now 1 = .ok (.tableswitch 78 0 4 #[35, 44, 54, 62, 70], 35) := by decide +kernel
theorem dX7_now_36 : decode cX7_now 36 = .ok (.aload_n 0, 1) := by decide +kernel
theorem dX7_now_37 : decode cX7_now 37 = .ok (.getfield 28, 3) := by decide +kernel
theorem dX7_now_40 : decode cX7_now 40 = .ok (.iconst 0, 1) := by decide +kernel
theorem dX7_now_41 : decode cX7_now 41 = .ok (.invokevirtual 125, 3) := by decide +kernel
theorem dX7_now_44 : decode cX7_now 44 = .ok (.ireturn, 1) := by decide +kernel
theorem dX7_now_45 : decode cX7_now 45 = .ok (.aload_n 0, 1) := by decide +kernel
theorem dX7_now_46 : decode cX7_now 46 = .ok (.getfield 28, 3) := by decide +kernel
theorem dX7_now_49 : decode cX7_now 49 = .ok (.bipush 8, 2) := by decide +kernel
theorem dX7_now_51 : decode cX7_now 51 = .ok (.invokevirtual 125, 3) := by decide +kernel
theorem dX7_now_54 : decode cX7_now 54 = .ok (.ireturn, 1) := by decide +kernel
theorem dX7_now_55 : decode cX7_now 55 = .ok (.aload_n 0, 1) := by decide +kernel
theorem dX7_now_56 : decode cX7_now 56 = .ok (.getfield 28, 3) := by decide +kernel
theorem dX7_now_59 : decode cX7_now 59 = .ok (.invokevirtual 147, 3) := by decide +kernel
theorem dX7_now_62 : decode cX7_now 62 = .ok (.ireturn, 1) := by decide +kernel
theorem dX7_now_63 : decode cX7_now 63 = .ok (.aload_n 0, 1) := by decide +kernel
theorem dX7_now_64 : decode cX7_now 64 = .ok (.getfield 28, 3) := by decide +kernel
theorem dX7_now_67 : decode cX7_now 67 = .ok (.invokevirtual 150, 3) := by decide +kernel
theorem dX7_now_70 : decode cX7_now 70 = .ok (.ireturn, 1) := by decide +kernel
theorem dX7_now_71 : decode cX7_now 71 = .ok (.aload_n 0, 1) := by decide +kernel
theorem dX7_now_72 : decode cX7_now 72 = .ok (.getfield 38, 3) := by decide +kernel
theorem dX7_now_75 : decode cX7_now 75 = .ok (.getfield 98, 3) := by decide +kernel
theorem dX7_now_78 : decode cX7_now 78 = .ok (.ireturn, 1) := by decide +kernel
theorem dX7_now_79 : decode cX7_now 79 = .ok (.iconst (-1), 1) := by decide +kernel
theorem dX7_now_80 : decode cX7_now 80 = .ok (.ireturn, 1) := by decide +kernel
def f_X7_now (a1 : Int32) (M : xMem) : Option (Int32) := (if a1 = (0 : Int32) then xb1 (f_X0_eggsAt 0 (0 : Int32) M) (fun r41 => some r41) else (if a1 = (1 : Int32) then xb1 (f_X0_eggsAt 0 (8 : Int32) M) (fun r51 => some r51) else (if a1 = (2 : Int32) then xb1 (f_X0_rightEggs 0 M) (fun r59 => some r59) else (if a1 = (3 : Int32) then xb1 (f_X0_allFallen 0 M) (fun r67 => some r67) else (if a1 = (4 : Int32) then some (M 4 0 2) else some (-1 : Int32))))))
set_option maxHeartbeats 4000000 in
set_option maxRecDepth 100000 in
theorem c_X7_now (l : Launch) (G : xG) (sz : Nat) (M : xMem) (L : xLL) (a1 : Int32) {rr : Int32} (hf : f_X7_now a1 M = some rr) : Met l yX7_now (Cond.code yX7_now cX7_now 2 (some .int) :: xTB) (xR 4) (xP G M L sz [.ref (xq G 0 0), .int a1]) (xQi G rr M L sz) 0 0 (xZ G sz) := by
  refine x_met (cc := cX7_now) (nL := 2) (rt := (some .int)) (by decide) (Nat.le_of_ble_eq_true rfl) ?_
  intro p e s m below meth c ls hsz E hl hI
  subst hsz
  have E : xE p s m _ meth c cX7_now 2 (some .int) RX7 G := E
  have hx := E.1
  have hb := E.2.1
  have hl : lv_has ls 2 [(0, .ref (xq G 0 0)), (1, .int a1)] := hl
  rw [f_X7_now] at hf
  refine lv_iload_n hx hb dX7_now_0 rfl (lv_at hl 1 rfl) ?_
  by_cases c1_0 : a1 = (0 : Int32)
  · replace hf := xif_t c1_0 hf
    refine x_tsIn (off := 35) (tgt := 36) hx hb c1_0 dX7_now_1 (by decide) (by decide) (by decide) (by decide) ?_
    refine lv_aload_n hx hb dX7_now_36 rfl (lv_at hl 0 rfl) ?_
    refine gf_X7_28 E hI dX7_now_37 ?_
    refine lv_iconst (v := 0) hx hb dX7_now_40 (by decide) ?_
    obtain ⟨r41, g41, hf⟩ := xb1_s hf
    refine x_callVi (As := [.int (0 : Int32)]) (rest := []) E hI (mf_0 (by decide)) rfl rfl rfl (c_X0_eggsAt l G _ (M := M) (L := L) (i := 0) (hi := (by decide)) (a1 := (0 : Int32)) g41) yv_X0_eggsAt ml_X7_125 (by decide) (by decide) rfl rfl hl.1 (Nat.le_of_ble_eq_true rfl) dX7_now_41 (fun H locs hI => ?_)
    obtain rfl := xinj1 hf
    exact x_iret E hI rfl dX7_now_44
  · replace hf := xif_f c1_0 hf
    by_cases c1_1 : a1 = (1 : Int32)
    · replace hf := xif_t c1_1 hf
      refine x_tsIn (off := 44) (tgt := 45) hx hb c1_1 dX7_now_1 (by decide) (by decide) (by decide) (by decide) ?_
      refine lv_aload_n hx hb dX7_now_45 rfl (lv_at hl 0 rfl) ?_
      refine gf_X7_28 E hI dX7_now_46 ?_
      refine lv_bipush (v := 8) hx hb dX7_now_49 (by decide) ?_
      obtain ⟨r51, g51, hf⟩ := xb1_s hf
      refine x_callVi (As := [.int (8 : Int32)]) (rest := []) E hI (mf_0 (by decide)) rfl rfl rfl (c_X0_eggsAt l G _ (M := M) (L := L) (i := 0) (hi := (by decide)) (a1 := (8 : Int32)) g51) yv_X0_eggsAt ml_X7_125 (by decide) (by decide) rfl rfl hl.1 (Nat.le_of_ble_eq_true rfl) dX7_now_51 (fun H locs hI => ?_)
      obtain rfl := xinj1 hf
      exact x_iret E hI rfl dX7_now_54
    · replace hf := xif_f c1_1 hf
      by_cases c1_2 : a1 = (2 : Int32)
      · replace hf := xif_t c1_2 hf
        refine x_tsIn (off := 54) (tgt := 55) hx hb c1_2 dX7_now_1 (by decide) (by decide) (by decide) (by decide) ?_
        refine lv_aload_n hx hb dX7_now_55 rfl (lv_at hl 0 rfl) ?_
        refine gf_X7_28 E hI dX7_now_56 ?_
        obtain ⟨r59, g59, hf⟩ := xb1_s hf
        refine x_callVi (As := []) (rest := []) E hI (mf_0 (by decide)) rfl rfl rfl (c_X0_rightEggs l G _ (M := M) (L := L) (i := 0) (hi := (by decide)) g59) yv_X0_rightEggs ml_X7_147 (by decide) (by decide) rfl rfl hl.1 (Nat.le_of_ble_eq_true rfl) dX7_now_59 (fun H locs hI => ?_)
        obtain rfl := xinj1 hf
        exact x_iret E hI rfl dX7_now_62
      · replace hf := xif_f c1_2 hf
        by_cases c1_3 : a1 = (3 : Int32)
        · replace hf := xif_t c1_3 hf
          refine x_tsIn (off := 62) (tgt := 63) hx hb c1_3 dX7_now_1 (by decide) (by decide) (by decide) (by decide) ?_
          refine lv_aload_n hx hb dX7_now_63 rfl (lv_at hl 0 rfl) ?_
          refine gf_X7_28 E hI dX7_now_64 ?_
          obtain ⟨r67, g67, hf⟩ := xb1_s hf
          refine x_callVi (As := []) (rest := []) E hI (mf_0 (by decide)) rfl rfl rfl (c_X0_allFallen l G _ (M := M) (L := L) (i := 0) (hi := (by decide)) g67) yv_X0_allFallen ml_X7_150 (by decide) (by decide) rfl rfl hl.1 (Nat.le_of_ble_eq_true rfl) dX7_now_67 (fun H locs hI => ?_)
          obtain rfl := xinj1 hf
          exact x_iret E hI rfl dX7_now_70
        · replace hf := xif_f c1_3 hf
          by_cases c1_4 : a1 = (4 : Int32)
          · replace hf := xif_t c1_4 hf
            refine x_tsIn (off := 70) (tgt := 71) hx hb c1_4 dX7_now_1 (by decide) (by decide) (by decide) (by decide) ?_
            refine lv_aload_n hx hb dX7_now_71 rfl (lv_at hl 0 rfl) ?_
            refine gf_X7_38 E hI dX7_now_72 ?_
            refine gf_X7_98 E hI dX7_now_75 ?_
            obtain rfl := xinj1 hf
            exact x_iret E hI rfl dX7_now_78
          · replace hf := xif_f c1_4 hf
            refine x_tsOut hx hb dX7_now_1 (fun k hk => by
              have hk2 : k = 0 ∨ k = 1 ∨ k = 2 ∨ k = 3 ∨ k = 4 := by
                have hk3 : k < 5 := hk
                omega
              rcases hk2 with rfl | rfl | rfl | rfl | rfl
              · exact c1_0
              · exact c1_1
              · exact c1_2
              · exact c1_3
              · exact c1_4) (tgt := 79) (by decide) ?_
            refine lv_iconst (v := -1) hx hb dX7_now_79 (by decide) ?_
            obtain rfl := xinj1 hf
            exact x_iret E hI rfl dX7_now_80
theorem dX7_rolls_0 : decode cX7_rolls 0 = .ok (.aload_n 0, 1) := by decide +kernel
theorem dX7_rolls_1 : decode cX7_rolls 1 = .ok (.iload_n 1, 1) := by decide +kernel
theorem dX7_rolls_2 : decode cX7_rolls 2 = .ok (.invokevirtual 128, 3) := by decide +kernel
theorem dX7_rolls_5 : decode cX7_rolls 5 = .ok (.ifCond .eq 5, 3) := by decide +kernel
theorem dX7_rolls_8 : decode cX7_rolls 8 = .ok (.iconst (-1), 1) := by decide +kernel
theorem dX7_rolls_9 : decode cX7_rolls 9 = .ok (.ireturn, 1) := by decide +kernel
theorem dX7_rolls_10 : decode cX7_rolls 10 = .ok (.aload_n 0, 1) := by decide +kernel
theorem dX7_rolls_11 : decode cX7_rolls 11 = .ok (.getfield 28, 3) := by decide +kernel
theorem dX7_rolls_14 : decode cX7_rolls 14 = .ok (.getfield 137, 3) := by decide +kernel
theorem dX7_rolls_17 : decode cX7_rolls 17 = .ok (.iload_n 1, 1) := by decide +kernel
theorem dX7_rolls_18 : decode cX7_rolls 18 = .ok (.iaload, 1) := by decide +kernel
theorem dX7_rolls_19 : decode cX7_rolls 19 = .ok (.ifCond .eq 6, 3) := by decide +kernel
theorem dX7_rolls_22 : decode cX7_rolls 22 = .ok (.bipush (-2), 2) := by decide +kernel
theorem dX7_rolls_24 : decode cX7_rolls 24 = .ok (.ireturn, 1) := by decide +kernel
theorem dX7_rolls_25 : decode cX7_rolls 25 = .ok (.aload_n 0, 1) := by decide +kernel
theorem dX7_rolls_26 : decode cX7_rolls 26 = .ok (.getfield 38, 3) := by decide +kernel
theorem dX7_rolls_29 : decode cX7_rolls 29 = .ok (.aload_n 0, 1) := by decide +kernel
theorem dX7_rolls_30 : decode cX7_rolls 30 = .ok (.getfield 28, 3) := by decide +kernel
theorem dX7_rolls_33 : decode cX7_rolls 33 = .ok (.invokevirtual 153, 3) := by decide +kernel
theorem dX7_rolls_36 : decode cX7_rolls 36 = .ok (.aload_n 0, 1) := by decide +kernel
theorem dX7_rolls_37 : decode cX7_rolls 37 = .ok (.getfield 28, 3) := by decide +kernel
theorem dX7_rolls_40 : decode cX7_rolls 40 = .ok (.iload_n 1, 1) := by decide +kernel
theorem dX7_rolls_41 : decode cX7_rolls 41 = .ok (.invokevirtual 156, 3) := by decide +kernel
theorem dX7_rolls_44 : decode cX7_rolls 44 = .ok (.ireturn, 1) := by decide +kernel
def f_X7_rolls (a1 : Int32) (M : xMem) : Option (Int32 × xMem) := xb1 (f_X7_noEgg a1 M) (fun r2 => (if r2 = (0 : Int32) then xchk (xb a1 6) ((if (M (0 + 9) 2 a1.toNatClampNeg) = (0 : Int32) then xb1 (f_X2_remember 0 M) (fun M33 => xb2 (f_X0_roll 0 a1 M33) (fun r41 M41 => some (r41, M41))) else some ((-2 : Int32), M))) else some ((-1 : Int32), M)))
set_option maxHeartbeats 4000000 in
set_option maxRecDepth 100000 in
theorem c_X7_rolls (l : Launch) (G : xG) (sz : Nat) (M : xMem) (L : xLL) (a1 : Int32) {rr : Int32} {MM : xMem} (hf : f_X7_rolls a1 M = some (rr, MM)) : Met l yX7_rolls (Cond.code yX7_rolls cX7_rolls 2 (some .int) :: xTB) (xR 4) (xP G M L sz [.ref (xq G 0 0), .int a1]) (xQi G rr MM L sz) 0 0 (xZ G sz) := by
  refine x_met (cc := cX7_rolls) (nL := 2) (rt := (some .int)) (by decide) (Nat.le_of_ble_eq_true rfl) ?_
  intro p e s m below meth c ls hsz E hl hI
  subst hsz
  have E : xE p s m _ meth c cX7_rolls 2 (some .int) RX7 G := E
  have hx := E.1
  have hb := E.2.1
  have hl : lv_has ls 2 [(0, .ref (xq G 0 0)), (1, .int a1)] := hl
  rw [f_X7_rolls] at hf
  refine lv_aload_n hx hb dX7_rolls_0 rfl (lv_at hl 0 rfl) ?_
  refine lv_iload_n hx hb dX7_rolls_1 rfl (lv_at hl 1 rfl) ?_
  obtain ⟨r2, g2, hf⟩ := xb1_s hf
  refine x_callVi (As := [.int a1]) (rest := []) E hI mx_0_0 rfl rfl rfl (c_X7_noEgg l G _ (M := M) (L := L) (a1 := a1) g2) yv_X7_noEgg ml_X7_128 (by decide) (by decide) rfl rfl hl.1 (Nat.le_of_ble_eq_true rfl) dX7_rolls_2 (fun H locs hI => ?_)
  refine lv_if_eq (tgt := 10) hx hb dX7_rolls_5 (by decide) (fun c5 => ?_) (fun c5 => ?_)
  · replace hf := xif_t c5 hf
    refine lv_aload_n hx hb dX7_rolls_10 rfl (lv_at hl 0 rfl) ?_
    refine gf_X7_28 E hI dX7_rolls_11 ?_
    refine gf_X7_137 E hI (by decide) dX7_rolls_14 ?_
    refine lv_iload_n hx hb dX7_rolls_17 rfl (lv_at hl 1 rfl) ?_
    obtain ⟨h18b, hf⟩ := xchk_s hf
    refine x_iald (n := 6) E hI (mf_2 (by decide)) (fun _ _ => rfl) h18b dX7_rolls_18 ?_
    refine lv_if_eq (tgt := 25) hx hb dX7_rolls_19 (by decide) (fun c19 => ?_) (fun c19 => ?_)
    · replace hf := xif_t c19 hf
      refine lv_aload_n hx hb dX7_rolls_25 rfl (lv_at hl 0 rfl) ?_
      refine gf_X7_38 E hI dX7_rolls_26 ?_
      refine lv_aload_n hx hb dX7_rolls_29 rfl (lv_at hl 0 rfl) ?_
      refine gf_X7_28 E hI dX7_rolls_30 ?_
      obtain ⟨M33, g33, hf⟩ := xb1_s hf
      refine x_callVv (As := [.ref (xq G (0 + 9) 0)]) (rest := []) E hI mx_4_0 rfl rfl rfl (c_X2_remember l G _ (M := M) (L := L) (j1 := 0) (hj1 := (by decide)) g33) yv_X2_remember ml_X7_153 (by decide) (by decide) rfl rfl hl.1 (Nat.le_of_ble_eq_true rfl) dX7_rolls_33 (fun H locs hI => ?_)
      refine lv_aload_n hx hb dX7_rolls_36 rfl (lv_at hl 0 rfl) ?_
      refine gf_X7_28 E hI dX7_rolls_37 ?_
      refine lv_iload_n hx hb dX7_rolls_40 rfl (lv_at hl 1 rfl) ?_
      obtain ⟨r41, M41, g41, hf⟩ := xb2_s hf
      refine x_callVi (As := [.int a1]) (rest := []) E hI (mf_0 (by decide)) rfl rfl rfl (c_X0_roll l G _ (M := M33) (L := L) (i := 0) (hi := (by decide)) (a1 := a1) g41) yv_X0_roll ml_X7_156 (by decide) (by decide) rfl rfl hl.1 (Nat.le_of_ble_eq_true rfl) dX7_rolls_41 (fun H locs hI => ?_)
      obtain ⟨rfl, rfl⟩ := xinj2 hf
      exact x_iret E hI rfl dX7_rolls_44
    · replace hf := xif_f c19 hf
      refine lv_bipush (v := -2) hx hb dX7_rolls_22 (by decide) ?_
      obtain ⟨rfl, rfl⟩ := xinj2 hf
      exact x_iret E hI rfl dX7_rolls_24
  · replace hf := xif_f c5 hf
    refine lv_iconst (v := -1) hx hb dX7_rolls_8 (by decide) ?_
    obtain ⟨rfl, rfl⟩ := xinj2 hf
    exact x_iret E hI rfl dX7_rolls_9
theorem dX7_takes_0 : decode cX7_takes 0 = .ok (.aload_n 0, 1) := by decide +kernel
theorem dX7_takes_1 : decode cX7_takes 1 = .ok (.iload_n 1, 1) := by decide +kernel
theorem dX7_takes_2 : decode cX7_takes 2 = .ok (.invokevirtual 128, 3) := by decide +kernel
theorem dX7_takes_5 : decode cX7_takes 5 = .ok (.ifCond .eq 5, 3) := by decide +kernel
theorem dX7_takes_8 : decode cX7_takes 8 = .ok (.iconst (-1), 1) := by decide +kernel
theorem dX7_takes_9 : decode cX7_takes 9 = .ok (.ireturn, 1) := by decide +kernel
theorem dX7_takes_10 : decode cX7_takes 10 = .ok (.aload_n 0, 1) := by decide +kernel
theorem dX7_takes_11 : decode cX7_takes 11 = .ok (.getfield 28, 3) := by decide +kernel
theorem dX7_takes_14 : decode cX7_takes 14 = .ok (.getfield 137, 3) := by decide +kernel
theorem dX7_takes_17 : decode cX7_takes 17 = .ok (.iload_n 1, 1) := by decide +kernel
theorem dX7_takes_18 : decode cX7_takes 18 = .ok (.iaload, 1) := by decide +kernel
theorem dX7_takes_19 : decode cX7_takes 19 = .ok (.ifCond .eq 17, 3) := by decide +kernel
theorem dX7_takes_22 : decode cX7_takes 22 = .ok (.aload_n 0, 1) := by decide +kernel
theorem dX7_takes_23 : decode cX7_takes 23 = .ok (.getfield 28, 3) := by decide +kernel
theorem dX7_takes_26 : decode cX7_takes 26 = .ok (.getfield 137, 3) := by decide +kernel
theorem dX7_takes_29 : decode cX7_takes 29 = .ok (.iload_n 1, 1) := by decide +kernel
theorem dX7_takes_30 : decode cX7_takes 30 = .ok (.iaload, 1) := by decide +kernel
theorem dX7_takes_31 : decode cX7_takes 31 = .ok (.bipush 9, 2) := by decide +kernel
theorem dX7_takes_33 : decode cX7_takes 33 = .ok (.if_icmp .ne 6, 3) := by decide +kernel
theorem dX7_takes_36 : decode cX7_takes 36 = .ok (.bipush (-2), 2) := by decide +kernel
theorem dX7_takes_38 : decode cX7_takes 38 = .ok (.ireturn, 1) := by decide +kernel
theorem dX7_takes_39 : decode cX7_takes 39 = .ok (.aload_n 0, 1) := by decide +kernel
theorem dX7_takes_40 : decode cX7_takes 40 = .ok (.getfield 38, 3) := by decide +kernel
theorem dX7_takes_43 : decode cX7_takes 43 = .ok (.aload_n 0, 1) := by decide +kernel
theorem dX7_takes_44 : decode cX7_takes 44 = .ok (.getfield 28, 3) := by decide +kernel
theorem dX7_takes_47 : decode cX7_takes 47 = .ok (.invokevirtual 153, 3) := by decide +kernel
theorem dX7_takes_50 : decode cX7_takes 50 = .ok (.aload_n 0, 1) := by decide +kernel
theorem dX7_takes_51 : decode cX7_takes 51 = .ok (.getfield 28, 3) := by decide +kernel
theorem dX7_takes_54 : decode cX7_takes 54 = .ok (.getfield 137, 3) := by decide +kernel
theorem dX7_takes_57 : decode cX7_takes 57 = .ok (.iload_n 1, 1) := by decide +kernel
theorem dX7_takes_58 : decode cX7_takes 58 = .ok (.iconst 0, 1) := by decide +kernel
theorem dX7_takes_59 : decode cX7_takes 59 = .ok (.iastore, 1) := by decide +kernel
theorem dX7_takes_60 : decode cX7_takes 60 = .ok (.aload_n 0, 1) := by decide +kernel
theorem dX7_takes_61 : decode cX7_takes 61 = .ok (.getfield 28, 3) := by decide +kernel
theorem dX7_takes_64 : decode cX7_takes 64 = .ok (.iconst 0, 1) := by decide +kernel
theorem dX7_takes_65 : decode cX7_takes 65 = .ok (.invokevirtual 159, 3) := by decide +kernel
theorem dX7_takes_68 : decode cX7_takes 68 = .ok (.ireturn, 1) := by decide +kernel
def f_X7_takes_b36 (M : xMem) : Option (Int32 × xMem) := some ((-2 : Int32), M)
def f_X7_takes (a1 : Int32) (M : xMem) : Option (Int32 × xMem) := xb1 (f_X7_noEgg a1 M) (fun r2 => (if r2 = (0 : Int32) then xchk (xb a1 6) ((if (M (0 + 9) 2 a1.toNatClampNeg) = (0 : Int32) then (f_X7_takes_b36 M) else xchk (xb a1 6) ((if (M (0 + 9) 2 a1.toNatClampNeg) = (9 : Int32) then (f_X7_takes_b36 M) else xb1 (f_X2_remember 0 M) (fun M47 => xchk (xb a1 6) (xlet (xst M47 (0 + 9) 2 a1 (0 : Int32)) (fun M59 => xb1 (f_X0_howManyAt 0 (0 : Int32) M59) (fun r65 => some (r65, M59))))))))) else some ((-1 : Int32), M)))
set_option maxHeartbeats 4000000 in
set_option maxRecDepth 100000 in
theorem w_X7_takes_b36 {p : Program} {l : Launch} {e : Env} {s : State} {m : MethodId} {args : Array Value} {below : List Frame} {meth : Method} {c : Code} {G : xG} {rr : Int32} {MM : xMem} (E : xE p s m args meth c cX7_takes 2 (some .int) RX7 G) (M : xMem) (L : xLL) : f_X7_takes_b36 M  = some (rr, MM) → ∀ (ls : Array Slot), lv_has ls 2 [] → ∀ (H : Heap) (locs : List Loc), xI G M L s.heap H locs → W p l e (xR 3) s m args below meth c H locs 0 0 (MQ below (xQi G rr MM L s.heap.size) args s 0 0 (xZ G s.heap.size)) (F0 m 36 ls []) := by
  have hx := E.1
  have hb := E.2.1
  intro  hf ls hl H locs hI
  rw [f_X7_takes_b36] at hf
  refine lv_bipush (v := -2) hx hb dX7_takes_36 (by decide) ?_
  obtain ⟨rfl, rfl⟩ := xinj2 hf
  exact x_iret E hI rfl dX7_takes_38
set_option maxHeartbeats 4000000 in
set_option maxRecDepth 100000 in
theorem c_X7_takes (l : Launch) (G : xG) (sz : Nat) (M : xMem) (L : xLL) (a1 : Int32) {rr : Int32} {MM : xMem} (hf : f_X7_takes a1 M = some (rr, MM)) : Met l yX7_takes (Cond.code yX7_takes cX7_takes 2 (some .int) :: xTB) (xR 3) (xP G M L sz [.ref (xq G 0 0), .int a1]) (xQi G rr MM L sz) 0 0 (xZ G sz) := by
  refine x_met (cc := cX7_takes) (nL := 2) (rt := (some .int)) (by decide) (Nat.le_of_ble_eq_true rfl) ?_
  intro p e s m below meth c ls hsz E hl hI
  subst hsz
  have E : xE p s m _ meth c cX7_takes 2 (some .int) RX7 G := E
  have hx := E.1
  have hb := E.2.1
  have hl : lv_has ls 2 [(0, .ref (xq G 0 0)), (1, .int a1)] := hl
  rw [f_X7_takes] at hf
  refine lv_aload_n hx hb dX7_takes_0 rfl (lv_at hl 0 rfl) ?_
  refine lv_iload_n hx hb dX7_takes_1 rfl (lv_at hl 1 rfl) ?_
  obtain ⟨r2, g2, hf⟩ := xb1_s hf
  refine x_callVi (As := [.int a1]) (rest := []) E hI mx_0_0 rfl rfl rfl (c_X7_noEgg l G _ (M := M) (L := L) (a1 := a1) g2) yv_X7_noEgg ml_X7_128 (by decide) (by decide) rfl rfl hl.1 (Nat.le_of_ble_eq_true rfl) dX7_takes_2 (fun H locs hI => ?_)
  refine lv_if_eq (tgt := 10) hx hb dX7_takes_5 (by decide) (fun c5 => ?_) (fun c5 => ?_)
  · replace hf := xif_t c5 hf
    refine lv_aload_n hx hb dX7_takes_10 rfl (lv_at hl 0 rfl) ?_
    refine gf_X7_28 E hI dX7_takes_11 ?_
    refine gf_X7_137 E hI (by decide) dX7_takes_14 ?_
    refine lv_iload_n hx hb dX7_takes_17 rfl (lv_at hl 1 rfl) ?_
    obtain ⟨h18b, hf⟩ := xchk_s hf
    refine x_iald (n := 6) E hI (mf_2 (by decide)) (fun _ _ => rfl) h18b dX7_takes_18 ?_
    refine lv_if_eq (tgt := 36) hx hb dX7_takes_19 (by decide) (fun c19 => ?_) (fun c19 => ?_)
    · replace hf := xif_t c19 hf
      exact (w_X7_takes_b36 E (M := M) (L := L))  hf _ (lv_sub hl [] rfl) _ _ hI
    · replace hf := xif_f c19 hf
      refine lv_aload_n hx hb dX7_takes_22 rfl (lv_at hl 0 rfl) ?_
      refine gf_X7_28 E hI dX7_takes_23 ?_
      refine gf_X7_137 E hI (by decide) dX7_takes_26 ?_
      refine lv_iload_n hx hb dX7_takes_29 rfl (lv_at hl 1 rfl) ?_
      obtain ⟨h30b, hf⟩ := xchk_s hf
      refine x_iald (n := 6) E hI (mf_2 (by decide)) (fun _ _ => rfl) h30b dX7_takes_30 ?_
      refine lv_bipush (v := 9) hx hb dX7_takes_31 (by decide) ?_
      refine lv_icmp_ne (tgt := 39) hx hb dX7_takes_33 (by decide) (fun c33 => ?_) (fun c33 => ?_)
      · replace hf := xif_f c33 hf
        refine lv_aload_n hx hb dX7_takes_39 rfl (lv_at hl 0 rfl) ?_
        refine gf_X7_38 E hI dX7_takes_40 ?_
        refine lv_aload_n hx hb dX7_takes_43 rfl (lv_at hl 0 rfl) ?_
        refine gf_X7_28 E hI dX7_takes_44 ?_
        obtain ⟨M47, g47, hf⟩ := xb1_s hf
        refine x_callVv (As := [.ref (xq G (0 + 9) 0)]) (rest := []) E hI mx_4_0 rfl rfl rfl (c_X2_remember l G _ (M := M) (L := L) (j1 := 0) (hj1 := (by decide)) g47) yv_X2_remember ml_X7_153 (by decide) (by decide) rfl rfl hl.1 (Nat.le_of_ble_eq_true rfl) dX7_takes_47 (fun H locs hI => ?_)
        refine lv_aload_n hx hb dX7_takes_50 rfl (lv_at hl 0 rfl) ?_
        refine gf_X7_28 E hI dX7_takes_51 ?_
        refine gf_X7_137 E hI (by decide) dX7_takes_54 ?_
        refine lv_iload_n hx hb dX7_takes_57 rfl (lv_at hl 1 rfl) ?_
        refine lv_iconst (v := 0) hx hb dX7_takes_58 (by decide) ?_
        obtain ⟨h59b, hf⟩ := xchk_s hf
        obtain ⟨M59, e59, hf⟩ := xlet_s hf
        refine x_iast (n := 6) E hI (mf_2 (by decide)) (fun _ _ => rfl) h59b dX7_takes_59 e59 (fun H locs hI => ?_)
        refine lv_aload_n hx hb dX7_takes_60 rfl (lv_at hl 0 rfl) ?_
        refine gf_X7_28 E hI dX7_takes_61 ?_
        refine lv_iconst (v := 0) hx hb dX7_takes_64 (by decide) ?_
        obtain ⟨r65, g65, hf⟩ := xb1_s hf
        refine x_callVi (As := [.int (0 : Int32)]) (rest := []) E hI (mf_0 (by decide)) rfl rfl rfl (c_X0_howManyAt l G _ (M := M59) (L := L) (i := 0) (hi := (by decide)) (a1 := (0 : Int32)) g65) yv_X0_howManyAt ml_X7_159 (by decide) (by decide) rfl rfl hl.1 (Nat.le_of_ble_eq_true rfl) dX7_takes_65 (fun H locs hI => ?_)
        obtain ⟨rfl, rfl⟩ := xinj2 hf
        exact x_iret E hI rfl dX7_takes_68
      · replace hf := xif_t c33 hf
        exact (w_X7_takes_b36 E (M := M) (L := L))  hf _ (lv_sub hl [] rfl) _ _ hI
  · replace hf := xif_f c5 hf
    refine lv_iconst (v := -1) hx hb dX7_takes_8 (by decide) ?_
    obtain ⟨rfl, rfl⟩ := xinj2 hf
    exact x_iret E hI rfl dX7_takes_9
theorem dX7_wipes_0 : decode cX7_wipes 0 = .ok (.aload_n 0, 1) := by decide +kernel
theorem dX7_wipes_1 : decode cX7_wipes 1 = .ok (.iload_n 1, 1) := by decide +kernel
theorem dX7_wipes_2 : decode cX7_wipes 2 = .ok (.invokevirtual 104, 3) := by decide +kernel
theorem dX7_wipes_5 : decode cX7_wipes 5 = .ok (.ifCond .eq 5, 3) := by decide +kernel
theorem dX7_wipes_8 : decode cX7_wipes 8 = .ok (.iconst (-1), 1) := by decide +kernel
theorem dX7_wipes_9 : decode cX7_wipes 9 = .ok (.ireturn, 1) := by decide +kernel
theorem dX7_wipes_10 : decode cX7_wipes 10 = .ok (.aload_n 0, 1) := by decide +kernel
theorem dX7_wipes_11 : decode cX7_wipes 11 = .ok (.getfield 28, 3) := by decide +kernel
theorem dX7_wipes_14 : decode cX7_wipes 14 = .ok (.getfield 118, 3) := by decide +kernel
theorem dX7_wipes_17 : decode cX7_wipes 17 = .ok (.iload_n 1, 1) := by decide +kernel
theorem dX7_wipes_18 : decode cX7_wipes 18 = .ok (.iaload, 1) := by decide +kernel
theorem dX7_wipes_19 : decode cX7_wipes 19 = .ok (.istore_n 2, 1) := by decide +kernel
theorem dX7_wipes_20 : decode cX7_wipes 20 = .ok (.iload_n 2, 1) := by decide +kernel
theorem dX7_wipes_21 : decode cX7_wipes 21 = .ok (.ifCond .ne 6, 3) := by decide +kernel
theorem dX7_wipes_24 : decode cX7_wipes 24 = .ok (.bipush (-2), 2) := by decide +kernel
theorem dX7_wipes_26 : decode cX7_wipes 26 = .ok (.ireturn, 1) := by decide +kernel
theorem dX7_wipes_27 : decode cX7_wipes 27 = .ok (.aload_n 0, 1) := by decide +kernel
theorem dX7_wipes_28 : decode cX7_wipes 28 = .ok (.getfield 38, 3) := by decide +kernel
theorem dX7_wipes_31 : decode cX7_wipes 31 = .ok (.aload_n 0, 1) := by decide +kernel
theorem dX7_wipes_32 : decode cX7_wipes 32 = .ok (.getfield 28, 3) := by decide +kernel
theorem dX7_wipes_35 : decode cX7_wipes 35 = .ok (.invokevirtual 153, 3) := by decide +kernel
theorem dX7_wipes_38 : decode cX7_wipes 38 = .ok (.aload_n 0, 1) := by decide +kernel
theorem dX7_wipes_39 : decode cX7_wipes 39 = .ok (.getfield 28, 3) := by decide +kernel
theorem dX7_wipes_42 : decode cX7_wipes 42 = .ok (.getfield 118, 3) := by decide +kernel
theorem dX7_wipes_45 : decode cX7_wipes 45 = .ok (.iload_n 1, 1) := by decide +kernel
theorem dX7_wipes_46 : decode cX7_wipes 46 = .ok (.iconst 0, 1) := by decide +kernel
theorem dX7_wipes_47 : decode cX7_wipes 47 = .ok (.iastore, 1) := by decide +kernel
theorem dX7_wipes_48 : decode cX7_wipes 48 = .ok (.iload_n 2, 1) := by decide +kernel
theorem dX7_wipes_49 : decode cX7_wipes 49 = .ok (.ireturn, 1) := by decide +kernel
def f_X7_wipes (a1 : Int32) (M : xMem) : Option (Int32 × xMem) := xb1 (f_X7_noScale a1 M) (fun r2 => (if r2 = (0 : Int32) then xchk (xb a1 5) ((if (M (0 + 9) 6 a1.toNatClampNeg) = (0 : Int32) then some ((-2 : Int32), M) else xb1 (f_X2_remember 0 M) (fun M35 => xchk (xb a1 5) (xlet (xst M35 (0 + 9) 6 a1 (0 : Int32)) (fun M47 => some ((M (0 + 9) 6 a1.toNatClampNeg), M47)))))) else some ((-1 : Int32), M)))
set_option maxHeartbeats 4000000 in
set_option maxRecDepth 100000 in
theorem c_X7_wipes (l : Launch) (G : xG) (sz : Nat) (M : xMem) (L : xLL) (a1 : Int32) {rr : Int32} {MM : xMem} (hf : f_X7_wipes a1 M = some (rr, MM)) : Met l yX7_wipes (Cond.code yX7_wipes cX7_wipes 3 (some .int) :: xTB) (xR 3) (xP G M L sz [.ref (xq G 0 0), .int a1]) (xQi G rr MM L sz) 0 0 (xZ G sz) := by
  refine x_met (cc := cX7_wipes) (nL := 3) (rt := (some .int)) (by decide) (Nat.le_of_ble_eq_true rfl) ?_
  intro p e s m below meth c ls hsz E hl hI
  subst hsz
  have E : xE p s m _ meth c cX7_wipes 3 (some .int) RX7 G := E
  have hx := E.1
  have hb := E.2.1
  have hl : lv_has ls 3 [(0, .ref (xq G 0 0)), (1, .int a1)] := hl
  rw [f_X7_wipes] at hf
  refine lv_aload_n hx hb dX7_wipes_0 rfl (lv_at hl 0 rfl) ?_
  refine lv_iload_n hx hb dX7_wipes_1 rfl (lv_at hl 1 rfl) ?_
  obtain ⟨r2, g2, hf⟩ := xb1_s hf
  refine x_callVi (As := [.int a1]) (rest := []) E hI mx_0_0 rfl rfl rfl (c_X7_noScale l G _ (M := M) (L := L) (a1 := a1) g2) yv_X7_noScale ml_X7_104 (by decide) (by decide) rfl rfl hl.1 (Nat.le_of_ble_eq_true rfl) dX7_wipes_2 (fun H locs hI => ?_)
  refine lv_if_eq (tgt := 10) hx hb dX7_wipes_5 (by decide) (fun c5 => ?_) (fun c5 => ?_)
  · replace hf := xif_t c5 hf
    refine lv_aload_n hx hb dX7_wipes_10 rfl (lv_at hl 0 rfl) ?_
    refine gf_X7_28 E hI dX7_wipes_11 ?_
    refine gf_X7_118 E hI (by decide) dX7_wipes_14 ?_
    refine lv_iload_n hx hb dX7_wipes_17 rfl (lv_at hl 1 rfl) ?_
    obtain ⟨h18b, hf⟩ := xchk_s hf
    refine x_iald (n := 5) E hI (mf_6 (by decide)) (fun _ _ => rfl) h18b dX7_wipes_18 ?_
    refine lv_istore_n (lv' := [(2, .int (M (0 + 9) 6 a1.toNatClampNeg)), (0, .ref (xq G 0 0)), (1, .int a1)]) hx hb dX7_wipes_19 rfl hl (by decide) rfl (fun ls hl => ?_)
    refine lv_iload_n hx hb dX7_wipes_20 rfl (lv_at hl 0 rfl) ?_
    refine lv_if_ne (tgt := 27) hx hb dX7_wipes_21 (by decide) (fun c21 => ?_) (fun c21 => ?_)
    · replace hf := xif_f c21 hf
      refine lv_aload_n hx hb dX7_wipes_27 rfl (lv_at hl 1 rfl) ?_
      refine gf_X7_38 E hI dX7_wipes_28 ?_
      refine lv_aload_n hx hb dX7_wipes_31 rfl (lv_at hl 1 rfl) ?_
      refine gf_X7_28 E hI dX7_wipes_32 ?_
      obtain ⟨M35, g35, hf⟩ := xb1_s hf
      refine x_callVv (As := [.ref (xq G (0 + 9) 0)]) (rest := []) E hI mx_4_0 rfl rfl rfl (c_X2_remember l G _ (M := M) (L := L) (j1 := 0) (hj1 := (by decide)) g35) yv_X2_remember ml_X7_153 (by decide) (by decide) rfl rfl hl.1 (Nat.le_of_ble_eq_true rfl) dX7_wipes_35 (fun H locs hI => ?_)
      refine lv_aload_n hx hb dX7_wipes_38 rfl (lv_at hl 1 rfl) ?_
      refine gf_X7_28 E hI dX7_wipes_39 ?_
      refine gf_X7_118 E hI (by decide) dX7_wipes_42 ?_
      refine lv_iload_n hx hb dX7_wipes_45 rfl (lv_at hl 2 rfl) ?_
      refine lv_iconst (v := 0) hx hb dX7_wipes_46 (by decide) ?_
      obtain ⟨h47b, hf⟩ := xchk_s hf
      obtain ⟨M47, e47, hf⟩ := xlet_s hf
      refine x_iast (n := 5) E hI (mf_6 (by decide)) (fun _ _ => rfl) h47b dX7_wipes_47 e47 (fun H locs hI => ?_)
      refine lv_iload_n hx hb dX7_wipes_48 rfl (lv_at hl 0 rfl) ?_
      obtain ⟨rfl, rfl⟩ := xinj2 hf
      exact x_iret E hI rfl dX7_wipes_49
    · replace hf := xif_t c21 hf
      refine lv_bipush (v := -2) hx hb dX7_wipes_24 (by decide) ?_
      obtain ⟨rfl, rfl⟩ := xinj2 hf
      exact x_iret E hI rfl dX7_wipes_26
  · replace hf := xif_f c5 hf
    refine lv_iconst (v := -1) hx hb dX7_wipes_8 (by decide) ?_
    obtain ⟨rfl, rfl⟩ := xinj2 hf
    exact x_iret E hI rfl dX7_wipes_9
theorem dX7_sets_0 : decode cX7_sets 0 = .ok (.aload_n 0, 1) := by decide +kernel
theorem dX7_sets_1 : decode cX7_sets 1 = .ok (.iload_n 1, 1) := by decide +kernel
theorem dX7_sets_2 : decode cX7_sets 2 = .ok (.invokevirtual 104, 3) := by decide +kernel
theorem dX7_sets_5 : decode cX7_sets 5 = .ok (.ifCond .ne 13, 3) := by decide +kernel
theorem dX7_sets_8 : decode cX7_sets 8 = .ok (.iload_n 2, 1) := by decide +kernel
theorem dX7_sets_9 : decode cX7_sets 9 = .ok (.iconst 1, 1) := by decide +kernel
theorem dX7_sets_10 : decode cX7_sets 10 = .ok (.bipush 99, 2) := by decide +kernel
theorem dX7_sets_12 : decode cX7_sets 12 = .ok (.invokestatic 73, 3) := by decide +kernel
theorem dX7_sets_15 : decode cX7_sets 15 = .ok (.ifCond .eq 5, 3) := by decide +kernel
theorem dX7_sets_18 : decode cX7_sets 18 = .ok (.iconst (-1), 1) := by decide +kernel
theorem dX7_sets_19 : decode cX7_sets 19 = .ok (.ireturn, 1) := by decide +kernel
theorem dX7_sets_20 : decode cX7_sets 20 = .ok (.aload_n 0, 1) := by decide +kernel
theorem dX7_sets_21 : decode cX7_sets 21 = .ok (.getfield 28, 3) := by decide +kernel
theorem dX7_sets_24 : decode cX7_sets 24 = .ok (.getfield 108, 3) := by decide +kernel
theorem dX7_sets_27 : decode cX7_sets 27 = .ok (.iload_n 1, 1) := by decide +kernel
theorem dX7_sets_28 : decode cX7_sets 28 = .ok (.iaload, 1) := by decide +kernel
theorem dX7_sets_29 : decode cX7_sets 29 = .ok (.istore_n 3, 1) := by decide +kernel
theorem dX7_sets_30 : decode cX7_sets 30 = .ok (.iload_n 3, 1) := by decide +kernel
theorem dX7_sets_31 : decode cX7_sets 31 = .ok (.iload_n 2, 1) := by decide +kernel
theorem dX7_sets_32 : decode cX7_sets 32 = .ok (.if_icmp .ne 6, 3) := by decide +kernel
theorem dX7_sets_35 : decode cX7_sets 35 = .ok (.bipush (-2), 2) := by decide +kernel
theorem dX7_sets_37 : decode cX7_sets 37 = .ok (.ireturn, 1) := by decide +kernel
theorem dX7_sets_38 : decode cX7_sets 38 = .ok (.aload_n 0, 1) := by decide +kernel
theorem dX7_sets_39 : decode cX7_sets 39 = .ok (.getfield 38, 3) := by decide +kernel
theorem dX7_sets_42 : decode cX7_sets 42 = .ok (.aload_n 0, 1) := by decide +kernel
theorem dX7_sets_43 : decode cX7_sets 43 = .ok (.getfield 28, 3) := by decide +kernel
theorem dX7_sets_46 : decode cX7_sets 46 = .ok (.invokevirtual 153, 3) := by decide +kernel
theorem dX7_sets_49 : decode cX7_sets 49 = .ok (.aload_n 0, 1) := by decide +kernel
theorem dX7_sets_50 : decode cX7_sets 50 = .ok (.getfield 28, 3) := by decide +kernel
theorem dX7_sets_53 : decode cX7_sets 53 = .ok (.getfield 108, 3) := by decide +kernel
theorem dX7_sets_56 : decode cX7_sets 56 = .ok (.iload_n 1, 1) := by decide +kernel
theorem dX7_sets_57 : decode cX7_sets 57 = .ok (.iload_n 2, 1) := by decide +kernel
theorem dX7_sets_58 : decode cX7_sets 58 = .ok (.iastore, 1) := by decide +kernel
theorem dX7_sets_59 : decode cX7_sets 59 = .ok (.iload_n 3, 1) := by decide +kernel
theorem dX7_sets_60 : decode cX7_sets 60 = .ok (.ireturn, 1) := by decide +kernel
def f_X7_sets_b18 (M : xMem) : Option (Int32 × xMem) := some ((-1 : Int32), M)
def f_X7_sets (a1 : Int32) (a2 : Int32) (M : xMem) : Option (Int32 × xMem) := xb1 (f_X7_noScale a1 M) (fun r2 => (if r2 = (0 : Int32) then xb1 (f_X7_beyond a2 (1 : Int32) (99 : Int32) M) (fun r12 => (if r12 = (0 : Int32) then xchk (xb a1 5) ((if (M (0 + 9) 4 a1.toNatClampNeg) = a2 then some ((-2 : Int32), M) else xb1 (f_X2_remember 0 M) (fun M46 => xchk (xb a1 5) (xlet (xst M46 (0 + 9) 4 a1 a2) (fun M58 => some ((M (0 + 9) 4 a1.toNatClampNeg), M58)))))) else (f_X7_sets_b18 M))) else (f_X7_sets_b18 M)))
set_option maxHeartbeats 4000000 in
set_option maxRecDepth 100000 in
theorem w_X7_sets_b18 {p : Program} {l : Launch} {e : Env} {s : State} {m : MethodId} {args : Array Value} {below : List Frame} {meth : Method} {c : Code} {G : xG} {rr : Int32} {MM : xMem} (E : xE p s m args meth c cX7_sets 4 (some .int) RX7 G) (M : xMem) (L : xLL) : f_X7_sets_b18 M  = some (rr, MM) → ∀ (ls : Array Slot), lv_has ls 4 [] → ∀ (H : Heap) (locs : List Loc), xI G M L s.heap H locs → W p l e (xR 3) s m args below meth c H locs 0 0 (MQ below (xQi G rr MM L s.heap.size) args s 0 0 (xZ G s.heap.size)) (F0 m 18 ls []) := by
  have hx := E.1
  have hb := E.2.1
  intro  hf ls hl H locs hI
  rw [f_X7_sets_b18] at hf
  refine lv_iconst (v := -1) hx hb dX7_sets_18 (by decide) ?_
  obtain ⟨rfl, rfl⟩ := xinj2 hf
  exact x_iret E hI rfl dX7_sets_19
set_option maxHeartbeats 4000000 in
set_option maxRecDepth 100000 in
theorem c_X7_sets (l : Launch) (G : xG) (sz : Nat) (M : xMem) (L : xLL) (a1 : Int32) (a2 : Int32) {rr : Int32} {MM : xMem} (hf : f_X7_sets a1 a2 M = some (rr, MM)) : Met l yX7_sets (Cond.code yX7_sets cX7_sets 4 (some .int) :: xTB) (xR 3) (xP G M L sz [.ref (xq G 0 0), .int a1, .int a2]) (xQi G rr MM L sz) 0 0 (xZ G sz) := by
  refine x_met (cc := cX7_sets) (nL := 4) (rt := (some .int)) (by decide) (Nat.le_of_ble_eq_true rfl) ?_
  intro p e s m below meth c ls hsz E hl hI
  subst hsz
  have E : xE p s m _ meth c cX7_sets 4 (some .int) RX7 G := E
  have hx := E.1
  have hb := E.2.1
  have hl : lv_has ls 4 [(0, .ref (xq G 0 0)), (1, .int a1), (2, .int a2)] := hl
  rw [f_X7_sets] at hf
  refine lv_aload_n hx hb dX7_sets_0 rfl (lv_at hl 0 rfl) ?_
  refine lv_iload_n hx hb dX7_sets_1 rfl (lv_at hl 1 rfl) ?_
  obtain ⟨r2, g2, hf⟩ := xb1_s hf
  refine x_callVi (As := [.int a1]) (rest := []) E hI mx_0_0 rfl rfl rfl (c_X7_noScale l G _ (M := M) (L := L) (a1 := a1) g2) yv_X7_noScale ml_X7_104 (by decide) (by decide) rfl rfl hl.1 (Nat.le_of_ble_eq_true rfl) dX7_sets_2 (fun H locs hI => ?_)
  refine lv_if_ne (tgt := 18) hx hb dX7_sets_5 (by decide) (fun c5 => ?_) (fun c5 => ?_)
  · replace hf := xif_f c5 hf
    exact (w_X7_sets_b18 E (M := M) (L := L))  hf _ (lv_sub hl [] rfl) _ _ hI
  · replace hf := xif_t c5 hf
    refine lv_iload_n hx hb dX7_sets_8 rfl (lv_at hl 2 rfl) ?_
    refine lv_iconst (v := 1) hx hb dX7_sets_9 (by decide) ?_
    refine lv_bipush (v := 99) hx hb dX7_sets_10 (by decide) ?_
    obtain ⟨r12, g12, hf⟩ := xb1_s hf
    refine x_callSi (As := [.int a2, .int (1 : Int32), .int (99 : Int32)]) (rest := []) E hI (c_X7_beyond l G _ (M := M) (L := L) (a0 := a2) (a1 := (1 : Int32)) (a2 := (99 : Int32)) g12) ys_X7_beyond ml_X7_73 (by decide) (by decide) rfl rfl hl.1 (Nat.le_of_ble_eq_true rfl) dX7_sets_12 (fun H locs hI => ?_)
    refine lv_if_eq (tgt := 20) hx hb dX7_sets_15 (by decide) (fun c15 => ?_) (fun c15 => ?_)
    · replace hf := xif_t c15 hf
      refine lv_aload_n hx hb dX7_sets_20 rfl (lv_at hl 0 rfl) ?_
      refine gf_X7_28 E hI dX7_sets_21 ?_
      refine gf_X7_108 E hI (by decide) dX7_sets_24 ?_
      refine lv_iload_n hx hb dX7_sets_27 rfl (lv_at hl 1 rfl) ?_
      obtain ⟨h28b, hf⟩ := xchk_s hf
      refine x_iald (n := 5) E hI (mf_4 (by decide)) (fun _ _ => rfl) h28b dX7_sets_28 ?_
      refine lv_istore_n (lv' := [(3, .int (M (0 + 9) 4 a1.toNatClampNeg)), (0, .ref (xq G 0 0)), (1, .int a1), (2, .int a2)]) hx hb dX7_sets_29 rfl hl (by decide) rfl (fun ls hl => ?_)
      refine lv_iload_n hx hb dX7_sets_30 rfl (lv_at hl 0 rfl) ?_
      refine lv_iload_n hx hb dX7_sets_31 rfl (lv_at hl 3 rfl) ?_
      refine lv_icmp_ne (tgt := 38) hx hb dX7_sets_32 (by decide) (fun c32 => ?_) (fun c32 => ?_)
      · replace hf := xif_f c32 hf
        refine lv_aload_n hx hb dX7_sets_38 rfl (lv_at hl 1 rfl) ?_
        refine gf_X7_38 E hI dX7_sets_39 ?_
        refine lv_aload_n hx hb dX7_sets_42 rfl (lv_at hl 1 rfl) ?_
        refine gf_X7_28 E hI dX7_sets_43 ?_
        obtain ⟨M46, g46, hf⟩ := xb1_s hf
        refine x_callVv (As := [.ref (xq G (0 + 9) 0)]) (rest := []) E hI mx_4_0 rfl rfl rfl (c_X2_remember l G _ (M := M) (L := L) (j1 := 0) (hj1 := (by decide)) g46) yv_X2_remember ml_X7_153 (by decide) (by decide) rfl rfl hl.1 (Nat.le_of_ble_eq_true rfl) dX7_sets_46 (fun H locs hI => ?_)
        refine lv_aload_n hx hb dX7_sets_49 rfl (lv_at hl 1 rfl) ?_
        refine gf_X7_28 E hI dX7_sets_50 ?_
        refine gf_X7_108 E hI (by decide) dX7_sets_53 ?_
        refine lv_iload_n hx hb dX7_sets_56 rfl (lv_at hl 2 rfl) ?_
        refine lv_iload_n hx hb dX7_sets_57 rfl (lv_at hl 3 rfl) ?_
        obtain ⟨h58b, hf⟩ := xchk_s hf
        obtain ⟨M58, e58, hf⟩ := xlet_s hf
        refine x_iast (n := 5) E hI (mf_4 (by decide)) (fun _ _ => rfl) h58b dX7_sets_58 e58 (fun H locs hI => ?_)
        refine lv_iload_n hx hb dX7_sets_59 rfl (lv_at hl 0 rfl) ?_
        obtain ⟨rfl, rfl⟩ := xinj2 hf
        exact x_iret E hI rfl dX7_sets_60
      · replace hf := xif_t c32 hf
        refine lv_bipush (v := -2) hx hb dX7_sets_35 (by decide) ?_
        obtain ⟨rfl, rfl⟩ := xinj2 hf
        exact x_iret E hI rfl dX7_sets_37
    · replace hf := xif_f c15 hf
      exact (w_X7_sets_b18 E (M := M) (L := L))  hf _ (lv_sub hl [] rfl) _ _ hI
theorem dX7_shifts_0 : decode cX7_shifts 0 = .ok (.aload_n 0, 1) := by decide +kernel
theorem dX7_shifts_1 : decode cX7_shifts 1 = .ok (.iload_n 1, 1) := by decide +kernel
theorem dX7_shifts_2 : decode cX7_shifts 2 = .ok (.invokevirtual 104, 3) := by decide +kernel
theorem dX7_shifts_5 : decode cX7_shifts 5 = .ok (.ifCond .eq 5, 3) := by decide +kernel
theorem dX7_shifts_8 : decode cX7_shifts 8 = .ok (.iconst (-1), 1) := by decide +kernel
theorem dX7_shifts_9 : decode cX7_shifts 9 = .ok (.ireturn, 1) := by decide +kernel
theorem dX7_shifts_10 : decode cX7_shifts 10 = .ok (.aload_n 0, 1) := by decide +kernel
theorem dX7_shifts_11 : decode cX7_shifts 11 = .ok (.getfield 28, 3) := by decide +kernel
theorem dX7_shifts_14 : decode cX7_shifts 14 = .ok (.iload_n 1, 1) := by decide +kernel
theorem dX7_shifts_15 : decode cX7_shifts 15 = .ok (.invokevirtual 121, 3) := by decide +kernel
theorem dX7_shifts_18 : decode cX7_shifts 18 = .ok (.istore_n 2, 1) := by decide +kernel
theorem dX7_shifts_19 : decode cX7_shifts 19 = .ok (.iload_n 2, 1) := by decide +kernel
theorem dX7_shifts_20 : decode cX7_shifts 20 = .ok (.aload_n 0, 1) := by decide +kernel
theorem dX7_shifts_21 : decode cX7_shifts 21 = .ok (.getfield 19, 3) := by decide +kernel
theorem dX7_shifts_24 : decode cX7_shifts 24 = .ok (.getfield 162, 3) := by decide +kernel
theorem dX7_shifts_27 : decode cX7_shifts 27 = .ok (.iconst 1, 1) := by decide +kernel
theorem dX7_shifts_28 : decode cX7_shifts 28 = .ok (.isub, 1) := by decide +kernel
theorem dX7_shifts_29 : decode cX7_shifts 29 = .ok (.if_icmp .lt 6, 3) := by decide +kernel
theorem dX7_shifts_32 : decode cX7_shifts 32 = .ok (.bipush (-2), 2) := by decide +kernel
theorem dX7_shifts_34 : decode cX7_shifts 34 = .ok (.ireturn, 1) := by decide +kernel
theorem dX7_shifts_35 : decode cX7_shifts 35 = .ok (.aload_n 0, 1) := by decide +kernel
theorem dX7_shifts_36 : decode cX7_shifts 36 = .ok (.getfield 38, 3) := by decide +kernel
theorem dX7_shifts_39 : decode cX7_shifts 39 = .ok (.aload_n 0, 1) := by decide +kernel
theorem dX7_shifts_40 : decode cX7_shifts 40 = .ok (.getfield 28, 3) := by decide +kernel
theorem dX7_shifts_43 : decode cX7_shifts 43 = .ok (.invokevirtual 153, 3) := by decide +kernel
theorem dX7_shifts_46 : decode cX7_shifts 46 = .ok (.aload_n 0, 1) := by decide +kernel
theorem dX7_shifts_47 : decode cX7_shifts 47 = .ok (.getfield 28, 3) := by decide +kernel
theorem dX7_shifts_50 : decode cX7_shifts 50 = .ok (.getfield 165, 3) := by decide +kernel
theorem dX7_shifts_53 : decode cX7_shifts 53 = .ok (.iload_n 2, 1) := by decide +kernel
theorem dX7_shifts_54 : decode cX7_shifts 54 = .ok (.aload_n 0, 1) := by decide +kernel
theorem dX7_shifts_55 : decode cX7_shifts 55 = .ok (.getfield 28, 3) := by decide +kernel
theorem dX7_shifts_58 : decode cX7_shifts 58 = .ok (.getfield 165, 3) := by decide +kernel
theorem dX7_shifts_61 : decode cX7_shifts 61 = .ok (.iload_n 2, 1) := by decide +kernel
theorem dX7_shifts_62 : decode cX7_shifts 62 = .ok (.iconst 1, 1) := by decide +kernel
theorem dX7_shifts_63 : decode cX7_shifts 63 = .ok (.iadd, 1) := by decide +kernel
theorem dX7_shifts_64 : decode cX7_shifts 64 = .ok (.iaload, 1) := by decide +kernel
theorem dX7_shifts_65 : decode cX7_shifts 65 = .ok (.iastore, 1) := by decide +kernel
theorem dX7_shifts_66 : decode cX7_shifts 66 = .ok (.aload_n 0, 1) := by decide +kernel
theorem dX7_shifts_67 : decode cX7_shifts 67 = .ok (.getfield 28, 3) := by decide +kernel
theorem dX7_shifts_70 : decode cX7_shifts 70 = .ok (.getfield 165, 3) := by decide +kernel
theorem dX7_shifts_73 : decode cX7_shifts 73 = .ok (.iload_n 2, 1) := by decide +kernel
theorem dX7_shifts_74 : decode cX7_shifts 74 = .ok (.iconst 1, 1) := by decide +kernel
theorem dX7_shifts_75 : decode cX7_shifts 75 = .ok (.iadd, 1) := by decide +kernel
theorem dX7_shifts_76 : decode cX7_shifts 76 = .ok (.iload_n 1, 1) := by decide +kernel
theorem dX7_shifts_77 : decode cX7_shifts 77 = .ok (.iastore, 1) := by decide +kernel
theorem dX7_shifts_78 : decode cX7_shifts 78 = .ok (.iload_n 2, 1) := by decide +kernel
theorem dX7_shifts_79 : decode cX7_shifts 79 = .ok (.iconst 1, 1) := by decide +kernel
theorem dX7_shifts_80 : decode cX7_shifts 80 = .ok (.iadd, 1) := by decide +kernel
theorem dX7_shifts_81 : decode cX7_shifts 81 = .ok (.ireturn, 1) := by decide +kernel
def f_X7_shifts (a1 : Int32) (M : xMem) : Option (Int32 × xMem) := xb1 (f_X7_noScale a1 M) (fun r2 => (if r2 = (0 : Int32) then xb1 (f_X0_placeOf 0 a1 M) (fun r15 => (if r15 < ((M 3 0 0) - (1 : Int32)) then xb1 (f_X2_remember 0 M) (fun M43 => xchk (xb (r15 + (1 : Int32)) 5) (xchk (xb r15 5) (xlet (xst M43 (0 + 9) 5 r15 (M43 (0 + 9) 5 (r15 + (1 : Int32)).toNatClampNeg)) (fun M65 => xchk (xb (r15 + (1 : Int32)) 5) (xlet (xst M65 (0 + 9) 5 (r15 + (1 : Int32)) a1) (fun M77 => some ((r15 + (1 : Int32)), M77))))))) else some ((-2 : Int32), M))) else some ((-1 : Int32), M)))
set_option maxHeartbeats 4000000 in
set_option maxRecDepth 100000 in
theorem c_X7_shifts (l : Launch) (G : xG) (sz : Nat) (M : xMem) (L : xLL) (a1 : Int32) {rr : Int32} {MM : xMem} (hf : f_X7_shifts a1 M = some (rr, MM)) : Met l yX7_shifts (Cond.code yX7_shifts cX7_shifts 3 (some .int) :: xTB) (xR 3) (xP G M L sz [.ref (xq G 0 0), .int a1]) (xQi G rr MM L sz) 0 0 (xZ G sz) := by
  refine x_met (cc := cX7_shifts) (nL := 3) (rt := (some .int)) (by decide) (Nat.le_of_ble_eq_true rfl) ?_
  intro p e s m below meth c ls hsz E hl hI
  subst hsz
  have E : xE p s m _ meth c cX7_shifts 3 (some .int) RX7 G := E
  have hx := E.1
  have hb := E.2.1
  have hl : lv_has ls 3 [(0, .ref (xq G 0 0)), (1, .int a1)] := hl
  rw [f_X7_shifts] at hf
  refine lv_aload_n hx hb dX7_shifts_0 rfl (lv_at hl 0 rfl) ?_
  refine lv_iload_n hx hb dX7_shifts_1 rfl (lv_at hl 1 rfl) ?_
  obtain ⟨r2, g2, hf⟩ := xb1_s hf
  refine x_callVi (As := [.int a1]) (rest := []) E hI mx_0_0 rfl rfl rfl (c_X7_noScale l G _ (M := M) (L := L) (a1 := a1) g2) yv_X7_noScale ml_X7_104 (by decide) (by decide) rfl rfl hl.1 (Nat.le_of_ble_eq_true rfl) dX7_shifts_2 (fun H locs hI => ?_)
  refine lv_if_eq (tgt := 10) hx hb dX7_shifts_5 (by decide) (fun c5 => ?_) (fun c5 => ?_)
  · replace hf := xif_t c5 hf
    refine lv_aload_n hx hb dX7_shifts_10 rfl (lv_at hl 0 rfl) ?_
    refine gf_X7_28 E hI dX7_shifts_11 ?_
    refine lv_iload_n hx hb dX7_shifts_14 rfl (lv_at hl 1 rfl) ?_
    obtain ⟨r15, g15, hf⟩ := xb1_s hf
    refine x_callVi (As := [.int a1]) (rest := []) E hI (mf_0 (by decide)) rfl rfl rfl (c_X0_placeOf l G _ (M := M) (L := L) (i := 0) (hi := (by decide)) (a1 := a1) g15) yv_X0_placeOf ml_X7_121 (by decide) (by decide) rfl rfl hl.1 (Nat.le_of_ble_eq_true rfl) dX7_shifts_15 (fun H locs hI => ?_)
    refine lv_istore_n (lv' := [(2, .int r15), (0, .ref (xq G 0 0)), (1, .int a1)]) hx hb dX7_shifts_18 rfl hl (by decide) rfl (fun ls hl => ?_)
    refine lv_iload_n hx hb dX7_shifts_19 rfl (lv_at hl 0 rfl) ?_
    refine lv_aload_n hx hb dX7_shifts_20 rfl (lv_at hl 1 rfl) ?_
    refine gf_X7_19 E hI dX7_shifts_21 ?_
    refine gf_X7_162_3 E hI dX7_shifts_24 ?_
    refine lv_iconst (v := 1) hx hb dX7_shifts_27 (by decide) ?_
    refine lv_isub hx hb dX7_shifts_28 ?_
    refine lv_icmp_lt (tgt := 35) hx hb dX7_shifts_29 (by decide) (fun c29 => ?_) (fun c29 => ?_)
    · replace hf := xif_t c29 hf
      refine lv_aload_n hx hb dX7_shifts_35 rfl (lv_at hl 1 rfl) ?_
      refine gf_X7_38 E hI dX7_shifts_36 ?_
      refine lv_aload_n hx hb dX7_shifts_39 rfl (lv_at hl 1 rfl) ?_
      refine gf_X7_28 E hI dX7_shifts_40 ?_
      obtain ⟨M43, g43, hf⟩ := xb1_s hf
      refine x_callVv (As := [.ref (xq G (0 + 9) 0)]) (rest := []) E hI mx_4_0 rfl rfl rfl (c_X2_remember l G _ (M := M) (L := L) (j1 := 0) (hj1 := (by decide)) g43) yv_X2_remember ml_X7_153 (by decide) (by decide) rfl rfl hl.1 (Nat.le_of_ble_eq_true rfl) dX7_shifts_43 (fun H locs hI => ?_)
      refine lv_aload_n hx hb dX7_shifts_46 rfl (lv_at hl 1 rfl) ?_
      refine gf_X7_28 E hI dX7_shifts_47 ?_
      refine gf_X7_165 E hI (by decide) dX7_shifts_50 ?_
      refine lv_iload_n hx hb dX7_shifts_53 rfl (lv_at hl 0 rfl) ?_
      refine lv_aload_n hx hb dX7_shifts_54 rfl (lv_at hl 1 rfl) ?_
      refine gf_X7_28 E hI dX7_shifts_55 ?_
      refine gf_X7_165 E hI (by decide) dX7_shifts_58 ?_
      refine lv_iload_n hx hb dX7_shifts_61 rfl (lv_at hl 0 rfl) ?_
      refine lv_iconst (v := 1) hx hb dX7_shifts_62 (by decide) ?_
      refine lv_iadd hx hb dX7_shifts_63 ?_
      obtain ⟨h64b, hf⟩ := xchk_s hf
      refine x_iald (n := 5) E hI (mf_5 (by decide)) (fun _ _ => rfl) h64b dX7_shifts_64 ?_
      obtain ⟨h65b, hf⟩ := xchk_s hf
      obtain ⟨M65, e65, hf⟩ := xlet_s hf
      refine x_iast (n := 5) E hI (mf_5 (by decide)) (fun _ _ => rfl) h65b dX7_shifts_65 e65 (fun H locs hI => ?_)
      refine lv_aload_n hx hb dX7_shifts_66 rfl (lv_at hl 1 rfl) ?_
      refine gf_X7_28 E hI dX7_shifts_67 ?_
      refine gf_X7_165 E hI (by decide) dX7_shifts_70 ?_
      refine lv_iload_n hx hb dX7_shifts_73 rfl (lv_at hl 0 rfl) ?_
      refine lv_iconst (v := 1) hx hb dX7_shifts_74 (by decide) ?_
      refine lv_iadd hx hb dX7_shifts_75 ?_
      refine lv_iload_n hx hb dX7_shifts_76 rfl (lv_at hl 2 rfl) ?_
      obtain ⟨h77b, hf⟩ := xchk_s hf
      obtain ⟨M77, e77, hf⟩ := xlet_s hf
      refine x_iast (n := 5) E hI (mf_5 (by decide)) (fun _ _ => rfl) h77b dX7_shifts_77 e77 (fun H locs hI => ?_)
      refine lv_iload_n hx hb dX7_shifts_78 rfl (lv_at hl 0 rfl) ?_
      refine lv_iconst (v := 1) hx hb dX7_shifts_79 (by decide) ?_
      refine lv_iadd hx hb dX7_shifts_80 ?_
      obtain ⟨rfl, rfl⟩ := xinj2 hf
      exact x_iret E hI rfl dX7_shifts_81
    · replace hf := xif_f c29 hf
      refine lv_bipush (v := -2) hx hb dX7_shifts_32 (by decide) ?_
      obtain ⟨rfl, rfl⟩ := xinj2 hf
      exact x_iret E hI rfl dX7_shifts_34
  · replace hf := xif_f c5 hf
    refine lv_iconst (v := -1) hx hb dX7_shifts_8 (by decide) ?_
    obtain ⟨rfl, rfl⟩ := xinj2 hf
    exact x_iret E hI rfl dX7_shifts_9
theorem dX7_drops_0 : decode cX7_drops 0 = .ok (.aload_n 0, 1) := by decide +kernel
theorem dX7_drops_1 : decode cX7_drops 1 = .ok (.iload_n 1, 1) := by decide +kernel
theorem dX7_drops_2 : decode cX7_drops 2 = .ok (.invokevirtual 128, 3) := by decide +kernel
theorem dX7_drops_5 : decode cX7_drops 5 = .ok (.ifCond .eq 5, 3) := by decide +kernel
theorem dX7_drops_8 : decode cX7_drops 8 = .ok (.iconst (-1), 1) := by decide +kernel
theorem dX7_drops_9 : decode cX7_drops 9 = .ok (.ireturn, 1) := by decide +kernel
theorem dX7_drops_10 : decode cX7_drops 10 = .ok (.aload_n 0, 1) := by decide +kernel
theorem dX7_drops_11 : decode cX7_drops 11 = .ok (.getfield 28, 3) := by decide +kernel
theorem dX7_drops_14 : decode cX7_drops 14 = .ok (.getfield 137, 3) := by decide +kernel
theorem dX7_drops_17 : decode cX7_drops 17 = .ok (.iload_n 1, 1) := by decide +kernel
theorem dX7_drops_18 : decode cX7_drops 18 = .ok (.iaload, 1) := by decide +kernel
theorem dX7_drops_19 : decode cX7_drops 19 = .ok (.istore_n 2, 1) := by decide +kernel
theorem dX7_drops_20 : decode cX7_drops 20 = .ok (.iload_n 2, 1) := by decide +kernel
theorem dX7_drops_21 : decode cX7_drops 21 = .ok (.bipush 9, 2) := by decide +kernel
theorem dX7_drops_23 : decode cX7_drops 23 = .ok (.if_icmp .ne 6, 3) := by decide +kernel
theorem dX7_drops_26 : decode cX7_drops 26 = .ok (.bipush (-2), 2) := by decide +kernel
theorem dX7_drops_28 : decode cX7_drops 28 = .ok (.ireturn, 1) := by decide +kernel
theorem dX7_drops_29 : decode cX7_drops 29 = .ok (.aload_n 0, 1) := by decide +kernel
theorem dX7_drops_30 : decode cX7_drops 30 = .ok (.getfield 38, 3) := by decide +kernel
theorem dX7_drops_33 : decode cX7_drops 33 = .ok (.aload_n 0, 1) := by decide +kernel
theorem dX7_drops_34 : decode cX7_drops 34 = .ok (.getfield 28, 3) := by decide +kernel
theorem dX7_drops_37 : decode cX7_drops 37 = .ok (.invokevirtual 153, 3) := by decide +kernel
theorem dX7_drops_40 : decode cX7_drops 40 = .ok (.aload_n 0, 1) := by decide +kernel
theorem dX7_drops_41 : decode cX7_drops 41 = .ok (.getfield 28, 3) := by decide +kernel
theorem dX7_drops_44 : decode cX7_drops 44 = .ok (.getfield 137, 3) := by decide +kernel
theorem dX7_drops_47 : decode cX7_drops 47 = .ok (.iload_n 1, 1) := by decide +kernel
theorem dX7_drops_48 : decode cX7_drops 48 = .ok (.bipush 9, 2) := by decide +kernel
theorem dX7_drops_50 : decode cX7_drops 50 = .ok (.iastore, 1) := by decide +kernel
theorem dX7_drops_51 : decode cX7_drops 51 = .ok (.iload_n 2, 1) := by decide +kernel
theorem dX7_drops_52 : decode cX7_drops 52 = .ok (.ireturn, 1) := by decide +kernel
def f_X7_drops (a1 : Int32) (M : xMem) : Option (Int32 × xMem) := xb1 (f_X7_noEgg a1 M) (fun r2 => (if r2 = (0 : Int32) then xchk (xb a1 6) ((if (M (0 + 9) 2 a1.toNatClampNeg) = (9 : Int32) then some ((-2 : Int32), M) else xb1 (f_X2_remember 0 M) (fun M37 => xchk (xb a1 6) (xlet (xst M37 (0 + 9) 2 a1 (9 : Int32)) (fun M50 => some ((M (0 + 9) 2 a1.toNatClampNeg), M50)))))) else some ((-1 : Int32), M)))
set_option maxHeartbeats 4000000 in
set_option maxRecDepth 100000 in
theorem c_X7_drops (l : Launch) (G : xG) (sz : Nat) (M : xMem) (L : xLL) (a1 : Int32) {rr : Int32} {MM : xMem} (hf : f_X7_drops a1 M = some (rr, MM)) : Met l yX7_drops (Cond.code yX7_drops cX7_drops 3 (some .int) :: xTB) (xR 3) (xP G M L sz [.ref (xq G 0 0), .int a1]) (xQi G rr MM L sz) 0 0 (xZ G sz) := by
  refine x_met (cc := cX7_drops) (nL := 3) (rt := (some .int)) (by decide) (Nat.le_of_ble_eq_true rfl) ?_
  intro p e s m below meth c ls hsz E hl hI
  subst hsz
  have E : xE p s m _ meth c cX7_drops 3 (some .int) RX7 G := E
  have hx := E.1
  have hb := E.2.1
  have hl : lv_has ls 3 [(0, .ref (xq G 0 0)), (1, .int a1)] := hl
  rw [f_X7_drops] at hf
  refine lv_aload_n hx hb dX7_drops_0 rfl (lv_at hl 0 rfl) ?_
  refine lv_iload_n hx hb dX7_drops_1 rfl (lv_at hl 1 rfl) ?_
  obtain ⟨r2, g2, hf⟩ := xb1_s hf
  refine x_callVi (As := [.int a1]) (rest := []) E hI mx_0_0 rfl rfl rfl (c_X7_noEgg l G _ (M := M) (L := L) (a1 := a1) g2) yv_X7_noEgg ml_X7_128 (by decide) (by decide) rfl rfl hl.1 (Nat.le_of_ble_eq_true rfl) dX7_drops_2 (fun H locs hI => ?_)
  refine lv_if_eq (tgt := 10) hx hb dX7_drops_5 (by decide) (fun c5 => ?_) (fun c5 => ?_)
  · replace hf := xif_t c5 hf
    refine lv_aload_n hx hb dX7_drops_10 rfl (lv_at hl 0 rfl) ?_
    refine gf_X7_28 E hI dX7_drops_11 ?_
    refine gf_X7_137 E hI (by decide) dX7_drops_14 ?_
    refine lv_iload_n hx hb dX7_drops_17 rfl (lv_at hl 1 rfl) ?_
    obtain ⟨h18b, hf⟩ := xchk_s hf
    refine x_iald (n := 6) E hI (mf_2 (by decide)) (fun _ _ => rfl) h18b dX7_drops_18 ?_
    refine lv_istore_n (lv' := [(2, .int (M (0 + 9) 2 a1.toNatClampNeg)), (0, .ref (xq G 0 0)), (1, .int a1)]) hx hb dX7_drops_19 rfl hl (by decide) rfl (fun ls hl => ?_)
    refine lv_iload_n hx hb dX7_drops_20 rfl (lv_at hl 0 rfl) ?_
    refine lv_bipush (v := 9) hx hb dX7_drops_21 (by decide) ?_
    refine lv_icmp_ne (tgt := 29) hx hb dX7_drops_23 (by decide) (fun c23 => ?_) (fun c23 => ?_)
    · replace hf := xif_f c23 hf
      refine lv_aload_n hx hb dX7_drops_29 rfl (lv_at hl 1 rfl) ?_
      refine gf_X7_38 E hI dX7_drops_30 ?_
      refine lv_aload_n hx hb dX7_drops_33 rfl (lv_at hl 1 rfl) ?_
      refine gf_X7_28 E hI dX7_drops_34 ?_
      obtain ⟨M37, g37, hf⟩ := xb1_s hf
      refine x_callVv (As := [.ref (xq G (0 + 9) 0)]) (rest := []) E hI mx_4_0 rfl rfl rfl (c_X2_remember l G _ (M := M) (L := L) (j1 := 0) (hj1 := (by decide)) g37) yv_X2_remember ml_X7_153 (by decide) (by decide) rfl rfl hl.1 (Nat.le_of_ble_eq_true rfl) dX7_drops_37 (fun H locs hI => ?_)
      refine lv_aload_n hx hb dX7_drops_40 rfl (lv_at hl 1 rfl) ?_
      refine gf_X7_28 E hI dX7_drops_41 ?_
      refine gf_X7_137 E hI (by decide) dX7_drops_44 ?_
      refine lv_iload_n hx hb dX7_drops_47 rfl (lv_at hl 2 rfl) ?_
      refine lv_bipush (v := 9) hx hb dX7_drops_48 (by decide) ?_
      obtain ⟨h50b, hf⟩ := xchk_s hf
      obtain ⟨M50, e50, hf⟩ := xlet_s hf
      refine x_iast (n := 6) E hI (mf_2 (by decide)) (fun _ _ => rfl) h50b dX7_drops_50 e50 (fun H locs hI => ?_)
      refine lv_iload_n hx hb dX7_drops_51 rfl (lv_at hl 0 rfl) ?_
      obtain ⟨rfl, rfl⟩ := xinj2 hf
      exact x_iret E hI rfl dX7_drops_52
    · replace hf := xif_t c23 hf
      refine lv_bipush (v := -2) hx hb dX7_drops_26 (by decide) ?_
      obtain ⟨rfl, rfl⟩ := xinj2 hf
      exact x_iret E hI rfl dX7_drops_28
  · replace hf := xif_f c5 hf
    refine lv_iconst (v := -1) hx hb dX7_drops_8 (by decide) ?_
    obtain ⟨rfl, rfl⟩ := xinj2 hf
    exact x_iret E hI rfl dX7_drops_9
theorem dX7_undo_0 : decode cX7_undo 0 = .ok (.aload_n 0, 1) := by decide +kernel
theorem dX7_undo_1 : decode cX7_undo 1 = .ok (.getfield 38, 3) := by decide +kernel
theorem dX7_undo_4 : decode cX7_undo 4 = .ok (.getfield 98, 3) := by decide +kernel
theorem dX7_undo_7 : decode cX7_undo 7 = .ok (.ifCond .ne 6, 3) := by decide +kernel
theorem dX7_undo_10 : decode cX7_undo 10 = .ok (.bipush (-2), 2) := by decide +kernel
theorem dX7_undo_12 : decode cX7_undo 12 = .ok (.ireturn, 1) := by decide +kernel
theorem dX7_undo_13 : decode cX7_undo 13 = .ok (.aload_n 0, 1) := by decide +kernel
theorem dX7_undo_14 : decode cX7_undo 14 = .ok (.getfield 38, 3) := by decide +kernel
theorem dX7_undo_17 : decode cX7_undo 17 = .ok (.aload_n 0, 1) := by decide +kernel
theorem dX7_undo_18 : decode cX7_undo 18 = .ok (.getfield 28, 3) := by decide +kernel
theorem dX7_undo_21 : decode cX7_undo 21 = .ok (.invokevirtual 168, 3) := by decide +kernel
theorem dX7_undo_24 : decode cX7_undo 24 = .ok (.aload_n 0, 1) := by decide +kernel
theorem dX7_undo_25 : decode cX7_undo 25 = .ok (.getfield 38, 3) := by decide +kernel
theorem dX7_undo_28 : decode cX7_undo 28 = .ok (.getfield 98, 3) := by decide +kernel
theorem dX7_undo_31 : decode cX7_undo 31 = .ok (.ireturn, 1) := by decide +kernel
def f_X7_undo (M : xMem) : Option (Int32 × xMem) := (if (M 4 0 2) = (0 : Int32) then some ((-2 : Int32), M) else xb1 (f_X2_recall 0 M) (fun M21 => some ((M21 4 0 2), M21)))
set_option maxHeartbeats 4000000 in
set_option maxRecDepth 100000 in
theorem c_X7_undo (l : Launch) (G : xG) (sz : Nat) (M : xMem) (L : xLL) {rr : Int32} {MM : xMem} (hf : f_X7_undo M = some (rr, MM)) : Met l yX7_undo (Cond.code yX7_undo cX7_undo 1 (some .int) :: xTB) (xR 3) (xP G M L sz [.ref (xq G 0 0)]) (xQi G rr MM L sz) 0 0 (xZ G sz) := by
  refine x_met (cc := cX7_undo) (nL := 1) (rt := (some .int)) (by decide) (Nat.le_of_ble_eq_true rfl) ?_
  intro p e s m below meth c ls hsz E hl hI
  subst hsz
  have E : xE p s m _ meth c cX7_undo 1 (some .int) RX7 G := E
  have hx := E.1
  have hb := E.2.1
  have hl : lv_has ls 1 [(0, .ref (xq G 0 0))] := hl
  rw [f_X7_undo] at hf
  refine lv_aload_n hx hb dX7_undo_0 rfl (lv_at hl 0 rfl) ?_
  refine gf_X7_38 E hI dX7_undo_1 ?_
  refine gf_X7_98 E hI dX7_undo_4 ?_
  refine lv_if_ne (tgt := 13) hx hb dX7_undo_7 (by decide) (fun c7 => ?_) (fun c7 => ?_)
  · replace hf := xif_f c7 hf
    refine lv_aload_n hx hb dX7_undo_13 rfl (lv_at hl 0 rfl) ?_
    refine gf_X7_38 E hI dX7_undo_14 ?_
    refine lv_aload_n hx hb dX7_undo_17 rfl (lv_at hl 0 rfl) ?_
    refine gf_X7_28 E hI dX7_undo_18 ?_
    obtain ⟨M21, g21, hf⟩ := xb1_s hf
    refine x_callVv (As := [.ref (xq G (0 + 9) 0)]) (rest := []) E hI mx_4_0 rfl rfl rfl (c_X2_recall l G _ (M := M) (L := L) (j1 := 0) (hj1 := (by decide)) g21) yv_X2_recall ml_X7_168 (by decide) (by decide) rfl rfl hl.1 (Nat.le_of_ble_eq_true rfl) dX7_undo_21 (fun H locs hI => ?_)
    refine lv_aload_n hx hb dX7_undo_24 rfl (lv_at hl 0 rfl) ?_
    refine gf_X7_38 E hI dX7_undo_25 ?_
    refine gf_X7_98 E hI dX7_undo_28 ?_
    obtain ⟨rfl, rfl⟩ := xinj2 hf
    exact x_iret E hI rfl dX7_undo_31
  · replace hf := xif_t c7 hf
    refine lv_bipush (v := -2) hx hb dX7_undo_10 (by decide) ?_
    obtain ⟨rfl, rfl⟩ := xinj2 hf
    exact x_iret E hI rfl dX7_undo_12
theorem dX7_goes_0 : decode cX7_goes 0 = .ok (.aload_n 0, 1) := by decide +kernel
theorem dX7_goes_1 : decode cX7_goes 1 = .ok (.iload_n 1, 1) := by decide +kernel
theorem dX7_goes_2 : decode cX7_goes 2 = .ok (.invokevirtual 128, 3) := by decide +kernel
theorem dX7_goes_5 : decode cX7_goes 5 = .ok (.ifCond .eq 5, 3) := by decide +kernel
theorem dX7_goes_8 : decode cX7_goes 8 = .ok (.iconst (-1), 1) := by decide +kernel
theorem dX7_goes_9 : decode cX7_goes 9 = .ok (.ireturn, 1) := by decide +kernel
theorem dX7_goes_10 : decode cX7_goes 10 = .ok (.aload_n 0, 1) := by decide +kernel
theorem dX7_goes_11 : decode cX7_goes 11 = .ok (.getfield 28, 3) := by decide +kernel
theorem dX7_goes_14 : decode cX7_goes 14 = .ok (.getfield 137, 3) := by decide +kernel
theorem dX7_goes_17 : decode cX7_goes 17 = .ok (.iload_n 1, 1) := by decide +kernel
theorem dX7_goes_18 : decode cX7_goes 18 = .ok (.iaload, 1) := by decide +kernel
theorem dX7_goes_19 : decode cX7_goes 19 = .ok (.ifCond .eq 6, 3) := by decide +kernel
theorem dX7_goes_22 : decode cX7_goes 22 = .ok (.bipush (-2), 2) := by decide +kernel
theorem dX7_goes_24 : decode cX7_goes 24 = .ok (.ireturn, 1) := by decide +kernel
theorem dX7_goes_25 : decode cX7_goes 25 = .ok (.aload_n 0, 1) := by decide +kernel
theorem dX7_goes_26 : decode cX7_goes 26 = .ok (.getfield 32, 3) := by decide +kernel
theorem dX7_goes_29 : decode cX7_goes 29 = .ok (.aload_n 0, 1) := by decide +kernel
theorem dX7_goes_30 : decode cX7_goes 30 = .ok (.getfield 28, 3) := by decide +kernel
theorem dX7_goes_33 : decode cX7_goes 33 = .ok (.invokevirtual 171, 3) := by decide +kernel
theorem dX7_goes_36 : decode cX7_goes 36 = .ok (.aload_n 0, 1) := by decide +kernel
theorem dX7_goes_37 : decode cX7_goes 37 = .ok (.getfield 32, 3) := by decide +kernel
theorem dX7_goes_40 : decode cX7_goes 40 = .ok (.iload_n 1, 1) := by decide +kernel
theorem dX7_goes_41 : decode cX7_goes 41 = .ok (.invokevirtual 156, 3) := by decide +kernel
theorem dX7_goes_44 : decode cX7_goes 44 = .ok (.ireturn, 1) := by decide +kernel
def f_X7_goes (a1 : Int32) (M : xMem) : Option (Int32 × xMem) := xb1 (f_X7_noEgg a1 M) (fun r2 => (if r2 = (0 : Int32) then xchk (xb a1 6) ((if (M (0 + 9) 2 a1.toNatClampNeg) = (0 : Int32) then xb1 (f_X0_become 1 0 M) (fun M33 => xb2 (f_X0_roll 1 a1 M33) (fun r41 M41 => some (r41, M41))) else some ((-2 : Int32), M))) else some ((-1 : Int32), M)))
set_option maxHeartbeats 4000000 in
set_option maxRecDepth 100000 in
theorem c_X7_goes (l : Launch) (G : xG) (sz : Nat) (M : xMem) (L : xLL) (a1 : Int32) {rr : Int32} {MM : xMem} (hf : f_X7_goes a1 M = some (rr, MM)) : Met l yX7_goes (Cond.code yX7_goes cX7_goes 2 (some .int) :: xTB) (xR 4) (xP G M L sz [.ref (xq G 0 0), .int a1]) (xQi G rr MM L sz) 0 0 (xZ G sz) := by
  refine x_met (cc := cX7_goes) (nL := 2) (rt := (some .int)) (by decide) (Nat.le_of_ble_eq_true rfl) ?_
  intro p e s m below meth c ls hsz E hl hI
  subst hsz
  have E : xE p s m _ meth c cX7_goes 2 (some .int) RX7 G := E
  have hx := E.1
  have hb := E.2.1
  have hl : lv_has ls 2 [(0, .ref (xq G 0 0)), (1, .int a1)] := hl
  rw [f_X7_goes] at hf
  refine lv_aload_n hx hb dX7_goes_0 rfl (lv_at hl 0 rfl) ?_
  refine lv_iload_n hx hb dX7_goes_1 rfl (lv_at hl 1 rfl) ?_
  obtain ⟨r2, g2, hf⟩ := xb1_s hf
  refine x_callVi (As := [.int a1]) (rest := []) E hI mx_0_0 rfl rfl rfl (c_X7_noEgg l G _ (M := M) (L := L) (a1 := a1) g2) yv_X7_noEgg ml_X7_128 (by decide) (by decide) rfl rfl hl.1 (Nat.le_of_ble_eq_true rfl) dX7_goes_2 (fun H locs hI => ?_)
  refine lv_if_eq (tgt := 10) hx hb dX7_goes_5 (by decide) (fun c5 => ?_) (fun c5 => ?_)
  · replace hf := xif_t c5 hf
    refine lv_aload_n hx hb dX7_goes_10 rfl (lv_at hl 0 rfl) ?_
    refine gf_X7_28 E hI dX7_goes_11 ?_
    refine gf_X7_137 E hI (by decide) dX7_goes_14 ?_
    refine lv_iload_n hx hb dX7_goes_17 rfl (lv_at hl 1 rfl) ?_
    obtain ⟨h18b, hf⟩ := xchk_s hf
    refine x_iald (n := 6) E hI (mf_2 (by decide)) (fun _ _ => rfl) h18b dX7_goes_18 ?_
    refine lv_if_eq (tgt := 25) hx hb dX7_goes_19 (by decide) (fun c19 => ?_) (fun c19 => ?_)
    · replace hf := xif_t c19 hf
      refine lv_aload_n hx hb dX7_goes_25 rfl (lv_at hl 0 rfl) ?_
      refine gf_X7_32 E hI dX7_goes_26 ?_
      refine lv_aload_n hx hb dX7_goes_29 rfl (lv_at hl 0 rfl) ?_
      refine gf_X7_28 E hI dX7_goes_30 ?_
      obtain ⟨M33, g33, hf⟩ := xb1_s hf
      refine x_callVv (As := [.ref (xq G (0 + 9) 0)]) (rest := []) E hI (mf_0 (by decide)) rfl rfl rfl (c_X0_become l G _ (M := M) (L := L) (i := 1) (hi := (by decide)) (j1 := 0) (hj1 := (by decide)) g33) yv_X0_become ml_X7_171 (by decide) (by decide) rfl rfl hl.1 (Nat.le_of_ble_eq_true rfl) dX7_goes_33 (fun H locs hI => ?_)
      refine lv_aload_n hx hb dX7_goes_36 rfl (lv_at hl 0 rfl) ?_
      refine gf_X7_32 E hI dX7_goes_37 ?_
      refine lv_iload_n hx hb dX7_goes_40 rfl (lv_at hl 1 rfl) ?_
      obtain ⟨r41, M41, g41, hf⟩ := xb2_s hf
      refine x_callVi (As := [.int a1]) (rest := []) E hI (mf_0 (by decide)) rfl rfl rfl (c_X0_roll l G _ (M := M33) (L := L) (i := 1) (hi := (by decide)) (a1 := a1) g41) yv_X0_roll ml_X7_156 (by decide) (by decide) rfl rfl hl.1 (Nat.le_of_ble_eq_true rfl) dX7_goes_41 (fun H locs hI => ?_)
      obtain ⟨rfl, rfl⟩ := xinj2 hf
      exact x_iret E hI rfl dX7_goes_44
    · replace hf := xif_f c19 hf
      refine lv_bipush (v := -2) hx hb dX7_goes_22 (by decide) ?_
      obtain ⟨rfl, rfl⟩ := xinj2 hf
      exact x_iret E hI rfl dX7_goes_24
  · replace hf := xif_f c5 hf
    refine lv_iconst (v := -1) hx hb dX7_goes_8 (by decide) ?_
    obtain ⟨rfl, rfl⟩ := xinj2 hf
    exact x_iret E hI rfl dX7_goes_9
theorem dX7_reset_0 : decode cX7_reset 0 = .ok (.aload_n 0, 1) := by decide +kernel
theorem dX7_reset_1 : decode cX7_reset 1 = .ok (.iload_n 1, 1) := by decide +kernel
theorem dX7_reset_2 : decode cX7_reset 2 = .ok (.invokevirtual 128, 3) := by decide +kernel
theorem dX7_reset_5 : decode cX7_reset 5 = .ok (.ifCond .ne 11, 3) := by decide +kernel
theorem dX7_reset_8 : decode cX7_reset 8 = .ok (.aload_n 0, 1) := by decide +kernel
theorem dX7_reset_9 : decode cX7_reset 9 = .ok (.iload_n 2, 1) := by decide +kernel
theorem dX7_reset_10 : decode cX7_reset 10 = .ok (.invokevirtual 104, 3) := by decide +kernel
theorem dX7_reset_13 : decode cX7_reset 13 = .ok (.ifCond .eq 5, 3) := by decide +kernel
theorem dX7_reset_16 : decode cX7_reset 16 = .ok (.iconst (-1), 1) := by decide +kernel
theorem dX7_reset_17 : decode cX7_reset 17 = .ok (.ireturn, 1) := by decide +kernel
theorem dX7_reset_18 : decode cX7_reset 18 = .ok (.aload_n 0, 1) := by decide +kernel
theorem dX7_reset_19 : decode cX7_reset 19 = .ok (.getfield 28, 3) := by decide +kernel
theorem dX7_reset_22 : decode cX7_reset 22 = .ok (.getfield 137, 3) := by decide +kernel
theorem dX7_reset_25 : decode cX7_reset 25 = .ok (.iload_n 1, 1) := by decide +kernel
theorem dX7_reset_26 : decode cX7_reset 26 = .ok (.iaload, 1) := by decide +kernel
theorem dX7_reset_27 : decode cX7_reset 27 = .ok (.ifCond .eq 6, 3) := by decide +kernel
theorem dX7_reset_30 : decode cX7_reset 30 = .ok (.bipush (-2), 2) := by decide +kernel
theorem dX7_reset_32 : decode cX7_reset 32 = .ok (.ireturn, 1) := by decide +kernel
theorem dX7_reset_33 : decode cX7_reset 33 = .ok (.aload_n 0, 1) := by decide +kernel
theorem dX7_reset_34 : decode cX7_reset 34 = .ok (.getfield 28, 3) := by decide +kernel
theorem dX7_reset_37 : decode cX7_reset 37 = .ok (.iload_n 1, 1) := by decide +kernel
theorem dX7_reset_38 : decode cX7_reset 38 = .ok (.iload_n 2, 1) := by decide +kernel
theorem dX7_reset_39 : decode cX7_reset 39 = .ok (.invokevirtual 186, 3) := by decide +kernel
theorem dX7_reset_42 : decode cX7_reset 42 = .ok (.ireturn, 1) := by decide +kernel
def f_X7_reset_b16 : Option (Int32) := some (-1 : Int32)
def f_X7_reset (a1 : Int32) (a2 : Int32) (M : xMem) : Option (Int32) := xb1 (f_X7_noEgg a1 M) (fun r2 => (if r2 = (0 : Int32) then xb1 (f_X7_noScale a2 M) (fun r10 => (if r10 = (0 : Int32) then xchk (xb a1 6) ((if (M (0 + 9) 2 a1.toNatClampNeg) = (0 : Int32) then xb1 (f_X0_leastChange 0 a1 a2 M) (fun r39 => some r39) else some (-2 : Int32))) else (f_X7_reset_b16))) else (f_X7_reset_b16)))
set_option maxHeartbeats 4000000 in
set_option maxRecDepth 100000 in
theorem w_X7_reset_b16 {p : Program} {l : Launch} {e : Env} {s : State} {m : MethodId} {args : Array Value} {below : List Frame} {meth : Method} {c : Code} {G : xG} {rr : Int32} (E : xE p s m args meth c cX7_reset 3 (some .int) RX7 G) (M : xMem) (L : xLL) : f_X7_reset_b16  = some rr → ∀ (ls : Array Slot), lv_has ls 3 [] → ∀ (H : Heap) (locs : List Loc), xI G M L s.heap H locs → W p l e (xR 4) s m args below meth c H locs 0 0 (MQ below (xQi G rr M L s.heap.size) args s 0 0 (xZ G s.heap.size)) (F0 m 16 ls []) := by
  have hx := E.1
  have hb := E.2.1
  intro  hf ls hl H locs hI
  rw [f_X7_reset_b16] at hf
  refine lv_iconst (v := -1) hx hb dX7_reset_16 (by decide) ?_
  obtain rfl := xinj1 hf
  exact x_iret E hI rfl dX7_reset_17
set_option maxHeartbeats 4000000 in
set_option maxRecDepth 100000 in
theorem c_X7_reset (l : Launch) (G : xG) (sz : Nat) (M : xMem) (L : xLL) (a1 : Int32) (a2 : Int32) {rr : Int32} (hf : f_X7_reset a1 a2 M = some rr) : Met l yX7_reset (Cond.code yX7_reset cX7_reset 3 (some .int) :: xTB) (xR 4) (xP G M L sz [.ref (xq G 0 0), .int a1, .int a2]) (xQi G rr M L sz) 0 0 (xZ G sz) := by
  refine x_met (cc := cX7_reset) (nL := 3) (rt := (some .int)) (by decide) (Nat.le_of_ble_eq_true rfl) ?_
  intro p e s m below meth c ls hsz E hl hI
  subst hsz
  have E : xE p s m _ meth c cX7_reset 3 (some .int) RX7 G := E
  have hx := E.1
  have hb := E.2.1
  have hl : lv_has ls 3 [(0, .ref (xq G 0 0)), (1, .int a1), (2, .int a2)] := hl
  rw [f_X7_reset] at hf
  refine lv_aload_n hx hb dX7_reset_0 rfl (lv_at hl 0 rfl) ?_
  refine lv_iload_n hx hb dX7_reset_1 rfl (lv_at hl 1 rfl) ?_
  obtain ⟨r2, g2, hf⟩ := xb1_s hf
  refine x_callVi (As := [.int a1]) (rest := []) E hI mx_0_0 rfl rfl rfl (c_X7_noEgg l G _ (M := M) (L := L) (a1 := a1) g2) yv_X7_noEgg ml_X7_128 (by decide) (by decide) rfl rfl hl.1 (Nat.le_of_ble_eq_true rfl) dX7_reset_2 (fun H locs hI => ?_)
  refine lv_if_ne (tgt := 16) hx hb dX7_reset_5 (by decide) (fun c5 => ?_) (fun c5 => ?_)
  · replace hf := xif_f c5 hf
    exact (w_X7_reset_b16 E (M := M) (L := L))  hf _ (lv_sub hl [] rfl) _ _ hI
  · replace hf := xif_t c5 hf
    refine lv_aload_n hx hb dX7_reset_8 rfl (lv_at hl 0 rfl) ?_
    refine lv_iload_n hx hb dX7_reset_9 rfl (lv_at hl 2 rfl) ?_
    obtain ⟨r10, g10, hf⟩ := xb1_s hf
    refine x_callVi (As := [.int a2]) (rest := []) E hI mx_0_0 rfl rfl rfl (c_X7_noScale l G _ (M := M) (L := L) (a1 := a2) g10) yv_X7_noScale ml_X7_104 (by decide) (by decide) rfl rfl hl.1 (Nat.le_of_ble_eq_true rfl) dX7_reset_10 (fun H locs hI => ?_)
    refine lv_if_eq (tgt := 18) hx hb dX7_reset_13 (by decide) (fun c13 => ?_) (fun c13 => ?_)
    · replace hf := xif_t c13 hf
      refine lv_aload_n hx hb dX7_reset_18 rfl (lv_at hl 0 rfl) ?_
      refine gf_X7_28 E hI dX7_reset_19 ?_
      refine gf_X7_137 E hI (by decide) dX7_reset_22 ?_
      refine lv_iload_n hx hb dX7_reset_25 rfl (lv_at hl 1 rfl) ?_
      obtain ⟨h26b, hf⟩ := xchk_s hf
      refine x_iald (n := 6) E hI (mf_2 (by decide)) (fun _ _ => rfl) h26b dX7_reset_26 ?_
      refine lv_if_eq (tgt := 33) hx hb dX7_reset_27 (by decide) (fun c27 => ?_) (fun c27 => ?_)
      · replace hf := xif_t c27 hf
        refine lv_aload_n hx hb dX7_reset_33 rfl (lv_at hl 0 rfl) ?_
        refine gf_X7_28 E hI dX7_reset_34 ?_
        refine lv_iload_n hx hb dX7_reset_37 rfl (lv_at hl 1 rfl) ?_
        refine lv_iload_n hx hb dX7_reset_38 rfl (lv_at hl 2 rfl) ?_
        obtain ⟨r39, g39, hf⟩ := xb1_s hf
        refine x_callVi (As := [.int a1, .int a2]) (rest := []) E hI (mf_0 (by decide)) rfl rfl rfl (c_X0_leastChange l G _ (M := M) (L := L) (i := 0) (hi := (by decide)) (a1 := a1) (a2 := a2) g39) yv_X0_leastChange ml_X7_186 (by decide) (by decide) rfl rfl hl.1 (Nat.le_of_ble_eq_true rfl) dX7_reset_39 (fun H locs hI => ?_)
        obtain rfl := xinj1 hf
        exact x_iret E hI rfl dX7_reset_42
      · replace hf := xif_f c27 hf
        refine lv_bipush (v := -2) hx hb dX7_reset_30 (by decide) ?_
        obtain rfl := xinj1 hf
        exact x_iret E hI rfl dX7_reset_32
    · replace hf := xif_f c13 hf
      exact (w_X7_reset_b16 E (M := M) (L := L))  hf _ (lv_sub hl [] rfl) _ _ hI
theorem dX7_power_0 : decode cX7_power 0 = .ok (.iconst 1, 1) := by decide +kernel
theorem dX7_power_1 : decode cX7_power 1 = .ok (.istore_n 2, 1) := by decide +kernel
theorem dX7_power_2 : decode cX7_power 2 = .ok (.iconst 0, 1) := by decide +kernel
theorem dX7_power_3 : decode cX7_power 3 = .ok (.istore_n 3, 1) := by decide +kernel
theorem dX7_power_4 : decode cX7_power 4 = .ok (.iload_n 3, 1) := by decide +kernel
theorem dX7_power_5 : decode cX7_power 5 = .ok (.iload_n 1, 1) := by decide +kernel
theorem dX7_power_6 : decode cX7_power 6 = .ok (.if_icmp .ge 13, 3) := by decide +kernel
theorem dX7_power_9 : decode cX7_power 9 = .ok (.iload_n 2, 1) := by decide +kernel
theorem dX7_power_10 : decode cX7_power 10 = .ok (.iload_n 0, 1) := by decide +kernel
theorem dX7_power_11 : decode cX7_power 11 = .ok (.imul, 1) := by decide +kernel
theorem dX7_power_12 : decode cX7_power 12 = .ok (.istore_n 2, 1) := by decide +kernel
theorem dX7_power_13 : decode cX7_power 13 = .ok (.iinc 3 1, 3) := by decide +kernel
theorem dX7_power_16 : decode cX7_power 16 = .ok (.goto (-12), 3) := by decide +kernel
theorem dX7_power_19 : decode cX7_power 19 = .ok (.iload_n 2, 1) := by decide +kernel
theorem dX7_power_20 : decode cX7_power 20 = .ok (.ireturn, 1) := by decide +kernel
def f_X7_power_l4 (a0 : Int32) (a1 : Int32) : Nat → Int32 → Int32 → Option (Int32)
  | 0, _, _ => none
  | n + 1, v4_2, v4_3 => (if a1 ≤ v4_3 then some v4_2 else (f_X7_power_l4 a0 a1 n) (v4_2 * a0) (v4_3 + (1 : Int32)))
def f_X7_power (a0 : Int32) (a1 : Int32) (M : xMem) : Option (Int32) := (f_X7_power_l4 a0 a1 FU) (1 : Int32) (0 : Int32)
set_option maxHeartbeats 4000000 in
set_option maxRecDepth 100000 in
theorem w_X7_power_l4 {p : Program} {l : Launch} {e : Env} {s : State} {m : MethodId} {args : Array Value} {below : List Frame} {meth : Method} {c : Code} {G : xG} {rr : Int32} (E : xE p s m args meth c cX7_power 4 (some .int) RX7 G) (a0 : Int32) (a1 : Int32) (M : xMem) (L : xLL) : ∀ (n : Nat), ∀ (v4_2 : Int32) (v4_3 : Int32), f_X7_power_l4 a0 a1 n v4_2 v4_3 = some rr → ∀ (ls : Array Slot), lv_has ls 4 [(0, .int a0), (1, .int a1), (2, .int v4_2), (3, .int v4_3)] → ∀ (H : Heap) (locs : List Loc), xI G M L s.heap H locs → W p l e (xR 1) s m args below meth c H locs 0 0 (MQ below (xQi G rr M L s.heap.size) args s 0 0 (xZ G s.heap.size)) (F0 m 4 ls []) := by
  have hx := E.1
  have hb := E.2.1
  intro n
  induction n with
  | zero =>
    intro v4_2 v4_3 hf
    exact absurd hf (by simp [f_X7_power_l4])
  | succ n ih =>
    intro v4_2 v4_3 hf ls hl H locs hI
    rw [f_X7_power_l4] at hf
    refine lv_iload_n hx hb dX7_power_4 rfl (lv_at hl 3 rfl) ?_
    refine lv_iload_n hx hb dX7_power_5 rfl (lv_at hl 1 rfl) ?_
    refine lv_icmp_ge (tgt := 19) hx hb dX7_power_6 (by decide) (fun c6 => ?_) (fun c6 => ?_)
    · replace hf := xif_t c6 hf
      refine lv_iload_n hx hb dX7_power_19 rfl (lv_at hl 2 rfl) ?_
      obtain rfl := xinj1 hf
      exact x_iret E hI rfl dX7_power_20
    · replace hf := xif_f c6 hf
      refine lv_iload_n hx hb dX7_power_9 rfl (lv_at hl 2 rfl) ?_
      refine lv_iload_n hx hb dX7_power_10 rfl (lv_at hl 0 rfl) ?_
      refine lv_imul hx hb dX7_power_11 ?_
      refine lv_istore_n (lv' := [(2, .int (v4_2 * a0)), (0, .int a0), (1, .int a1), (3, .int v4_3)]) hx hb dX7_power_12 rfl hl (by decide) rfl (fun ls hl => ?_)
      refine lv_iinc (v := (v4_3 + (1 : Int32))) (lv' := [(3, .int (v4_3 + (1 : Int32))), (2, .int (v4_2 * a0)), (0, .int a0), (1, .int a1)]) hx hb dX7_power_13 hl (k := 3) rfl rfl (by decide) rfl (fun ls hl => ?_)
      refine lv_goto (tgt := 4) hx hb dX7_power_16 (by decide) ?_
      exact ih (v4_2 * a0) (v4_3 + (1 : Int32)) hf _ (lv_sub hl [2, 3, 1, 0] rfl) _ _ hI
set_option maxHeartbeats 4000000 in
set_option maxRecDepth 100000 in
theorem c_X7_power (l : Launch) (G : xG) (sz : Nat) (M : xMem) (L : xLL) (a0 : Int32) (a1 : Int32) {rr : Int32} (hf : f_X7_power a0 a1 M = some rr) : Met l yX7_power (Cond.code yX7_power cX7_power 4 (some .int) :: xTB) (xR 1) (xP G M L sz [.int a0, .int a1]) (xQi G rr M L sz) 0 0 (xZ G sz) := by
  refine x_met (cc := cX7_power) (nL := 4) (rt := (some .int)) (by decide) (Nat.le_of_ble_eq_true rfl) ?_
  intro p e s m below meth c ls hsz E hl hI
  subst hsz
  have E : xE p s m _ meth c cX7_power 4 (some .int) RX7 G := E
  have hx := E.1
  have hb := E.2.1
  have hl : lv_has ls 4 [(0, .int a0), (1, .int a1)] := hl
  rw [f_X7_power] at hf
  refine lv_iconst (v := 1) hx hb dX7_power_0 (by decide) ?_
  refine lv_istore_n (lv' := [(2, .int (1 : Int32)), (0, .int a0), (1, .int a1)]) hx hb dX7_power_1 rfl hl (by decide) rfl (fun ls hl => ?_)
  refine lv_iconst (v := 0) hx hb dX7_power_2 (by decide) ?_
  refine lv_istore_n (lv' := [(3, .int (0 : Int32)), (2, .int (1 : Int32)), (0, .int a0), (1, .int a1)]) hx hb dX7_power_3 rfl hl (by decide) rfl (fun ls hl => ?_)
  exact (w_X7_power_l4 E (a0 := a0) (a1 := a1) (M := M) (L := L) FU) (1 : Int32) (0 : Int32) hf _ (lv_sub hl [2, 3, 1, 0] rfl) _ _ hI
theorem dX7_waysToCrack_0 : decode cX7_waysToCrack 0 = .ok (.iconst 0, 1) := by decide +kernel
theorem dX7_waysToCrack_1 : decode cX7_waysToCrack 1 = .ok (.istore_n 3, 1) := by decide +kernel
theorem dX7_waysToCrack_2 : decode cX7_waysToCrack 2 = .ok (.iconst 1, 1) := by decide +kernel
theorem dX7_waysToCrack_3 : decode cX7_waysToCrack 3 = .ok (.istore 4, 2) := by decide +kernel
theorem dX7_waysToCrack_5 : decode cX7_waysToCrack 5 = .ok (.iconst 0, 1) := by decide +kernel
theorem dX7_waysToCrack_6 : decode cX7_waysToCrack 6 = .ok (.istore 5, 2) := by decide +kernel
theorem dX7_waysToCrack_8 : decode cX7_waysToCrack 8 = .ok (.iload 5, 2) := by decide +kernel
theorem dX7_waysToCrack_10 : decode cX7_waysToCrack 10 = .ok (.iload_n 2, 1) := by decide +kernel
theorem dX7_waysToCrack_11 : decode cX7_waysToCrack 11 = .ok (.if_icmp .gt 53, 3) := by decide +kernel
theorem dX7_waysToCrack_14 : decode cX7_waysToCrack 14 = .ok (.iload 5, 2) := by decide +kernel
theorem dX7_waysToCrack_16 : decode cX7_waysToCrack 16 = .ok (.iload_n 1, 1) := by decide +kernel
theorem dX7_waysToCrack_17 : decode cX7_waysToCrack 17 = .ok (.if_icmp .gt 47, 3) := by decide +kernel
theorem dX7_waysToCrack_20 : decode cX7_waysToCrack 20 = .ok (.iload_n 3, 1) := by decide +kernel
theorem dX7_waysToCrack_21 : decode cX7_waysToCrack 21 = .ok (.iload 4, 2) := by decide +kernel
theorem dX7_waysToCrack_23 : decode cX7_waysToCrack 23 = .ok (.iload_n 0, 1) := by decide +kernel
theorem dX7_waysToCrack_24 : decode cX7_waysToCrack 24 = .ok (.iload 5, 2) := by decide +kernel
theorem dX7_waysToCrack_26 : decode cX7_waysToCrack 26 = .ok (.invokestatic 192, 3) := by decide +kernel
theorem dX7_waysToCrack_29 : decode cX7_waysToCrack 29 = .ok (.imul, 1) := by decide +kernel
theorem dX7_waysToCrack_30 : decode cX7_waysToCrack 30 = .ok (.bipush 10, 2) := by decide +kernel
theorem dX7_waysToCrack_32 : decode cX7_waysToCrack 32 = .ok (.iload_n 0, 1) := by decide +kernel
theorem dX7_waysToCrack_33 : decode cX7_waysToCrack 33 = .ok (.isub, 1) := by decide +kernel
theorem dX7_waysToCrack_34 : decode cX7_waysToCrack 34 = .ok (.iload_n 2, 1) := by decide +kernel
theorem dX7_waysToCrack_35 : decode cX7_waysToCrack 35 = .ok (.iload 5, 2) := by decide +kernel
theorem dX7_waysToCrack_37 : decode cX7_waysToCrack 37 = .ok (.isub, 1) := by decide +kernel
theorem dX7_waysToCrack_38 : decode cX7_waysToCrack 38 = .ok (.invokestatic 192, 3) := by decide +kernel
theorem dX7_waysToCrack_41 : decode cX7_waysToCrack 41 = .ok (.imul, 1) := by decide +kernel
theorem dX7_waysToCrack_42 : decode cX7_waysToCrack 42 = .ok (.iadd, 1) := by decide +kernel
theorem dX7_waysToCrack_43 : decode cX7_waysToCrack 43 = .ok (.istore_n 3, 1) := by decide +kernel
theorem dX7_waysToCrack_44 : decode cX7_waysToCrack 44 = .ok (.iload 4, 2) := by decide +kernel
theorem dX7_waysToCrack_46 : decode cX7_waysToCrack 46 = .ok (.iload_n 2, 1) := by decide +kernel
theorem dX7_waysToCrack_47 : decode cX7_waysToCrack 47 = .ok (.iload 5, 2) := by decide +kernel
theorem dX7_waysToCrack_49 : decode cX7_waysToCrack 49 = .ok (.isub, 1) := by decide +kernel
theorem dX7_waysToCrack_50 : decode cX7_waysToCrack 50 = .ok (.imul, 1) := by decide +kernel
theorem dX7_waysToCrack_51 : decode cX7_waysToCrack 51 = .ok (.iload 5, 2) := by decide +kernel
theorem dX7_waysToCrack_53 : decode cX7_waysToCrack 53 = .ok (.iconst 1, 1) := by decide +kernel
theorem dX7_waysToCrack_54 : decode cX7_waysToCrack 54 = .ok (.iadd, 1) := by decide +kernel
theorem dX7_waysToCrack_55 : decode cX7_waysToCrack 55 = .ok (.idiv, 1) := by decide +kernel
theorem dX7_waysToCrack_56 : decode cX7_waysToCrack 56 = .ok (.istore 4, 2) := by decide +kernel
theorem dX7_waysToCrack_58 : decode cX7_waysToCrack 58 = .ok (.iinc 5 1, 3) := by decide +kernel
theorem dX7_waysToCrack_61 : decode cX7_waysToCrack 61 = .ok (.goto (-53), 3) := by decide +kernel
theorem dX7_waysToCrack_64 : decode cX7_waysToCrack 64 = .ok (.iload_n 3, 1) := by decide +kernel
theorem dX7_waysToCrack_65 : decode cX7_waysToCrack 65 = .ok (.ireturn, 1) := by decide +kernel
def f_X7_waysToCrack_b64 (v8_3 : Int32) : Option (Int32) := some v8_3
def f_X7_waysToCrack_l8 (a0 : Int32) (a1 : Int32) (a2 : Int32) (M : xMem) : Nat → Int32 → Int32 → Int32 → Option (Int32)
  | 0, _, _, _ => none
  | n + 1, v8_3, v8_4, v8_5 => (if a2 < v8_5 then (f_X7_waysToCrack_b64 v8_3) else (if a1 < v8_5 then (f_X7_waysToCrack_b64 v8_3) else xb1 (f_X7_power a0 v8_5 M) (fun r26 => xb1 (f_X7_power ((10 : Int32) - a0) (a2 - v8_5) M) (fun r38 => xchk (xnz (v8_5 + (1 : Int32))) ((f_X7_waysToCrack_l8 a0 a1 a2 M n) (v8_3 + ((v8_4 * r26) * r38)) ((v8_4 * (a2 - v8_5)) / (v8_5 + (1 : Int32))) (v8_5 + (1 : Int32)))))))
def f_X7_waysToCrack (a0 : Int32) (a1 : Int32) (a2 : Int32) (M : xMem) : Option (Int32) := (f_X7_waysToCrack_l8 a0 a1 a2 M FU) (0 : Int32) (1 : Int32) (0 : Int32)
set_option maxHeartbeats 4000000 in
set_option maxRecDepth 100000 in
theorem w_X7_waysToCrack_b64 {p : Program} {l : Launch} {e : Env} {s : State} {m : MethodId} {args : Array Value} {below : List Frame} {meth : Method} {c : Code} {G : xG} {rr : Int32} (E : xE p s m args meth c cX7_waysToCrack 6 (some .int) RX7 G) (M : xMem) (L : xLL) (v8_3 : Int32) : f_X7_waysToCrack_b64 v8_3  = some rr → ∀ (ls : Array Slot), lv_has ls 6 [(3, .int v8_3)] → ∀ (H : Heap) (locs : List Loc), xI G M L s.heap H locs → W p l e (xR 2) s m args below meth c H locs 0 0 (MQ below (xQi G rr M L s.heap.size) args s 0 0 (xZ G s.heap.size)) (F0 m 64 ls []) := by
  have hx := E.1
  have hb := E.2.1
  intro  hf ls hl H locs hI
  rw [f_X7_waysToCrack_b64] at hf
  refine lv_iload_n hx hb dX7_waysToCrack_64 rfl (lv_at hl 0 rfl) ?_
  obtain rfl := xinj1 hf
  exact x_iret E hI rfl dX7_waysToCrack_65
set_option maxHeartbeats 4000000 in
set_option maxRecDepth 100000 in
theorem w_X7_waysToCrack_l8 {p : Program} {l : Launch} {e : Env} {s : State} {m : MethodId} {args : Array Value} {below : List Frame} {meth : Method} {c : Code} {G : xG} {rr : Int32} (E : xE p s m args meth c cX7_waysToCrack 6 (some .int) RX7 G) (a0 : Int32) (a1 : Int32) (a2 : Int32) (M : xMem) (L : xLL) : ∀ (n : Nat), ∀ (v8_3 : Int32) (v8_4 : Int32) (v8_5 : Int32), f_X7_waysToCrack_l8 a0 a1 a2 M n v8_3 v8_4 v8_5 = some rr → ∀ (ls : Array Slot), lv_has ls 6 [(0, .int a0), (1, .int a1), (2, .int a2), (3, .int v8_3), (4, .int v8_4), (5, .int v8_5)] → ∀ (H : Heap) (locs : List Loc), xI G M L s.heap H locs → W p l e (xR 2) s m args below meth c H locs 0 0 (MQ below (xQi G rr M L s.heap.size) args s 0 0 (xZ G s.heap.size)) (F0 m 8 ls []) := by
  have hx := E.1
  have hb := E.2.1
  intro n
  induction n with
  | zero =>
    intro v8_3 v8_4 v8_5 hf
    exact absurd hf (by simp [f_X7_waysToCrack_l8])
  | succ n ih =>
    intro v8_3 v8_4 v8_5 hf ls hl H locs hI
    rw [f_X7_waysToCrack_l8] at hf
    refine lv_iload hx hb dX7_waysToCrack_8 (lv_at hl 5 rfl) ?_
    refine lv_iload_n hx hb dX7_waysToCrack_10 rfl (lv_at hl 2 rfl) ?_
    refine lv_icmp_gt (tgt := 64) hx hb dX7_waysToCrack_11 (by decide) (fun c11 => ?_) (fun c11 => ?_)
    · replace hf := xif_t c11 hf
      exact (w_X7_waysToCrack_b64 E (M := M) (L := L) (v8_3 := v8_3))  hf _ (lv_sub hl [3] rfl) _ _ hI
    · replace hf := xif_f c11 hf
      refine lv_iload hx hb dX7_waysToCrack_14 (lv_at hl 5 rfl) ?_
      refine lv_iload_n hx hb dX7_waysToCrack_16 rfl (lv_at hl 1 rfl) ?_
      refine lv_icmp_gt (tgt := 64) hx hb dX7_waysToCrack_17 (by decide) (fun c17 => ?_) (fun c17 => ?_)
      · replace hf := xif_t c17 hf
        exact (w_X7_waysToCrack_b64 E (M := M) (L := L) (v8_3 := v8_3))  hf _ (lv_sub hl [3] rfl) _ _ hI
      · replace hf := xif_f c17 hf
        refine lv_iload_n hx hb dX7_waysToCrack_20 rfl (lv_at hl 3 rfl) ?_
        refine lv_iload hx hb dX7_waysToCrack_21 (lv_at hl 4 rfl) ?_
        refine lv_iload_n hx hb dX7_waysToCrack_23 rfl (lv_at hl 0 rfl) ?_
        refine lv_iload hx hb dX7_waysToCrack_24 (lv_at hl 5 rfl) ?_
        obtain ⟨r26, g26, hf⟩ := xb1_s hf
        refine x_callSi (As := [.int a0, .int v8_5]) (rest := [.int v8_4, .int v8_3]) E hI (c_X7_power l G _ (M := M) (L := L) (a0 := a0) (a1 := v8_5) g26) ys_X7_power ml_X7_192 (by decide) (by decide) rfl rfl hl.1 (Nat.le_of_ble_eq_true rfl) dX7_waysToCrack_26 (fun H locs hI => ?_)
        refine lv_imul hx hb dX7_waysToCrack_29 ?_
        refine lv_bipush (v := 10) hx hb dX7_waysToCrack_30 (by decide) ?_
        refine lv_iload_n hx hb dX7_waysToCrack_32 rfl (lv_at hl 0 rfl) ?_
        refine lv_isub hx hb dX7_waysToCrack_33 ?_
        refine lv_iload_n hx hb dX7_waysToCrack_34 rfl (lv_at hl 2 rfl) ?_
        refine lv_iload hx hb dX7_waysToCrack_35 (lv_at hl 5 rfl) ?_
        refine lv_isub hx hb dX7_waysToCrack_37 ?_
        obtain ⟨r38, g38, hf⟩ := xb1_s hf
        refine x_callSi (As := [.int ((10 : Int32) - a0), .int (a2 - v8_5)]) (rest := [.int (v8_4 * r26), .int v8_3]) E hI (c_X7_power l G _ (M := M) (L := L) (a0 := ((10 : Int32) - a0)) (a1 := (a2 - v8_5)) g38) ys_X7_power ml_X7_192 (by decide) (by decide) rfl rfl hl.1 (Nat.le_of_ble_eq_true rfl) dX7_waysToCrack_38 (fun H locs hI => ?_)
        refine lv_imul hx hb dX7_waysToCrack_41 ?_
        refine lv_iadd hx hb dX7_waysToCrack_42 ?_
        refine lv_istore_n (lv' := [(3, .int (v8_3 + ((v8_4 * r26) * r38))), (0, .int a0), (1, .int a1), (2, .int a2), (4, .int v8_4), (5, .int v8_5)]) hx hb dX7_waysToCrack_43 rfl hl (by decide) rfl (fun ls hl => ?_)
        refine lv_iload hx hb dX7_waysToCrack_44 (lv_at hl 4 rfl) ?_
        refine lv_iload_n hx hb dX7_waysToCrack_46 rfl (lv_at hl 3 rfl) ?_
        refine lv_iload hx hb dX7_waysToCrack_47 (lv_at hl 5 rfl) ?_
        refine lv_isub hx hb dX7_waysToCrack_49 ?_
        refine lv_imul hx hb dX7_waysToCrack_50 ?_
        refine lv_iload hx hb dX7_waysToCrack_51 (lv_at hl 5 rfl) ?_
        refine lv_iconst (v := 1) hx hb dX7_waysToCrack_53 (by decide) ?_
        refine lv_iadd hx hb dX7_waysToCrack_54 ?_
        obtain ⟨h55z, hf⟩ := xchk_s hf
        refine lv_idiv hx hb dX7_waysToCrack_55 (xnz_s h55z) ?_
        refine lv_istore (lv' := [(4, .int ((v8_4 * (a2 - v8_5)) / (v8_5 + (1 : Int32)))), (3, .int (v8_3 + ((v8_4 * r26) * r38))), (0, .int a0), (1, .int a1), (2, .int a2), (5, .int v8_5)]) hx hb dX7_waysToCrack_56 hl (by decide) rfl (fun ls hl => ?_)
        refine lv_iinc (v := (v8_5 + (1 : Int32))) (lv' := [(5, .int (v8_5 + (1 : Int32))), (4, .int ((v8_4 * (a2 - v8_5)) / (v8_5 + (1 : Int32)))), (3, .int (v8_3 + ((v8_4 * r26) * r38))), (0, .int a0), (1, .int a1), (2, .int a2)]) hx hb dX7_waysToCrack_58 hl (k := 5) rfl rfl (by decide) rfl (fun ls hl => ?_)
        refine lv_goto (tgt := 8) hx hb dX7_waysToCrack_61 (by decide) ?_
        exact ih (v8_3 + ((v8_4 * r26) * r38)) ((v8_4 * (a2 - v8_5)) / (v8_5 + (1 : Int32))) (v8_5 + (1 : Int32)) hf _ (lv_sub hl [3, 4, 5, 2, 1, 0] rfl) _ _ hI
set_option maxHeartbeats 4000000 in
set_option maxRecDepth 100000 in
theorem c_X7_waysToCrack (l : Launch) (G : xG) (sz : Nat) (M : xMem) (L : xLL) (a0 : Int32) (a1 : Int32) (a2 : Int32) {rr : Int32} (hf : f_X7_waysToCrack a0 a1 a2 M = some rr) : Met l yX7_waysToCrack (Cond.code yX7_waysToCrack cX7_waysToCrack 6 (some .int) :: xTB) (xR 2) (xP G M L sz [.int a0, .int a1, .int a2]) (xQi G rr M L sz) 0 0 (xZ G sz) := by
  refine x_met (cc := cX7_waysToCrack) (nL := 6) (rt := (some .int)) (by decide) (Nat.le_of_ble_eq_true rfl) ?_
  intro p e s m below meth c ls hsz E hl hI
  subst hsz
  have E : xE p s m _ meth c cX7_waysToCrack 6 (some .int) RX7 G := E
  have hx := E.1
  have hb := E.2.1
  have hl : lv_has ls 6 [(0, .int a0), (1, .int a1), (2, .int a2)] := hl
  rw [f_X7_waysToCrack] at hf
  refine lv_iconst (v := 0) hx hb dX7_waysToCrack_0 (by decide) ?_
  refine lv_istore_n (lv' := [(3, .int (0 : Int32)), (0, .int a0), (1, .int a1), (2, .int a2)]) hx hb dX7_waysToCrack_1 rfl hl (by decide) rfl (fun ls hl => ?_)
  refine lv_iconst (v := 1) hx hb dX7_waysToCrack_2 (by decide) ?_
  refine lv_istore (lv' := [(4, .int (1 : Int32)), (3, .int (0 : Int32)), (0, .int a0), (1, .int a1), (2, .int a2)]) hx hb dX7_waysToCrack_3 hl (by decide) rfl (fun ls hl => ?_)
  refine lv_iconst (v := 0) hx hb dX7_waysToCrack_5 (by decide) ?_
  refine lv_istore (lv' := [(5, .int (0 : Int32)), (4, .int (1 : Int32)), (3, .int (0 : Int32)), (0, .int a0), (1, .int a1), (2, .int a2)]) hx hb dX7_waysToCrack_6 hl (by decide) rfl (fun ls hl => ?_)
  exact (w_X7_waysToCrack_l8 E (a0 := a0) (a1 := a1) (a2 := a2) (M := M) (L := L) FU) (0 : Int32) (1 : Int32) (0 : Int32) hf _ (lv_sub hl [3, 4, 5, 2, 1, 0] rfl) _ _ hI
theorem dX7_greatestCommon_0 : decode cX7_greatestCommon 0 = .ok (.iload_n 0, 1) := by decide +kernel
theorem dX7_greatestCommon_1 : decode cX7_greatestCommon 1 = .ok (.istore_n 2, 1) := by decide +kernel
theorem dX7_greatestCommon_2 : decode cX7_greatestCommon 2 = .ok (.iload_n 1, 1) := by decide +kernel
theorem dX7_greatestCommon_3 : decode cX7_greatestCommon 3 = .ok (.istore_n 3, 1) := by decide +kernel
theorem dX7_greatestCommon_4 : decode cX7_greatestCommon 4 = .ok (.iconst 0, 1) := by decide +kernel
theorem dX7_greatestCommon_5 : decode cX7_greatestCommon 5 = .ok (.istore 4, 2) := by decide +kernel
theorem dX7_greatestCommon_7 : decode cX7_greatestCommon 7 = .ok (.iload 4, 2) := by decide +kernel
theorem dX7_greatestCommon_9 : decode cX7_greatestCommon 9 = .ok (.bipush 64, 2) := by decide +kernel
theorem dX7_greatestCommon_11 : decode cX7_greatestCommon 11 = .ok (.if_icmp .ge 23, 3) := by decide +kernel
theorem dX7_greatestCommon_14 : decode cX7_greatestCommon 14 = .ok (.iload_n 3, 1) := by decide +kernel
theorem dX7_greatestCommon_15 : decode cX7_greatestCommon 15 = .ok (.ifCond .eq 19, 3) := by decide +kernel
theorem dX7_greatestCommon_18 : decode cX7_greatestCommon 18 = .ok (.iload_n 2, 1) := by decide +kernel
theorem dX7_greatestCommon_19 : decode cX7_greatestCommon 19 = .ok (.iload_n 3, 1) := by decide +kernel
theorem dX7_greatestCommon_20 : decode cX7_greatestCommon 20 = .ok (.irem, 1) := by decide +kernel
theorem dX7_greatestCommon_21 : decode cX7_greatestCommon 21 = .ok (.istore 5, 2) := by decide +kernel
theorem dX7_greatestCommon_23 : decode cX7_greatestCommon 23 = .ok (.iload_n 3, 1) := by decide +kernel
theorem dX7_greatestCommon_24 : decode cX7_greatestCommon 24 = .ok (.istore_n 2, 1) := by decide +kernel
theorem dX7_greatestCommon_25 : decode cX7_greatestCommon 25 = .ok (.iload 5, 2) := by decide +kernel
theorem dX7_greatestCommon_27 : decode cX7_greatestCommon 27 = .ok (.istore_n 3, 1) := by decide +kernel
theorem dX7_greatestCommon_28 : decode cX7_greatestCommon 28 = .ok (.iinc 4 1, 3) := by decide +kernel
theorem dX7_greatestCommon_31 : decode cX7_greatestCommon 31 = .ok (.goto (-24), 3) := by decide +kernel
theorem dX7_greatestCommon_34 : decode cX7_greatestCommon 34 = .ok (.iload_n 2, 1) := by decide +kernel
theorem dX7_greatestCommon_35 : decode cX7_greatestCommon 35 = .ok (.ireturn, 1) := by decide +kernel
def f_X7_greatestCommon_b34 (v7_2 : Int32) : Option (Int32) := some v7_2
def f_X7_greatestCommon_l7 : Nat → Int32 → Int32 → Int32 → Option (Int32)
  | 0, _, _, _ => none
  | n + 1, v7_2, v7_3, v7_4 => (if (64 : Int32) ≤ v7_4 then (f_X7_greatestCommon_b34 v7_2) else (if v7_3 = (0 : Int32) then (f_X7_greatestCommon_b34 v7_2) else xchk (xnz v7_3) ((f_X7_greatestCommon_l7 n) v7_3 (v7_2 - v7_2 / v7_3 * v7_3) (v7_4 + (1 : Int32)))))
def f_X7_greatestCommon (a0 : Int32) (a1 : Int32) (M : xMem) : Option (Int32) := (f_X7_greatestCommon_l7 FU) a0 a1 (0 : Int32)
set_option maxHeartbeats 4000000 in
set_option maxRecDepth 100000 in
theorem w_X7_greatestCommon_b34 {p : Program} {l : Launch} {e : Env} {s : State} {m : MethodId} {args : Array Value} {below : List Frame} {meth : Method} {c : Code} {G : xG} {rr : Int32} (E : xE p s m args meth c cX7_greatestCommon 6 (some .int) RX7 G) (M : xMem) (L : xLL) (v7_2 : Int32) : f_X7_greatestCommon_b34 v7_2  = some rr → ∀ (ls : Array Slot), lv_has ls 6 [(2, .int v7_2)] → ∀ (H : Heap) (locs : List Loc), xI G M L s.heap H locs → W p l e (xR 1) s m args below meth c H locs 0 0 (MQ below (xQi G rr M L s.heap.size) args s 0 0 (xZ G s.heap.size)) (F0 m 34 ls []) := by
  have hx := E.1
  have hb := E.2.1
  intro  hf ls hl H locs hI
  rw [f_X7_greatestCommon_b34] at hf
  refine lv_iload_n hx hb dX7_greatestCommon_34 rfl (lv_at hl 0 rfl) ?_
  obtain rfl := xinj1 hf
  exact x_iret E hI rfl dX7_greatestCommon_35
set_option maxHeartbeats 4000000 in
set_option maxRecDepth 100000 in
theorem w_X7_greatestCommon_l7 {p : Program} {l : Launch} {e : Env} {s : State} {m : MethodId} {args : Array Value} {below : List Frame} {meth : Method} {c : Code} {G : xG} {rr : Int32} (E : xE p s m args meth c cX7_greatestCommon 6 (some .int) RX7 G) (M : xMem) (L : xLL) : ∀ (n : Nat), ∀ (v7_2 : Int32) (v7_3 : Int32) (v7_4 : Int32), f_X7_greatestCommon_l7  n v7_2 v7_3 v7_4 = some rr → ∀ (ls : Array Slot), lv_has ls 6 [(2, .int v7_2), (3, .int v7_3), (4, .int v7_4)] → ∀ (H : Heap) (locs : List Loc), xI G M L s.heap H locs → W p l e (xR 1) s m args below meth c H locs 0 0 (MQ below (xQi G rr M L s.heap.size) args s 0 0 (xZ G s.heap.size)) (F0 m 7 ls []) := by
  have hx := E.1
  have hb := E.2.1
  intro n
  induction n with
  | zero =>
    intro v7_2 v7_3 v7_4 hf
    exact absurd hf (by simp [f_X7_greatestCommon_l7])
  | succ n ih =>
    intro v7_2 v7_3 v7_4 hf ls hl H locs hI
    rw [f_X7_greatestCommon_l7] at hf
    refine lv_iload hx hb dX7_greatestCommon_7 (lv_at hl 2 rfl) ?_
    refine lv_bipush (v := 64) hx hb dX7_greatestCommon_9 (by decide) ?_
    refine lv_icmp_ge (tgt := 34) hx hb dX7_greatestCommon_11 (by decide) (fun c11 => ?_) (fun c11 => ?_)
    · replace hf := xif_t c11 hf
      exact (w_X7_greatestCommon_b34 E (M := M) (L := L) (v7_2 := v7_2))  hf _ (lv_sub hl [0] rfl) _ _ hI
    · replace hf := xif_f c11 hf
      refine lv_iload_n hx hb dX7_greatestCommon_14 rfl (lv_at hl 1 rfl) ?_
      refine lv_if_eq (tgt := 34) hx hb dX7_greatestCommon_15 (by decide) (fun c15 => ?_) (fun c15 => ?_)
      · replace hf := xif_t c15 hf
        exact (w_X7_greatestCommon_b34 E (M := M) (L := L) (v7_2 := v7_2))  hf _ (lv_sub hl [0] rfl) _ _ hI
      · replace hf := xif_f c15 hf
        refine lv_iload_n hx hb dX7_greatestCommon_18 rfl (lv_at hl 0 rfl) ?_
        refine lv_iload_n hx hb dX7_greatestCommon_19 rfl (lv_at hl 1 rfl) ?_
        obtain ⟨h20z, hf⟩ := xchk_s hf
        refine lv_irem hx hb dX7_greatestCommon_20 (xnz_s h20z) ?_
        refine lv_istore (lv' := [(5, .int (v7_2 - v7_2 / v7_3 * v7_3)), (2, .int v7_2), (3, .int v7_3), (4, .int v7_4)]) hx hb dX7_greatestCommon_21 hl (by decide) rfl (fun ls hl => ?_)
        refine lv_iload_n hx hb dX7_greatestCommon_23 rfl (lv_at hl 2 rfl) ?_
        refine lv_istore_n (lv' := [(2, .int v7_3), (5, .int (v7_2 - v7_2 / v7_3 * v7_3)), (3, .int v7_3), (4, .int v7_4)]) hx hb dX7_greatestCommon_24 rfl hl (by decide) rfl (fun ls hl => ?_)
        refine lv_iload hx hb dX7_greatestCommon_25 (lv_at hl 1 rfl) ?_
        refine lv_istore_n (lv' := [(3, .int (v7_2 - v7_2 / v7_3 * v7_3)), (2, .int v7_3), (5, .int (v7_2 - v7_2 / v7_3 * v7_3)), (4, .int v7_4)]) hx hb dX7_greatestCommon_27 rfl hl (by decide) rfl (fun ls hl => ?_)
        refine lv_iinc (v := (v7_4 + (1 : Int32))) (lv' := [(4, .int (v7_4 + (1 : Int32))), (3, .int (v7_2 - v7_2 / v7_3 * v7_3)), (2, .int v7_3), (5, .int (v7_2 - v7_2 / v7_3 * v7_3))]) hx hb dX7_greatestCommon_28 hl (k := 3) rfl rfl (by decide) rfl (fun ls hl => ?_)
        refine lv_goto (tgt := 7) hx hb dX7_greatestCommon_31 (by decide) ?_
        exact ih v7_3 (v7_2 - v7_2 / v7_3 * v7_3) (v7_4 + (1 : Int32)) hf _ (lv_sub hl [2, 1, 0] rfl) _ _ hI
set_option maxHeartbeats 4000000 in
set_option maxRecDepth 100000 in
theorem c_X7_greatestCommon (l : Launch) (G : xG) (sz : Nat) (M : xMem) (L : xLL) (a0 : Int32) (a1 : Int32) {rr : Int32} (hf : f_X7_greatestCommon a0 a1 M = some rr) : Met l yX7_greatestCommon (Cond.code yX7_greatestCommon cX7_greatestCommon 6 (some .int) :: xTB) (xR 1) (xP G M L sz [.int a0, .int a1]) (xQi G rr M L sz) 0 0 (xZ G sz) := by
  refine x_met (cc := cX7_greatestCommon) (nL := 6) (rt := (some .int)) (by decide) (Nat.le_of_ble_eq_true rfl) ?_
  intro p e s m below meth c ls hsz E hl hI
  subst hsz
  have E : xE p s m _ meth c cX7_greatestCommon 6 (some .int) RX7 G := E
  have hx := E.1
  have hb := E.2.1
  have hl : lv_has ls 6 [(0, .int a0), (1, .int a1)] := hl
  rw [f_X7_greatestCommon] at hf
  refine lv_iload_n hx hb dX7_greatestCommon_0 rfl (lv_at hl 0 rfl) ?_
  refine lv_istore_n (lv' := [(2, .int a0), (0, .int a0), (1, .int a1)]) hx hb dX7_greatestCommon_1 rfl hl (by decide) rfl (fun ls hl => ?_)
  refine lv_iload_n hx hb dX7_greatestCommon_2 rfl (lv_at hl 2 rfl) ?_
  refine lv_istore_n (lv' := [(3, .int a1), (2, .int a0), (0, .int a0), (1, .int a1)]) hx hb dX7_greatestCommon_3 rfl hl (by decide) rfl (fun ls hl => ?_)
  refine lv_iconst (v := 0) hx hb dX7_greatestCommon_4 (by decide) ?_
  refine lv_istore (lv' := [(4, .int (0 : Int32)), (3, .int a1), (2, .int a0), (0, .int a0), (1, .int a1)]) hx hb dX7_greatestCommon_5 hl (by decide) rfl (fun ls hl => ?_)
  exact (w_X7_greatestCommon_l7 E (M := M) (L := L) FU) a0 a1 (0 : Int32) hf _ (lv_sub hl [2, 1, 0] rfl) _ _ hI
theorem dX7_cracks_0 : decode cX7_cracks 0 = .ok (.iload_n 1, 1) := by decide +kernel
theorem dX7_cracks_1 : decode cX7_cracks 1 = .ok (.iconst 0, 1) := by decide +kernel
theorem dX7_cracks_2 : decode cX7_cracks 2 = .ok (.bipush 10, 2) := by decide +kernel
theorem dX7_cracks_4 : decode cX7_cracks 4 = .ok (.invokestatic 73, 3) := by decide +kernel
theorem dX7_cracks_7 : decode cX7_cracks 7 = .ok (.ifCond .ne 22, 3) := by decide +kernel
theorem dX7_cracks_10 : decode cX7_cracks 10 = .ok (.iload_n 2, 1) := by decide +kernel
theorem dX7_cracks_11 : decode cX7_cracks 11 = .ok (.iconst 0, 1) := by decide +kernel
theorem dX7_cracks_12 : decode cX7_cracks 12 = .ok (.bipush 6, 2) := by decide +kernel
theorem dX7_cracks_14 : decode cX7_cracks 14 = .ok (.invokestatic 73, 3) := by decide +kernel
theorem dX7_cracks_17 : decode cX7_cracks 17 = .ok (.ifCond .ne 12, 3) := by decide +kernel
theorem dX7_cracks_20 : decode cX7_cracks 20 = .ok (.iload_n 3, 1) := by decide +kernel
theorem dX7_cracks_21 : decode cX7_cracks 21 = .ok (.iconst 0, 1) := by decide +kernel
theorem dX7_cracks_22 : decode cX7_cracks 22 = .ok (.iconst 1, 1) := by decide +kernel
theorem dX7_cracks_23 : decode cX7_cracks 23 = .ok (.invokestatic 73, 3) := by decide +kernel
theorem dX7_cracks_26 : decode cX7_cracks 26 = .ok (.ifCond .eq 5, 3) := by decide +kernel
theorem dX7_cracks_29 : decode cX7_cracks 29 = .ok (.iconst (-1), 1) := by decide +kernel
theorem dX7_cracks_30 : decode cX7_cracks 30 = .ok (.ireturn, 1) := by decide +kernel
theorem dX7_cracks_31 : decode cX7_cracks 31 = .ok (.aload_n 0, 1) := by decide +kernel
theorem dX7_cracks_32 : decode cX7_cracks 32 = .ok (.getfield 28, 3) := by decide +kernel
theorem dX7_cracks_35 : decode cX7_cracks 35 = .ok (.invokevirtual 189, 3) := by decide +kernel
theorem dX7_cracks_38 : decode cX7_cracks 38 = .ok (.istore 4, 2) := by decide +kernel
theorem dX7_cracks_40 : decode cX7_cracks 40 = .ok (.bipush 10, 2) := by decide +kernel
theorem dX7_cracks_42 : decode cX7_cracks 42 = .ok (.iload 4, 2) := by decide +kernel
theorem dX7_cracks_44 : decode cX7_cracks 44 = .ok (.invokestatic 192, 3) := by decide +kernel
theorem dX7_cracks_47 : decode cX7_cracks 47 = .ok (.istore 5, 2) := by decide +kernel
theorem dX7_cracks_49 : decode cX7_cracks 49 = .ok (.iload_n 1, 1) := by decide +kernel
theorem dX7_cracks_50 : decode cX7_cracks 50 = .ok (.iload_n 2, 1) := by decide +kernel
theorem dX7_cracks_51 : decode cX7_cracks 51 = .ok (.iload 4, 2) := by decide +kernel
theorem dX7_cracks_53 : decode cX7_cracks 53 = .ok (.invokestatic 195, 3) := by decide +kernel
theorem dX7_cracks_56 : decode cX7_cracks 56 = .ok (.istore 6, 2) := by decide +kernel
theorem dX7_cracks_58 : decode cX7_cracks 58 = .ok (.iload 5, 2) := by decide +kernel
theorem dX7_cracks_60 : decode cX7_cracks 60 = .ok (.iload 6, 2) := by decide +kernel
theorem dX7_cracks_62 : decode cX7_cracks 62 = .ok (.invokestatic 199, 3) := by decide +kernel
theorem dX7_cracks_65 : decode cX7_cracks 65 = .ok (.istore 7, 2) := by decide +kernel
theorem dX7_cracks_67 : decode cX7_cracks 67 = .ok (.iload 7, 2) := by decide +kernel
theorem dX7_cracks_69 : decode cX7_cracks 69 = .ok (.ifCond .ne 5, 3) := by decide +kernel
theorem dX7_cracks_72 : decode cX7_cracks 72 = .ok (.iconst (-1), 1) := by decide +kernel
theorem dX7_cracks_73 : decode cX7_cracks 73 = .ok (.ireturn, 1) := by decide +kernel
theorem dX7_cracks_74 : decode cX7_cracks 74 = .ok (.iload_n 3, 1) := by decide +kernel
theorem dX7_cracks_75 : decode cX7_cracks 75 = .ok (.ifCond .ne 8, 3) := by decide +kernel
theorem dX7_cracks_78 : decode cX7_cracks 78 = .ok (.iload 6, 2) := by decide +kernel
theorem dX7_cracks_80 : decode cX7_cracks 80 = .ok (.goto 5, 3) := by decide +kernel
theorem dX7_cracks_83 : decode cX7_cracks 83 = .ok (.iload 5, 2) := by decide +kernel
theorem dX7_cracks_85 : decode cX7_cracks 85 = .ok (.iload 7, 2) := by decide +kernel
theorem dX7_cracks_87 : decode cX7_cracks 87 = .ok (.idiv, 1) := by decide +kernel
theorem dX7_cracks_88 : decode cX7_cracks 88 = .ok (.ireturn, 1) := by decide +kernel
def f_X7_cracks_b29 : Option (Int32) := some (-1 : Int32)
def f_X7_cracks_b85 (r62 : Int32) (t85_0 : Int32) : Option (Int32) := xchk (xnz r62) (some (t85_0 / r62))
def f_X7_cracks (a1 : Int32) (a2 : Int32) (a3 : Int32) (M : xMem) : Option (Int32) := xb1 (f_X7_beyond a1 (0 : Int32) (10 : Int32) M) (fun r4 => (if r4 = (0 : Int32) then xb1 (f_X7_beyond a2 (0 : Int32) (6 : Int32) M) (fun r14 => (if r14 = (0 : Int32) then xb1 (f_X7_beyond a3 (0 : Int32) (1 : Int32) M) (fun r23 => (if r23 = (0 : Int32) then xb1 (f_X0_wholeInNest 0 M) (fun r35 => xb1 (f_X7_power (10 : Int32) r35 M) (fun r44 => xb1 (f_X7_waysToCrack a1 a2 r35 M) (fun r53 => xb1 (f_X7_greatestCommon r44 r53 M) (fun r62 => (if r62 = (0 : Int32) then some (-1 : Int32) else (if a3 = (0 : Int32) then (f_X7_cracks_b85 r62) r53 else (f_X7_cracks_b85 r62) r44)))))) else (f_X7_cracks_b29))) else (f_X7_cracks_b29))) else (f_X7_cracks_b29)))
set_option maxHeartbeats 4000000 in
set_option maxRecDepth 100000 in
theorem w_X7_cracks_b29 {p : Program} {l : Launch} {e : Env} {s : State} {m : MethodId} {args : Array Value} {below : List Frame} {meth : Method} {c : Code} {G : xG} {rr : Int32} (E : xE p s m args meth c cX7_cracks 8 (some .int) RX7 G) (M : xMem) (L : xLL) : f_X7_cracks_b29  = some rr → ∀ (ls : Array Slot), lv_has ls 8 [] → ∀ (H : Heap) (locs : List Loc), xI G M L s.heap H locs → W p l e (xR 3) s m args below meth c H locs 0 0 (MQ below (xQi G rr M L s.heap.size) args s 0 0 (xZ G s.heap.size)) (F0 m 29 ls []) := by
  have hx := E.1
  have hb := E.2.1
  intro  hf ls hl H locs hI
  rw [f_X7_cracks_b29] at hf
  refine lv_iconst (v := -1) hx hb dX7_cracks_29 (by decide) ?_
  obtain rfl := xinj1 hf
  exact x_iret E hI rfl dX7_cracks_30
set_option maxHeartbeats 4000000 in
set_option maxRecDepth 100000 in
theorem w_X7_cracks_b85 {p : Program} {l : Launch} {e : Env} {s : State} {m : MethodId} {args : Array Value} {below : List Frame} {meth : Method} {c : Code} {G : xG} {rr : Int32} (E : xE p s m args meth c cX7_cracks 8 (some .int) RX7 G) (M : xMem) (L : xLL) (r62 : Int32) : ∀ (t85_0 : Int32), f_X7_cracks_b85 r62 t85_0 = some rr → ∀ (ls : Array Slot), lv_has ls 8 [(7, .int r62)] → ∀ (H : Heap) (locs : List Loc), xI G M L s.heap H locs → W p l e (xR 3) s m args below meth c H locs 0 0 (MQ below (xQi G rr M L s.heap.size) args s 0 0 (xZ G s.heap.size)) (F0 m 85 ls [.int t85_0]) := by
  have hx := E.1
  have hb := E.2.1
  intro t85_0 hf ls hl H locs hI
  rw [f_X7_cracks_b85] at hf
  refine lv_iload hx hb dX7_cracks_85 (lv_at hl 0 rfl) ?_
  obtain ⟨h87z, hf⟩ := xchk_s hf
  refine lv_idiv hx hb dX7_cracks_87 (xnz_s h87z) ?_
  obtain rfl := xinj1 hf
  exact x_iret E hI rfl dX7_cracks_88
set_option maxHeartbeats 4000000 in
set_option maxRecDepth 100000 in
theorem c_X7_cracks (l : Launch) (G : xG) (sz : Nat) (M : xMem) (L : xLL) (a1 : Int32) (a2 : Int32) (a3 : Int32) {rr : Int32} (hf : f_X7_cracks a1 a2 a3 M = some rr) : Met l yX7_cracks (Cond.code yX7_cracks cX7_cracks 8 (some .int) :: xTB) (xR 3) (xP G M L sz [.ref (xq G 0 0), .int a1, .int a2, .int a3]) (xQi G rr M L sz) 0 0 (xZ G sz) := by
  refine x_met (cc := cX7_cracks) (nL := 8) (rt := (some .int)) (by decide) (Nat.le_of_ble_eq_true rfl) ?_
  intro p e s m below meth c ls hsz E hl hI
  subst hsz
  have E : xE p s m _ meth c cX7_cracks 8 (some .int) RX7 G := E
  have hx := E.1
  have hb := E.2.1
  have hl : lv_has ls 8 [(0, .ref (xq G 0 0)), (1, .int a1), (2, .int a2), (3, .int a3)] := hl
  rw [f_X7_cracks] at hf
  refine lv_iload_n hx hb dX7_cracks_0 rfl (lv_at hl 1 rfl) ?_
  refine lv_iconst (v := 0) hx hb dX7_cracks_1 (by decide) ?_
  refine lv_bipush (v := 10) hx hb dX7_cracks_2 (by decide) ?_
  obtain ⟨r4, g4, hf⟩ := xb1_s hf
  refine x_callSi (As := [.int a1, .int (0 : Int32), .int (10 : Int32)]) (rest := []) E hI (c_X7_beyond l G _ (M := M) (L := L) (a0 := a1) (a1 := (0 : Int32)) (a2 := (10 : Int32)) g4) ys_X7_beyond ml_X7_73 (by decide) (by decide) rfl rfl hl.1 (Nat.le_of_ble_eq_true rfl) dX7_cracks_4 (fun H locs hI => ?_)
  refine lv_if_ne (tgt := 29) hx hb dX7_cracks_7 (by decide) (fun c7 => ?_) (fun c7 => ?_)
  · replace hf := xif_f c7 hf
    exact (w_X7_cracks_b29 E (M := M) (L := L))  hf _ (lv_sub hl [] rfl) _ _ hI
  · replace hf := xif_t c7 hf
    refine lv_iload_n hx hb dX7_cracks_10 rfl (lv_at hl 2 rfl) ?_
    refine lv_iconst (v := 0) hx hb dX7_cracks_11 (by decide) ?_
    refine lv_bipush (v := 6) hx hb dX7_cracks_12 (by decide) ?_
    obtain ⟨r14, g14, hf⟩ := xb1_s hf
    refine x_callSi (As := [.int a2, .int (0 : Int32), .int (6 : Int32)]) (rest := []) E hI (c_X7_beyond l G _ (M := M) (L := L) (a0 := a2) (a1 := (0 : Int32)) (a2 := (6 : Int32)) g14) ys_X7_beyond ml_X7_73 (by decide) (by decide) rfl rfl hl.1 (Nat.le_of_ble_eq_true rfl) dX7_cracks_14 (fun H locs hI => ?_)
    refine lv_if_ne (tgt := 29) hx hb dX7_cracks_17 (by decide) (fun c17 => ?_) (fun c17 => ?_)
    · replace hf := xif_f c17 hf
      exact (w_X7_cracks_b29 E (M := M) (L := L))  hf _ (lv_sub hl [] rfl) _ _ hI
    · replace hf := xif_t c17 hf
      refine lv_iload_n hx hb dX7_cracks_20 rfl (lv_at hl 3 rfl) ?_
      refine lv_iconst (v := 0) hx hb dX7_cracks_21 (by decide) ?_
      refine lv_iconst (v := 1) hx hb dX7_cracks_22 (by decide) ?_
      obtain ⟨r23, g23, hf⟩ := xb1_s hf
      refine x_callSi (As := [.int a3, .int (0 : Int32), .int (1 : Int32)]) (rest := []) E hI (c_X7_beyond l G _ (M := M) (L := L) (a0 := a3) (a1 := (0 : Int32)) (a2 := (1 : Int32)) g23) ys_X7_beyond ml_X7_73 (by decide) (by decide) rfl rfl hl.1 (Nat.le_of_ble_eq_true rfl) dX7_cracks_23 (fun H locs hI => ?_)
      refine lv_if_eq (tgt := 31) hx hb dX7_cracks_26 (by decide) (fun c26 => ?_) (fun c26 => ?_)
      · replace hf := xif_t c26 hf
        refine lv_aload_n hx hb dX7_cracks_31 rfl (lv_at hl 0 rfl) ?_
        refine gf_X7_28 E hI dX7_cracks_32 ?_
        obtain ⟨r35, g35, hf⟩ := xb1_s hf
        refine x_callVi (As := []) (rest := []) E hI (mf_0 (by decide)) rfl rfl rfl (c_X0_wholeInNest l G _ (M := M) (L := L) (i := 0) (hi := (by decide)) g35) yv_X0_wholeInNest ml_X7_189 (by decide) (by decide) rfl rfl hl.1 (Nat.le_of_ble_eq_true rfl) dX7_cracks_35 (fun H locs hI => ?_)
        refine lv_istore (lv' := [(4, .int r35), (0, .ref (xq G 0 0)), (1, .int a1), (2, .int a2), (3, .int a3)]) hx hb dX7_cracks_38 hl (by decide) rfl (fun ls hl => ?_)
        refine lv_bipush (v := 10) hx hb dX7_cracks_40 (by decide) ?_
        refine lv_iload hx hb dX7_cracks_42 (lv_at hl 0 rfl) ?_
        obtain ⟨r44, g44, hf⟩ := xb1_s hf
        refine x_callSi (As := [.int (10 : Int32), .int r35]) (rest := []) E hI (c_X7_power l G _ (M := M) (L := L) (a0 := (10 : Int32)) (a1 := r35) g44) ys_X7_power ml_X7_192 (by decide) (by decide) rfl rfl hl.1 (Nat.le_of_ble_eq_true rfl) dX7_cracks_44 (fun H locs hI => ?_)
        refine lv_istore (lv' := [(5, .int r44), (4, .int r35), (0, .ref (xq G 0 0)), (1, .int a1), (2, .int a2), (3, .int a3)]) hx hb dX7_cracks_47 hl (by decide) rfl (fun ls hl => ?_)
        refine lv_iload_n hx hb dX7_cracks_49 rfl (lv_at hl 3 rfl) ?_
        refine lv_iload_n hx hb dX7_cracks_50 rfl (lv_at hl 4 rfl) ?_
        refine lv_iload hx hb dX7_cracks_51 (lv_at hl 1 rfl) ?_
        obtain ⟨r53, g53, hf⟩ := xb1_s hf
        refine x_callSi (As := [.int a1, .int a2, .int r35]) (rest := []) E hI (c_X7_waysToCrack l G _ (M := M) (L := L) (a0 := a1) (a1 := a2) (a2 := r35) g53) ys_X7_waysToCrack ml_X7_195 (by decide) (by decide) rfl rfl hl.1 (Nat.le_of_ble_eq_true rfl) dX7_cracks_53 (fun H locs hI => ?_)
        refine lv_istore (lv' := [(6, .int r53), (5, .int r44), (4, .int r35), (0, .ref (xq G 0 0)), (1, .int a1), (2, .int a2), (3, .int a3)]) hx hb dX7_cracks_56 hl (by decide) rfl (fun ls hl => ?_)
        refine lv_iload hx hb dX7_cracks_58 (lv_at hl 1 rfl) ?_
        refine lv_iload hx hb dX7_cracks_60 (lv_at hl 0 rfl) ?_
        obtain ⟨r62, g62, hf⟩ := xb1_s hf
        refine x_callSi (As := [.int r44, .int r53]) (rest := []) E hI (c_X7_greatestCommon l G _ (M := M) (L := L) (a0 := r44) (a1 := r53) g62) ys_X7_greatestCommon ml_X7_199 (by decide) (by decide) rfl rfl hl.1 (Nat.le_of_ble_eq_true rfl) dX7_cracks_62 (fun H locs hI => ?_)
        refine lv_istore (lv' := [(7, .int r62), (6, .int r53), (5, .int r44), (4, .int r35), (0, .ref (xq G 0 0)), (1, .int a1), (2, .int a2), (3, .int a3)]) hx hb dX7_cracks_65 hl (by decide) rfl (fun ls hl => ?_)
        refine lv_iload hx hb dX7_cracks_67 (lv_at hl 0 rfl) ?_
        refine lv_if_ne (tgt := 74) hx hb dX7_cracks_69 (by decide) (fun c69 => ?_) (fun c69 => ?_)
        · replace hf := xif_f c69 hf
          refine lv_iload_n hx hb dX7_cracks_74 rfl (lv_at hl 7 rfl) ?_
          refine lv_if_ne (tgt := 83) hx hb dX7_cracks_75 (by decide) (fun c75 => ?_) (fun c75 => ?_)
          · replace hf := xif_f c75 hf
            refine lv_iload hx hb dX7_cracks_83 (lv_at hl 2 rfl) ?_
            exact (w_X7_cracks_b85 E (M := M) (L := L) (r62 := r62)) r44 hf _ (lv_sub hl [0] rfl) _ _ hI
          · replace hf := xif_t c75 hf
            refine lv_iload hx hb dX7_cracks_78 (lv_at hl 1 rfl) ?_
            refine lv_goto (tgt := 85) hx hb dX7_cracks_80 (by decide) ?_
            exact (w_X7_cracks_b85 E (M := M) (L := L) (r62 := r62)) r53 hf _ (lv_sub hl [0] rfl) _ _ hI
        · replace hf := xif_t c69 hf
          refine lv_iconst (v := -1) hx hb dX7_cracks_72 (by decide) ?_
          obtain rfl := xinj1 hf
          exact x_iret E hI rfl dX7_cracks_73
      · replace hf := xif_f c26 hf
        exact (w_X7_cracks_b29 E (M := M) (L := L))  hf _ (lv_sub hl [] rfl) _ _ hI
theorem dX7_noBox_0 : decode cX7_noBox 0 = .ok (.iload_n 0, 1) := by decide +kernel
theorem dX7_noBox_1 : decode cX7_noBox 1 = .ok (.iconst 1, 1) := by decide +kernel
theorem dX7_noBox_2 : decode cX7_noBox 2 = .ok (.bipush 6, 2) := by decide +kernel
theorem dX7_noBox_4 : decode cX7_noBox 4 = .ok (.invokestatic 73, 3) := by decide +kernel
theorem dX7_noBox_7 : decode cX7_noBox 7 = .ok (.ifCond .ne 14, 3) := by decide +kernel
theorem dX7_noBox_10 : decode cX7_noBox 10 = .ok (.iload_n 1, 1) := by decide +kernel
theorem dX7_noBox_11 : decode cX7_noBox 11 = .ok (.iconst 0, 1) := by decide +kernel
theorem dX7_noBox_12 : decode cX7_noBox 12 = .ok (.sipush 600, 3) := by decide +kernel
theorem dX7_noBox_15 : decode cX7_noBox 15 = .ok (.invokestatic 73, 3) := by decide +kernel
theorem dX7_noBox_18 : decode cX7_noBox 18 = .ok (.ifCond .eq 7, 3) := by decide +kernel
theorem dX7_noBox_21 : decode cX7_noBox 21 = .ok (.iconst 1, 1) := by decide +kernel
theorem dX7_noBox_22 : decode cX7_noBox 22 = .ok (.goto 4, 3) := by decide +kernel
theorem dX7_noBox_25 : decode cX7_noBox 25 = .ok (.iconst 0, 1) := by decide +kernel
theorem dX7_noBox_26 : decode cX7_noBox 26 = .ok (.ireturn, 1) := by decide +kernel
def f_X7_noBox_b26 (t26_0 : Int32) : Option (Int32) := xchk (xbo t26_0) (some t26_0)
def f_X7_noBox_b21 (k26 : Int32 → Option (Int32)) : Option (Int32) := k26 (1 : Int32)
def f_X7_noBox (a0 : Int32) (a1 : Int32) (M : xMem) : Option (Int32) := xb1 (f_X7_beyond a0 (1 : Int32) (6 : Int32) M) (fun r4 => (if r4 = (0 : Int32) then xb1 (f_X7_beyond a1 (0 : Int32) (600 : Int32) M) (fun r15 => (if r15 = (0 : Int32) then (f_X7_noBox_b26) (0 : Int32) else (f_X7_noBox_b21 (f_X7_noBox_b26)))) else (f_X7_noBox_b21 (f_X7_noBox_b26))))
set_option maxHeartbeats 4000000 in
set_option maxRecDepth 100000 in
theorem w_X7_noBox_b26 {p : Program} {l : Launch} {e : Env} {s : State} {m : MethodId} {args : Array Value} {below : List Frame} {meth : Method} {c : Code} {G : xG} {rr : Int32} (E : xE p s m args meth c cX7_noBox 2 (some .boolean) RX7 G) (M : xMem) (L : xLL) : ∀ (t26_0 : Int32), f_X7_noBox_b26 t26_0 = some rr → ∀ (ls : Array Slot), lv_has ls 2 [] → ∀ (H : Heap) (locs : List Loc), xI G M L s.heap H locs → W p l e (xR 2) s m args below meth c H locs 0 0 (MQ below (xQi G rr M L s.heap.size) args s 0 0 (xZ G s.heap.size)) (F0 m 26 ls [.int t26_0]) := by
  have hx := E.1
  have hb := E.2.1
  intro t26_0 hf ls hl H locs hI
  rw [f_X7_noBox_b26] at hf
  obtain ⟨h26n, hf⟩ := xchk_s hf
  obtain rfl := xinj1 hf
  exact x_zret E hI (xbo_s h26n) rfl dX7_noBox_26
set_option maxHeartbeats 4000000 in
set_option maxRecDepth 100000 in
theorem w_X7_noBox_b21 {p : Program} {l : Launch} {e : Env} {s : State} {m : MethodId} {args : Array Value} {below : List Frame} {meth : Method} {c : Code} {G : xG} {rr : Int32} (E : xE p s m args meth c cX7_noBox 2 (some .boolean) RX7 G) (M : xMem) (L : xLL) (k26 : Int32 → Option (Int32)) (hk26 : ∀ (t26_0 : Int32), k26 t26_0 = some rr → ∀ (ls : Array Slot), lv_has ls 2 [] → ∀ (H : Heap) (locs : List Loc), xI G M L s.heap H locs → W p l e (xR 2) s m args below meth c H locs 0 0 (MQ below (xQi G rr M L s.heap.size) args s 0 0 (xZ G s.heap.size)) (F0 m 26 ls [.int t26_0])) : f_X7_noBox_b21 k26  = some rr → ∀ (ls : Array Slot), lv_has ls 2 [] → ∀ (H : Heap) (locs : List Loc), xI G M L s.heap H locs → W p l e (xR 2) s m args below meth c H locs 0 0 (MQ below (xQi G rr M L s.heap.size) args s 0 0 (xZ G s.heap.size)) (F0 m 21 ls []) := by
  have hx := E.1
  have hb := E.2.1
  intro  hf ls hl H locs hI
  rw [f_X7_noBox_b21] at hf
  refine lv_iconst (v := 1) hx hb dX7_noBox_21 (by decide) ?_
  refine lv_goto (tgt := 26) hx hb dX7_noBox_22 (by decide) ?_
  exact hk26 (1 : Int32) hf _ (lv_sub hl [] rfl) _ _ hI
set_option maxHeartbeats 4000000 in
set_option maxRecDepth 100000 in
theorem c_X7_noBox (l : Launch) (G : xG) (sz : Nat) (M : xMem) (L : xLL) (a0 : Int32) (a1 : Int32) {rr : Int32} (hf : f_X7_noBox a0 a1 M = some rr) : Met l yX7_noBox (Cond.code yX7_noBox cX7_noBox 2 (some .boolean) :: xTB) (xR 2) (xP G M L sz [.int a0, .int a1]) (xQi G rr M L sz) 0 0 (xZ G sz) := by
  refine x_met (cc := cX7_noBox) (nL := 2) (rt := (some .boolean)) (by decide) (Nat.le_of_ble_eq_true rfl) ?_
  intro p e s m below meth c ls hsz E hl hI
  subst hsz
  have E : xE p s m _ meth c cX7_noBox 2 (some .boolean) RX7 G := E
  have hx := E.1
  have hb := E.2.1
  have hl : lv_has ls 2 [(0, .int a0), (1, .int a1)] := hl
  rw [f_X7_noBox] at hf
  refine lv_iload_n hx hb dX7_noBox_0 rfl (lv_at hl 0 rfl) ?_
  refine lv_iconst (v := 1) hx hb dX7_noBox_1 (by decide) ?_
  refine lv_bipush (v := 6) hx hb dX7_noBox_2 (by decide) ?_
  obtain ⟨r4, g4, hf⟩ := xb1_s hf
  refine x_callSi (As := [.int a0, .int (1 : Int32), .int (6 : Int32)]) (rest := []) E hI (c_X7_beyond l G _ (M := M) (L := L) (a0 := a0) (a1 := (1 : Int32)) (a2 := (6 : Int32)) g4) ys_X7_beyond ml_X7_73 (by decide) (by decide) rfl rfl hl.1 (Nat.le_of_ble_eq_true rfl) dX7_noBox_4 (fun H locs hI => ?_)
  refine lv_if_ne (tgt := 21) hx hb dX7_noBox_7 (by decide) (fun c7 => ?_) (fun c7 => ?_)
  · replace hf := xif_f c7 hf
    exact (w_X7_noBox_b21 E (M := M) (L := L) (k26 := (f_X7_noBox_b26)) (hk26 := (w_X7_noBox_b26 E (M := M) (L := L))))  hf _ (lv_sub hl [] rfl) _ _ hI
  · replace hf := xif_t c7 hf
    refine lv_iload_n hx hb dX7_noBox_10 rfl (lv_at hl 1 rfl) ?_
    refine lv_iconst (v := 0) hx hb dX7_noBox_11 (by decide) ?_
    refine lv_sipush (v := 600) hx hb dX7_noBox_12 (by decide) ?_
    obtain ⟨r15, g15, hf⟩ := xb1_s hf
    refine x_callSi (As := [.int a1, .int (0 : Int32), .int (600 : Int32)]) (rest := []) E hI (c_X7_beyond l G _ (M := M) (L := L) (a0 := a1) (a1 := (0 : Int32)) (a2 := (600 : Int32)) g15) ys_X7_beyond ml_X7_73 (by decide) (by decide) rfl rfl hl.1 (Nat.le_of_ble_eq_true rfl) dX7_noBox_15 (fun H locs hI => ?_)
    refine lv_if_eq (tgt := 25) hx hb dX7_noBox_18 (by decide) (fun c18 => ?_) (fun c18 => ?_)
    · replace hf := xif_t c18 hf
      refine lv_iconst (v := 0) hx hb dX7_noBox_25 (by decide) ?_
      exact (w_X7_noBox_b26 E (M := M) (L := L)) (0 : Int32) hf _ (lv_sub hl [] rfl) _ _ hI
    · replace hf := xif_f c18 hf
      exact (w_X7_noBox_b21 E (M := M) (L := L) (k26 := (f_X7_noBox_b26)) (hk26 := (w_X7_noBox_b26 E (M := M) (L := L))))  hf _ (lv_sub hl [] rfl) _ _ hI
theorem dX7_box_0 : decode cX7_box 0 = .ok (.iload_n 1, 1) := by decide +kernel
theorem dX7_box_1 : decode cX7_box 1 = .ok (.iload_n 2, 1) := by decide +kernel
theorem dX7_box_2 : decode cX7_box 2 = .ok (.invokestatic 202, 3) := by decide +kernel
theorem dX7_box_5 : decode cX7_box 5 = .ok (.ifCond .ne 12, 3) := by decide +kernel
theorem dX7_box_8 : decode cX7_box 8 = .ok (.iload_n 3, 1) := by decide +kernel
theorem dX7_box_9 : decode cX7_box 9 = .ok (.iconst 0, 1) := by decide +kernel
theorem dX7_box_10 : decode cX7_box 10 = .ok (.iconst 1, 1) := by decide +kernel
theorem dX7_box_11 : decode cX7_box 11 = .ok (.invokestatic 73, 3) := by decide +kernel
theorem dX7_box_14 : decode cX7_box 14 = .ok (.ifCond .eq 5, 3) := by decide +kernel
theorem dX7_box_17 : decode cX7_box 17 = .ok (.iconst (-1), 1) := by decide +kernel
theorem dX7_box_18 : decode cX7_box 18 = .ok (.ireturn, 1) := by decide +kernel
theorem dX7_box_19 : decode cX7_box 19 = .ok (.aload_n 0, 1) := by decide +kernel
theorem dX7_box_20 : decode cX7_box 20 = .ok (.getfield 62, 3) := by decide +kernel
theorem dX7_box_23 : decode cX7_box 23 = .ok (.iload_n 1, 1) := by decide +kernel
theorem dX7_box_24 : decode cX7_box 24 = .ok (.iload_n 2, 1) := by decide +kernel
theorem dX7_box_25 : decode cX7_box 25 = .ok (.invokevirtual 206, 3) := by decide +kernel
theorem dX7_box_28 : decode cX7_box 28 = .ok (.istore 4, 2) := by decide +kernel
theorem dX7_box_30 : decode cX7_box 30 = .ok (.iload 4, 2) := by decide +kernel
theorem dX7_box_32 : decode cX7_box 32 = .ok (.bipush (-9), 2) := by decide +kernel
theorem dX7_box_34 : decode cX7_box 34 = .ok (.if_icmp .eq 7, 3) := by decide +kernel
theorem dX7_box_37 : decode cX7_box 37 = .ok (.iload_n 3, 1) := by decide +kernel
theorem dX7_box_38 : decode cX7_box 38 = .ok (.ifCond .ne 6, 3) := by decide +kernel
theorem dX7_box_41 : decode cX7_box 41 = .ok (.iload 4, 2) := by decide +kernel
theorem dX7_box_43 : decode cX7_box 43 = .ok (.ireturn, 1) := by decide +kernel
theorem dX7_box_44 : decode cX7_box 44 = .ok (.aload_n 0, 1) := by decide +kernel
theorem dX7_box_45 : decode cX7_box 45 = .ok (.getfield 28, 3) := by decide +kernel
theorem dX7_box_48 : decode cX7_box 48 = .ok (.iload 4, 2) := by decide +kernel
theorem dX7_box_50 : decode cX7_box 50 = .ok (.invokevirtual 209, 3) := by decide +kernel
theorem dX7_box_53 : decode cX7_box 53 = .ok (.iload_n 2, 1) := by decide +kernel
theorem dX7_box_54 : decode cX7_box 54 = .ok (.isub, 1) := by decide +kernel
theorem dX7_box_55 : decode cX7_box 55 = .ok (.ireturn, 1) := by decide +kernel
def f_X7_box_b17 : Option (Int32) := some (-1 : Int32)
def f_X7_box_b41 (r25 : Int32) : Option (Int32) := some r25
def f_X7_box (a1 : Int32) (a2 : Int32) (a3 : Int32) (M : xMem) : Option (Int32) := xb1 (f_X7_noBox a1 a2 M) (fun r2 => (if r2 = (0 : Int32) then xb1 (f_X7_beyond a3 (0 : Int32) (1 : Int32) M) (fun r11 => (if r11 = (0 : Int32) then xb1 (f_X1_lightestBox a1 a2 M) (fun r25 => (if r25 = (-9 : Int32) then (f_X7_box_b41 r25) else (if a3 = (0 : Int32) then (f_X7_box_b41 r25) else xb1 (f_X0_gramsOf 0 r25 M) (fun r50 => some (r50 - a2))))) else (f_X7_box_b17))) else (f_X7_box_b17)))
set_option maxHeartbeats 4000000 in
set_option maxRecDepth 100000 in
theorem w_X7_box_b17 {p : Program} {l : Launch} {e : Env} {s : State} {m : MethodId} {args : Array Value} {below : List Frame} {meth : Method} {c : Code} {G : xG} {rr : Int32} (E : xE p s m args meth c cX7_box 5 (some .int) RX7 G) (M : xMem) (L : xLL) : f_X7_box_b17  = some rr → ∀ (ls : Array Slot), lv_has ls 5 [] → ∀ (H : Heap) (locs : List Loc), xI G M L s.heap H locs → W p l e (xR 4) s m args below meth c H locs 0 0 (MQ below (xQi G rr M L s.heap.size) args s 0 0 (xZ G s.heap.size)) (F0 m 17 ls []) := by
  have hx := E.1
  have hb := E.2.1
  intro  hf ls hl H locs hI
  rw [f_X7_box_b17] at hf
  refine lv_iconst (v := -1) hx hb dX7_box_17 (by decide) ?_
  obtain rfl := xinj1 hf
  exact x_iret E hI rfl dX7_box_18
set_option maxHeartbeats 4000000 in
set_option maxRecDepth 100000 in
theorem w_X7_box_b41 {p : Program} {l : Launch} {e : Env} {s : State} {m : MethodId} {args : Array Value} {below : List Frame} {meth : Method} {c : Code} {G : xG} {rr : Int32} (E : xE p s m args meth c cX7_box 5 (some .int) RX7 G) (M : xMem) (L : xLL) (r25 : Int32) : f_X7_box_b41 r25  = some rr → ∀ (ls : Array Slot), lv_has ls 5 [(4, .int r25)] → ∀ (H : Heap) (locs : List Loc), xI G M L s.heap H locs → W p l e (xR 4) s m args below meth c H locs 0 0 (MQ below (xQi G rr M L s.heap.size) args s 0 0 (xZ G s.heap.size)) (F0 m 41 ls []) := by
  have hx := E.1
  have hb := E.2.1
  intro  hf ls hl H locs hI
  rw [f_X7_box_b41] at hf
  refine lv_iload hx hb dX7_box_41 (lv_at hl 0 rfl) ?_
  obtain rfl := xinj1 hf
  exact x_iret E hI rfl dX7_box_43
set_option maxHeartbeats 4000000 in
set_option maxRecDepth 100000 in
theorem c_X7_box (l : Launch) (G : xG) (sz : Nat) (M : xMem) (L : xLL) (a1 : Int32) (a2 : Int32) (a3 : Int32) {rr : Int32} (hf : f_X7_box a1 a2 a3 M = some rr) : Met l yX7_box (Cond.code yX7_box cX7_box 5 (some .int) :: xTB) (xR 4) (xP G M L sz [.ref (xq G 0 0), .int a1, .int a2, .int a3]) (xQi G rr M L sz) 0 0 (xZ G sz) := by
  refine x_met (cc := cX7_box) (nL := 5) (rt := (some .int)) (by decide) (Nat.le_of_ble_eq_true rfl) ?_
  intro p e s m below meth c ls hsz E hl hI
  subst hsz
  have E : xE p s m _ meth c cX7_box 5 (some .int) RX7 G := E
  have hx := E.1
  have hb := E.2.1
  have hl : lv_has ls 5 [(0, .ref (xq G 0 0)), (1, .int a1), (2, .int a2), (3, .int a3)] := hl
  rw [f_X7_box] at hf
  refine lv_iload_n hx hb dX7_box_0 rfl (lv_at hl 1 rfl) ?_
  refine lv_iload_n hx hb dX7_box_1 rfl (lv_at hl 2 rfl) ?_
  obtain ⟨r2, g2, hf⟩ := xb1_s hf
  refine x_callSi (As := [.int a1, .int a2]) (rest := []) E hI (c_X7_noBox l G _ (M := M) (L := L) (a0 := a1) (a1 := a2) g2) ys_X7_noBox ml_X7_202 (by decide) (by decide) rfl rfl hl.1 (Nat.le_of_ble_eq_true rfl) dX7_box_2 (fun H locs hI => ?_)
  refine lv_if_ne (tgt := 17) hx hb dX7_box_5 (by decide) (fun c5 => ?_) (fun c5 => ?_)
  · replace hf := xif_f c5 hf
    exact (w_X7_box_b17 E (M := M) (L := L))  hf _ (lv_sub hl [] rfl) _ _ hI
  · replace hf := xif_t c5 hf
    refine lv_iload_n hx hb dX7_box_8 rfl (lv_at hl 3 rfl) ?_
    refine lv_iconst (v := 0) hx hb dX7_box_9 (by decide) ?_
    refine lv_iconst (v := 1) hx hb dX7_box_10 (by decide) ?_
    obtain ⟨r11, g11, hf⟩ := xb1_s hf
    refine x_callSi (As := [.int a3, .int (0 : Int32), .int (1 : Int32)]) (rest := []) E hI (c_X7_beyond l G _ (M := M) (L := L) (a0 := a3) (a1 := (0 : Int32)) (a2 := (1 : Int32)) g11) ys_X7_beyond ml_X7_73 (by decide) (by decide) rfl rfl hl.1 (Nat.le_of_ble_eq_true rfl) dX7_box_11 (fun H locs hI => ?_)
    refine lv_if_eq (tgt := 19) hx hb dX7_box_14 (by decide) (fun c14 => ?_) (fun c14 => ?_)
    · replace hf := xif_t c14 hf
      refine lv_aload_n hx hb dX7_box_19 rfl (lv_at hl 0 rfl) ?_
      refine gf_X7_62 E hI dX7_box_20 ?_
      refine lv_iload_n hx hb dX7_box_23 rfl (lv_at hl 1 rfl) ?_
      refine lv_iload_n hx hb dX7_box_24 rfl (lv_at hl 2 rfl) ?_
      obtain ⟨r25, g25, hf⟩ := xb1_s hf
      refine x_callVi (As := [.int a1, .int a2]) (rest := []) E hI mx_6_0 rfl rfl rfl (c_X1_lightestBox l G _ (M := M) (L := L) (a1 := a1) (a2 := a2) g25) yv_X1_lightestBox ml_X7_206 (by decide) (by decide) rfl rfl hl.1 (Nat.le_of_ble_eq_true rfl) dX7_box_25 (fun H locs hI => ?_)
      refine lv_istore (lv' := [(4, .int r25), (0, .ref (xq G 0 0)), (1, .int a1), (2, .int a2), (3, .int a3)]) hx hb dX7_box_28 hl (by decide) rfl (fun ls hl => ?_)
      refine lv_iload hx hb dX7_box_30 (lv_at hl 0 rfl) ?_
      refine lv_bipush (v := -9) hx hb dX7_box_32 (by decide) ?_
      refine lv_icmp_eq (tgt := 41) hx hb dX7_box_34 (by decide) (fun c34 => ?_) (fun c34 => ?_)
      · replace hf := xif_t c34 hf
        exact (w_X7_box_b41 E (M := M) (L := L) (r25 := r25))  hf _ (lv_sub hl [0] rfl) _ _ hI
      · replace hf := xif_f c34 hf
        refine lv_iload_n hx hb dX7_box_37 rfl (lv_at hl 4 rfl) ?_
        refine lv_if_ne (tgt := 44) hx hb dX7_box_38 (by decide) (fun c38 => ?_) (fun c38 => ?_)
        · replace hf := xif_f c38 hf
          refine lv_aload_n hx hb dX7_box_44 rfl (lv_at hl 1 rfl) ?_
          refine gf_X7_28 E hI dX7_box_45 ?_
          refine lv_iload hx hb dX7_box_48 (lv_at hl 0 rfl) ?_
          obtain ⟨r50, g50, hf⟩ := xb1_s hf
          refine x_callVi (As := [.int r25]) (rest := []) E hI (mf_0 (by decide)) rfl rfl rfl (c_X0_gramsOf l G _ (M := M) (L := L) (i := 0) (hi := (by decide)) (a1 := r25) g50) yv_X0_gramsOf ml_X7_209 (by decide) (by decide) rfl rfl hl.1 (Nat.le_of_ble_eq_true rfl) dX7_box_50 (fun H locs hI => ?_)
          refine lv_iload_n hx hb dX7_box_53 rfl (lv_at hl 3 rfl) ?_
          refine lv_isub hx hb dX7_box_54 ?_
          obtain rfl := xinj1 hf
          exact x_iret E hI rfl dX7_box_55
        · replace hf := xif_t c38 hf
          exact (w_X7_box_b41 E (M := M) (L := L) (r25 := r25))  hf _ (lv_sub hl [0] rfl) _ _ hI
    · replace hf := xif_f c14 hf
      exact (w_X7_box_b17 E (M := M) (L := L))  hf _ (lv_sub hl [] rfl) _ _ hI
theorem dX7_boxes_0 : decode cX7_boxes 0 = .ok (.iload_n 1, 1) := by decide +kernel
theorem dX7_boxes_1 : decode cX7_boxes 1 = .ok (.iload_n 2, 1) := by decide +kernel
theorem dX7_boxes_2 : decode cX7_boxes 2 = .ok (.invokestatic 202, 3) := by decide +kernel
theorem dX7_boxes_5 : decode cX7_boxes 5 = .ok (.ifCond .eq 5, 3) := by decide +kernel
theorem dX7_boxes_8 : decode cX7_boxes 8 = .ok (.iconst (-1), 1) := by decide +kernel
theorem dX7_boxes_9 : decode cX7_boxes 9 = .ok (.ireturn, 1) := by decide +kernel
theorem dX7_boxes_10 : decode cX7_boxes 10 = .ok (.aload_n 0, 1) := by decide +kernel
theorem dX7_boxes_11 : decode cX7_boxes 11 = .ok (.getfield 62, 3) := by decide +kernel
theorem dX7_boxes_14 : decode cX7_boxes 14 = .ok (.iload_n 1, 1) := by decide +kernel
theorem dX7_boxes_15 : decode cX7_boxes 15 = .ok (.iload_n 2, 1) := by decide +kernel
theorem dX7_boxes_16 : decode cX7_boxes 16 = .ok (.invokevirtual 212, 3) := by decide +kernel
theorem dX7_boxes_19 : decode cX7_boxes 19 = .ok (.ireturn, 1) := by decide +kernel
def f_X7_boxes (a1 : Int32) (a2 : Int32) (M : xMem) : Option (Int32 × xMem) := xb1 (f_X7_noBox a1 a2 M) (fun r2 => (if r2 = (0 : Int32) then xb2 (f_X1_mostBoxes a1 a2 M) (fun r16 M16 => some (r16, M16)) else some ((-1 : Int32), M)))
set_option maxHeartbeats 4000000 in
set_option maxRecDepth 100000 in
theorem c_X7_boxes (l : Launch) (G : xG) (sz : Nat) (M : xMem) (L : xLL) (a1 : Int32) (a2 : Int32) {rr : Int32} {MM : xMem} (hf : f_X7_boxes a1 a2 M = some (rr, MM)) : Met l yX7_boxes (Cond.code yX7_boxes cX7_boxes 3 (some .int) :: xTB) (xR 4) (xP G M L sz [.ref (xq G 0 0), .int a1, .int a2]) (xQi G rr MM L sz) 0 0 (xZ G sz) := by
  refine x_met (cc := cX7_boxes) (nL := 3) (rt := (some .int)) (by decide) (Nat.le_of_ble_eq_true rfl) ?_
  intro p e s m below meth c ls hsz E hl hI
  subst hsz
  have E : xE p s m _ meth c cX7_boxes 3 (some .int) RX7 G := E
  have hx := E.1
  have hb := E.2.1
  have hl : lv_has ls 3 [(0, .ref (xq G 0 0)), (1, .int a1), (2, .int a2)] := hl
  rw [f_X7_boxes] at hf
  refine lv_iload_n hx hb dX7_boxes_0 rfl (lv_at hl 1 rfl) ?_
  refine lv_iload_n hx hb dX7_boxes_1 rfl (lv_at hl 2 rfl) ?_
  obtain ⟨r2, g2, hf⟩ := xb1_s hf
  refine x_callSi (As := [.int a1, .int a2]) (rest := []) E hI (c_X7_noBox l G _ (M := M) (L := L) (a0 := a1) (a1 := a2) g2) ys_X7_noBox ml_X7_202 (by decide) (by decide) rfl rfl hl.1 (Nat.le_of_ble_eq_true rfl) dX7_boxes_2 (fun H locs hI => ?_)
  refine lv_if_eq (tgt := 10) hx hb dX7_boxes_5 (by decide) (fun c5 => ?_) (fun c5 => ?_)
  · replace hf := xif_t c5 hf
    refine lv_aload_n hx hb dX7_boxes_10 rfl (lv_at hl 0 rfl) ?_
    refine gf_X7_62 E hI dX7_boxes_11 ?_
    refine lv_iload_n hx hb dX7_boxes_14 rfl (lv_at hl 1 rfl) ?_
    refine lv_iload_n hx hb dX7_boxes_15 rfl (lv_at hl 2 rfl) ?_
    obtain ⟨r16, M16, g16, hf⟩ := xb2_s hf
    refine x_callVi (As := [.int a1, .int a2]) (rest := []) E hI mx_6_0 rfl rfl rfl (c_X1_mostBoxes l G _ (M := M) (L := L) (a1 := a1) (a2 := a2) g16) yv_X1_mostBoxes ml_X7_212 (by decide) (by decide) rfl rfl hl.1 (Nat.le_of_ble_eq_true rfl) dX7_boxes_16 (fun H locs hI => ?_)
    obtain ⟨rfl, rfl⟩ := xinj2 hf
    exact x_iret E hI rfl dX7_boxes_19
  · replace hf := xif_f c5 hf
    refine lv_iconst (v := -1) hx hb dX7_boxes_8 (by decide) ?_
    obtain ⟨rfl, rfl⟩ := xinj2 hf
    exact x_iret E hI rfl dX7_boxes_9
theorem dX7_tested_0 : decode cX7_tested 0 = .ok (.iload_n 1, 1) := by decide +kernel
theorem dX7_tested_1 : decode cX7_tested 1 = .ok (.iconst 1, 1) := by decide +kernel
theorem dX7_tested_2 : decode cX7_tested 2 = .ok (.bipush 99, 2) := by decide +kernel
theorem dX7_tested_4 : decode cX7_tested 4 = .ok (.invokestatic 73, 3) := by decide +kernel
theorem dX7_tested_7 : decode cX7_tested 7 = .ok (.ifCond .ne 17, 3) := by decide +kernel
theorem dX7_tested_10 : decode cX7_tested 10 = .ok (.iload_n 2, 1) := by decide +kernel
theorem dX7_tested_11 : decode cX7_tested 11 = .ok (.bipush (-9), 2) := by decide +kernel
theorem dX7_tested_13 : decode cX7_tested 13 = .ok (.if_icmp .eq 13, 3) := by decide +kernel
theorem dX7_tested_16 : decode cX7_tested 16 = .ok (.aload_n 0, 1) := by decide +kernel
theorem dX7_tested_17 : decode cX7_tested 17 = .ok (.iload_n 2, 1) := by decide +kernel
theorem dX7_tested_18 : decode cX7_tested 18 = .ok (.invokevirtual 104, 3) := by decide +kernel
theorem dX7_tested_21 : decode cX7_tested 21 = .ok (.ifCond .eq 5, 3) := by decide +kernel
theorem dX7_tested_24 : decode cX7_tested 24 = .ok (.iconst (-1), 1) := by decide +kernel
theorem dX7_tested_25 : decode cX7_tested 25 = .ok (.ireturn, 1) := by decide +kernel
theorem dX7_tested_26 : decode cX7_tested 26 = .ok (.aload_n 0, 1) := by decide +kernel
theorem dX7_tested_27 : decode cX7_tested 27 = .ok (.getfield 69, 3) := by decide +kernel
theorem dX7_tested_30 : decode cX7_tested 30 = .ok (.getfield 101, 3) := by decide +kernel
theorem dX7_tested_33 : decode cX7_tested 33 = .ok (.bipush 6, 2) := by decide +kernel
theorem dX7_tested_35 : decode cX7_tested 35 = .ok (.if_icmp .lt 6, 3) := by decide +kernel
theorem dX7_tested_38 : decode cX7_tested 38 = .ok (.bipush (-3), 2) := by decide +kernel
theorem dX7_tested_40 : decode cX7_tested 40 = .ok (.ireturn, 1) := by decide +kernel
theorem dX7_tested_41 : decode cX7_tested 41 = .ok (.aload_n 0, 1) := by decide +kernel
theorem dX7_tested_42 : decode cX7_tested 42 = .ok (.getfield 69, 3) := by decide +kernel
theorem dX7_tested_45 : decode cX7_tested 45 = .ok (.iload_n 1, 1) := by decide +kernel
theorem dX7_tested_46 : decode cX7_tested 46 = .ok (.iload_n 2, 1) := by decide +kernel
theorem dX7_tested_47 : decode cX7_tested 47 = .ok (.invokevirtual 215, 3) := by decide +kernel
theorem dX7_tested_50 : decode cX7_tested 50 = .ok (.aload_n 0, 1) := by decide +kernel
theorem dX7_tested_51 : decode cX7_tested 51 = .ok (.getfield 69, 3) := by decide +kernel
theorem dX7_tested_54 : decode cX7_tested 54 = .ok (.getfield 101, 3) := by decide +kernel
theorem dX7_tested_57 : decode cX7_tested 57 = .ok (.ireturn, 1) := by decide +kernel
def f_X7_tested_b24 (M : xMem) : Option (Int32 × xMem) := some ((-1 : Int32), M)
def f_X7_tested_b26 (a1 : Int32) (a2 : Int32) (M : xMem) : Option (Int32 × xMem) := (if (M 7 0 3) < (6 : Int32) then xb1 (f_X5_add a1 a2 M) (fun M47 => some ((M47 7 0 3), M47)) else some ((-3 : Int32), M))
def f_X7_tested (a1 : Int32) (a2 : Int32) (M : xMem) : Option (Int32 × xMem) := xb1 (f_X7_beyond a1 (1 : Int32) (99 : Int32) M) (fun r4 => (if r4 = (0 : Int32) then (if a2 = (-9 : Int32) then (f_X7_tested_b26 a1 a2 M) else xb1 (f_X7_noScale a2 M) (fun r18 => (if r18 = (0 : Int32) then (f_X7_tested_b26 a1 a2 M) else (f_X7_tested_b24 M)))) else (f_X7_tested_b24 M)))
set_option maxHeartbeats 4000000 in
set_option maxRecDepth 100000 in
theorem w_X7_tested_b24 {p : Program} {l : Launch} {e : Env} {s : State} {m : MethodId} {args : Array Value} {below : List Frame} {meth : Method} {c : Code} {G : xG} {rr : Int32} {MM : xMem} (E : xE p s m args meth c cX7_tested 3 (some .int) RX7 G) (M : xMem) (L : xLL) : f_X7_tested_b24 M  = some (rr, MM) → ∀ (ls : Array Slot), lv_has ls 3 [] → ∀ (H : Heap) (locs : List Loc), xI G M L s.heap H locs → W p l e (xR 3) s m args below meth c H locs 0 0 (MQ below (xQi G rr MM L s.heap.size) args s 0 0 (xZ G s.heap.size)) (F0 m 24 ls []) := by
  have hx := E.1
  have hb := E.2.1
  intro  hf ls hl H locs hI
  rw [f_X7_tested_b24] at hf
  refine lv_iconst (v := -1) hx hb dX7_tested_24 (by decide) ?_
  obtain ⟨rfl, rfl⟩ := xinj2 hf
  exact x_iret E hI rfl dX7_tested_25
set_option maxHeartbeats 4000000 in
set_option maxRecDepth 100000 in
theorem w_X7_tested_b26 {p : Program} {l : Launch} {e : Env} {s : State} {m : MethodId} {args : Array Value} {below : List Frame} {meth : Method} {c : Code} {G : xG} {rr : Int32} {MM : xMem} (E : xE p s m args meth c cX7_tested 3 (some .int) RX7 G) (a1 : Int32) (a2 : Int32) (M : xMem) (L : xLL) : f_X7_tested_b26 a1 a2 M  = some (rr, MM) → ∀ (ls : Array Slot), lv_has ls 3 [(0, .ref (xq G 0 0)), (1, .int a1), (2, .int a2)] → ∀ (H : Heap) (locs : List Loc), xI G M L s.heap H locs → W p l e (xR 3) s m args below meth c H locs 0 0 (MQ below (xQi G rr MM L s.heap.size) args s 0 0 (xZ G s.heap.size)) (F0 m 26 ls []) := by
  have hx := E.1
  have hb := E.2.1
  intro  hf ls hl H locs hI
  rw [f_X7_tested_b26] at hf
  refine lv_aload_n hx hb dX7_tested_26 rfl (lv_at hl 0 rfl) ?_
  refine gf_X7_69 E hI dX7_tested_27 ?_
  refine gf_X7_101 E hI dX7_tested_30 ?_
  refine lv_bipush (v := 6) hx hb dX7_tested_33 (by decide) ?_
  refine lv_icmp_lt (tgt := 41) hx hb dX7_tested_35 (by decide) (fun c35 => ?_) (fun c35 => ?_)
  · replace hf := xif_t c35 hf
    refine lv_aload_n hx hb dX7_tested_41 rfl (lv_at hl 0 rfl) ?_
    refine gf_X7_69 E hI dX7_tested_42 ?_
    refine lv_iload_n hx hb dX7_tested_45 rfl (lv_at hl 1 rfl) ?_
    refine lv_iload_n hx hb dX7_tested_46 rfl (lv_at hl 2 rfl) ?_
    obtain ⟨M47, g47, hf⟩ := xb1_s hf
    refine x_callVv (As := [.int a1, .int a2]) (rest := []) E hI mx_7_0 rfl rfl rfl (c_X5_add l G _ (M := M) (L := L) (a1 := a1) (a2 := a2) g47) yv_X5_add ml_X7_215 (by decide) (by decide) rfl rfl hl.1 (Nat.le_of_ble_eq_true rfl) dX7_tested_47 (fun H locs hI => ?_)
    refine lv_aload_n hx hb dX7_tested_50 rfl (lv_at hl 0 rfl) ?_
    refine gf_X7_69 E hI dX7_tested_51 ?_
    refine gf_X7_101 E hI dX7_tested_54 ?_
    obtain ⟨rfl, rfl⟩ := xinj2 hf
    exact x_iret E hI rfl dX7_tested_57
  · replace hf := xif_f c35 hf
    refine lv_bipush (v := -3) hx hb dX7_tested_38 (by decide) ?_
    obtain ⟨rfl, rfl⟩ := xinj2 hf
    exact x_iret E hI rfl dX7_tested_40
set_option maxHeartbeats 4000000 in
set_option maxRecDepth 100000 in
theorem c_X7_tested (l : Launch) (G : xG) (sz : Nat) (M : xMem) (L : xLL) (a1 : Int32) (a2 : Int32) {rr : Int32} {MM : xMem} (hf : f_X7_tested a1 a2 M = some (rr, MM)) : Met l yX7_tested (Cond.code yX7_tested cX7_tested 3 (some .int) :: xTB) (xR 3) (xP G M L sz [.ref (xq G 0 0), .int a1, .int a2]) (xQi G rr MM L sz) 0 0 (xZ G sz) := by
  refine x_met (cc := cX7_tested) (nL := 3) (rt := (some .int)) (by decide) (Nat.le_of_ble_eq_true rfl) ?_
  intro p e s m below meth c ls hsz E hl hI
  subst hsz
  have E : xE p s m _ meth c cX7_tested 3 (some .int) RX7 G := E
  have hx := E.1
  have hb := E.2.1
  have hl : lv_has ls 3 [(0, .ref (xq G 0 0)), (1, .int a1), (2, .int a2)] := hl
  rw [f_X7_tested] at hf
  refine lv_iload_n hx hb dX7_tested_0 rfl (lv_at hl 1 rfl) ?_
  refine lv_iconst (v := 1) hx hb dX7_tested_1 (by decide) ?_
  refine lv_bipush (v := 99) hx hb dX7_tested_2 (by decide) ?_
  obtain ⟨r4, g4, hf⟩ := xb1_s hf
  refine x_callSi (As := [.int a1, .int (1 : Int32), .int (99 : Int32)]) (rest := []) E hI (c_X7_beyond l G _ (M := M) (L := L) (a0 := a1) (a1 := (1 : Int32)) (a2 := (99 : Int32)) g4) ys_X7_beyond ml_X7_73 (by decide) (by decide) rfl rfl hl.1 (Nat.le_of_ble_eq_true rfl) dX7_tested_4 (fun H locs hI => ?_)
  refine lv_if_ne (tgt := 24) hx hb dX7_tested_7 (by decide) (fun c7 => ?_) (fun c7 => ?_)
  · replace hf := xif_f c7 hf
    exact (w_X7_tested_b24 E (M := M) (L := L))  hf _ (lv_sub hl [] rfl) _ _ hI
  · replace hf := xif_t c7 hf
    refine lv_iload_n hx hb dX7_tested_10 rfl (lv_at hl 2 rfl) ?_
    refine lv_bipush (v := -9) hx hb dX7_tested_11 (by decide) ?_
    refine lv_icmp_eq (tgt := 26) hx hb dX7_tested_13 (by decide) (fun c13 => ?_) (fun c13 => ?_)
    · replace hf := xif_t c13 hf
      exact (w_X7_tested_b26 E (a1 := a1) (a2 := a2) (M := M) (L := L))  hf _ (lv_sub hl [0, 1, 2] rfl) _ _ hI
    · replace hf := xif_f c13 hf
      refine lv_aload_n hx hb dX7_tested_16 rfl (lv_at hl 0 rfl) ?_
      refine lv_iload_n hx hb dX7_tested_17 rfl (lv_at hl 2 rfl) ?_
      obtain ⟨r18, g18, hf⟩ := xb1_s hf
      refine x_callVi (As := [.int a2]) (rest := []) E hI mx_0_0 rfl rfl rfl (c_X7_noScale l G _ (M := M) (L := L) (a1 := a2) g18) yv_X7_noScale ml_X7_104 (by decide) (by decide) rfl rfl hl.1 (Nat.le_of_ble_eq_true rfl) dX7_tested_18 (fun H locs hI => ?_)
      refine lv_if_eq (tgt := 26) hx hb dX7_tested_21 (by decide) (fun c21 => ?_) (fun c21 => ?_)
      · replace hf := xif_t c21 hf
        exact (w_X7_tested_b26 E (a1 := a1) (a2 := a2) (M := M) (L := L))  hf _ (lv_sub hl [0, 1, 2] rfl) _ _ hI
      · replace hf := xif_f c21 hf
        exact (w_X7_tested_b24 E (M := M) (L := L))  hf _ (lv_sub hl [] rfl) _ _ hI
theorem dX7_forget_0 : decode cX7_forget 0 = .ok (.aload_n 0, 1) := by decide +kernel
theorem dX7_forget_1 : decode cX7_forget 1 = .ok (.getfield 69, 3) := by decide +kernel
theorem dX7_forget_4 : decode cX7_forget 4 = .ok (.getfield 101, 3) := by decide +kernel
theorem dX7_forget_7 : decode cX7_forget 7 = .ok (.istore_n 1, 1) := by decide +kernel
theorem dX7_forget_8 : decode cX7_forget 8 = .ok (.aload_n 0, 1) := by decide +kernel
theorem dX7_forget_9 : decode cX7_forget 9 = .ok (.getfield 69, 3) := by decide +kernel
theorem dX7_forget_12 : decode cX7_forget 12 = .ok (.iconst 0, 1) := by decide +kernel
theorem dX7_forget_13 : decode cX7_forget 13 = .ok (.putfield 101, 3) := by decide +kernel
theorem dX7_forget_16 : decode cX7_forget 16 = .ok (.iload_n 1, 1) := by decide +kernel
theorem dX7_forget_17 : decode cX7_forget 17 = .ok (.ireturn, 1) := by decide +kernel
def f_X7_forget (M : xMem) : Option (Int32 × xMem) := xlet (xsf M 7 3 (0 : Int32)) (fun M13 => some ((M 7 0 3), M13))
set_option maxHeartbeats 4000000 in
set_option maxRecDepth 100000 in
theorem c_X7_forget (l : Launch) (G : xG) (sz : Nat) (M : xMem) (L : xLL) {rr : Int32} {MM : xMem} (hf : f_X7_forget M = some (rr, MM)) : Met l yX7_forget (Cond.code yX7_forget cX7_forget 2 (some .int) :: xTB) (xR 1) (xP G M L sz [.ref (xq G 0 0)]) (xQi G rr MM L sz) 0 0 (xZ G sz) := by
  refine x_met (cc := cX7_forget) (nL := 2) (rt := (some .int)) (by decide) (Nat.le_of_ble_eq_true rfl) ?_
  intro p e s m below meth c ls hsz E hl hI
  subst hsz
  have E : xE p s m _ meth c cX7_forget 2 (some .int) RX7 G := E
  have hx := E.1
  have hb := E.2.1
  have hl : lv_has ls 2 [(0, .ref (xq G 0 0))] := hl
  rw [f_X7_forget] at hf
  refine lv_aload_n hx hb dX7_forget_0 rfl (lv_at hl 0 rfl) ?_
  refine gf_X7_69 E hI dX7_forget_1 ?_
  refine gf_X7_101 E hI dX7_forget_4 ?_
  refine lv_istore_n (lv' := [(1, .int (M 7 0 3)), (0, .ref (xq G 0 0))]) hx hb dX7_forget_7 rfl hl (by decide) rfl (fun ls hl => ?_)
  refine lv_aload_n hx hb dX7_forget_8 rfl (lv_at hl 1 rfl) ?_
  refine gf_X7_69 E hI dX7_forget_9 ?_
  refine lv_iconst (v := 0) hx hb dX7_forget_12 (by decide) ?_
  obtain ⟨M13, e13, hf⟩ := xlet_s hf
  refine pf_X7_101 E hI dX7_forget_13 e13 (fun H locs hI => ?_)
  refine lv_iload_n hx hb dX7_forget_16 rfl (lv_at hl 0 rfl) ?_
  obtain ⟨rfl, rfl⟩ := xinj2 hf
  exact x_iret E hI rfl dX7_forget_17
theorem dX7_can_0 : decode cX7_can 0 = .ok (.iload_n 1, 1) := by decide +kernel
theorem dX7_can_1 : decode cX7_can 1 = .ok (.iconst 0, 1) := by decide +kernel
theorem dX7_can_2 : decode cX7_can 2 = .ok (.iconst 2, 1) := by decide +kernel
theorem dX7_can_3 : decode cX7_can 3 = .ok (.invokestatic 73, 3) := by decide +kernel
theorem dX7_can_6 : decode cX7_can 6 = .ok (.ifCond .eq 5, 3) := by decide +kernel
theorem dX7_can_9 : decode cX7_can 9 = .ok (.iconst (-1), 1) := by decide +kernel
theorem dX7_can_10 : decode cX7_can 10 = .ok (.ireturn, 1) := by decide +kernel
theorem dX7_can_11 : decode cX7_can 11 = .ok (.aload_n 0, 1) := by decide +kernel
theorem dX7_can_12 : decode cX7_can 12 = .ok (.getfield 69, 3) := by decide +kernel
theorem dX7_can_15 : decode cX7_can 15 = .ok (.invokevirtual 219, 3) := by decide +kernel
theorem dX7_can_18 : decode cX7_can 18 = .ok (.iload_n 1, 1) := by decide +kernel
theorem dX7_can_19 : decode cX7_can 19 = .ok (.ifCond .ne 11, 3) := by decide +kernel
theorem dX7_can_22 : decode cX7_can 22 = .ok (.aload_n 0, 1) := by decide +kernel
theorem dX7_can_23 : decode cX7_can 23 = .ok (.getfield 69, 3) := by decide +kernel
theorem dX7_can_26 : decode cX7_can 26 = .ok (.getfield 222, 3) := by decide +kernel
theorem dX7_can_29 : decode cX7_can 29 = .ok (.ireturn, 1) := by decide +kernel
theorem dX7_can_30 : decode cX7_can 30 = .ok (.iload_n 1, 1) := by decide +kernel
theorem dX7_can_31 : decode cX7_can 31 = .ok (.iconst 1, 1) := by decide +kernel
theorem dX7_can_32 : decode cX7_can 32 = .ok (.if_icmp .ne 13, 3) := by decide +kernel
theorem dX7_can_35 : decode cX7_can 35 = .ok (.aload_n 0, 1) := by decide +kernel
theorem dX7_can_36 : decode cX7_can 36 = .ok (.getfield 69, 3) := by decide +kernel
theorem dX7_can_39 : decode cX7_can 39 = .ok (.invokevirtual 225, 3) := by decide +kernel
theorem dX7_can_42 : decode cX7_can 42 = .ok (.goto 10, 3) := by decide +kernel
theorem dX7_can_45 : decode cX7_can 45 = .ok (.aload_n 0, 1) := by decide +kernel
theorem dX7_can_46 : decode cX7_can 46 = .ok (.getfield 69, 3) := by decide +kernel
theorem dX7_can_49 : decode cX7_can 49 = .ok (.invokevirtual 228, 3) := by decide +kernel
theorem dX7_can_52 : decode cX7_can 52 = .ok (.ireturn, 1) := by decide +kernel
def f_X7_can_b52 (M15 : xMem) (t52_0 : Int32) : Option (Int32 × xMem) := some (t52_0, M15)
def f_X7_can (a1 : Int32) (M : xMem) : Option (Int32 × xMem) := xb1 (f_X7_beyond a1 (0 : Int32) (2 : Int32) M) (fun r3 => (if r3 = (0 : Int32) then xb1 (f_X5_findWays M) (fun M15 => (if a1 = (0 : Int32) then some ((M15 7 0 6), M15) else (if a1 = (1 : Int32) then xb1 (f_X5_scalesOff M15) (fun r39 => (f_X7_can_b52 M15) r39) else xb1 (f_X5_noneOff M15) (fun r49 => (f_X7_can_b52 M15) r49)))) else some ((-1 : Int32), M)))
set_option maxHeartbeats 4000000 in
set_option maxRecDepth 100000 in
theorem w_X7_can_b52 {p : Program} {l : Launch} {e : Env} {s : State} {m : MethodId} {args : Array Value} {below : List Frame} {meth : Method} {c : Code} {G : xG} {rr : Int32} {MM : xMem} (E : xE p s m args meth c cX7_can 2 (some .int) RX7 G) (M : xMem) (L : xLL) (M15 : xMem) : ∀ (t52_0 : Int32), f_X7_can_b52 M15 t52_0 = some (rr, MM) → ∀ (ls : Array Slot), lv_has ls 2 [] → ∀ (H : Heap) (locs : List Loc), xI G M15 L s.heap H locs → W p l e (xR 4) s m args below meth c H locs 0 0 (MQ below (xQi G rr MM L s.heap.size) args s 0 0 (xZ G s.heap.size)) (F0 m 52 ls [.int t52_0]) := by
  have hx := E.1
  have hb := E.2.1
  intro t52_0 hf ls hl H locs hI
  rw [f_X7_can_b52] at hf
  obtain ⟨rfl, rfl⟩ := xinj2 hf
  exact x_iret E hI rfl dX7_can_52
set_option maxHeartbeats 4000000 in
set_option maxRecDepth 100000 in
theorem c_X7_can (l : Launch) (G : xG) (sz : Nat) (M : xMem) (L : xLL) (a1 : Int32) {rr : Int32} {MM : xMem} (hf : f_X7_can a1 M = some (rr, MM)) : Met l yX7_can (Cond.code yX7_can cX7_can 2 (some .int) :: xTB) (xR 4) (xP G M L sz [.ref (xq G 0 0), .int a1]) (xQi G rr MM L sz) 0 0 (xZ G sz) := by
  refine x_met (cc := cX7_can) (nL := 2) (rt := (some .int)) (by decide) (Nat.le_of_ble_eq_true rfl) ?_
  intro p e s m below meth c ls hsz E hl hI
  subst hsz
  have E : xE p s m _ meth c cX7_can 2 (some .int) RX7 G := E
  have hx := E.1
  have hb := E.2.1
  have hl : lv_has ls 2 [(0, .ref (xq G 0 0)), (1, .int a1)] := hl
  rw [f_X7_can] at hf
  refine lv_iload_n hx hb dX7_can_0 rfl (lv_at hl 1 rfl) ?_
  refine lv_iconst (v := 0) hx hb dX7_can_1 (by decide) ?_
  refine lv_iconst (v := 2) hx hb dX7_can_2 (by decide) ?_
  obtain ⟨r3, g3, hf⟩ := xb1_s hf
  refine x_callSi (As := [.int a1, .int (0 : Int32), .int (2 : Int32)]) (rest := []) E hI (c_X7_beyond l G _ (M := M) (L := L) (a0 := a1) (a1 := (0 : Int32)) (a2 := (2 : Int32)) g3) ys_X7_beyond ml_X7_73 (by decide) (by decide) rfl rfl hl.1 (Nat.le_of_ble_eq_true rfl) dX7_can_3 (fun H locs hI => ?_)
  refine lv_if_eq (tgt := 11) hx hb dX7_can_6 (by decide) (fun c6 => ?_) (fun c6 => ?_)
  · replace hf := xif_t c6 hf
    refine lv_aload_n hx hb dX7_can_11 rfl (lv_at hl 0 rfl) ?_
    refine gf_X7_69 E hI dX7_can_12 ?_
    obtain ⟨M15, g15, hf⟩ := xb1_s hf
    refine x_callVv (As := []) (rest := []) E hI mx_7_0 rfl rfl rfl (c_X5_findWays l G _ (M := M) (L := L) g15) yv_X5_findWays ml_X7_219 (by decide) (by decide) rfl rfl hl.1 (Nat.le_of_ble_eq_true rfl) dX7_can_15 (fun H locs hI => ?_)
    refine lv_iload_n hx hb dX7_can_18 rfl (lv_at hl 1 rfl) ?_
    refine lv_if_ne (tgt := 30) hx hb dX7_can_19 (by decide) (fun c19 => ?_) (fun c19 => ?_)
    · replace hf := xif_f c19 hf
      refine lv_iload_n hx hb dX7_can_30 rfl (lv_at hl 1 rfl) ?_
      refine lv_iconst (v := 1) hx hb dX7_can_31 (by decide) ?_
      refine lv_icmp_ne (tgt := 45) hx hb dX7_can_32 (by decide) (fun c32 => ?_) (fun c32 => ?_)
      · replace hf := xif_f c32 hf
        refine lv_aload_n hx hb dX7_can_45 rfl (lv_at hl 0 rfl) ?_
        refine gf_X7_69 E hI dX7_can_46 ?_
        obtain ⟨r49, g49, hf⟩ := xb1_s hf
        refine x_callVi (As := []) (rest := []) E hI mx_7_0 rfl rfl rfl (c_X5_noneOff l G _ (M := M15) (L := L) g49) yv_X5_noneOff ml_X7_228 (by decide) (by decide) rfl rfl hl.1 (Nat.le_of_ble_eq_true rfl) dX7_can_49 (fun H locs hI => ?_)
        exact (w_X7_can_b52 E (M := M) (L := L) (M15 := M15)) r49 hf _ (lv_sub hl [] rfl) _ _ hI
      · replace hf := xif_t c32 hf
        refine lv_aload_n hx hb dX7_can_35 rfl (lv_at hl 0 rfl) ?_
        refine gf_X7_69 E hI dX7_can_36 ?_
        obtain ⟨r39, g39, hf⟩ := xb1_s hf
        refine x_callVi (As := []) (rest := []) E hI mx_7_0 rfl rfl rfl (c_X5_scalesOff l G _ (M := M15) (L := L) g39) yv_X5_scalesOff ml_X7_225 (by decide) (by decide) rfl rfl hl.1 (Nat.le_of_ble_eq_true rfl) dX7_can_39 (fun H locs hI => ?_)
        refine lv_goto (tgt := 52) hx hb dX7_can_42 (by decide) ?_
        exact (w_X7_can_b52 E (M := M) (L := L) (M15 := M15)) r39 hf _ (lv_sub hl [] rfl) _ _ hI
    · replace hf := xif_t c19 hf
      refine lv_aload_n hx hb dX7_can_22 rfl (lv_at hl 0 rfl) ?_
      refine gf_X7_69 E hI dX7_can_23 ?_
      refine gf_X7_222 E hI dX7_can_26 ?_
      obtain ⟨rfl, rfl⟩ := xinj2 hf
      exact x_iret E hI rfl dX7_can_29
  · replace hf := xif_f c6 hf
    refine lv_iconst (v := -1) hx hb dX7_can_9 (by decide) ?_
    obtain ⟨rfl, rfl⟩ := xinj2 hf
    exact x_iret E hI rfl dX7_can_10
theorem dX7_next_0 : decode cX7_next 0 = .ok (.aload_n 0, 1) := by decide +kernel
theorem dX7_next_1 : decode cX7_next 1 = .ok (.getfield 69, 3) := by decide +kernel
theorem dX7_next_4 : decode cX7_next 4 = .ok (.invokevirtual 219, 3) := by decide +kernel
theorem dX7_next_7 : decode cX7_next 7 = .ok (.aload_n 0, 1) := by decide +kernel
theorem dX7_next_8 : decode cX7_next 8 = .ok (.getfield 69, 3) := by decide +kernel
theorem dX7_next_11 : decode cX7_next 11 = .ok (.invokevirtual 231, 3) := by decide +kernel
theorem dX7_next_14 : decode cX7_next 14 = .ok (.ireturn, 1) := by decide +kernel
def f_X7_next (M : xMem) : Option (Int32 × xMem) := xb1 (f_X5_findWays M) (fun M4 => xb2 (f_X5_weightToTry M4) (fun r11 M11 => some (r11, M11)))
set_option maxHeartbeats 4000000 in
set_option maxRecDepth 100000 in
theorem c_X7_next (l : Launch) (G : xG) (sz : Nat) (M : xMem) (L : xLL) {rr : Int32} {MM : xMem} (hf : f_X7_next M = some (rr, MM)) : Met l yX7_next (Cond.code yX7_next cX7_next 1 (some .int) :: xTB) (xR 4) (xP G M L sz [.ref (xq G 0 0)]) (xQi G rr MM L sz) 0 0 (xZ G sz) := by
  refine x_met (cc := cX7_next) (nL := 1) (rt := (some .int)) (by decide) (Nat.le_of_ble_eq_true rfl) ?_
  intro p e s m below meth c ls hsz E hl hI
  subst hsz
  have E : xE p s m _ meth c cX7_next 1 (some .int) RX7 G := E
  have hx := E.1
  have hb := E.2.1
  have hl : lv_has ls 1 [(0, .ref (xq G 0 0))] := hl
  rw [f_X7_next] at hf
  refine lv_aload_n hx hb dX7_next_0 rfl (lv_at hl 0 rfl) ?_
  refine gf_X7_69 E hI dX7_next_1 ?_
  obtain ⟨M4, g4, hf⟩ := xb1_s hf
  refine x_callVv (As := []) (rest := []) E hI mx_7_0 rfl rfl rfl (c_X5_findWays l G _ (M := M) (L := L) g4) yv_X5_findWays ml_X7_219 (by decide) (by decide) rfl rfl hl.1 (Nat.le_of_ble_eq_true rfl) dX7_next_4 (fun H locs hI => ?_)
  refine lv_aload_n hx hb dX7_next_7 rfl (lv_at hl 0 rfl) ?_
  refine gf_X7_69 E hI dX7_next_8 ?_
  obtain ⟨r11, M11, g11, hf⟩ := xb2_s hf
  refine x_callVi (As := []) (rest := []) E hI mx_7_0 rfl rfl rfl (c_X5_weightToTry l G _ (M := M4) (L := L) g11) yv_X5_weightToTry ml_X7_231 (by decide) (by decide) rfl rfl hl.1 (Nat.le_of_ble_eq_true rfl) dX7_next_11 (fun H locs hI => ?_)
  obtain ⟨rfl, rfl⟩ := xinj2 hf
  exact x_iret E hI rfl dX7_next_14
theorem dX7_rateEgg_0 : decode cX7_rateEgg 0 = .ok (.aload_n 0, 1) := by decide +kernel
theorem dX7_rateEgg_1 : decode cX7_rateEgg 1 = .ok (.dup, 1) := by decide +kernel
theorem dX7_rateEgg_2 : decode cX7_rateEgg 2 = .ok (.getfield 256, 3) := by decide +kernel
theorem dX7_rateEgg_5 : decode cX7_rateEgg 5 = .ok (.lconst 1, 1) := by decide +kernel
theorem dX7_rateEgg_6 : decode cX7_rateEgg 6 = .ok (.ladd, 1) := by decide +kernel
theorem dX7_rateEgg_7 : decode cX7_rateEgg 7 = .ok (.putfield 256, 3) := by decide +kernel
theorem dX7_rateEgg_10 : decode cX7_rateEgg 10 = .ok (.aload_n 0, 1) := by decide +kernel
theorem dX7_rateEgg_11 : decode cX7_rateEgg 11 = .ok (.getfield 28, 3) := by decide +kernel
theorem dX7_rateEgg_14 : decode cX7_rateEgg 14 = .ok (.getfield 131, 3) := by decide +kernel
theorem dX7_rateEgg_17 : decode cX7_rateEgg 17 = .ok (.iload_n 1, 1) := by decide +kernel
theorem dX7_rateEgg_18 : decode cX7_rateEgg 18 = .ok (.iaload, 1) := by decide +kernel
theorem dX7_rateEgg_19 : decode cX7_rateEgg 19 = .ok (.ireturn, 1) := by decide +kernel
def f_X7_rateEgg (a1 : Int32) (M : xMem) (L : xLL) : Option (Int32 × xLL) := xlet (va_up L 0 ((L 0) + (1 : Int64))) (fun L7 => xchk (xb a1 6) (some ((M (0 + 9) 3 a1.toNatClampNeg), L7)))
set_option maxHeartbeats 4000000 in
set_option maxRecDepth 100000 in
theorem c_X7_rateEgg (l : Launch) (G : xG) (sz : Nat) (M : xMem) (L : xLL) (a1 : Int32) {rr : Int32} {LR : xLL} (hf : f_X7_rateEgg a1 M L = some (rr, LR)) : Met l yX7_rateEgg (Cond.code yX7_rateEgg cX7_rateEgg 2 (some .int) :: xTB) (xR 1) (xP G M L sz [.ref (xq G 0 0), .int a1]) (xQi G rr M LR sz) 0 0 (xZ G sz) := by
  refine x_met (cc := cX7_rateEgg) (nL := 2) (rt := (some .int)) (by decide) (Nat.le_of_ble_eq_true rfl) ?_
  intro p e s m below meth c ls hsz E hl hI
  subst hsz
  have E : xE p s m _ meth c cX7_rateEgg 2 (some .int) RX7 G := E
  have hx := E.1
  have hb := E.2.1
  have hl : lv_has ls 2 [(0, .ref (xq G 0 0)), (1, .int a1)] := hl
  rw [f_X7_rateEgg] at hf
  refine lv_aload_n hx hb dX7_rateEgg_0 rfl (lv_at hl 0 rfl) ?_
  refine lv_dup hx hb dX7_rateEgg_1 rfl ?_
  refine gf_X7_256 E hI dX7_rateEgg_2 ?_
  refine lv_lconst (v := 1) hx hb dX7_rateEgg_5 (by decide) ?_
  refine lv_ladd hx hb dX7_rateEgg_6 ?_
  obtain ⟨L7, e7, hf⟩ := xlet_s hf
  refine pf_X7_256 E hI dX7_rateEgg_7 e7 (fun H locs hI => ?_)
  refine lv_aload_n hx hb dX7_rateEgg_10 rfl (lv_at hl 0 rfl) ?_
  refine gf_X7_28 E hI dX7_rateEgg_11 ?_
  refine gf_X7_131 E hI (by decide) dX7_rateEgg_14 ?_
  refine lv_iload_n hx hb dX7_rateEgg_17 rfl (lv_at hl 1 rfl) ?_
  obtain ⟨h18b, hf⟩ := xchk_s hf
  refine x_iald (n := 6) E hI (mf_3 (by decide)) (fun _ _ => rfl) h18b dX7_rateEgg_18 ?_
  obtain ⟨rfl, rfl⟩ := xinj2 hf
  exact x_iret E hI rfl dX7_rateEgg_19
theorem dX7_rateBrown_0 : decode cX7_rateBrown 0 = .ok (.aload_n 0, 1) := by decide +kernel
theorem dX7_rateBrown_1 : decode cX7_rateBrown 1 = .ok (.dup, 1) := by decide +kernel
theorem dX7_rateBrown_2 : decode cX7_rateBrown 2 = .ok (.getfield 256, 3) := by decide +kernel
theorem dX7_rateBrown_5 : decode cX7_rateBrown 5 = .ok (.ldc2_w 260, 3) := by decide +kernel
theorem dX7_rateBrown_8 : decode cX7_rateBrown 8 = .ok (.ladd, 1) := by decide +kernel
theorem dX7_rateBrown_9 : decode cX7_rateBrown 9 = .ok (.putfield 256, 3) := by decide +kernel
theorem dX7_rateBrown_12 : decode cX7_rateBrown 12 = .ok (.aload_n 0, 1) := by decide +kernel
theorem dX7_rateBrown_13 : decode cX7_rateBrown 13 = .ok (.iload_n 1, 1) := by decide +kernel
theorem dX7_rateBrown_14 : decode cX7_rateBrown 14 = .ok (.invokevirtual 235, 3) := by decide +kernel
theorem dX7_rateBrown_17 : decode cX7_rateBrown 17 = .ok (.aload_n 0, 1) := by decide +kernel
theorem dX7_rateBrown_18 : decode cX7_rateBrown 18 = .ok (.getfield 28, 3) := by decide +kernel
theorem dX7_rateBrown_21 : decode cX7_rateBrown 21 = .ok (.aload_n 0, 1) := by decide +kernel
theorem dX7_rateBrown_22 : decode cX7_rateBrown 22 = .ok (.getfield 28, 3) := by decide +kernel
theorem dX7_rateBrown_25 : decode cX7_rateBrown 25 = .ok (.getfield 137, 3) := by decide +kernel
theorem dX7_rateBrown_28 : decode cX7_rateBrown 28 = .ok (.iload_n 1, 1) := by decide +kernel
theorem dX7_rateBrown_29 : decode cX7_rateBrown 29 = .ok (.iaload, 1) := by decide +kernel
theorem dX7_rateBrown_30 : decode cX7_rateBrown 30 = .ok (.invokevirtual 159, 3) := by decide +kernel
theorem dX7_rateBrown_33 : decode cX7_rateBrown 33 = .ok (.iadd, 1) := by decide +kernel
theorem dX7_rateBrown_34 : decode cX7_rateBrown 34 = .ok (.ireturn, 1) := by decide +kernel
def f_X7_rateBrown (a1 : Int32) (M : xMem) (L : xLL) : Option (Int32 × xLL) := xlet (va_up L 0 ((L 0) + (10 : Int64))) (fun L9 => xb2 (f_X7_rateEgg a1 M L9) (fun r14 L14 => xchk (xb a1 6) (xb1 (f_X0_howManyAt 0 (M (0 + 9) 2 a1.toNatClampNeg) M) (fun r30 => some ((r14 + r30), L14)))))
set_option maxHeartbeats 4000000 in
set_option maxRecDepth 100000 in
theorem c_X7_rateBrown (l : Launch) (G : xG) (sz : Nat) (M : xMem) (L : xLL) (a1 : Int32) {rr : Int32} {LR : xLL} (hf : f_X7_rateBrown a1 M L = some (rr, LR)) : Met l yX7_rateBrown (Cond.code yX7_rateBrown cX7_rateBrown 2 (some .int) :: xTB) (xR 3) (xP G M L sz [.ref (xq G 0 0), .int a1]) (xQi G rr M LR sz) 0 0 (xZ G sz) := by
  refine x_met (cc := cX7_rateBrown) (nL := 2) (rt := (some .int)) (by decide) (Nat.le_of_ble_eq_true rfl) ?_
  intro p e s m below meth c ls hsz E hl hI
  subst hsz
  have E : xE p s m _ meth c cX7_rateBrown 2 (some .int) RX7 G := E
  have hx := E.1
  have hb := E.2.1
  have hl : lv_has ls 2 [(0, .ref (xq G 0 0)), (1, .int a1)] := hl
  rw [f_X7_rateBrown] at hf
  refine lv_aload_n hx hb dX7_rateBrown_0 rfl (lv_at hl 0 rfl) ?_
  refine lv_dup hx hb dX7_rateBrown_1 rfl ?_
  refine gf_X7_256 E hI dX7_rateBrown_2 ?_
  refine lv_ldc2 hx hb E.2.2.2.2.1 (E.2.2.2.2.2.1 _ kc_X7_260) dX7_rateBrown_5 ?_
  refine lv_ladd hx hb dX7_rateBrown_8 ?_
  obtain ⟨L9, e9, hf⟩ := xlet_s hf
  refine pf_X7_256 E hI dX7_rateBrown_9 e9 (fun H locs hI => ?_)
  refine lv_aload_n hx hb dX7_rateBrown_12 rfl (lv_at hl 0 rfl) ?_
  refine lv_iload_n hx hb dX7_rateBrown_13 rfl (lv_at hl 1 rfl) ?_
  obtain ⟨r14, L14, g14, hf⟩ := xb2_s hf
  refine x_callVi (As := [.int a1]) (rest := []) E hI mx_0_0 rfl rfl rfl (c_X7_rateEgg l G _ (M := M) (L := L9) (a1 := a1) g14) yv_X7_rateEgg ml_X7_235 (by decide) (by decide) rfl rfl hl.1 (Nat.le_of_ble_eq_true rfl) dX7_rateBrown_14 (fun H locs hI => ?_)
  refine lv_aload_n hx hb dX7_rateBrown_17 rfl (lv_at hl 0 rfl) ?_
  refine gf_X7_28 E hI dX7_rateBrown_18 ?_
  refine lv_aload_n hx hb dX7_rateBrown_21 rfl (lv_at hl 0 rfl) ?_
  refine gf_X7_28 E hI dX7_rateBrown_22 ?_
  refine gf_X7_137 E hI (by decide) dX7_rateBrown_25 ?_
  refine lv_iload_n hx hb dX7_rateBrown_28 rfl (lv_at hl 1 rfl) ?_
  obtain ⟨h29b, hf⟩ := xchk_s hf
  refine x_iald (n := 6) E hI (mf_2 (by decide)) (fun _ _ => rfl) h29b dX7_rateBrown_29 ?_
  obtain ⟨r30, g30, hf⟩ := xb1_s hf
  refine x_callVi (As := [.int (M (0 + 9) 2 a1.toNatClampNeg)]) (rest := [.int r14]) E hI (mf_0 (by decide)) rfl rfl rfl (c_X0_howManyAt l G _ (M := M) (L := L14) (i := 0) (hi := (by decide)) (a1 := (M (0 + 9) 2 a1.toNatClampNeg)) g30) yv_X0_howManyAt ml_X7_159 (by decide) (by decide) rfl rfl hl.1 (Nat.le_of_ble_eq_true rfl) dX7_rateBrown_30 (fun H locs hI => ?_)
  refine lv_iadd hx hb dX7_rateBrown_33 ?_
  obtain ⟨rfl, rfl⟩ := xinj2 hf
  exact x_iret E hI rfl dX7_rateBrown_34
theorem dX7_rateDouble_0 : decode cX7_rateDouble 0 = .ok (.aload_n 0, 1) := by decide +kernel
theorem dX7_rateDouble_1 : decode cX7_rateDouble 1 = .ok (.dup, 1) := by decide +kernel
theorem dX7_rateDouble_2 : decode cX7_rateDouble 2 = .ok (.getfield 256, 3) := by decide +kernel
theorem dX7_rateDouble_5 : decode cX7_rateDouble 5 = .ok (.ldc2_w 262, 3) := by decide +kernel
theorem dX7_rateDouble_8 : decode cX7_rateDouble 8 = .ok (.ladd, 1) := by decide +kernel
theorem dX7_rateDouble_9 : decode cX7_rateDouble 9 = .ok (.putfield 256, 3) := by decide +kernel
theorem dX7_rateDouble_12 : decode cX7_rateDouble 12 = .ok (.aload_n 0, 1) := by decide +kernel
theorem dX7_rateDouble_13 : decode cX7_rateDouble 13 = .ok (.iload_n 1, 1) := by decide +kernel
theorem dX7_rateDouble_14 : decode cX7_rateDouble 14 = .ok (.invokevirtual 235, 3) := by decide +kernel
theorem dX7_rateDouble_17 : decode cX7_rateDouble 17 = .ok (.aload_n 0, 1) := by decide +kernel
theorem dX7_rateDouble_18 : decode cX7_rateDouble 18 = .ok (.getfield 19, 3) := by decide +kernel
theorem dX7_rateDouble_21 : decode cX7_rateDouble 21 = .ok (.getfield 162, 3) := by decide +kernel
theorem dX7_rateDouble_24 : decode cX7_rateDouble 24 = .ok (.isub, 1) := by decide +kernel
theorem dX7_rateDouble_25 : decode cX7_rateDouble 25 = .ok (.ireturn, 1) := by decide +kernel
def f_X7_rateDouble (a1 : Int32) (M : xMem) (L : xLL) : Option (Int32 × xLL) := xlet (va_up L 0 ((L 0) + (100 : Int64))) (fun L9 => xb2 (f_X7_rateEgg a1 M L9) (fun r14 L14 => some ((r14 - (M 3 0 0)), L14)))
set_option maxHeartbeats 4000000 in
set_option maxRecDepth 100000 in
theorem c_X7_rateDouble (l : Launch) (G : xG) (sz : Nat) (M : xMem) (L : xLL) (a1 : Int32) {rr : Int32} {LR : xLL} (hf : f_X7_rateDouble a1 M L = some (rr, LR)) : Met l yX7_rateDouble (Cond.code yX7_rateDouble cX7_rateDouble 2 (some .int) :: xTB) (xR 2) (xP G M L sz [.ref (xq G 0 0), .int a1]) (xQi G rr M LR sz) 0 0 (xZ G sz) := by
  refine x_met (cc := cX7_rateDouble) (nL := 2) (rt := (some .int)) (by decide) (Nat.le_of_ble_eq_true rfl) ?_
  intro p e s m below meth c ls hsz E hl hI
  subst hsz
  have E : xE p s m _ meth c cX7_rateDouble 2 (some .int) RX7 G := E
  have hx := E.1
  have hb := E.2.1
  have hl : lv_has ls 2 [(0, .ref (xq G 0 0)), (1, .int a1)] := hl
  rw [f_X7_rateDouble] at hf
  refine lv_aload_n hx hb dX7_rateDouble_0 rfl (lv_at hl 0 rfl) ?_
  refine lv_dup hx hb dX7_rateDouble_1 rfl ?_
  refine gf_X7_256 E hI dX7_rateDouble_2 ?_
  refine lv_ldc2 hx hb E.2.2.2.2.1 (E.2.2.2.2.2.1 _ kc_X7_262) dX7_rateDouble_5 ?_
  refine lv_ladd hx hb dX7_rateDouble_8 ?_
  obtain ⟨L9, e9, hf⟩ := xlet_s hf
  refine pf_X7_256 E hI dX7_rateDouble_9 e9 (fun H locs hI => ?_)
  refine lv_aload_n hx hb dX7_rateDouble_12 rfl (lv_at hl 0 rfl) ?_
  refine lv_iload_n hx hb dX7_rateDouble_13 rfl (lv_at hl 1 rfl) ?_
  obtain ⟨r14, L14, g14, hf⟩ := xb2_s hf
  refine x_callVi (As := [.int a1]) (rest := []) E hI mx_0_0 rfl rfl rfl (c_X7_rateEgg l G _ (M := M) (L := L9) (a1 := a1) g14) yv_X7_rateEgg ml_X7_235 (by decide) (by decide) rfl rfl hl.1 (Nat.le_of_ble_eq_true rfl) dX7_rateDouble_14 (fun H locs hI => ?_)
  refine lv_aload_n hx hb dX7_rateDouble_17 rfl (lv_at hl 0 rfl) ?_
  refine gf_X7_19 E hI dX7_rateDouble_18 ?_
  refine gf_X7_162_3 E hI dX7_rateDouble_21 ?_
  refine lv_isub hx hb dX7_rateDouble_24 ?_
  obtain ⟨rfl, rfl⟩ := xinj2 hf
  exact x_iret E hI rfl dX7_rateDouble_25
theorem dX7_rateCracked_0 : decode cX7_rateCracked 0 = .ok (.aload_n 0, 1) := by decide +kernel
theorem dX7_rateCracked_1 : decode cX7_rateCracked 1 = .ok (.dup, 1) := by decide +kernel
theorem dX7_rateCracked_2 : decode cX7_rateCracked 2 = .ok (.getfield 256, 3) := by decide +kernel
theorem dX7_rateCracked_5 : decode cX7_rateCracked 5 = .ok (.ldc2_w 264, 3) := by decide +kernel
theorem dX7_rateCracked_8 : decode cX7_rateCracked 8 = .ok (.ladd, 1) := by decide +kernel
theorem dX7_rateCracked_9 : decode cX7_rateCracked 9 = .ok (.putfield 256, 3) := by decide +kernel
theorem dX7_rateCracked_12 : decode cX7_rateCracked 12 = .ok (.iconst 2, 1) := by decide +kernel
theorem dX7_rateCracked_13 : decode cX7_rateCracked 13 = .ok (.aload_n 0, 1) := by decide +kernel
theorem dX7_rateCracked_14 : decode cX7_rateCracked 14 = .ok (.iload_n 1, 1) := by decide +kernel
theorem dX7_rateCracked_15 : decode cX7_rateCracked 15 = .ok (.invokevirtual 238, 3) := by decide +kernel
theorem dX7_rateCracked_18 : decode cX7_rateCracked 18 = .ok (.imul, 1) := by decide +kernel
theorem dX7_rateCracked_19 : decode cX7_rateCracked 19 = .ok (.ireturn, 1) := by decide +kernel
def f_X7_rateCracked (a1 : Int32) (M : xMem) (L : xLL) : Option (Int32 × xLL) := xlet (va_up L 0 ((L 0) + (1000 : Int64))) (fun L9 => xb2 (f_X7_rateBrown a1 M L9) (fun r15 L15 => some (((2 : Int32) * r15), L15)))
set_option maxHeartbeats 4000000 in
set_option maxRecDepth 100000 in
theorem c_X7_rateCracked (l : Launch) (G : xG) (sz : Nat) (M : xMem) (L : xLL) (a1 : Int32) {rr : Int32} {LR : xLL} (hf : f_X7_rateCracked a1 M L = some (rr, LR)) : Met l yX7_rateCracked (Cond.code yX7_rateCracked cX7_rateCracked 2 (some .int) :: xTB) (xR 4) (xP G M L sz [.ref (xq G 0 0), .int a1]) (xQi G rr M LR sz) 0 0 (xZ G sz) := by
  refine x_met (cc := cX7_rateCracked) (nL := 2) (rt := (some .int)) (by decide) (Nat.le_of_ble_eq_true rfl) ?_
  intro p e s m below meth c ls hsz E hl hI
  subst hsz
  have E : xE p s m _ meth c cX7_rateCracked 2 (some .int) RX7 G := E
  have hx := E.1
  have hb := E.2.1
  have hl : lv_has ls 2 [(0, .ref (xq G 0 0)), (1, .int a1)] := hl
  rw [f_X7_rateCracked] at hf
  refine lv_aload_n hx hb dX7_rateCracked_0 rfl (lv_at hl 0 rfl) ?_
  refine lv_dup hx hb dX7_rateCracked_1 rfl ?_
  refine gf_X7_256 E hI dX7_rateCracked_2 ?_
  refine lv_ldc2 hx hb E.2.2.2.2.1 (E.2.2.2.2.2.1 _ kc_X7_264) dX7_rateCracked_5 ?_
  refine lv_ladd hx hb dX7_rateCracked_8 ?_
  obtain ⟨L9, e9, hf⟩ := xlet_s hf
  refine pf_X7_256 E hI dX7_rateCracked_9 e9 (fun H locs hI => ?_)
  refine lv_iconst (v := 2) hx hb dX7_rateCracked_12 (by decide) ?_
  refine lv_aload_n hx hb dX7_rateCracked_13 rfl (lv_at hl 0 rfl) ?_
  refine lv_iload_n hx hb dX7_rateCracked_14 rfl (lv_at hl 1 rfl) ?_
  obtain ⟨r15, L15, g15, hf⟩ := xb2_s hf
  refine x_callVi (As := [.int a1]) (rest := [.int (2 : Int32)]) E hI mx_0_0 rfl rfl rfl (c_X7_rateBrown l G _ (M := M) (L := L9) (a1 := a1) g15) yv_X7_rateBrown ml_X7_238 (by decide) (by decide) rfl rfl hl.1 (Nat.le_of_ble_eq_true rfl) dX7_rateCracked_15 (fun H locs hI => ?_)
  refine lv_imul hx hb dX7_rateCracked_18 ?_
  obtain ⟨rfl, rfl⟩ := xinj2 hf
  exact x_iret E hI rfl dX7_rateCracked_19
theorem dX7_rateDuck_0 : decode cX7_rateDuck 0 = .ok (.aload_n 0, 1) := by decide +kernel
theorem dX7_rateDuck_1 : decode cX7_rateDuck 1 = .ok (.dup, 1) := by decide +kernel
theorem dX7_rateDuck_2 : decode cX7_rateDuck 2 = .ok (.getfield 256, 3) := by decide +kernel
theorem dX7_rateDuck_5 : decode cX7_rateDuck 5 = .ok (.ldc2_w 266, 3) := by decide +kernel
theorem dX7_rateDuck_8 : decode cX7_rateDuck 8 = .ok (.ladd, 1) := by decide +kernel
theorem dX7_rateDuck_9 : decode cX7_rateDuck 9 = .ok (.putfield 256, 3) := by decide +kernel
theorem dX7_rateDuck_12 : decode cX7_rateDuck 12 = .ok (.aload_n 0, 1) := by decide +kernel
theorem dX7_rateDuck_13 : decode cX7_rateDuck 13 = .ok (.iload_n 1, 1) := by decide +kernel
theorem dX7_rateDuck_14 : decode cX7_rateDuck 14 = .ok (.invokevirtual 241, 3) := by decide +kernel
theorem dX7_rateDuck_17 : decode cX7_rateDuck 17 = .ok (.iload_n 1, 1) := by decide +kernel
theorem dX7_rateDuck_18 : decode cX7_rateDuck 18 = .ok (.iadd, 1) := by decide +kernel
theorem dX7_rateDuck_19 : decode cX7_rateDuck 19 = .ok (.ireturn, 1) := by decide +kernel
def f_X7_rateDuck (a1 : Int32) (M : xMem) (L : xLL) : Option (Int32 × xLL) := xlet (va_up L 0 ((L 0) + (10000 : Int64))) (fun L9 => xb2 (f_X7_rateDouble a1 M L9) (fun r14 L14 => some ((r14 + a1), L14)))
set_option maxHeartbeats 4000000 in
set_option maxRecDepth 100000 in
theorem c_X7_rateDuck (l : Launch) (G : xG) (sz : Nat) (M : xMem) (L : xLL) (a1 : Int32) {rr : Int32} {LR : xLL} (hf : f_X7_rateDuck a1 M L = some (rr, LR)) : Met l yX7_rateDuck (Cond.code yX7_rateDuck cX7_rateDuck 2 (some .int) :: xTB) (xR 3) (xP G M L sz [.ref (xq G 0 0), .int a1]) (xQi G rr M LR sz) 0 0 (xZ G sz) := by
  refine x_met (cc := cX7_rateDuck) (nL := 2) (rt := (some .int)) (by decide) (Nat.le_of_ble_eq_true rfl) ?_
  intro p e s m below meth c ls hsz E hl hI
  subst hsz
  have E : xE p s m _ meth c cX7_rateDuck 2 (some .int) RX7 G := E
  have hx := E.1
  have hb := E.2.1
  have hl : lv_has ls 2 [(0, .ref (xq G 0 0)), (1, .int a1)] := hl
  rw [f_X7_rateDuck] at hf
  refine lv_aload_n hx hb dX7_rateDuck_0 rfl (lv_at hl 0 rfl) ?_
  refine lv_dup hx hb dX7_rateDuck_1 rfl ?_
  refine gf_X7_256 E hI dX7_rateDuck_2 ?_
  refine lv_ldc2 hx hb E.2.2.2.2.1 (E.2.2.2.2.2.1 _ kc_X7_266) dX7_rateDuck_5 ?_
  refine lv_ladd hx hb dX7_rateDuck_8 ?_
  obtain ⟨L9, e9, hf⟩ := xlet_s hf
  refine pf_X7_256 E hI dX7_rateDuck_9 e9 (fun H locs hI => ?_)
  refine lv_aload_n hx hb dX7_rateDuck_12 rfl (lv_at hl 0 rfl) ?_
  refine lv_iload_n hx hb dX7_rateDuck_13 rfl (lv_at hl 1 rfl) ?_
  obtain ⟨r14, L14, g14, hf⟩ := xb2_s hf
  refine x_callVi (As := [.int a1]) (rest := []) E hI mx_0_0 rfl rfl rfl (c_X7_rateDouble l G _ (M := M) (L := L9) (a1 := a1) g14) yv_X7_rateDouble ml_X7_241 (by decide) (by decide) rfl rfl hl.1 (Nat.le_of_ble_eq_true rfl) dX7_rateDuck_14 (fun H locs hI => ?_)
  refine lv_iload_n hx hb dX7_rateDuck_17 rfl (lv_at hl 1 rfl) ?_
  refine lv_iadd hx hb dX7_rateDuck_18 ?_
  obtain ⟨rfl, rfl⟩ := xinj2 hf
  exact x_iret E hI rfl dX7_rateDuck_19
theorem dX7_rateBantam_0 : decode cX7_rateBantam 0 = .ok (.aload_n 0, 1) := by decide +kernel
theorem dX7_rateBantam_1 : decode cX7_rateBantam 1 = .ok (.dup, 1) := by decide +kernel
theorem dX7_rateBantam_2 : decode cX7_rateBantam 2 = .ok (.getfield 256, 3) := by decide +kernel
theorem dX7_rateBantam_5 : decode cX7_rateBantam 5 = .ok (.ldc2_w 268, 3) := by decide +kernel
theorem dX7_rateBantam_8 : decode cX7_rateBantam 8 = .ok (.ladd, 1) := by decide +kernel
theorem dX7_rateBantam_9 : decode cX7_rateBantam 9 = .ok (.putfield 256, 3) := by decide +kernel
theorem dX7_rateBantam_12 : decode cX7_rateBantam 12 = .ok (.aload_n 0, 1) := by decide +kernel
theorem dX7_rateBantam_13 : decode cX7_rateBantam 13 = .ok (.iload_n 1, 1) := by decide +kernel
theorem dX7_rateBantam_14 : decode cX7_rateBantam 14 = .ok (.invokevirtual 235, 3) := by decide +kernel
theorem dX7_rateBantam_17 : decode cX7_rateBantam 17 = .ok (.aload_n 0, 1) := by decide +kernel
theorem dX7_rateBantam_18 : decode cX7_rateBantam 18 = .ok (.getfield 28, 3) := by decide +kernel
theorem dX7_rateBantam_21 : decode cX7_rateBantam 21 = .ok (.invokevirtual 150, 3) := by decide +kernel
theorem dX7_rateBantam_24 : decode cX7_rateBantam 24 = .ok (.iadd, 1) := by decide +kernel
theorem dX7_rateBantam_25 : decode cX7_rateBantam 25 = .ok (.ireturn, 1) := by decide +kernel
def f_X7_rateBantam (a1 : Int32) (M : xMem) (L : xLL) : Option (Int32 × xLL) := xlet (va_up L 0 ((L 0) + (100000 : Int64))) (fun L9 => xb2 (f_X7_rateEgg a1 M L9) (fun r14 L14 => xb1 (f_X0_allFallen 0 M) (fun r21 => some ((r14 + r21), L14))))
set_option maxHeartbeats 4000000 in
set_option maxRecDepth 100000 in
theorem c_X7_rateBantam (l : Launch) (G : xG) (sz : Nat) (M : xMem) (L : xLL) (a1 : Int32) {rr : Int32} {LR : xLL} (hf : f_X7_rateBantam a1 M L = some (rr, LR)) : Met l yX7_rateBantam (Cond.code yX7_rateBantam cX7_rateBantam 2 (some .int) :: xTB) (xR 2) (xP G M L sz [.ref (xq G 0 0), .int a1]) (xQi G rr M LR sz) 0 0 (xZ G sz) := by
  refine x_met (cc := cX7_rateBantam) (nL := 2) (rt := (some .int)) (by decide) (Nat.le_of_ble_eq_true rfl) ?_
  intro p e s m below meth c ls hsz E hl hI
  subst hsz
  have E : xE p s m _ meth c cX7_rateBantam 2 (some .int) RX7 G := E
  have hx := E.1
  have hb := E.2.1
  have hl : lv_has ls 2 [(0, .ref (xq G 0 0)), (1, .int a1)] := hl
  rw [f_X7_rateBantam] at hf
  refine lv_aload_n hx hb dX7_rateBantam_0 rfl (lv_at hl 0 rfl) ?_
  refine lv_dup hx hb dX7_rateBantam_1 rfl ?_
  refine gf_X7_256 E hI dX7_rateBantam_2 ?_
  refine lv_ldc2 hx hb E.2.2.2.2.1 (E.2.2.2.2.2.1 _ kc_X7_268) dX7_rateBantam_5 ?_
  refine lv_ladd hx hb dX7_rateBantam_8 ?_
  obtain ⟨L9, e9, hf⟩ := xlet_s hf
  refine pf_X7_256 E hI dX7_rateBantam_9 e9 (fun H locs hI => ?_)
  refine lv_aload_n hx hb dX7_rateBantam_12 rfl (lv_at hl 0 rfl) ?_
  refine lv_iload_n hx hb dX7_rateBantam_13 rfl (lv_at hl 1 rfl) ?_
  obtain ⟨r14, L14, g14, hf⟩ := xb2_s hf
  refine x_callVi (As := [.int a1]) (rest := []) E hI mx_0_0 rfl rfl rfl (c_X7_rateEgg l G _ (M := M) (L := L9) (a1 := a1) g14) yv_X7_rateEgg ml_X7_235 (by decide) (by decide) rfl rfl hl.1 (Nat.le_of_ble_eq_true rfl) dX7_rateBantam_14 (fun H locs hI => ?_)
  refine lv_aload_n hx hb dX7_rateBantam_17 rfl (lv_at hl 0 rfl) ?_
  refine gf_X7_28 E hI dX7_rateBantam_18 ?_
  obtain ⟨r21, g21, hf⟩ := xb1_s hf
  refine x_callVi (As := []) (rest := [.int r14]) E hI (mf_0 (by decide)) rfl rfl rfl (c_X0_allFallen l G _ (M := M) (L := L14) (i := 0) (hi := (by decide)) g21) yv_X0_allFallen ml_X7_150 (by decide) (by decide) rfl rfl hl.1 (Nat.le_of_ble_eq_true rfl) dX7_rateBantam_21 (fun H locs hI => ?_)
  refine lv_iadd hx hb dX7_rateBantam_24 ?_
  obtain ⟨rfl, rfl⟩ := xinj2 hf
  exact x_iret E hI rfl dX7_rateBantam_25
theorem dX7_rate_0 : decode cX7_rate 0 = .ok (.aload_n 0, 1) := by decide +kernel
theorem dX7_rate_1 : decode cX7_rate 1 = .ok (.iload_n 2, 1) := by decide +kernel
theorem dX7_rate_2 : decode cX7_rate 2 = .ok (.invokevirtual 128, 3) := by decide +kernel
theorem dX7_rate_5 : decode cX7_rate 5 = .ok (.ifCond .eq 6, 3) := by decide +kernel
theorem dX7_rate_8 : decode cX7_rate 8 = .ok (.ldc 234, 2) := by decide +kernel
theorem dX7_rate_10 : decode cX7_rate 10 = .ok (.ireturn, 1) := by decide +kernel
theorem dX7_rate_11 : decode cX7_rate 11 = .ok (.iload_n 1, 1) := by decide +kernel
theorem dX7_rate_12 : decode cX7_rate 12 = .ok (.tableswitch 76 0 5 #[40, 46, 52, 58, 64, 70], 40) := by decide +kernel
theorem dX7_rate_52 : decode cX7_rate 52 = .ok (.aload_n 0, 1) := by decide +kernel
theorem dX7_rate_53 : decode cX7_rate 53 = .ok (.iload_n 2, 1) := by decide +kernel
theorem dX7_rate_54 : decode cX7_rate 54 = .ok (.invokevirtual 235, 3) := by decide +kernel
theorem dX7_rate_57 : decode cX7_rate 57 = .ok (.ireturn, 1) := by decide +kernel
theorem dX7_rate_58 : decode cX7_rate 58 = .ok (.aload_n 0, 1) := by decide +kernel
theorem dX7_rate_59 : decode cX7_rate 59 = .ok (.iload_n 2, 1) := by decide +kernel
theorem dX7_rate_60 : decode cX7_rate 60 = .ok (.invokevirtual 238, 3) := by decide +kernel
theorem dX7_rate_63 : decode cX7_rate 63 = .ok (.ireturn, 1) := by decide +kernel
theorem dX7_rate_64 : decode cX7_rate 64 = .ok (.aload_n 0, 1) := by decide +kernel
theorem dX7_rate_65 : decode cX7_rate 65 = .ok (.iload_n 2, 1) := by decide +kernel
theorem dX7_rate_66 : decode cX7_rate 66 = .ok (.invokevirtual 241, 3) := by decide +kernel
theorem dX7_rate_69 : decode cX7_rate 69 = .ok (.ireturn, 1) := by decide +kernel
theorem dX7_rate_70 : decode cX7_rate 70 = .ok (.aload_n 0, 1) := by decide +kernel
theorem dX7_rate_71 : decode cX7_rate 71 = .ok (.iload_n 2, 1) := by decide +kernel
theorem dX7_rate_72 : decode cX7_rate 72 = .ok (.invokevirtual 244, 3) := by decide +kernel
theorem dX7_rate_75 : decode cX7_rate 75 = .ok (.ireturn, 1) := by decide +kernel
theorem dX7_rate_76 : decode cX7_rate 76 = .ok (.aload_n 0, 1) := by decide +kernel
theorem dX7_rate_77 : decode cX7_rate 77 = .ok (.iload_n 2, 1) := by decide +kernel
theorem dX7_rate_78 : decode cX7_rate 78 = .ok (.invokevirtual 247, 3) := by decide +kernel
theorem dX7_rate_81 : decode cX7_rate 81 = .ok (.ireturn, 1) := by decide +kernel
theorem dX7_rate_82 : decode cX7_rate 82 = .ok (.aload_n 0, 1) := by decide +kernel
theorem dX7_rate_83 : decode cX7_rate 83 = .ok (.iload_n 2, 1) := by decide +kernel
theorem dX7_rate_84 : decode cX7_rate 84 = .ok (.invokevirtual 250, 3) := by decide +kernel
theorem dX7_rate_87 : decode cX7_rate 87 = .ok (.ireturn, 1) := by decide +kernel
theorem dX7_rate_88 : decode cX7_rate 88 = .ok (.ldc 234, 2) := by decide +kernel
theorem dX7_rate_90 : decode cX7_rate 90 = .ok (.ireturn, 1) := by decide +kernel
def f_X7_rate (a1 : Int32) (a2 : Int32) (M : xMem) (L : xLL) : Option (Int32 × xLL) := xb1 (f_X7_noEgg a2 M) (fun r2 => (if r2 = (0 : Int32) then (if a1 = (0 : Int32) then xb2 (f_X7_rateEgg a2 M L) (fun r54 L54 => some (r54, L54)) else (if a1 = (1 : Int32) then xb2 (f_X7_rateBrown a2 M L) (fun r60 L60 => some (r60, L60)) else (if a1 = (2 : Int32) then xb2 (f_X7_rateDouble a2 M L) (fun r66 L66 => some (r66, L66)) else (if a1 = (3 : Int32) then xb2 (f_X7_rateCracked a2 M L) (fun r72 L72 => some (r72, L72)) else (if a1 = (4 : Int32) then xb2 (f_X7_rateDuck a2 M L) (fun r78 L78 => some (r78, L78)) else (if a1 = (5 : Int32) then xb2 (f_X7_rateBantam a2 M L) (fun r84 L84 => some (r84, L84)) else some ((-1000000 : Int32), L))))))) else some ((-1000000 : Int32), L)))
set_option maxHeartbeats 4000000 in
set_option maxRecDepth 100000 in
theorem c_X7_rate (l : Launch) (G : xG) (sz : Nat) (M : xMem) (L : xLL) (a1 : Int32) (a2 : Int32) {rr : Int32} {LR : xLL} (hf : f_X7_rate a1 a2 M L = some (rr, LR)) : Met l yX7_rate (Cond.code yX7_rate cX7_rate 3 (some .int) :: xTB) (xR 5) (xP G M L sz [.ref (xq G 0 0), .int a1, .int a2]) (xQi G rr M LR sz) 0 0 (xZ G sz) := by
  refine x_met (cc := cX7_rate) (nL := 3) (rt := (some .int)) (by decide) (Nat.le_of_ble_eq_true rfl) ?_
  intro p e s m below meth c ls hsz E hl hI
  subst hsz
  have E : xE p s m _ meth c cX7_rate 3 (some .int) RX7 G := E
  have hx := E.1
  have hb := E.2.1
  have hl : lv_has ls 3 [(0, .ref (xq G 0 0)), (1, .int a1), (2, .int a2)] := hl
  rw [f_X7_rate] at hf
  refine lv_aload_n hx hb dX7_rate_0 rfl (lv_at hl 0 rfl) ?_
  refine lv_iload_n hx hb dX7_rate_1 rfl (lv_at hl 2 rfl) ?_
  obtain ⟨r2, g2, hf⟩ := xb1_s hf
  refine x_callVi (As := [.int a2]) (rest := []) E hI mx_0_0 rfl rfl rfl (c_X7_noEgg l G _ (M := M) (L := L) (a1 := a2) g2) yv_X7_noEgg ml_X7_128 (by decide) (by decide) rfl rfl hl.1 (Nat.le_of_ble_eq_true rfl) dX7_rate_2 (fun H locs hI => ?_)
  refine lv_if_eq (tgt := 11) hx hb dX7_rate_5 (by decide) (fun c5 => ?_) (fun c5 => ?_)
  · replace hf := xif_t c5 hf
    refine lv_iload_n hx hb dX7_rate_11 rfl (lv_at hl 1 rfl) ?_
    by_cases c12_0 : a1 = (0 : Int32)
    · replace hf := xif_t c12_0 hf
      refine x_tsIn (off := 40) (tgt := 52) hx hb c12_0 dX7_rate_12 (by decide) (by decide) (by decide) (by decide) ?_
      refine lv_aload_n hx hb dX7_rate_52 rfl (lv_at hl 0 rfl) ?_
      refine lv_iload_n hx hb dX7_rate_53 rfl (lv_at hl 2 rfl) ?_
      obtain ⟨r54, L54, g54, hf⟩ := xb2_s hf
      refine x_callVi (As := [.int a2]) (rest := []) E hI mx_0_0 rfl rfl rfl (c_X7_rateEgg l G _ (M := M) (L := L) (a1 := a2) g54) yv_X7_rateEgg ml_X7_235 (by decide) (by decide) rfl rfl hl.1 (Nat.le_of_ble_eq_true rfl) dX7_rate_54 (fun H locs hI => ?_)
      obtain ⟨rfl, rfl⟩ := xinj2 hf
      exact x_iret E hI rfl dX7_rate_57
    · replace hf := xif_f c12_0 hf
      by_cases c12_1 : a1 = (1 : Int32)
      · replace hf := xif_t c12_1 hf
        refine x_tsIn (off := 46) (tgt := 58) hx hb c12_1 dX7_rate_12 (by decide) (by decide) (by decide) (by decide) ?_
        refine lv_aload_n hx hb dX7_rate_58 rfl (lv_at hl 0 rfl) ?_
        refine lv_iload_n hx hb dX7_rate_59 rfl (lv_at hl 2 rfl) ?_
        obtain ⟨r60, L60, g60, hf⟩ := xb2_s hf
        refine x_callVi (As := [.int a2]) (rest := []) E hI mx_0_0 rfl rfl rfl (c_X7_rateBrown l G _ (M := M) (L := L) (a1 := a2) g60) yv_X7_rateBrown ml_X7_238 (by decide) (by decide) rfl rfl hl.1 (Nat.le_of_ble_eq_true rfl) dX7_rate_60 (fun H locs hI => ?_)
        obtain ⟨rfl, rfl⟩ := xinj2 hf
        exact x_iret E hI rfl dX7_rate_63
      · replace hf := xif_f c12_1 hf
        by_cases c12_2 : a1 = (2 : Int32)
        · replace hf := xif_t c12_2 hf
          refine x_tsIn (off := 52) (tgt := 64) hx hb c12_2 dX7_rate_12 (by decide) (by decide) (by decide) (by decide) ?_
          refine lv_aload_n hx hb dX7_rate_64 rfl (lv_at hl 0 rfl) ?_
          refine lv_iload_n hx hb dX7_rate_65 rfl (lv_at hl 2 rfl) ?_
          obtain ⟨r66, L66, g66, hf⟩ := xb2_s hf
          refine x_callVi (As := [.int a2]) (rest := []) E hI mx_0_0 rfl rfl rfl (c_X7_rateDouble l G _ (M := M) (L := L) (a1 := a2) g66) yv_X7_rateDouble ml_X7_241 (by decide) (by decide) rfl rfl hl.1 (Nat.le_of_ble_eq_true rfl) dX7_rate_66 (fun H locs hI => ?_)
          obtain ⟨rfl, rfl⟩ := xinj2 hf
          exact x_iret E hI rfl dX7_rate_69
        · replace hf := xif_f c12_2 hf
          by_cases c12_3 : a1 = (3 : Int32)
          · replace hf := xif_t c12_3 hf
            refine x_tsIn (off := 58) (tgt := 70) hx hb c12_3 dX7_rate_12 (by decide) (by decide) (by decide) (by decide) ?_
            refine lv_aload_n hx hb dX7_rate_70 rfl (lv_at hl 0 rfl) ?_
            refine lv_iload_n hx hb dX7_rate_71 rfl (lv_at hl 2 rfl) ?_
            obtain ⟨r72, L72, g72, hf⟩ := xb2_s hf
            refine x_callVi (As := [.int a2]) (rest := []) E hI mx_0_0 rfl rfl rfl (c_X7_rateCracked l G _ (M := M) (L := L) (a1 := a2) g72) yv_X7_rateCracked ml_X7_244 (by decide) (by decide) rfl rfl hl.1 (Nat.le_of_ble_eq_true rfl) dX7_rate_72 (fun H locs hI => ?_)
            obtain ⟨rfl, rfl⟩ := xinj2 hf
            exact x_iret E hI rfl dX7_rate_75
          · replace hf := xif_f c12_3 hf
            by_cases c12_4 : a1 = (4 : Int32)
            · replace hf := xif_t c12_4 hf
              refine x_tsIn (off := 64) (tgt := 76) hx hb c12_4 dX7_rate_12 (by decide) (by decide) (by decide) (by decide) ?_
              refine lv_aload_n hx hb dX7_rate_76 rfl (lv_at hl 0 rfl) ?_
              refine lv_iload_n hx hb dX7_rate_77 rfl (lv_at hl 2 rfl) ?_
              obtain ⟨r78, L78, g78, hf⟩ := xb2_s hf
              refine x_callVi (As := [.int a2]) (rest := []) E hI mx_0_0 rfl rfl rfl (c_X7_rateDuck l G _ (M := M) (L := L) (a1 := a2) g78) yv_X7_rateDuck ml_X7_247 (by decide) (by decide) rfl rfl hl.1 (Nat.le_of_ble_eq_true rfl) dX7_rate_78 (fun H locs hI => ?_)
              obtain ⟨rfl, rfl⟩ := xinj2 hf
              exact x_iret E hI rfl dX7_rate_81
            · replace hf := xif_f c12_4 hf
              by_cases c12_5 : a1 = (5 : Int32)
              · replace hf := xif_t c12_5 hf
                refine x_tsIn (off := 70) (tgt := 82) hx hb c12_5 dX7_rate_12 (by decide) (by decide) (by decide) (by decide) ?_
                refine lv_aload_n hx hb dX7_rate_82 rfl (lv_at hl 0 rfl) ?_
                refine lv_iload_n hx hb dX7_rate_83 rfl (lv_at hl 2 rfl) ?_
                obtain ⟨r84, L84, g84, hf⟩ := xb2_s hf
                refine x_callVi (As := [.int a2]) (rest := []) E hI mx_0_0 rfl rfl rfl (c_X7_rateBantam l G _ (M := M) (L := L) (a1 := a2) g84) yv_X7_rateBantam ml_X7_250 (by decide) (by decide) rfl rfl hl.1 (Nat.le_of_ble_eq_true rfl) dX7_rate_84 (fun H locs hI => ?_)
                obtain ⟨rfl, rfl⟩ := xinj2 hf
                exact x_iret E hI rfl dX7_rate_87
              · replace hf := xif_f c12_5 hf
                refine x_tsOut hx hb dX7_rate_12 (fun k hk => by
                  have hk2 : k = 0 ∨ k = 1 ∨ k = 2 ∨ k = 3 ∨ k = 4 ∨ k = 5 := by
                    have hk3 : k < 6 := hk
                    omega
                  rcases hk2 with rfl | rfl | rfl | rfl | rfl | rfl
                  · exact c12_0
                  · exact c12_1
                  · exact c12_2
                  · exact c12_3
                  · exact c12_4
                  · exact c12_5) (tgt := 88) (by decide) ?_
                refine lv_ldc hx hb E.2.2.2.2.1 (E.2.2.2.2.2.1 _ kc_X7_234) dX7_rate_88 ?_
                obtain ⟨rfl, rfl⟩ := xinj2 hf
                exact x_iret E hI rfl dX7_rate_90
  · replace hf := xif_f c5 hf
    refine lv_ldc hx hb E.2.2.2.2.1 (E.2.2.2.2.2.1 _ kc_X7_234) dX7_rate_8 ?_
    obtain ⟨rfl, rfl⟩ := xinj2 hf
    exact x_iret E hI rfl dX7_rate_10
theorem dX7_keep_0 : decode cX7_keep 0 = .ok (.iload_n 1, 1) := by decide +kernel
theorem dX7_keep_1 : decode cX7_keep 1 = .ok (.iconst 0, 1) := by decide +kernel
theorem dX7_keep_2 : decode cX7_keep 2 = .ok (.iconst 1, 1) := by decide +kernel
theorem dX7_keep_3 : decode cX7_keep 3 = .ok (.invokestatic 73, 3) := by decide +kernel
theorem dX7_keep_6 : decode cX7_keep 6 = .ok (.ifCond .eq 5, 3) := by decide +kernel
theorem dX7_keep_9 : decode cX7_keep 9 = .ok (.iconst (-1), 1) := by decide +kernel
theorem dX7_keep_10 : decode cX7_keep 10 = .ok (.ireturn, 1) := by decide +kernel
theorem dX7_keep_11 : decode cX7_keep 11 = .ok (.aload_n 0, 1) := by decide +kernel
theorem dX7_keep_12 : decode cX7_keep 12 = .ok (.getfield 42, 3) := by decide +kernel
theorem dX7_keep_15 : decode cX7_keep 15 = .ok (.iload_n 1, 1) := by decide +kernel
theorem dX7_keep_16 : decode cX7_keep 16 = .ok (.aaload, 1) := by decide +kernel
theorem dX7_keep_17 : decode cX7_keep 17 = .ok (.aload_n 0, 1) := by decide +kernel
theorem dX7_keep_18 : decode cX7_keep 18 = .ok (.getfield 28, 3) := by decide +kernel
theorem dX7_keep_21 : decode cX7_keep 21 = .ok (.invokevirtual 171, 3) := by decide +kernel
theorem dX7_keep_24 : decode cX7_keep 24 = .ok (.aload_n 0, 1) := by decide +kernel
theorem dX7_keep_25 : decode cX7_keep 25 = .ok (.getfield 46, 3) := by decide +kernel
theorem dX7_keep_28 : decode cX7_keep 28 = .ok (.iload_n 1, 1) := by decide +kernel
theorem dX7_keep_29 : decode cX7_keep 29 = .ok (.iconst 1, 1) := by decide +kernel
theorem dX7_keep_30 : decode cX7_keep 30 = .ok (.bastore, 1) := by decide +kernel
theorem dX7_keep_31 : decode cX7_keep 31 = .ok (.aload_n 0, 1) := by decide +kernel
theorem dX7_keep_32 : decode cX7_keep 32 = .ok (.getfield 28, 3) := by decide +kernel
theorem dX7_keep_35 : decode cX7_keep 35 = .ok (.iconst 0, 1) := by decide +kernel
theorem dX7_keep_36 : decode cX7_keep 36 = .ok (.invokevirtual 159, 3) := by decide +kernel
theorem dX7_keep_39 : decode cX7_keep 39 = .ok (.ireturn, 1) := by decide +kernel
def f_X7_keep (a1 : Int32) (M : xMem) : Option (Int32 × xMem) := xb1 (f_X7_beyond a1 (0 : Int32) (1 : Int32) M) (fun r3 => (if r3 = (0 : Int32) then xchk (xb a1 2) (xb1 (f_X0_become (a1.toNatClampNeg + 2) 0 M) (fun M21 => xchk (xb a1 2) (xlet (xst M21 0 7 a1 (vp_nar .boolean (1 : Int32))) (fun M30 => xb1 (f_X0_howManyAt 0 (0 : Int32) M30) (fun r36 => some (r36, M30)))))) else some ((-1 : Int32), M)))
set_option maxHeartbeats 4000000 in
set_option maxRecDepth 100000 in
theorem c_X7_keep (l : Launch) (G : xG) (sz : Nat) (M : xMem) (L : xLL) (a1 : Int32) {rr : Int32} {MM : xMem} (hf : f_X7_keep a1 M = some (rr, MM)) : Met l yX7_keep (Cond.code yX7_keep cX7_keep 2 (some .int) :: xTB) (xR 3) (xP G M L sz [.ref (xq G 0 0), .int a1]) (xQi G rr MM L sz) 0 0 (xZ G sz) := by
  refine x_met (cc := cX7_keep) (nL := 2) (rt := (some .int)) (by decide) (Nat.le_of_ble_eq_true rfl) ?_
  intro p e s m below meth c ls hsz E hl hI
  subst hsz
  have E : xE p s m _ meth c cX7_keep 2 (some .int) RX7 G := E
  have hx := E.1
  have hb := E.2.1
  have hl : lv_has ls 2 [(0, .ref (xq G 0 0)), (1, .int a1)] := hl
  rw [f_X7_keep] at hf
  refine lv_iload_n hx hb dX7_keep_0 rfl (lv_at hl 1 rfl) ?_
  refine lv_iconst (v := 0) hx hb dX7_keep_1 (by decide) ?_
  refine lv_iconst (v := 1) hx hb dX7_keep_2 (by decide) ?_
  obtain ⟨r3, g3, hf⟩ := xb1_s hf
  refine x_callSi (As := [.int a1, .int (0 : Int32), .int (1 : Int32)]) (rest := []) E hI (c_X7_beyond l G _ (M := M) (L := L) (a0 := a1) (a1 := (0 : Int32)) (a2 := (1 : Int32)) g3) ys_X7_beyond ml_X7_73 (by decide) (by decide) rfl rfl hl.1 (Nat.le_of_ble_eq_true rfl) dX7_keep_3 (fun H locs hI => ?_)
  refine lv_if_eq (tgt := 11) hx hb dX7_keep_6 (by decide) (fun c6 => ?_) (fun c6 => ?_)
  · replace hf := xif_t c6 hf
    refine lv_aload_n hx hb dX7_keep_11 rfl (lv_at hl 0 rfl) ?_
    refine gf_X7_42 E hI dX7_keep_12 ?_
    refine lv_iload_n hx hb dX7_keep_15 rfl (lv_at hl 1 rfl) ?_
    obtain ⟨h16b, hf⟩ := xchk_s hf
    refine x_aald (n := 2) E hI mx_0_6 (fun _ _ => rfl) h16b dX7_keep_16 ?_
    refine lv_aload_n hx hb dX7_keep_17 rfl (lv_at hl 0 rfl) ?_
    refine gf_X7_28 E hI dX7_keep_18 ?_
    obtain ⟨M21, g21, hf⟩ := xb1_s hf
    refine x_callVv (As := [.ref (xq G (0 + 9) 0)]) (rest := []) E hI (mf_0 (xb_fl (n := 2) h16b (by decide))) rfl rfl rfl (c_X0_become l G _ (M := M) (L := L) (i := (a1.toNatClampNeg + 2)) (hi := (xb_fl (n := 2) h16b (by decide))) (j1 := 0) (hj1 := (by decide)) g21) yv_X0_become ml_X7_171 (by decide) (by decide) rfl rfl hl.1 (Nat.le_of_ble_eq_true rfl) dX7_keep_21 (fun H locs hI => ?_)
    refine lv_aload_n hx hb dX7_keep_24 rfl (lv_at hl 0 rfl) ?_
    refine gf_X7_46 E hI dX7_keep_25 ?_
    refine lv_iload_n hx hb dX7_keep_28 rfl (lv_at hl 1 rfl) ?_
    refine lv_iconst (v := 1) hx hb dX7_keep_29 (by decide) ?_
    obtain ⟨h30b, hf⟩ := xchk_s hf
    obtain ⟨M30, e30, hf⟩ := xlet_s hf
    refine x_zast (n := 2) E hI mx_0_7 (fun _ _ => rfl) h30b dX7_keep_30 e30 (fun H locs hI => ?_)
    refine lv_aload_n hx hb dX7_keep_31 rfl (lv_at hl 0 rfl) ?_
    refine gf_X7_28 E hI dX7_keep_32 ?_
    refine lv_iconst (v := 0) hx hb dX7_keep_35 (by decide) ?_
    obtain ⟨r36, g36, hf⟩ := xb1_s hf
    refine x_callVi (As := [.int (0 : Int32)]) (rest := []) E hI (mf_0 (by decide)) rfl rfl rfl (c_X0_howManyAt l G _ (M := M30) (L := L) (i := 0) (hi := (by decide)) (a1 := (0 : Int32)) g36) yv_X0_howManyAt ml_X7_159 (by decide) (by decide) rfl rfl hl.1 (Nat.le_of_ble_eq_true rfl) dX7_keep_36 (fun H locs hI => ?_)
    obtain ⟨rfl, rfl⟩ := xinj2 hf
    exact x_iret E hI rfl dX7_keep_39
  · replace hf := xif_f c6 hf
    refine lv_iconst (v := -1) hx hb dX7_keep_9 (by decide) ?_
    obtain ⟨rfl, rfl⟩ := xinj2 hf
    exact x_iret E hI rfl dX7_keep_10
theorem dX7_back_0 : decode cX7_back 0 = .ok (.iload_n 1, 1) := by decide +kernel
theorem dX7_back_1 : decode cX7_back 1 = .ok (.iconst 0, 1) := by decide +kernel
theorem dX7_back_2 : decode cX7_back 2 = .ok (.iconst 1, 1) := by decide +kernel
theorem dX7_back_3 : decode cX7_back 3 = .ok (.invokestatic 73, 3) := by decide +kernel
theorem dX7_back_6 : decode cX7_back 6 = .ok (.ifCond .eq 5, 3) := by decide +kernel
theorem dX7_back_9 : decode cX7_back 9 = .ok (.iconst (-1), 1) := by decide +kernel
theorem dX7_back_10 : decode cX7_back 10 = .ok (.ireturn, 1) := by decide +kernel
theorem dX7_back_11 : decode cX7_back 11 = .ok (.aload_n 0, 1) := by decide +kernel
theorem dX7_back_12 : decode cX7_back 12 = .ok (.getfield 46, 3) := by decide +kernel
theorem dX7_back_15 : decode cX7_back 15 = .ok (.iload_n 1, 1) := by decide +kernel
theorem dX7_back_16 : decode cX7_back 16 = .ok (.baload, 1) := by decide +kernel
theorem dX7_back_17 : decode cX7_back 17 = .ok (.ifCond .ne 6, 3) := by decide +kernel
theorem dX7_back_20 : decode cX7_back 20 = .ok (.bipush (-2), 2) := by decide +kernel
theorem dX7_back_22 : decode cX7_back 22 = .ok (.ireturn, 1) := by decide +kernel
theorem dX7_back_23 : decode cX7_back 23 = .ok (.aload_n 0, 1) := by decide +kernel
theorem dX7_back_24 : decode cX7_back 24 = .ok (.getfield 28, 3) := by decide +kernel
theorem dX7_back_27 : decode cX7_back 27 = .ok (.aload_n 0, 1) := by decide +kernel
theorem dX7_back_28 : decode cX7_back 28 = .ok (.getfield 42, 3) := by decide +kernel
theorem dX7_back_31 : decode cX7_back 31 = .ok (.iload_n 1, 1) := by decide +kernel
theorem dX7_back_32 : decode cX7_back 32 = .ok (.aaload, 1) := by decide +kernel
theorem dX7_back_33 : decode cX7_back 33 = .ok (.invokevirtual 171, 3) := by decide +kernel
theorem dX7_back_36 : decode cX7_back 36 = .ok (.aload_n 0, 1) := by decide +kernel
theorem dX7_back_37 : decode cX7_back 37 = .ok (.getfield 38, 3) := by decide +kernel
theorem dX7_back_40 : decode cX7_back 40 = .ok (.iconst 0, 1) := by decide +kernel
theorem dX7_back_41 : decode cX7_back 41 = .ok (.putfield 98, 3) := by decide +kernel
theorem dX7_back_44 : decode cX7_back 44 = .ok (.aload_n 0, 1) := by decide +kernel
theorem dX7_back_45 : decode cX7_back 45 = .ok (.getfield 28, 3) := by decide +kernel
theorem dX7_back_48 : decode cX7_back 48 = .ok (.iconst 0, 1) := by decide +kernel
theorem dX7_back_49 : decode cX7_back 49 = .ok (.invokevirtual 159, 3) := by decide +kernel
theorem dX7_back_52 : decode cX7_back 52 = .ok (.ireturn, 1) := by decide +kernel
def f_X7_back (a1 : Int32) (M : xMem) : Option (Int32 × xMem) := xb1 (f_X7_beyond a1 (0 : Int32) (1 : Int32) M) (fun r3 => (if r3 = (0 : Int32) then xchk (xb a1 2) ((if (M 0 7 a1.toNatClampNeg) = (0 : Int32) then some ((-2 : Int32), M) else xchk (xb a1 2) (xb1 (f_X0_become 0 (a1.toNatClampNeg + 2) M) (fun M33 => xlet (xsf M33 4 2 (0 : Int32)) (fun M41 => xb1 (f_X0_howManyAt 0 (0 : Int32) M41) (fun r49 => some (r49, M41))))))) else some ((-1 : Int32), M)))
set_option maxHeartbeats 4000000 in
set_option maxRecDepth 100000 in
theorem c_X7_back (l : Launch) (G : xG) (sz : Nat) (M : xMem) (L : xLL) (a1 : Int32) {rr : Int32} {MM : xMem} (hf : f_X7_back a1 M = some (rr, MM)) : Met l yX7_back (Cond.code yX7_back cX7_back 2 (some .int) :: xTB) (xR 3) (xP G M L sz [.ref (xq G 0 0), .int a1]) (xQi G rr MM L sz) 0 0 (xZ G sz) := by
  refine x_met (cc := cX7_back) (nL := 2) (rt := (some .int)) (by decide) (Nat.le_of_ble_eq_true rfl) ?_
  intro p e s m below meth c ls hsz E hl hI
  subst hsz
  have E : xE p s m _ meth c cX7_back 2 (some .int) RX7 G := E
  have hx := E.1
  have hb := E.2.1
  have hl : lv_has ls 2 [(0, .ref (xq G 0 0)), (1, .int a1)] := hl
  rw [f_X7_back] at hf
  refine lv_iload_n hx hb dX7_back_0 rfl (lv_at hl 1 rfl) ?_
  refine lv_iconst (v := 0) hx hb dX7_back_1 (by decide) ?_
  refine lv_iconst (v := 1) hx hb dX7_back_2 (by decide) ?_
  obtain ⟨r3, g3, hf⟩ := xb1_s hf
  refine x_callSi (As := [.int a1, .int (0 : Int32), .int (1 : Int32)]) (rest := []) E hI (c_X7_beyond l G _ (M := M) (L := L) (a0 := a1) (a1 := (0 : Int32)) (a2 := (1 : Int32)) g3) ys_X7_beyond ml_X7_73 (by decide) (by decide) rfl rfl hl.1 (Nat.le_of_ble_eq_true rfl) dX7_back_3 (fun H locs hI => ?_)
  refine lv_if_eq (tgt := 11) hx hb dX7_back_6 (by decide) (fun c6 => ?_) (fun c6 => ?_)
  · replace hf := xif_t c6 hf
    refine lv_aload_n hx hb dX7_back_11 rfl (lv_at hl 0 rfl) ?_
    refine gf_X7_46 E hI dX7_back_12 ?_
    refine lv_iload_n hx hb dX7_back_15 rfl (lv_at hl 1 rfl) ?_
    obtain ⟨h16b, hf⟩ := xchk_s hf
    refine x_zald (n := 2) E hI mx_0_7 (fun _ _ => rfl) h16b dX7_back_16 ?_
    refine lv_if_ne (tgt := 23) hx hb dX7_back_17 (by decide) (fun c17 => ?_) (fun c17 => ?_)
    · replace hf := xif_f c17 hf
      refine lv_aload_n hx hb dX7_back_23 rfl (lv_at hl 0 rfl) ?_
      refine gf_X7_28 E hI dX7_back_24 ?_
      refine lv_aload_n hx hb dX7_back_27 rfl (lv_at hl 0 rfl) ?_
      refine gf_X7_42 E hI dX7_back_28 ?_
      refine lv_iload_n hx hb dX7_back_31 rfl (lv_at hl 1 rfl) ?_
      obtain ⟨h32b, hf⟩ := xchk_s hf
      refine x_aald (n := 2) E hI mx_0_6 (fun _ _ => rfl) h32b dX7_back_32 ?_
      obtain ⟨M33, g33, hf⟩ := xb1_s hf
      refine x_callVv (As := [.ref (xq G ((a1.toNatClampNeg + 2) + 9) 0)]) (rest := []) E hI (mf_0 (by decide)) rfl rfl rfl (c_X0_become l G _ (M := M) (L := L) (i := 0) (hi := (by decide)) (j1 := (a1.toNatClampNeg + 2)) (hj1 := (xb_fl (n := 2) h32b (by decide))) g33) yv_X0_become ml_X7_171 (by decide) (by decide) rfl rfl hl.1 (Nat.le_of_ble_eq_true rfl) dX7_back_33 (fun H locs hI => ?_)
      refine lv_aload_n hx hb dX7_back_36 rfl (lv_at hl 0 rfl) ?_
      refine gf_X7_38 E hI dX7_back_37 ?_
      refine lv_iconst (v := 0) hx hb dX7_back_40 (by decide) ?_
      obtain ⟨M41, e41, hf⟩ := xlet_s hf
      refine pf_X7_98 E hI dX7_back_41 e41 (fun H locs hI => ?_)
      refine lv_aload_n hx hb dX7_back_44 rfl (lv_at hl 0 rfl) ?_
      refine gf_X7_28 E hI dX7_back_45 ?_
      refine lv_iconst (v := 0) hx hb dX7_back_48 (by decide) ?_
      obtain ⟨r49, g49, hf⟩ := xb1_s hf
      refine x_callVi (As := [.int (0 : Int32)]) (rest := []) E hI (mf_0 (by decide)) rfl rfl rfl (c_X0_howManyAt l G _ (M := M41) (L := L) (i := 0) (hi := (by decide)) (a1 := (0 : Int32)) g49) yv_X0_howManyAt ml_X7_159 (by decide) (by decide) rfl rfl hl.1 (Nat.le_of_ble_eq_true rfl) dX7_back_49 (fun H locs hI => ?_)
      obtain ⟨rfl, rfl⟩ := xinj2 hf
      exact x_iret E hI rfl dX7_back_52
    · replace hf := xif_t c17 hf
      refine lv_bipush (v := -2) hx hb dX7_back_20 (by decide) ?_
      obtain ⟨rfl, rfl⟩ := xinj2 hf
      exact x_iret E hI rfl dX7_back_22
  · replace hf := xif_f c6 hf
    refine lv_iconst (v := -1) hx hb dX7_back_9 (by decide) ?_
    obtain ⟨rfl, rfl⟩ := xinj2 hf
    exact x_iret E hI rfl dX7_back_10
theorem dX7_count_0 : decode cX7_count 0 = .ok (.iload_n 1, 1) := by decide +kernel
theorem dX7_count_1 : decode cX7_count 1 = .ok (.tableswitch 63 0 3 #[31, 39, 47, 55], 31) := by decide +kernel
theorem dX7_count_32 : decode cX7_count 32 = .ok (.aload_n 0, 1) := by decide +kernel
theorem dX7_count_33 : decode cX7_count 33 = .ok (.getfield 19, 3) := by decide +kernel
theorem dX7_count_36 : decode cX7_count 36 = .ok (.getfield 162, 3) := by decide +kernel
theorem dX7_count_39 : decode cX7_count 39 = .ok (.ireturn, 1) := by decide +kernel
theorem dX7_count_40 : decode cX7_count 40 = .ok (.aload_n 0, 1) := by decide +kernel
theorem dX7_count_41 : decode cX7_count 41 = .ok (.getfield 19, 3) := by decide +kernel
theorem dX7_count_44 : decode cX7_count 44 = .ok (.getfield 253, 3) := by decide +kernel
theorem dX7_count_47 : decode cX7_count 47 = .ok (.ireturn, 1) := by decide +kernel
theorem dX7_count_48 : decode cX7_count 48 = .ok (.aload_n 0, 1) := by decide +kernel
theorem dX7_count_49 : decode cX7_count 49 = .ok (.getfield 69, 3) := by decide +kernel
theorem dX7_count_52 : decode cX7_count 52 = .ok (.getfield 101, 3) := by decide +kernel
theorem dX7_count_55 : decode cX7_count 55 = .ok (.ireturn, 1) := by decide +kernel
theorem dX7_count_56 : decode cX7_count 56 = .ok (.aload_n 0, 1) := by decide +kernel
theorem dX7_count_57 : decode cX7_count 57 = .ok (.getfield 10, 3) := by decide +kernel
theorem dX7_count_60 : decode cX7_count 60 = .ok (.getfield 77, 3) := by decide +kernel
theorem dX7_count_63 : decode cX7_count 63 = .ok (.ireturn, 1) := by decide +kernel
theorem dX7_count_64 : decode cX7_count 64 = .ok (.iconst (-1), 1) := by decide +kernel
theorem dX7_count_65 : decode cX7_count 65 = .ok (.ireturn, 1) := by decide +kernel
def f_X7_count (a1 : Int32) (M : xMem) : Option (Int32) := (if a1 = (0 : Int32) then some (M 3 0 0) else (if a1 = (1 : Int32) then some (M 3 0 1) else (if a1 = (2 : Int32) then some (M 7 0 3) else (if a1 = (3 : Int32) then some (M 1 0 1) else some (-1 : Int32)))))
set_option maxHeartbeats 4000000 in
set_option maxRecDepth 100000 in
theorem c_X7_count (l : Launch) (G : xG) (sz : Nat) (M : xMem) (L : xLL) (a1 : Int32) {rr : Int32} (hf : f_X7_count a1 M = some rr) : Met l yX7_count (Cond.code yX7_count cX7_count 2 (some .int) :: xTB) (xR 1) (xP G M L sz [.ref (xq G 0 0), .int a1]) (xQi G rr M L sz) 0 0 (xZ G sz) := by
  refine x_met (cc := cX7_count) (nL := 2) (rt := (some .int)) (by decide) (Nat.le_of_ble_eq_true rfl) ?_
  intro p e s m below meth c ls hsz E hl hI
  subst hsz
  have E : xE p s m _ meth c cX7_count 2 (some .int) RX7 G := E
  have hx := E.1
  have hb := E.2.1
  have hl : lv_has ls 2 [(0, .ref (xq G 0 0)), (1, .int a1)] := hl
  rw [f_X7_count] at hf
  refine lv_iload_n hx hb dX7_count_0 rfl (lv_at hl 1 rfl) ?_
  by_cases c1_0 : a1 = (0 : Int32)
  · replace hf := xif_t c1_0 hf
    refine x_tsIn (off := 31) (tgt := 32) hx hb c1_0 dX7_count_1 (by decide) (by decide) (by decide) (by decide) ?_
    refine lv_aload_n hx hb dX7_count_32 rfl (lv_at hl 0 rfl) ?_
    refine gf_X7_19 E hI dX7_count_33 ?_
    refine gf_X7_162_3 E hI dX7_count_36 ?_
    obtain rfl := xinj1 hf
    exact x_iret E hI rfl dX7_count_39
  · replace hf := xif_f c1_0 hf
    by_cases c1_1 : a1 = (1 : Int32)
    · replace hf := xif_t c1_1 hf
      refine x_tsIn (off := 39) (tgt := 40) hx hb c1_1 dX7_count_1 (by decide) (by decide) (by decide) (by decide) ?_
      refine lv_aload_n hx hb dX7_count_40 rfl (lv_at hl 0 rfl) ?_
      refine gf_X7_19 E hI dX7_count_41 ?_
      refine gf_X7_253_3 E hI dX7_count_44 ?_
      obtain rfl := xinj1 hf
      exact x_iret E hI rfl dX7_count_47
    · replace hf := xif_f c1_1 hf
      by_cases c1_2 : a1 = (2 : Int32)
      · replace hf := xif_t c1_2 hf
        refine x_tsIn (off := 47) (tgt := 48) hx hb c1_2 dX7_count_1 (by decide) (by decide) (by decide) (by decide) ?_
        refine lv_aload_n hx hb dX7_count_48 rfl (lv_at hl 0 rfl) ?_
        refine gf_X7_69 E hI dX7_count_49 ?_
        refine gf_X7_101 E hI dX7_count_52 ?_
        obtain rfl := xinj1 hf
        exact x_iret E hI rfl dX7_count_55
      · replace hf := xif_f c1_2 hf
        by_cases c1_3 : a1 = (3 : Int32)
        · replace hf := xif_t c1_3 hf
          refine x_tsIn (off := 55) (tgt := 56) hx hb c1_3 dX7_count_1 (by decide) (by decide) (by decide) (by decide) ?_
          refine lv_aload_n hx hb dX7_count_56 rfl (lv_at hl 0 rfl) ?_
          refine gf_X7_10 E hI dX7_count_57 ?_
          refine gf_X7_77 E hI dX7_count_60 ?_
          obtain rfl := xinj1 hf
          exact x_iret E hI rfl dX7_count_63
        · replace hf := xif_f c1_3 hf
          refine x_tsOut hx hb dX7_count_1 (fun k hk => by
            have hk2 : k = 0 ∨ k = 1 ∨ k = 2 ∨ k = 3 := by
              have hk3 : k < 4 := hk
              omega
            rcases hk2 with rfl | rfl | rfl | rfl
            · exact c1_0
            · exact c1_1
            · exact c1_2
            · exact c1_3) (tgt := 64) (by decide) ?_
          refine lv_iconst (v := -1) hx hb dX7_count_64 (by decide) ?_
          obtain rfl := xinj1 hf
          exact x_iret E hI rfl dX7_count_65
theorem dX7_trace_0 : decode cX7_trace 0 = .ok (.aload_n 0, 1) := by decide +kernel
theorem dX7_trace_1 : decode cX7_trace 1 = .ok (.getfield 256, 3) := by decide +kernel
theorem dX7_trace_4 : decode cX7_trace 4 = .ok (.lreturn, 1) := by decide +kernel
def f_X7_trace (M : xMem) (L : xLL) : Option (Int64) := some (L 0)
set_option maxHeartbeats 4000000 in
set_option maxRecDepth 100000 in
theorem c_X7_trace (l : Launch) (G : xG) (sz : Nat) (M : xMem) (L : xLL) {rr : Int64} (hf : f_X7_trace M L = some rr) : Met l yX7_trace (Cond.code yX7_trace cX7_trace 1 (some .long) :: xTB) (xR 1) (xP G M L sz [.ref (xq G 0 0)]) (xQl G rr M L sz) 0 0 (xZ G sz) := by
  refine x_met (cc := cX7_trace) (nL := 1) (rt := (some .long)) (by decide) (Nat.le_of_ble_eq_true rfl) ?_
  intro p e s m below meth c ls hsz E hl hI
  subst hsz
  have E : xE p s m _ meth c cX7_trace 1 (some .long) RX7 G := E
  have hx := E.1
  have hb := E.2.1
  have hl : lv_has ls 1 [(0, .ref (xq G 0 0))] := hl
  rw [f_X7_trace] at hf
  refine lv_aload_n hx hb dX7_trace_0 rfl (lv_at hl 0 rfl) ?_
  refine gf_X7_256 E hI dX7_trace_1 ?_
  obtain rfl := xinj1 hf
  exact x_lret E hI rfl dX7_trace_4
