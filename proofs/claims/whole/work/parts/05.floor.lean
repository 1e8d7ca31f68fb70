theorem dJ6_bitCount_0f7a4_0 : decode cJ6_bitCount_0f7a4 0 = .ok (.iload_n 0, 1) := by decide +kernel
theorem dJ6_bitCount_0f7a4_1 : decode cJ6_bitCount_0f7a4 1 = .ok (.iload_n 0, 1) := by decide +kernel
theorem dJ6_bitCount_0f7a4_2 : decode cJ6_bitCount_0f7a4 2 = .ok (.iconst 1, 1) := by decide +kernel
theorem dJ6_bitCount_0f7a4_3 : decode cJ6_bitCount_0f7a4 3 = .ok (.iushr, 1) := by decide +kernel
theorem dJ6_bitCount_0f7a4_4 : decode cJ6_bitCount_0f7a4 4 = .ok (.ldc_w 265, 3) := by decide +kernel
theorem dJ6_bitCount_0f7a4_7 : decode cJ6_bitCount_0f7a4 7 = .ok (.iand, 1) := by decide +kernel
theorem dJ6_bitCount_0f7a4_8 : decode cJ6_bitCount_0f7a4 8 = .ok (.isub, 1) := by decide +kernel
theorem dJ6_bitCount_0f7a4_9 : decode cJ6_bitCount_0f7a4 9 = .ok (.istore_n 0, 1) := by decide +kernel
theorem dJ6_bitCount_0f7a4_10 : decode cJ6_bitCount_0f7a4 10 = .ok (.iload_n 0, 1) := by decide +kernel
theorem dJ6_bitCount_0f7a4_11 : decode cJ6_bitCount_0f7a4 11 = .ok (.ldc_w 266, 3) := by decide +kernel
theorem dJ6_bitCount_0f7a4_14 : decode cJ6_bitCount_0f7a4 14 = .ok (.iand, 1) := by decide +kernel
theorem dJ6_bitCount_0f7a4_15 : decode cJ6_bitCount_0f7a4 15 = .ok (.iload_n 0, 1) := by decide +kernel
theorem dJ6_bitCount_0f7a4_16 : decode cJ6_bitCount_0f7a4 16 = .ok (.iconst 2, 1) := by decide +kernel
theorem dJ6_bitCount_0f7a4_17 : decode cJ6_bitCount_0f7a4 17 = .ok (.iushr, 1) := by decide +kernel
theorem dJ6_bitCount_0f7a4_18 : decode cJ6_bitCount_0f7a4 18 = .ok (.ldc_w 266, 3) := by decide +kernel
theorem dJ6_bitCount_0f7a4_21 : decode cJ6_bitCount_0f7a4 21 = .ok (.iand, 1) := by decide +kernel
theorem dJ6_bitCount_0f7a4_22 : decode cJ6_bitCount_0f7a4 22 = .ok (.iadd, 1) := by decide +kernel
theorem dJ6_bitCount_0f7a4_23 : decode cJ6_bitCount_0f7a4 23 = .ok (.istore_n 0, 1) := by decide +kernel
theorem dJ6_bitCount_0f7a4_24 : decode cJ6_bitCount_0f7a4 24 = .ok (.iload_n 0, 1) := by decide +kernel
theorem dJ6_bitCount_0f7a4_25 : decode cJ6_bitCount_0f7a4 25 = .ok (.iload_n 0, 1) := by decide +kernel
theorem dJ6_bitCount_0f7a4_26 : decode cJ6_bitCount_0f7a4 26 = .ok (.iconst 4, 1) := by decide +kernel
theorem dJ6_bitCount_0f7a4_27 : decode cJ6_bitCount_0f7a4 27 = .ok (.iushr, 1) := by decide +kernel
theorem dJ6_bitCount_0f7a4_28 : decode cJ6_bitCount_0f7a4 28 = .ok (.iadd, 1) := by decide +kernel
theorem dJ6_bitCount_0f7a4_29 : decode cJ6_bitCount_0f7a4 29 = .ok (.ldc_w 267, 3) := by decide +kernel
theorem dJ6_bitCount_0f7a4_32 : decode cJ6_bitCount_0f7a4 32 = .ok (.iand, 1) := by decide +kernel
theorem dJ6_bitCount_0f7a4_33 : decode cJ6_bitCount_0f7a4 33 = .ok (.istore_n 0, 1) := by decide +kernel
theorem dJ6_bitCount_0f7a4_34 : decode cJ6_bitCount_0f7a4 34 = .ok (.iload_n 0, 1) := by decide +kernel
theorem dJ6_bitCount_0f7a4_35 : decode cJ6_bitCount_0f7a4 35 = .ok (.iload_n 0, 1) := by decide +kernel
theorem dJ6_bitCount_0f7a4_36 : decode cJ6_bitCount_0f7a4 36 = .ok (.bipush 8, 2) := by decide +kernel
theorem dJ6_bitCount_0f7a4_38 : decode cJ6_bitCount_0f7a4 38 = .ok (.iushr, 1) := by decide +kernel
theorem dJ6_bitCount_0f7a4_39 : decode cJ6_bitCount_0f7a4 39 = .ok (.iadd, 1) := by decide +kernel
theorem dJ6_bitCount_0f7a4_40 : decode cJ6_bitCount_0f7a4 40 = .ok (.istore_n 0, 1) := by decide +kernel
theorem dJ6_bitCount_0f7a4_41 : decode cJ6_bitCount_0f7a4 41 = .ok (.iload_n 0, 1) := by decide +kernel
theorem dJ6_bitCount_0f7a4_42 : decode cJ6_bitCount_0f7a4 42 = .ok (.iload_n 0, 1) := by decide +kernel
theorem dJ6_bitCount_0f7a4_43 : decode cJ6_bitCount_0f7a4 43 = .ok (.bipush 16, 2) := by decide +kernel
theorem dJ6_bitCount_0f7a4_45 : decode cJ6_bitCount_0f7a4 45 = .ok (.iushr, 1) := by decide +kernel
theorem dJ6_bitCount_0f7a4_46 : decode cJ6_bitCount_0f7a4 46 = .ok (.iadd, 1) := by decide +kernel
theorem dJ6_bitCount_0f7a4_47 : decode cJ6_bitCount_0f7a4 47 = .ok (.istore_n 0, 1) := by decide +kernel
theorem dJ6_bitCount_0f7a4_48 : decode cJ6_bitCount_0f7a4 48 = .ok (.iload_n 0, 1) := by decide +kernel
theorem dJ6_bitCount_0f7a4_49 : decode cJ6_bitCount_0f7a4 49 = .ok (.bipush 63, 2) := by decide +kernel
theorem dJ6_bitCount_0f7a4_51 : decode cJ6_bitCount_0f7a4 51 = .ok (.iand, 1) := by decide +kernel
theorem dJ6_bitCount_0f7a4_52 : decode cJ6_bitCount_0f7a4 52 = .ok (.ireturn, 1) := by decide +kernel
def f_J6_bitCount_0f7a4 (a0 : Int32) (M : xMem) : Option (Int32) := some ((((((((a0 - ((((a0).toUInt32 >>> (((1 : Int32)).toUInt32 &&& Int32.toUInt32 31)).toInt32) &&& (1431655765 : Int32))) &&& (858993459 : Int32)) + (((((a0 - ((((a0).toUInt32 >>> (((1 : Int32)).toUInt32 &&& Int32.toUInt32 31)).toInt32) &&& (1431655765 : Int32)))).toUInt32 >>> (((2 : Int32)).toUInt32 &&& Int32.toUInt32 31)).toInt32) &&& (858993459 : Int32))) + ((((((a0 - ((((a0).toUInt32 >>> (((1 : Int32)).toUInt32 &&& Int32.toUInt32 31)).toInt32) &&& (1431655765 : Int32))) &&& (858993459 : Int32)) + (((((a0 - ((((a0).toUInt32 >>> (((1 : Int32)).toUInt32 &&& Int32.toUInt32 31)).toInt32) &&& (1431655765 : Int32)))).toUInt32 >>> (((2 : Int32)).toUInt32 &&& Int32.toUInt32 31)).toInt32) &&& (858993459 : Int32)))).toUInt32 >>> (((4 : Int32)).toUInt32 &&& Int32.toUInt32 31)).toInt32)) &&& (252645135 : Int32)) + ((((((((a0 - ((((a0).toUInt32 >>> (((1 : Int32)).toUInt32 &&& Int32.toUInt32 31)).toInt32) &&& (1431655765 : Int32))) &&& (858993459 : Int32)) + (((((a0 - ((((a0).toUInt32 >>> (((1 : Int32)).toUInt32 &&& Int32.toUInt32 31)).toInt32) &&& (1431655765 : Int32)))).toUInt32 >>> (((2 : Int32)).toUInt32 &&& Int32.toUInt32 31)).toInt32) &&& (858993459 : Int32))) + ((((((a0 - ((((a0).toUInt32 >>> (((1 : Int32)).toUInt32 &&& Int32.toUInt32 31)).toInt32) &&& (1431655765 : Int32))) &&& (858993459 : Int32)) + (((((a0 - ((((a0).toUInt32 >>> (((1 : Int32)).toUInt32 &&& Int32.toUInt32 31)).toInt32) &&& (1431655765 : Int32)))).toUInt32 >>> (((2 : Int32)).toUInt32 &&& Int32.toUInt32 31)).toInt32) &&& (858993459 : Int32)))).toUInt32 >>> (((4 : Int32)).toUInt32 &&& Int32.toUInt32 31)).toInt32)) &&& (252645135 : Int32))).toUInt32 >>> (((8 : Int32)).toUInt32 &&& Int32.toUInt32 31)).toInt32)) + (((((((((a0 - ((((a0).toUInt32 >>> (((1 : Int32)).toUInt32 &&& Int32.toUInt32 31)).toInt32) &&& (1431655765 : Int32))) &&& (858993459 : Int32)) + (((((a0 - ((((a0).toUInt32 >>> (((1 : Int32)).toUInt32 &&& Int32.toUInt32 31)).toInt32) &&& (1431655765 : Int32)))).toUInt32 >>> (((2 : Int32)).toUInt32 &&& Int32.toUInt32 31)).toInt32) &&& (858993459 : Int32))) + ((((((a0 - ((((a0).toUInt32 >>> (((1 : Int32)).toUInt32 &&& Int32.toUInt32 31)).toInt32) &&& (1431655765 : Int32))) &&& (858993459 : Int32)) + (((((a0 - ((((a0).toUInt32 >>> (((1 : Int32)).toUInt32 &&& Int32.toUInt32 31)).toInt32) &&& (1431655765 : Int32)))).toUInt32 >>> (((2 : Int32)).toUInt32 &&& Int32.toUInt32 31)).toInt32) &&& (858993459 : Int32)))).toUInt32 >>> (((4 : Int32)).toUInt32 &&& Int32.toUInt32 31)).toInt32)) &&& (252645135 : Int32)) + ((((((((a0 - ((((a0).toUInt32 >>> (((1 : Int32)).toUInt32 &&& Int32.toUInt32 31)).toInt32) &&& (1431655765 : Int32))) &&& (858993459 : Int32)) + (((((a0 - ((((a0).toUInt32 >>> (((1 : Int32)).toUInt32 &&& Int32.toUInt32 31)).toInt32) &&& (1431655765 : Int32)))).toUInt32 >>> (((2 : Int32)).toUInt32 &&& Int32.toUInt32 31)).toInt32) &&& (858993459 : Int32))) + ((((((a0 - ((((a0).toUInt32 >>> (((1 : Int32)).toUInt32 &&& Int32.toUInt32 31)).toInt32) &&& (1431655765 : Int32))) &&& (858993459 : Int32)) + (((((a0 - ((((a0).toUInt32 >>> (((1 : Int32)).toUInt32 &&& Int32.toUInt32 31)).toInt32) &&& (1431655765 : Int32)))).toUInt32 >>> (((2 : Int32)).toUInt32 &&& Int32.toUInt32 31)).toInt32) &&& (858993459 : Int32)))).toUInt32 >>> (((4 : Int32)).toUInt32 &&& Int32.toUInt32 31)).toInt32)) &&& (252645135 : Int32))).toUInt32 >>> (((8 : Int32)).toUInt32 &&& Int32.toUInt32 31)).toInt32))).toUInt32 >>> (((16 : Int32)).toUInt32 &&& Int32.toUInt32 31)).toInt32)) &&& (63 : Int32))
set_option maxHeartbeats 4000000 in
set_option maxRecDepth 100000 in
theorem c_J6_bitCount_0f7a4 (l : Launch) (G : xG) (sz : Nat) (M : xMem) (L : xLL) (a0 : Int32) {rr : Int32} (hf : f_J6_bitCount_0f7a4 a0 M = some rr) : Met l yJ6_bitCount_0f7a4 (Cond.code yJ6_bitCount_0f7a4 cJ6_bitCount_0f7a4 1 (some .int) :: xTB) (xR 1) (xP G M L sz [.int a0]) (xQi G rr M L sz) 0 0 (xZ G sz) := by
  refine x_met (cc := cJ6_bitCount_0f7a4) (nL := 1) (rt := (some .int)) (by decide) (Nat.le_of_ble_eq_true rfl) ?_
  intro p e s m below meth c ls hsz E hl hI
  subst hsz
  have E : xE p s m _ meth c cJ6_bitCount_0f7a4 1 (some .int) RJ6 G := E
  have hx := E.1
  have hb := E.2.1
  have hl : lv_has ls 1 [(0, .int a0)] := hl
  rw [f_J6_bitCount_0f7a4] at hf
  refine lv_iload_n hx hb dJ6_bitCount_0f7a4_0 rfl (lv_at hl 0 rfl) ?_
  refine lv_iload_n hx hb dJ6_bitCount_0f7a4_1 rfl (lv_at hl 0 rfl) ?_
  refine lv_iconst (v := 1) hx hb dJ6_bitCount_0f7a4_2 (by decide) ?_
  refine lv_iushr hx hb dJ6_bitCount_0f7a4_3 rfl ?_
  refine lv_ldcw hx hb E.2.2.2.2.1 (E.2.2.2.2.2.1 _ kc_J6_265) dJ6_bitCount_0f7a4_4 ?_
  refine lv_iand hx hb dJ6_bitCount_0f7a4_7 ?_
  refine lv_isub hx hb dJ6_bitCount_0f7a4_8 ?_
  refine lv_istore_n (lv' := [(0, .int (a0 - ((((a0).toUInt32 >>> (((1 : Int32)).toUInt32 &&& Int32.toUInt32 31)).toInt32) &&& (1431655765 : Int32))))]) hx hb dJ6_bitCount_0f7a4_9 rfl hl (by decide) rfl (fun ls hl => ?_)
  refine lv_iload_n hx hb dJ6_bitCount_0f7a4_10 rfl (lv_at hl 0 rfl) ?_
  refine lv_ldcw hx hb E.2.2.2.2.1 (E.2.2.2.2.2.1 _ kc_J6_266) dJ6_bitCount_0f7a4_11 ?_
  refine lv_iand hx hb dJ6_bitCount_0f7a4_14 ?_
  refine lv_iload_n hx hb dJ6_bitCount_0f7a4_15 rfl (lv_at hl 0 rfl) ?_
  refine lv_iconst (v := 2) hx hb dJ6_bitCount_0f7a4_16 (by decide) ?_
  refine lv_iushr hx hb dJ6_bitCount_0f7a4_17 rfl ?_
  refine lv_ldcw hx hb E.2.2.2.2.1 (E.2.2.2.2.2.1 _ kc_J6_266) dJ6_bitCount_0f7a4_18 ?_
  refine lv_iand hx hb dJ6_bitCount_0f7a4_21 ?_
  refine lv_iadd hx hb dJ6_bitCount_0f7a4_22 ?_
  refine lv_istore_n (lv' := [(0, .int (((a0 - ((((a0).toUInt32 >>> (((1 : Int32)).toUInt32 &&& Int32.toUInt32 31)).toInt32) &&& (1431655765 : Int32))) &&& (858993459 : Int32)) + (((((a0 - ((((a0).toUInt32 >>> (((1 : Int32)).toUInt32 &&& Int32.toUInt32 31)).toInt32) &&& (1431655765 : Int32)))).toUInt32 >>> (((2 : Int32)).toUInt32 &&& Int32.toUInt32 31)).toInt32) &&& (858993459 : Int32))))]) hx hb dJ6_bitCount_0f7a4_23 rfl hl (by decide) rfl (fun ls hl => ?_)
  refine lv_iload_n hx hb dJ6_bitCount_0f7a4_24 rfl (lv_at hl 0 rfl) ?_
  refine lv_iload_n hx hb dJ6_bitCount_0f7a4_25 rfl (lv_at hl 0 rfl) ?_
  refine lv_iconst (v := 4) hx hb dJ6_bitCount_0f7a4_26 (by decide) ?_
  refine lv_iushr hx hb dJ6_bitCount_0f7a4_27 rfl ?_
  refine lv_iadd hx hb dJ6_bitCount_0f7a4_28 ?_
  refine lv_ldcw hx hb E.2.2.2.2.1 (E.2.2.2.2.2.1 _ kc_J6_267) dJ6_bitCount_0f7a4_29 ?_
  refine lv_iand hx hb dJ6_bitCount_0f7a4_32 ?_
  refine lv_istore_n (lv' := [(0, .int (((((a0 - ((((a0).toUInt32 >>> (((1 : Int32)).toUInt32 &&& Int32.toUInt32 31)).toInt32) &&& (1431655765 : Int32))) &&& (858993459 : Int32)) + (((((a0 - ((((a0).toUInt32 >>> (((1 : Int32)).toUInt32 &&& Int32.toUInt32 31)).toInt32) &&& (1431655765 : Int32)))).toUInt32 >>> (((2 : Int32)).toUInt32 &&& Int32.toUInt32 31)).toInt32) &&& (858993459 : Int32))) + ((((((a0 - ((((a0).toUInt32 >>> (((1 : Int32)).toUInt32 &&& Int32.toUInt32 31)).toInt32) &&& (1431655765 : Int32))) &&& (858993459 : Int32)) + (((((a0 - ((((a0).toUInt32 >>> (((1 : Int32)).toUInt32 &&& Int32.toUInt32 31)).toInt32) &&& (1431655765 : Int32)))).toUInt32 >>> (((2 : Int32)).toUInt32 &&& Int32.toUInt32 31)).toInt32) &&& (858993459 : Int32)))).toUInt32 >>> (((4 : Int32)).toUInt32 &&& Int32.toUInt32 31)).toInt32)) &&& (252645135 : Int32)))]) hx hb dJ6_bitCount_0f7a4_33 rfl hl (by decide) rfl (fun ls hl => ?_)
  refine lv_iload_n hx hb dJ6_bitCount_0f7a4_34 rfl (lv_at hl 0 rfl) ?_
  refine lv_iload_n hx hb dJ6_bitCount_0f7a4_35 rfl (lv_at hl 0 rfl) ?_
  refine lv_bipush (v := 8) hx hb dJ6_bitCount_0f7a4_36 (by decide) ?_
  refine lv_iushr hx hb dJ6_bitCount_0f7a4_38 rfl ?_
  refine lv_iadd hx hb dJ6_bitCount_0f7a4_39 ?_
  refine lv_istore_n (lv' := [(0, .int ((((((a0 - ((((a0).toUInt32 >>> (((1 : Int32)).toUInt32 &&& Int32.toUInt32 31)).toInt32) &&& (1431655765 : Int32))) &&& (858993459 : Int32)) + (((((a0 - ((((a0).toUInt32 >>> (((1 : Int32)).toUInt32 &&& Int32.toUInt32 31)).toInt32) &&& (1431655765 : Int32)))).toUInt32 >>> (((2 : Int32)).toUInt32 &&& Int32.toUInt32 31)).toInt32) &&& (858993459 : Int32))) + ((((((a0 - ((((a0).toUInt32 >>> (((1 : Int32)).toUInt32 &&& Int32.toUInt32 31)).toInt32) &&& (1431655765 : Int32))) &&& (858993459 : Int32)) + (((((a0 - ((((a0).toUInt32 >>> (((1 : Int32)).toUInt32 &&& Int32.toUInt32 31)).toInt32) &&& (1431655765 : Int32)))).toUInt32 >>> (((2 : Int32)).toUInt32 &&& Int32.toUInt32 31)).toInt32) &&& (858993459 : Int32)))).toUInt32 >>> (((4 : Int32)).toUInt32 &&& Int32.toUInt32 31)).toInt32)) &&& (252645135 : Int32)) + ((((((((a0 - ((((a0).toUInt32 >>> (((1 : Int32)).toUInt32 &&& Int32.toUInt32 31)).toInt32) &&& (1431655765 : Int32))) &&& (858993459 : Int32)) + (((((a0 - ((((a0).toUInt32 >>> (((1 : Int32)).toUInt32 &&& Int32.toUInt32 31)).toInt32) &&& (1431655765 : Int32)))).toUInt32 >>> (((2 : Int32)).toUInt32 &&& Int32.toUInt32 31)).toInt32) &&& (858993459 : Int32))) + ((((((a0 - ((((a0).toUInt32 >>> (((1 : Int32)).toUInt32 &&& Int32.toUInt32 31)).toInt32) &&& (1431655765 : Int32))) &&& (858993459 : Int32)) + (((((a0 - ((((a0).toUInt32 >>> (((1 : Int32)).toUInt32 &&& Int32.toUInt32 31)).toInt32) &&& (1431655765 : Int32)))).toUInt32 >>> (((2 : Int32)).toUInt32 &&& Int32.toUInt32 31)).toInt32) &&& (858993459 : Int32)))).toUInt32 >>> (((4 : Int32)).toUInt32 &&& Int32.toUInt32 31)).toInt32)) &&& (252645135 : Int32))).toUInt32 >>> (((8 : Int32)).toUInt32 &&& Int32.toUInt32 31)).toInt32)))]) hx hb dJ6_bitCount_0f7a4_40 rfl hl (by decide) rfl (fun ls hl => ?_)
  refine lv_iload_n hx hb dJ6_bitCount_0f7a4_41 rfl (lv_at hl 0 rfl) ?_
  refine lv_iload_n hx hb dJ6_bitCount_0f7a4_42 rfl (lv_at hl 0 rfl) ?_
  refine lv_bipush (v := 16) hx hb dJ6_bitCount_0f7a4_43 (by decide) ?_
  refine lv_iushr hx hb dJ6_bitCount_0f7a4_45 rfl ?_
  refine lv_iadd hx hb dJ6_bitCount_0f7a4_46 ?_
  refine lv_istore_n (lv' := [(0, .int (((((((a0 - ((((a0).toUInt32 >>> (((1 : Int32)).toUInt32 &&& Int32.toUInt32 31)).toInt32) &&& (1431655765 : Int32))) &&& (858993459 : Int32)) + (((((a0 - ((((a0).toUInt32 >>> (((1 : Int32)).toUInt32 &&& Int32.toUInt32 31)).toInt32) &&& (1431655765 : Int32)))).toUInt32 >>> (((2 : Int32)).toUInt32 &&& Int32.toUInt32 31)).toInt32) &&& (858993459 : Int32))) + ((((((a0 - ((((a0).toUInt32 >>> (((1 : Int32)).toUInt32 &&& Int32.toUInt32 31)).toInt32) &&& (1431655765 : Int32))) &&& (858993459 : Int32)) + (((((a0 - ((((a0).toUInt32 >>> (((1 : Int32)).toUInt32 &&& Int32.toUInt32 31)).toInt32) &&& (1431655765 : Int32)))).toUInt32 >>> (((2 : Int32)).toUInt32 &&& Int32.toUInt32 31)).toInt32) &&& (858993459 : Int32)))).toUInt32 >>> (((4 : Int32)).toUInt32 &&& Int32.toUInt32 31)).toInt32)) &&& (252645135 : Int32)) + ((((((((a0 - ((((a0).toUInt32 >>> (((1 : Int32)).toUInt32 &&& Int32.toUInt32 31)).toInt32) &&& (1431655765 : Int32))) &&& (858993459 : Int32)) + (((((a0 - ((((a0).toUInt32 >>> (((1 : Int32)).toUInt32 &&& Int32.toUInt32 31)).toInt32) &&& (1431655765 : Int32)))).toUInt32 >>> (((2 : Int32)).toUInt32 &&& Int32.toUInt32 31)).toInt32) &&& (858993459 : Int32))) + ((((((a0 - ((((a0).toUInt32 >>> (((1 : Int32)).toUInt32 &&& Int32.toUInt32 31)).toInt32) &&& (1431655765 : Int32))) &&& (858993459 : Int32)) + (((((a0 - ((((a0).toUInt32 >>> (((1 : Int32)).toUInt32 &&& Int32.toUInt32 31)).toInt32) &&& (1431655765 : Int32)))).toUInt32 >>> (((2 : Int32)).toUInt32 &&& Int32.toUInt32 31)).toInt32) &&& (858993459 : Int32)))).toUInt32 >>> (((4 : Int32)).toUInt32 &&& Int32.toUInt32 31)).toInt32)) &&& (252645135 : Int32))).toUInt32 >>> (((8 : Int32)).toUInt32 &&& Int32.toUInt32 31)).toInt32)) + (((((((((a0 - ((((a0).toUInt32 >>> (((1 : Int32)).toUInt32 &&& Int32.toUInt32 31)).toInt32) &&& (1431655765 : Int32))) &&& (858993459 : Int32)) + (((((a0 - ((((a0).toUInt32 >>> (((1 : Int32)).toUInt32 &&& Int32.toUInt32 31)).toInt32) &&& (1431655765 : Int32)))).toUInt32 >>> (((2 : Int32)).toUInt32 &&& Int32.toUInt32 31)).toInt32) &&& (858993459 : Int32))) + ((((((a0 - ((((a0).toUInt32 >>> (((1 : Int32)).toUInt32 &&& Int32.toUInt32 31)).toInt32) &&& (1431655765 : Int32))) &&& (858993459 : Int32)) + (((((a0 - ((((a0).toUInt32 >>> (((1 : Int32)).toUInt32 &&& Int32.toUInt32 31)).toInt32) &&& (1431655765 : Int32)))).toUInt32 >>> (((2 : Int32)).toUInt32 &&& Int32.toUInt32 31)).toInt32) &&& (858993459 : Int32)))).toUInt32 >>> (((4 : Int32)).toUInt32 &&& Int32.toUInt32 31)).toInt32)) &&& (252645135 : Int32)) + ((((((((a0 - ((((a0).toUInt32 >>> (((1 : Int32)).toUInt32 &&& Int32.toUInt32 31)).toInt32) &&& (1431655765 : Int32))) &&& (858993459 : Int32)) + (((((a0 - ((((a0).toUInt32 >>> (((1 : Int32)).toUInt32 &&& Int32.toUInt32 31)).toInt32) &&& (1431655765 : Int32)))).toUInt32 >>> (((2 : Int32)).toUInt32 &&& Int32.toUInt32 31)).toInt32) &&& (858993459 : Int32))) + ((((((a0 - ((((a0).toUInt32 >>> (((1 : Int32)).toUInt32 &&& Int32.toUInt32 31)).toInt32) &&& (1431655765 : Int32))) &&& (858993459 : Int32)) + (((((a0 - ((((a0).toUInt32 >>> (((1 : Int32)).toUInt32 &&& Int32.toUInt32 31)).toInt32) &&& (1431655765 : Int32)))).toUInt32 >>> (((2 : Int32)).toUInt32 &&& Int32.toUInt32 31)).toInt32) &&& (858993459 : Int32)))).toUInt32 >>> (((4 : Int32)).toUInt32 &&& Int32.toUInt32 31)).toInt32)) &&& (252645135 : Int32))).toUInt32 >>> (((8 : Int32)).toUInt32 &&& Int32.toUInt32 31)).toInt32))).toUInt32 >>> (((16 : Int32)).toUInt32 &&& Int32.toUInt32 31)).toInt32)))]) hx hb dJ6_bitCount_0f7a4_47 rfl hl (by decide) rfl (fun ls hl => ?_)
  refine lv_iload_n hx hb dJ6_bitCount_0f7a4_48 rfl (lv_at hl 0 rfl) ?_
  refine lv_bipush (v := 63) hx hb dJ6_bitCount_0f7a4_49 (by decide) ?_
  refine lv_iand hx hb dJ6_bitCount_0f7a4_51 ?_
  obtain rfl := xinj1 hf
  exact x_iret E hI rfl dJ6_bitCount_0f7a4_52
theorem dJ7_fill_53178_0 : decode cJ7_fill_53178 0 = .ok (.iconst 0, 1) := by decide +kernel
theorem dJ7_fill_53178_1 : decode cJ7_fill_53178 1 = .ok (.istore_n 2, 1) := by decide +kernel
theorem dJ7_fill_53178_2 : decode cJ7_fill_53178 2 = .ok (.aload_n 0, 1) := by decide +kernel
theorem dJ7_fill_53178_3 : decode cJ7_fill_53178 3 = .ok (.arraylength, 1) := by decide +kernel
theorem dJ7_fill_53178_4 : decode cJ7_fill_53178 4 = .ok (.istore_n 3, 1) := by decide +kernel
theorem dJ7_fill_53178_5 : decode cJ7_fill_53178 5 = .ok (.iload_n 2, 1) := by decide +kernel
theorem dJ7_fill_53178_6 : decode cJ7_fill_53178 6 = .ok (.iload_n 3, 1) := by decide +kernel
theorem dJ7_fill_53178_7 : decode cJ7_fill_53178 7 = .ok (.if_icmp .ge 13, 3) := by decide +kernel
theorem dJ7_fill_53178_10 : decode cJ7_fill_53178 10 = .ok (.aload_n 0, 1) := by decide +kernel
theorem dJ7_fill_53178_11 : decode cJ7_fill_53178 11 = .ok (.iload_n 2, 1) := by decide +kernel
theorem dJ7_fill_53178_12 : decode cJ7_fill_53178 12 = .ok (.iload_n 1, 1) := by decide +kernel
theorem dJ7_fill_53178_13 : decode cJ7_fill_53178 13 = .ok (.iastore, 1) := by decide +kernel
theorem dJ7_fill_53178_14 : decode cJ7_fill_53178 14 = .ok (.iinc 2 1, 3) := by decide +kernel
theorem dJ7_fill_53178_17 : decode cJ7_fill_53178 17 = .ok (.goto (-12), 3) := by decide +kernel
theorem dJ7_fill_53178_20 : decode cJ7_fill_53178 20 = .ok (.return_, 1) := by decide +kernel
def f_J7_fill_53178_l5 (o0 : Nat) (r0 : Nat) (n0 : Nat) (a1 : Int32) : Nat → Int32 → xMem → Option (xMem)
  | 0, _, _ => none
  | n + 1, v5_2, M5 => (if (Int32.ofNat n0) ≤ v5_2 then some M5 else xchk (xb v5_2 n0) (xlet (xst M5 o0 r0 v5_2 a1) (fun M13 => (f_J7_fill_53178_l5 o0 r0 n0 a1 n) (v5_2 + (1 : Int32)) M13)))
def f_J7_fill_53178 (o0 : Nat) (r0 : Nat) (n0 : Nat) (a1 : Int32) (M : xMem) : Option (xMem) := (f_J7_fill_53178_l5 o0 r0 n0 a1 FU) (0 : Int32) M
set_option maxHeartbeats 4000000 in
set_option maxRecDepth 100000 in
theorem w_J7_fill_53178_l5 {p : Program} {l : Launch} {e : Env} {s : State} {m : MethodId} {args : Array Value} {below : List Frame} {meth : Method} {c : Code} {G : xG} {MM : xMem} (E : xE p s m args meth c cJ7_fill_53178 4 none RJ7 G) (o0 : Nat) (r0 : Nat) (n0 : Nat) (a1 : Int32) (M : xMem) (L : xLL) (hm0 : (o0, r0) ∈ ixs) (hc0 : ∀ w v, xc G o0 r0 w v = .inl (xk G 0, n0, .inl w)) : ∀ (n : Nat), ∀ (v5_2 : Int32) (M5 : xMem), f_J7_fill_53178_l5 o0 r0 n0 a1 n v5_2 M5 = some MM → ∀ (ls : Array Slot), lv_has ls 4 [(0, .ref (xq G o0 r0)), (1, .int a1), (2, .int v5_2), (3, .int (Int32.ofNat n0))] → ∀ (H : Heap) (locs : List Loc), xI G M5 L s.heap H locs → W p l e (xR 1) s m args below meth c H locs 0 0 (MQ below (xQv G MM L s.heap.size) args s 0 0 (xZ G s.heap.size)) (F0 m 5 ls []) := by
  have hx := E.1
  have hb := E.2.1
  intro n
  induction n with
  | zero =>
    intro v5_2 M5 hf
    exact absurd hf (by simp [f_J7_fill_53178_l5])
  | succ n ih =>
    intro v5_2 M5 hf ls hl H locs hI
    rw [f_J7_fill_53178_l5] at hf
    refine lv_iload_n hx hb dJ7_fill_53178_5 rfl (lv_at hl 2 rfl) ?_
    refine lv_iload_n hx hb dJ7_fill_53178_6 rfl (lv_at hl 3 rfl) ?_
    refine lv_icmp_ge (tgt := 20) hx hb dJ7_fill_53178_7 (by decide) (fun c7 => ?_) (fun c7 => ?_)
    · replace hf := xif_t c7 hf
      obtain rfl := xinj1 hf
      exact x_vret E hI dJ7_fill_53178_20
    · replace hf := xif_f c7 hf
      refine lv_aload_n hx hb dJ7_fill_53178_10 rfl (lv_at hl 0 rfl) ?_
      refine lv_iload_n hx hb dJ7_fill_53178_11 rfl (lv_at hl 2 rfl) ?_
      refine lv_iload_n hx hb dJ7_fill_53178_12 rfl (lv_at hl 1 rfl) ?_
      obtain ⟨h13b, hf⟩ := xchk_s hf
      obtain ⟨M13, e13, hf⟩ := xlet_s hf
      refine x_iast (n := n0) E hI hm0 hc0 h13b dJ7_fill_53178_13 e13 (fun H locs hI => ?_)
      refine lv_iinc (v := (v5_2 + (1 : Int32))) (lv' := [(2, .int (v5_2 + (1 : Int32))), (0, .ref (xq G o0 r0)), (1, .int a1), (3, .int (Int32.ofNat n0))]) hx hb dJ7_fill_53178_14 hl (k := 2) rfl rfl (by decide) rfl (fun ls hl => ?_)
      refine lv_goto (tgt := 5) hx hb dJ7_fill_53178_17 (by decide) ?_
      exact ih (v5_2 + (1 : Int32)) M13 hf _ (lv_sub hl [1, 2, 0, 3] rfl) _ _ hI
set_option maxHeartbeats 4000000 in
set_option maxRecDepth 100000 in
theorem c_J7_fill_53178 (l : Launch) (G : xG) (sz : Nat) (M : xMem) (L : xLL) (o0 : Nat) (r0 : Nat) (n0 : Nat) (a1 : Int32) (hm0 : (o0, r0) ∈ ixs) (hc0 : ∀ w v, xc G o0 r0 w v = .inl (xk G 0, n0, .inl w)) {MM : xMem} (hf : f_J7_fill_53178 o0 r0 n0 a1 M = some MM) : Met l yJ7_fill_53178 (Cond.code yJ7_fill_53178 cJ7_fill_53178 4 none :: xTB) (xR 1) (xP G M L sz [.ref (xq G o0 r0), .int a1]) (xQv G MM L sz) 0 0 (xZ G sz) := by
  refine x_met (cc := cJ7_fill_53178) (nL := 4) (rt := none) (by decide) (Nat.le_of_ble_eq_true rfl) ?_
  intro p e s m below meth c ls hsz E hl hI
  subst hsz
  have E : xE p s m _ meth c cJ7_fill_53178 4 none RJ7 G := E
  have hx := E.1
  have hb := E.2.1
  have hl : lv_has ls 4 [(0, .ref (xq G o0 r0)), (1, .int a1)] := hl
  rw [f_J7_fill_53178] at hf
  refine lv_iconst (v := 0) hx hb dJ7_fill_53178_0 (by decide) ?_
  refine lv_istore_n (lv' := [(2, .int (0 : Int32)), (0, .ref (xq G o0 r0)), (1, .int a1)]) hx hb dJ7_fill_53178_1 rfl hl (by decide) rfl (fun ls hl => ?_)
  refine lv_aload_n hx hb dJ7_fill_53178_2 rfl (lv_at hl 1 rfl) ?_
  refine x_alen E hI hm0 hc0 dJ7_fill_53178_3 ?_
  refine lv_istore_n (lv' := [(3, .int (Int32.ofNat n0)), (2, .int (0 : Int32)), (0, .ref (xq G o0 r0)), (1, .int a1)]) hx hb dJ7_fill_53178_4 rfl hl (by decide) rfl (fun ls hl => ?_)
  exact (w_J7_fill_53178_l5 E (o0 := o0) (r0 := r0) (n0 := n0) (a1 := a1) (M := M) (L := L) (hm0 := hm0) (hc0 := hc0) FU) (0 : Int32) M hf _ (lv_sub hl [2, 3, 1, 0] rfl) _ _ hI
theorem dX6_become_0 : decode cX6_become 0 = .ok (.aload_n 0, 1) := by decide +kernel
theorem dX6_become_1 : decode cX6_become 1 = .ok (.aload_n 1, 1) := by decide +kernel
theorem dX6_become_2 : decode cX6_become 2 = .ok (.getfield 27, 3) := by decide +kernel
theorem dX6_become_5 : decode cX6_become 5 = .ok (.putfield 27, 3) := by decide +kernel
theorem dX6_become_8 : decode cX6_become 8 = .ok (.aload_n 0, 1) := by decide +kernel
theorem dX6_become_9 : decode cX6_become 9 = .ok (.aload_n 1, 1) := by decide +kernel
theorem dX6_become_10 : decode cX6_become 10 = .ok (.getfield 31, 3) := by decide +kernel
theorem dX6_become_13 : decode cX6_become 13 = .ok (.putfield 31, 3) := by decide +kernel
theorem dX6_become_16 : decode cX6_become 16 = .ok (.aload_n 1, 1) := by decide +kernel
theorem dX6_become_17 : decode cX6_become 17 = .ok (.getfield 9, 3) := by decide +kernel
theorem dX6_become_20 : decode cX6_become 20 = .ok (.iconst 0, 1) := by decide +kernel
theorem dX6_become_21 : decode cX6_become 21 = .ok (.aload_n 0, 1) := by decide +kernel
theorem dX6_become_22 : decode cX6_become 22 = .ok (.getfield 9, 3) := by decide +kernel
theorem dX6_become_25 : decode cX6_become 25 = .ok (.iconst 0, 1) := by decide +kernel
theorem dX6_become_26 : decode cX6_become 26 = .ok (.iconst 5, 1) := by decide +kernel
theorem dX6_become_27 : decode cX6_become 27 = .ok (.invokestatic 34, 3) := by decide +kernel
theorem dX6_become_30 : decode cX6_become 30 = .ok (.aload_n 1, 1) := by decide +kernel
theorem dX6_become_31 : decode cX6_become 31 = .ok (.getfield 15, 3) := by decide +kernel
theorem dX6_become_34 : decode cX6_become 34 = .ok (.iconst 0, 1) := by decide +kernel
theorem dX6_become_35 : decode cX6_become 35 = .ok (.aload_n 0, 1) := by decide +kernel
theorem dX6_become_36 : decode cX6_become 36 = .ok (.getfield 15, 3) := by decide +kernel
theorem dX6_become_39 : decode cX6_become 39 = .ok (.iconst 0, 1) := by decide +kernel
theorem dX6_become_40 : decode cX6_become 40 = .ok (.iconst 5, 1) := by decide +kernel
theorem dX6_become_41 : decode cX6_become 41 = .ok (.invokestatic 34, 3) := by decide +kernel
theorem dX6_become_44 : decode cX6_become 44 = .ok (.aload_n 1, 1) := by decide +kernel
theorem dX6_become_45 : decode cX6_become 45 = .ok (.getfield 18, 3) := by decide +kernel
theorem dX6_become_48 : decode cX6_become 48 = .ok (.iconst 0, 1) := by decide +kernel
theorem dX6_become_49 : decode cX6_become 49 = .ok (.aload_n 0, 1) := by decide +kernel
theorem dX6_become_50 : decode cX6_become 50 = .ok (.getfield 18, 3) := by decide +kernel
theorem dX6_become_53 : decode cX6_become 53 = .ok (.iconst 0, 1) := by decide +kernel
theorem dX6_become_54 : decode cX6_become 54 = .ok (.iconst 5, 1) := by decide +kernel
theorem dX6_become_55 : decode cX6_become 55 = .ok (.invokestatic 34, 3) := by decide +kernel
theorem dX6_become_58 : decode cX6_become 58 = .ok (.aload_n 1, 1) := by decide +kernel
theorem dX6_become_59 : decode cX6_become 59 = .ok (.getfield 21, 3) := by decide +kernel
theorem dX6_become_62 : decode cX6_become 62 = .ok (.iconst 0, 1) := by decide +kernel
theorem dX6_become_63 : decode cX6_become 63 = .ok (.aload_n 0, 1) := by decide +kernel
theorem dX6_become_64 : decode cX6_become 64 = .ok (.getfield 21, 3) := by decide +kernel
theorem dX6_become_67 : decode cX6_become 67 = .ok (.iconst 0, 1) := by decide +kernel
theorem dX6_become_68 : decode cX6_become 68 = .ok (.bipush 6, 2) := by decide +kernel
theorem dX6_become_70 : decode cX6_become 70 = .ok (.invokestatic 34, 3) := by decide +kernel
theorem dX6_become_73 : decode cX6_become 73 = .ok (.aload_n 1, 1) := by decide +kernel
theorem dX6_become_74 : decode cX6_become 74 = .ok (.getfield 24, 3) := by decide +kernel
theorem dX6_become_77 : decode cX6_become 77 = .ok (.iconst 0, 1) := by decide +kernel
theorem dX6_become_78 : decode cX6_become 78 = .ok (.aload_n 0, 1) := by decide +kernel
theorem dX6_become_79 : decode cX6_become 79 = .ok (.getfield 24, 3) := by decide +kernel
theorem dX6_become_82 : decode cX6_become 82 = .ok (.iconst 0, 1) := by decide +kernel
theorem dX6_become_83 : decode cX6_become 83 = .ok (.bipush 6, 2) := by decide +kernel
theorem dX6_become_85 : decode cX6_become 85 = .ok (.invokestatic 34, 3) := by decide +kernel
theorem dX6_become_88 : decode cX6_become 88 = .ok (.return_, 1) := by decide +kernel
def f_X6_become (M : xMem) : Option (xMem) := xlet (xsf M 3 0 (M 2 0 0)) (fun M5 => xlet (xsf M5 3 1 (M5 2 0 1)) (fun M13 => xchk (xcb (0 : Int32) (0 : Int32) (5 : Int32) 5 5) (xlet (xcp M13 2 3 (0 : Int32) 3 3 (0 : Int32) (5 : Int32)) (fun M27 => xchk (xcb (0 : Int32) (0 : Int32) (5 : Int32) 5 5) (xlet (xcp M27 2 4 (0 : Int32) 3 4 (0 : Int32) (5 : Int32)) (fun M41 => xchk (xcb (0 : Int32) (0 : Int32) (5 : Int32) 5 5) (xlet (xcp M41 2 5 (0 : Int32) 3 5 (0 : Int32) (5 : Int32)) (fun M55 => xchk (xcb (0 : Int32) (0 : Int32) (6 : Int32) 6 6) (xlet (xcp M55 2 6 (0 : Int32) 3 6 (0 : Int32) (6 : Int32)) (fun M70 => xchk (xcb (0 : Int32) (0 : Int32) (6 : Int32) 6 6) (xlet (xcp M70 2 7 (0 : Int32) 3 7 (0 : Int32) (6 : Int32)) (fun M85 => some M85))))))))))))
set_option maxHeartbeats 4000000 in
set_option maxRecDepth 100000 in
theorem c_X6_become (l : Launch) (G : xG) (sz : Nat) (M : xMem) (L : xLL) {MM : xMem} (hf : f_X6_become M = some MM) : Met l yX6_become (Cond.code yX6_become cX6_become 2 none :: xTB) (xR 1) (xP G M L sz [.ref (xq G 3 0), .ref (xq G 2 0)]) (xQv G MM L sz) 0 0 (xZ G sz) := by
  refine x_met (cc := cX6_become) (nL := 2) (rt := none) (by decide) (Nat.le_of_ble_eq_true rfl) ?_
  intro p e s m below meth c ls hsz E hl hI
  subst hsz
  have E : xE p s m _ meth c cX6_become 2 none RX6 G := E
  have hx := E.1
  have hb := E.2.1
  have hl : lv_has ls 2 [(0, .ref (xq G 3 0)), (1, .ref (xq G 2 0))] := hl
  rw [f_X6_become] at hf
  refine lv_aload_n hx hb dX6_become_0 rfl (lv_at hl 0 rfl) ?_
  refine lv_aload_n hx hb dX6_become_1 rfl (lv_at hl 1 rfl) ?_
  refine gf_X6_27_2 E hI dX6_become_2 ?_
  obtain ⟨M5, e5, hf⟩ := xlet_s hf
  refine pf_X6_27_3 E hI dX6_become_5 e5 (fun H locs hI => ?_)
  refine lv_aload_n hx hb dX6_become_8 rfl (lv_at hl 0 rfl) ?_
  refine lv_aload_n hx hb dX6_become_9 rfl (lv_at hl 1 rfl) ?_
  refine gf_X6_31_2 E hI dX6_become_10 ?_
  obtain ⟨M13, e13, hf⟩ := xlet_s hf
  refine pf_X6_31_3 E hI dX6_become_13 e13 (fun H locs hI => ?_)
  refine lv_aload_n hx hb dX6_become_16 rfl (lv_at hl 1 rfl) ?_
  refine gf_X6_9_2 E hI dX6_become_17 ?_
  refine lv_iconst (v := 0) hx hb dX6_become_20 (by decide) ?_
  refine lv_aload_n hx hb dX6_become_21 rfl (lv_at hl 0 rfl) ?_
  refine gf_X6_9_3 E hI dX6_become_22 ?_
  refine lv_iconst (v := 0) hx hb dX6_become_25 (by decide) ?_
  refine lv_iconst (v := 5) hx hb dX6_become_26 (by decide) ?_
  obtain ⟨h27c, hf⟩ := xchk_s hf
  obtain ⟨M27, e27, hf⟩ := xlet_s hf
  refine x_copy E hI mx_2_3 (fun _ _ => rfl) mx_3_3 (fun _ _ => rfl) ml_X6_34 ac_n ac_s ac_i (by decide) hl.1 (Nat.le_of_ble_eq_true rfl) h27c dX6_become_27 e27 (fun H locs hI => ?_)
  refine lv_aload_n hx hb dX6_become_30 rfl (lv_at hl 1 rfl) ?_
  refine gf_X6_15_2 E hI dX6_become_31 ?_
  refine lv_iconst (v := 0) hx hb dX6_become_34 (by decide) ?_
  refine lv_aload_n hx hb dX6_become_35 rfl (lv_at hl 0 rfl) ?_
  refine gf_X6_15_3 E hI dX6_become_36 ?_
  refine lv_iconst (v := 0) hx hb dX6_become_39 (by decide) ?_
  refine lv_iconst (v := 5) hx hb dX6_become_40 (by decide) ?_
  obtain ⟨h41c, hf⟩ := xchk_s hf
  obtain ⟨M41, e41, hf⟩ := xlet_s hf
  refine x_copy E hI mx_2_4 (fun _ _ => rfl) mx_3_4 (fun _ _ => rfl) ml_X6_34 ac_n ac_s ac_i (by decide) hl.1 (Nat.le_of_ble_eq_true rfl) h41c dX6_become_41 e41 (fun H locs hI => ?_)
  refine lv_aload_n hx hb dX6_become_44 rfl (lv_at hl 1 rfl) ?_
  refine gf_X6_18_2 E hI dX6_become_45 ?_
  refine lv_iconst (v := 0) hx hb dX6_become_48 (by decide) ?_
  refine lv_aload_n hx hb dX6_become_49 rfl (lv_at hl 0 rfl) ?_
  refine gf_X6_18_3 E hI dX6_become_50 ?_
  refine lv_iconst (v := 0) hx hb dX6_become_53 (by decide) ?_
  refine lv_iconst (v := 5) hx hb dX6_become_54 (by decide) ?_
  obtain ⟨h55c, hf⟩ := xchk_s hf
  obtain ⟨M55, e55, hf⟩ := xlet_s hf
  refine x_copy E hI mx_2_5 (fun _ _ => rfl) mx_3_5 (fun _ _ => rfl) ml_X6_34 ac_n ac_s ac_i (by decide) hl.1 (Nat.le_of_ble_eq_true rfl) h55c dX6_become_55 e55 (fun H locs hI => ?_)
  refine lv_aload_n hx hb dX6_become_58 rfl (lv_at hl 1 rfl) ?_
  refine gf_X6_21_2 E hI dX6_become_59 ?_
  refine lv_iconst (v := 0) hx hb dX6_become_62 (by decide) ?_
  refine lv_aload_n hx hb dX6_become_63 rfl (lv_at hl 0 rfl) ?_
  refine gf_X6_21_3 E hI dX6_become_64 ?_
  refine lv_iconst (v := 0) hx hb dX6_become_67 (by decide) ?_
  refine lv_bipush (v := 6) hx hb dX6_become_68 (by decide) ?_
  obtain ⟨h70c, hf⟩ := xchk_s hf
  obtain ⟨M70, e70, hf⟩ := xlet_s hf
  refine x_copy E hI mx_2_6 (fun _ _ => rfl) mx_3_6 (fun _ _ => rfl) ml_X6_34 ac_n ac_s ac_i (by decide) hl.1 (Nat.le_of_ble_eq_true rfl) h70c dX6_become_70 e70 (fun H locs hI => ?_)
  refine lv_aload_n hx hb dX6_become_73 rfl (lv_at hl 1 rfl) ?_
  refine gf_X6_24_2 E hI dX6_become_74 ?_
  refine lv_iconst (v := 0) hx hb dX6_become_77 (by decide) ?_
  refine lv_aload_n hx hb dX6_become_78 rfl (lv_at hl 0 rfl) ?_
  refine gf_X6_24_3 E hI dX6_become_79 ?_
  refine lv_iconst (v := 0) hx hb dX6_become_82 (by decide) ?_
  refine lv_bipush (v := 6) hx hb dX6_become_83 (by decide) ?_
  obtain ⟨h85c, hf⟩ := xchk_s hf
  obtain ⟨M85, e85, hf⟩ := xlet_s hf
  refine x_copy E hI mx_2_7 (fun _ _ => rfl) mx_3_7 (fun _ _ => rfl) ml_X6_34 ac_n ac_s ac_i (by decide) hl.1 (Nat.le_of_ble_eq_true rfl) h85c dX6_become_85 e85 (fun H locs hI => ?_)
  obtain rfl := xinj1 hf
  exact x_vret E hI dX6_become_88
theorem dX6_seems_0 : decode cX6_seems 0 = .ok (.aload_n 0, 1) := by decide +kernel
theorem dX6_seems_1 : decode cX6_seems 1 = .ok (.getfield 24, 3) := by decide +kernel
theorem dX6_seems_4 : decode cX6_seems 4 = .ok (.iload_n 1, 1) := by decide +kernel
theorem dX6_seems_5 : decode cX6_seems 5 = .ok (.iaload, 1) := by decide +kernel
theorem dX6_seems_6 : decode cX6_seems 6 = .ok (.tableswitch 38 2 5 #[30, 38, 30, 34], 30) := by decide +kernel
theorem dX6_seems_36 : decode cX6_seems 36 = .ok (.iload_n 2, 1) := by decide +kernel
theorem dX6_seems_37 : decode cX6_seems 37 = .ok (.iconst 3, 1) := by decide +kernel
theorem dX6_seems_38 : decode cX6_seems 38 = .ok (.iadd, 1) := by decide +kernel
theorem dX6_seems_39 : decode cX6_seems 39 = .ok (.ireturn, 1) := by decide +kernel
theorem dX6_seems_40 : decode cX6_seems 40 = .ok (.iload_n 2, 1) := by decide +kernel
theorem dX6_seems_41 : decode cX6_seems 41 = .ok (.iconst 2, 1) := by decide +kernel
theorem dX6_seems_42 : decode cX6_seems 42 = .ok (.idiv, 1) := by decide +kernel
theorem dX6_seems_43 : decode cX6_seems 43 = .ok (.ireturn, 1) := by decide +kernel
theorem dX6_seems_44 : decode cX6_seems 44 = .ok (.iload_n 2, 1) := by decide +kernel
theorem dX6_seems_45 : decode cX6_seems 45 = .ok (.ireturn, 1) := by decide +kernel
def f_X6_seems_b36 (a2 : Int32) : Option (Int32) := some (a2 + (3 : Int32))
def f_X6_seems_b44 (a2 : Int32) : Option (Int32) := some a2
def f_X6_seems (a1 : Int32) (a2 : Int32) (M : xMem) : Option (Int32) := xchk (xb a1 6) ((if (M 3 7 a1.toNatClampNeg) = (2 : Int32) then (f_X6_seems_b36 a2) else (if (M 3 7 a1.toNatClampNeg) = (3 : Int32) then (f_X6_seems_b44 a2) else (if (M 3 7 a1.toNatClampNeg) = (4 : Int32) then (f_X6_seems_b36 a2) else (if (M 3 7 a1.toNatClampNeg) = (5 : Int32) then some (a2 / (2 : Int32)) else (f_X6_seems_b44 a2))))))
set_option maxHeartbeats 4000000 in
set_option maxRecDepth 100000 in
theorem w_X6_seems_b36 {p : Program} {l : Launch} {e : Env} {s : State} {m : MethodId} {args : Array Value} {below : List Frame} {meth : Method} {c : Code} {G : xG} {rr : Int32} (E : xE p s m args meth c cX6_seems 3 (some .int) RX6 G) (a2 : Int32) (M : xMem) (L : xLL) : f_X6_seems_b36 a2  = some rr → ∀ (ls : Array Slot), lv_has ls 3 [(2, .int a2)] → ∀ (H : Heap) (locs : List Loc), xI G M L s.heap H locs → W p l e (xR 1) s m args below meth c H locs 0 0 (MQ below (xQi G rr M L s.heap.size) args s 0 0 (xZ G s.heap.size)) (F0 m 36 ls []) := by
  have hx := E.1
  have hb := E.2.1
  intro  hf ls hl H locs hI
  rw [f_X6_seems_b36] at hf
  refine lv_iload_n hx hb dX6_seems_36 rfl (lv_at hl 0 rfl) ?_
  refine lv_iconst (v := 3) hx hb dX6_seems_37 (by decide) ?_
  refine lv_iadd hx hb dX6_seems_38 ?_
  obtain rfl := xinj1 hf
  exact x_iret E hI rfl dX6_seems_39
set_option maxHeartbeats 4000000 in
set_option maxRecDepth 100000 in
theorem w_X6_seems_b44 {p : Program} {l : Launch} {e : Env} {s : State} {m : MethodId} {args : Array Value} {below : List Frame} {meth : Method} {c : Code} {G : xG} {rr : Int32} (E : xE p s m args meth c cX6_seems 3 (some .int) RX6 G) (a2 : Int32) (M : xMem) (L : xLL) : f_X6_seems_b44 a2  = some rr → ∀ (ls : Array Slot), lv_has ls 3 [(2, .int a2)] → ∀ (H : Heap) (locs : List Loc), xI G M L s.heap H locs → W p l e (xR 1) s m args below meth c H locs 0 0 (MQ below (xQi G rr M L s.heap.size) args s 0 0 (xZ G s.heap.size)) (F0 m 44 ls []) := by
  have hx := E.1
  have hb := E.2.1
  intro  hf ls hl H locs hI
  rw [f_X6_seems_b44] at hf
  refine lv_iload_n hx hb dX6_seems_44 rfl (lv_at hl 0 rfl) ?_
  obtain rfl := xinj1 hf
  exact x_iret E hI rfl dX6_seems_45
set_option maxHeartbeats 4000000 in
set_option maxRecDepth 100000 in
theorem c_X6_seems (l : Launch) (G : xG) (sz : Nat) (M : xMem) (L : xLL) (a1 : Int32) (a2 : Int32) {rr : Int32} (hf : f_X6_seems a1 a2 M = some rr) : Met l yX6_seems (Cond.code yX6_seems cX6_seems 3 (some .int) :: xTB) (xR 1) (xP G M L sz [.ref (xq G 3 0), .int a1, .int a2]) (xQi G rr M L sz) 0 0 (xZ G sz) := by
  refine x_met (cc := cX6_seems) (nL := 3) (rt := (some .int)) (by decide) (Nat.le_of_ble_eq_true rfl) ?_
  intro p e s m below meth c ls hsz E hl hI
  subst hsz
  have E : xE p s m _ meth c cX6_seems 3 (some .int) RX6 G := E
  have hx := E.1
  have hb := E.2.1
  have hl : lv_has ls 3 [(0, .ref (xq G 3 0)), (1, .int a1), (2, .int a2)] := hl
  rw [f_X6_seems] at hf
  refine lv_aload_n hx hb dX6_seems_0 rfl (lv_at hl 0 rfl) ?_
  refine gf_X6_24_3 E hI dX6_seems_1 ?_
  refine lv_iload_n hx hb dX6_seems_4 rfl (lv_at hl 1 rfl) ?_
  obtain ⟨h5b, hf⟩ := xchk_s hf
  refine x_iald (n := 6) E hI mx_3_7 (fun _ _ => rfl) h5b dX6_seems_5 ?_
  by_cases c6_0 : (M 3 7 a1.toNatClampNeg) = (2 : Int32)
  · replace hf := xif_t c6_0 hf
    refine x_tsIn (off := 30) (tgt := 36) hx hb c6_0 dX6_seems_6 (by decide) (by decide) (by decide) (by decide) ?_
    exact (w_X6_seems_b36 E (a2 := a2) (M := M) (L := L))  hf _ (lv_sub hl [2] rfl) _ _ hI
  · replace hf := xif_f c6_0 hf
    by_cases c6_1 : (M 3 7 a1.toNatClampNeg) = (3 : Int32)
    · replace hf := xif_t c6_1 hf
      refine x_tsIn (off := 38) (tgt := 44) hx hb c6_1 dX6_seems_6 (by decide) (by decide) (by decide) (by decide) ?_
      exact (w_X6_seems_b44 E (a2 := a2) (M := M) (L := L))  hf _ (lv_sub hl [2] rfl) _ _ hI
    · replace hf := xif_f c6_1 hf
      by_cases c6_2 : (M 3 7 a1.toNatClampNeg) = (4 : Int32)
      · replace hf := xif_t c6_2 hf
        refine x_tsIn (off := 30) (tgt := 36) hx hb c6_2 dX6_seems_6 (by decide) (by decide) (by decide) (by decide) ?_
        exact (w_X6_seems_b36 E (a2 := a2) (M := M) (L := L))  hf _ (lv_sub hl [2] rfl) _ _ hI
      · replace hf := xif_f c6_2 hf
        by_cases c6_3 : (M 3 7 a1.toNatClampNeg) = (5 : Int32)
        · replace hf := xif_t c6_3 hf
          refine x_tsIn (off := 34) (tgt := 40) hx hb c6_3 dX6_seems_6 (by decide) (by decide) (by decide) (by decide) ?_
          refine lv_iload_n hx hb dX6_seems_40 rfl (lv_at hl 2 rfl) ?_
          refine lv_iconst (v := 2) hx hb dX6_seems_41 (by decide) ?_
          refine lv_idiv hx hb dX6_seems_42 (by decide) ?_
          obtain rfl := xinj1 hf
          exact x_iret E hI rfl dX6_seems_43
        · replace hf := xif_f c6_3 hf
          refine x_tsOut hx hb dX6_seems_6 (fun k hk => by
            have hk2 : k = 0 ∨ k = 1 ∨ k = 2 ∨ k = 3 := by
              have hk3 : k < 4 := hk
              omega
            rcases hk2 with rfl | rfl | rfl | rfl
            · exact c6_0
            · exact c6_1
            · exact c6_2
            · exact c6_3) (tgt := 44) (by decide) ?_
          exact (w_X6_seems_b44 E (a2 := a2) (M := M) (L := L))  hf _ (lv_sub hl [2] rfl) _ _ hI
theorem dX6_leaked_0 : decode cX6_leaked 0 = .ok (.aload_n 0, 1) := by decide +kernel
theorem dX6_leaked_1 : decode cX6_leaked 1 = .ok (.getfield 24, 3) := by decide +kernel
theorem dX6_leaked_4 : decode cX6_leaked 4 = .ok (.iload_n 1, 1) := by decide +kernel
theorem dX6_leaked_5 : decode cX6_leaked 5 = .ok (.iaload, 1) := by decide +kernel
theorem dX6_leaked_6 : decode cX6_leaked 6 = .ok (.iconst 3, 1) := by decide +kernel
theorem dX6_leaked_7 : decode cX6_leaked 7 = .ok (.if_icmp .ne 13, 3) := by decide +kernel
theorem dX6_leaked_10 : decode cX6_leaked 10 = .ok (.iconst 1, 1) := by decide +kernel
theorem dX6_leaked_11 : decode cX6_leaked 11 = .ok (.iload_n 2, 1) := by decide +kernel
theorem dX6_leaked_12 : decode cX6_leaked 12 = .ok (.iconst 1, 1) := by decide +kernel
theorem dX6_leaked_13 : decode cX6_leaked 13 = .ok (.isub, 1) := by decide +kernel
theorem dX6_leaked_14 : decode cX6_leaked 14 = .ok (.invokestatic 40, 3) := by decide +kernel
theorem dX6_leaked_17 : decode cX6_leaked 17 = .ok (.goto 4, 3) := by decide +kernel
theorem dX6_leaked_20 : decode cX6_leaked 20 = .ok (.iload_n 2, 1) := by decide +kernel
theorem dX6_leaked_21 : decode cX6_leaked 21 = .ok (.ireturn, 1) := by decide +kernel
def f_X6_leaked_b21 (t21_0 : Int32) : Option (Int32) := some t21_0
def f_X6_leaked (a1 : Int32) (a2 : Int32) (M : xMem) : Option (Int32) := xchk (xb a1 6) ((if (M 3 7 a1.toNatClampNeg) = (3 : Int32) then (f_X6_leaked_b21) (if (1 : Int32) < (a2 - (1 : Int32)) then (a2 - (1 : Int32)) else (1 : Int32)) else (f_X6_leaked_b21) a2))
set_option maxHeartbeats 4000000 in
set_option maxRecDepth 100000 in
theorem w_X6_leaked_b21 {p : Program} {l : Launch} {e : Env} {s : State} {m : MethodId} {args : Array Value} {below : List Frame} {meth : Method} {c : Code} {G : xG} {rr : Int32} (E : xE p s m args meth c cX6_leaked 3 (some .int) RX6 G) (M : xMem) (L : xLL) : ∀ (t21_0 : Int32), f_X6_leaked_b21 t21_0 = some rr → ∀ (ls : Array Slot), lv_has ls 3 [] → ∀ (H : Heap) (locs : List Loc), xI G M L s.heap H locs → W p l e (xR 1) s m args below meth c H locs 0 0 (MQ below (xQi G rr M L s.heap.size) args s 0 0 (xZ G s.heap.size)) (F0 m 21 ls [.int t21_0]) := by
  have hx := E.1
  have hb := E.2.1
  intro t21_0 hf ls hl H locs hI
  rw [f_X6_leaked_b21] at hf
  obtain rfl := xinj1 hf
  exact x_iret E hI rfl dX6_leaked_21
set_option maxHeartbeats 4000000 in
set_option maxRecDepth 100000 in
theorem c_X6_leaked (l : Launch) (G : xG) (sz : Nat) (M : xMem) (L : xLL) (a1 : Int32) (a2 : Int32) {rr : Int32} (hf : f_X6_leaked a1 a2 M = some rr) : Met l yX6_leaked (Cond.code yX6_leaked cX6_leaked 3 (some .int) :: xTB) (xR 1) (xP G M L sz [.ref (xq G 3 0), .int a1, .int a2]) (xQi G rr M L sz) 0 0 (xZ G sz) := by
  refine x_met (cc := cX6_leaked) (nL := 3) (rt := (some .int)) (by decide) (Nat.le_of_ble_eq_true rfl) ?_
  intro p e s m below meth c ls hsz E hl hI
  subst hsz
  have E : xE p s m _ meth c cX6_leaked 3 (some .int) RX6 G := E
  have hx := E.1
  have hb := E.2.1
  have hl : lv_has ls 3 [(0, .ref (xq G 3 0)), (1, .int a1), (2, .int a2)] := hl
  rw [f_X6_leaked] at hf
  refine lv_aload_n hx hb dX6_leaked_0 rfl (lv_at hl 0 rfl) ?_
  refine gf_X6_24_3 E hI dX6_leaked_1 ?_
  refine lv_iload_n hx hb dX6_leaked_4 rfl (lv_at hl 1 rfl) ?_
  obtain ⟨h5b, hf⟩ := xchk_s hf
  refine x_iald (n := 6) E hI mx_3_7 (fun _ _ => rfl) h5b dX6_leaked_5 ?_
  refine lv_iconst (v := 3) hx hb dX6_leaked_6 (by decide) ?_
  refine lv_icmp_ne (tgt := 20) hx hb dX6_leaked_7 (by decide) (fun c7 => ?_) (fun c7 => ?_)
  · replace hf := xif_f c7 hf
    refine lv_iload_n hx hb dX6_leaked_20 rfl (lv_at hl 2 rfl) ?_
    exact (w_X6_leaked_b21 E (M := M) (L := L)) a2 hf _ (lv_sub hl [] rfl) _ _ hI
  · replace hf := xif_t c7 hf
    refine lv_iconst (v := 1) hx hb dX6_leaked_10 (by decide) ?_
    refine lv_iload_n hx hb dX6_leaked_11 rfl (lv_at hl 2 rfl) ?_
    refine lv_iconst (v := 1) hx hb dX6_leaked_12 (by decide) ?_
    refine lv_isub hx hb dX6_leaked_13 ?_
    refine x_max E ml_X6_40 ms_max mi_math mc_max (by decide) hl.1 (Nat.le_of_ble_eq_true rfl) dX6_leaked_14 ?_
    refine lv_goto (tgt := 21) hx hb dX6_leaked_17 (by decide) ?_
    exact (w_X6_leaked_b21 E (M := M) (L := L)) (if (1 : Int32) < (a2 - (1 : Int32)) then (a2 - (1 : Int32)) else (1 : Int32)) hf _ (lv_sub hl [] rfl) _ _ hI
theorem dX0_begin_0 : decode cX0_begin 0 = .ok (.aload_n 0, 1) := by decide +kernel
theorem dX0_begin_1 : decode cX0_begin 1 = .ok (.getfield 9, 3) := by decide +kernel
theorem dX0_begin_4 : decode cX0_begin 4 = .ok (.iconst 0, 1) := by decide +kernel
theorem dX0_begin_5 : decode cX0_begin 5 = .ok (.invokestatic 31, 3) := by decide +kernel
theorem dX0_begin_8 : decode cX0_begin 8 = .ok (.aload_n 0, 1) := by decide +kernel
theorem dX0_begin_9 : decode cX0_begin 9 = .ok (.getfield 24, 3) := by decide +kernel
theorem dX0_begin_12 : decode cX0_begin 12 = .ok (.iconst 0, 1) := by decide +kernel
theorem dX0_begin_13 : decode cX0_begin 13 = .ok (.invokestatic 31, 3) := by decide +kernel
theorem dX0_begin_16 : decode cX0_begin 16 = .ok (.aload_n 0, 1) := by decide +kernel
theorem dX0_begin_17 : decode cX0_begin 17 = .ok (.getfield 27, 3) := by decide +kernel
theorem dX0_begin_20 : decode cX0_begin 20 = .ok (.getfield 37, 3) := by decide +kernel
theorem dX0_begin_23 : decode cX0_begin 23 = .ok (.iconst 0, 1) := by decide +kernel
theorem dX0_begin_24 : decode cX0_begin 24 = .ok (.aload_n 0, 1) := by decide +kernel
theorem dX0_begin_25 : decode cX0_begin 25 = .ok (.getfield 15, 3) := by decide +kernel
theorem dX0_begin_28 : decode cX0_begin 28 = .ok (.iconst 0, 1) := by decide +kernel
theorem dX0_begin_29 : decode cX0_begin 29 = .ok (.bipush 6, 2) := by decide +kernel
theorem dX0_begin_31 : decode cX0_begin 31 = .ok (.invokestatic 40, 3) := by decide +kernel
theorem dX0_begin_34 : decode cX0_begin 34 = .ok (.aload_n 0, 1) := by decide +kernel
theorem dX0_begin_35 : decode cX0_begin 35 = .ok (.getfield 27, 3) := by decide +kernel
theorem dX0_begin_38 : decode cX0_begin 38 = .ok (.getfield 46, 3) := by decide +kernel
theorem dX0_begin_41 : decode cX0_begin 41 = .ok (.iconst 0, 1) := by decide +kernel
theorem dX0_begin_42 : decode cX0_begin 42 = .ok (.aload_n 0, 1) := by decide +kernel
theorem dX0_begin_43 : decode cX0_begin 43 = .ok (.getfield 18, 3) := by decide +kernel
theorem dX0_begin_46 : decode cX0_begin 46 = .ok (.iconst 0, 1) := by decide +kernel
theorem dX0_begin_47 : decode cX0_begin 47 = .ok (.iconst 5, 1) := by decide +kernel
theorem dX0_begin_48 : decode cX0_begin 48 = .ok (.invokestatic 40, 3) := by decide +kernel
theorem dX0_begin_51 : decode cX0_begin 51 = .ok (.iconst 0, 1) := by decide +kernel
theorem dX0_begin_52 : decode cX0_begin 52 = .ok (.istore_n 1, 1) := by decide +kernel
theorem dX0_begin_53 : decode cX0_begin 53 = .ok (.iload_n 1, 1) := by decide +kernel
theorem dX0_begin_54 : decode cX0_begin 54 = .ok (.iconst 5, 1) := by decide +kernel
theorem dX0_begin_55 : decode cX0_begin 55 = .ok (.if_icmp .ge 16, 3) := by decide +kernel
theorem dX0_begin_58 : decode cX0_begin 58 = .ok (.aload_n 0, 1) := by decide +kernel
theorem dX0_begin_59 : decode cX0_begin 59 = .ok (.getfield 21, 3) := by decide +kernel
theorem dX0_begin_62 : decode cX0_begin 62 = .ok (.iload_n 1, 1) := by decide +kernel
theorem dX0_begin_63 : decode cX0_begin 63 = .ok (.iload_n 1, 1) := by decide +kernel
theorem dX0_begin_64 : decode cX0_begin 64 = .ok (.iastore, 1) := by decide +kernel
theorem dX0_begin_65 : decode cX0_begin 65 = .ok (.iinc 1 1, 3) := by decide +kernel
theorem dX0_begin_68 : decode cX0_begin 68 = .ok (.goto (-15), 3) := by decide +kernel
theorem dX0_begin_71 : decode cX0_begin 71 = .ok (.return_, 1) := by decide +kernel
def f_X0_begin_l53 (i : Nat) : Nat → Int32 → xMem → Option (xMem)
  | 0, _, _ => none
  | n + 1, v53_1, M53 => (if (5 : Int32) ≤ v53_1 then some M53 else xchk (xb v53_1 5) (xlet (xst M53 (i + 9) 5 v53_1 v53_1) (fun M64 => (f_X0_begin_l53 i n) (v53_1 + (1 : Int32)) M64)))
def f_X0_begin (i : Nat) (M : xMem) : Option (xMem) := xb1 (f_J7_fill_53178 (i + 9) 2 6 (0 : Int32) M) (fun M5 => xb1 (f_J7_fill_53178 (i + 9) 6 5 (0 : Int32) M5) (fun M13 => xchk (xcb (0 : Int32) (0 : Int32) (6 : Int32) 6 6) (xlet (xcp M13 3 6 (0 : Int32) (i + 9) 3 (0 : Int32) (6 : Int32)) (fun M31 => xchk (xcb (0 : Int32) (0 : Int32) (5 : Int32) 5 5) (xlet (xcp M31 3 3 (0 : Int32) (i + 9) 4 (0 : Int32) (5 : Int32)) (fun M48 => (f_X0_begin_l53 i FU) (0 : Int32) M48))))))
set_option maxHeartbeats 4000000 in
set_option maxRecDepth 100000 in
theorem w_X0_begin_l53 {p : Program} {l : Launch} {e : Env} {s : State} {m : MethodId} {args : Array Value} {below : List Frame} {meth : Method} {c : Code} {G : xG} {MM : xMem} (E : xE p s m args meth c cX0_begin 2 none RX0 G) (i : Nat) (M : xMem) (L : xLL) (hi : i < 21) : ∀ (n : Nat), ∀ (v53_1 : Int32) (M53 : xMem), f_X0_begin_l53 i n v53_1 M53 = some MM → ∀ (ls : Array Slot), lv_has ls 2 [(0, .ref (xq G (i + 9) 0)), (1, .int v53_1)] → ∀ (H : Heap) (locs : List Loc), xI G M53 L s.heap H locs → W p l e (xR 2) s m args below meth c H locs 0 0 (MQ below (xQv G MM L s.heap.size) args s 0 0 (xZ G s.heap.size)) (F0 m 53 ls []) := by
  have hx := E.1
  have hb := E.2.1
  intro n
  induction n with
  | zero =>
    intro v53_1 M53 hf
    exact absurd hf (by simp [f_X0_begin_l53])
  | succ n ih =>
    intro v53_1 M53 hf ls hl H locs hI
    rw [f_X0_begin_l53] at hf
    refine lv_iload_n hx hb dX0_begin_53 rfl (lv_at hl 1 rfl) ?_
    refine lv_iconst (v := 5) hx hb dX0_begin_54 (by decide) ?_
    refine lv_icmp_ge (tgt := 71) hx hb dX0_begin_55 (by decide) (fun c55 => ?_) (fun c55 => ?_)
    · replace hf := xif_t c55 hf
      obtain rfl := xinj1 hf
      exact x_vret E hI dX0_begin_71
    · replace hf := xif_f c55 hf
      refine lv_aload_n hx hb dX0_begin_58 rfl (lv_at hl 0 rfl) ?_
      refine gf_X0_21 E hI hi dX0_begin_59 ?_
      refine lv_iload_n hx hb dX0_begin_62 rfl (lv_at hl 1 rfl) ?_
      refine lv_iload_n hx hb dX0_begin_63 rfl (lv_at hl 1 rfl) ?_
      obtain ⟨h64b, hf⟩ := xchk_s hf
      obtain ⟨M64, e64, hf⟩ := xlet_s hf
      refine x_iast (n := 5) E hI (mf_5 hi) (fun _ _ => rfl) h64b dX0_begin_64 e64 (fun H locs hI => ?_)
      refine lv_iinc (v := (v53_1 + (1 : Int32))) (lv' := [(1, .int (v53_1 + (1 : Int32))), (0, .ref (xq G (i + 9) 0))]) hx hb dX0_begin_65 hl (k := 1) rfl rfl (by decide) rfl (fun ls hl => ?_)
      refine lv_goto (tgt := 53) hx hb dX0_begin_68 (by decide) ?_
      exact ih (v53_1 + (1 : Int32)) M64 hf _ (lv_sub hl [1, 0] rfl) _ _ hI
set_option maxHeartbeats 4000000 in
set_option maxRecDepth 100000 in
theorem c_X0_begin (l : Launch) (G : xG) (sz : Nat) (M : xMem) (L : xLL) (i : Nat) (hi : i < 21) {MM : xMem} (hf : f_X0_begin i M = some MM) : Met l yX0_begin (Cond.code yX0_begin cX0_begin 2 none :: xTB) (xR 2) (xP G M L sz [.ref (xq G (i + 9) 0)]) (xQv G MM L sz) 0 0 (xZ G sz) := by
  refine x_met (cc := cX0_begin) (nL := 2) (rt := none) (by decide) (Nat.le_of_ble_eq_true rfl) ?_
  intro p e s m below meth c ls hsz E hl hI
  subst hsz
  have E : xE p s m _ meth c cX0_begin 2 none RX0 G := E
  have hx := E.1
  have hb := E.2.1
  have hl : lv_has ls 2 [(0, .ref (xq G (i + 9) 0))] := hl
  rw [f_X0_begin] at hf
  refine lv_aload_n hx hb dX0_begin_0 rfl (lv_at hl 0 rfl) ?_
  refine gf_X0_9 E hI hi dX0_begin_1 ?_
  refine lv_iconst (v := 0) hx hb dX0_begin_4 (by decide) ?_
  obtain ⟨M5, g5, hf⟩ := xb1_s hf
  refine x_callSv (As := [.ref (xq G (i + 9) 2), .int (0 : Int32)]) (rest := []) E hI (c_J7_fill_53178 l G _ (M := M) (L := L) (o0 := (i + 9)) (r0 := 2) (n0 := 6) (hm0 := (mf_2 hi)) (hc0 := (fun _ _ => rfl)) (a1 := (0 : Int32)) g5) ys_J7_fill_53178 ml_X0_31 (by decide) (by decide) rfl rfl hl.1 (Nat.le_of_ble_eq_true rfl) dX0_begin_5 (fun H locs hI => ?_)
  refine lv_aload_n hx hb dX0_begin_8 rfl (lv_at hl 0 rfl) ?_
  refine gf_X0_24 E hI hi dX0_begin_9 ?_
  refine lv_iconst (v := 0) hx hb dX0_begin_12 (by decide) ?_
  obtain ⟨M13, g13, hf⟩ := xb1_s hf
  refine x_callSv (As := [.ref (xq G (i + 9) 6), .int (0 : Int32)]) (rest := []) E hI (c_J7_fill_53178 l G _ (M := M5) (L := L) (o0 := (i + 9)) (r0 := 6) (n0 := 5) (hm0 := (mf_6 hi)) (hc0 := (fun _ _ => rfl)) (a1 := (0 : Int32)) g13) ys_J7_fill_53178 ml_X0_31 (by decide) (by decide) rfl rfl hl.1 (Nat.le_of_ble_eq_true rfl) dX0_begin_13 (fun H locs hI => ?_)
  refine lv_aload_n hx hb dX0_begin_16 rfl (lv_at hl 0 rfl) ?_
  refine gf_X0_27 E hI hi dX0_begin_17 ?_
  refine gf_X0_37_3 E hI dX0_begin_20 ?_
  refine lv_iconst (v := 0) hx hb dX0_begin_23 (by decide) ?_
  refine lv_aload_n hx hb dX0_begin_24 rfl (lv_at hl 0 rfl) ?_
  refine gf_X0_15 E hI hi dX0_begin_25 ?_
  refine lv_iconst (v := 0) hx hb dX0_begin_28 (by decide) ?_
  refine lv_bipush (v := 6) hx hb dX0_begin_29 (by decide) ?_
  obtain ⟨h31c, hf⟩ := xchk_s hf
  obtain ⟨M31, e31, hf⟩ := xlet_s hf
  refine x_copy E hI mx_3_6 (fun _ _ => rfl) (mf_3 hi) (fun _ _ => rfl) ml_X0_40 ac_n ac_s ac_i (by decide) hl.1 (Nat.le_of_ble_eq_true rfl) h31c dX0_begin_31 e31 (fun H locs hI => ?_)
  refine lv_aload_n hx hb dX0_begin_34 rfl (lv_at hl 0 rfl) ?_
  refine gf_X0_27 E hI hi dX0_begin_35 ?_
  refine gf_X0_46_3 E hI dX0_begin_38 ?_
  refine lv_iconst (v := 0) hx hb dX0_begin_41 (by decide) ?_
  refine lv_aload_n hx hb dX0_begin_42 rfl (lv_at hl 0 rfl) ?_
  refine gf_X0_18 E hI hi dX0_begin_43 ?_
  refine lv_iconst (v := 0) hx hb dX0_begin_46 (by decide) ?_
  refine lv_iconst (v := 5) hx hb dX0_begin_47 (by decide) ?_
  obtain ⟨h48c, hf⟩ := xchk_s hf
  obtain ⟨M48, e48, hf⟩ := xlet_s hf
  refine x_copy E hI mx_3_3 (fun _ _ => rfl) (mf_4 hi) (fun _ _ => rfl) ml_X0_40 ac_n ac_s ac_i (by decide) hl.1 (Nat.le_of_ble_eq_true rfl) h48c dX0_begin_48 e48 (fun H locs hI => ?_)
  refine lv_iconst (v := 0) hx hb dX0_begin_51 (by decide) ?_
  refine lv_istore_n (lv' := [(1, .int (0 : Int32)), (0, .ref (xq G (i + 9) 0))]) hx hb dX0_begin_52 rfl hl (by decide) rfl (fun ls hl => ?_)
  exact (w_X0_begin_l53 E (i := i) (M := M) (L := L) (hi := hi) FU) (0 : Int32) M48 hf _ (lv_sub hl [1, 0] rfl) _ _ hI
theorem dX0_become_0 : decode cX0_become 0 = .ok (.aload_n 1, 1) := by decide +kernel
theorem dX0_become_1 : decode cX0_become 1 = .ok (.getfield 9, 3) := by decide +kernel
theorem dX0_become_4 : decode cX0_become 4 = .ok (.iconst 0, 1) := by decide +kernel
theorem dX0_become_5 : decode cX0_become 5 = .ok (.aload_n 0, 1) := by decide +kernel
theorem dX0_become_6 : decode cX0_become 6 = .ok (.getfield 9, 3) := by decide +kernel
theorem dX0_become_9 : decode cX0_become 9 = .ok (.iconst 0, 1) := by decide +kernel
theorem dX0_become_10 : decode cX0_become 10 = .ok (.bipush 6, 2) := by decide +kernel
theorem dX0_become_12 : decode cX0_become 12 = .ok (.invokestatic 40, 3) := by decide +kernel
theorem dX0_become_15 : decode cX0_become 15 = .ok (.aload_n 1, 1) := by decide +kernel
theorem dX0_become_16 : decode cX0_become 16 = .ok (.getfield 15, 3) := by decide +kernel
theorem dX0_become_19 : decode cX0_become 19 = .ok (.iconst 0, 1) := by decide +kernel
theorem dX0_become_20 : decode cX0_become 20 = .ok (.aload_n 0, 1) := by decide +kernel
theorem dX0_become_21 : decode cX0_become 21 = .ok (.getfield 15, 3) := by decide +kernel
theorem dX0_become_24 : decode cX0_become 24 = .ok (.iconst 0, 1) := by decide +kernel
theorem dX0_become_25 : decode cX0_become 25 = .ok (.bipush 6, 2) := by decide +kernel
theorem dX0_become_27 : decode cX0_become 27 = .ok (.invokestatic 40, 3) := by decide +kernel
theorem dX0_become_30 : decode cX0_become 30 = .ok (.aload_n 1, 1) := by decide +kernel
theorem dX0_become_31 : decode cX0_become 31 = .ok (.getfield 18, 3) := by decide +kernel
theorem dX0_become_34 : decode cX0_become 34 = .ok (.iconst 0, 1) := by decide +kernel
theorem dX0_become_35 : decode cX0_become 35 = .ok (.aload_n 0, 1) := by decide +kernel
theorem dX0_become_36 : decode cX0_become 36 = .ok (.getfield 18, 3) := by decide +kernel
theorem dX0_become_39 : decode cX0_become 39 = .ok (.iconst 0, 1) := by decide +kernel
theorem dX0_become_40 : decode cX0_become 40 = .ok (.iconst 5, 1) := by decide +kernel
theorem dX0_become_41 : decode cX0_become 41 = .ok (.invokestatic 40, 3) := by decide +kernel
theorem dX0_become_44 : decode cX0_become 44 = .ok (.aload_n 1, 1) := by decide +kernel
theorem dX0_become_45 : decode cX0_become 45 = .ok (.getfield 21, 3) := by decide +kernel
theorem dX0_become_48 : decode cX0_become 48 = .ok (.iconst 0, 1) := by decide +kernel
theorem dX0_become_49 : decode cX0_become 49 = .ok (.aload_n 0, 1) := by decide +kernel
theorem dX0_become_50 : decode cX0_become 50 = .ok (.getfield 21, 3) := by decide +kernel
theorem dX0_become_53 : decode cX0_become 53 = .ok (.iconst 0, 1) := by decide +kernel
theorem dX0_become_54 : decode cX0_become 54 = .ok (.iconst 5, 1) := by decide +kernel
theorem dX0_become_55 : decode cX0_become 55 = .ok (.invokestatic 40, 3) := by decide +kernel
theorem dX0_become_58 : decode cX0_become 58 = .ok (.aload_n 1, 1) := by decide +kernel
theorem dX0_become_59 : decode cX0_become 59 = .ok (.getfield 24, 3) := by decide +kernel
theorem dX0_become_62 : decode cX0_become 62 = .ok (.iconst 0, 1) := by decide +kernel
theorem dX0_become_63 : decode cX0_become 63 = .ok (.aload_n 0, 1) := by decide +kernel
theorem dX0_become_64 : decode cX0_become 64 = .ok (.getfield 24, 3) := by decide +kernel
theorem dX0_become_67 : decode cX0_become 67 = .ok (.iconst 0, 1) := by decide +kernel
theorem dX0_become_68 : decode cX0_become 68 = .ok (.iconst 5, 1) := by decide +kernel
theorem dX0_become_69 : decode cX0_become 69 = .ok (.invokestatic 40, 3) := by decide +kernel
theorem dX0_become_72 : decode cX0_become 72 = .ok (.return_, 1) := by decide +kernel
def f_X0_become (i : Nat) (j1 : Nat) (M : xMem) : Option (xMem) := xchk (xcb (0 : Int32) (0 : Int32) (6 : Int32) 6 6) (xlet (xcp M (j1 + 9) 2 (0 : Int32) (i + 9) 2 (0 : Int32) (6 : Int32)) (fun M12 => xchk (xcb (0 : Int32) (0 : Int32) (6 : Int32) 6 6) (xlet (xcp M12 (j1 + 9) 3 (0 : Int32) (i + 9) 3 (0 : Int32) (6 : Int32)) (fun M27 => xchk (xcb (0 : Int32) (0 : Int32) (5 : Int32) 5 5) (xlet (xcp M27 (j1 + 9) 4 (0 : Int32) (i + 9) 4 (0 : Int32) (5 : Int32)) (fun M41 => xchk (xcb (0 : Int32) (0 : Int32) (5 : Int32) 5 5) (xlet (xcp M41 (j1 + 9) 5 (0 : Int32) (i + 9) 5 (0 : Int32) (5 : Int32)) (fun M55 => xchk (xcb (0 : Int32) (0 : Int32) (5 : Int32) 5 5) (xlet (xcp M55 (j1 + 9) 6 (0 : Int32) (i + 9) 6 (0 : Int32) (5 : Int32)) (fun M69 => some M69))))))))))
set_option maxHeartbeats 4000000 in
set_option maxRecDepth 100000 in
theorem c_X0_become (l : Launch) (G : xG) (sz : Nat) (M : xMem) (L : xLL) (i : Nat) (j1 : Nat) (hi : i < 21) (hj1 : j1 < 21) {MM : xMem} (hf : f_X0_become i j1 M = some MM) : Met l yX0_become (Cond.code yX0_become cX0_become 2 none :: xTB) (xR 1) (xP G M L sz [.ref (xq G (i + 9) 0), .ref (xq G (j1 + 9) 0)]) (xQv G MM L sz) 0 0 (xZ G sz) := by
  refine x_met (cc := cX0_become) (nL := 2) (rt := none) (by decide) (Nat.le_of_ble_eq_true rfl) ?_
  intro p e s m below meth c ls hsz E hl hI
  subst hsz
  have E : xE p s m _ meth c cX0_become 2 none RX0 G := E
  have hx := E.1
  have hb := E.2.1
  have hl : lv_has ls 2 [(0, .ref (xq G (i + 9) 0)), (1, .ref (xq G (j1 + 9) 0))] := hl
  rw [f_X0_become] at hf
  refine lv_aload_n hx hb dX0_become_0 rfl (lv_at hl 1 rfl) ?_
  refine gf_X0_9 E hI hj1 dX0_become_1 ?_
  refine lv_iconst (v := 0) hx hb dX0_become_4 (by decide) ?_
  refine lv_aload_n hx hb dX0_become_5 rfl (lv_at hl 0 rfl) ?_
  refine gf_X0_9 E hI hi dX0_become_6 ?_
  refine lv_iconst (v := 0) hx hb dX0_become_9 (by decide) ?_
  refine lv_bipush (v := 6) hx hb dX0_become_10 (by decide) ?_
  obtain ⟨h12c, hf⟩ := xchk_s hf
  obtain ⟨M12, e12, hf⟩ := xlet_s hf
  refine x_copy E hI (mf_2 hj1) (fun _ _ => rfl) (mf_2 hi) (fun _ _ => rfl) ml_X0_40 ac_n ac_s ac_i (by decide) hl.1 (Nat.le_of_ble_eq_true rfl) h12c dX0_become_12 e12 (fun H locs hI => ?_)
  refine lv_aload_n hx hb dX0_become_15 rfl (lv_at hl 1 rfl) ?_
  refine gf_X0_15 E hI hj1 dX0_become_16 ?_
  refine lv_iconst (v := 0) hx hb dX0_become_19 (by decide) ?_
  refine lv_aload_n hx hb dX0_become_20 rfl (lv_at hl 0 rfl) ?_
  refine gf_X0_15 E hI hi dX0_become_21 ?_
  refine lv_iconst (v := 0) hx hb dX0_become_24 (by decide) ?_
  refine lv_bipush (v := 6) hx hb dX0_become_25 (by decide) ?_
  obtain ⟨h27c, hf⟩ := xchk_s hf
  obtain ⟨M27, e27, hf⟩ := xlet_s hf
  refine x_copy E hI (mf_3 hj1) (fun _ _ => rfl) (mf_3 hi) (fun _ _ => rfl) ml_X0_40 ac_n ac_s ac_i (by decide) hl.1 (Nat.le_of_ble_eq_true rfl) h27c dX0_become_27 e27 (fun H locs hI => ?_)
  refine lv_aload_n hx hb dX0_become_30 rfl (lv_at hl 1 rfl) ?_
  refine gf_X0_18 E hI hj1 dX0_become_31 ?_
  refine lv_iconst (v := 0) hx hb dX0_become_34 (by decide) ?_
  refine lv_aload_n hx hb dX0_become_35 rfl (lv_at hl 0 rfl) ?_
  refine gf_X0_18 E hI hi dX0_become_36 ?_
  refine lv_iconst (v := 0) hx hb dX0_become_39 (by decide) ?_
  refine lv_iconst (v := 5) hx hb dX0_become_40 (by decide) ?_
  obtain ⟨h41c, hf⟩ := xchk_s hf
  obtain ⟨M41, e41, hf⟩ := xlet_s hf
  refine x_copy E hI (mf_4 hj1) (fun _ _ => rfl) (mf_4 hi) (fun _ _ => rfl) ml_X0_40 ac_n ac_s ac_i (by decide) hl.1 (Nat.le_of_ble_eq_true rfl) h41c dX0_become_41 e41 (fun H locs hI => ?_)
  refine lv_aload_n hx hb dX0_become_44 rfl (lv_at hl 1 rfl) ?_
  refine gf_X0_21 E hI hj1 dX0_become_45 ?_
  refine lv_iconst (v := 0) hx hb dX0_become_48 (by decide) ?_
  refine lv_aload_n hx hb dX0_become_49 rfl (lv_at hl 0 rfl) ?_
  refine gf_X0_21 E hI hi dX0_become_50 ?_
  refine lv_iconst (v := 0) hx hb dX0_become_53 (by decide) ?_
  refine lv_iconst (v := 5) hx hb dX0_become_54 (by decide) ?_
  obtain ⟨h55c, hf⟩ := xchk_s hf
  obtain ⟨M55, e55, hf⟩ := xlet_s hf
  refine x_copy E hI (mf_5 hj1) (fun _ _ => rfl) (mf_5 hi) (fun _ _ => rfl) ml_X0_40 ac_n ac_s ac_i (by decide) hl.1 (Nat.le_of_ble_eq_true rfl) h55c dX0_become_55 e55 (fun H locs hI => ?_)
  refine lv_aload_n hx hb dX0_become_58 rfl (lv_at hl 1 rfl) ?_
  refine gf_X0_24 E hI hj1 dX0_become_59 ?_
  refine lv_iconst (v := 0) hx hb dX0_become_62 (by decide) ?_
  refine lv_aload_n hx hb dX0_become_63 rfl (lv_at hl 0 rfl) ?_
  refine gf_X0_24 E hI hi dX0_become_64 ?_
  refine lv_iconst (v := 0) hx hb dX0_become_67 (by decide) ?_
  refine lv_iconst (v := 5) hx hb dX0_become_68 (by decide) ?_
  obtain ⟨h69c, hf⟩ := xchk_s hf
  obtain ⟨M69, e69, hf⟩ := xlet_s hf
  refine x_copy E hI (mf_6 hj1) (fun _ _ => rfl) (mf_6 hi) (fun _ _ => rfl) ml_X0_40 ac_n ac_s ac_i (by decide) hl.1 (Nat.le_of_ble_eq_true rfl) h69c dX0_become_69 e69 (fun H locs hI => ?_)
  obtain rfl := xinj1 hf
  exact x_vret E hI dX0_become_72
theorem dX0_stiffness_0 : decode cX0_stiffness 0 = .ok (.aload_n 0, 1) := by decide +kernel
theorem dX0_stiffness_1 : decode cX0_stiffness 1 = .ok (.getfield 27, 3) := by decide +kernel
theorem dX0_stiffness_4 : decode cX0_stiffness 4 = .ok (.getfield 74, 3) := by decide +kernel
theorem dX0_stiffness_7 : decode cX0_stiffness 7 = .ok (.iload_n 1, 1) := by decide +kernel
theorem dX0_stiffness_8 : decode cX0_stiffness 8 = .ok (.iaload, 1) := by decide +kernel
theorem dX0_stiffness_9 : decode cX0_stiffness 9 = .ok (.ifCond .ne 7, 3) := by decide +kernel
theorem dX0_stiffness_12 : decode cX0_stiffness 12 = .ok (.iconst 0, 1) := by decide +kernel
theorem dX0_stiffness_13 : decode cX0_stiffness 13 = .ok (.goto 19, 3) := by decide +kernel
theorem dX0_stiffness_16 : decode cX0_stiffness 16 = .ok (.aload_n 0, 1) := by decide +kernel
theorem dX0_stiffness_17 : decode cX0_stiffness 17 = .ok (.getfield 24, 3) := by decide +kernel
theorem dX0_stiffness_20 : decode cX0_stiffness 20 = .ok (.iload_n 1, 1) := by decide +kernel
theorem dX0_stiffness_21 : decode cX0_stiffness 21 = .ok (.iaload, 1) := by decide +kernel
theorem dX0_stiffness_22 : decode cX0_stiffness 22 = .ok (.aload_n 0, 1) := by decide +kernel
theorem dX0_stiffness_23 : decode cX0_stiffness 23 = .ok (.getfield 27, 3) := by decide +kernel
theorem dX0_stiffness_26 : decode cX0_stiffness 26 = .ok (.getfield 74, 3) := by decide +kernel
theorem dX0_stiffness_29 : decode cX0_stiffness 29 = .ok (.iload_n 1, 1) := by decide +kernel
theorem dX0_stiffness_30 : decode cX0_stiffness 30 = .ok (.iaload, 1) := by decide +kernel
theorem dX0_stiffness_31 : decode cX0_stiffness 31 = .ok (.idiv, 1) := by decide +kernel
theorem dX0_stiffness_32 : decode cX0_stiffness 32 = .ok (.ireturn, 1) := by decide +kernel
def f_X0_stiffness_b32 (t32_0 : Int32) : Option (Int32) := some t32_0
def f_X0_stiffness (i : Nat) (a1 : Int32) (M : xMem) : Option (Int32) := xchk (xb a1 5) ((if (M 3 4 a1.toNatClampNeg) = (0 : Int32) then (f_X0_stiffness_b32) (0 : Int32) else xchk (xb a1 5) (xchk (xb a1 5) (xchk (xnz (M 3 4 a1.toNatClampNeg)) ((f_X0_stiffness_b32) ((M (i + 9) 6 a1.toNatClampNeg) / (M 3 4 a1.toNatClampNeg)))))))
set_option maxHeartbeats 4000000 in
set_option maxRecDepth 100000 in
theorem w_X0_stiffness_b32 {p : Program} {l : Launch} {e : Env} {s : State} {m : MethodId} {args : Array Value} {below : List Frame} {meth : Method} {c : Code} {G : xG} {rr : Int32} (E : xE p s m args meth c cX0_stiffness 2 (some .int) RX0 G) (M : xMem) (L : xLL) : ∀ (t32_0 : Int32), f_X0_stiffness_b32 t32_0 = some rr → ∀ (ls : Array Slot), lv_has ls 2 [] → ∀ (H : Heap) (locs : List Loc), xI G M L s.heap H locs → W p l e (xR 1) s m args below meth c H locs 0 0 (MQ below (xQi G rr M L s.heap.size) args s 0 0 (xZ G s.heap.size)) (F0 m 32 ls [.int t32_0]) := by
  have hx := E.1
  have hb := E.2.1
  intro t32_0 hf ls hl H locs hI
  rw [f_X0_stiffness_b32] at hf
  obtain rfl := xinj1 hf
  exact x_iret E hI rfl dX0_stiffness_32
set_option maxHeartbeats 4000000 in
set_option maxRecDepth 100000 in
theorem c_X0_stiffness (l : Launch) (G : xG) (sz : Nat) (M : xMem) (L : xLL) (i : Nat) (a1 : Int32) (hi : i < 21) {rr : Int32} (hf : f_X0_stiffness i a1 M = some rr) : Met l yX0_stiffness (Cond.code yX0_stiffness cX0_stiffness 2 (some .int) :: xTB) (xR 1) (xP G M L sz [.ref (xq G (i + 9) 0), .int a1]) (xQi G rr M L sz) 0 0 (xZ G sz) := by
  refine x_met (cc := cX0_stiffness) (nL := 2) (rt := (some .int)) (by decide) (Nat.le_of_ble_eq_true rfl) ?_
  intro p e s m below meth c ls hsz E hl hI
  subst hsz
  have E : xE p s m _ meth c cX0_stiffness 2 (some .int) RX0 G := E
  have hx := E.1
  have hb := E.2.1
  have hl : lv_has ls 2 [(0, .ref (xq G (i + 9) 0)), (1, .int a1)] := hl
  rw [f_X0_stiffness] at hf
  refine lv_aload_n hx hb dX0_stiffness_0 rfl (lv_at hl 0 rfl) ?_
  refine gf_X0_27 E hI hi dX0_stiffness_1 ?_
  refine gf_X0_74_3 E hI dX0_stiffness_4 ?_
  refine lv_iload_n hx hb dX0_stiffness_7 rfl (lv_at hl 1 rfl) ?_
  obtain ⟨h8b, hf⟩ := xchk_s hf
  refine x_iald (n := 5) E hI mx_3_4 (fun _ _ => rfl) h8b dX0_stiffness_8 ?_
  refine lv_if_ne (tgt := 16) hx hb dX0_stiffness_9 (by decide) (fun c9 => ?_) (fun c9 => ?_)
  · replace hf := xif_f c9 hf
    refine lv_aload_n hx hb dX0_stiffness_16 rfl (lv_at hl 0 rfl) ?_
    refine gf_X0_24 E hI hi dX0_stiffness_17 ?_
    refine lv_iload_n hx hb dX0_stiffness_20 rfl (lv_at hl 1 rfl) ?_
    obtain ⟨h21b, hf⟩ := xchk_s hf
    refine x_iald (n := 5) E hI (mf_6 hi) (fun _ _ => rfl) h21b dX0_stiffness_21 ?_
    refine lv_aload_n hx hb dX0_stiffness_22 rfl (lv_at hl 0 rfl) ?_
    refine gf_X0_27 E hI hi dX0_stiffness_23 ?_
    refine gf_X0_74_3 E hI dX0_stiffness_26 ?_
    refine lv_iload_n hx hb dX0_stiffness_29 rfl (lv_at hl 1 rfl) ?_
    obtain ⟨h30b, hf⟩ := xchk_s hf
    refine x_iald (n := 5) E hI mx_3_4 (fun _ _ => rfl) h30b dX0_stiffness_30 ?_
    obtain ⟨h31z, hf⟩ := xchk_s hf
    refine lv_idiv hx hb dX0_stiffness_31 (xnz_s h31z) ?_
    exact (w_X0_stiffness_b32 E (M := M) (L := L)) ((M (i + 9) 6 a1.toNatClampNeg) / (M 3 4 a1.toNatClampNeg)) hf _ (lv_sub hl [] rfl) _ _ hI
  · replace hf := xif_t c9 hf
    refine lv_iconst (v := 0) hx hb dX0_stiffness_12 (by decide) ?_
    refine lv_goto (tgt := 32) hx hb dX0_stiffness_13 (by decide) ?_
    exact (w_X0_stiffness_b32 E (M := M) (L := L)) (0 : Int32) hf _ (lv_sub hl [] rfl) _ _ hI
theorem dX0_highestMark_0 : decode cX0_highestMark 0 = .ok (.aload_n 0, 1) := by decide +kernel
theorem dX0_highestMark_1 : decode cX0_highestMark 1 = .ok (.getfield 27, 3) := by decide +kernel
theorem dX0_highestMark_4 : decode cX0_highestMark 4 = .ok (.iload_n 1, 1) := by decide +kernel
theorem dX0_highestMark_5 : decode cX0_highestMark 5 = .ok (.aload_n 0, 1) := by decide +kernel
theorem dX0_highestMark_6 : decode cX0_highestMark 6 = .ok (.getfield 15, 3) := by decide +kernel
theorem dX0_highestMark_9 : decode cX0_highestMark 9 = .ok (.iload_n 1, 1) := by decide +kernel
theorem dX0_highestMark_10 : decode cX0_highestMark 10 = .ok (.iaload, 1) := by decide +kernel
theorem dX0_highestMark_11 : decode cX0_highestMark 11 = .ok (.invokevirtual 67, 3) := by decide +kernel
theorem dX0_highestMark_14 : decode cX0_highestMark 14 = .ok (.aload_n 0, 1) := by decide +kernel
theorem dX0_highestMark_15 : decode cX0_highestMark 15 = .ok (.iload_n 2, 1) := by decide +kernel
theorem dX0_highestMark_16 : decode cX0_highestMark 16 = .ok (.invokevirtual 70, 3) := by decide +kernel
theorem dX0_highestMark_19 : decode cX0_highestMark 19 = .ok (.isub, 1) := by decide +kernel
theorem dX0_highestMark_20 : decode cX0_highestMark 20 = .ok (.ireturn, 1) := by decide +kernel
def f_X0_highestMark (i : Nat) (a1 : Int32) (a2 : Int32) (M : xMem) : Option (Int32) := xchk (xb a1 6) (xb1 (f_X6_seems a1 (M (i + 9) 3 a1.toNatClampNeg) M) (fun r11 => xb1 (f_X0_stiffness i a2 M) (fun r16 => some (r11 - r16))))
set_option maxHeartbeats 4000000 in
set_option maxRecDepth 100000 in
theorem c_X0_highestMark (l : Launch) (G : xG) (sz : Nat) (M : xMem) (L : xLL) (i : Nat) (a1 : Int32) (a2 : Int32) (hi : i < 21) {rr : Int32} (hf : f_X0_highestMark i a1 a2 M = some rr) : Met l yX0_highestMark (Cond.code yX0_highestMark cX0_highestMark 3 (some .int) :: xTB) (xR 2) (xP G M L sz [.ref (xq G (i + 9) 0), .int a1, .int a2]) (xQi G rr M L sz) 0 0 (xZ G sz) := by
  refine x_met (cc := cX0_highestMark) (nL := 3) (rt := (some .int)) (by decide) (Nat.le_of_ble_eq_true rfl) ?_
  intro p e s m below meth c ls hsz E hl hI
  subst hsz
  have E : xE p s m _ meth c cX0_highestMark 3 (some .int) RX0 G := E
  have hx := E.1
  have hb := E.2.1
  have hl : lv_has ls 3 [(0, .ref (xq G (i + 9) 0)), (1, .int a1), (2, .int a2)] := hl
  rw [f_X0_highestMark] at hf
  refine lv_aload_n hx hb dX0_highestMark_0 rfl (lv_at hl 0 rfl) ?_
  refine gf_X0_27 E hI hi dX0_highestMark_1 ?_
  refine lv_iload_n hx hb dX0_highestMark_4 rfl (lv_at hl 1 rfl) ?_
  refine lv_aload_n hx hb dX0_highestMark_5 rfl (lv_at hl 0 rfl) ?_
  refine gf_X0_15 E hI hi dX0_highestMark_6 ?_
  refine lv_iload_n hx hb dX0_highestMark_9 rfl (lv_at hl 1 rfl) ?_
  obtain ⟨h10b, hf⟩ := xchk_s hf
  refine x_iald (n := 6) E hI (mf_3 hi) (fun _ _ => rfl) h10b dX0_highestMark_10 ?_
  obtain ⟨r11, g11, hf⟩ := xb1_s hf
  refine x_callVi (As := [.int a1, .int (M (i + 9) 3 a1.toNatClampNeg)]) (rest := []) E hI mx_3_0 rfl rfl rfl (c_X6_seems l G _ (M := M) (L := L) (a1 := a1) (a2 := (M (i + 9) 3 a1.toNatClampNeg)) g11) yv_X6_seems ml_X0_67 (by decide) (by decide) rfl rfl hl.1 (Nat.le_of_ble_eq_true rfl) dX0_highestMark_11 (fun H locs hI => ?_)
  refine lv_aload_n hx hb dX0_highestMark_14 rfl (lv_at hl 0 rfl) ?_
  refine lv_iload_n hx hb dX0_highestMark_15 rfl (lv_at hl 2 rfl) ?_
  obtain ⟨r16, g16, hf⟩ := xb1_s hf
  refine x_callVi (As := [.int a2]) (rest := [.int r11]) E hI (mf_0 hi) rfl rfl rfl (c_X0_stiffness l G _ (M := M) (L := L) (i := i) (hi := hi) (a1 := a2) g16) yv_X0_stiffness ml_X0_70 (by decide) (by decide) rfl rfl hl.1 (Nat.le_of_ble_eq_true rfl) dX0_highestMark_16 (fun H locs hI => ?_)
  refine lv_isub hx hb dX0_highestMark_19 ?_
  obtain rfl := xinj1 hf
  exact x_iret E hI rfl dX0_highestMark_20
theorem dX0_eggsAt_0 : decode cX0_eggsAt 0 = .ok (.iconst 0, 1) := by decide +kernel
theorem dX0_eggsAt_1 : decode cX0_eggsAt 1 = .ok (.istore_n 2, 1) := by decide +kernel
theorem dX0_eggsAt_2 : decode cX0_eggsAt 2 = .ok (.iconst 0, 1) := by decide +kernel
theorem dX0_eggsAt_3 : decode cX0_eggsAt 3 = .ok (.istore_n 3, 1) := by decide +kernel
theorem dX0_eggsAt_4 : decode cX0_eggsAt 4 = .ok (.iload_n 3, 1) := by decide +kernel
theorem dX0_eggsAt_5 : decode cX0_eggsAt 5 = .ok (.aload_n 0, 1) := by decide +kernel
theorem dX0_eggsAt_6 : decode cX0_eggsAt 6 = .ok (.getfield 27, 3) := by decide +kernel
theorem dX0_eggsAt_9 : decode cX0_eggsAt 9 = .ok (.getfield 94, 3) := by decide +kernel
theorem dX0_eggsAt_12 : decode cX0_eggsAt 12 = .ok (.if_icmp .ge 25, 3) := by decide +kernel
theorem dX0_eggsAt_15 : decode cX0_eggsAt 15 = .ok (.aload_n 0, 1) := by decide +kernel
theorem dX0_eggsAt_16 : decode cX0_eggsAt 16 = .ok (.getfield 9, 3) := by decide +kernel
theorem dX0_eggsAt_19 : decode cX0_eggsAt 19 = .ok (.iload_n 3, 1) := by decide +kernel
theorem dX0_eggsAt_20 : decode cX0_eggsAt 20 = .ok (.iaload, 1) := by decide +kernel
theorem dX0_eggsAt_21 : decode cX0_eggsAt 21 = .ok (.iload_n 1, 1) := by decide +kernel
theorem dX0_eggsAt_22 : decode cX0_eggsAt 22 = .ok (.if_icmp .ne 9, 3) := by decide +kernel
theorem dX0_eggsAt_25 : decode cX0_eggsAt 25 = .ok (.iload_n 2, 1) := by decide +kernel
theorem dX0_eggsAt_26 : decode cX0_eggsAt 26 = .ok (.iconst 1, 1) := by decide +kernel
theorem dX0_eggsAt_27 : decode cX0_eggsAt 27 = .ok (.iload_n 3, 1) := by decide +kernel
theorem dX0_eggsAt_28 : decode cX0_eggsAt 28 = .ok (.ishl, 1) := by decide +kernel
theorem dX0_eggsAt_29 : decode cX0_eggsAt 29 = .ok (.ior, 1) := by decide +kernel
theorem dX0_eggsAt_30 : decode cX0_eggsAt 30 = .ok (.istore_n 2, 1) := by decide +kernel
theorem dX0_eggsAt_31 : decode cX0_eggsAt 31 = .ok (.iinc 3 1, 3) := by decide +kernel
theorem dX0_eggsAt_34 : decode cX0_eggsAt 34 = .ok (.goto (-30), 3) := by decide +kernel
theorem dX0_eggsAt_37 : decode cX0_eggsAt 37 = .ok (.iload_n 2, 1) := by decide +kernel
theorem dX0_eggsAt_38 : decode cX0_eggsAt 38 = .ok (.ireturn, 1) := by decide +kernel
def f_X0_eggsAt_b31 (v4_3 : Int32) (k4 : Int32 → Int32 → Option (Int32)) (v31_2 : Int32) : Option (Int32) := k4 v31_2 (v4_3 + (1 : Int32))
def f_X0_eggsAt_l4 (i : Nat) (a1 : Int32) (M : xMem) : Nat → Int32 → Int32 → Option (Int32)
  | 0, _, _ => none
  | n + 1, v4_2, v4_3 => (if (M 3 0 1) ≤ v4_3 then some v4_2 else xchk (xb v4_3 6) ((if (M (i + 9) 2 v4_3.toNatClampNeg) = a1 then (f_X0_eggsAt_b31 v4_3 (f_X0_eggsAt_l4 i a1 M n)) (v4_2 ||| ((1 : Int32) <<< (v4_3 &&& 31))) else (f_X0_eggsAt_b31 v4_3 (f_X0_eggsAt_l4 i a1 M n)) v4_2)))
def f_X0_eggsAt (i : Nat) (a1 : Int32) (M : xMem) : Option (Int32) := (f_X0_eggsAt_l4 i a1 M FU) (0 : Int32) (0 : Int32)
set_option maxHeartbeats 4000000 in
set_option maxRecDepth 100000 in
theorem w_X0_eggsAt_b31 {p : Program} {l : Launch} {e : Env} {s : State} {m : MethodId} {args : Array Value} {below : List Frame} {meth : Method} {c : Code} {G : xG} {rr : Int32} (E : xE p s m args meth c cX0_eggsAt 4 (some .int) RX0 G) (i : Nat) (a1 : Int32) (M : xMem) (L : xLL) (v4_2 : Int32) (v4_3 : Int32) (k4 : Int32 → Int32 → Option (Int32)) (hk4 : ∀ (v4_2 : Int32) (v4_3 : Int32), k4 v4_2 v4_3 = some rr → ∀ (ls : Array Slot), lv_has ls 4 [(0, .ref (xq G (i + 9) 0)), (1, .int a1), (2, .int v4_2), (3, .int v4_3)] → ∀ (H : Heap) (locs : List Loc), xI G M L s.heap H locs → W p l e (xR 1) s m args below meth c H locs 0 0 (MQ below (xQi G rr M L s.heap.size) args s 0 0 (xZ G s.heap.size)) (F0 m 4 ls [])) : ∀ (v31_2 : Int32), f_X0_eggsAt_b31 v4_3 k4 v31_2 = some rr → ∀ (ls : Array Slot), lv_has ls 4 [(0, .ref (xq G (i + 9) 0)), (1, .int a1), (2, .int v31_2), (3, .int v4_3)] → ∀ (H : Heap) (locs : List Loc), xI G M L s.heap H locs → W p l e (xR 1) s m args below meth c H locs 0 0 (MQ below (xQi G rr M L s.heap.size) args s 0 0 (xZ G s.heap.size)) (F0 m 31 ls []) := by
  have hx := E.1
  have hb := E.2.1
  intro v31_2 hf ls hl H locs hI
  rw [f_X0_eggsAt_b31] at hf
  refine lv_iinc (v := (v4_3 + (1 : Int32))) (lv' := [(3, .int (v4_3 + (1 : Int32))), (0, .ref (xq G (i + 9) 0)), (1, .int a1), (2, .int v31_2)]) hx hb dX0_eggsAt_31 hl (k := 3) rfl rfl (by decide) rfl (fun ls hl => ?_)
  refine lv_goto (tgt := 4) hx hb dX0_eggsAt_34 (by decide) ?_
  exact hk4 v31_2 (v4_3 + (1 : Int32)) hf _ (lv_sub hl [1, 2, 3, 0] rfl) _ _ hI
set_option maxHeartbeats 4000000 in
set_option maxRecDepth 100000 in
theorem w_X0_eggsAt_l4 {p : Program} {l : Launch} {e : Env} {s : State} {m : MethodId} {args : Array Value} {below : List Frame} {meth : Method} {c : Code} {G : xG} {rr : Int32} (E : xE p s m args meth c cX0_eggsAt 4 (some .int) RX0 G) (i : Nat) (a1 : Int32) (M : xMem) (L : xLL) (hi : i < 21) : ∀ (n : Nat), ∀ (v4_2 : Int32) (v4_3 : Int32), f_X0_eggsAt_l4 i a1 M n v4_2 v4_3 = some rr → ∀ (ls : Array Slot), lv_has ls 4 [(0, .ref (xq G (i + 9) 0)), (1, .int a1), (2, .int v4_2), (3, .int v4_3)] → ∀ (H : Heap) (locs : List Loc), xI G M L s.heap H locs → W p l e (xR 1) s m args below meth c H locs 0 0 (MQ below (xQi G rr M L s.heap.size) args s 0 0 (xZ G s.heap.size)) (F0 m 4 ls []) := by
  have hx := E.1
  have hb := E.2.1
  intro n
  induction n with
  | zero =>
    intro v4_2 v4_3 hf
    exact absurd hf (by simp [f_X0_eggsAt_l4])
  | succ n ih =>
    intro v4_2 v4_3 hf ls hl H locs hI
    rw [f_X0_eggsAt_l4] at hf
    refine lv_iload_n hx hb dX0_eggsAt_4 rfl (lv_at hl 3 rfl) ?_
    refine lv_aload_n hx hb dX0_eggsAt_5 rfl (lv_at hl 0 rfl) ?_
    refine gf_X0_27 E hI hi dX0_eggsAt_6 ?_
    refine gf_X0_94_3 E hI dX0_eggsAt_9 ?_
    refine lv_icmp_ge (tgt := 37) hx hb dX0_eggsAt_12 (by decide) (fun c12 => ?_) (fun c12 => ?_)
    · replace hf := xif_t c12 hf
      refine lv_iload_n hx hb dX0_eggsAt_37 rfl (lv_at hl 2 rfl) ?_
      obtain rfl := xinj1 hf
      exact x_iret E hI rfl dX0_eggsAt_38
    · replace hf := xif_f c12 hf
      refine lv_aload_n hx hb dX0_eggsAt_15 rfl (lv_at hl 0 rfl) ?_
      refine gf_X0_9 E hI hi dX0_eggsAt_16 ?_
      refine lv_iload_n hx hb dX0_eggsAt_19 rfl (lv_at hl 3 rfl) ?_
      obtain ⟨h20b, hf⟩ := xchk_s hf
      refine x_iald (n := 6) E hI (mf_2 hi) (fun _ _ => rfl) h20b dX0_eggsAt_20 ?_
      refine lv_iload_n hx hb dX0_eggsAt_21 rfl (lv_at hl 1 rfl) ?_
      refine lv_icmp_ne (tgt := 31) hx hb dX0_eggsAt_22 (by decide) (fun c22 => ?_) (fun c22 => ?_)
      · replace hf := xif_f c22 hf
        exact (w_X0_eggsAt_b31 E (i := i) (a1 := a1) (M := M) (L := L) (v4_2 := v4_2) (v4_3 := v4_3) (k4 := (f_X0_eggsAt_l4 i a1 M n)) (hk4 := ih)) v4_2 hf _ (lv_sub hl [0, 1, 2, 3] rfl) _ _ hI
      · replace hf := xif_t c22 hf
        refine lv_iload_n hx hb dX0_eggsAt_25 rfl (lv_at hl 2 rfl) ?_
        refine lv_iconst (v := 1) hx hb dX0_eggsAt_26 (by decide) ?_
        refine lv_iload_n hx hb dX0_eggsAt_27 rfl (lv_at hl 3 rfl) ?_
        refine lv_ishl hx hb dX0_eggsAt_28 ?_
        refine lv_ior hx hb dX0_eggsAt_29 ?_
        refine lv_istore_n (lv' := [(2, .int (v4_2 ||| ((1 : Int32) <<< (v4_3 &&& 31)))), (0, .ref (xq G (i + 9) 0)), (1, .int a1), (3, .int v4_3)]) hx hb dX0_eggsAt_30 rfl hl (by decide) rfl (fun ls hl => ?_)
        exact (w_X0_eggsAt_b31 E (i := i) (a1 := a1) (M := M) (L := L) (v4_2 := v4_2) (v4_3 := v4_3) (k4 := (f_X0_eggsAt_l4 i a1 M n)) (hk4 := ih)) (v4_2 ||| ((1 : Int32) <<< (v4_3 &&& 31))) hf _ (lv_sub hl [1, 2, 0, 3] rfl) _ _ hI
set_option maxHeartbeats 4000000 in
set_option maxRecDepth 100000 in
theorem c_X0_eggsAt (l : Launch) (G : xG) (sz : Nat) (M : xMem) (L : xLL) (i : Nat) (a1 : Int32) (hi : i < 21) {rr : Int32} (hf : f_X0_eggsAt i a1 M = some rr) : Met l yX0_eggsAt (Cond.code yX0_eggsAt cX0_eggsAt 4 (some .int) :: xTB) (xR 1) (xP G M L sz [.ref (xq G (i + 9) 0), .int a1]) (xQi G rr M L sz) 0 0 (xZ G sz) := by
  refine x_met (cc := cX0_eggsAt) (nL := 4) (rt := (some .int)) (by decide) (Nat.le_of_ble_eq_true rfl) ?_
  intro p e s m below meth c ls hsz E hl hI
  subst hsz
  have E : xE p s m _ meth c cX0_eggsAt 4 (some .int) RX0 G := E
  have hx := E.1
  have hb := E.2.1
  have hl : lv_has ls 4 [(0, .ref (xq G (i + 9) 0)), (1, .int a1)] := hl
  rw [f_X0_eggsAt] at hf
  refine lv_iconst (v := 0) hx hb dX0_eggsAt_0 (by decide) ?_
  refine lv_istore_n (lv' := [(2, .int (0 : Int32)), (0, .ref (xq G (i + 9) 0)), (1, .int a1)]) hx hb dX0_eggsAt_1 rfl hl (by decide) rfl (fun ls hl => ?_)
  refine lv_iconst (v := 0) hx hb dX0_eggsAt_2 (by decide) ?_
  refine lv_istore_n (lv' := [(3, .int (0 : Int32)), (2, .int (0 : Int32)), (0, .ref (xq G (i + 9) 0)), (1, .int a1)]) hx hb dX0_eggsAt_3 rfl hl (by decide) rfl (fun ls hl => ?_)
  exact (w_X0_eggsAt_l4 E (i := i) (a1 := a1) (M := M) (L := L) (hi := hi) FU) (0 : Int32) (0 : Int32) hf _ (lv_sub hl [2, 3, 1, 0] rfl) _ _ hI
theorem dX0_isFull_0 : decode cX0_isFull 0 = .ok (.aload_n 0, 1) := by decide +kernel
theorem dX0_isFull_1 : decode cX0_isFull 1 = .ok (.iload_n 1, 1) := by decide +kernel
theorem dX0_isFull_2 : decode cX0_isFull 2 = .ok (.iconst 1, 1) := by decide +kernel
theorem dX0_isFull_3 : decode cX0_isFull 3 = .ok (.iadd, 1) := by decide +kernel
theorem dX0_isFull_4 : decode cX0_isFull 4 = .ok (.invokevirtual 77, 3) := by decide +kernel
theorem dX0_isFull_7 : decode cX0_isFull 7 = .ok (.invokestatic 80, 3) := by decide +kernel
theorem dX0_isFull_10 : decode cX0_isFull 10 = .ok (.aload_n 0, 1) := by decide +kernel
theorem dX0_isFull_11 : decode cX0_isFull 11 = .ok (.getfield 27, 3) := by decide +kernel
theorem dX0_isFull_14 : decode cX0_isFull 14 = .ok (.getfield 85, 3) := by decide +kernel
theorem dX0_isFull_17 : decode cX0_isFull 17 = .ok (.iload_n 1, 1) := by decide +kernel
theorem dX0_isFull_18 : decode cX0_isFull 18 = .ok (.iaload, 1) := by decide +kernel
theorem dX0_isFull_19 : decode cX0_isFull 19 = .ok (.if_icmp .lt 7, 3) := by decide +kernel
theorem dX0_isFull_22 : decode cX0_isFull 22 = .ok (.iconst 1, 1) := by decide +kernel
theorem dX0_isFull_23 : decode cX0_isFull 23 = .ok (.goto 4, 3) := by decide +kernel
theorem dX0_isFull_26 : decode cX0_isFull 26 = .ok (.iconst 0, 1) := by decide +kernel
theorem dX0_isFull_27 : decode cX0_isFull 27 = .ok (.ireturn, 1) := by decide +kernel
def f_X0_isFull_b27 (t27_0 : Int32) : Option (Int32) := xchk (xbo t27_0) (some t27_0)
def f_X0_isFull (i : Nat) (a1 : Int32) (M : xMem) : Option (Int32) := xb1 (f_X0_eggsAt i (a1 + (1 : Int32)) M) (fun r4 => xb1 (f_J6_bitCount_0f7a4 r4 M) (fun r7 => xchk (xb a1 5) ((if r7 < (M 3 5 a1.toNatClampNeg) then (f_X0_isFull_b27) (0 : Int32) else (f_X0_isFull_b27) (1 : Int32)))))
set_option maxHeartbeats 4000000 in
set_option maxRecDepth 100000 in
theorem w_X0_isFull_b27 {p : Program} {l : Launch} {e : Env} {s : State} {m : MethodId} {args : Array Value} {below : List Frame} {meth : Method} {c : Code} {G : xG} {rr : Int32} (E : xE p s m args meth c cX0_isFull 2 (some .boolean) RX0 G) (M : xMem) (L : xLL) : ∀ (t27_0 : Int32), f_X0_isFull_b27 t27_0 = some rr → ∀ (ls : Array Slot), lv_has ls 2 [] → ∀ (H : Heap) (locs : List Loc), xI G M L s.heap H locs → W p l e (xR 2) s m args below meth c H locs 0 0 (MQ below (xQi G rr M L s.heap.size) args s 0 0 (xZ G s.heap.size)) (F0 m 27 ls [.int t27_0]) := by
  have hx := E.1
  have hb := E.2.1
  intro t27_0 hf ls hl H locs hI
  rw [f_X0_isFull_b27] at hf
  obtain ⟨h27n, hf⟩ := xchk_s hf
  obtain rfl := xinj1 hf
  exact x_zret E hI (xbo_s h27n) rfl dX0_isFull_27
set_option maxHeartbeats 4000000 in
set_option maxRecDepth 100000 in
theorem c_X0_isFull (l : Launch) (G : xG) (sz : Nat) (M : xMem) (L : xLL) (i : Nat) (a1 : Int32) (hi : i < 21) {rr : Int32} (hf : f_X0_isFull i a1 M = some rr) : Met l yX0_isFull (Cond.code yX0_isFull cX0_isFull 2 (some .boolean) :: xTB) (xR 2) (xP G M L sz [.ref (xq G (i + 9) 0), .int a1]) (xQi G rr M L sz) 0 0 (xZ G sz) := by
  refine x_met (cc := cX0_isFull) (nL := 2) (rt := (some .boolean)) (by decide) (Nat.le_of_ble_eq_true rfl) ?_
  intro p e s m below meth c ls hsz E hl hI
  subst hsz
  have E : xE p s m _ meth c cX0_isFull 2 (some .boolean) RX0 G := E
  have hx := E.1
  have hb := E.2.1
  have hl : lv_has ls 2 [(0, .ref (xq G (i + 9) 0)), (1, .int a1)] := hl
  rw [f_X0_isFull] at hf
  refine lv_aload_n hx hb dX0_isFull_0 rfl (lv_at hl 0 rfl) ?_
  refine lv_iload_n hx hb dX0_isFull_1 rfl (lv_at hl 1 rfl) ?_
  refine lv_iconst (v := 1) hx hb dX0_isFull_2 (by decide) ?_
  refine lv_iadd hx hb dX0_isFull_3 ?_
  obtain ⟨r4, g4, hf⟩ := xb1_s hf
  refine x_callVi (As := [.int (a1 + (1 : Int32))]) (rest := []) E hI (mf_0 hi) rfl rfl rfl (c_X0_eggsAt l G _ (M := M) (L := L) (i := i) (hi := hi) (a1 := (a1 + (1 : Int32))) g4) yv_X0_eggsAt ml_X0_77 (by decide) (by decide) rfl rfl hl.1 (Nat.le_of_ble_eq_true rfl) dX0_isFull_4 (fun H locs hI => ?_)
  obtain ⟨r7, g7, hf⟩ := xb1_s hf
  refine x_callSi (As := [.int r4]) (rest := []) E hI (c_J6_bitCount_0f7a4 l G _ (M := M) (L := L) (a0 := r4) g7) ys_J6_bitCount_0f7a4 ml_X0_80 (by decide) (by decide) rfl rfl hl.1 (Nat.le_of_ble_eq_true rfl) dX0_isFull_7 (fun H locs hI => ?_)
  refine lv_aload_n hx hb dX0_isFull_10 rfl (lv_at hl 0 rfl) ?_
  refine gf_X0_27 E hI hi dX0_isFull_11 ?_
  refine gf_X0_85_3 E hI dX0_isFull_14 ?_
  refine lv_iload_n hx hb dX0_isFull_17 rfl (lv_at hl 1 rfl) ?_
  obtain ⟨h18b, hf⟩ := xchk_s hf
  refine x_iald (n := 5) E hI mx_3_5 (fun _ _ => rfl) h18b dX0_isFull_18 ?_
  refine lv_icmp_lt (tgt := 26) hx hb dX0_isFull_19 (by decide) (fun c19 => ?_) (fun c19 => ?_)
  · replace hf := xif_t c19 hf
    refine lv_iconst (v := 0) hx hb dX0_isFull_26 (by decide) ?_
    exact (w_X0_isFull_b27 E (M := M) (L := L)) (0 : Int32) hf _ (lv_sub hl [] rfl) _ _ hI
  · replace hf := xif_f c19 hf
    refine lv_iconst (v := 1) hx hb dX0_isFull_22 (by decide) ?_
    refine lv_goto (tgt := 27) hx hb dX0_isFull_23 (by decide) ?_
    exact (w_X0_isFull_b27 E (M := M) (L := L)) (1 : Int32) hf _ (lv_sub hl [] rfl) _ _ hI
theorem dX0_roll_0 : decode cX0_roll 0 = .ok (.iconst 0, 1) := by decide +kernel
theorem dX0_roll_1 : decode cX0_roll 1 = .ok (.istore_n 2, 1) := by decide +kernel
theorem dX0_roll_2 : decode cX0_roll 2 = .ok (.iload_n 2, 1) := by decide +kernel
theorem dX0_roll_3 : decode cX0_roll 3 = .ok (.aload_n 0, 1) := by decide +kernel
theorem dX0_roll_4 : decode cX0_roll 4 = .ok (.getfield 27, 3) := by decide +kernel
theorem dX0_roll_7 : decode cX0_roll 7 = .ok (.getfield 47, 3) := by decide +kernel
theorem dX0_roll_10 : decode cX0_roll 10 = .ok (.if_icmp .ge 90, 3) := by decide +kernel
theorem dX0_roll_13 : decode cX0_roll 13 = .ok (.aload_n 0, 1) := by decide +kernel
theorem dX0_roll_14 : decode cX0_roll 14 = .ok (.getfield 21, 3) := by decide +kernel
theorem dX0_roll_17 : decode cX0_roll 17 = .ok (.iload_n 2, 1) := by decide +kernel
theorem dX0_roll_18 : decode cX0_roll 18 = .ok (.iaload, 1) := by decide +kernel
theorem dX0_roll_19 : decode cX0_roll 19 = .ok (.istore_n 3, 1) := by decide +kernel
theorem dX0_roll_20 : decode cX0_roll 20 = .ok (.aload_n 0, 1) := by decide +kernel
theorem dX0_roll_21 : decode cX0_roll 21 = .ok (.getfield 18, 3) := by decide +kernel
theorem dX0_roll_24 : decode cX0_roll 24 = .ok (.iload_n 3, 1) := by decide +kernel
theorem dX0_roll_25 : decode cX0_roll 25 = .ok (.iaload, 1) := by decide +kernel
theorem dX0_roll_26 : decode cX0_roll 26 = .ok (.aload_n 0, 1) := by decide +kernel
theorem dX0_roll_27 : decode cX0_roll 27 = .ok (.iload_n 1, 1) := by decide +kernel
theorem dX0_roll_28 : decode cX0_roll 28 = .ok (.iload_n 3, 1) := by decide +kernel
theorem dX0_roll_29 : decode cX0_roll 29 = .ok (.invokevirtual 51, 3) := by decide +kernel
theorem dX0_roll_32 : decode cX0_roll 32 = .ok (.if_icmp .gt 42, 3) := by decide +kernel
theorem dX0_roll_35 : decode cX0_roll 35 = .ok (.aload_n 0, 1) := by decide +kernel
theorem dX0_roll_36 : decode cX0_roll 36 = .ok (.iload_n 3, 1) := by decide +kernel
theorem dX0_roll_37 : decode cX0_roll 37 = .ok (.invokevirtual 55, 3) := by decide +kernel
theorem dX0_roll_40 : decode cX0_roll 40 = .ok (.ifCond .ne 34, 3) := by decide +kernel
theorem dX0_roll_43 : decode cX0_roll 43 = .ok (.aload_n 0, 1) := by decide +kernel
theorem dX0_roll_44 : decode cX0_roll 44 = .ok (.getfield 9, 3) := by decide +kernel
theorem dX0_roll_47 : decode cX0_roll 47 = .ok (.iload_n 1, 1) := by decide +kernel
theorem dX0_roll_48 : decode cX0_roll 48 = .ok (.iload_n 3, 1) := by decide +kernel
theorem dX0_roll_49 : decode cX0_roll 49 = .ok (.iconst 1, 1) := by decide +kernel
theorem dX0_roll_50 : decode cX0_roll 50 = .ok (.iadd, 1) := by decide +kernel
theorem dX0_roll_51 : decode cX0_roll 51 = .ok (.iastore, 1) := by decide +kernel
theorem dX0_roll_52 : decode cX0_roll 52 = .ok (.aload_n 0, 1) := by decide +kernel
theorem dX0_roll_53 : decode cX0_roll 53 = .ok (.getfield 24, 3) := by decide +kernel
theorem dX0_roll_56 : decode cX0_roll 56 = .ok (.iload_n 3, 1) := by decide +kernel
theorem dX0_roll_57 : decode cX0_roll 57 = .ok (.sipush 999, 3) := by decide +kernel
theorem dX0_roll_60 : decode cX0_roll 60 = .ok (.aload_n 0, 1) := by decide +kernel
theorem dX0_roll_61 : decode cX0_roll 61 = .ok (.getfield 24, 3) := by decide +kernel
theorem dX0_roll_64 : decode cX0_roll 64 = .ok (.iload_n 3, 1) := by decide +kernel
theorem dX0_roll_65 : decode cX0_roll 65 = .ok (.iaload, 1) := by decide +kernel
theorem dX0_roll_66 : decode cX0_roll 66 = .ok (.iconst 1, 1) := by decide +kernel
theorem dX0_roll_67 : decode cX0_roll 67 = .ok (.iadd, 1) := by decide +kernel
theorem dX0_roll_68 : decode cX0_roll 68 = .ok (.invokestatic 59, 3) := by decide +kernel
theorem dX0_roll_71 : decode cX0_roll 71 = .ok (.iastore, 1) := by decide +kernel
theorem dX0_roll_72 : decode cX0_roll 72 = .ok (.iload_n 3, 1) := by decide +kernel
theorem dX0_roll_73 : decode cX0_roll 73 = .ok (.ireturn, 1) := by decide +kernel
theorem dX0_roll_74 : decode cX0_roll 74 = .ok (.aload_n 0, 1) := by decide +kernel
theorem dX0_roll_75 : decode cX0_roll 75 = .ok (.getfield 15, 3) := by decide +kernel
theorem dX0_roll_78 : decode cX0_roll 78 = .ok (.iload_n 1, 1) := by decide +kernel
theorem dX0_roll_79 : decode cX0_roll 79 = .ok (.aload_n 0, 1) := by decide +kernel
theorem dX0_roll_80 : decode cX0_roll 80 = .ok (.getfield 27, 3) := by decide +kernel
theorem dX0_roll_83 : decode cX0_roll 83 = .ok (.iload_n 1, 1) := by decide +kernel
theorem dX0_roll_84 : decode cX0_roll 84 = .ok (.aload_n 0, 1) := by decide +kernel
theorem dX0_roll_85 : decode cX0_roll 85 = .ok (.getfield 15, 3) := by decide +kernel
theorem dX0_roll_88 : decode cX0_roll 88 = .ok (.iload_n 1, 1) := by decide +kernel
theorem dX0_roll_89 : decode cX0_roll 89 = .ok (.iaload, 1) := by decide +kernel
theorem dX0_roll_90 : decode cX0_roll 90 = .ok (.invokevirtual 64, 3) := by decide +kernel
theorem dX0_roll_93 : decode cX0_roll 93 = .ok (.iastore, 1) := by decide +kernel
theorem dX0_roll_94 : decode cX0_roll 94 = .ok (.iinc 2 1, 3) := by decide +kernel
theorem dX0_roll_97 : decode cX0_roll 97 = .ok (.goto (-95), 3) := by decide +kernel
theorem dX0_roll_100 : decode cX0_roll 100 = .ok (.aload_n 0, 1) := by decide +kernel
theorem dX0_roll_101 : decode cX0_roll 101 = .ok (.getfield 9, 3) := by decide +kernel
theorem dX0_roll_104 : decode cX0_roll 104 = .ok (.iload_n 1, 1) := by decide +kernel
theorem dX0_roll_105 : decode cX0_roll 105 = .ok (.bipush 8, 2) := by decide +kernel
theorem dX0_roll_107 : decode cX0_roll 107 = .ok (.iastore, 1) := by decide +kernel
theorem dX0_roll_108 : decode cX0_roll 108 = .ok (.bipush (-9), 2) := by decide +kernel
theorem dX0_roll_110 : decode cX0_roll 110 = .ok (.ireturn, 1) := by decide +kernel
def f_X0_roll_b74 (i : Nat) (a1 : Int32) (v2_2 : Int32) (M2 : xMem) (k2 : Int32 → xMem → Option (Int32 × xMem)) : Option (Int32 × xMem) := xchk (xb a1 6) (xb1 (f_X6_leaked a1 (M2 (i + 9) 3 a1.toNatClampNeg) M2) (fun r90 => xchk (xb a1 6) (xlet (xst M2 (i + 9) 3 a1 r90) (fun M93 => k2 (v2_2 + (1 : Int32)) M93))))
def f_X0_roll_l2 (i : Nat) (a1 : Int32) : Nat → Int32 → xMem → Option (Int32 × xMem)
  | 0, _, _ => none
  | n + 1, v2_2, M2 => (if (M2 3 0 0) ≤ v2_2 then xchk (xb a1 6) (xlet (xst M2 (i + 9) 2 a1 (8 : Int32)) (fun M107 => some ((-9 : Int32), M107))) else xchk (xb v2_2 5) (xchk (xb (M2 (i + 9) 5 v2_2.toNatClampNeg) 5) (xb1 (f_X0_highestMark i a1 (M2 (i + 9) 5 v2_2.toNatClampNeg) M2) (fun r29 => (if r29 < (M2 (i + 9) 4 (M2 (i + 9) 5 v2_2.toNatClampNeg).toNatClampNeg) then (f_X0_roll_b74 i a1 v2_2 M2 (f_X0_roll_l2 i a1 n)) else xb1 (f_X0_isFull i (M2 (i + 9) 5 v2_2.toNatClampNeg) M2) (fun r37 => (if r37 = (0 : Int32) then xchk (xb a1 6) (xlet (xst M2 (i + 9) 2 a1 ((M2 (i + 9) 5 v2_2.toNatClampNeg) + (1 : Int32))) (fun M51 => xchk (xb (M2 (i + 9) 5 v2_2.toNatClampNeg) 5) (xchk (xb (M2 (i + 9) 5 v2_2.toNatClampNeg) 5) (xlet (xst M51 (i + 9) 6 (M2 (i + 9) 5 v2_2.toNatClampNeg) (if ((M51 (i + 9) 6 (M2 (i + 9) 5 v2_2.toNatClampNeg).toNatClampNeg) + (1 : Int32)) < (999 : Int32) then ((M51 (i + 9) 6 (M2 (i + 9) 5 v2_2.toNatClampNeg).toNatClampNeg) + (1 : Int32)) else (999 : Int32))) (fun M71 => some ((M2 (i + 9) 5 v2_2.toNatClampNeg), M71)))))) else (f_X0_roll_b74 i a1 v2_2 M2 (f_X0_roll_l2 i a1 n)))))))))
def f_X0_roll (i : Nat) (a1 : Int32) (M : xMem) : Option (Int32 × xMem) := (f_X0_roll_l2 i a1 FU) (0 : Int32) M
set_option maxHeartbeats 4000000 in
set_option maxRecDepth 100000 in
theorem w_X0_roll_b74 {p : Program} {l : Launch} {e : Env} {s : State} {m : MethodId} {args : Array Value} {below : List Frame} {meth : Method} {c : Code} {G : xG} {rr : Int32} {MM : xMem} (E : xE p s m args meth c cX0_roll 4 (some .int) RX0 G) (i : Nat) (a1 : Int32) (M : xMem) (L : xLL) (v2_2 : Int32) (M2 : xMem) (hi : i < 21) (k2 : Int32 → xMem → Option (Int32 × xMem)) (hk2 : ∀ (v2_2 : Int32) (M2 : xMem), k2 v2_2 M2 = some (rr, MM) → ∀ (ls : Array Slot), lv_has ls 4 [(0, .ref (xq G (i + 9) 0)), (1, .int a1), (2, .int v2_2)] → ∀ (H : Heap) (locs : List Loc), xI G M2 L s.heap H locs → W p l e (xR 3) s m args below meth c H locs 0 0 (MQ below (xQi G rr MM L s.heap.size) args s 0 0 (xZ G s.heap.size)) (F0 m 2 ls [])) : f_X0_roll_b74 i a1 v2_2 M2 k2  = some (rr, MM) → ∀ (ls : Array Slot), lv_has ls 4 [(0, .ref (xq G (i + 9) 0)), (1, .int a1), (2, .int v2_2)] → ∀ (H : Heap) (locs : List Loc), xI G M2 L s.heap H locs → W p l e (xR 3) s m args below meth c H locs 0 0 (MQ below (xQi G rr MM L s.heap.size) args s 0 0 (xZ G s.heap.size)) (F0 m 74 ls []) := by
  have hx := E.1
  have hb := E.2.1
  intro  hf ls hl H locs hI
  rw [f_X0_roll_b74] at hf
  refine lv_aload_n hx hb dX0_roll_74 rfl (lv_at hl 0 rfl) ?_
  refine gf_X0_15 E hI hi dX0_roll_75 ?_
  refine lv_iload_n hx hb dX0_roll_78 rfl (lv_at hl 1 rfl) ?_
  refine lv_aload_n hx hb dX0_roll_79 rfl (lv_at hl 0 rfl) ?_
  refine gf_X0_27 E hI hi dX0_roll_80 ?_
  refine lv_iload_n hx hb dX0_roll_83 rfl (lv_at hl 1 rfl) ?_
  refine lv_aload_n hx hb dX0_roll_84 rfl (lv_at hl 0 rfl) ?_
  refine gf_X0_15 E hI hi dX0_roll_85 ?_
  refine lv_iload_n hx hb dX0_roll_88 rfl (lv_at hl 1 rfl) ?_
  obtain ⟨h89b, hf⟩ := xchk_s hf
  refine x_iald (n := 6) E hI (mf_3 hi) (fun _ _ => rfl) h89b dX0_roll_89 ?_
  obtain ⟨r90, g90, hf⟩ := xb1_s hf
  refine x_callVi (As := [.int a1, .int (M2 (i + 9) 3 a1.toNatClampNeg)]) (rest := [.int a1, .ref (xq G (i + 9) 3)]) E hI mx_3_0 rfl rfl rfl (c_X6_leaked l G _ (M := M2) (L := L) (a1 := a1) (a2 := (M2 (i + 9) 3 a1.toNatClampNeg)) g90) yv_X6_leaked ml_X0_64 (by decide) (by decide) rfl rfl hl.1 (Nat.le_of_ble_eq_true rfl) dX0_roll_90 (fun H locs hI => ?_)
  obtain ⟨h93b, hf⟩ := xchk_s hf
  obtain ⟨M93, e93, hf⟩ := xlet_s hf
  refine x_iast (n := 6) E hI (mf_3 hi) (fun _ _ => rfl) h93b dX0_roll_93 e93 (fun H locs hI => ?_)
  refine lv_iinc (v := (v2_2 + (1 : Int32))) (lv' := [(2, .int (v2_2 + (1 : Int32))), (0, .ref (xq G (i + 9) 0)), (1, .int a1)]) hx hb dX0_roll_94 hl (k := 2) rfl rfl (by decide) rfl (fun ls hl => ?_)
  refine lv_goto (tgt := 2) hx hb dX0_roll_97 (by decide) ?_
  exact hk2 (v2_2 + (1 : Int32)) M93 hf _ (lv_sub hl [1, 2, 0] rfl) _ _ hI
set_option maxHeartbeats 4000000 in
set_option maxRecDepth 100000 in
theorem w_X0_roll_l2 {p : Program} {l : Launch} {e : Env} {s : State} {m : MethodId} {args : Array Value} {below : List Frame} {meth : Method} {c : Code} {G : xG} {rr : Int32} {MM : xMem} (E : xE p s m args meth c cX0_roll 4 (some .int) RX0 G) (i : Nat) (a1 : Int32) (M : xMem) (L : xLL) (hi : i < 21) : ∀ (n : Nat), ∀ (v2_2 : Int32) (M2 : xMem), f_X0_roll_l2 i a1 n v2_2 M2 = some (rr, MM) → ∀ (ls : Array Slot), lv_has ls 4 [(0, .ref (xq G (i + 9) 0)), (1, .int a1), (2, .int v2_2)] → ∀ (H : Heap) (locs : List Loc), xI G M2 L s.heap H locs → W p l e (xR 3) s m args below meth c H locs 0 0 (MQ below (xQi G rr MM L s.heap.size) args s 0 0 (xZ G s.heap.size)) (F0 m 2 ls []) := by
  have hx := E.1
  have hb := E.2.1
  intro n
  induction n with
  | zero =>
    intro v2_2 M2 hf
    exact absurd hf (by simp [f_X0_roll_l2])
  | succ n ih =>
    intro v2_2 M2 hf ls hl H locs hI
    rw [f_X0_roll_l2] at hf
    refine lv_iload_n hx hb dX0_roll_2 rfl (lv_at hl 2 rfl) ?_
    refine lv_aload_n hx hb dX0_roll_3 rfl (lv_at hl 0 rfl) ?_
    refine gf_X0_27 E hI hi dX0_roll_4 ?_
    refine gf_X0_47_3 E hI dX0_roll_7 ?_
    refine lv_icmp_ge (tgt := 100) hx hb dX0_roll_10 (by decide) (fun c10 => ?_) (fun c10 => ?_)
    · replace hf := xif_t c10 hf
      refine lv_aload_n hx hb dX0_roll_100 rfl (lv_at hl 0 rfl) ?_
      refine gf_X0_9 E hI hi dX0_roll_101 ?_
      refine lv_iload_n hx hb dX0_roll_104 rfl (lv_at hl 1 rfl) ?_
      refine lv_bipush (v := 8) hx hb dX0_roll_105 (by decide) ?_
      obtain ⟨h107b, hf⟩ := xchk_s hf
      obtain ⟨M107, e107, hf⟩ := xlet_s hf
      refine x_iast (n := 6) E hI (mf_2 hi) (fun _ _ => rfl) h107b dX0_roll_107 e107 (fun H locs hI => ?_)
      refine lv_bipush (v := -9) hx hb dX0_roll_108 (by decide) ?_
      obtain ⟨rfl, rfl⟩ := xinj2 hf
      exact x_iret E hI rfl dX0_roll_110
    · replace hf := xif_f c10 hf
      refine lv_aload_n hx hb dX0_roll_13 rfl (lv_at hl 0 rfl) ?_
      refine gf_X0_21 E hI hi dX0_roll_14 ?_
      refine lv_iload_n hx hb dX0_roll_17 rfl (lv_at hl 2 rfl) ?_
      obtain ⟨h18b, hf⟩ := xchk_s hf
      refine x_iald (n := 5) E hI (mf_5 hi) (fun _ _ => rfl) h18b dX0_roll_18 ?_
      refine lv_istore_n (lv' := [(3, .int (M2 (i + 9) 5 v2_2.toNatClampNeg)), (0, .ref (xq G (i + 9) 0)), (1, .int a1), (2, .int v2_2)]) hx hb dX0_roll_19 rfl hl (by decide) rfl (fun ls hl => ?_)
      refine lv_aload_n hx hb dX0_roll_20 rfl (lv_at hl 1 rfl) ?_
      refine gf_X0_18 E hI hi dX0_roll_21 ?_
      refine lv_iload_n hx hb dX0_roll_24 rfl (lv_at hl 0 rfl) ?_
      obtain ⟨h25b, hf⟩ := xchk_s hf
      refine x_iald (n := 5) E hI (mf_4 hi) (fun _ _ => rfl) h25b dX0_roll_25 ?_
      refine lv_aload_n hx hb dX0_roll_26 rfl (lv_at hl 1 rfl) ?_
      refine lv_iload_n hx hb dX0_roll_27 rfl (lv_at hl 2 rfl) ?_
      refine lv_iload_n hx hb dX0_roll_28 rfl (lv_at hl 0 rfl) ?_
      obtain ⟨r29, g29, hf⟩ := xb1_s hf
      refine x_callVi (As := [.int a1, .int (M2 (i + 9) 5 v2_2.toNatClampNeg)]) (rest := [.int (M2 (i + 9) 4 (M2 (i + 9) 5 v2_2.toNatClampNeg).toNatClampNeg)]) E hI (mf_0 hi) rfl rfl rfl (c_X0_highestMark l G _ (M := M2) (L := L) (i := i) (hi := hi) (a1 := a1) (a2 := (M2 (i + 9) 5 v2_2.toNatClampNeg)) g29) yv_X0_highestMark ml_X0_51 (by decide) (by decide) rfl rfl hl.1 (Nat.le_of_ble_eq_true rfl) dX0_roll_29 (fun H locs hI => ?_)
      refine lv_icmp_gt (tgt := 74) hx hb dX0_roll_32 (by decide) (fun c32 => ?_) (fun c32 => ?_)
      · replace hf := xif_t c32 hf
        exact (w_X0_roll_b74 E (i := i) (a1 := a1) (M := M) (L := L) (v2_2 := v2_2) (M2 := M2) (hi := hi) (k2 := (f_X0_roll_l2 i a1 n)) (hk2 := ih))  hf _ (lv_sub hl [1, 2, 3] rfl) _ _ hI
      · replace hf := xif_f c32 hf
        refine lv_aload_n hx hb dX0_roll_35 rfl (lv_at hl 1 rfl) ?_
        refine lv_iload_n hx hb dX0_roll_36 rfl (lv_at hl 0 rfl) ?_
        obtain ⟨r37, g37, hf⟩ := xb1_s hf
        refine x_callVi (As := [.int (M2 (i + 9) 5 v2_2.toNatClampNeg)]) (rest := []) E hI (mf_0 hi) rfl rfl rfl (c_X0_isFull l G _ (M := M2) (L := L) (i := i) (hi := hi) (a1 := (M2 (i + 9) 5 v2_2.toNatClampNeg)) g37) yv_X0_isFull ml_X0_55 (by decide) (by decide) rfl rfl hl.1 (Nat.le_of_ble_eq_true rfl) dX0_roll_37 (fun H locs hI => ?_)
        refine lv_if_ne (tgt := 74) hx hb dX0_roll_40 (by decide) (fun c40 => ?_) (fun c40 => ?_)
        · replace hf := xif_f c40 hf
          exact (w_X0_roll_b74 E (i := i) (a1 := a1) (M := M) (L := L) (v2_2 := v2_2) (M2 := M2) (hi := hi) (k2 := (f_X0_roll_l2 i a1 n)) (hk2 := ih))  hf _ (lv_sub hl [1, 2, 3] rfl) _ _ hI
        · replace hf := xif_t c40 hf
          refine lv_aload_n hx hb dX0_roll_43 rfl (lv_at hl 1 rfl) ?_
          refine gf_X0_9 E hI hi dX0_roll_44 ?_
          refine lv_iload_n hx hb dX0_roll_47 rfl (lv_at hl 2 rfl) ?_
          refine lv_iload_n hx hb dX0_roll_48 rfl (lv_at hl 0 rfl) ?_
          refine lv_iconst (v := 1) hx hb dX0_roll_49 (by decide) ?_
          refine lv_iadd hx hb dX0_roll_50 ?_
          obtain ⟨h51b, hf⟩ := xchk_s hf
          obtain ⟨M51, e51, hf⟩ := xlet_s hf
          refine x_iast (n := 6) E hI (mf_2 hi) (fun _ _ => rfl) h51b dX0_roll_51 e51 (fun H locs hI => ?_)
          refine lv_aload_n hx hb dX0_roll_52 rfl (lv_at hl 1 rfl) ?_
          refine gf_X0_24 E hI hi dX0_roll_53 ?_
          refine lv_iload_n hx hb dX0_roll_56 rfl (lv_at hl 0 rfl) ?_
          refine lv_sipush (v := 999) hx hb dX0_roll_57 (by decide) ?_
          refine lv_aload_n hx hb dX0_roll_60 rfl (lv_at hl 1 rfl) ?_
          refine gf_X0_24 E hI hi dX0_roll_61 ?_
          refine lv_iload_n hx hb dX0_roll_64 rfl (lv_at hl 0 rfl) ?_
          obtain ⟨h65b, hf⟩ := xchk_s hf
          refine x_iald (n := 5) E hI (mf_6 hi) (fun _ _ => rfl) h65b dX0_roll_65 ?_
          refine lv_iconst (v := 1) hx hb dX0_roll_66 (by decide) ?_
          refine lv_iadd hx hb dX0_roll_67 ?_
          refine x_min E ml_X0_59 ms_min mi_math mc_min (by decide) hl.1 (Nat.le_of_ble_eq_true rfl) dX0_roll_68 ?_
          obtain ⟨h71b, hf⟩ := xchk_s hf
          obtain ⟨M71, e71, hf⟩ := xlet_s hf
          refine x_iast (n := 5) E hI (mf_6 hi) (fun _ _ => rfl) h71b dX0_roll_71 e71 (fun H locs hI => ?_)
          refine lv_iload_n hx hb dX0_roll_72 rfl (lv_at hl 0 rfl) ?_
          obtain ⟨rfl, rfl⟩ := xinj2 hf
          exact x_iret E hI rfl dX0_roll_73
set_option maxHeartbeats 4000000 in
set_option maxRecDepth 100000 in
theorem c_X0_roll (l : Launch) (G : xG) (sz : Nat) (M : xMem) (L : xLL) (i : Nat) (a1 : Int32) (hi : i < 21) {rr : Int32} {MM : xMem} (hf : f_X0_roll i a1 M = some (rr, MM)) : Met l yX0_roll (Cond.code yX0_roll cX0_roll 4 (some .int) :: xTB) (xR 3) (xP G M L sz [.ref (xq G (i + 9) 0), .int a1]) (xQi G rr MM L sz) 0 0 (xZ G sz) := by
  refine x_met (cc := cX0_roll) (nL := 4) (rt := (some .int)) (by decide) (Nat.le_of_ble_eq_true rfl) ?_
  intro p e s m below meth c ls hsz E hl hI
  subst hsz
  have E : xE p s m _ meth c cX0_roll 4 (some .int) RX0 G := E
  have hx := E.1
  have hb := E.2.1
  have hl : lv_has ls 4 [(0, .ref (xq G (i + 9) 0)), (1, .int a1)] := hl
  rw [f_X0_roll] at hf
  refine lv_iconst (v := 0) hx hb dX0_roll_0 (by decide) ?_
  refine lv_istore_n (lv' := [(2, .int (0 : Int32)), (0, .ref (xq G (i + 9) 0)), (1, .int a1)]) hx hb dX0_roll_1 rfl hl (by decide) rfl (fun ls hl => ?_)
  exact (w_X0_roll_l2 E (i := i) (a1 := a1) (M := M) (L := L) (hi := hi) FU) (0 : Int32) M hf _ (lv_sub hl [1, 2, 0] rfl) _ _ hI
theorem dX0_leastChange_0 : decode cX0_leastChange 0 = .ok (.aload_n 0, 1) := by decide +kernel
theorem dX0_leastChange_1 : decode cX0_leastChange 1 = .ok (.getfield 15, 3) := by decide +kernel
theorem dX0_leastChange_4 : decode cX0_leastChange 4 = .ok (.iload_n 1, 1) := by decide +kernel
theorem dX0_leastChange_5 : decode cX0_leastChange 5 = .ok (.iaload, 1) := by decide +kernel
theorem dX0_leastChange_6 : decode cX0_leastChange 6 = .ok (.istore_n 3, 1) := by decide +kernel
theorem dX0_leastChange_7 : decode cX0_leastChange 7 = .ok (.iconst 0, 1) := by decide +kernel
theorem dX0_leastChange_8 : decode cX0_leastChange 8 = .ok (.istore 4, 2) := by decide +kernel
theorem dX0_leastChange_10 : decode cX0_leastChange 10 = .ok (.iconst 0, 1) := by decide +kernel
theorem dX0_leastChange_11 : decode cX0_leastChange 11 = .ok (.istore 5, 2) := by decide +kernel
theorem dX0_leastChange_13 : decode cX0_leastChange 13 = .ok (.iload 5, 2) := by decide +kernel
theorem dX0_leastChange_15 : decode cX0_leastChange 15 = .ok (.aload_n 0, 1) := by decide +kernel
theorem dX0_leastChange_16 : decode cX0_leastChange 16 = .ok (.getfield 27, 3) := by decide +kernel
theorem dX0_leastChange_19 : decode cX0_leastChange 19 = .ok (.getfield 47, 3) := by decide +kernel
theorem dX0_leastChange_22 : decode cX0_leastChange 22 = .ok (.if_icmp .ge 139, 3) := by decide +kernel
theorem dX0_leastChange_25 : decode cX0_leastChange 25 = .ok (.aload_n 0, 1) := by decide +kernel
theorem dX0_leastChange_26 : decode cX0_leastChange 26 = .ok (.getfield 21, 3) := by decide +kernel
theorem dX0_leastChange_29 : decode cX0_leastChange 29 = .ok (.iload 5, 2) := by decide +kernel
theorem dX0_leastChange_31 : decode cX0_leastChange 31 = .ok (.iaload, 1) := by decide +kernel
theorem dX0_leastChange_32 : decode cX0_leastChange 32 = .ok (.istore 6, 2) := by decide +kernel
theorem dX0_leastChange_34 : decode cX0_leastChange 34 = .ok (.aload_n 0, 1) := by decide +kernel
theorem dX0_leastChange_35 : decode cX0_leastChange 35 = .ok (.getfield 27, 3) := by decide +kernel
theorem dX0_leastChange_38 : decode cX0_leastChange 38 = .ok (.iload_n 1, 1) := by decide +kernel
theorem dX0_leastChange_39 : decode cX0_leastChange 39 = .ok (.iload_n 3, 1) := by decide +kernel
theorem dX0_leastChange_40 : decode cX0_leastChange 40 = .ok (.invokevirtual 67, 3) := by decide +kernel
theorem dX0_leastChange_43 : decode cX0_leastChange 43 = .ok (.aload_n 0, 1) := by decide +kernel
theorem dX0_leastChange_44 : decode cX0_leastChange 44 = .ok (.iload 6, 2) := by decide +kernel
theorem dX0_leastChange_46 : decode cX0_leastChange 46 = .ok (.invokevirtual 70, 3) := by decide +kernel
theorem dX0_leastChange_49 : decode cX0_leastChange 49 = .ok (.isub, 1) := by decide +kernel
theorem dX0_leastChange_50 : decode cX0_leastChange 50 = .ok (.istore 7, 2) := by decide +kernel
theorem dX0_leastChange_52 : decode cX0_leastChange 52 = .ok (.aload_n 0, 1) := by decide +kernel
theorem dX0_leastChange_53 : decode cX0_leastChange 53 = .ok (.iload 6, 2) := by decide +kernel
theorem dX0_leastChange_55 : decode cX0_leastChange 55 = .ok (.invokevirtual 55, 3) := by decide +kernel
theorem dX0_leastChange_58 : decode cX0_leastChange 58 = .ok (.istore 8, 2) := by decide +kernel
theorem dX0_leastChange_60 : decode cX0_leastChange 60 = .ok (.iload 6, 2) := by decide +kernel
theorem dX0_leastChange_62 : decode cX0_leastChange 62 = .ok (.iload_n 2, 1) := by decide +kernel
theorem dX0_leastChange_63 : decode cX0_leastChange 63 = .ok (.if_icmp .ne 37, 3) := by decide +kernel
theorem dX0_leastChange_66 : decode cX0_leastChange 66 = .ok (.iload 8, 2) := by decide +kernel
theorem dX0_leastChange_68 : decode cX0_leastChange 68 = .ok (.ifCond .ne 9, 3) := by decide +kernel
theorem dX0_leastChange_71 : decode cX0_leastChange 71 = .ok (.iload 7, 2) := by decide +kernel
theorem dX0_leastChange_73 : decode cX0_leastChange 73 = .ok (.iconst 1, 1) := by decide +kernel
theorem dX0_leastChange_74 : decode cX0_leastChange 74 = .ok (.if_icmp .ge 8, 3) := by decide +kernel
theorem dX0_leastChange_77 : decode cX0_leastChange 77 = .ok (.bipush (-9), 2) := by decide +kernel
theorem dX0_leastChange_79 : decode cX0_leastChange 79 = .ok (.goto 20, 3) := by decide +kernel
theorem dX0_leastChange_82 : decode cX0_leastChange 82 = .ok (.iload 4, 2) := by decide +kernel
theorem dX0_leastChange_84 : decode cX0_leastChange 84 = .ok (.iconst 0, 1) := by decide +kernel
theorem dX0_leastChange_85 : decode cX0_leastChange 85 = .ok (.aload_n 0, 1) := by decide +kernel
theorem dX0_leastChange_86 : decode cX0_leastChange 86 = .ok (.getfield 18, 3) := by decide +kernel
theorem dX0_leastChange_89 : decode cX0_leastChange 89 = .ok (.iload 6, 2) := by decide +kernel
theorem dX0_leastChange_91 : decode cX0_leastChange 91 = .ok (.iaload, 1) := by decide +kernel
theorem dX0_leastChange_92 : decode cX0_leastChange 92 = .ok (.iload 7, 2) := by decide +kernel
theorem dX0_leastChange_94 : decode cX0_leastChange 94 = .ok (.isub, 1) := by decide +kernel
theorem dX0_leastChange_95 : decode cX0_leastChange 95 = .ok (.invokestatic 88, 3) := by decide +kernel
theorem dX0_leastChange_98 : decode cX0_leastChange 98 = .ok (.iadd, 1) := by decide +kernel
theorem dX0_leastChange_99 : decode cX0_leastChange 99 = .ok (.ireturn, 1) := by decide +kernel
theorem dX0_leastChange_100 : decode cX0_leastChange 100 = .ok (.iload 8, 2) := by decide +kernel
theorem dX0_leastChange_102 : decode cX0_leastChange 102 = .ok (.ifCond .ne 13, 3) := by decide +kernel
theorem dX0_leastChange_105 : decode cX0_leastChange 105 = .ok (.iload 7, 2) := by decide +kernel
theorem dX0_leastChange_107 : decode cX0_leastChange 107 = .ok (.bipush 99, 2) := by decide +kernel
theorem dX0_leastChange_109 : decode cX0_leastChange 109 = .ok (.if_icmp .lt 6, 3) := by decide +kernel
theorem dX0_leastChange_112 : decode cX0_leastChange 112 = .ok (.bipush (-9), 2) := by decide +kernel
theorem dX0_leastChange_114 : decode cX0_leastChange 114 = .ok (.ireturn, 1) := by decide +kernel
theorem dX0_leastChange_115 : decode cX0_leastChange 115 = .ok (.iload 4, 2) := by decide +kernel
theorem dX0_leastChange_117 : decode cX0_leastChange 117 = .ok (.iload 8, 2) := by decide +kernel
theorem dX0_leastChange_119 : decode cX0_leastChange 119 = .ok (.ifCond .eq 7, 3) := by decide +kernel
theorem dX0_leastChange_122 : decode cX0_leastChange 122 = .ok (.iconst 0, 1) := by decide +kernel
theorem dX0_leastChange_123 : decode cX0_leastChange 123 = .ok (.goto 19, 3) := by decide +kernel
theorem dX0_leastChange_126 : decode cX0_leastChange 126 = .ok (.iconst 0, 1) := by decide +kernel
theorem dX0_leastChange_127 : decode cX0_leastChange 127 = .ok (.iload 7, 2) := by decide +kernel
theorem dX0_leastChange_129 : decode cX0_leastChange 129 = .ok (.iconst 1, 1) := by decide +kernel
theorem dX0_leastChange_130 : decode cX0_leastChange 130 = .ok (.iadd, 1) := by decide +kernel
theorem dX0_leastChange_131 : decode cX0_leastChange 131 = .ok (.aload_n 0, 1) := by decide +kernel
theorem dX0_leastChange_132 : decode cX0_leastChange 132 = .ok (.getfield 18, 3) := by decide +kernel
theorem dX0_leastChange_135 : decode cX0_leastChange 135 = .ok (.iload 6, 2) := by decide +kernel
theorem dX0_leastChange_137 : decode cX0_leastChange 137 = .ok (.iaload, 1) := by decide +kernel
theorem dX0_leastChange_138 : decode cX0_leastChange 138 = .ok (.isub, 1) := by decide +kernel
theorem dX0_leastChange_139 : decode cX0_leastChange 139 = .ok (.invokestatic 88, 3) := by decide +kernel
theorem dX0_leastChange_142 : decode cX0_leastChange 142 = .ok (.iadd, 1) := by decide +kernel
theorem dX0_leastChange_143 : decode cX0_leastChange 143 = .ok (.istore 4, 2) := by decide +kernel
theorem dX0_leastChange_145 : decode cX0_leastChange 145 = .ok (.aload_n 0, 1) := by decide +kernel
theorem dX0_leastChange_146 : decode cX0_leastChange 146 = .ok (.getfield 27, 3) := by decide +kernel
theorem dX0_leastChange_149 : decode cX0_leastChange 149 = .ok (.iload_n 1, 1) := by decide +kernel
theorem dX0_leastChange_150 : decode cX0_leastChange 150 = .ok (.iload_n 3, 1) := by decide +kernel
theorem dX0_leastChange_151 : decode cX0_leastChange 151 = .ok (.invokevirtual 64, 3) := by decide +kernel
theorem dX0_leastChange_154 : decode cX0_leastChange 154 = .ok (.istore_n 3, 1) := by decide +kernel
theorem dX0_leastChange_155 : decode cX0_leastChange 155 = .ok (.iinc 5 1, 3) := by decide +kernel
theorem dX0_leastChange_158 : decode cX0_leastChange 158 = .ok (.goto (-145), 3) := by decide +kernel
theorem dX0_leastChange_161 : decode cX0_leastChange 161 = .ok (.bipush (-9), 2) := by decide +kernel
theorem dX0_leastChange_163 : decode cX0_leastChange 163 = .ok (.ireturn, 1) := by decide +kernel
def f_X0_leastChange_b142 (a1 : Int32) (M : xMem) (v13_3 : Int32) (v13_4 : Int32) (v13_5 : Int32) (k13 : Int32 → Int32 → Int32 → Option (Int32)) (t142_0 : Int32) : Option (Int32) := xb1 (f_X6_leaked a1 v13_3 M) (fun r151 => k13 r151 (v13_4 + t142_0) (v13_5 + (1 : Int32)))
def f_X0_leastChange_b115 (i : Nat) (a1 : Int32) (M : xMem) (v13_3 : Int32) (v13_4 : Int32) (v13_5 : Int32) (r40 : Int32) (r46 : Int32) (r55 : Int32) (k13 : Int32 → Int32 → Int32 → Option (Int32)) : Option (Int32) := (if r55 = (0 : Int32) then xchk (xb (M (i + 9) 5 v13_5.toNatClampNeg) 5) ((f_X0_leastChange_b142 a1 M v13_3 v13_4 v13_5 k13) (if (0 : Int32) < (((r40 - r46) + (1 : Int32)) - (M (i + 9) 4 (M (i + 9) 5 v13_5.toNatClampNeg).toNatClampNeg)) then (((r40 - r46) + (1 : Int32)) - (M (i + 9) 4 (M (i + 9) 5 v13_5.toNatClampNeg).toNatClampNeg)) else (0 : Int32))) else (f_X0_leastChange_b142 a1 M v13_3 v13_4 v13_5 k13) (0 : Int32))
def f_X0_leastChange_b99 (t99_0 : Int32) : Option (Int32) := some t99_0
def f_X0_leastChange_b77 (k99 : Int32 → Option (Int32)) : Option (Int32) := k99 (-9 : Int32)
def f_X0_leastChange_l13 (i : Nat) (a1 : Int32) (a2 : Int32) (M : xMem) : Nat → Int32 → Int32 → Int32 → Option (Int32)
  | 0, _, _, _ => none
  | n + 1, v13_3, v13_4, v13_5 => (if (M 3 0 0) ≤ v13_5 then some (-9 : Int32) else xchk (xb v13_5 5) (xb1 (f_X6_seems a1 v13_3 M) (fun r40 => xb1 (f_X0_stiffness i (M (i + 9) 5 v13_5.toNatClampNeg) M) (fun r46 => xb1 (f_X0_isFull i (M (i + 9) 5 v13_5.toNatClampNeg) M) (fun r55 => (if (M (i + 9) 5 v13_5.toNatClampNeg) = a2 then (if r55 = (0 : Int32) then (if (1 : Int32) ≤ (r40 - r46) then xchk (xb (M (i + 9) 5 v13_5.toNatClampNeg) 5) ((f_X0_leastChange_b99) (v13_4 + (if (0 : Int32) < ((M (i + 9) 4 (M (i + 9) 5 v13_5.toNatClampNeg).toNatClampNeg) - (r40 - r46)) then ((M (i + 9) 4 (M (i + 9) 5 v13_5.toNatClampNeg).toNatClampNeg) - (r40 - r46)) else (0 : Int32)))) else (f_X0_leastChange_b77 (f_X0_leastChange_b99))) else (f_X0_leastChange_b77 (f_X0_leastChange_b99))) else (if r55 = (0 : Int32) then (if (r40 - r46) < (99 : Int32) then (f_X0_leastChange_b115 i a1 M v13_3 v13_4 v13_5 r40 r46 r55 (f_X0_leastChange_l13 i a1 a2 M n)) else some (-9 : Int32)) else (f_X0_leastChange_b115 i a1 M v13_3 v13_4 v13_5 r40 r46 r55 (f_X0_leastChange_l13 i a1 a2 M n)))))))))
def f_X0_leastChange (i : Nat) (a1 : Int32) (a2 : Int32) (M : xMem) : Option (Int32) := xchk (xb a1 6) ((f_X0_leastChange_l13 i a1 a2 M FU) (M (i + 9) 3 a1.toNatClampNeg) (0 : Int32) (0 : Int32))
set_option maxHeartbeats 4000000 in
set_option maxRecDepth 100000 in
theorem w_X0_leastChange_b142 {p : Program} {l : Launch} {e : Env} {s : State} {m : MethodId} {args : Array Value} {below : List Frame} {meth : Method} {c : Code} {G : xG} {rr : Int32} (E : xE p s m args meth c cX0_leastChange 9 (some .int) RX0 G) (i : Nat) (a1 : Int32) (a2 : Int32) (M : xMem) (L : xLL) (v13_3 : Int32) (v13_4 : Int32) (v13_5 : Int32) (hi : i < 21) (k13 : Int32 → Int32 → Int32 → Option (Int32)) (hk13 : ∀ (v13_3 : Int32) (v13_4 : Int32) (v13_5 : Int32), k13 v13_3 v13_4 v13_5 = some rr → ∀ (ls : Array Slot), lv_has ls 9 [(0, .ref (xq G (i + 9) 0)), (1, .int a1), (2, .int a2), (3, .int v13_3), (4, .int v13_4), (5, .int v13_5)] → ∀ (H : Heap) (locs : List Loc), xI G M L s.heap H locs → W p l e (xR 3) s m args below meth c H locs 0 0 (MQ below (xQi G rr M L s.heap.size) args s 0 0 (xZ G s.heap.size)) (F0 m 13 ls [])) : ∀ (t142_0 : Int32), f_X0_leastChange_b142 a1 M v13_3 v13_4 v13_5 k13 t142_0 = some rr → ∀ (ls : Array Slot), lv_has ls 9 [(0, .ref (xq G (i + 9) 0)), (1, .int a1), (2, .int a2), (3, .int v13_3), (5, .int v13_5)] → ∀ (H : Heap) (locs : List Loc), xI G M L s.heap H locs → W p l e (xR 3) s m args below meth c H locs 0 0 (MQ below (xQi G rr M L s.heap.size) args s 0 0 (xZ G s.heap.size)) (F0 m 142 ls [.int t142_0, .int v13_4]) := by
  have hx := E.1
  have hb := E.2.1
  intro t142_0 hf ls hl H locs hI
  rw [f_X0_leastChange_b142] at hf
  refine lv_iadd hx hb dX0_leastChange_142 ?_
  refine lv_istore (lv' := [(4, .int (v13_4 + t142_0)), (0, .ref (xq G (i + 9) 0)), (1, .int a1), (2, .int a2), (3, .int v13_3), (5, .int v13_5)]) hx hb dX0_leastChange_143 hl (by decide) rfl (fun ls hl => ?_)
  refine lv_aload_n hx hb dX0_leastChange_145 rfl (lv_at hl 1 rfl) ?_
  refine gf_X0_27 E hI hi dX0_leastChange_146 ?_
  refine lv_iload_n hx hb dX0_leastChange_149 rfl (lv_at hl 2 rfl) ?_
  refine lv_iload_n hx hb dX0_leastChange_150 rfl (lv_at hl 4 rfl) ?_
  obtain ⟨r151, g151, hf⟩ := xb1_s hf
  refine x_callVi (As := [.int a1, .int v13_3]) (rest := []) E hI mx_3_0 rfl rfl rfl (c_X6_leaked l G _ (M := M) (L := L) (a1 := a1) (a2 := v13_3) g151) yv_X6_leaked ml_X0_64 (by decide) (by decide) rfl rfl hl.1 (Nat.le_of_ble_eq_true rfl) dX0_leastChange_151 (fun H locs hI => ?_)
  refine lv_istore_n (lv' := [(3, .int r151), (4, .int (v13_4 + t142_0)), (0, .ref (xq G (i + 9) 0)), (1, .int a1), (2, .int a2), (5, .int v13_5)]) hx hb dX0_leastChange_154 rfl hl (by decide) rfl (fun ls hl => ?_)
  refine lv_iinc (v := (v13_5 + (1 : Int32))) (lv' := [(5, .int (v13_5 + (1 : Int32))), (3, .int r151), (4, .int (v13_4 + t142_0)), (0, .ref (xq G (i + 9) 0)), (1, .int a1), (2, .int a2)]) hx hb dX0_leastChange_155 hl (k := 5) rfl rfl (by decide) rfl (fun ls hl => ?_)
  refine lv_goto (tgt := 13) hx hb dX0_leastChange_158 (by decide) ?_
  exact hk13 r151 (v13_4 + t142_0) (v13_5 + (1 : Int32)) hf _ (lv_sub hl [3, 4, 5, 1, 2, 0] rfl) _ _ hI
set_option maxHeartbeats 4000000 in
set_option maxRecDepth 100000 in
theorem w_X0_leastChange_b115 {p : Program} {l : Launch} {e : Env} {s : State} {m : MethodId} {args : Array Value} {below : List Frame} {meth : Method} {c : Code} {G : xG} {rr : Int32} (E : xE p s m args meth c cX0_leastChange 9 (some .int) RX0 G) (i : Nat) (a1 : Int32) (a2 : Int32) (M : xMem) (L : xLL) (v13_3 : Int32) (v13_4 : Int32) (v13_5 : Int32) (r40 : Int32) (r46 : Int32) (r55 : Int32) (hi : i < 21) (k13 : Int32 → Int32 → Int32 → Option (Int32)) (hk13 : ∀ (v13_3 : Int32) (v13_4 : Int32) (v13_5 : Int32), k13 v13_3 v13_4 v13_5 = some rr → ∀ (ls : Array Slot), lv_has ls 9 [(0, .ref (xq G (i + 9) 0)), (1, .int a1), (2, .int a2), (3, .int v13_3), (4, .int v13_4), (5, .int v13_5)] → ∀ (H : Heap) (locs : List Loc), xI G M L s.heap H locs → W p l e (xR 3) s m args below meth c H locs 0 0 (MQ below (xQi G rr M L s.heap.size) args s 0 0 (xZ G s.heap.size)) (F0 m 13 ls [])) : f_X0_leastChange_b115 i a1 M v13_3 v13_4 v13_5 r40 r46 r55 k13  = some rr → ∀ (ls : Array Slot), lv_has ls 9 [(0, .ref (xq G (i + 9) 0)), (1, .int a1), (2, .int a2), (3, .int v13_3), (4, .int v13_4), (5, .int v13_5), (6, .int (M (i + 9) 5 v13_5.toNatClampNeg)), (7, .int (r40 - r46)), (8, .int r55)] → ∀ (H : Heap) (locs : List Loc), xI G M L s.heap H locs → W p l e (xR 3) s m args below meth c H locs 0 0 (MQ below (xQi G rr M L s.heap.size) args s 0 0 (xZ G s.heap.size)) (F0 m 115 ls []) := by
  have hx := E.1
  have hb := E.2.1
  intro  hf ls hl H locs hI
  rw [f_X0_leastChange_b115] at hf
  refine lv_iload hx hb dX0_leastChange_115 (lv_at hl 4 rfl) ?_
  refine lv_iload hx hb dX0_leastChange_117 (lv_at hl 8 rfl) ?_
  refine lv_if_eq (tgt := 126) hx hb dX0_leastChange_119 (by decide) (fun c119 => ?_) (fun c119 => ?_)
  · replace hf := xif_t c119 hf
    refine lv_iconst (v := 0) hx hb dX0_leastChange_126 (by decide) ?_
    refine lv_iload hx hb dX0_leastChange_127 (lv_at hl 7 rfl) ?_
    refine lv_iconst (v := 1) hx hb dX0_leastChange_129 (by decide) ?_
    refine lv_iadd hx hb dX0_leastChange_130 ?_
    refine lv_aload_n hx hb dX0_leastChange_131 rfl (lv_at hl 0 rfl) ?_
    refine gf_X0_18 E hI hi dX0_leastChange_132 ?_
    refine lv_iload hx hb dX0_leastChange_135 (lv_at hl 6 rfl) ?_
    obtain ⟨h137b, hf⟩ := xchk_s hf
    refine x_iald (n := 5) E hI (mf_4 hi) (fun _ _ => rfl) h137b dX0_leastChange_137 ?_
    refine lv_isub hx hb dX0_leastChange_138 ?_
    refine x_max E ml_X0_88 ms_max mi_math mc_max (by decide) hl.1 (Nat.le_of_ble_eq_true rfl) dX0_leastChange_139 ?_
    exact (w_X0_leastChange_b142 E (i := i) (a1 := a1) (a2 := a2) (M := M) (L := L) (v13_3 := v13_3) (v13_4 := v13_4) (v13_5 := v13_5) (hi := hi) (k13 := k13) (hk13 := hk13)) (if (0 : Int32) < (((r40 - r46) + (1 : Int32)) - (M (i + 9) 4 (M (i + 9) 5 v13_5.toNatClampNeg).toNatClampNeg)) then (((r40 - r46) + (1 : Int32)) - (M (i + 9) 4 (M (i + 9) 5 v13_5.toNatClampNeg).toNatClampNeg)) else (0 : Int32)) hf _ (lv_sub hl [0, 1, 2, 3, 5] rfl) _ _ hI
  · replace hf := xif_f c119 hf
    refine lv_iconst (v := 0) hx hb dX0_leastChange_122 (by decide) ?_
    refine lv_goto (tgt := 142) hx hb dX0_leastChange_123 (by decide) ?_
    exact (w_X0_leastChange_b142 E (i := i) (a1 := a1) (a2 := a2) (M := M) (L := L) (v13_3 := v13_3) (v13_4 := v13_4) (v13_5 := v13_5) (hi := hi) (k13 := k13) (hk13 := hk13)) (0 : Int32) hf _ (lv_sub hl [0, 1, 2, 3, 5] rfl) _ _ hI
set_option maxHeartbeats 4000000 in
set_option maxRecDepth 100000 in
theorem w_X0_leastChange_b99 {p : Program} {l : Launch} {e : Env} {s : State} {m : MethodId} {args : Array Value} {below : List Frame} {meth : Method} {c : Code} {G : xG} {rr : Int32} (E : xE p s m args meth c cX0_leastChange 9 (some .int) RX0 G) (M : xMem) (L : xLL) : ∀ (t99_0 : Int32), f_X0_leastChange_b99 t99_0 = some rr → ∀ (ls : Array Slot), lv_has ls 9 [] → ∀ (H : Heap) (locs : List Loc), xI G M L s.heap H locs → W p l e (xR 3) s m args below meth c H locs 0 0 (MQ below (xQi G rr M L s.heap.size) args s 0 0 (xZ G s.heap.size)) (F0 m 99 ls [.int t99_0]) := by
  have hx := E.1
  have hb := E.2.1
  intro t99_0 hf ls hl H locs hI
  rw [f_X0_leastChange_b99] at hf
  obtain rfl := xinj1 hf
  exact x_iret E hI rfl dX0_leastChange_99
set_option maxHeartbeats 4000000 in
set_option maxRecDepth 100000 in
theorem w_X0_leastChange_b77 {p : Program} {l : Launch} {e : Env} {s : State} {m : MethodId} {args : Array Value} {below : List Frame} {meth : Method} {c : Code} {G : xG} {rr : Int32} (E : xE p s m args meth c cX0_leastChange 9 (some .int) RX0 G) (M : xMem) (L : xLL) (k99 : Int32 → Option (Int32)) (hk99 : ∀ (t99_0 : Int32), k99 t99_0 = some rr → ∀ (ls : Array Slot), lv_has ls 9 [] → ∀ (H : Heap) (locs : List Loc), xI G M L s.heap H locs → W p l e (xR 3) s m args below meth c H locs 0 0 (MQ below (xQi G rr M L s.heap.size) args s 0 0 (xZ G s.heap.size)) (F0 m 99 ls [.int t99_0])) : f_X0_leastChange_b77 k99  = some rr → ∀ (ls : Array Slot), lv_has ls 9 [] → ∀ (H : Heap) (locs : List Loc), xI G M L s.heap H locs → W p l e (xR 3) s m args below meth c H locs 0 0 (MQ below (xQi G rr M L s.heap.size) args s 0 0 (xZ G s.heap.size)) (F0 m 77 ls []) := by
  have hx := E.1
  have hb := E.2.1
  intro  hf ls hl H locs hI
  rw [f_X0_leastChange_b77] at hf
  refine lv_bipush (v := -9) hx hb dX0_leastChange_77 (by decide) ?_
  refine lv_goto (tgt := 99) hx hb dX0_leastChange_79 (by decide) ?_
  exact hk99 (-9 : Int32) hf _ (lv_sub hl [] rfl) _ _ hI
set_option maxHeartbeats 4000000 in
set_option maxRecDepth 100000 in
theorem w_X0_leastChange_l13 {p : Program} {l : Launch} {e : Env} {s : State} {m : MethodId} {args : Array Value} {below : List Frame} {meth : Method} {c : Code} {G : xG} {rr : Int32} (E : xE p s m args meth c cX0_leastChange 9 (some .int) RX0 G) (i : Nat) (a1 : Int32) (a2 : Int32) (M : xMem) (L : xLL) (hi : i < 21) : ∀ (n : Nat), ∀ (v13_3 : Int32) (v13_4 : Int32) (v13_5 : Int32), f_X0_leastChange_l13 i a1 a2 M n v13_3 v13_4 v13_5 = some rr → ∀ (ls : Array Slot), lv_has ls 9 [(0, .ref (xq G (i + 9) 0)), (1, .int a1), (2, .int a2), (3, .int v13_3), (4, .int v13_4), (5, .int v13_5)] → ∀ (H : Heap) (locs : List Loc), xI G M L s.heap H locs → W p l e (xR 3) s m args below meth c H locs 0 0 (MQ below (xQi G rr M L s.heap.size) args s 0 0 (xZ G s.heap.size)) (F0 m 13 ls []) := by
  have hx := E.1
  have hb := E.2.1
  intro n
  induction n with
  | zero =>
    intro v13_3 v13_4 v13_5 hf
    exact absurd hf (by simp [f_X0_leastChange_l13])
  | succ n ih =>
    intro v13_3 v13_4 v13_5 hf ls hl H locs hI
    rw [f_X0_leastChange_l13] at hf
    refine lv_iload hx hb dX0_leastChange_13 (lv_at hl 5 rfl) ?_
    refine lv_aload_n hx hb dX0_leastChange_15 rfl (lv_at hl 0 rfl) ?_
    refine gf_X0_27 E hI hi dX0_leastChange_16 ?_
    refine gf_X0_47_3 E hI dX0_leastChange_19 ?_
    refine lv_icmp_ge (tgt := 161) hx hb dX0_leastChange_22 (by decide) (fun c22 => ?_) (fun c22 => ?_)
    · replace hf := xif_t c22 hf
      refine lv_bipush (v := -9) hx hb dX0_leastChange_161 (by decide) ?_
      obtain rfl := xinj1 hf
      exact x_iret E hI rfl dX0_leastChange_163
    · replace hf := xif_f c22 hf
      refine lv_aload_n hx hb dX0_leastChange_25 rfl (lv_at hl 0 rfl) ?_
      refine gf_X0_21 E hI hi dX0_leastChange_26 ?_
      refine lv_iload hx hb dX0_leastChange_29 (lv_at hl 5 rfl) ?_
      obtain ⟨h31b, hf⟩ := xchk_s hf
      refine x_iald (n := 5) E hI (mf_5 hi) (fun _ _ => rfl) h31b dX0_leastChange_31 ?_
      refine lv_istore (lv' := [(6, .int (M (i + 9) 5 v13_5.toNatClampNeg)), (0, .ref (xq G (i + 9) 0)), (1, .int a1), (2, .int a2), (3, .int v13_3), (4, .int v13_4), (5, .int v13_5)]) hx hb dX0_leastChange_32 hl (by decide) rfl (fun ls hl => ?_)
      refine lv_aload_n hx hb dX0_leastChange_34 rfl (lv_at hl 1 rfl) ?_
      refine gf_X0_27 E hI hi dX0_leastChange_35 ?_
      refine lv_iload_n hx hb dX0_leastChange_38 rfl (lv_at hl 2 rfl) ?_
      refine lv_iload_n hx hb dX0_leastChange_39 rfl (lv_at hl 4 rfl) ?_
      obtain ⟨r40, g40, hf⟩ := xb1_s hf
      refine x_callVi (As := [.int a1, .int v13_3]) (rest := []) E hI mx_3_0 rfl rfl rfl (c_X6_seems l G _ (M := M) (L := L) (a1 := a1) (a2 := v13_3) g40) yv_X6_seems ml_X0_67 (by decide) (by decide) rfl rfl hl.1 (Nat.le_of_ble_eq_true rfl) dX0_leastChange_40 (fun H locs hI => ?_)
      refine lv_aload_n hx hb dX0_leastChange_43 rfl (lv_at hl 1 rfl) ?_
      refine lv_iload hx hb dX0_leastChange_44 (lv_at hl 0 rfl) ?_
      obtain ⟨r46, g46, hf⟩ := xb1_s hf
      refine x_callVi (As := [.int (M (i + 9) 5 v13_5.toNatClampNeg)]) (rest := [.int r40]) E hI (mf_0 hi) rfl rfl rfl (c_X0_stiffness l G _ (M := M) (L := L) (i := i) (hi := hi) (a1 := (M (i + 9) 5 v13_5.toNatClampNeg)) g46) yv_X0_stiffness ml_X0_70 (by decide) (by decide) rfl rfl hl.1 (Nat.le_of_ble_eq_true rfl) dX0_leastChange_46 (fun H locs hI => ?_)
      refine lv_isub hx hb dX0_leastChange_49 ?_
      refine lv_istore (lv' := [(7, .int (r40 - r46)), (6, .int (M (i + 9) 5 v13_5.toNatClampNeg)), (0, .ref (xq G (i + 9) 0)), (1, .int a1), (2, .int a2), (3, .int v13_3), (4, .int v13_4), (5, .int v13_5)]) hx hb dX0_leastChange_50 hl (by decide) rfl (fun ls hl => ?_)
      refine lv_aload_n hx hb dX0_leastChange_52 rfl (lv_at hl 2 rfl) ?_
      refine lv_iload hx hb dX0_leastChange_53 (lv_at hl 1 rfl) ?_
      obtain ⟨r55, g55, hf⟩ := xb1_s hf
      refine x_callVi (As := [.int (M (i + 9) 5 v13_5.toNatClampNeg)]) (rest := []) E hI (mf_0 hi) rfl rfl rfl (c_X0_isFull l G _ (M := M) (L := L) (i := i) (hi := hi) (a1 := (M (i + 9) 5 v13_5.toNatClampNeg)) g55) yv_X0_isFull ml_X0_55 (by decide) (by decide) rfl rfl hl.1 (Nat.le_of_ble_eq_true rfl) dX0_leastChange_55 (fun H locs hI => ?_)
      refine lv_istore (lv' := [(8, .int r55), (7, .int (r40 - r46)), (6, .int (M (i + 9) 5 v13_5.toNatClampNeg)), (0, .ref (xq G (i + 9) 0)), (1, .int a1), (2, .int a2), (3, .int v13_3), (4, .int v13_4), (5, .int v13_5)]) hx hb dX0_leastChange_58 hl (by decide) rfl (fun ls hl => ?_)
      refine lv_iload hx hb dX0_leastChange_60 (lv_at hl 2 rfl) ?_
      refine lv_iload_n hx hb dX0_leastChange_62 rfl (lv_at hl 5 rfl) ?_
      refine lv_icmp_ne (tgt := 100) hx hb dX0_leastChange_63 (by decide) (fun c63 => ?_) (fun c63 => ?_)
      · replace hf := xif_f c63 hf
        refine lv_iload hx hb dX0_leastChange_100 (lv_at hl 0 rfl) ?_
        refine lv_if_ne (tgt := 115) hx hb dX0_leastChange_102 (by decide) (fun c102 => ?_) (fun c102 => ?_)
        · replace hf := xif_f c102 hf
          exact (w_X0_leastChange_b115 E (i := i) (a1 := a1) (a2 := a2) (M := M) (L := L) (v13_3 := v13_3) (v13_4 := v13_4) (v13_5 := v13_5) (r40 := r40) (r46 := r46) (r55 := r55) (hi := hi) (k13 := (f_X0_leastChange_l13 i a1 a2 M n)) (hk13 := ih))  hf _ (lv_sub hl [3, 4, 5, 6, 7, 8, 2, 1, 0] rfl) _ _ hI
        · replace hf := xif_t c102 hf
          refine lv_iload hx hb dX0_leastChange_105 (lv_at hl 1 rfl) ?_
          refine lv_bipush (v := 99) hx hb dX0_leastChange_107 (by decide) ?_
          refine lv_icmp_lt (tgt := 115) hx hb dX0_leastChange_109 (by decide) (fun c109 => ?_) (fun c109 => ?_)
          · replace hf := xif_t c109 hf
            exact (w_X0_leastChange_b115 E (i := i) (a1 := a1) (a2 := a2) (M := M) (L := L) (v13_3 := v13_3) (v13_4 := v13_4) (v13_5 := v13_5) (r40 := r40) (r46 := r46) (r55 := r55) (hi := hi) (k13 := (f_X0_leastChange_l13 i a1 a2 M n)) (hk13 := ih))  hf _ (lv_sub hl [3, 4, 5, 6, 7, 8, 2, 1, 0] rfl) _ _ hI
          · replace hf := xif_f c109 hf
            refine lv_bipush (v := -9) hx hb dX0_leastChange_112 (by decide) ?_
            obtain rfl := xinj1 hf
            exact x_iret E hI rfl dX0_leastChange_114
      · replace hf := xif_t c63 hf
        refine lv_iload hx hb dX0_leastChange_66 (lv_at hl 0 rfl) ?_
        refine lv_if_ne (tgt := 77) hx hb dX0_leastChange_68 (by decide) (fun c68 => ?_) (fun c68 => ?_)
        · replace hf := xif_f c68 hf
          exact (w_X0_leastChange_b77 E (M := M) (L := L) (k99 := (f_X0_leastChange_b99)) (hk99 := (w_X0_leastChange_b99 E (M := M) (L := L))))  hf _ (lv_sub hl [] rfl) _ _ hI
        · replace hf := xif_t c68 hf
          refine lv_iload hx hb dX0_leastChange_71 (lv_at hl 1 rfl) ?_
          refine lv_iconst (v := 1) hx hb dX0_leastChange_73 (by decide) ?_
          refine lv_icmp_ge (tgt := 82) hx hb dX0_leastChange_74 (by decide) (fun c74 => ?_) (fun c74 => ?_)
          · replace hf := xif_t c74 hf
            refine lv_iload hx hb dX0_leastChange_82 (lv_at hl 7 rfl) ?_
            refine lv_iconst (v := 0) hx hb dX0_leastChange_84 (by decide) ?_
            refine lv_aload_n hx hb dX0_leastChange_85 rfl (lv_at hl 3 rfl) ?_
            refine gf_X0_18 E hI hi dX0_leastChange_86 ?_
            refine lv_iload hx hb dX0_leastChange_89 (lv_at hl 2 rfl) ?_
            obtain ⟨h91b, hf⟩ := xchk_s hf
            refine x_iald (n := 5) E hI (mf_4 hi) (fun _ _ => rfl) h91b dX0_leastChange_91 ?_
            refine lv_iload hx hb dX0_leastChange_92 (lv_at hl 1 rfl) ?_
            refine lv_isub hx hb dX0_leastChange_94 ?_
            refine x_max E ml_X0_88 ms_max mi_math mc_max (by decide) hl.1 (Nat.le_of_ble_eq_true rfl) dX0_leastChange_95 ?_
            refine lv_iadd hx hb dX0_leastChange_98 ?_
            exact (w_X0_leastChange_b99 E (M := M) (L := L)) (v13_4 + (if (0 : Int32) < ((M (i + 9) 4 (M (i + 9) 5 v13_5.toNatClampNeg).toNatClampNeg) - (r40 - r46)) then ((M (i + 9) 4 (M (i + 9) 5 v13_5.toNatClampNeg).toNatClampNeg) - (r40 - r46)) else (0 : Int32))) hf _ (lv_sub hl [] rfl) _ _ hI
          · replace hf := xif_f c74 hf
            exact (w_X0_leastChange_b77 E (M := M) (L := L) (k99 := (f_X0_leastChange_b99)) (hk99 := (w_X0_leastChange_b99 E (M := M) (L := L))))  hf _ (lv_sub hl [] rfl) _ _ hI
set_option maxHeartbeats 4000000 in
set_option maxRecDepth 100000 in
theorem c_X0_leastChange (l : Launch) (G : xG) (sz : Nat) (M : xMem) (L : xLL) (i : Nat) (a1 : Int32) (a2 : Int32) (hi : i < 21) {rr : Int32} (hf : f_X0_leastChange i a1 a2 M = some rr) : Met l yX0_leastChange (Cond.code yX0_leastChange cX0_leastChange 9 (some .int) :: xTB) (xR 3) (xP G M L sz [.ref (xq G (i + 9) 0), .int a1, .int a2]) (xQi G rr M L sz) 0 0 (xZ G sz) := by
  refine x_met (cc := cX0_leastChange) (nL := 9) (rt := (some .int)) (by decide) (Nat.le_of_ble_eq_true rfl) ?_
  intro p e s m below meth c ls hsz E hl hI
  subst hsz
  have E : xE p s m _ meth c cX0_leastChange 9 (some .int) RX0 G := E
  have hx := E.1
  have hb := E.2.1
  have hl : lv_has ls 9 [(0, .ref (xq G (i + 9) 0)), (1, .int a1), (2, .int a2)] := hl
  rw [f_X0_leastChange] at hf
  refine lv_aload_n hx hb dX0_leastChange_0 rfl (lv_at hl 0 rfl) ?_
  refine gf_X0_15 E hI hi dX0_leastChange_1 ?_
  refine lv_iload_n hx hb dX0_leastChange_4 rfl (lv_at hl 1 rfl) ?_
  obtain ⟨h5b, hf⟩ := xchk_s hf
  refine x_iald (n := 6) E hI (mf_3 hi) (fun _ _ => rfl) h5b dX0_leastChange_5 ?_
  refine lv_istore_n (lv' := [(3, .int (M (i + 9) 3 a1.toNatClampNeg)), (0, .ref (xq G (i + 9) 0)), (1, .int a1), (2, .int a2)]) hx hb dX0_leastChange_6 rfl hl (by decide) rfl (fun ls hl => ?_)
  refine lv_iconst (v := 0) hx hb dX0_leastChange_7 (by decide) ?_
  refine lv_istore (lv' := [(4, .int (0 : Int32)), (3, .int (M (i + 9) 3 a1.toNatClampNeg)), (0, .ref (xq G (i + 9) 0)), (1, .int a1), (2, .int a2)]) hx hb dX0_leastChange_8 hl (by decide) rfl (fun ls hl => ?_)
  refine lv_iconst (v := 0) hx hb dX0_leastChange_10 (by decide) ?_
  refine lv_istore (lv' := [(5, .int (0 : Int32)), (4, .int (0 : Int32)), (3, .int (M (i + 9) 3 a1.toNatClampNeg)), (0, .ref (xq G (i + 9) 0)), (1, .int a1), (2, .int a2)]) hx hb dX0_leastChange_11 hl (by decide) rfl (fun ls hl => ?_)
  exact (w_X0_leastChange_l13 E (i := i) (a1 := a1) (a2 := a2) (M := M) (L := L) (hi := hi) FU) (M (i + 9) 3 a1.toNatClampNeg) (0 : Int32) (0 : Int32) hf _ (lv_sub hl [3, 4, 5, 2, 1, 0] rfl) _ _ hI
theorem dX0_placeOf_0 : decode cX0_placeOf 0 = .ok (.iconst 0, 1) := by decide +kernel
theorem dX0_placeOf_1 : decode cX0_placeOf 1 = .ok (.istore_n 2, 1) := by decide +kernel
theorem dX0_placeOf_2 : decode cX0_placeOf 2 = .ok (.iload_n 2, 1) := by decide +kernel
theorem dX0_placeOf_3 : decode cX0_placeOf 3 = .ok (.iconst 4, 1) := by decide +kernel
theorem dX0_placeOf_4 : decode cX0_placeOf 4 = .ok (.if_icmp .ge 19, 3) := by decide +kernel
theorem dX0_placeOf_7 : decode cX0_placeOf 7 = .ok (.aload_n 0, 1) := by decide +kernel
theorem dX0_placeOf_8 : decode cX0_placeOf 8 = .ok (.getfield 21, 3) := by decide +kernel
theorem dX0_placeOf_11 : decode cX0_placeOf 11 = .ok (.iload_n 2, 1) := by decide +kernel
theorem dX0_placeOf_12 : decode cX0_placeOf 12 = .ok (.iaload, 1) := by decide +kernel
theorem dX0_placeOf_13 : decode cX0_placeOf 13 = .ok (.iload_n 1, 1) := by decide +kernel
theorem dX0_placeOf_14 : decode cX0_placeOf 14 = .ok (.if_icmp .eq 9, 3) := by decide +kernel
theorem dX0_placeOf_17 : decode cX0_placeOf 17 = .ok (.iinc 2 1, 3) := by decide +kernel
theorem dX0_placeOf_20 : decode cX0_placeOf 20 = .ok (.goto (-18), 3) := by decide +kernel
theorem dX0_placeOf_23 : decode cX0_placeOf 23 = .ok (.iload_n 2, 1) := by decide +kernel
theorem dX0_placeOf_24 : decode cX0_placeOf 24 = .ok (.ireturn, 1) := by decide +kernel
def f_X0_placeOf_b23 (v2_2 : Int32) : Option (Int32) := some v2_2
def f_X0_placeOf_l2 (i : Nat) (a1 : Int32) (M : xMem) : Nat → Int32 → Option (Int32)
  | 0, _ => none
  | n + 1, v2_2 => (if (4 : Int32) ≤ v2_2 then (f_X0_placeOf_b23 v2_2) else xchk (xb v2_2 5) ((if (M (i + 9) 5 v2_2.toNatClampNeg) = a1 then (f_X0_placeOf_b23 v2_2) else (f_X0_placeOf_l2 i a1 M n) (v2_2 + (1 : Int32)))))
def f_X0_placeOf (i : Nat) (a1 : Int32) (M : xMem) : Option (Int32) := (f_X0_placeOf_l2 i a1 M FU) (0 : Int32)
set_option maxHeartbeats 4000000 in
set_option maxRecDepth 100000 in
theorem w_X0_placeOf_b23 {p : Program} {l : Launch} {e : Env} {s : State} {m : MethodId} {args : Array Value} {below : List Frame} {meth : Method} {c : Code} {G : xG} {rr : Int32} (E : xE p s m args meth c cX0_placeOf 3 (some .int) RX0 G) (M : xMem) (L : xLL) (v2_2 : Int32) : f_X0_placeOf_b23 v2_2  = some rr → ∀ (ls : Array Slot), lv_has ls 3 [(2, .int v2_2)] → ∀ (H : Heap) (locs : List Loc), xI G M L s.heap H locs → W p l e (xR 1) s m args below meth c H locs 0 0 (MQ below (xQi G rr M L s.heap.size) args s 0 0 (xZ G s.heap.size)) (F0 m 23 ls []) := by
  have hx := E.1
  have hb := E.2.1
  intro  hf ls hl H locs hI
  rw [f_X0_placeOf_b23] at hf
  refine lv_iload_n hx hb dX0_placeOf_23 rfl (lv_at hl 0 rfl) ?_
  obtain rfl := xinj1 hf
  exact x_iret E hI rfl dX0_placeOf_24
set_option maxHeartbeats 4000000 in
set_option maxRecDepth 100000 in
theorem w_X0_placeOf_l2 {p : Program} {l : Launch} {e : Env} {s : State} {m : MethodId} {args : Array Value} {below : List Frame} {meth : Method} {c : Code} {G : xG} {rr : Int32} (E : xE p s m args meth c cX0_placeOf 3 (some .int) RX0 G) (i : Nat) (a1 : Int32) (M : xMem) (L : xLL) (hi : i < 21) : ∀ (n : Nat), ∀ (v2_2 : Int32), f_X0_placeOf_l2 i a1 M n v2_2 = some rr → ∀ (ls : Array Slot), lv_has ls 3 [(0, .ref (xq G (i + 9) 0)), (1, .int a1), (2, .int v2_2)] → ∀ (H : Heap) (locs : List Loc), xI G M L s.heap H locs → W p l e (xR 1) s m args below meth c H locs 0 0 (MQ below (xQi G rr M L s.heap.size) args s 0 0 (xZ G s.heap.size)) (F0 m 2 ls []) := by
  have hx := E.1
  have hb := E.2.1
  intro n
  induction n with
  | zero =>
    intro v2_2 hf
    exact absurd hf (by simp [f_X0_placeOf_l2])
  | succ n ih =>
    intro v2_2 hf ls hl H locs hI
    rw [f_X0_placeOf_l2] at hf
    refine lv_iload_n hx hb dX0_placeOf_2 rfl (lv_at hl 2 rfl) ?_
    refine lv_iconst (v := 4) hx hb dX0_placeOf_3 (by decide) ?_
    refine lv_icmp_ge (tgt := 23) hx hb dX0_placeOf_4 (by decide) (fun c4 => ?_) (fun c4 => ?_)
    · replace hf := xif_t c4 hf
      exact (w_X0_placeOf_b23 E (M := M) (L := L) (v2_2 := v2_2))  hf _ (lv_sub hl [2] rfl) _ _ hI
    · replace hf := xif_f c4 hf
      refine lv_aload_n hx hb dX0_placeOf_7 rfl (lv_at hl 0 rfl) ?_
      refine gf_X0_21 E hI hi dX0_placeOf_8 ?_
      refine lv_iload_n hx hb dX0_placeOf_11 rfl (lv_at hl 2 rfl) ?_
      obtain ⟨h12b, hf⟩ := xchk_s hf
      refine x_iald (n := 5) E hI (mf_5 hi) (fun _ _ => rfl) h12b dX0_placeOf_12 ?_
      refine lv_iload_n hx hb dX0_placeOf_13 rfl (lv_at hl 1 rfl) ?_
      refine lv_icmp_eq (tgt := 23) hx hb dX0_placeOf_14 (by decide) (fun c14 => ?_) (fun c14 => ?_)
      · replace hf := xif_t c14 hf
        exact (w_X0_placeOf_b23 E (M := M) (L := L) (v2_2 := v2_2))  hf _ (lv_sub hl [2] rfl) _ _ hI
      · replace hf := xif_f c14 hf
        refine lv_iinc (v := (v2_2 + (1 : Int32))) (lv' := [(2, .int (v2_2 + (1 : Int32))), (0, .ref (xq G (i + 9) 0)), (1, .int a1)]) hx hb dX0_placeOf_17 hl (k := 2) rfl rfl (by decide) rfl (fun ls hl => ?_)
        refine lv_goto (tgt := 2) hx hb dX0_placeOf_20 (by decide) ?_
        exact ih (v2_2 + (1 : Int32)) hf _ (lv_sub hl [1, 2, 0] rfl) _ _ hI
set_option maxHeartbeats 4000000 in
set_option maxRecDepth 100000 in
theorem c_X0_placeOf (l : Launch) (G : xG) (sz : Nat) (M : xMem) (L : xLL) (i : Nat) (a1 : Int32) (hi : i < 21) {rr : Int32} (hf : f_X0_placeOf i a1 M = some rr) : Met l yX0_placeOf (Cond.code yX0_placeOf cX0_placeOf 3 (some .int) :: xTB) (xR 1) (xP G M L sz [.ref (xq G (i + 9) 0), .int a1]) (xQi G rr M L sz) 0 0 (xZ G sz) := by
  refine x_met (cc := cX0_placeOf) (nL := 3) (rt := (some .int)) (by decide) (Nat.le_of_ble_eq_true rfl) ?_
  intro p e s m below meth c ls hsz E hl hI
  subst hsz
  have E : xE p s m _ meth c cX0_placeOf 3 (some .int) RX0 G := E
  have hx := E.1
  have hb := E.2.1
  have hl : lv_has ls 3 [(0, .ref (xq G (i + 9) 0)), (1, .int a1)] := hl
  rw [f_X0_placeOf] at hf
  refine lv_iconst (v := 0) hx hb dX0_placeOf_0 (by decide) ?_
  refine lv_istore_n (lv' := [(2, .int (0 : Int32)), (0, .ref (xq G (i + 9) 0)), (1, .int a1)]) hx hb dX0_placeOf_1 rfl hl (by decide) rfl (fun ls hl => ?_)
  exact (w_X0_placeOf_l2 E (i := i) (a1 := a1) (M := M) (L := L) (hi := hi) FU) (0 : Int32) hf _ (lv_sub hl [1, 2, 0] rfl) _ _ hI
theorem dX0_belongs_0 : decode cX0_belongs 0 = .ok (.iconst 0, 1) := by decide +kernel
theorem dX0_belongs_1 : decode cX0_belongs 1 = .ok (.istore_n 2, 1) := by decide +kernel
theorem dX0_belongs_2 : decode cX0_belongs 2 = .ok (.iload_n 2, 1) := by decide +kernel
theorem dX0_belongs_3 : decode cX0_belongs 3 = .ok (.aload_n 0, 1) := by decide +kernel
theorem dX0_belongs_4 : decode cX0_belongs 4 = .ok (.getfield 27, 3) := by decide +kernel
theorem dX0_belongs_7 : decode cX0_belongs 7 = .ok (.getfield 47, 3) := by decide +kernel
theorem dX0_belongs_10 : decode cX0_belongs 10 = .ok (.if_icmp .ge 33, 3) := by decide +kernel
theorem dX0_belongs_13 : decode cX0_belongs 13 = .ok (.aload_n 0, 1) := by decide +kernel
theorem dX0_belongs_14 : decode cX0_belongs 14 = .ok (.getfield 21, 3) := by decide +kernel
theorem dX0_belongs_17 : decode cX0_belongs 17 = .ok (.iload_n 2, 1) := by decide +kernel
theorem dX0_belongs_18 : decode cX0_belongs 18 = .ok (.iaload, 1) := by decide +kernel
theorem dX0_belongs_19 : decode cX0_belongs 19 = .ok (.istore_n 3, 1) := by decide +kernel
theorem dX0_belongs_20 : decode cX0_belongs 20 = .ok (.aload_n 0, 1) := by decide +kernel
theorem dX0_belongs_21 : decode cX0_belongs 21 = .ok (.getfield 18, 3) := by decide +kernel
theorem dX0_belongs_24 : decode cX0_belongs 24 = .ok (.iload_n 3, 1) := by decide +kernel
theorem dX0_belongs_25 : decode cX0_belongs 25 = .ok (.iaload, 1) := by decide +kernel
theorem dX0_belongs_26 : decode cX0_belongs 26 = .ok (.aload_n 0, 1) := by decide +kernel
theorem dX0_belongs_27 : decode cX0_belongs 27 = .ok (.getfield 15, 3) := by decide +kernel
theorem dX0_belongs_30 : decode cX0_belongs 30 = .ok (.iload_n 1, 1) := by decide +kernel
theorem dX0_belongs_31 : decode cX0_belongs 31 = .ok (.iaload, 1) := by decide +kernel
theorem dX0_belongs_32 : decode cX0_belongs 32 = .ok (.if_icmp .gt 5, 3) := by decide +kernel
theorem dX0_belongs_35 : decode cX0_belongs 35 = .ok (.iload_n 3, 1) := by decide +kernel
theorem dX0_belongs_36 : decode cX0_belongs 36 = .ok (.ireturn, 1) := by decide +kernel
theorem dX0_belongs_37 : decode cX0_belongs 37 = .ok (.iinc 2 1, 3) := by decide +kernel
theorem dX0_belongs_40 : decode cX0_belongs 40 = .ok (.goto (-38), 3) := by decide +kernel
theorem dX0_belongs_43 : decode cX0_belongs 43 = .ok (.bipush (-9), 2) := by decide +kernel
theorem dX0_belongs_45 : decode cX0_belongs 45 = .ok (.ireturn, 1) := by decide +kernel
def f_X0_belongs_l2 (i : Nat) (a1 : Int32) (M : xMem) : Nat → Int32 → Option (Int32)
  | 0, _ => none
  | n + 1, v2_2 => (if (M 3 0 0) ≤ v2_2 then some (-9 : Int32) else xchk (xb v2_2 5) (xchk (xb (M (i + 9) 5 v2_2.toNatClampNeg) 5) (xchk (xb a1 6) ((if (M (i + 9) 3 a1.toNatClampNeg) < (M (i + 9) 4 (M (i + 9) 5 v2_2.toNatClampNeg).toNatClampNeg) then (f_X0_belongs_l2 i a1 M n) (v2_2 + (1 : Int32)) else some (M (i + 9) 5 v2_2.toNatClampNeg))))))
def f_X0_belongs (i : Nat) (a1 : Int32) (M : xMem) : Option (Int32) := (f_X0_belongs_l2 i a1 M FU) (0 : Int32)
set_option maxHeartbeats 4000000 in
set_option maxRecDepth 100000 in
theorem w_X0_belongs_l2 {p : Program} {l : Launch} {e : Env} {s : State} {m : MethodId} {args : Array Value} {below : List Frame} {meth : Method} {c : Code} {G : xG} {rr : Int32} (E : xE p s m args meth c cX0_belongs 4 (some .int) RX0 G) (i : Nat) (a1 : Int32) (M : xMem) (L : xLL) (hi : i < 21) : ∀ (n : Nat), ∀ (v2_2 : Int32), f_X0_belongs_l2 i a1 M n v2_2 = some rr → ∀ (ls : Array Slot), lv_has ls 4 [(0, .ref (xq G (i + 9) 0)), (1, .int a1), (2, .int v2_2)] → ∀ (H : Heap) (locs : List Loc), xI G M L s.heap H locs → W p l e (xR 1) s m args below meth c H locs 0 0 (MQ below (xQi G rr M L s.heap.size) args s 0 0 (xZ G s.heap.size)) (F0 m 2 ls []) := by
  have hx := E.1
  have hb := E.2.1
  intro n
  induction n with
  | zero =>
    intro v2_2 hf
    exact absurd hf (by simp [f_X0_belongs_l2])
  | succ n ih =>
    intro v2_2 hf ls hl H locs hI
    rw [f_X0_belongs_l2] at hf
    refine lv_iload_n hx hb dX0_belongs_2 rfl (lv_at hl 2 rfl) ?_
    refine lv_aload_n hx hb dX0_belongs_3 rfl (lv_at hl 0 rfl) ?_
    refine gf_X0_27 E hI hi dX0_belongs_4 ?_
    refine gf_X0_47_3 E hI dX0_belongs_7 ?_
    refine lv_icmp_ge (tgt := 43) hx hb dX0_belongs_10 (by decide) (fun c10 => ?_) (fun c10 => ?_)
    · replace hf := xif_t c10 hf
      refine lv_bipush (v := -9) hx hb dX0_belongs_43 (by decide) ?_
      obtain rfl := xinj1 hf
      exact x_iret E hI rfl dX0_belongs_45
    · replace hf := xif_f c10 hf
      refine lv_aload_n hx hb dX0_belongs_13 rfl (lv_at hl 0 rfl) ?_
      refine gf_X0_21 E hI hi dX0_belongs_14 ?_
      refine lv_iload_n hx hb dX0_belongs_17 rfl (lv_at hl 2 rfl) ?_
      obtain ⟨h18b, hf⟩ := xchk_s hf
      refine x_iald (n := 5) E hI (mf_5 hi) (fun _ _ => rfl) h18b dX0_belongs_18 ?_
      refine lv_istore_n (lv' := [(3, .int (M (i + 9) 5 v2_2.toNatClampNeg)), (0, .ref (xq G (i + 9) 0)), (1, .int a1), (2, .int v2_2)]) hx hb dX0_belongs_19 rfl hl (by decide) rfl (fun ls hl => ?_)
      refine lv_aload_n hx hb dX0_belongs_20 rfl (lv_at hl 1 rfl) ?_
      refine gf_X0_18 E hI hi dX0_belongs_21 ?_
      refine lv_iload_n hx hb dX0_belongs_24 rfl (lv_at hl 0 rfl) ?_
      obtain ⟨h25b, hf⟩ := xchk_s hf
      refine x_iald (n := 5) E hI (mf_4 hi) (fun _ _ => rfl) h25b dX0_belongs_25 ?_
      refine lv_aload_n hx hb dX0_belongs_26 rfl (lv_at hl 1 rfl) ?_
      refine gf_X0_15 E hI hi dX0_belongs_27 ?_
      refine lv_iload_n hx hb dX0_belongs_30 rfl (lv_at hl 2 rfl) ?_
      obtain ⟨h31b, hf⟩ := xchk_s hf
      refine x_iald (n := 6) E hI (mf_3 hi) (fun _ _ => rfl) h31b dX0_belongs_31 ?_
      refine lv_icmp_gt (tgt := 37) hx hb dX0_belongs_32 (by decide) (fun c32 => ?_) (fun c32 => ?_)
      · replace hf := xif_t c32 hf
        refine lv_iinc (v := (v2_2 + (1 : Int32))) (lv' := [(2, .int (v2_2 + (1 : Int32))), (3, .int (M (i + 9) 5 v2_2.toNatClampNeg)), (0, .ref (xq G (i + 9) 0)), (1, .int a1)]) hx hb dX0_belongs_37 hl (k := 3) rfl rfl (by decide) rfl (fun ls hl => ?_)
        refine lv_goto (tgt := 2) hx hb dX0_belongs_40 (by decide) ?_
        exact ih (v2_2 + (1 : Int32)) hf _ (lv_sub hl [2, 3, 0] rfl) _ _ hI
      · replace hf := xif_f c32 hf
        refine lv_iload_n hx hb dX0_belongs_35 rfl (lv_at hl 0 rfl) ?_
        obtain rfl := xinj1 hf
        exact x_iret E hI rfl dX0_belongs_36
set_option maxHeartbeats 4000000 in
set_option maxRecDepth 100000 in
theorem c_X0_belongs (l : Launch) (G : xG) (sz : Nat) (M : xMem) (L : xLL) (i : Nat) (a1 : Int32) (hi : i < 21) {rr : Int32} (hf : f_X0_belongs i a1 M = some rr) : Met l yX0_belongs (Cond.code yX0_belongs cX0_belongs 4 (some .int) :: xTB) (xR 1) (xP G M L sz [.ref (xq G (i + 9) 0), .int a1]) (xQi G rr M L sz) 0 0 (xZ G sz) := by
  refine x_met (cc := cX0_belongs) (nL := 4) (rt := (some .int)) (by decide) (Nat.le_of_ble_eq_true rfl) ?_
  intro p e s m below meth c ls hsz E hl hI
  subst hsz
  have E : xE p s m _ meth c cX0_belongs 4 (some .int) RX0 G := E
  have hx := E.1
  have hb := E.2.1
  have hl : lv_has ls 4 [(0, .ref (xq G (i + 9) 0)), (1, .int a1)] := hl
  rw [f_X0_belongs] at hf
  refine lv_iconst (v := 0) hx hb dX0_belongs_0 (by decide) ?_
  refine lv_istore_n (lv' := [(2, .int (0 : Int32)), (0, .ref (xq G (i + 9) 0)), (1, .int a1)]) hx hb dX0_belongs_1 rfl hl (by decide) rfl (fun ls hl => ?_)
  exact (w_X0_belongs_l2 E (i := i) (a1 := a1) (M := M) (L := L) (hi := hi) FU) (0 : Int32) hf _ (lv_sub hl [1, 2, 0] rfl) _ _ hI
theorem dX0_isRight_0 : decode cX0_isRight 0 = .ok (.aload_n 0, 1) := by decide +kernel
theorem dX0_isRight_1 : decode cX0_isRight 1 = .ok (.iload_n 1, 1) := by decide +kernel
theorem dX0_isRight_2 : decode cX0_isRight 2 = .ok (.invokevirtual 91, 3) := by decide +kernel
theorem dX0_isRight_5 : decode cX0_isRight 5 = .ok (.istore_n 2, 1) := by decide +kernel
theorem dX0_isRight_6 : decode cX0_isRight 6 = .ok (.aload_n 0, 1) := by decide +kernel
theorem dX0_isRight_7 : decode cX0_isRight 7 = .ok (.getfield 9, 3) := by decide +kernel
theorem dX0_isRight_10 : decode cX0_isRight 10 = .ok (.iload_n 1, 1) := by decide +kernel
theorem dX0_isRight_11 : decode cX0_isRight 11 = .ok (.iaload, 1) := by decide +kernel
theorem dX0_isRight_12 : decode cX0_isRight 12 = .ok (.iload_n 2, 1) := by decide +kernel
theorem dX0_isRight_13 : decode cX0_isRight 13 = .ok (.bipush (-9), 2) := by decide +kernel
theorem dX0_isRight_15 : decode cX0_isRight 15 = .ok (.if_icmp .ne 8, 3) := by decide +kernel
theorem dX0_isRight_18 : decode cX0_isRight 18 = .ok (.bipush 8, 2) := by decide +kernel
theorem dX0_isRight_20 : decode cX0_isRight 20 = .ok (.goto 6, 3) := by decide +kernel
theorem dX0_isRight_23 : decode cX0_isRight 23 = .ok (.iload_n 2, 1) := by decide +kernel
theorem dX0_isRight_24 : decode cX0_isRight 24 = .ok (.iconst 1, 1) := by decide +kernel
theorem dX0_isRight_25 : decode cX0_isRight 25 = .ok (.iadd, 1) := by decide +kernel
theorem dX0_isRight_26 : decode cX0_isRight 26 = .ok (.if_icmp .ne 7, 3) := by decide +kernel
theorem dX0_isRight_29 : decode cX0_isRight 29 = .ok (.iconst 1, 1) := by decide +kernel
theorem dX0_isRight_30 : decode cX0_isRight 30 = .ok (.goto 4, 3) := by decide +kernel
theorem dX0_isRight_33 : decode cX0_isRight 33 = .ok (.iconst 0, 1) := by decide +kernel
theorem dX0_isRight_34 : decode cX0_isRight 34 = .ok (.ireturn, 1) := by decide +kernel
def f_X0_isRight_b34 (t34_0 : Int32) : Option (Int32) := xchk (xbo t34_0) (some t34_0)
def f_X0_isRight_b26 (i : Nat) (a1 : Int32) (M : xMem) (t26_0 : Int32) : Option (Int32) := (if (M (i + 9) 2 a1.toNatClampNeg) = t26_0 then (f_X0_isRight_b34) (1 : Int32) else (f_X0_isRight_b34) (0 : Int32))
def f_X0_isRight (i : Nat) (a1 : Int32) (M : xMem) : Option (Int32) := xb1 (f_X0_belongs i a1 M) (fun r2 => xchk (xb a1 6) ((if r2 = (-9 : Int32) then (f_X0_isRight_b26 i a1 M) (8 : Int32) else (f_X0_isRight_b26 i a1 M) (r2 + (1 : Int32)))))
set_option maxHeartbeats 4000000 in
set_option maxRecDepth 100000 in
theorem w_X0_isRight_b34 {p : Program} {l : Launch} {e : Env} {s : State} {m : MethodId} {args : Array Value} {below : List Frame} {meth : Method} {c : Code} {G : xG} {rr : Int32} (E : xE p s m args meth c cX0_isRight 3 (some .boolean) RX0 G) (M : xMem) (L : xLL) : ∀ (t34_0 : Int32), f_X0_isRight_b34 t34_0 = some rr → ∀ (ls : Array Slot), lv_has ls 3 [] → ∀ (H : Heap) (locs : List Loc), xI G M L s.heap H locs → W p l e (xR 2) s m args below meth c H locs 0 0 (MQ below (xQi G rr M L s.heap.size) args s 0 0 (xZ G s.heap.size)) (F0 m 34 ls [.int t34_0]) := by
  have hx := E.1
  have hb := E.2.1
  intro t34_0 hf ls hl H locs hI
  rw [f_X0_isRight_b34] at hf
  obtain ⟨h34n, hf⟩ := xchk_s hf
  obtain rfl := xinj1 hf
  exact x_zret E hI (xbo_s h34n) rfl dX0_isRight_34
set_option maxHeartbeats 4000000 in
set_option maxRecDepth 100000 in
theorem w_X0_isRight_b26 {p : Program} {l : Launch} {e : Env} {s : State} {m : MethodId} {args : Array Value} {below : List Frame} {meth : Method} {c : Code} {G : xG} {rr : Int32} (E : xE p s m args meth c cX0_isRight 3 (some .boolean) RX0 G) (i : Nat) (a1 : Int32) (M : xMem) (L : xLL) : ∀ (t26_0 : Int32), f_X0_isRight_b26 i a1 M t26_0 = some rr → ∀ (ls : Array Slot), lv_has ls 3 [] → ∀ (H : Heap) (locs : List Loc), xI G M L s.heap H locs → W p l e (xR 2) s m args below meth c H locs 0 0 (MQ below (xQi G rr M L s.heap.size) args s 0 0 (xZ G s.heap.size)) (F0 m 26 ls [.int t26_0, .int (M (i + 9) 2 a1.toNatClampNeg)]) := by
  have hx := E.1
  have hb := E.2.1
  intro t26_0 hf ls hl H locs hI
  rw [f_X0_isRight_b26] at hf
  refine lv_icmp_ne (tgt := 33) hx hb dX0_isRight_26 (by decide) (fun c26 => ?_) (fun c26 => ?_)
  · replace hf := xif_f c26 hf
    refine lv_iconst (v := 0) hx hb dX0_isRight_33 (by decide) ?_
    exact (w_X0_isRight_b34 E (M := M) (L := L)) (0 : Int32) hf _ (lv_sub hl [] rfl) _ _ hI
  · replace hf := xif_t c26 hf
    refine lv_iconst (v := 1) hx hb dX0_isRight_29 (by decide) ?_
    refine lv_goto (tgt := 34) hx hb dX0_isRight_30 (by decide) ?_
    exact (w_X0_isRight_b34 E (M := M) (L := L)) (1 : Int32) hf _ (lv_sub hl [] rfl) _ _ hI
set_option maxHeartbeats 4000000 in
set_option maxRecDepth 100000 in
theorem c_X0_isRight (l : Launch) (G : xG) (sz : Nat) (M : xMem) (L : xLL) (i : Nat) (a1 : Int32) (hi : i < 21) {rr : Int32} (hf : f_X0_isRight i a1 M = some rr) : Met l yX0_isRight (Cond.code yX0_isRight cX0_isRight 3 (some .boolean) :: xTB) (xR 2) (xP G M L sz [.ref (xq G (i + 9) 0), .int a1]) (xQi G rr M L sz) 0 0 (xZ G sz) := by
  refine x_met (cc := cX0_isRight) (nL := 3) (rt := (some .boolean)) (by decide) (Nat.le_of_ble_eq_true rfl) ?_
  intro p e s m below meth c ls hsz E hl hI
  subst hsz
  have E : xE p s m _ meth c cX0_isRight 3 (some .boolean) RX0 G := E
  have hx := E.1
  have hb := E.2.1
  have hl : lv_has ls 3 [(0, .ref (xq G (i + 9) 0)), (1, .int a1)] := hl
  rw [f_X0_isRight] at hf
  refine lv_aload_n hx hb dX0_isRight_0 rfl (lv_at hl 0 rfl) ?_
  refine lv_iload_n hx hb dX0_isRight_1 rfl (lv_at hl 1 rfl) ?_
  obtain ⟨r2, g2, hf⟩ := xb1_s hf
  refine x_callVi (As := [.int a1]) (rest := []) E hI (mf_0 hi) rfl rfl rfl (c_X0_belongs l G _ (M := M) (L := L) (i := i) (hi := hi) (a1 := a1) g2) yv_X0_belongs ml_X0_91 (by decide) (by decide) rfl rfl hl.1 (Nat.le_of_ble_eq_true rfl) dX0_isRight_2 (fun H locs hI => ?_)
  refine lv_istore_n (lv' := [(2, .int r2), (0, .ref (xq G (i + 9) 0)), (1, .int a1)]) hx hb dX0_isRight_5 rfl hl (by decide) rfl (fun ls hl => ?_)
  refine lv_aload_n hx hb dX0_isRight_6 rfl (lv_at hl 1 rfl) ?_
  refine gf_X0_9 E hI hi dX0_isRight_7 ?_
  refine lv_iload_n hx hb dX0_isRight_10 rfl (lv_at hl 2 rfl) ?_
  obtain ⟨h11b, hf⟩ := xchk_s hf
  refine x_iald (n := 6) E hI (mf_2 hi) (fun _ _ => rfl) h11b dX0_isRight_11 ?_
  refine lv_iload_n hx hb dX0_isRight_12 rfl (lv_at hl 0 rfl) ?_
  refine lv_bipush (v := -9) hx hb dX0_isRight_13 (by decide) ?_
  refine lv_icmp_ne (tgt := 23) hx hb dX0_isRight_15 (by decide) (fun c15 => ?_) (fun c15 => ?_)
  · replace hf := xif_f c15 hf
    refine lv_iload_n hx hb dX0_isRight_23 rfl (lv_at hl 0 rfl) ?_
    refine lv_iconst (v := 1) hx hb dX0_isRight_24 (by decide) ?_
    refine lv_iadd hx hb dX0_isRight_25 ?_
    exact (w_X0_isRight_b26 E (i := i) (a1 := a1) (M := M) (L := L)) (r2 + (1 : Int32)) hf _ (lv_sub hl [] rfl) _ _ hI
  · replace hf := xif_t c15 hf
    refine lv_bipush (v := 8) hx hb dX0_isRight_18 (by decide) ?_
    refine lv_goto (tgt := 26) hx hb dX0_isRight_20 (by decide) ?_
    exact (w_X0_isRight_b26 E (i := i) (a1 := a1) (M := M) (L := L)) (8 : Int32) hf _ (lv_sub hl [] rfl) _ _ hI
theorem dX0_rightEggs_0 : decode cX0_rightEggs 0 = .ok (.iconst 0, 1) := by decide +kernel
theorem dX0_rightEggs_1 : decode cX0_rightEggs 1 = .ok (.istore_n 1, 1) := by decide +kernel
theorem dX0_rightEggs_2 : decode cX0_rightEggs 2 = .ok (.iconst 0, 1) := by decide +kernel
theorem dX0_rightEggs_3 : decode cX0_rightEggs 3 = .ok (.istore_n 2, 1) := by decide +kernel
theorem dX0_rightEggs_4 : decode cX0_rightEggs 4 = .ok (.iload_n 2, 1) := by decide +kernel
theorem dX0_rightEggs_5 : decode cX0_rightEggs 5 = .ok (.aload_n 0, 1) := by decide +kernel
theorem dX0_rightEggs_6 : decode cX0_rightEggs 6 = .ok (.getfield 27, 3) := by decide +kernel
theorem dX0_rightEggs_9 : decode cX0_rightEggs 9 = .ok (.getfield 94, 3) := by decide +kernel
theorem dX0_rightEggs_12 : decode cX0_rightEggs 12 = .ok (.if_icmp .ge 23, 3) := by decide +kernel
theorem dX0_rightEggs_15 : decode cX0_rightEggs 15 = .ok (.aload_n 0, 1) := by decide +kernel
theorem dX0_rightEggs_16 : decode cX0_rightEggs 16 = .ok (.iload_n 2, 1) := by decide +kernel
theorem dX0_rightEggs_17 : decode cX0_rightEggs 17 = .ok (.invokevirtual 97, 3) := by decide +kernel
theorem dX0_rightEggs_20 : decode cX0_rightEggs 20 = .ok (.ifCond .eq 9, 3) := by decide +kernel
theorem dX0_rightEggs_23 : decode cX0_rightEggs 23 = .ok (.iload_n 1, 1) := by decide +kernel
theorem dX0_rightEggs_24 : decode cX0_rightEggs 24 = .ok (.iconst 1, 1) := by decide +kernel
theorem dX0_rightEggs_25 : decode cX0_rightEggs 25 = .ok (.iload_n 2, 1) := by decide +kernel
theorem dX0_rightEggs_26 : decode cX0_rightEggs 26 = .ok (.ishl, 1) := by decide +kernel
theorem dX0_rightEggs_27 : decode cX0_rightEggs 27 = .ok (.ior, 1) := by decide +kernel
theorem dX0_rightEggs_28 : decode cX0_rightEggs 28 = .ok (.istore_n 1, 1) := by decide +kernel
theorem dX0_rightEggs_29 : decode cX0_rightEggs 29 = .ok (.iinc 2 1, 3) := by decide +kernel
theorem dX0_rightEggs_32 : decode cX0_rightEggs 32 = .ok (.goto (-28), 3) := by decide +kernel
theorem dX0_rightEggs_35 : decode cX0_rightEggs 35 = .ok (.iload_n 1, 1) := by decide +kernel
theorem dX0_rightEggs_36 : decode cX0_rightEggs 36 = .ok (.ireturn, 1) := by decide +kernel
def f_X0_rightEggs_b29 (v4_2 : Int32) (k4 : Int32 → Int32 → Option (Int32)) (v29_1 : Int32) : Option (Int32) := k4 v29_1 (v4_2 + (1 : Int32))
def f_X0_rightEggs_l4 (i : Nat) (M : xMem) : Nat → Int32 → Int32 → Option (Int32)
  | 0, _, _ => none
  | n + 1, v4_1, v4_2 => (if (M 3 0 1) ≤ v4_2 then some v4_1 else xb1 (f_X0_isRight i v4_2 M) (fun r17 => (if r17 = (0 : Int32) then (f_X0_rightEggs_b29 v4_2 (f_X0_rightEggs_l4 i M n)) v4_1 else (f_X0_rightEggs_b29 v4_2 (f_X0_rightEggs_l4 i M n)) (v4_1 ||| ((1 : Int32) <<< (v4_2 &&& 31))))))
def f_X0_rightEggs (i : Nat) (M : xMem) : Option (Int32) := (f_X0_rightEggs_l4 i M FU) (0 : Int32) (0 : Int32)
set_option maxHeartbeats 4000000 in
set_option maxRecDepth 100000 in
theorem w_X0_rightEggs_b29 {p : Program} {l : Launch} {e : Env} {s : State} {m : MethodId} {args : Array Value} {below : List Frame} {meth : Method} {c : Code} {G : xG} {rr : Int32} (E : xE p s m args meth c cX0_rightEggs 3 (some .int) RX0 G) (i : Nat) (M : xMem) (L : xLL) (v4_1 : Int32) (v4_2 : Int32) (k4 : Int32 → Int32 → Option (Int32)) (hk4 : ∀ (v4_1 : Int32) (v4_2 : Int32), k4 v4_1 v4_2 = some rr → ∀ (ls : Array Slot), lv_has ls 3 [(0, .ref (xq G (i + 9) 0)), (1, .int v4_1), (2, .int v4_2)] → ∀ (H : Heap) (locs : List Loc), xI G M L s.heap H locs → W p l e (xR 3) s m args below meth c H locs 0 0 (MQ below (xQi G rr M L s.heap.size) args s 0 0 (xZ G s.heap.size)) (F0 m 4 ls [])) : ∀ (v29_1 : Int32), f_X0_rightEggs_b29 v4_2 k4 v29_1 = some rr → ∀ (ls : Array Slot), lv_has ls 3 [(0, .ref (xq G (i + 9) 0)), (1, .int v29_1), (2, .int v4_2)] → ∀ (H : Heap) (locs : List Loc), xI G M L s.heap H locs → W p l e (xR 3) s m args below meth c H locs 0 0 (MQ below (xQi G rr M L s.heap.size) args s 0 0 (xZ G s.heap.size)) (F0 m 29 ls []) := by
  have hx := E.1
  have hb := E.2.1
  intro v29_1 hf ls hl H locs hI
  rw [f_X0_rightEggs_b29] at hf
  refine lv_iinc (v := (v4_2 + (1 : Int32))) (lv' := [(2, .int (v4_2 + (1 : Int32))), (0, .ref (xq G (i + 9) 0)), (1, .int v29_1)]) hx hb dX0_rightEggs_29 hl (k := 2) rfl rfl (by decide) rfl (fun ls hl => ?_)
  refine lv_goto (tgt := 4) hx hb dX0_rightEggs_32 (by decide) ?_
  exact hk4 v29_1 (v4_2 + (1 : Int32)) hf _ (lv_sub hl [1, 2, 0] rfl) _ _ hI
set_option maxHeartbeats 4000000 in
set_option maxRecDepth 100000 in
theorem w_X0_rightEggs_l4 {p : Program} {l : Launch} {e : Env} {s : State} {m : MethodId} {args : Array Value} {below : List Frame} {meth : Method} {c : Code} {G : xG} {rr : Int32} (E : xE p s m args meth c cX0_rightEggs 3 (some .int) RX0 G) (i : Nat) (M : xMem) (L : xLL) (hi : i < 21) : ∀ (n : Nat), ∀ (v4_1 : Int32) (v4_2 : Int32), f_X0_rightEggs_l4 i M n v4_1 v4_2 = some rr → ∀ (ls : Array Slot), lv_has ls 3 [(0, .ref (xq G (i + 9) 0)), (1, .int v4_1), (2, .int v4_2)] → ∀ (H : Heap) (locs : List Loc), xI G M L s.heap H locs → W p l e (xR 3) s m args below meth c H locs 0 0 (MQ below (xQi G rr M L s.heap.size) args s 0 0 (xZ G s.heap.size)) (F0 m 4 ls []) := by
  have hx := E.1
  have hb := E.2.1
  intro n
  induction n with
  | zero =>
    intro v4_1 v4_2 hf
    exact absurd hf (by simp [f_X0_rightEggs_l4])
  | succ n ih =>
    intro v4_1 v4_2 hf ls hl H locs hI
    rw [f_X0_rightEggs_l4] at hf
    refine lv_iload_n hx hb dX0_rightEggs_4 rfl (lv_at hl 2 rfl) ?_
    refine lv_aload_n hx hb dX0_rightEggs_5 rfl (lv_at hl 0 rfl) ?_
    refine gf_X0_27 E hI hi dX0_rightEggs_6 ?_
    refine gf_X0_94_3 E hI dX0_rightEggs_9 ?_
    refine lv_icmp_ge (tgt := 35) hx hb dX0_rightEggs_12 (by decide) (fun c12 => ?_) (fun c12 => ?_)
    · replace hf := xif_t c12 hf
      refine lv_iload_n hx hb dX0_rightEggs_35 rfl (lv_at hl 1 rfl) ?_
      obtain rfl := xinj1 hf
      exact x_iret E hI rfl dX0_rightEggs_36
    · replace hf := xif_f c12 hf
      refine lv_aload_n hx hb dX0_rightEggs_15 rfl (lv_at hl 0 rfl) ?_
      refine lv_iload_n hx hb dX0_rightEggs_16 rfl (lv_at hl 2 rfl) ?_
      obtain ⟨r17, g17, hf⟩ := xb1_s hf
      refine x_callVi (As := [.int v4_2]) (rest := []) E hI (mf_0 hi) rfl rfl rfl (c_X0_isRight l G _ (M := M) (L := L) (i := i) (hi := hi) (a1 := v4_2) g17) yv_X0_isRight ml_X0_97 (by decide) (by decide) rfl rfl hl.1 (Nat.le_of_ble_eq_true rfl) dX0_rightEggs_17 (fun H locs hI => ?_)
      refine lv_if_eq (tgt := 29) hx hb dX0_rightEggs_20 (by decide) (fun c20 => ?_) (fun c20 => ?_)
      · replace hf := xif_t c20 hf
        exact (w_X0_rightEggs_b29 E (i := i) (M := M) (L := L) (v4_1 := v4_1) (v4_2 := v4_2) (k4 := (f_X0_rightEggs_l4 i M n)) (hk4 := ih)) v4_1 hf _ (lv_sub hl [0, 1, 2] rfl) _ _ hI
      · replace hf := xif_f c20 hf
        refine lv_iload_n hx hb dX0_rightEggs_23 rfl (lv_at hl 1 rfl) ?_
        refine lv_iconst (v := 1) hx hb dX0_rightEggs_24 (by decide) ?_
        refine lv_iload_n hx hb dX0_rightEggs_25 rfl (lv_at hl 2 rfl) ?_
        refine lv_ishl hx hb dX0_rightEggs_26 ?_
        refine lv_ior hx hb dX0_rightEggs_27 ?_
        refine lv_istore_n (lv' := [(1, .int (v4_1 ||| ((1 : Int32) <<< (v4_2 &&& 31)))), (0, .ref (xq G (i + 9) 0)), (2, .int v4_2)]) hx hb dX0_rightEggs_28 rfl hl (by decide) rfl (fun ls hl => ?_)
        exact (w_X0_rightEggs_b29 E (i := i) (M := M) (L := L) (v4_1 := v4_1) (v4_2 := v4_2) (k4 := (f_X0_rightEggs_l4 i M n)) (hk4 := ih)) (v4_1 ||| ((1 : Int32) <<< (v4_2 &&& 31))) hf _ (lv_sub hl [1, 0, 2] rfl) _ _ hI
set_option maxHeartbeats 4000000 in
set_option maxRecDepth 100000 in
theorem c_X0_rightEggs (l : Launch) (G : xG) (sz : Nat) (M : xMem) (L : xLL) (i : Nat) (hi : i < 21) {rr : Int32} (hf : f_X0_rightEggs i M = some rr) : Met l yX0_rightEggs (Cond.code yX0_rightEggs cX0_rightEggs 3 (some .int) :: xTB) (xR 3) (xP G M L sz [.ref (xq G (i + 9) 0)]) (xQi G rr M L sz) 0 0 (xZ G sz) := by
  refine x_met (cc := cX0_rightEggs) (nL := 3) (rt := (some .int)) (by decide) (Nat.le_of_ble_eq_true rfl) ?_
  intro p e s m below meth c ls hsz E hl hI
  subst hsz
  have E : xE p s m _ meth c cX0_rightEggs 3 (some .int) RX0 G := E
  have hx := E.1
  have hb := E.2.1
  have hl : lv_has ls 3 [(0, .ref (xq G (i + 9) 0))] := hl
  rw [f_X0_rightEggs] at hf
  refine lv_iconst (v := 0) hx hb dX0_rightEggs_0 (by decide) ?_
  refine lv_istore_n (lv' := [(1, .int (0 : Int32)), (0, .ref (xq G (i + 9) 0))]) hx hb dX0_rightEggs_1 rfl hl (by decide) rfl (fun ls hl => ?_)
  refine lv_iconst (v := 0) hx hb dX0_rightEggs_2 (by decide) ?_
  refine lv_istore_n (lv' := [(2, .int (0 : Int32)), (1, .int (0 : Int32)), (0, .ref (xq G (i + 9) 0))]) hx hb dX0_rightEggs_3 rfl hl (by decide) rfl (fun ls hl => ?_)
  exact (w_X0_rightEggs_l4 E (i := i) (M := M) (L := L) (hi := hi) FU) (0 : Int32) (0 : Int32) hf _ (lv_sub hl [2, 1, 0] rfl) _ _ hI
theorem dX0_howManyAt_0 : decode cX0_howManyAt 0 = .ok (.aload_n 0, 1) := by decide +kernel
theorem dX0_howManyAt_1 : decode cX0_howManyAt 1 = .ok (.iload_n 1, 1) := by decide +kernel
theorem dX0_howManyAt_2 : decode cX0_howManyAt 2 = .ok (.invokevirtual 77, 3) := by decide +kernel
theorem dX0_howManyAt_5 : decode cX0_howManyAt 5 = .ok (.invokestatic 80, 3) := by decide +kernel
theorem dX0_howManyAt_8 : decode cX0_howManyAt 8 = .ok (.ireturn, 1) := by decide +kernel
def f_X0_howManyAt (i : Nat) (a1 : Int32) (M : xMem) : Option (Int32) := xb1 (f_X0_eggsAt i a1 M) (fun r2 => xb1 (f_J6_bitCount_0f7a4 r2 M) (fun r5 => some r5))
set_option maxHeartbeats 4000000 in
set_option maxRecDepth 100000 in
theorem c_X0_howManyAt (l : Launch) (G : xG) (sz : Nat) (M : xMem) (L : xLL) (i : Nat) (a1 : Int32) (hi : i < 21) {rr : Int32} (hf : f_X0_howManyAt i a1 M = some rr) : Met l yX0_howManyAt (Cond.code yX0_howManyAt cX0_howManyAt 2 (some .int) :: xTB) (xR 2) (xP G M L sz [.ref (xq G (i + 9) 0), .int a1]) (xQi G rr M L sz) 0 0 (xZ G sz) := by
  refine x_met (cc := cX0_howManyAt) (nL := 2) (rt := (some .int)) (by decide) (Nat.le_of_ble_eq_true rfl) ?_
  intro p e s m below meth c ls hsz E hl hI
  subst hsz
  have E : xE p s m _ meth c cX0_howManyAt 2 (some .int) RX0 G := E
  have hx := E.1
  have hb := E.2.1
  have hl : lv_has ls 2 [(0, .ref (xq G (i + 9) 0)), (1, .int a1)] := hl
  rw [f_X0_howManyAt] at hf
  refine lv_aload_n hx hb dX0_howManyAt_0 rfl (lv_at hl 0 rfl) ?_
  refine lv_iload_n hx hb dX0_howManyAt_1 rfl (lv_at hl 1 rfl) ?_
  obtain ⟨r2, g2, hf⟩ := xb1_s hf
  refine x_callVi (As := [.int a1]) (rest := []) E hI (mf_0 hi) rfl rfl rfl (c_X0_eggsAt l G _ (M := M) (L := L) (i := i) (hi := hi) (a1 := a1) g2) yv_X0_eggsAt ml_X0_77 (by decide) (by decide) rfl rfl hl.1 (Nat.le_of_ble_eq_true rfl) dX0_howManyAt_2 (fun H locs hI => ?_)
  obtain ⟨r5, g5, hf⟩ := xb1_s hf
  refine x_callSi (As := [.int r2]) (rest := []) E hI (c_J6_bitCount_0f7a4 l G _ (M := M) (L := L) (a0 := r2) g5) ys_J6_bitCount_0f7a4 ml_X0_80 (by decide) (by decide) rfl rfl hl.1 (Nat.le_of_ble_eq_true rfl) dX0_howManyAt_5 (fun H locs hI => ?_)
  obtain rfl := xinj1 hf
  exact x_iret E hI rfl dX0_howManyAt_8
theorem dX0_eggsInTrays_0 : decode cX0_eggsInTrays 0 = .ok (.iconst 0, 1) := by decide +kernel
theorem dX0_eggsInTrays_1 : decode cX0_eggsInTrays 1 = .ok (.istore_n 1, 1) := by decide +kernel
theorem dX0_eggsInTrays_2 : decode cX0_eggsInTrays 2 = .ok (.iconst 0, 1) := by decide +kernel
theorem dX0_eggsInTrays_3 : decode cX0_eggsInTrays 3 = .ok (.istore_n 2, 1) := by decide +kernel
theorem dX0_eggsInTrays_4 : decode cX0_eggsInTrays 4 = .ok (.iload_n 2, 1) := by decide +kernel
theorem dX0_eggsInTrays_5 : decode cX0_eggsInTrays 5 = .ok (.aload_n 0, 1) := by decide +kernel
theorem dX0_eggsInTrays_6 : decode cX0_eggsInTrays 6 = .ok (.getfield 27, 3) := by decide +kernel
theorem dX0_eggsInTrays_9 : decode cX0_eggsInTrays 9 = .ok (.getfield 47, 3) := by decide +kernel
theorem dX0_eggsInTrays_12 : decode cX0_eggsInTrays 12 = .ok (.if_icmp .ge 19, 3) := by decide +kernel
theorem dX0_eggsInTrays_15 : decode cX0_eggsInTrays 15 = .ok (.iload_n 1, 1) := by decide +kernel
theorem dX0_eggsInTrays_16 : decode cX0_eggsInTrays 16 = .ok (.aload_n 0, 1) := by decide +kernel
theorem dX0_eggsInTrays_17 : decode cX0_eggsInTrays 17 = .ok (.iload_n 2, 1) := by decide +kernel
theorem dX0_eggsInTrays_18 : decode cX0_eggsInTrays 18 = .ok (.iconst 1, 1) := by decide +kernel
theorem dX0_eggsInTrays_19 : decode cX0_eggsInTrays 19 = .ok (.iadd, 1) := by decide +kernel
theorem dX0_eggsInTrays_20 : decode cX0_eggsInTrays 20 = .ok (.invokevirtual 77, 3) := by decide +kernel
theorem dX0_eggsInTrays_23 : decode cX0_eggsInTrays 23 = .ok (.ior, 1) := by decide +kernel
theorem dX0_eggsInTrays_24 : decode cX0_eggsInTrays 24 = .ok (.istore_n 1, 1) := by decide +kernel
theorem dX0_eggsInTrays_25 : decode cX0_eggsInTrays 25 = .ok (.iinc 2 1, 3) := by decide +kernel
theorem dX0_eggsInTrays_28 : decode cX0_eggsInTrays 28 = .ok (.goto (-24), 3) := by decide +kernel
theorem dX0_eggsInTrays_31 : decode cX0_eggsInTrays 31 = .ok (.iload_n 1, 1) := by decide +kernel
theorem dX0_eggsInTrays_32 : decode cX0_eggsInTrays 32 = .ok (.ireturn, 1) := by decide +kernel
def f_X0_eggsInTrays_l4 (i : Nat) (M : xMem) : Nat → Int32 → Int32 → Option (Int32)
  | 0, _, _ => none
  | n + 1, v4_1, v4_2 => (if (M 3 0 0) ≤ v4_2 then some v4_1 else xb1 (f_X0_eggsAt i (v4_2 + (1 : Int32)) M) (fun r20 => (f_X0_eggsInTrays_l4 i M n) (v4_1 ||| r20) (v4_2 + (1 : Int32))))
def f_X0_eggsInTrays (i : Nat) (M : xMem) : Option (Int32) := (f_X0_eggsInTrays_l4 i M FU) (0 : Int32) (0 : Int32)
set_option maxHeartbeats 4000000 in
set_option maxRecDepth 100000 in
theorem w_X0_eggsInTrays_l4 {p : Program} {l : Launch} {e : Env} {s : State} {m : MethodId} {args : Array Value} {below : List Frame} {meth : Method} {c : Code} {G : xG} {rr : Int32} (E : xE p s m args meth c cX0_eggsInTrays 3 (some .int) RX0 G) (i : Nat) (M : xMem) (L : xLL) (hi : i < 21) : ∀ (n : Nat), ∀ (v4_1 : Int32) (v4_2 : Int32), f_X0_eggsInTrays_l4 i M n v4_1 v4_2 = some rr → ∀ (ls : Array Slot), lv_has ls 3 [(0, .ref (xq G (i + 9) 0)), (1, .int v4_1), (2, .int v4_2)] → ∀ (H : Heap) (locs : List Loc), xI G M L s.heap H locs → W p l e (xR 2) s m args below meth c H locs 0 0 (MQ below (xQi G rr M L s.heap.size) args s 0 0 (xZ G s.heap.size)) (F0 m 4 ls []) := by
  have hx := E.1
  have hb := E.2.1
  intro n
  induction n with
  | zero =>
    intro v4_1 v4_2 hf
    exact absurd hf (by simp [f_X0_eggsInTrays_l4])
  | succ n ih =>
    intro v4_1 v4_2 hf ls hl H locs hI
    rw [f_X0_eggsInTrays_l4] at hf
    refine lv_iload_n hx hb dX0_eggsInTrays_4 rfl (lv_at hl 2 rfl) ?_
    refine lv_aload_n hx hb dX0_eggsInTrays_5 rfl (lv_at hl 0 rfl) ?_
    refine gf_X0_27 E hI hi dX0_eggsInTrays_6 ?_
    refine gf_X0_47_3 E hI dX0_eggsInTrays_9 ?_
    refine lv_icmp_ge (tgt := 31) hx hb dX0_eggsInTrays_12 (by decide) (fun c12 => ?_) (fun c12 => ?_)
    · replace hf := xif_t c12 hf
      refine lv_iload_n hx hb dX0_eggsInTrays_31 rfl (lv_at hl 1 rfl) ?_
      obtain rfl := xinj1 hf
      exact x_iret E hI rfl dX0_eggsInTrays_32
    · replace hf := xif_f c12 hf
      refine lv_iload_n hx hb dX0_eggsInTrays_15 rfl (lv_at hl 1 rfl) ?_
      refine lv_aload_n hx hb dX0_eggsInTrays_16 rfl (lv_at hl 0 rfl) ?_
      refine lv_iload_n hx hb dX0_eggsInTrays_17 rfl (lv_at hl 2 rfl) ?_
      refine lv_iconst (v := 1) hx hb dX0_eggsInTrays_18 (by decide) ?_
      refine lv_iadd hx hb dX0_eggsInTrays_19 ?_
      obtain ⟨r20, g20, hf⟩ := xb1_s hf
      refine x_callVi (As := [.int (v4_2 + (1 : Int32))]) (rest := [.int v4_1]) E hI (mf_0 hi) rfl rfl rfl (c_X0_eggsAt l G _ (M := M) (L := L) (i := i) (hi := hi) (a1 := (v4_2 + (1 : Int32))) g20) yv_X0_eggsAt ml_X0_77 (by decide) (by decide) rfl rfl hl.1 (Nat.le_of_ble_eq_true rfl) dX0_eggsInTrays_20 (fun H locs hI => ?_)
      refine lv_ior hx hb dX0_eggsInTrays_23 ?_
      refine lv_istore_n (lv' := [(1, .int (v4_1 ||| r20)), (0, .ref (xq G (i + 9) 0)), (2, .int v4_2)]) hx hb dX0_eggsInTrays_24 rfl hl (by decide) rfl (fun ls hl => ?_)
      refine lv_iinc (v := (v4_2 + (1 : Int32))) (lv' := [(2, .int (v4_2 + (1 : Int32))), (1, .int (v4_1 ||| r20)), (0, .ref (xq G (i + 9) 0))]) hx hb dX0_eggsInTrays_25 hl (k := 2) rfl rfl (by decide) rfl (fun ls hl => ?_)
      refine lv_goto (tgt := 4) hx hb dX0_eggsInTrays_28 (by decide) ?_
      exact ih (v4_1 ||| r20) (v4_2 + (1 : Int32)) hf _ (lv_sub hl [2, 1, 0] rfl) _ _ hI
set_option maxHeartbeats 4000000 in
set_option maxRecDepth 100000 in
theorem c_X0_eggsInTrays (l : Launch) (G : xG) (sz : Nat) (M : xMem) (L : xLL) (i : Nat) (hi : i < 21) {rr : Int32} (hf : f_X0_eggsInTrays i M = some rr) : Met l yX0_eggsInTrays (Cond.code yX0_eggsInTrays cX0_eggsInTrays 3 (some .int) :: xTB) (xR 2) (xP G M L sz [.ref (xq G (i + 9) 0)]) (xQi G rr M L sz) 0 0 (xZ G sz) := by
  refine x_met (cc := cX0_eggsInTrays) (nL := 3) (rt := (some .int)) (by decide) (Nat.le_of_ble_eq_true rfl) ?_
  intro p e s m below meth c ls hsz E hl hI
  subst hsz
  have E : xE p s m _ meth c cX0_eggsInTrays 3 (some .int) RX0 G := E
  have hx := E.1
  have hb := E.2.1
  have hl : lv_has ls 3 [(0, .ref (xq G (i + 9) 0))] := hl
  rw [f_X0_eggsInTrays] at hf
  refine lv_iconst (v := 0) hx hb dX0_eggsInTrays_0 (by decide) ?_
  refine lv_istore_n (lv' := [(1, .int (0 : Int32)), (0, .ref (xq G (i + 9) 0))]) hx hb dX0_eggsInTrays_1 rfl hl (by decide) rfl (fun ls hl => ?_)
  refine lv_iconst (v := 0) hx hb dX0_eggsInTrays_2 (by decide) ?_
  refine lv_istore_n (lv' := [(2, .int (0 : Int32)), (1, .int (0 : Int32)), (0, .ref (xq G (i + 9) 0))]) hx hb dX0_eggsInTrays_3 rfl hl (by decide) rfl (fun ls hl => ?_)
  exact (w_X0_eggsInTrays_l4 E (i := i) (M := M) (L := L) (hi := hi) FU) (0 : Int32) (0 : Int32) hf _ (lv_sub hl [2, 1, 0] rfl) _ _ hI
theorem dX0_wholeInNest_0 : decode cX0_wholeInNest 0 = .ok (.iconst 0, 1) := by decide +kernel
theorem dX0_wholeInNest_1 : decode cX0_wholeInNest 1 = .ok (.istore_n 1, 1) := by decide +kernel
theorem dX0_wholeInNest_2 : decode cX0_wholeInNest 2 = .ok (.iconst 0, 1) := by decide +kernel
theorem dX0_wholeInNest_3 : decode cX0_wholeInNest 3 = .ok (.istore_n 2, 1) := by decide +kernel
theorem dX0_wholeInNest_4 : decode cX0_wholeInNest 4 = .ok (.iload_n 2, 1) := by decide +kernel
theorem dX0_wholeInNest_5 : decode cX0_wholeInNest 5 = .ok (.aload_n 0, 1) := by decide +kernel
theorem dX0_wholeInNest_6 : decode cX0_wholeInNest 6 = .ok (.getfield 27, 3) := by decide +kernel
theorem dX0_wholeInNest_9 : decode cX0_wholeInNest 9 = .ok (.getfield 94, 3) := by decide +kernel
theorem dX0_wholeInNest_12 : decode cX0_wholeInNest 12 = .ok (.if_icmp .ge 34, 3) := by decide +kernel
theorem dX0_wholeInNest_15 : decode cX0_wholeInNest 15 = .ok (.aload_n 0, 1) := by decide +kernel
theorem dX0_wholeInNest_16 : decode cX0_wholeInNest 16 = .ok (.getfield 9, 3) := by decide +kernel
theorem dX0_wholeInNest_19 : decode cX0_wholeInNest 19 = .ok (.iload_n 2, 1) := by decide +kernel
theorem dX0_wholeInNest_20 : decode cX0_wholeInNest 20 = .ok (.iaload, 1) := by decide +kernel
theorem dX0_wholeInNest_21 : decode cX0_wholeInNest 21 = .ok (.ifCond .ne 19, 3) := by decide +kernel
theorem dX0_wholeInNest_24 : decode cX0_wholeInNest 24 = .ok (.aload_n 0, 1) := by decide +kernel
theorem dX0_wholeInNest_25 : decode cX0_wholeInNest 25 = .ok (.getfield 27, 3) := by decide +kernel
theorem dX0_wholeInNest_28 : decode cX0_wholeInNest 28 = .ok (.getfield 100, 3) := by decide +kernel
theorem dX0_wholeInNest_31 : decode cX0_wholeInNest 31 = .ok (.iload_n 2, 1) := by decide +kernel
theorem dX0_wholeInNest_32 : decode cX0_wholeInNest 32 = .ok (.iaload, 1) := by decide +kernel
theorem dX0_wholeInNest_33 : decode cX0_wholeInNest 33 = .ok (.iconst 3, 1) := by decide +kernel
theorem dX0_wholeInNest_34 : decode cX0_wholeInNest 34 = .ok (.if_icmp .eq 6, 3) := by decide +kernel
theorem dX0_wholeInNest_37 : decode cX0_wholeInNest 37 = .ok (.iinc 1 1, 3) := by decide +kernel
theorem dX0_wholeInNest_40 : decode cX0_wholeInNest 40 = .ok (.iinc 2 1, 3) := by decide +kernel
theorem dX0_wholeInNest_43 : decode cX0_wholeInNest 43 = .ok (.goto (-39), 3) := by decide +kernel
theorem dX0_wholeInNest_46 : decode cX0_wholeInNest 46 = .ok (.iload_n 1, 1) := by decide +kernel
theorem dX0_wholeInNest_47 : decode cX0_wholeInNest 47 = .ok (.ireturn, 1) := by decide +kernel
def f_X0_wholeInNest_b40 (v4_2 : Int32) (k4 : Int32 → Int32 → Option (Int32)) (v40_1 : Int32) : Option (Int32) := k4 v40_1 (v4_2 + (1 : Int32))
def f_X0_wholeInNest_l4 (i : Nat) (M : xMem) : Nat → Int32 → Int32 → Option (Int32)
  | 0, _, _ => none
  | n + 1, v4_1, v4_2 => (if (M 3 0 1) ≤ v4_2 then some v4_1 else xchk (xb v4_2 6) ((if (M (i + 9) 2 v4_2.toNatClampNeg) = (0 : Int32) then xchk (xb v4_2 6) ((if (M 3 7 v4_2.toNatClampNeg) = (3 : Int32) then (f_X0_wholeInNest_b40 v4_2 (f_X0_wholeInNest_l4 i M n)) v4_1 else (f_X0_wholeInNest_b40 v4_2 (f_X0_wholeInNest_l4 i M n)) (v4_1 + (1 : Int32)))) else (f_X0_wholeInNest_b40 v4_2 (f_X0_wholeInNest_l4 i M n)) v4_1)))
def f_X0_wholeInNest (i : Nat) (M : xMem) : Option (Int32) := (f_X0_wholeInNest_l4 i M FU) (0 : Int32) (0 : Int32)
set_option maxHeartbeats 4000000 in
set_option maxRecDepth 100000 in
theorem w_X0_wholeInNest_b40 {p : Program} {l : Launch} {e : Env} {s : State} {m : MethodId} {args : Array Value} {below : List Frame} {meth : Method} {c : Code} {G : xG} {rr : Int32} (E : xE p s m args meth c cX0_wholeInNest 3 (some .int) RX0 G) (i : Nat) (M : xMem) (L : xLL) (v4_1 : Int32) (v4_2 : Int32) (k4 : Int32 → Int32 → Option (Int32)) (hk4 : ∀ (v4_1 : Int32) (v4_2 : Int32), k4 v4_1 v4_2 = some rr → ∀ (ls : Array Slot), lv_has ls 3 [(0, .ref (xq G (i + 9) 0)), (1, .int v4_1), (2, .int v4_2)] → ∀ (H : Heap) (locs : List Loc), xI G M L s.heap H locs → W p l e (xR 1) s m args below meth c H locs 0 0 (MQ below (xQi G rr M L s.heap.size) args s 0 0 (xZ G s.heap.size)) (F0 m 4 ls [])) : ∀ (v40_1 : Int32), f_X0_wholeInNest_b40 v4_2 k4 v40_1 = some rr → ∀ (ls : Array Slot), lv_has ls 3 [(0, .ref (xq G (i + 9) 0)), (1, .int v40_1), (2, .int v4_2)] → ∀ (H : Heap) (locs : List Loc), xI G M L s.heap H locs → W p l e (xR 1) s m args below meth c H locs 0 0 (MQ below (xQi G rr M L s.heap.size) args s 0 0 (xZ G s.heap.size)) (F0 m 40 ls []) := by
  have hx := E.1
  have hb := E.2.1
  intro v40_1 hf ls hl H locs hI
  rw [f_X0_wholeInNest_b40] at hf
  refine lv_iinc (v := (v4_2 + (1 : Int32))) (lv' := [(2, .int (v4_2 + (1 : Int32))), (0, .ref (xq G (i + 9) 0)), (1, .int v40_1)]) hx hb dX0_wholeInNest_40 hl (k := 2) rfl rfl (by decide) rfl (fun ls hl => ?_)
  refine lv_goto (tgt := 4) hx hb dX0_wholeInNest_43 (by decide) ?_
  exact hk4 v40_1 (v4_2 + (1 : Int32)) hf _ (lv_sub hl [1, 2, 0] rfl) _ _ hI
set_option maxHeartbeats 4000000 in
set_option maxRecDepth 100000 in
theorem w_X0_wholeInNest_l4 {p : Program} {l : Launch} {e : Env} {s : State} {m : MethodId} {args : Array Value} {below : List Frame} {meth : Method} {c : Code} {G : xG} {rr : Int32} (E : xE p s m args meth c cX0_wholeInNest 3 (some .int) RX0 G) (i : Nat) (M : xMem) (L : xLL) (hi : i < 21) : ∀ (n : Nat), ∀ (v4_1 : Int32) (v4_2 : Int32), f_X0_wholeInNest_l4 i M n v4_1 v4_2 = some rr → ∀ (ls : Array Slot), lv_has ls 3 [(0, .ref (xq G (i + 9) 0)), (1, .int v4_1), (2, .int v4_2)] → ∀ (H : Heap) (locs : List Loc), xI G M L s.heap H locs → W p l e (xR 1) s m args below meth c H locs 0 0 (MQ below (xQi G rr M L s.heap.size) args s 0 0 (xZ G s.heap.size)) (F0 m 4 ls []) := by
  have hx := E.1
  have hb := E.2.1
  intro n
  induction n with
  | zero =>
    intro v4_1 v4_2 hf
    exact absurd hf (by simp [f_X0_wholeInNest_l4])
  | succ n ih =>
    intro v4_1 v4_2 hf ls hl H locs hI
    rw [f_X0_wholeInNest_l4] at hf
    refine lv_iload_n hx hb dX0_wholeInNest_4 rfl (lv_at hl 2 rfl) ?_
    refine lv_aload_n hx hb dX0_wholeInNest_5 rfl (lv_at hl 0 rfl) ?_
    refine gf_X0_27 E hI hi dX0_wholeInNest_6 ?_
    refine gf_X0_94_3 E hI dX0_wholeInNest_9 ?_
    refine lv_icmp_ge (tgt := 46) hx hb dX0_wholeInNest_12 (by decide) (fun c12 => ?_) (fun c12 => ?_)
    · replace hf := xif_t c12 hf
      refine lv_iload_n hx hb dX0_wholeInNest_46 rfl (lv_at hl 1 rfl) ?_
      obtain rfl := xinj1 hf
      exact x_iret E hI rfl dX0_wholeInNest_47
    · replace hf := xif_f c12 hf
      refine lv_aload_n hx hb dX0_wholeInNest_15 rfl (lv_at hl 0 rfl) ?_
      refine gf_X0_9 E hI hi dX0_wholeInNest_16 ?_
      refine lv_iload_n hx hb dX0_wholeInNest_19 rfl (lv_at hl 2 rfl) ?_
      obtain ⟨h20b, hf⟩ := xchk_s hf
      refine x_iald (n := 6) E hI (mf_2 hi) (fun _ _ => rfl) h20b dX0_wholeInNest_20 ?_
      refine lv_if_ne (tgt := 40) hx hb dX0_wholeInNest_21 (by decide) (fun c21 => ?_) (fun c21 => ?_)
      · replace hf := xif_f c21 hf
        exact (w_X0_wholeInNest_b40 E (i := i) (M := M) (L := L) (v4_1 := v4_1) (v4_2 := v4_2) (k4 := (f_X0_wholeInNest_l4 i M n)) (hk4 := ih)) v4_1 hf _ (lv_sub hl [0, 1, 2] rfl) _ _ hI
      · replace hf := xif_t c21 hf
        refine lv_aload_n hx hb dX0_wholeInNest_24 rfl (lv_at hl 0 rfl) ?_
        refine gf_X0_27 E hI hi dX0_wholeInNest_25 ?_
        refine gf_X0_100_3 E hI dX0_wholeInNest_28 ?_
        refine lv_iload_n hx hb dX0_wholeInNest_31 rfl (lv_at hl 2 rfl) ?_
        obtain ⟨h32b, hf⟩ := xchk_s hf
        refine x_iald (n := 6) E hI mx_3_7 (fun _ _ => rfl) h32b dX0_wholeInNest_32 ?_
        refine lv_iconst (v := 3) hx hb dX0_wholeInNest_33 (by decide) ?_
        refine lv_icmp_eq (tgt := 40) hx hb dX0_wholeInNest_34 (by decide) (fun c34 => ?_) (fun c34 => ?_)
        · replace hf := xif_t c34 hf
          exact (w_X0_wholeInNest_b40 E (i := i) (M := M) (L := L) (v4_1 := v4_1) (v4_2 := v4_2) (k4 := (f_X0_wholeInNest_l4 i M n)) (hk4 := ih)) v4_1 hf _ (lv_sub hl [0, 1, 2] rfl) _ _ hI
        · replace hf := xif_f c34 hf
          refine lv_iinc (v := (v4_1 + (1 : Int32))) (lv' := [(1, .int (v4_1 + (1 : Int32))), (0, .ref (xq G (i + 9) 0)), (2, .int v4_2)]) hx hb dX0_wholeInNest_37 hl (k := 1) rfl rfl (by decide) rfl (fun ls hl => ?_)
          exact (w_X0_wholeInNest_b40 E (i := i) (M := M) (L := L) (v4_1 := v4_1) (v4_2 := v4_2) (k4 := (f_X0_wholeInNest_l4 i M n)) (hk4 := ih)) (v4_1 + (1 : Int32)) hf _ (lv_sub hl [1, 0, 2] rfl) _ _ hI
set_option maxHeartbeats 4000000 in
set_option maxRecDepth 100000 in
theorem c_X0_wholeInNest (l : Launch) (G : xG) (sz : Nat) (M : xMem) (L : xLL) (i : Nat) (hi : i < 21) {rr : Int32} (hf : f_X0_wholeInNest i M = some rr) : Met l yX0_wholeInNest (Cond.code yX0_wholeInNest cX0_wholeInNest 3 (some .int) :: xTB) (xR 1) (xP G M L sz [.ref (xq G (i + 9) 0)]) (xQi G rr M L sz) 0 0 (xZ G sz) := by
  refine x_met (cc := cX0_wholeInNest) (nL := 3) (rt := (some .int)) (by decide) (Nat.le_of_ble_eq_true rfl) ?_
  intro p e s m below meth c ls hsz E hl hI
  subst hsz
  have E : xE p s m _ meth c cX0_wholeInNest 3 (some .int) RX0 G := E
  have hx := E.1
  have hb := E.2.1
  have hl : lv_has ls 3 [(0, .ref (xq G (i + 9) 0))] := hl
  rw [f_X0_wholeInNest] at hf
  refine lv_iconst (v := 0) hx hb dX0_wholeInNest_0 (by decide) ?_
  refine lv_istore_n (lv' := [(1, .int (0 : Int32)), (0, .ref (xq G (i + 9) 0))]) hx hb dX0_wholeInNest_1 rfl hl (by decide) rfl (fun ls hl => ?_)
  refine lv_iconst (v := 0) hx hb dX0_wholeInNest_2 (by decide) ?_
  refine lv_istore_n (lv' := [(2, .int (0 : Int32)), (1, .int (0 : Int32)), (0, .ref (xq G (i + 9) 0))]) hx hb dX0_wholeInNest_3 rfl hl (by decide) rfl (fun ls hl => ?_)
  exact (w_X0_wholeInNest_l4 E (i := i) (M := M) (L := L) (hi := hi) FU) (0 : Int32) (0 : Int32) hf _ (lv_sub hl [2, 1, 0] rfl) _ _ hI
theorem dX0_gramsOf_0 : decode cX0_gramsOf 0 = .ok (.iconst 0, 1) := by decide +kernel
theorem dX0_gramsOf_1 : decode cX0_gramsOf 1 = .ok (.istore_n 2, 1) := by decide +kernel
theorem dX0_gramsOf_2 : decode cX0_gramsOf 2 = .ok (.iconst 0, 1) := by decide +kernel
theorem dX0_gramsOf_3 : decode cX0_gramsOf 3 = .ok (.istore_n 3, 1) := by decide +kernel
theorem dX0_gramsOf_4 : decode cX0_gramsOf 4 = .ok (.iload_n 3, 1) := by decide +kernel
theorem dX0_gramsOf_5 : decode cX0_gramsOf 5 = .ok (.aload_n 0, 1) := by decide +kernel
theorem dX0_gramsOf_6 : decode cX0_gramsOf 6 = .ok (.getfield 27, 3) := by decide +kernel
theorem dX0_gramsOf_9 : decode cX0_gramsOf 9 = .ok (.getfield 94, 3) := by decide +kernel
theorem dX0_gramsOf_12 : decode cX0_gramsOf 12 = .ok (.if_icmp .ge 27, 3) := by decide +kernel
theorem dX0_gramsOf_15 : decode cX0_gramsOf 15 = .ok (.iload_n 1, 1) := by decide +kernel
theorem dX0_gramsOf_16 : decode cX0_gramsOf 16 = .ok (.iload_n 3, 1) := by decide +kernel
theorem dX0_gramsOf_17 : decode cX0_gramsOf 17 = .ok (.ishr, 1) := by decide +kernel
theorem dX0_gramsOf_18 : decode cX0_gramsOf 18 = .ok (.iconst 1, 1) := by decide +kernel
theorem dX0_gramsOf_19 : decode cX0_gramsOf 19 = .ok (.iand, 1) := by decide +kernel
theorem dX0_gramsOf_20 : decode cX0_gramsOf 20 = .ok (.iconst 1, 1) := by decide +kernel
theorem dX0_gramsOf_21 : decode cX0_gramsOf 21 = .ok (.if_icmp .ne 12, 3) := by decide +kernel
theorem dX0_gramsOf_24 : decode cX0_gramsOf 24 = .ok (.iload_n 2, 1) := by decide +kernel
theorem dX0_gramsOf_25 : decode cX0_gramsOf 25 = .ok (.aload_n 0, 1) := by decide +kernel
theorem dX0_gramsOf_26 : decode cX0_gramsOf 26 = .ok (.getfield 15, 3) := by decide +kernel
theorem dX0_gramsOf_29 : decode cX0_gramsOf 29 = .ok (.iload_n 3, 1) := by decide +kernel
theorem dX0_gramsOf_30 : decode cX0_gramsOf 30 = .ok (.iaload, 1) := by decide +kernel
theorem dX0_gramsOf_31 : decode cX0_gramsOf 31 = .ok (.iadd, 1) := by decide +kernel
theorem dX0_gramsOf_32 : decode cX0_gramsOf 32 = .ok (.istore_n 2, 1) := by decide +kernel
theorem dX0_gramsOf_33 : decode cX0_gramsOf 33 = .ok (.iinc 3 1, 3) := by decide +kernel
theorem dX0_gramsOf_36 : decode cX0_gramsOf 36 = .ok (.goto (-32), 3) := by decide +kernel
theorem dX0_gramsOf_39 : decode cX0_gramsOf 39 = .ok (.iload_n 2, 1) := by decide +kernel
theorem dX0_gramsOf_40 : decode cX0_gramsOf 40 = .ok (.ireturn, 1) := by decide +kernel
def f_X0_gramsOf_b33 (v4_3 : Int32) (k4 : Int32 → Int32 → Option (Int32)) (v33_2 : Int32) : Option (Int32) := k4 v33_2 (v4_3 + (1 : Int32))
def f_X0_gramsOf_l4 (i : Nat) (a1 : Int32) (M : xMem) : Nat → Int32 → Int32 → Option (Int32)
  | 0, _, _ => none
  | n + 1, v4_2, v4_3 => (if (M 3 0 1) ≤ v4_3 then some v4_2 else (if ((a1 >>> (v4_3 &&& 31)) &&& (1 : Int32)) = (1 : Int32) then xchk (xb v4_3 6) ((f_X0_gramsOf_b33 v4_3 (f_X0_gramsOf_l4 i a1 M n)) (v4_2 + (M (i + 9) 3 v4_3.toNatClampNeg))) else (f_X0_gramsOf_b33 v4_3 (f_X0_gramsOf_l4 i a1 M n)) v4_2))
def f_X0_gramsOf (i : Nat) (a1 : Int32) (M : xMem) : Option (Int32) := (f_X0_gramsOf_l4 i a1 M FU) (0 : Int32) (0 : Int32)
set_option maxHeartbeats 4000000 in
set_option maxRecDepth 100000 in
theorem w_X0_gramsOf_b33 {p : Program} {l : Launch} {e : Env} {s : State} {m : MethodId} {args : Array Value} {below : List Frame} {meth : Method} {c : Code} {G : xG} {rr : Int32} (E : xE p s m args meth c cX0_gramsOf 4 (some .int) RX0 G) (i : Nat) (a1 : Int32) (M : xMem) (L : xLL) (v4_2 : Int32) (v4_3 : Int32) (k4 : Int32 → Int32 → Option (Int32)) (hk4 : ∀ (v4_2 : Int32) (v4_3 : Int32), k4 v4_2 v4_3 = some rr → ∀ (ls : Array Slot), lv_has ls 4 [(0, .ref (xq G (i + 9) 0)), (1, .int a1), (2, .int v4_2), (3, .int v4_3)] → ∀ (H : Heap) (locs : List Loc), xI G M L s.heap H locs → W p l e (xR 1) s m args below meth c H locs 0 0 (MQ below (xQi G rr M L s.heap.size) args s 0 0 (xZ G s.heap.size)) (F0 m 4 ls [])) : ∀ (v33_2 : Int32), f_X0_gramsOf_b33 v4_3 k4 v33_2 = some rr → ∀ (ls : Array Slot), lv_has ls 4 [(0, .ref (xq G (i + 9) 0)), (1, .int a1), (2, .int v33_2), (3, .int v4_3)] → ∀ (H : Heap) (locs : List Loc), xI G M L s.heap H locs → W p l e (xR 1) s m args below meth c H locs 0 0 (MQ below (xQi G rr M L s.heap.size) args s 0 0 (xZ G s.heap.size)) (F0 m 33 ls []) := by
  have hx := E.1
  have hb := E.2.1
  intro v33_2 hf ls hl H locs hI
  rw [f_X0_gramsOf_b33] at hf
  refine lv_iinc (v := (v4_3 + (1 : Int32))) (lv' := [(3, .int (v4_3 + (1 : Int32))), (0, .ref (xq G (i + 9) 0)), (1, .int a1), (2, .int v33_2)]) hx hb dX0_gramsOf_33 hl (k := 3) rfl rfl (by decide) rfl (fun ls hl => ?_)
  refine lv_goto (tgt := 4) hx hb dX0_gramsOf_36 (by decide) ?_
  exact hk4 v33_2 (v4_3 + (1 : Int32)) hf _ (lv_sub hl [1, 2, 3, 0] rfl) _ _ hI
set_option maxHeartbeats 4000000 in
set_option maxRecDepth 100000 in
theorem w_X0_gramsOf_l4 {p : Program} {l : Launch} {e : Env} {s : State} {m : MethodId} {args : Array Value} {below : List Frame} {meth : Method} {c : Code} {G : xG} {rr : Int32} (E : xE p s m args meth c cX0_gramsOf 4 (some .int) RX0 G) (i : Nat) (a1 : Int32) (M : xMem) (L : xLL) (hi : i < 21) : ∀ (n : Nat), ∀ (v4_2 : Int32) (v4_3 : Int32), f_X0_gramsOf_l4 i a1 M n v4_2 v4_3 = some rr → ∀ (ls : Array Slot), lv_has ls 4 [(0, .ref (xq G (i + 9) 0)), (1, .int a1), (2, .int v4_2), (3, .int v4_3)] → ∀ (H : Heap) (locs : List Loc), xI G M L s.heap H locs → W p l e (xR 1) s m args below meth c H locs 0 0 (MQ below (xQi G rr M L s.heap.size) args s 0 0 (xZ G s.heap.size)) (F0 m 4 ls []) := by
  have hx := E.1
  have hb := E.2.1
  intro n
  induction n with
  | zero =>
    intro v4_2 v4_3 hf
    exact absurd hf (by simp [f_X0_gramsOf_l4])
  | succ n ih =>
    intro v4_2 v4_3 hf ls hl H locs hI
    rw [f_X0_gramsOf_l4] at hf
    refine lv_iload_n hx hb dX0_gramsOf_4 rfl (lv_at hl 3 rfl) ?_
    refine lv_aload_n hx hb dX0_gramsOf_5 rfl (lv_at hl 0 rfl) ?_
    refine gf_X0_27 E hI hi dX0_gramsOf_6 ?_
    refine gf_X0_94_3 E hI dX0_gramsOf_9 ?_
    refine lv_icmp_ge (tgt := 39) hx hb dX0_gramsOf_12 (by decide) (fun c12 => ?_) (fun c12 => ?_)
    · replace hf := xif_t c12 hf
      refine lv_iload_n hx hb dX0_gramsOf_39 rfl (lv_at hl 2 rfl) ?_
      obtain rfl := xinj1 hf
      exact x_iret E hI rfl dX0_gramsOf_40
    · replace hf := xif_f c12 hf
      refine lv_iload_n hx hb dX0_gramsOf_15 rfl (lv_at hl 1 rfl) ?_
      refine lv_iload_n hx hb dX0_gramsOf_16 rfl (lv_at hl 3 rfl) ?_
      refine lv_ishr hx hb dX0_gramsOf_17 ?_
      refine lv_iconst (v := 1) hx hb dX0_gramsOf_18 (by decide) ?_
      refine lv_iand hx hb dX0_gramsOf_19 ?_
      refine lv_iconst (v := 1) hx hb dX0_gramsOf_20 (by decide) ?_
      refine lv_icmp_ne (tgt := 33) hx hb dX0_gramsOf_21 (by decide) (fun c21 => ?_) (fun c21 => ?_)
      · replace hf := xif_f c21 hf
        exact (w_X0_gramsOf_b33 E (i := i) (a1 := a1) (M := M) (L := L) (v4_2 := v4_2) (v4_3 := v4_3) (k4 := (f_X0_gramsOf_l4 i a1 M n)) (hk4 := ih)) v4_2 hf _ (lv_sub hl [0, 1, 2, 3] rfl) _ _ hI
      · replace hf := xif_t c21 hf
        refine lv_iload_n hx hb dX0_gramsOf_24 rfl (lv_at hl 2 rfl) ?_
        refine lv_aload_n hx hb dX0_gramsOf_25 rfl (lv_at hl 0 rfl) ?_
        refine gf_X0_15 E hI hi dX0_gramsOf_26 ?_
        refine lv_iload_n hx hb dX0_gramsOf_29 rfl (lv_at hl 3 rfl) ?_
        obtain ⟨h30b, hf⟩ := xchk_s hf
        refine x_iald (n := 6) E hI (mf_3 hi) (fun _ _ => rfl) h30b dX0_gramsOf_30 ?_
        refine lv_iadd hx hb dX0_gramsOf_31 ?_
        refine lv_istore_n (lv' := [(2, .int (v4_2 + (M (i + 9) 3 v4_3.toNatClampNeg))), (0, .ref (xq G (i + 9) 0)), (1, .int a1), (3, .int v4_3)]) hx hb dX0_gramsOf_32 rfl hl (by decide) rfl (fun ls hl => ?_)
        exact (w_X0_gramsOf_b33 E (i := i) (a1 := a1) (M := M) (L := L) (v4_2 := v4_2) (v4_3 := v4_3) (k4 := (f_X0_gramsOf_l4 i a1 M n)) (hk4 := ih)) (v4_2 + (M (i + 9) 3 v4_3.toNatClampNeg)) hf _ (lv_sub hl [1, 2, 0, 3] rfl) _ _ hI
set_option maxHeartbeats 4000000 in
set_option maxRecDepth 100000 in
theorem c_X0_gramsOf (l : Launch) (G : xG) (sz : Nat) (M : xMem) (L : xLL) (i : Nat) (a1 : Int32) (hi : i < 21) {rr : Int32} (hf : f_X0_gramsOf i a1 M = some rr) : Met l yX0_gramsOf (Cond.code yX0_gramsOf cX0_gramsOf 4 (some .int) :: xTB) (xR 1) (xP G M L sz [.ref (xq G (i + 9) 0), .int a1]) (xQi G rr M L sz) 0 0 (xZ G sz) := by
  refine x_met (cc := cX0_gramsOf) (nL := 4) (rt := (some .int)) (by decide) (Nat.le_of_ble_eq_true rfl) ?_
  intro p e s m below meth c ls hsz E hl hI
  subst hsz
  have E : xE p s m _ meth c cX0_gramsOf 4 (some .int) RX0 G := E
  have hx := E.1
  have hb := E.2.1
  have hl : lv_has ls 4 [(0, .ref (xq G (i + 9) 0)), (1, .int a1)] := hl
  rw [f_X0_gramsOf] at hf
  refine lv_iconst (v := 0) hx hb dX0_gramsOf_0 (by decide) ?_
  refine lv_istore_n (lv' := [(2, .int (0 : Int32)), (0, .ref (xq G (i + 9) 0)), (1, .int a1)]) hx hb dX0_gramsOf_1 rfl hl (by decide) rfl (fun ls hl => ?_)
  refine lv_iconst (v := 0) hx hb dX0_gramsOf_2 (by decide) ?_
  refine lv_istore_n (lv' := [(3, .int (0 : Int32)), (2, .int (0 : Int32)), (0, .ref (xq G (i + 9) 0)), (1, .int a1)]) hx hb dX0_gramsOf_3 rfl hl (by decide) rfl (fun ls hl => ?_)
  exact (w_X0_gramsOf_l4 E (i := i) (a1 := a1) (M := M) (L := L) (hi := hi) FU) (0 : Int32) (0 : Int32) hf _ (lv_sub hl [2, 3, 1, 0] rfl) _ _ hI
theorem dX0_allFallen_0 : decode cX0_allFallen 0 = .ok (.iconst 0, 1) := by decide +kernel
theorem dX0_allFallen_1 : decode cX0_allFallen 1 = .ok (.istore_n 1, 1) := by decide +kernel
theorem dX0_allFallen_2 : decode cX0_allFallen 2 = .ok (.iconst 0, 1) := by decide +kernel
theorem dX0_allFallen_3 : decode cX0_allFallen 3 = .ok (.istore_n 2, 1) := by decide +kernel
theorem dX0_allFallen_4 : decode cX0_allFallen 4 = .ok (.iload_n 2, 1) := by decide +kernel
theorem dX0_allFallen_5 : decode cX0_allFallen 5 = .ok (.aload_n 0, 1) := by decide +kernel
theorem dX0_allFallen_6 : decode cX0_allFallen 6 = .ok (.getfield 27, 3) := by decide +kernel
theorem dX0_allFallen_9 : decode cX0_allFallen 9 = .ok (.getfield 47, 3) := by decide +kernel
theorem dX0_allFallen_12 : decode cX0_allFallen 12 = .ok (.if_icmp .ge 18, 3) := by decide +kernel
theorem dX0_allFallen_15 : decode cX0_allFallen 15 = .ok (.iload_n 1, 1) := by decide +kernel
theorem dX0_allFallen_16 : decode cX0_allFallen 16 = .ok (.aload_n 0, 1) := by decide +kernel
theorem dX0_allFallen_17 : decode cX0_allFallen 17 = .ok (.getfield 24, 3) := by decide +kernel
theorem dX0_allFallen_20 : decode cX0_allFallen 20 = .ok (.iload_n 2, 1) := by decide +kernel
theorem dX0_allFallen_21 : decode cX0_allFallen 21 = .ok (.iaload, 1) := by decide +kernel
theorem dX0_allFallen_22 : decode cX0_allFallen 22 = .ok (.iadd, 1) := by decide +kernel
theorem dX0_allFallen_23 : decode cX0_allFallen 23 = .ok (.istore_n 1, 1) := by decide +kernel
theorem dX0_allFallen_24 : decode cX0_allFallen 24 = .ok (.iinc 2 1, 3) := by decide +kernel
theorem dX0_allFallen_27 : decode cX0_allFallen 27 = .ok (.goto (-23), 3) := by decide +kernel
theorem dX0_allFallen_30 : decode cX0_allFallen 30 = .ok (.iload_n 1, 1) := by decide +kernel
theorem dX0_allFallen_31 : decode cX0_allFallen 31 = .ok (.ireturn, 1) := by decide +kernel
def f_X0_allFallen_l4 (i : Nat) (M : xMem) : Nat → Int32 → Int32 → Option (Int32)
  | 0, _, _ => none
  | n + 1, v4_1, v4_2 => (if (M 3 0 0) ≤ v4_2 then some v4_1 else xchk (xb v4_2 5) ((f_X0_allFallen_l4 i M n) (v4_1 + (M (i + 9) 6 v4_2.toNatClampNeg)) (v4_2 + (1 : Int32))))
def f_X0_allFallen (i : Nat) (M : xMem) : Option (Int32) := (f_X0_allFallen_l4 i M FU) (0 : Int32) (0 : Int32)
set_option maxHeartbeats 4000000 in
set_option maxRecDepth 100000 in
theorem w_X0_allFallen_l4 {p : Program} {l : Launch} {e : Env} {s : State} {m : MethodId} {args : Array Value} {below : List Frame} {meth : Method} {c : Code} {G : xG} {rr : Int32} (E : xE p s m args meth c cX0_allFallen 3 (some .int) RX0 G) (i : Nat) (M : xMem) (L : xLL) (hi : i < 21) : ∀ (n : Nat), ∀ (v4_1 : Int32) (v4_2 : Int32), f_X0_allFallen_l4 i M n v4_1 v4_2 = some rr → ∀ (ls : Array Slot), lv_has ls 3 [(0, .ref (xq G (i + 9) 0)), (1, .int v4_1), (2, .int v4_2)] → ∀ (H : Heap) (locs : List Loc), xI G M L s.heap H locs → W p l e (xR 1) s m args below meth c H locs 0 0 (MQ below (xQi G rr M L s.heap.size) args s 0 0 (xZ G s.heap.size)) (F0 m 4 ls []) := by
  have hx := E.1
  have hb := E.2.1
  intro n
  induction n with
  | zero =>
    intro v4_1 v4_2 hf
    exact absurd hf (by simp [f_X0_allFallen_l4])
  | succ n ih =>
    intro v4_1 v4_2 hf ls hl H locs hI
    rw [f_X0_allFallen_l4] at hf
    refine lv_iload_n hx hb dX0_allFallen_4 rfl (lv_at hl 2 rfl) ?_
    refine lv_aload_n hx hb dX0_allFallen_5 rfl (lv_at hl 0 rfl) ?_
    refine gf_X0_27 E hI hi dX0_allFallen_6 ?_
    refine gf_X0_47_3 E hI dX0_allFallen_9 ?_
    refine lv_icmp_ge (tgt := 30) hx hb dX0_allFallen_12 (by decide) (fun c12 => ?_) (fun c12 => ?_)
    · replace hf := xif_t c12 hf
      refine lv_iload_n hx hb dX0_allFallen_30 rfl (lv_at hl 1 rfl) ?_
      obtain rfl := xinj1 hf
      exact x_iret E hI rfl dX0_allFallen_31
    · replace hf := xif_f c12 hf
      refine lv_iload_n hx hb dX0_allFallen_15 rfl (lv_at hl 1 rfl) ?_
      refine lv_aload_n hx hb dX0_allFallen_16 rfl (lv_at hl 0 rfl) ?_
      refine gf_X0_24 E hI hi dX0_allFallen_17 ?_
      refine lv_iload_n hx hb dX0_allFallen_20 rfl (lv_at hl 2 rfl) ?_
      obtain ⟨h21b, hf⟩ := xchk_s hf
      refine x_iald (n := 5) E hI (mf_6 hi) (fun _ _ => rfl) h21b dX0_allFallen_21 ?_
      refine lv_iadd hx hb dX0_allFallen_22 ?_
      refine lv_istore_n (lv' := [(1, .int (v4_1 + (M (i + 9) 6 v4_2.toNatClampNeg))), (0, .ref (xq G (i + 9) 0)), (2, .int v4_2)]) hx hb dX0_allFallen_23 rfl hl (by decide) rfl (fun ls hl => ?_)
      refine lv_iinc (v := (v4_2 + (1 : Int32))) (lv' := [(2, .int (v4_2 + (1 : Int32))), (1, .int (v4_1 + (M (i + 9) 6 v4_2.toNatClampNeg))), (0, .ref (xq G (i + 9) 0))]) hx hb dX0_allFallen_24 hl (k := 2) rfl rfl (by decide) rfl (fun ls hl => ?_)
      refine lv_goto (tgt := 4) hx hb dX0_allFallen_27 (by decide) ?_
      exact ih (v4_1 + (M (i + 9) 6 v4_2.toNatClampNeg)) (v4_2 + (1 : Int32)) hf _ (lv_sub hl [2, 1, 0] rfl) _ _ hI
set_option maxHeartbeats 4000000 in
set_option maxRecDepth 100000 in
theorem c_X0_allFallen (l : Launch) (G : xG) (sz : Nat) (M : xMem) (L : xLL) (i : Nat) (hi : i < 21) {rr : Int32} (hf : f_X0_allFallen i M = some rr) : Met l yX0_allFallen (Cond.code yX0_allFallen cX0_allFallen 3 (some .int) :: xTB) (xR 1) (xP G M L sz [.ref (xq G (i + 9) 0)]) (xQi G rr M L sz) 0 0 (xZ G sz) := by
  refine x_met (cc := cX0_allFallen) (nL := 3) (rt := (some .int)) (by decide) (Nat.le_of_ble_eq_true rfl) ?_
  intro p e s m below meth c ls hsz E hl hI
  subst hsz
  have E : xE p s m _ meth c cX0_allFallen 3 (some .int) RX0 G := E
  have hx := E.1
  have hb := E.2.1
  have hl : lv_has ls 3 [(0, .ref (xq G (i + 9) 0))] := hl
  rw [f_X0_allFallen] at hf
  refine lv_iconst (v := 0) hx hb dX0_allFallen_0 (by decide) ?_
  refine lv_istore_n (lv' := [(1, .int (0 : Int32)), (0, .ref (xq G (i + 9) 0))]) hx hb dX0_allFallen_1 rfl hl (by decide) rfl (fun ls hl => ?_)
  refine lv_iconst (v := 0) hx hb dX0_allFallen_2 (by decide) ?_
  refine lv_istore_n (lv' := [(2, .int (0 : Int32)), (1, .int (0 : Int32)), (0, .ref (xq G (i + 9) 0))]) hx hb dX0_allFallen_3 rfl hl (by decide) rfl (fun ls hl => ?_)
  exact (w_X0_allFallen_l4 E (i := i) (M := M) (L := L) (hi := hi) FU) (0 : Int32) (0 : Int32) hf _ (lv_sub hl [2, 1, 0] rfl) _ _ hI
