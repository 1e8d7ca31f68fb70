theorem y_ha_int (N : Nat) : ∀ cA : ClassId, vp_cell cA (N, .inl cz) = arrV cA N (fun _ => defaultValue .int) := fun _ => rfl
theorem y_ha_char (N : Nat) : ∀ cA : ClassId, vp_cell cA (N, .inl cz) = arrV cA N (fun _ => defaultValue .char) := fun _ => rfl
theorem y_ha_boolean (N : Nat) : ∀ cA : ClassId, vp_cell cA (N, .inl cz) = arrV cA N (fun _ => defaultValue .boolean) := fun _ => rfl
theorem y_sm_int {s : State} {cA cB : ClassId} (h1 : va_RA s cA .int) (h2 : va_RA s cB .int) : cA = cB := by
  have g1 : s.vm.findClass ("[" ++ FieldType.int.toString) = some cA := h1
  have g2 : s.vm.findClass ("[" ++ FieldType.int.toString) = some cB := h2
  exact Option.some.inj (g1.symm.trans g2)
theorem y_sm_char {s : State} {cA cB : ClassId} (h1 : va_RA s cA .char) (h2 : va_RA s cB .char) : cA = cB := by
  have g1 : s.vm.findClass ("[" ++ FieldType.char.toString) = some cA := h1
  have g2 : s.vm.findClass ("[" ++ FieldType.char.toString) = some cB := h2
  exact Option.some.inj (g1.symm.trans g2)
theorem y_sm_boolean {s : State} {cA cB : ClassId} (h1 : va_RA s cA .boolean) (h2 : va_RA s cB .boolean) : cA = cB := by
  have g1 : s.vm.findClass ("[" ++ FieldType.boolean.toString) = some cA := h1
  have g2 : s.vm.findClass ("[" ++ FieldType.boolean.toString) = some cB := h2
  exact Option.some.inj (g1.symm.trans g2)
theorem va_D_set {A : Nat → Prop} {ws : va_W} {k a : Nat} {e e2 : va_E} (hD : va_D A ws) (hk : ws[k]? = some (a, e)) : va_D A (ws.set k (a, e2)) := hD.set hk
theorem dX6_init_0 : decode cX6_init 0 = .ok (.aload_n 0, 1) := by decide +kernel
theorem dX6_init_1 : decode cX6_init 1 = .ok (.invokespecial 3, 3) := by decide +kernel
theorem dX6_init_4 : decode cX6_init 4 = .ok (.aload_n 0, 1) := by decide +kernel
theorem dX6_init_5 : decode cX6_init 5 = .ok (.iconst 5, 1) := by decide +kernel
theorem dX6_init_6 : decode cX6_init 6 = .ok (.newarray .int, 2) := by decide +kernel
theorem dX6_init_8 : decode cX6_init 8 = .ok (.putfield 9, 3) := by decide +kernel
theorem dX6_init_11 : decode cX6_init 11 = .ok (.aload_n 0, 1) := by decide +kernel
theorem dX6_init_12 : decode cX6_init 12 = .ok (.iconst 5, 1) := by decide +kernel
theorem dX6_init_13 : decode cX6_init 13 = .ok (.newarray .int, 2) := by decide +kernel
theorem dX6_init_15 : decode cX6_init 15 = .ok (.putfield 15, 3) := by decide +kernel
theorem dX6_init_18 : decode cX6_init 18 = .ok (.aload_n 0, 1) := by decide +kernel
theorem dX6_init_19 : decode cX6_init 19 = .ok (.iconst 5, 1) := by decide +kernel
theorem dX6_init_20 : decode cX6_init 20 = .ok (.newarray .int, 2) := by decide +kernel
theorem dX6_init_22 : decode cX6_init 22 = .ok (.putfield 18, 3) := by decide +kernel
theorem dX6_init_25 : decode cX6_init 25 = .ok (.aload_n 0, 1) := by decide +kernel
theorem dX6_init_26 : decode cX6_init 26 = .ok (.bipush 6, 2) := by decide +kernel
theorem dX6_init_28 : decode cX6_init 28 = .ok (.newarray .int, 2) := by decide +kernel
theorem dX6_init_30 : decode cX6_init 30 = .ok (.putfield 21, 3) := by decide +kernel
theorem dX6_init_33 : decode cX6_init 33 = .ok (.aload_n 0, 1) := by decide +kernel
theorem dX6_init_34 : decode cX6_init 34 = .ok (.bipush 6, 2) := by decide +kernel
theorem dX6_init_36 : decode cX6_init 36 = .ok (.newarray .int, 2) := by decide +kernel
theorem dX6_init_38 : decode cX6_init 38 = .ok (.putfield 24, 3) := by decide +kernel
theorem dX6_init_41 : decode cX6_init 41 = .ok (.return_, 1) := by decide +kernel
set_option maxHeartbeats 4000000 in
set_option maxRecDepth 100000 in
theorem c_X6_init (l : Launch) (G : xG) (h0 : Nat) (sz : Nat) : Met l yX6_init (Cond.code yX6_init cX6_init 1 none :: xTB) (rmC 1 5 27) (cPre G h0 (.inr (6, [.int 0, .int 0, .null, .null, .null, .null, .null])) sz [.ref h0]) (cPost G h0 (.inr (6, [.int 0, .int 0, .null, .null, .null, .null, .null])) sz (fun (u : Nat → Nat → Nat) => bT G h0 (u 0))) 5 27 (va_A [(h0, (.inr (6, [.int 0, .int 0, .null, .null, .null, .null, .null])))] sz) := by
  refine y_met (by decide) rfl (Nat.le_of_ble_eq_true rfl) ?_
  intro p e s m below meth c ls Z hsz hZe hZ C hl hP hD hS
  have C : cE p s m _ meth c cX6_init 1 RX6 G := C
  obtain ⟨hx, hb, hr, hml, hown, hts, hlocks, hin, hK, hao, hn1, hn2, hn3⟩ := id C
  have hl : lv_has ls 1 [(0, .ref h0)] := hl
  refine lv_aload_n hx hb dX6_init_0 rfl (lv_at hl 0 rfl) ?_
  refine W.objInit hx hb hown (hts _ ml_X6_3) (hts _ oi_n) (hts _ oi_c) rfl (by rw [hml]; exact hl.1) rfl dX6_init_1 (Nat.le_of_ble_eq_true rfl) (Nat.le_of_ble_eq_true rfl) ?_
  refine W.eq (g2 := F0 m 4 ls []) rfl ?_
  refine lv_aload_n hx hb dX6_init_4 rfl (lv_at hl 0 rfl) ?_
  refine lv_iconst (v := 5) hx hb dX6_init_5 (by decide) ?_
  refine y_newa (ty := .int) (N' := 5) hx hb rfl (hts _ ar_int) hK 0 rfl (fun cA f1 f2 => y_sm_int f1 f2) hP hD hS hZ (y_ha_int 5) (by decide) rfl (by decide) (Nat.le_of_ble_eq_true rfl) (Nat.le_of_ble_eq_true rfl) dX6_init_6 (fun q5 H hP hD hS => ?_)
  have hP : va_P (xD G) vwCl ((h0, .inr (6, [.int 0, .int 0, .null, .null, .null, .null, .null])) :: (([(q5, .inl (xk G 0, 5, .inl cz))] : va_W))) H := hP
  have hD : va_D Z ((h0, .inr (6, [.int 0, .int 0, .null, .null, .null, .null, .null])) :: (([(q5, .inl (xk G 0, 5, .inl cz))] : va_W))) := hD
  refine W.widen (k := 1) (n := 5) (by omega) (by omega) ?_
  refine va_putF (D := xD G) (ci := 6) (v := .ref q5) (ty := .array .int) (C := RX6) (T := TX6) (N := 7) hx hb hts in_X6 tyX6 tyX6_ok nmX6 hown hK hP hD hS 0 rfl rfl 2 (by decide) (hts _ fl_X6_9) (fun _ h9 => h9) rfl hin rfl (by decide +kernel) rfl rfl (Nat.le_of_ble_eq_true rfl) dX6_init_8 (fun H locs hP hD hS => ?_)
  have hP : va_P (xD G) vwCl ((h0, .inr (6, [.int 0, .int 0, .ref q5, .null, .null, .null, .null])) :: (([(q5, .inl (xk G 0, 5, .inl cz))] : va_W))) H := hP
  have hD : va_D Z ((h0, .inr (6, [.int 0, .int 0, .ref q5, .null, .null, .null, .null])) :: (([(q5, .inl (xk G 0, 5, .inl cz))] : va_W))) := hD
  refine lv_aload_n hx hb dX6_init_11 rfl (lv_at hl 0 rfl) ?_
  refine lv_iconst (v := 5) hx hb dX6_init_12 (by decide) ?_
  refine y_newa (ty := .int) (N' := 5) hx hb rfl (hts _ ar_int) hK 0 rfl (fun cA f1 f2 => y_sm_int f1 f2) hP hD hS hZ (y_ha_int 5) (by decide) rfl (by decide) (Nat.le_of_ble_eq_true rfl) (Nat.le_of_ble_eq_true rfl) dX6_init_13 (fun q9 H hP hD hS => ?_)
  have hP : va_P (xD G) vwCl ((h0, .inr (6, [.int 0, .int 0, .ref q5, .null, .null, .null, .null])) :: (([(q5, .inl (xk G 0, 5, .inl cz))] : va_W) ++ ([(q9, .inl (xk G 0, 5, .inl cz))] : va_W))) H := hP
  have hD : va_D Z ((h0, .inr (6, [.int 0, .int 0, .ref q5, .null, .null, .null, .null])) :: (([(q5, .inl (xk G 0, 5, .inl cz))] : va_W) ++ ([(q9, .inl (xk G 0, 5, .inl cz))] : va_W))) := hD
  refine W.widen (k := 2) (n := 10) (by omega) (by omega) ?_
  refine va_putF (D := xD G) (ci := 6) (v := .ref q9) (ty := .array .int) (C := RX6) (T := TX6) (N := 7) hx hb hts in_X6 tyX6 tyX6_ok nmX6 hown hK hP hD hS 0 rfl rfl 3 (by decide) (hts _ fl_X6_15) (fun _ h9 => h9) rfl hin rfl (by decide +kernel) rfl rfl (Nat.le_of_ble_eq_true rfl) dX6_init_15 (fun H locs hP hD hS => ?_)
  have hP : va_P (xD G) vwCl ((h0, .inr (6, [.int 0, .int 0, .ref q5, .ref q9, .null, .null, .null])) :: (([(q5, .inl (xk G 0, 5, .inl cz))] : va_W) ++ ([(q9, .inl (xk G 0, 5, .inl cz))] : va_W))) H := hP
  have hD : va_D Z ((h0, .inr (6, [.int 0, .int 0, .ref q5, .ref q9, .null, .null, .null])) :: (([(q5, .inl (xk G 0, 5, .inl cz))] : va_W) ++ ([(q9, .inl (xk G 0, 5, .inl cz))] : va_W))) := hD
  refine lv_aload_n hx hb dX6_init_18 rfl (lv_at hl 0 rfl) ?_
  refine lv_iconst (v := 5) hx hb dX6_init_19 (by decide) ?_
  refine y_newa (ty := .int) (N' := 5) hx hb rfl (hts _ ar_int) hK 0 rfl (fun cA f1 f2 => y_sm_int f1 f2) hP hD hS hZ (y_ha_int 5) (by decide) rfl (by decide) (Nat.le_of_ble_eq_true rfl) (Nat.le_of_ble_eq_true rfl) dX6_init_20 (fun q13 H hP hD hS => ?_)
  have hP : va_P (xD G) vwCl ((h0, .inr (6, [.int 0, .int 0, .ref q5, .ref q9, .null, .null, .null])) :: (([(q5, .inl (xk G 0, 5, .inl cz))] : va_W) ++ ([(q9, .inl (xk G 0, 5, .inl cz))] : va_W) ++ ([(q13, .inl (xk G 0, 5, .inl cz))] : va_W))) H := hP
  have hD : va_D Z ((h0, .inr (6, [.int 0, .int 0, .ref q5, .ref q9, .null, .null, .null])) :: (([(q5, .inl (xk G 0, 5, .inl cz))] : va_W) ++ ([(q9, .inl (xk G 0, 5, .inl cz))] : va_W) ++ ([(q13, .inl (xk G 0, 5, .inl cz))] : va_W))) := hD
  refine W.widen (k := 3) (n := 15) (by omega) (by omega) ?_
  refine va_putF (D := xD G) (ci := 6) (v := .ref q13) (ty := .array .int) (C := RX6) (T := TX6) (N := 7) hx hb hts in_X6 tyX6 tyX6_ok nmX6 hown hK hP hD hS 0 rfl rfl 4 (by decide) (hts _ fl_X6_18) (fun _ h9 => h9) rfl hin rfl (by decide +kernel) rfl rfl (Nat.le_of_ble_eq_true rfl) dX6_init_22 (fun H locs hP hD hS => ?_)
  have hP : va_P (xD G) vwCl ((h0, .inr (6, [.int 0, .int 0, .ref q5, .ref q9, .ref q13, .null, .null])) :: (([(q5, .inl (xk G 0, 5, .inl cz))] : va_W) ++ ([(q9, .inl (xk G 0, 5, .inl cz))] : va_W) ++ ([(q13, .inl (xk G 0, 5, .inl cz))] : va_W))) H := hP
  have hD : va_D Z ((h0, .inr (6, [.int 0, .int 0, .ref q5, .ref q9, .ref q13, .null, .null])) :: (([(q5, .inl (xk G 0, 5, .inl cz))] : va_W) ++ ([(q9, .inl (xk G 0, 5, .inl cz))] : va_W) ++ ([(q13, .inl (xk G 0, 5, .inl cz))] : va_W))) := hD
  refine lv_aload_n hx hb dX6_init_25 rfl (lv_at hl 0 rfl) ?_
  refine lv_bipush (v := 6) hx hb dX6_init_26 (by decide) ?_
  refine y_newa (ty := .int) (N' := 6) hx hb rfl (hts _ ar_int) hK 0 rfl (fun cA f1 f2 => y_sm_int f1 f2) hP hD hS hZ (y_ha_int 6) (by decide) rfl (by decide) (Nat.le_of_ble_eq_true rfl) (Nat.le_of_ble_eq_true rfl) dX6_init_28 (fun q17 H hP hD hS => ?_)
  have hP : va_P (xD G) vwCl ((h0, .inr (6, [.int 0, .int 0, .ref q5, .ref q9, .ref q13, .null, .null])) :: (([(q5, .inl (xk G 0, 5, .inl cz))] : va_W) ++ ([(q9, .inl (xk G 0, 5, .inl cz))] : va_W) ++ ([(q13, .inl (xk G 0, 5, .inl cz))] : va_W) ++ ([(q17, .inl (xk G 0, 6, .inl cz))] : va_W))) H := hP
  have hD : va_D Z ((h0, .inr (6, [.int 0, .int 0, .ref q5, .ref q9, .ref q13, .null, .null])) :: (([(q5, .inl (xk G 0, 5, .inl cz))] : va_W) ++ ([(q9, .inl (xk G 0, 5, .inl cz))] : va_W) ++ ([(q13, .inl (xk G 0, 5, .inl cz))] : va_W) ++ ([(q17, .inl (xk G 0, 6, .inl cz))] : va_W))) := hD
  refine W.widen (k := 4) (n := 21) (by omega) (by omega) ?_
  refine va_putF (D := xD G) (ci := 6) (v := .ref q17) (ty := .array .int) (C := RX6) (T := TX6) (N := 7) hx hb hts in_X6 tyX6 tyX6_ok nmX6 hown hK hP hD hS 0 rfl rfl 5 (by decide) (hts _ fl_X6_21) (fun _ h9 => h9) rfl hin rfl (by decide +kernel) rfl rfl (Nat.le_of_ble_eq_true rfl) dX6_init_30 (fun H locs hP hD hS => ?_)
  have hP : va_P (xD G) vwCl ((h0, .inr (6, [.int 0, .int 0, .ref q5, .ref q9, .ref q13, .ref q17, .null])) :: (([(q5, .inl (xk G 0, 5, .inl cz))] : va_W) ++ ([(q9, .inl (xk G 0, 5, .inl cz))] : va_W) ++ ([(q13, .inl (xk G 0, 5, .inl cz))] : va_W) ++ ([(q17, .inl (xk G 0, 6, .inl cz))] : va_W))) H := hP
  have hD : va_D Z ((h0, .inr (6, [.int 0, .int 0, .ref q5, .ref q9, .ref q13, .ref q17, .null])) :: (([(q5, .inl (xk G 0, 5, .inl cz))] : va_W) ++ ([(q9, .inl (xk G 0, 5, .inl cz))] : va_W) ++ ([(q13, .inl (xk G 0, 5, .inl cz))] : va_W) ++ ([(q17, .inl (xk G 0, 6, .inl cz))] : va_W))) := hD
  refine lv_aload_n hx hb dX6_init_33 rfl (lv_at hl 0 rfl) ?_
  refine lv_bipush (v := 6) hx hb dX6_init_34 (by decide) ?_
  refine y_newa (ty := .int) (N' := 6) hx hb rfl (hts _ ar_int) hK 0 rfl (fun cA f1 f2 => y_sm_int f1 f2) hP hD hS hZ (y_ha_int 6) (by decide) rfl (by decide) (Nat.le_of_ble_eq_true rfl) (Nat.le_of_ble_eq_true rfl) dX6_init_36 (fun q21 H hP hD hS => ?_)
  have hP : va_P (xD G) vwCl ((h0, .inr (6, [.int 0, .int 0, .ref q5, .ref q9, .ref q13, .ref q17, .null])) :: (([(q5, .inl (xk G 0, 5, .inl cz))] : va_W) ++ ([(q9, .inl (xk G 0, 5, .inl cz))] : va_W) ++ ([(q13, .inl (xk G 0, 5, .inl cz))] : va_W) ++ ([(q17, .inl (xk G 0, 6, .inl cz))] : va_W) ++ ([(q21, .inl (xk G 0, 6, .inl cz))] : va_W))) H := hP
  have hD : va_D Z ((h0, .inr (6, [.int 0, .int 0, .ref q5, .ref q9, .ref q13, .ref q17, .null])) :: (([(q5, .inl (xk G 0, 5, .inl cz))] : va_W) ++ ([(q9, .inl (xk G 0, 5, .inl cz))] : va_W) ++ ([(q13, .inl (xk G 0, 5, .inl cz))] : va_W) ++ ([(q17, .inl (xk G 0, 6, .inl cz))] : va_W) ++ ([(q21, .inl (xk G 0, 6, .inl cz))] : va_W))) := hD
  refine W.widen (k := 5) (n := 27) (by omega) (by omega) ?_
  refine va_putF (D := xD G) (ci := 6) (v := .ref q21) (ty := .array .int) (C := RX6) (T := TX6) (N := 7) hx hb hts in_X6 tyX6 tyX6_ok nmX6 hown hK hP hD hS 0 rfl rfl 6 (by decide) (hts _ fl_X6_24) (fun _ h9 => h9) rfl hin rfl (by decide +kernel) rfl rfl (Nat.le_of_ble_eq_true rfl) dX6_init_38 (fun H locs hP hD hS => ?_)
  have hP : va_P (xD G) vwCl ((h0, .inr (6, [.int 0, .int 0, .ref q5, .ref q9, .ref q13, .ref q17, .ref q21])) :: (([(q5, .inl (xk G 0, 5, .inl cz))] : va_W) ++ ([(q9, .inl (xk G 0, 5, .inl cz))] : va_W) ++ ([(q13, .inl (xk G 0, 5, .inl cz))] : va_W) ++ ([(q17, .inl (xk G 0, 6, .inl cz))] : va_W) ++ ([(q21, .inl (xk G 0, 6, .inl cz))] : va_W))) H := hP
  have hD : va_D Z ((h0, .inr (6, [.int 0, .int 0, .ref q5, .ref q9, .ref q13, .ref q17, .ref q21])) :: (([(q5, .inl (xk G 0, 5, .inl cz))] : va_W) ++ ([(q9, .inl (xk G 0, 5, .inl cz))] : va_W) ++ ([(q13, .inl (xk G 0, 5, .inl cz))] : va_W) ++ ([(q17, .inl (xk G 0, 6, .inl cz))] : va_W) ++ ([(q21, .inl (xk G 0, 6, .inl cz))] : va_W))) := hD
  have hP9 : va_P (xD G) vwCl ((fun (u : Nat → Nat → Nat) => bT G h0 (u 0)) (fun k => match k with | 0 => (fun r => match r with | 3 => q5 | 4 => q9 | 5 => q13 | 6 => q17 | 7 => q21 | _ => h0) | _ => (fun _ => 0))) H := hP
  have hD9 : va_D Z ((fun (u : Nat → Nat → Nat) => bT G h0 (u 0)) (fun k => match k with | 0 => (fun r => match r with | 3 => q5 | 4 => q9 | 5 => q13 | 6 => q17 | 7 => q21 | _ => h0) | _ => (fun _ => 0))) := hD
  exact W.vret hx hb hr (fun t ht hW => ⟨⟨(fun k => match k with | 0 => (fun r => match r with | 3 => q5 | 4 => q9 | 5 => q13 | 6 => q17 | 7 => q21 | _ => h0) | _ => (fun _ => 0) : Nat → Nat → Nat), rfl, trivial, by rw [ht]; exact hP9, hD9⟩, hS.F ht⟩) hS.2.2 dX6_init_41 hlocks
theorem dX0_init_0 : decode cX0_init 0 = .ok (.aload_n 0, 1) := by decide +kernel
theorem dX0_init_1 : decode cX0_init 1 = .ok (.invokespecial 3, 3) := by decide +kernel
theorem dX0_init_4 : decode cX0_init 4 = .ok (.aload_n 0, 1) := by decide +kernel
theorem dX0_init_5 : decode cX0_init 5 = .ok (.bipush 6, 2) := by decide +kernel
theorem dX0_init_7 : decode cX0_init 7 = .ok (.newarray .int, 2) := by decide +kernel
theorem dX0_init_9 : decode cX0_init 9 = .ok (.putfield 9, 3) := by decide +kernel
theorem dX0_init_12 : decode cX0_init 12 = .ok (.aload_n 0, 1) := by decide +kernel
theorem dX0_init_13 : decode cX0_init 13 = .ok (.bipush 6, 2) := by decide +kernel
theorem dX0_init_15 : decode cX0_init 15 = .ok (.newarray .int, 2) := by decide +kernel
theorem dX0_init_17 : decode cX0_init 17 = .ok (.putfield 15, 3) := by decide +kernel
theorem dX0_init_20 : decode cX0_init 20 = .ok (.aload_n 0, 1) := by decide +kernel
theorem dX0_init_21 : decode cX0_init 21 = .ok (.iconst 5, 1) := by decide +kernel
theorem dX0_init_22 : decode cX0_init 22 = .ok (.newarray .int, 2) := by decide +kernel
theorem dX0_init_24 : decode cX0_init 24 = .ok (.putfield 18, 3) := by decide +kernel
theorem dX0_init_27 : decode cX0_init 27 = .ok (.aload_n 0, 1) := by decide +kernel
theorem dX0_init_28 : decode cX0_init 28 = .ok (.iconst 5, 1) := by decide +kernel
theorem dX0_init_29 : decode cX0_init 29 = .ok (.newarray .int, 2) := by decide +kernel
theorem dX0_init_31 : decode cX0_init 31 = .ok (.putfield 21, 3) := by decide +kernel
theorem dX0_init_34 : decode cX0_init 34 = .ok (.aload_n 0, 1) := by decide +kernel
theorem dX0_init_35 : decode cX0_init 35 = .ok (.iconst 5, 1) := by decide +kernel
theorem dX0_init_36 : decode cX0_init 36 = .ok (.newarray .int, 2) := by decide +kernel
theorem dX0_init_38 : decode cX0_init 38 = .ok (.putfield 24, 3) := by decide +kernel
theorem dX0_init_41 : decode cX0_init 41 = .ok (.aload_n 0, 1) := by decide +kernel
theorem dX0_init_42 : decode cX0_init 42 = .ok (.aload_n 1, 1) := by decide +kernel
theorem dX0_init_43 : decode cX0_init 43 = .ok (.putfield 27, 3) := by decide +kernel
theorem dX0_init_46 : decode cX0_init 46 = .ok (.return_, 1) := by decide +kernel
set_option maxHeartbeats 4000000 in
set_option maxRecDepth 100000 in
theorem c_X0_init (l : Launch) (G : xG) (h0 : Nat) (a1 : Nat) (sz : Nat) : Met l yX0_init (Cond.code yX0_init cX0_init 2 none :: xTB) (rmC 1 5 27) (cPre G h0 (.inr (0, [.null, .null, .null, .null, .null, .null])) sz [.ref h0, .ref a1]) (cPost G h0 (.inr (0, [.null, .null, .null, .null, .null, .null])) sz (fun (u : Nat → Nat → Nat) => bF G h0 a1 (u 0))) 5 27 (va_A [(h0, (.inr (0, [.null, .null, .null, .null, .null, .null])))] sz) := by
  refine y_met (by decide) rfl (Nat.le_of_ble_eq_true rfl) ?_
  intro p e s m below meth c ls Z hsz hZe hZ C hl hP hD hS
  have C : cE p s m _ meth c cX0_init 2 RX0 G := C
  obtain ⟨hx, hb, hr, hml, hown, hts, hlocks, hin, hK, hao, hn1, hn2, hn3⟩ := id C
  have hl : lv_has ls 2 [(0, .ref h0), (1, .ref a1)] := hl
  refine lv_aload_n hx hb dX0_init_0 rfl (lv_at hl 0 rfl) ?_
  refine W.objInit hx hb hown (hts _ ml_X0_3) (hts _ oi_n) (hts _ oi_c) rfl (by rw [hml]; exact hl.1) rfl dX0_init_1 (Nat.le_of_ble_eq_true rfl) (Nat.le_of_ble_eq_true rfl) ?_
  refine W.eq (g2 := F0 m 4 ls []) rfl ?_
  refine lv_aload_n hx hb dX0_init_4 rfl (lv_at hl 0 rfl) ?_
  refine lv_bipush (v := 6) hx hb dX0_init_5 (by decide) ?_
  refine y_newa (ty := .int) (N' := 6) hx hb rfl (hts _ ar_int) hK 0 rfl (fun cA f1 f2 => y_sm_int f1 f2) hP hD hS hZ (y_ha_int 6) (by decide) rfl (by decide) (Nat.le_of_ble_eq_true rfl) (Nat.le_of_ble_eq_true rfl) dX0_init_7 (fun q5 H hP hD hS => ?_)
  have hP : va_P (xD G) vwCl ((h0, .inr (0, [.null, .null, .null, .null, .null, .null])) :: (([(q5, .inl (xk G 0, 6, .inl cz))] : va_W))) H := hP
  have hD : va_D Z ((h0, .inr (0, [.null, .null, .null, .null, .null, .null])) :: (([(q5, .inl (xk G 0, 6, .inl cz))] : va_W))) := hD
  refine W.widen (k := 1) (n := 6) (by omega) (by omega) ?_
  refine va_putF (D := xD G) (ci := 0) (v := .ref q5) (ty := .array .int) (C := RX0) (T := TX0) (N := 6) hx hb hts in_X0 tyX0 tyX0_ok nmX0 hown hK hP hD hS 0 rfl rfl 1 (by decide) (hts _ fl_X0_9) (fun _ h9 => h9) rfl hin rfl (by decide +kernel) rfl rfl (Nat.le_of_ble_eq_true rfl) dX0_init_9 (fun H locs hP hD hS => ?_)
  have hP : va_P (xD G) vwCl ((h0, .inr (0, [.null, .ref q5, .null, .null, .null, .null])) :: (([(q5, .inl (xk G 0, 6, .inl cz))] : va_W))) H := hP
  have hD : va_D Z ((h0, .inr (0, [.null, .ref q5, .null, .null, .null, .null])) :: (([(q5, .inl (xk G 0, 6, .inl cz))] : va_W))) := hD
  refine lv_aload_n hx hb dX0_init_12 rfl (lv_at hl 0 rfl) ?_
  refine lv_bipush (v := 6) hx hb dX0_init_13 (by decide) ?_
  refine y_newa (ty := .int) (N' := 6) hx hb rfl (hts _ ar_int) hK 0 rfl (fun cA f1 f2 => y_sm_int f1 f2) hP hD hS hZ (y_ha_int 6) (by decide) rfl (by decide) (Nat.le_of_ble_eq_true rfl) (Nat.le_of_ble_eq_true rfl) dX0_init_15 (fun q9 H hP hD hS => ?_)
  have hP : va_P (xD G) vwCl ((h0, .inr (0, [.null, .ref q5, .null, .null, .null, .null])) :: (([(q5, .inl (xk G 0, 6, .inl cz))] : va_W) ++ ([(q9, .inl (xk G 0, 6, .inl cz))] : va_W))) H := hP
  have hD : va_D Z ((h0, .inr (0, [.null, .ref q5, .null, .null, .null, .null])) :: (([(q5, .inl (xk G 0, 6, .inl cz))] : va_W) ++ ([(q9, .inl (xk G 0, 6, .inl cz))] : va_W))) := hD
  refine W.widen (k := 2) (n := 12) (by omega) (by omega) ?_
  refine va_putF (D := xD G) (ci := 0) (v := .ref q9) (ty := .array .int) (C := RX0) (T := TX0) (N := 6) hx hb hts in_X0 tyX0 tyX0_ok nmX0 hown hK hP hD hS 0 rfl rfl 2 (by decide) (hts _ fl_X0_15) (fun _ h9 => h9) rfl hin rfl (by decide +kernel) rfl rfl (Nat.le_of_ble_eq_true rfl) dX0_init_17 (fun H locs hP hD hS => ?_)
  have hP : va_P (xD G) vwCl ((h0, .inr (0, [.null, .ref q5, .ref q9, .null, .null, .null])) :: (([(q5, .inl (xk G 0, 6, .inl cz))] : va_W) ++ ([(q9, .inl (xk G 0, 6, .inl cz))] : va_W))) H := hP
  have hD : va_D Z ((h0, .inr (0, [.null, .ref q5, .ref q9, .null, .null, .null])) :: (([(q5, .inl (xk G 0, 6, .inl cz))] : va_W) ++ ([(q9, .inl (xk G 0, 6, .inl cz))] : va_W))) := hD
  refine lv_aload_n hx hb dX0_init_20 rfl (lv_at hl 0 rfl) ?_
  refine lv_iconst (v := 5) hx hb dX0_init_21 (by decide) ?_
  refine y_newa (ty := .int) (N' := 5) hx hb rfl (hts _ ar_int) hK 0 rfl (fun cA f1 f2 => y_sm_int f1 f2) hP hD hS hZ (y_ha_int 5) (by decide) rfl (by decide) (Nat.le_of_ble_eq_true rfl) (Nat.le_of_ble_eq_true rfl) dX0_init_22 (fun q13 H hP hD hS => ?_)
  have hP : va_P (xD G) vwCl ((h0, .inr (0, [.null, .ref q5, .ref q9, .null, .null, .null])) :: (([(q5, .inl (xk G 0, 6, .inl cz))] : va_W) ++ ([(q9, .inl (xk G 0, 6, .inl cz))] : va_W) ++ ([(q13, .inl (xk G 0, 5, .inl cz))] : va_W))) H := hP
  have hD : va_D Z ((h0, .inr (0, [.null, .ref q5, .ref q9, .null, .null, .null])) :: (([(q5, .inl (xk G 0, 6, .inl cz))] : va_W) ++ ([(q9, .inl (xk G 0, 6, .inl cz))] : va_W) ++ ([(q13, .inl (xk G 0, 5, .inl cz))] : va_W))) := hD
  refine W.widen (k := 3) (n := 17) (by omega) (by omega) ?_
  refine va_putF (D := xD G) (ci := 0) (v := .ref q13) (ty := .array .int) (C := RX0) (T := TX0) (N := 6) hx hb hts in_X0 tyX0 tyX0_ok nmX0 hown hK hP hD hS 0 rfl rfl 3 (by decide) (hts _ fl_X0_18) (fun _ h9 => h9) rfl hin rfl (by decide +kernel) rfl rfl (Nat.le_of_ble_eq_true rfl) dX0_init_24 (fun H locs hP hD hS => ?_)
  have hP : va_P (xD G) vwCl ((h0, .inr (0, [.null, .ref q5, .ref q9, .ref q13, .null, .null])) :: (([(q5, .inl (xk G 0, 6, .inl cz))] : va_W) ++ ([(q9, .inl (xk G 0, 6, .inl cz))] : va_W) ++ ([(q13, .inl (xk G 0, 5, .inl cz))] : va_W))) H := hP
  have hD : va_D Z ((h0, .inr (0, [.null, .ref q5, .ref q9, .ref q13, .null, .null])) :: (([(q5, .inl (xk G 0, 6, .inl cz))] : va_W) ++ ([(q9, .inl (xk G 0, 6, .inl cz))] : va_W) ++ ([(q13, .inl (xk G 0, 5, .inl cz))] : va_W))) := hD
  refine lv_aload_n hx hb dX0_init_27 rfl (lv_at hl 0 rfl) ?_
  refine lv_iconst (v := 5) hx hb dX0_init_28 (by decide) ?_
  refine y_newa (ty := .int) (N' := 5) hx hb rfl (hts _ ar_int) hK 0 rfl (fun cA f1 f2 => y_sm_int f1 f2) hP hD hS hZ (y_ha_int 5) (by decide) rfl (by decide) (Nat.le_of_ble_eq_true rfl) (Nat.le_of_ble_eq_true rfl) dX0_init_29 (fun q17 H hP hD hS => ?_)
  have hP : va_P (xD G) vwCl ((h0, .inr (0, [.null, .ref q5, .ref q9, .ref q13, .null, .null])) :: (([(q5, .inl (xk G 0, 6, .inl cz))] : va_W) ++ ([(q9, .inl (xk G 0, 6, .inl cz))] : va_W) ++ ([(q13, .inl (xk G 0, 5, .inl cz))] : va_W) ++ ([(q17, .inl (xk G 0, 5, .inl cz))] : va_W))) H := hP
  have hD : va_D Z ((h0, .inr (0, [.null, .ref q5, .ref q9, .ref q13, .null, .null])) :: (([(q5, .inl (xk G 0, 6, .inl cz))] : va_W) ++ ([(q9, .inl (xk G 0, 6, .inl cz))] : va_W) ++ ([(q13, .inl (xk G 0, 5, .inl cz))] : va_W) ++ ([(q17, .inl (xk G 0, 5, .inl cz))] : va_W))) := hD
  refine W.widen (k := 4) (n := 22) (by omega) (by omega) ?_
  refine va_putF (D := xD G) (ci := 0) (v := .ref q17) (ty := .array .int) (C := RX0) (T := TX0) (N := 6) hx hb hts in_X0 tyX0 tyX0_ok nmX0 hown hK hP hD hS 0 rfl rfl 4 (by decide) (hts _ fl_X0_21) (fun _ h9 => h9) rfl hin rfl (by decide +kernel) rfl rfl (Nat.le_of_ble_eq_true rfl) dX0_init_31 (fun H locs hP hD hS => ?_)
  have hP : va_P (xD G) vwCl ((h0, .inr (0, [.null, .ref q5, .ref q9, .ref q13, .ref q17, .null])) :: (([(q5, .inl (xk G 0, 6, .inl cz))] : va_W) ++ ([(q9, .inl (xk G 0, 6, .inl cz))] : va_W) ++ ([(q13, .inl (xk G 0, 5, .inl cz))] : va_W) ++ ([(q17, .inl (xk G 0, 5, .inl cz))] : va_W))) H := hP
  have hD : va_D Z ((h0, .inr (0, [.null, .ref q5, .ref q9, .ref q13, .ref q17, .null])) :: (([(q5, .inl (xk G 0, 6, .inl cz))] : va_W) ++ ([(q9, .inl (xk G 0, 6, .inl cz))] : va_W) ++ ([(q13, .inl (xk G 0, 5, .inl cz))] : va_W) ++ ([(q17, .inl (xk G 0, 5, .inl cz))] : va_W))) := hD
  refine lv_aload_n hx hb dX0_init_34 rfl (lv_at hl 0 rfl) ?_
  refine lv_iconst (v := 5) hx hb dX0_init_35 (by decide) ?_
  refine y_newa (ty := .int) (N' := 5) hx hb rfl (hts _ ar_int) hK 0 rfl (fun cA f1 f2 => y_sm_int f1 f2) hP hD hS hZ (y_ha_int 5) (by decide) rfl (by decide) (Nat.le_of_ble_eq_true rfl) (Nat.le_of_ble_eq_true rfl) dX0_init_36 (fun q21 H hP hD hS => ?_)
  have hP : va_P (xD G) vwCl ((h0, .inr (0, [.null, .ref q5, .ref q9, .ref q13, .ref q17, .null])) :: (([(q5, .inl (xk G 0, 6, .inl cz))] : va_W) ++ ([(q9, .inl (xk G 0, 6, .inl cz))] : va_W) ++ ([(q13, .inl (xk G 0, 5, .inl cz))] : va_W) ++ ([(q17, .inl (xk G 0, 5, .inl cz))] : va_W) ++ ([(q21, .inl (xk G 0, 5, .inl cz))] : va_W))) H := hP
  have hD : va_D Z ((h0, .inr (0, [.null, .ref q5, .ref q9, .ref q13, .ref q17, .null])) :: (([(q5, .inl (xk G 0, 6, .inl cz))] : va_W) ++ ([(q9, .inl (xk G 0, 6, .inl cz))] : va_W) ++ ([(q13, .inl (xk G 0, 5, .inl cz))] : va_W) ++ ([(q17, .inl (xk G 0, 5, .inl cz))] : va_W) ++ ([(q21, .inl (xk G 0, 5, .inl cz))] : va_W))) := hD
  refine W.widen (k := 5) (n := 27) (by omega) (by omega) ?_
  refine va_putF (D := xD G) (ci := 0) (v := .ref q21) (ty := .array .int) (C := RX0) (T := TX0) (N := 6) hx hb hts in_X0 tyX0 tyX0_ok nmX0 hown hK hP hD hS 0 rfl rfl 5 (by decide) (hts _ fl_X0_24) (fun _ h9 => h9) rfl hin rfl (by decide +kernel) rfl rfl (Nat.le_of_ble_eq_true rfl) dX0_init_38 (fun H locs hP hD hS => ?_)
  have hP : va_P (xD G) vwCl ((h0, .inr (0, [.null, .ref q5, .ref q9, .ref q13, .ref q17, .ref q21])) :: (([(q5, .inl (xk G 0, 6, .inl cz))] : va_W) ++ ([(q9, .inl (xk G 0, 6, .inl cz))] : va_W) ++ ([(q13, .inl (xk G 0, 5, .inl cz))] : va_W) ++ ([(q17, .inl (xk G 0, 5, .inl cz))] : va_W) ++ ([(q21, .inl (xk G 0, 5, .inl cz))] : va_W))) H := hP
  have hD : va_D Z ((h0, .inr (0, [.null, .ref q5, .ref q9, .ref q13, .ref q17, .ref q21])) :: (([(q5, .inl (xk G 0, 6, .inl cz))] : va_W) ++ ([(q9, .inl (xk G 0, 6, .inl cz))] : va_W) ++ ([(q13, .inl (xk G 0, 5, .inl cz))] : va_W) ++ ([(q17, .inl (xk G 0, 5, .inl cz))] : va_W) ++ ([(q21, .inl (xk G 0, 5, .inl cz))] : va_W))) := hD
  refine lv_aload_n hx hb dX0_init_41 rfl (lv_at hl 0 rfl) ?_
  refine lv_aload_n hx hb dX0_init_42 rfl (lv_at hl 1 rfl) ?_
  refine va_putF (D := xD G) (ci := 0) (v := .ref a1) (ty := .object "EggScales$Told") (C := RX0) (T := TX0) (N := 6) hx hb hts in_X0 tyX0 tyX0_ok nmX0 hown hK hP hD hS 0 rfl rfl 0 (by decide) (hts _ fl_X0_27) (fun _ h9 => h9) rfl hin rfl (by decide +kernel) rfl rfl (Nat.le_of_ble_eq_true rfl) dX0_init_43 (fun H locs hP hD hS => ?_)
  have hP : va_P (xD G) vwCl ((h0, .inr (0, [.ref a1, .ref q5, .ref q9, .ref q13, .ref q17, .ref q21])) :: (([(q5, .inl (xk G 0, 6, .inl cz))] : va_W) ++ ([(q9, .inl (xk G 0, 6, .inl cz))] : va_W) ++ ([(q13, .inl (xk G 0, 5, .inl cz))] : va_W) ++ ([(q17, .inl (xk G 0, 5, .inl cz))] : va_W) ++ ([(q21, .inl (xk G 0, 5, .inl cz))] : va_W))) H := hP
  have hD : va_D Z ((h0, .inr (0, [.ref a1, .ref q5, .ref q9, .ref q13, .ref q17, .ref q21])) :: (([(q5, .inl (xk G 0, 6, .inl cz))] : va_W) ++ ([(q9, .inl (xk G 0, 6, .inl cz))] : va_W) ++ ([(q13, .inl (xk G 0, 5, .inl cz))] : va_W) ++ ([(q17, .inl (xk G 0, 5, .inl cz))] : va_W) ++ ([(q21, .inl (xk G 0, 5, .inl cz))] : va_W))) := hD
  have hP9 : va_P (xD G) vwCl ((fun (u : Nat → Nat → Nat) => bF G h0 a1 (u 0)) (fun k => match k with | 0 => (fun r => match r with | 2 => q5 | 3 => q9 | 4 => q13 | 5 => q17 | 6 => q21 | _ => h0) | _ => (fun _ => 0))) H := hP
  have hD9 : va_D Z ((fun (u : Nat → Nat → Nat) => bF G h0 a1 (u 0)) (fun k => match k with | 0 => (fun r => match r with | 2 => q5 | 3 => q9 | 4 => q13 | 5 => q17 | 6 => q21 | _ => h0) | _ => (fun _ => 0))) := hD
  exact W.vret hx hb hr (fun t ht hW => ⟨⟨(fun k => match k with | 0 => (fun r => match r with | 2 => q5 | 3 => q9 | 4 => q13 | 5 => q17 | 6 => q21 | _ => h0) | _ => (fun _ => 0) : Nat → Nat → Nat), rfl, trivial, by rw [ht]; exact hP9, hD9⟩, hS.F ht⟩) hS.2.2 dX0_init_46 hlocks
theorem dX3_init_0 : decode cX3_init 0 = .ok (.aload_n 0, 1) := by decide +kernel
theorem dX3_init_1 : decode cX3_init 1 = .ok (.invokespecial 3, 3) := by decide +kernel
theorem dX3_init_4 : decode cX3_init 4 = .ok (.aload_n 0, 1) := by decide +kernel
theorem dX3_init_5 : decode cX3_init 5 = .ok (.bipush 120, 2) := by decide +kernel
theorem dX3_init_7 : decode cX3_init 7 = .ok (.newarray .char, 2) := by decide +kernel
theorem dX3_init_9 : decode cX3_init 9 = .ok (.putfield 9, 3) := by decide +kernel
theorem dX3_init_12 : decode cX3_init 12 = .ok (.aload_n 0, 1) := by decide +kernel
theorem dX3_init_13 : decode cX3_init 13 = .ok (.new 15, 3) := by decide +kernel
theorem dX3_init_16 : decode cX3_init 16 = .ok (.dup, 1) := by decide +kernel
theorem dX3_init_17 : decode cX3_init 17 = .ok (.invokespecial 17, 3) := by decide +kernel
theorem dX3_init_20 : decode cX3_init 20 = .ok (.putfield 18, 3) := by decide +kernel
theorem dX3_init_23 : decode cX3_init 23 = .ok (.return_, 1) := by decide +kernel
set_option maxHeartbeats 4000000 in
set_option maxRecDepth 100000 in
theorem c_X3_init (l : Launch) (G : xG) (h0 : Nat) (sz : Nat) : Met l yX3_init (Cond.code yX3_init cX3_init 1 none :: xTB) (rmC 2 7 154) (cPre G h0 (.inr (3, [.null, .int 0, .null, .int 0, .int 0, .int 0, .int 0])) sz [.ref h0]) (cPost G h0 (.inr (3, [.null, .int 0, .null, .int 0, .int 0, .int 0, .int 0])) sz (fun (u : Nat → Nat → Nat) => bR G h0 u)) 7 154 (va_A [(h0, (.inr (3, [.null, .int 0, .null, .int 0, .int 0, .int 0, .int 0])))] sz) := by
  refine y_met (by decide) rfl (Nat.le_of_ble_eq_true rfl) ?_
  intro p e s m below meth c ls Z hsz hZe hZ C hl hP hD hS
  have C : cE p s m _ meth c cX3_init 1 RX3 G := C
  obtain ⟨hx, hb, hr, hml, hown, hts, hlocks, hin, hK, hao, hn1, hn2, hn3⟩ := id C
  have hl : lv_has ls 1 [(0, .ref h0)] := hl
  refine lv_aload_n hx hb dX3_init_0 rfl (lv_at hl 0 rfl) ?_
  refine W.objInit hx hb hown (hts _ ml_X3_3) (hts _ oi_n) (hts _ oi_c) rfl (by rw [hml]; exact hl.1) rfl dX3_init_1 (Nat.le_of_ble_eq_true rfl) (Nat.le_of_ble_eq_true rfl) ?_
  refine W.eq (g2 := F0 m 4 ls []) rfl ?_
  refine lv_aload_n hx hb dX3_init_4 rfl (lv_at hl 0 rfl) ?_
  refine lv_bipush (v := 120) hx hb dX3_init_5 (by decide) ?_
  refine y_newa (ty := .char) (N' := 120) hx hb rfl (hts _ ar_char) hK 1 rfl (fun cA f1 f2 => y_sm_char f1 f2) hP hD hS hZ (y_ha_char 120) (by decide) rfl (by decide) (Nat.le_of_ble_eq_true rfl) (Nat.le_of_ble_eq_true rfl) dX3_init_7 (fun q5 H hP hD hS => ?_)
  have hP : va_P (xD G) vwCl ((h0, .inr (3, [.null, .int 0, .null, .int 0, .int 0, .int 0, .int 0])) :: (([(q5, .inl (xk G 1, 120, .inl cz))] : va_W))) H := hP
  have hD : va_D Z ((h0, .inr (3, [.null, .int 0, .null, .int 0, .int 0, .int 0, .int 0])) :: (([(q5, .inl (xk G 1, 120, .inl cz))] : va_W))) := hD
  refine W.widen (k := 1) (n := 120) (by omega) (by omega) ?_
  refine va_putF (D := xD G) (ci := 3) (v := .ref q5) (ty := .array .char) (C := RX3) (T := TX3) (N := 7) hx hb hts in_X3 tyX3 tyX3_ok nmX3 hown hK hP hD hS 0 rfl rfl 0 (by decide) (hts _ fl_X3_9) (fun _ h9 => h9) rfl hin rfl (by decide +kernel) rfl rfl (Nat.le_of_ble_eq_true rfl) dX3_init_9 (fun H locs hP hD hS => ?_)
  have hP : va_P (xD G) vwCl ((h0, .inr (3, [.ref q5, .int 0, .null, .int 0, .int 0, .int 0, .int 0])) :: (([(q5, .inl (xk G 1, 120, .inl cz))] : va_W))) H := hP
  have hD : va_D Z ((h0, .inr (3, [.ref q5, .int 0, .null, .int 0, .int 0, .int 0, .int 0])) :: (([(q5, .inl (xk G 1, 120, .inl cz))] : va_W))) := hD
  refine lv_aload_n hx hb dX3_init_12 rfl (lv_at hl 0 rfl) ?_
  refine va_new (ci := 6) (fs := [.int 0, .int 0, .null, .null, .null, .null, .null]) (C := RX6) (T := TX6) (N := 7) hx hb hts in_X6 tyX6 tyX6_ok hown (hts _ cl_X3_15) (hts _ is_X6) (hts _ yi_X6_init) hK hP hD hS hZ rfl (fun j hj => by rcases (show j = 0 ∨ j = 1 ∨ j = 2 ∨ j = 3 ∨ j = 4 ∨ j = 5 ∨ j = 6 by omega) with rfl | rfl | rfl | rfl | rfl | rfl | rfl <;> rfl) (Nat.le_of_ble_eq_true rfl) (Nat.le_of_ble_eq_true rfl) dX3_init_13 (fun q8 H hP hD hS => ?_)
  have hP : va_P (xD G) vwCl ((h0, .inr (3, [.ref q5, .int 0, .null, .int 0, .int 0, .int 0, .int 0])) :: (([(q5, .inl (xk G 1, 120, .inl cz))] : va_W) ++ ([(q8, .inr (6, [.int 0, .int 0, .null, .null, .null, .null, .null]))] : va_W))) H := hP
  have hD : va_D Z ((h0, .inr (3, [.ref q5, .int 0, .null, .int 0, .int 0, .int 0, .int 0])) :: (([(q5, .inl (xk G 1, 120, .inl cz))] : va_W) ++ ([(q8, .inr (6, [.int 0, .int 0, .null, .null, .null, .null, .null]))] : va_W))) := hD
  refine W.widen (k := 2) (n := 127) (by omega) (by omega) ?_
  refine lv_dup hx hb dX3_init_16 rfl ?_
  refine y_init (n := 0) (A := ((h0, .inr (3, [.ref q5, .int 0, .null, .int 0, .int 0, .int 0, .int 0])) :: (([(q5, .inl (xk G 1, 120, .inl cz))] : va_W)) : va_W)) (q := q8) (S := Nat → Nat → Nat) (blk := fun u => bT G q8 (u 0)) (As := []) (rest := [.ref q8, .ref h0]) C hP hD hS hZ (c_X6_init l G q8 _) (y_cn hts yc_X6_init yi_X6_init yn_X6_init hn2 rfl ⟨by decide +kernel, by decide +kernel, by decide +kernel⟩ ⟨Nat.le_of_ble_eq_true rfl, Nat.le_of_ble_eq_true rfl⟩) rfl rfl hl.1 (Nat.le_of_ble_eq_true rfl) dX3_init_17 ⟨Nat.le_of_ble_eq_true rfl, Nat.le_of_ble_eq_true rfl⟩ (fun u10 H locs hP hD hS => ?_)
  have hP : va_P (xD G) vwCl ((h0, .inr (3, [.ref q5, .int 0, .null, .int 0, .int 0, .int 0, .int 0])) :: (([(q5, .inl (xk G 1, 120, .inl cz))] : va_W) ++ (bT G q8 (u10 0)))) H := hP
  have hD : va_D Z ((h0, .inr (3, [.ref q5, .int 0, .null, .int 0, .int 0, .int 0, .int 0])) :: (([(q5, .inl (xk G 1, 120, .inl cz))] : va_W) ++ (bT G q8 (u10 0)))) := hD
  refine W.widen (k := 7) (n := 154) (by omega) (by omega) ?_
  refine va_putF (D := xD G) (ci := 3) (v := .ref q8) (ty := .object "EggScales$Told") (C := RX3) (T := TX3) (N := 7) hx hb hts in_X3 tyX3 tyX3_ok nmX3 hown hK hP hD hS 0 rfl rfl 2 (by decide) (hts _ fl_X3_18) (fun _ h9 => h9) rfl hin rfl (by decide +kernel) rfl rfl (Nat.le_of_ble_eq_true rfl) dX3_init_20 (fun H locs hP hD hS => ?_)
  have hP : va_P (xD G) vwCl ((h0, .inr (3, [.ref q5, .int 0, .ref q8, .int 0, .int 0, .int 0, .int 0])) :: (([(q5, .inl (xk G 1, 120, .inl cz))] : va_W) ++ (bT G q8 (u10 0)))) H := hP
  have hD : va_D Z ((h0, .inr (3, [.ref q5, .int 0, .ref q8, .int 0, .int 0, .int 0, .int 0])) :: (([(q5, .inl (xk G 1, 120, .inl cz))] : va_W) ++ (bT G q8 (u10 0)))) := hD
  have hP9 : va_P (xD G) vwCl ((fun (u : Nat → Nat → Nat) => bR G h0 u) (fun k => match k with | 0 => (fun r => match r with | 1 => q5 | _ => h0) | 1 => (u10 0) | 101 => (fun _ => q8) | _ => (fun _ => 0))) H := hP
  have hD9 : va_D Z ((fun (u : Nat → Nat → Nat) => bR G h0 u) (fun k => match k with | 0 => (fun r => match r with | 1 => q5 | _ => h0) | 1 => (u10 0) | 101 => (fun _ => q8) | _ => (fun _ => 0))) := hD
  exact W.vret hx hb hr (fun t ht hW => ⟨⟨(fun k => match k with | 0 => (fun r => match r with | 1 => q5 | _ => h0) | 1 => (u10 0) | 101 => (fun _ => q8) | _ => (fun _ => 0) : Nat → Nat → Nat), rfl, trivial, by rw [ht]; exact hP9, hD9⟩, hS.F ht⟩) hS.2.2 dX3_init_23 hlocks
theorem dX1_init_0 : decode cX1_init 0 = .ok (.aload_n 0, 1) := by decide +kernel
theorem dX1_init_1 : decode cX1_init 1 = .ok (.invokespecial 3, 3) := by decide +kernel
theorem dX1_init_4 : decode cX1_init 4 = .ok (.aload_n 0, 1) := by decide +kernel
theorem dX1_init_5 : decode cX1_init 5 = .ok (.bipush 64, 2) := by decide +kernel
theorem dX1_init_7 : decode cX1_init 7 = .ok (.newarray .int, 2) := by decide +kernel
theorem dX1_init_9 : decode cX1_init 9 = .ok (.putfield 11, 3) := by decide +kernel
theorem dX1_init_12 : decode cX1_init 12 = .ok (.aload_n 0, 1) := by decide +kernel
theorem dX1_init_13 : decode cX1_init 13 = .ok (.aload_n 1, 1) := by decide +kernel
theorem dX1_init_14 : decode cX1_init 14 = .ok (.putfield 15, 3) := by decide +kernel
theorem dX1_init_17 : decode cX1_init 17 = .ok (.return_, 1) := by decide +kernel
set_option maxHeartbeats 4000000 in
set_option maxRecDepth 100000 in
theorem c_X1_init (l : Launch) (G : xG) (h0 : Nat) (a1 : Nat) (sz : Nat) : Met l yX1_init (Cond.code yX1_init cX1_init 2 none :: xTB) (rmC 1 1 64) (cPre G h0 (.inr (1, [.null, .null])) sz [.ref h0, .ref a1]) (cPost G h0 (.inr (1, [.null, .null])) sz (fun (u : Nat → Nat → Nat) => bK G h0 a1 u)) 1 64 (va_A [(h0, (.inr (1, [.null, .null])))] sz) := by
  refine y_met (by decide) rfl (Nat.le_of_ble_eq_true rfl) ?_
  intro p e s m below meth c ls Z hsz hZe hZ C hl hP hD hS
  have C : cE p s m _ meth c cX1_init 2 RX1 G := C
  obtain ⟨hx, hb, hr, hml, hown, hts, hlocks, hin, hK, hao, hn1, hn2, hn3⟩ := id C
  have hl : lv_has ls 2 [(0, .ref h0), (1, .ref a1)] := hl
  refine lv_aload_n hx hb dX1_init_0 rfl (lv_at hl 0 rfl) ?_
  refine W.objInit hx hb hown (hts _ ml_X1_3) (hts _ oi_n) (hts _ oi_c) rfl (by rw [hml]; exact hl.1) rfl dX1_init_1 (Nat.le_of_ble_eq_true rfl) (Nat.le_of_ble_eq_true rfl) ?_
  refine W.eq (g2 := F0 m 4 ls []) rfl ?_
  refine lv_aload_n hx hb dX1_init_4 rfl (lv_at hl 0 rfl) ?_
  refine lv_bipush (v := 64) hx hb dX1_init_5 (by decide) ?_
  refine y_newa (ty := .int) (N' := 64) hx hb rfl (hts _ ar_int) hK 0 rfl (fun cA f1 f2 => y_sm_int f1 f2) hP hD hS hZ (y_ha_int 64) (by decide) rfl (by decide) (Nat.le_of_ble_eq_true rfl) (Nat.le_of_ble_eq_true rfl) dX1_init_7 (fun q5 H hP hD hS => ?_)
  have hP : va_P (xD G) vwCl ((h0, .inr (1, [.null, .null])) :: (([(q5, .inl (xk G 0, 64, .inl cz))] : va_W))) H := hP
  have hD : va_D Z ((h0, .inr (1, [.null, .null])) :: (([(q5, .inl (xk G 0, 64, .inl cz))] : va_W))) := hD
  refine W.widen (k := 1) (n := 64) (by omega) (by omega) ?_
  refine va_putF (D := xD G) (ci := 1) (v := .ref q5) (ty := .array .int) (C := RX1) (T := TX1) (N := 2) hx hb hts in_X1 tyX1 tyX1_ok nmX1 hown hK hP hD hS 0 rfl rfl 1 (by decide) (hts _ fl_X1_11) (fun _ h9 => h9) rfl hin rfl (by decide +kernel) rfl rfl (Nat.le_of_ble_eq_true rfl) dX1_init_9 (fun H locs hP hD hS => ?_)
  have hP : va_P (xD G) vwCl ((h0, .inr (1, [.null, .ref q5])) :: (([(q5, .inl (xk G 0, 64, .inl cz))] : va_W))) H := hP
  have hD : va_D Z ((h0, .inr (1, [.null, .ref q5])) :: (([(q5, .inl (xk G 0, 64, .inl cz))] : va_W))) := hD
  refine lv_aload_n hx hb dX1_init_12 rfl (lv_at hl 0 rfl) ?_
  refine lv_aload_n hx hb dX1_init_13 rfl (lv_at hl 1 rfl) ?_
  refine va_putF (D := xD G) (ci := 1) (v := .ref a1) (ty := .object "EggScales$Floor") (C := RX1) (T := TX1) (N := 2) hx hb hts in_X1 tyX1 tyX1_ok nmX1 hown hK hP hD hS 0 rfl rfl 0 (by decide) (hts _ fl_X1_15) (fun _ h9 => h9) rfl hin rfl (by decide +kernel) rfl rfl (Nat.le_of_ble_eq_true rfl) dX1_init_14 (fun H locs hP hD hS => ?_)
  have hP : va_P (xD G) vwCl ((h0, .inr (1, [.ref a1, .ref q5])) :: (([(q5, .inl (xk G 0, 64, .inl cz))] : va_W))) H := hP
  have hD : va_D Z ((h0, .inr (1, [.ref a1, .ref q5])) :: (([(q5, .inl (xk G 0, 64, .inl cz))] : va_W))) := hD
  have hP9 : va_P (xD G) vwCl ((fun (u : Nat → Nat → Nat) => bK G h0 a1 u) (fun k => match k with | 0 => (fun r => match r with | 2 => q5 | _ => h0) | _ => (fun _ => 0))) H := hP
  have hD9 : va_D Z ((fun (u : Nat → Nat → Nat) => bK G h0 a1 u) (fun k => match k with | 0 => (fun r => match r with | 2 => q5 | _ => h0) | _ => (fun _ => 0))) := hD
  exact W.vret hx hb hr (fun t ht hW => ⟨⟨(fun k => match k with | 0 => (fun r => match r with | 2 => q5 | _ => h0) | _ => (fun _ => 0) : Nat → Nat → Nat), rfl, trivial, by rw [ht]; exact hP9, hD9⟩, hS.F ht⟩) hS.2.2 dX1_init_17 hlocks
theorem dX5_init_0 : decode cX5_init 0 = .ok (.aload_n 0, 1) := by decide +kernel
theorem dX5_init_1 : decode cX5_init 1 = .ok (.invokespecial 3, 3) := by decide +kernel
theorem dX5_init_4 : decode cX5_init 4 = .ok (.aload_n 0, 1) := by decide +kernel
theorem dX5_init_5 : decode cX5_init 5 = .ok (.bipush 6, 2) := by decide +kernel
theorem dX5_init_7 : decode cX5_init 7 = .ok (.newarray .int, 2) := by decide +kernel
theorem dX5_init_9 : decode cX5_init 9 = .ok (.putfield 9, 3) := by decide +kernel
theorem dX5_init_12 : decode cX5_init 12 = .ok (.aload_n 0, 1) := by decide +kernel
theorem dX5_init_13 : decode cX5_init 13 = .ok (.bipush 6, 2) := by decide +kernel
theorem dX5_init_15 : decode cX5_init 15 = .ok (.newarray .int, 2) := by decide +kernel
theorem dX5_init_17 : decode cX5_init 17 = .ok (.putfield 15, 3) := by decide +kernel
theorem dX5_init_20 : decode cX5_init 20 = .ok (.aload_n 0, 1) := by decide +kernel
theorem dX5_init_21 : decode cX5_init 21 = .ok (.bipush 91, 2) := by decide +kernel
theorem dX5_init_23 : decode cX5_init 23 = .ok (.newarray .int, 2) := by decide +kernel
theorem dX5_init_25 : decode cX5_init 25 = .ok (.putfield 18, 3) := by decide +kernel
theorem dX5_init_28 : decode cX5_init 28 = .ok (.aload_n 0, 1) := by decide +kernel
theorem dX5_init_29 : decode cX5_init 29 = .ok (.bipush 91, 2) := by decide +kernel
theorem dX5_init_31 : decode cX5_init 31 = .ok (.newarray .int, 2) := by decide +kernel
theorem dX5_init_33 : decode cX5_init 33 = .ok (.putfield 21, 3) := by decide +kernel
theorem dX5_init_36 : decode cX5_init 36 = .ok (.aload_n 0, 1) := by decide +kernel
theorem dX5_init_37 : decode cX5_init 37 = .ok (.bipush 6, 2) := by decide +kernel
theorem dX5_init_39 : decode cX5_init 39 = .ok (.newarray .int, 2) := by decide +kernel
theorem dX5_init_41 : decode cX5_init 41 = .ok (.putfield 24, 3) := by decide +kernel
theorem dX5_init_44 : decode cX5_init 44 = .ok (.aload_n 0, 1) := by decide +kernel
theorem dX5_init_45 : decode cX5_init 45 = .ok (.aload_n 1, 1) := by decide +kernel
theorem dX5_init_46 : decode cX5_init 46 = .ok (.putfield 27, 3) := by decide +kernel
theorem dX5_init_49 : decode cX5_init 49 = .ok (.return_, 1) := by decide +kernel
set_option maxHeartbeats 4000000 in
set_option maxRecDepth 100000 in
theorem c_X5_init (l : Launch) (G : xG) (h0 : Nat) (a1 : Nat) (sz : Nat) : Met l yX5_init (Cond.code yX5_init cX5_init 2 none :: xTB) (rmC 1 5 200) (cPre G h0 (.inr (5, [.null, .null, .null, .int 0, .null, .null, .int 0, .null])) sz [.ref h0, .ref a1]) (cPost G h0 (.inr (5, [.null, .null, .null, .int 0, .null, .null, .int 0, .null])) sz (fun (u : Nat → Nat → Nat) => bE G h0 a1 u)) 5 200 (va_A [(h0, (.inr (5, [.null, .null, .null, .int 0, .null, .null, .int 0, .null])))] sz) := by
  refine y_met (by decide) rfl (Nat.le_of_ble_eq_true rfl) ?_
  intro p e s m below meth c ls Z hsz hZe hZ C hl hP hD hS
  have C : cE p s m _ meth c cX5_init 2 RX5 G := C
  obtain ⟨hx, hb, hr, hml, hown, hts, hlocks, hin, hK, hao, hn1, hn2, hn3⟩ := id C
  have hl : lv_has ls 2 [(0, .ref h0), (1, .ref a1)] := hl
  refine lv_aload_n hx hb dX5_init_0 rfl (lv_at hl 0 rfl) ?_
  refine W.objInit hx hb hown (hts _ ml_X5_3) (hts _ oi_n) (hts _ oi_c) rfl (by rw [hml]; exact hl.1) rfl dX5_init_1 (Nat.le_of_ble_eq_true rfl) (Nat.le_of_ble_eq_true rfl) ?_
  refine W.eq (g2 := F0 m 4 ls []) rfl ?_
  refine lv_aload_n hx hb dX5_init_4 rfl (lv_at hl 0 rfl) ?_
  refine lv_bipush (v := 6) hx hb dX5_init_5 (by decide) ?_
  refine y_newa (ty := .int) (N' := 6) hx hb rfl (hts _ ar_int) hK 0 rfl (fun cA f1 f2 => y_sm_int f1 f2) hP hD hS hZ (y_ha_int 6) (by decide) rfl (by decide) (Nat.le_of_ble_eq_true rfl) (Nat.le_of_ble_eq_true rfl) dX5_init_7 (fun q5 H hP hD hS => ?_)
  have hP : va_P (xD G) vwCl ((h0, .inr (5, [.null, .null, .null, .int 0, .null, .null, .int 0, .null])) :: (([(q5, .inl (xk G 0, 6, .inl cz))] : va_W))) H := hP
  have hD : va_D Z ((h0, .inr (5, [.null, .null, .null, .int 0, .null, .null, .int 0, .null])) :: (([(q5, .inl (xk G 0, 6, .inl cz))] : va_W))) := hD
  refine W.widen (k := 1) (n := 6) (by omega) (by omega) ?_
  refine va_putF (D := xD G) (ci := 5) (v := .ref q5) (ty := .array .int) (C := RX5) (T := TX5) (N := 8) hx hb hts in_X5 tyX5 tyX5_ok nmX5 hown hK hP hD hS 0 rfl rfl 1 (by decide) (hts _ fl_X5_9) (fun _ h9 => h9) rfl hin rfl (by decide +kernel) rfl rfl (Nat.le_of_ble_eq_true rfl) dX5_init_9 (fun H locs hP hD hS => ?_)
  have hP : va_P (xD G) vwCl ((h0, .inr (5, [.null, .ref q5, .null, .int 0, .null, .null, .int 0, .null])) :: (([(q5, .inl (xk G 0, 6, .inl cz))] : va_W))) H := hP
  have hD : va_D Z ((h0, .inr (5, [.null, .ref q5, .null, .int 0, .null, .null, .int 0, .null])) :: (([(q5, .inl (xk G 0, 6, .inl cz))] : va_W))) := hD
  refine lv_aload_n hx hb dX5_init_12 rfl (lv_at hl 0 rfl) ?_
  refine lv_bipush (v := 6) hx hb dX5_init_13 (by decide) ?_
  refine y_newa (ty := .int) (N' := 6) hx hb rfl (hts _ ar_int) hK 0 rfl (fun cA f1 f2 => y_sm_int f1 f2) hP hD hS hZ (y_ha_int 6) (by decide) rfl (by decide) (Nat.le_of_ble_eq_true rfl) (Nat.le_of_ble_eq_true rfl) dX5_init_15 (fun q9 H hP hD hS => ?_)
  have hP : va_P (xD G) vwCl ((h0, .inr (5, [.null, .ref q5, .null, .int 0, .null, .null, .int 0, .null])) :: (([(q5, .inl (xk G 0, 6, .inl cz))] : va_W) ++ ([(q9, .inl (xk G 0, 6, .inl cz))] : va_W))) H := hP
  have hD : va_D Z ((h0, .inr (5, [.null, .ref q5, .null, .int 0, .null, .null, .int 0, .null])) :: (([(q5, .inl (xk G 0, 6, .inl cz))] : va_W) ++ ([(q9, .inl (xk G 0, 6, .inl cz))] : va_W))) := hD
  refine W.widen (k := 2) (n := 12) (by omega) (by omega) ?_
  refine va_putF (D := xD G) (ci := 5) (v := .ref q9) (ty := .array .int) (C := RX5) (T := TX5) (N := 8) hx hb hts in_X5 tyX5 tyX5_ok nmX5 hown hK hP hD hS 0 rfl rfl 2 (by decide) (hts _ fl_X5_15) (fun _ h9 => h9) rfl hin rfl (by decide +kernel) rfl rfl (Nat.le_of_ble_eq_true rfl) dX5_init_17 (fun H locs hP hD hS => ?_)
  have hP : va_P (xD G) vwCl ((h0, .inr (5, [.null, .ref q5, .ref q9, .int 0, .null, .null, .int 0, .null])) :: (([(q5, .inl (xk G 0, 6, .inl cz))] : va_W) ++ ([(q9, .inl (xk G 0, 6, .inl cz))] : va_W))) H := hP
  have hD : va_D Z ((h0, .inr (5, [.null, .ref q5, .ref q9, .int 0, .null, .null, .int 0, .null])) :: (([(q5, .inl (xk G 0, 6, .inl cz))] : va_W) ++ ([(q9, .inl (xk G 0, 6, .inl cz))] : va_W))) := hD
  refine lv_aload_n hx hb dX5_init_20 rfl (lv_at hl 0 rfl) ?_
  refine lv_bipush (v := 91) hx hb dX5_init_21 (by decide) ?_
  refine y_newa (ty := .int) (N' := 91) hx hb rfl (hts _ ar_int) hK 0 rfl (fun cA f1 f2 => y_sm_int f1 f2) hP hD hS hZ (y_ha_int 91) (by decide) rfl (by decide) (Nat.le_of_ble_eq_true rfl) (Nat.le_of_ble_eq_true rfl) dX5_init_23 (fun q13 H hP hD hS => ?_)
  have hP : va_P (xD G) vwCl ((h0, .inr (5, [.null, .ref q5, .ref q9, .int 0, .null, .null, .int 0, .null])) :: (([(q5, .inl (xk G 0, 6, .inl cz))] : va_W) ++ ([(q9, .inl (xk G 0, 6, .inl cz))] : va_W) ++ ([(q13, .inl (xk G 0, 91, .inl cz))] : va_W))) H := hP
  have hD : va_D Z ((h0, .inr (5, [.null, .ref q5, .ref q9, .int 0, .null, .null, .int 0, .null])) :: (([(q5, .inl (xk G 0, 6, .inl cz))] : va_W) ++ ([(q9, .inl (xk G 0, 6, .inl cz))] : va_W) ++ ([(q13, .inl (xk G 0, 91, .inl cz))] : va_W))) := hD
  refine W.widen (k := 3) (n := 103) (by omega) (by omega) ?_
  refine va_putF (D := xD G) (ci := 5) (v := .ref q13) (ty := .array .int) (C := RX5) (T := TX5) (N := 8) hx hb hts in_X5 tyX5 tyX5_ok nmX5 hown hK hP hD hS 0 rfl rfl 4 (by decide) (hts _ fl_X5_18) (fun _ h9 => h9) rfl hin rfl (by decide +kernel) rfl rfl (Nat.le_of_ble_eq_true rfl) dX5_init_25 (fun H locs hP hD hS => ?_)
  have hP : va_P (xD G) vwCl ((h0, .inr (5, [.null, .ref q5, .ref q9, .int 0, .ref q13, .null, .int 0, .null])) :: (([(q5, .inl (xk G 0, 6, .inl cz))] : va_W) ++ ([(q9, .inl (xk G 0, 6, .inl cz))] : va_W) ++ ([(q13, .inl (xk G 0, 91, .inl cz))] : va_W))) H := hP
  have hD : va_D Z ((h0, .inr (5, [.null, .ref q5, .ref q9, .int 0, .ref q13, .null, .int 0, .null])) :: (([(q5, .inl (xk G 0, 6, .inl cz))] : va_W) ++ ([(q9, .inl (xk G 0, 6, .inl cz))] : va_W) ++ ([(q13, .inl (xk G 0, 91, .inl cz))] : va_W))) := hD
  refine lv_aload_n hx hb dX5_init_28 rfl (lv_at hl 0 rfl) ?_
  refine lv_bipush (v := 91) hx hb dX5_init_29 (by decide) ?_
  refine y_newa (ty := .int) (N' := 91) hx hb rfl (hts _ ar_int) hK 0 rfl (fun cA f1 f2 => y_sm_int f1 f2) hP hD hS hZ (y_ha_int 91) (by decide) rfl (by decide) (Nat.le_of_ble_eq_true rfl) (Nat.le_of_ble_eq_true rfl) dX5_init_31 (fun q17 H hP hD hS => ?_)
  have hP : va_P (xD G) vwCl ((h0, .inr (5, [.null, .ref q5, .ref q9, .int 0, .ref q13, .null, .int 0, .null])) :: (([(q5, .inl (xk G 0, 6, .inl cz))] : va_W) ++ ([(q9, .inl (xk G 0, 6, .inl cz))] : va_W) ++ ([(q13, .inl (xk G 0, 91, .inl cz))] : va_W) ++ ([(q17, .inl (xk G 0, 91, .inl cz))] : va_W))) H := hP
  have hD : va_D Z ((h0, .inr (5, [.null, .ref q5, .ref q9, .int 0, .ref q13, .null, .int 0, .null])) :: (([(q5, .inl (xk G 0, 6, .inl cz))] : va_W) ++ ([(q9, .inl (xk G 0, 6, .inl cz))] : va_W) ++ ([(q13, .inl (xk G 0, 91, .inl cz))] : va_W) ++ ([(q17, .inl (xk G 0, 91, .inl cz))] : va_W))) := hD
  refine W.widen (k := 4) (n := 194) (by omega) (by omega) ?_
  refine va_putF (D := xD G) (ci := 5) (v := .ref q17) (ty := .array .int) (C := RX5) (T := TX5) (N := 8) hx hb hts in_X5 tyX5 tyX5_ok nmX5 hown hK hP hD hS 0 rfl rfl 5 (by decide) (hts _ fl_X5_21) (fun _ h9 => h9) rfl hin rfl (by decide +kernel) rfl rfl (Nat.le_of_ble_eq_true rfl) dX5_init_33 (fun H locs hP hD hS => ?_)
  have hP : va_P (xD G) vwCl ((h0, .inr (5, [.null, .ref q5, .ref q9, .int 0, .ref q13, .ref q17, .int 0, .null])) :: (([(q5, .inl (xk G 0, 6, .inl cz))] : va_W) ++ ([(q9, .inl (xk G 0, 6, .inl cz))] : va_W) ++ ([(q13, .inl (xk G 0, 91, .inl cz))] : va_W) ++ ([(q17, .inl (xk G 0, 91, .inl cz))] : va_W))) H := hP
  have hD : va_D Z ((h0, .inr (5, [.null, .ref q5, .ref q9, .int 0, .ref q13, .ref q17, .int 0, .null])) :: (([(q5, .inl (xk G 0, 6, .inl cz))] : va_W) ++ ([(q9, .inl (xk G 0, 6, .inl cz))] : va_W) ++ ([(q13, .inl (xk G 0, 91, .inl cz))] : va_W) ++ ([(q17, .inl (xk G 0, 91, .inl cz))] : va_W))) := hD
  refine lv_aload_n hx hb dX5_init_36 rfl (lv_at hl 0 rfl) ?_
  refine lv_bipush (v := 6) hx hb dX5_init_37 (by decide) ?_
  refine y_newa (ty := .int) (N' := 6) hx hb rfl (hts _ ar_int) hK 0 rfl (fun cA f1 f2 => y_sm_int f1 f2) hP hD hS hZ (y_ha_int 6) (by decide) rfl (by decide) (Nat.le_of_ble_eq_true rfl) (Nat.le_of_ble_eq_true rfl) dX5_init_39 (fun q21 H hP hD hS => ?_)
  have hP : va_P (xD G) vwCl ((h0, .inr (5, [.null, .ref q5, .ref q9, .int 0, .ref q13, .ref q17, .int 0, .null])) :: (([(q5, .inl (xk G 0, 6, .inl cz))] : va_W) ++ ([(q9, .inl (xk G 0, 6, .inl cz))] : va_W) ++ ([(q13, .inl (xk G 0, 91, .inl cz))] : va_W) ++ ([(q17, .inl (xk G 0, 91, .inl cz))] : va_W) ++ ([(q21, .inl (xk G 0, 6, .inl cz))] : va_W))) H := hP
  have hD : va_D Z ((h0, .inr (5, [.null, .ref q5, .ref q9, .int 0, .ref q13, .ref q17, .int 0, .null])) :: (([(q5, .inl (xk G 0, 6, .inl cz))] : va_W) ++ ([(q9, .inl (xk G 0, 6, .inl cz))] : va_W) ++ ([(q13, .inl (xk G 0, 91, .inl cz))] : va_W) ++ ([(q17, .inl (xk G 0, 91, .inl cz))] : va_W) ++ ([(q21, .inl (xk G 0, 6, .inl cz))] : va_W))) := hD
  refine W.widen (k := 5) (n := 200) (by omega) (by omega) ?_
  refine va_putF (D := xD G) (ci := 5) (v := .ref q21) (ty := .array .int) (C := RX5) (T := TX5) (N := 8) hx hb hts in_X5 tyX5 tyX5_ok nmX5 hown hK hP hD hS 0 rfl rfl 7 (by decide) (hts _ fl_X5_24) (fun _ h9 => h9) rfl hin rfl (by decide +kernel) rfl rfl (Nat.le_of_ble_eq_true rfl) dX5_init_41 (fun H locs hP hD hS => ?_)
  have hP : va_P (xD G) vwCl ((h0, .inr (5, [.null, .ref q5, .ref q9, .int 0, .ref q13, .ref q17, .int 0, .ref q21])) :: (([(q5, .inl (xk G 0, 6, .inl cz))] : va_W) ++ ([(q9, .inl (xk G 0, 6, .inl cz))] : va_W) ++ ([(q13, .inl (xk G 0, 91, .inl cz))] : va_W) ++ ([(q17, .inl (xk G 0, 91, .inl cz))] : va_W) ++ ([(q21, .inl (xk G 0, 6, .inl cz))] : va_W))) H := hP
  have hD : va_D Z ((h0, .inr (5, [.null, .ref q5, .ref q9, .int 0, .ref q13, .ref q17, .int 0, .ref q21])) :: (([(q5, .inl (xk G 0, 6, .inl cz))] : va_W) ++ ([(q9, .inl (xk G 0, 6, .inl cz))] : va_W) ++ ([(q13, .inl (xk G 0, 91, .inl cz))] : va_W) ++ ([(q17, .inl (xk G 0, 91, .inl cz))] : va_W) ++ ([(q21, .inl (xk G 0, 6, .inl cz))] : va_W))) := hD
  refine lv_aload_n hx hb dX5_init_44 rfl (lv_at hl 0 rfl) ?_
  refine lv_aload_n hx hb dX5_init_45 rfl (lv_at hl 1 rfl) ?_
  refine va_putF (D := xD G) (ci := 5) (v := .ref a1) (ty := .object "EggScales$Told") (C := RX5) (T := TX5) (N := 8) hx hb hts in_X5 tyX5 tyX5_ok nmX5 hown hK hP hD hS 0 rfl rfl 0 (by decide) (hts _ fl_X5_27) (fun _ h9 => h9) rfl hin rfl (by decide +kernel) rfl rfl (Nat.le_of_ble_eq_true rfl) dX5_init_46 (fun H locs hP hD hS => ?_)
  have hP : va_P (xD G) vwCl ((h0, .inr (5, [.ref a1, .ref q5, .ref q9, .int 0, .ref q13, .ref q17, .int 0, .ref q21])) :: (([(q5, .inl (xk G 0, 6, .inl cz))] : va_W) ++ ([(q9, .inl (xk G 0, 6, .inl cz))] : va_W) ++ ([(q13, .inl (xk G 0, 91, .inl cz))] : va_W) ++ ([(q17, .inl (xk G 0, 91, .inl cz))] : va_W) ++ ([(q21, .inl (xk G 0, 6, .inl cz))] : va_W))) H := hP
  have hD : va_D Z ((h0, .inr (5, [.ref a1, .ref q5, .ref q9, .int 0, .ref q13, .ref q17, .int 0, .ref q21])) :: (([(q5, .inl (xk G 0, 6, .inl cz))] : va_W) ++ ([(q9, .inl (xk G 0, 6, .inl cz))] : va_W) ++ ([(q13, .inl (xk G 0, 91, .inl cz))] : va_W) ++ ([(q17, .inl (xk G 0, 91, .inl cz))] : va_W) ++ ([(q21, .inl (xk G 0, 6, .inl cz))] : va_W))) := hD
  have hP9 : va_P (xD G) vwCl ((fun (u : Nat → Nat → Nat) => bE G h0 a1 u) (fun k => match k with | 0 => (fun r => match r with | 2 => q5 | 3 => q9 | 5 => q13 | 6 => q17 | 8 => q21 | _ => h0) | _ => (fun _ => 0))) H := hP
  have hD9 : va_D Z ((fun (u : Nat → Nat → Nat) => bE G h0 a1 u) (fun k => match k with | 0 => (fun r => match r with | 2 => q5 | 3 => q9 | 5 => q13 | 6 => q17 | 8 => q21 | _ => h0) | _ => (fun _ => 0))) := hD
  exact W.vret hx hb hr (fun t ht hW => ⟨⟨(fun k => match k with | 0 => (fun r => match r with | 2 => q5 | 3 => q9 | 5 => q13 | 6 => q17 | 8 => q21 | _ => h0) | _ => (fun _ => 0) : Nat → Nat → Nat), rfl, trivial, by rw [ht]; exact hP9, hD9⟩, hS.F ht⟩) hS.2.2 dX5_init_49 hlocks
