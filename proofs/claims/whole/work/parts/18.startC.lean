section ZS
variable {p : Program} {l : Launch} {e : Env} {R : Room} {s : State} {m : MethodId} {args : Array Value} {below : List Frame} {meth : Method} {c : Code} {H : Heap} {locs : List Loc} {Q : State → Prop} {cells slots : Nat}
variable {cc : ByteArray} {nL : Nat} {own : String} {G : xG} {pc : Nat} {ls : Array Slot} {rest st0 As : List Value} {h1 : Nat} {Z : Nat → Prop} {ws A : va_W}
variable {y : MethodName} {bytes : ByteArray} {maxL n index mc ms : Nat}
theorem z_init {S : Type} {q : Nat} {bl : va_E} {blk : S → va_W} (hx : p.tables.exec = Jvm.exec) (hb : c.code = cc) (hml : c.maxLocals = nL) (hown : s.vm.findClass own = some m.cls) (hts : ∀ w ∈ xTB, w.before args s = true) (hcK : cK G s) (hP : va_P (xD G) vwCl (A ++ [(q, bl)]) H) (hD : va_D Z (A ++ [(q, bl)])) (hS : va_S Z s.heap H locs) (hZ : ∀ q, s.heap.size ≤ q → Z q)
    (hM : Met l y (Cond.code y bytes maxL none :: xTB) (rmC h1 mc ms) (cPre G q bl H.size (.ref q :: As)) (cPost G q bl H.size blk) mc ms (va_A [(q, bl)] H.size)) (hY : yI p R s args own index y bytes maxL h1 mc ms n)
    (hst : st0 = As.reverse ++ .ref q :: rest) (hn : As.length = n) (hsz : ls.size = nL) (hro : (rest.map fun v => v.category).sum ≤ 8) (hdg : decode cc pc = .ok (.invokespecial index, 3)) (hf : cells + mc ≤ R.cells ∧ slots + ms ≤ R.slots)
    (kk : ∀ (u : S) (H : Heap) (locs : List Loc), va_P (xD G) vwCl (A ++ blk u) H → va_D Z (A ++ blk u) → va_S Z s.heap H locs → W p l e R s m args below meth c H locs (cells + mc) (slots + ms) Q (F0 m (pc + 3) ls rest)) : W p l e R s m args below meth c H locs cells slots Q (F0 m pc ls st0) := by
  subst hst
  have hF : ∀ z, va_A [(q, bl)] H.size z → Z z := by
    intro z hz
    rcases hz with ⟨k, e2, hk⟩ | hz
    · have hk1 : k = 0 := by
        have := (List.getElem?_eq_some_iff.mp hk).1
        simp at this; exact this
      subst hk1
      cases hk
      exact hD.2 A.length (q, bl) (by simp)
    · exact hZ z (Nat.le_trans hS.1 hz)
  have hPc : va_P (xD G) vwCl [(q, bl)] H := fun k z hk => hP (A.length + k) z (by rw [List.getElem?_append_right (by omega), show A.length + k - A.length = k by omega]; exact hk)
  have hDc : va_D (fun _ => True) [(q, bl)] := ⟨fun i j a b hi hj _ => by
    have h1 := (List.getElem?_eq_some_iff.mp hi).1
    have h2 := (List.getElem?_eq_some_iff.mp hj).1
    simp at h1 h2; omega, fun _ _ _ => trivial⟩
  have hpre : PreS s H (cPre G q bl H.size (.ref q :: As)) (.ref q :: As) := ⟨cPre_blind _ _ _ _ _, fun U hU hW => ⟨rfl, by rw [hU], by rw [hU]; exact hPc, cK.warm hW hcK, hDc⟩⟩
  have hrun : va_Run p l e R s m args below meth c H locs cells slots mc ms (F0 m pc ls (As.reverse ++ .ref q :: rest)) rest (cPost G q bl H.size blk (.ref q :: As).toArray) (va_A [(q, bl)] H.size) := by
    rcases hY with hY | hY
    · exact va_runI (Ts := xTB) (As := As) (rest := rest) ⟨hx, hb, hml, hown, hts⟩ hM hY hpre rfl hn hsz rfl (lv_room hro) hdg hf
    · exact va_runIN (host := RX7) (Ts := xTB) (As := As) (rest := rest) ⟨hx, hb, hml, hown, hts⟩ hM hY hpre rfl hn hsz rfl (lv_room hro) hdg hf
  refine va_callv hrun hS (fun z _ h => hF z h) hF (fun u t H1 locs1 ht hvm hw hB hz hk hS1 => ?_)
  have hP1 : va_P (xD G) vwCl (blk u) H1 := by rw [← ht]; exact hB.1
  obtain ⟨g1, g2⟩ := va_joinL hP hD hk hF hP1 hB.2
  exact kk u H1 locs1 g1 g2 hS1
end ZS
theorem z_arr {args : Array Value} {s : State} {ty : FieldType} (h : (Cond.arrayClass ty).before args s = true) : ∃ cA : ClassId, ArrOfT s cA ty ∧ s.vm.findClass ("[" ++ ty.toString) = some cA := by
  obtain ⟨cA, kA, comp, h1, h2, h3⟩ := Cond.arrayClass_spec h
  exact ⟨cA, fun n z => ⟨fun k h => (by cases h), kA, h2, comp, h3⟩, h1⟩
theorem z_arrq {args : Array Value} {s : State} {C : String} (h : (Cond.arrayOver (.object C)).before args s = true) : ∃ cA : ClassId, ArrOfT s cA (.object C) ∧ va_RA s cA (.object C) := by
  obtain ⟨comp, c, k, h1, h2, h3, h4, h5⟩ := Cond.arrayOver_spec h
  exact ⟨c, fun n z => ⟨fun k h => (by cases h), k, h3, comp, h4⟩, k, comp, h3, h4, h1, h5⟩
theorem lt_w {w : Cond} (i : Nat) (h : tables_1[i]? = some w) : w ∈ lw_tbl := List.mem_append_right _ (List.mem_of_getElem? h)
set_option maxHeartbeats 4000000 in
set_option maxRecDepth 100000 in
theorem law_start {Rel : xMem → xLL → Prop} (hSim : lawSim Rel) (hRel0 : Rel xM0 xL0) {p : Program} {e : Env} {s : State} {m : MethodId} {below : List Frame} {meth : Method} {c : Code} (l : Launch) {b L : Nat} {xs : Nat → Int32} (hL : L ≤ 256) (C0 : lw_At p s m meth c b L xs) : W p l e room_1 s m #[Value.ref b] below meth c s.heap [] 0 0 (lw_Z below #[Value.ref b] s) (entryFrame m ([Value.ref b] : List Value).toArray 4) := by
  obtain ⟨hx, hb, hr, hml, hown, hts0, hX, hbl, hlocks, hgv⟩ := id C0
  have hown : s.vm.findClass RL = some m.cls := hown
  have hts : ∀ w ∈ xTB, w.before #[Value.ref b] s = true := fun w hw => hts0 w (List.mem_filter.mp hw).1
  obtain ⟨c0, iS0, hKn0⟩ := u_known (C := RX0) (T := TX0) (N := 6) (n := 6) hts in_X0 (hts _ is_X0)
  obtain ⟨c1, iS1, hKn1⟩ := u_known (C := RX1) (T := TX1) (N := 2) (n := 2) hts in_X1 (hts _ is_X1)
  obtain ⟨c2, iS2, hKn2⟩ := u_known (C := RX2) (T := TX2) (N := 3) (n := 3) hts in_X2 (hts _ is_X2)
  obtain ⟨c3, iS3, hKn3⟩ := u_known (C := RX3) (T := TX3) (N := 7) (n := 7) hts in_X3 (hts _ is_X3)
  obtain ⟨c4, iS4, hKn4⟩ := u_known (C := RX4) (T := TX4) (N := 6) (n := 6) hts in_X4 (hts _ is_X4)
  obtain ⟨c5, iS5, hKn5⟩ := u_known (C := RX5) (T := TX5) (N := 8) (n := 8) hts in_X5 (hts _ is_X5)
  obtain ⟨c6, iS6, hKn6⟩ := u_known (C := RX6) (T := TX6) (N := 7) (n := 7) hts in_X6 (hts _ is_X6)
  obtain ⟨c7, iS7, hKn7⟩ := u_known (C := RX7) (T := TX7) (N := 11) (n := 11) hts in_X7 (hts _ is_X7)
  obtain ⟨c8, iS8, hKn8⟩ := u_known (C := RX8) (T := TX8) (N := 31) (n := 31) hts in_X8 (hts _ is_X8)
  obtain ⟨cI, aI1, aI2⟩ := z_arr (hts _ ar_int)
  obtain ⟨cC, aC1, aC2⟩ := z_arr (hts _ ar_char)
  obtain ⟨cZ, aZ1, aZ2⟩ := z_arr (hts _ ar_boolean)
  have hov : (Cond.arrayOver (.object "EggScales$Floor")).before #[Value.ref b] s = true := hts0 _ (lt_w 147 (by decide +kernel))
  obtain ⟨cF, aF1, aF2⟩ := z_arrq hov
  obtain ⟨dC, dI, hKc⟩ : ∃ (dC : Nat → ClassId) (dI : Nat → Nat → Nat), ∀ (k : Nat) (q : vw_C), vwCl[k]? = some q → u_Kn s q.1 q.2.1 q.2.2 (dC k) (dI k) := by
    refine ⟨fun k => match k with | 0 => c0 | 1 => c1 | 2 => c2 | 3 => c3 | 4 => c4 | 5 => c5 | 6 => c6 | 7 => c7 | _ => c8, fun k => match k with | 0 => iS0 | 1 => iS1 | 2 => iS2 | 3 => iS3 | 4 => iS4 | 5 => iS5 | 6 => iS6 | 7 => iS7 | _ => iS8, ?_⟩
    intro k q hq
    match k, hq with
    | 0, hq => cases hq; exact hKn0
    | 1, hq => cases hq; exact hKn1
    | 2, hq => cases hq; exact hKn2
    | 3, hq => cases hq; exact hKn3
    | 4, hq => cases hq; exact hKn4
    | 5, hq => cases hq; exact hKn5
    | 6, hq => cases hq; exact hKn6
    | 7, hq => cases hq; exact hKn7
    | 8, hq => cases hq; exact hKn8
    | k + 9, hq => simp [vwCl] at hq
  have hcK0 : ∀ qf : Nat → Nat → Nat, cK (dC, dI, qf, fun k => match k with | 0 => cI | 1 => cC | 2 => cZ | _ => cF) s := by
    intro qf
    refine ⟨⟨hKc, fun k q hk => ?_⟩, va_AO.of hov, va_Nw.of rfl (hts0 _ (lt_w 24 (by decide +kernel))), va_Nw.of rfl (hts0 _ (lt_w 30 (by decide +kernel))), va_Nw.of rfl (hts0 _ (lt_w 107 (by decide +kernel)))⟩
    match k, hk with
    | 0, hk => cases hk; exact ⟨aI1, aI2⟩
    | 1, hk => cases hk; exact ⟨aC1, aC2⟩
    | 2, hk => cases hk; exact ⟨aZ1, aZ2⟩
    | 3, hk => cases hk; exact ⟨aF1, aF2⟩
    | k + 4, hk => simp [xT] at hk
  have hnb : va_Nw nw_beyond s := va_Nw.of rfl (hts0 _ (lt_w 317 (by decide +kernel)))
  have hcK := hcK0 (fun _ _ => 0)
  generalize hcA : (fun k => match k with | 0 => cI | 1 => cC | 2 => cZ | _ => cF : Nat → ClassId) = cA at hcK0 hcK
  have hZ : ∀ q : Nat, s.heap.size ≤ q → (fun q : Nat => s.heap.size ≤ q) q := fun _ h => h
  have hS : va_S (fun q : Nat => s.heap.size ≤ q) s.heap s.heap [] := va_S.rf
  have hP : va_P (xD (dC, dI, fun _ _ => 0, cA)) vwCl [] s.heap := fun k q h => by simp at h
  have hD : va_D (fun q : Nat => s.heap.size ≤ q) [] := ⟨fun i j p q h => by simp at h, fun k q h => by simp at h⟩
  have hl := lv_entry ([.ref b]) (n := 4) (Nat.le_of_ble_eq_true rfl)
  rw [lg_entry_eq]
  generalize (lg_sl ([.ref b]) ++ List.replicate (4 - (lg_sl ([.ref b])).length) Slot.unset).toArray = ls at hl ⊢
  have hl : lv_has ls 4 [(0, .ref b)] := hl
  refine va_new (ci := 7) (fs := [.null, .null, .null, .null, .null, .null, .null, .null, .null, .null, .long 0]) (C := RX7) (T := TX7) (N := 11) hx hb hts in_X7 tyX7 tyX7_ok hown (hts _ cl_L_7) (hts _ is_X7) (hts _ yi_X7_init) hcK.1 hP hD hS hZ rfl (fun j hj => by rcases (show j = 0 ∨ j = 1 ∨ j = 2 ∨ j = 3 ∨ j = 4 ∨ j = 5 ∨ j = 6 ∨ j = 7 ∨ j = 8 ∨ j = 9 ∨ j = 10 by omega) with rfl | rfl | rfl | rfl | rfl | rfl | rfl | rfl | rfl | rfl | rfl <;> rfl) (Nat.le_of_ble_eq_true rfl) (Nat.le_of_ble_eq_true rfl) dL_law_0 (fun x0 H hP hD hS => ?_)
  refine W.widen (k := 1) (n := 11) (by omega) (by omega) ?_
  refine lv_dup hx hb dL_law_3 rfl ?_
  refine z_init (S := xS) (n := 0) (A := []) (q := x0) (blk := fun w => bX (dC, dI, fun _ _ => 0, cA) x0 w) (As := []) (rest := [.ref x0]) hx hb hml hown hts hcK hP hD hS hZ (c_X7_init l _ x0 _) (y_cw hts yc_X7_init yi_X7_init yn_X7_init ml_L_9 rfl ⟨by decide +kernel, by decide +kernel, by decide +kernel⟩ ⟨Nat.le_of_ble_eq_true rfl, Nat.le_of_ble_eq_true rfl⟩) rfl rfl hl.1 (Nat.le_of_ble_eq_true rfl) dL_law_4 ⟨Nat.le_of_ble_eq_true rfl, Nat.le_of_ble_eq_true rfl⟩ (fun w H locs hP hD hS => ?_)
  refine W.widen (k := 157) (n := 1215) (by omega) (by omega) ?_
  refine lv_astore_n (lv' := [(1, .ref x0), (0, .ref b)]) hx hb dL_law_7 rfl hl (by decide) rfl (fun ls hl => ?_)
  refine va_new (ci := 8) (fs := [.int 0, .null, .null, .null, .int 0, .null, .null, .null, .int 0, .null, .null, .int 0, .null, .long 0, .null, .int 0, .int 0, .int 0, .int 0, .int 0, .int 0, .int 0, .int 0, .null, .int 0, .null, .null, .null, .null, .null, .null]) (C := RX8) (T := TX8) (N := 31) hx hb hts in_X8 tyX8 tyX8_ok hown (hts _ cl_L_10) (hts _ is_X8) (hts _ yi_X8_init) hcK.1 hP hD hS hZ rfl (fun j hj => by rcases (show j = 0 ∨ j = 1 ∨ j = 2 ∨ j = 3 ∨ j = 4 ∨ j = 5 ∨ j = 6 ∨ j = 7 ∨ j = 8 ∨ j = 9 ∨ j = 10 ∨ j = 11 ∨ j = 12 ∨ j = 13 ∨ j = 14 ∨ j = 15 ∨ j = 16 ∨ j = 17 ∨ j = 18 ∨ j = 19 ∨ j = 20 ∨ j = 21 ∨ j = 22 ∨ j = 23 ∨ j = 24 ∨ j = 25 ∨ j = 26 ∨ j = 27 ∨ j = 28 ∨ j = 29 ∨ j = 30 by omega) with rfl | rfl | rfl | rfl | rfl | rfl | rfl | rfl | rfl | rfl | rfl | rfl | rfl | rfl | rfl | rfl | rfl | rfl | rfl | rfl | rfl | rfl | rfl | rfl | rfl | rfl | rfl | rfl | rfl | rfl | rfl <;> rfl) (Nat.le_of_ble_eq_true rfl) (Nat.le_of_ble_eq_true rfl) dL_law_8 (fun m0 H hP hD hS => ?_)
  refine W.widen (k := 158) (n := 1246) (by omega) (by omega) ?_
  refine lv_dup hx hb dL_law_11 rfl ?_
  refine z_init (S := Nat → Nat → Nat) (n := 0) (A := [] ++ bX (dC, dI, fun _ _ => 0, cA) x0 w) (q := m0) (blk := fun u => bM (dC, dI, fun _ _ => 0, cA) m0 u) (As := []) (rest := [.ref m0]) hx hb hml hown hts hcK hP hD hS hZ (c_X8_init l _ m0 _) (y_cw hts yc_X8_init yi_X8_init yn_X8_init ml_L_12 rfl ⟨by decide +kernel, by decide +kernel, by decide +kernel⟩ ⟨Nat.le_of_ble_eq_true rfl, Nat.le_of_ble_eq_true rfl⟩) rfl rfl hl.1 (Nat.le_of_ble_eq_true rfl) dL_law_12 ⟨Nat.le_of_ble_eq_true rfl, Nat.le_of_ble_eq_true rfl⟩ (fun u H locs hP hD hS => ?_)
  refine W.widen (k := 600000) (n := 7302250) (by omega) (by omega) ?_
  refine lv_astore_n (lv' := [(2, .ref m0), (1, .ref x0), (0, .ref b)]) hx hb dL_law_15 rfl hl (by decide) rfl (fun ls hl => ?_)
  refine lv_iconst (v := 0) hx hb dL_law_16 (by decide) ?_
  refine lv_istore_n (lv' := [(3, .int 0), (2, .ref m0), (1, .ref x0), (0, .ref b)]) hx hb dL_law_17 rfl hl (by decide) rfl (fun ls hl => ?_)
  have hP2 : va_P (xD (dC, dI, qA x0 m0 w u, cA)) vwCl (([] ++ bX (dC, dI, qA x0 m0 w u, cA) x0 w) ++ bM (dC, dI, qA x0 m0 w u, cA) m0 u) H := hP
  have hD2 : va_D (fun q : Nat => s.heap.size ≤ q) (([] ++ bX (dC, dI, qA x0 m0 w u, cA) x0 w) ++ bM (dC, dI, qA x0 m0 w u, cA) m0 u) := hD
  have hW := st_world (G := (dC, dI, qA x0 m0 w u, cA)) rfl hP2
  obtain ⟨hap, hge⟩ := st_apart (G := (dC, dI, qA x0 m0 w u, cA)) rfl hD2
  have hI : xI (dC, dI, qA x0 m0 w u, cA) xM0 xL0 s.heap H locs := ⟨hW, hS.1, fun q h1 h2 => hS.2.1 q h1 (fun h3 => h2 (Or.inr h3)), fun q hq => Or.inr (hS.2.2 q hq)⟩
  exact law_loop hSim hL C0 (G := (dC, dI, qA x0 m0 w u, cA)) ⟨(hcK0 _).1, hap, hnb⟩ hge (L + 1) 0 (Nat.zero_le L) (by omega) xM0 xL0 hRel0 H locs hI ls (lv_sub hl [3, 2, 1, 0] rfl)
