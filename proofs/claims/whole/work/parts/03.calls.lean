theorem xW_calling {G : xG} {M : xMem} {L : xLL} {U : State} {g : JFrame} {mk : MethodId} {a : Array Value} (h : xW G M L U) : xW G M L (U.calling g mk a) :=
  ⟨h.1, va_K.moved (u := U) (U := U.calling g mk a) (Vm.Alike.refl U.vm) h.2.1, h.2.2.1, va_Nw.same rfl rfl h.2.2.2⟩
theorem xP_blind (G : xG) (M : xMem) (L : xLL) (sz : Nat) (av : List Value) : FrameBlind (xP G M L sz av) := fun _ _ _ _ q => ⟨q.1, q.2.1, xW_calling q.2.2⟩
def xYV (y : MethodName) (bytes : ByteArray) (maxL : Nat) (rt' : Option FieldType) (n : Nat) : Prop := Cond.instanceMethod y ∈ xTB ∧ Cond.selects y.cls y y ∈ xTB ∧ Cond.initialized y.cls ∈ xTB ∧ Cond.code y bytes maxL rt' ∈ xTB ∧ (y.cls ≠ "java/lang/invoke/MethodHandle" ∧ y.cls ≠ "java/lang/invoke/VarHandle" ∧ (parseMethodDescriptor y.desc).map (fun d => d.parameters.length) = some n)
def xYS (y : MethodName) (bytes : ByteArray) (maxL : Nat) (rt' : Option FieldType) (n : Nat) : Prop := Cond.static y ∈ xTB ∧ Cond.initialized y.cls ∈ xTB ∧ Cond.code y bytes maxL rt' ∈ xTB ∧ (y.cls ≠ "java/lang/invoke/MethodHandle" ∧ y.cls ≠ "java/lang/invoke/VarHandle" ∧ (parseMethodDescriptor y.desc).map (fun d => d.parameters.length) = some n)
theorem xZ_up {G : xG} {a b : Nat} (h : a ≤ b) (q : Nat) (hq : xZ G b q) : xZ G a q := by
  rcases hq with hq | hq
  · exact Or.inl hq
  · exact Or.inr (Nat.le_trans h hq)
theorem xR_up {h1 h2 maxL : Nat} (hh : h1 + 1 ≤ h2) (hm : maxL ≤ 40) : (xR h1).frames + 1 ≤ (xR h2).frames ∧ 8 + (maxL + 11) + (xR h1).locals ≤ (xR h2).locals := by
  refine ⟨hh, ?_⟩
  show 8 + (maxL + 11) + 60 * h1 ≤ 60 * h2
  omega
section XCall
variable {p : Program} {l : Launch} {e : Env} {s : State} {m : MethodId} {args : Array Value} {below : List Frame} {meth : Method} {c : Code} {H : Heap} {locs : List Loc} {Q : State → Prop}
variable {cc : ByteArray} {nL : Nat} {rt : Option FieldType} {own : String} {G : xG} {M M1 : xMem} {L L1 : xLL} {pc : Nat} {ls : Array Slot} {rest st0 As : List Value} {h1 h2 : Nat}
variable {y : MethodName} {bytes : ByteArray} {maxL n index : Nat} {rt' : Option FieldType}
theorem x_cwV (E : xE p s m args meth c cc nL rt own G) (hY : xYV y bytes maxL rt' n) (hL : Cond.methodLink own index y ∈ xTB) (hh : h1 + 1 ≤ h2) (hm : maxL ≤ 40) : CallW (xR h2) s args own y.cls index y bytes maxL rt' (Cond.code y bytes maxL rt' :: xTB) (xR h1) 0 0 n := by
  refine cwV (Ts := xTB) n E.2.2.2.2.2.1 ?_ rfl rfl rfl ⟨rfl, hY.2.2.2.2⟩ (xR_up hh hm)
  intro w hw
  rcases List.mem_append.mp hw with hw | hw
  · have hi : w ∈ xTB := by
      simp only [List.mem_cons, List.not_mem_nil, or_false] at hw
      rcases hw with e | e | e | e
      · rw [e]; exact hL
      · rw [e]; exact hY.1
      · rw [e]; exact hY.2.1
      · rw [e]; exact hY.2.2.1
    exact ⟨hi, good_of_word (List.mem_filter.mp hi).2⟩
  · exact tb_good' hY.2.2.2.1 w hw
theorem x_cwS (E : xE p s m args meth c cc nL rt own G) (hY : xYS y bytes maxL rt' n) (hL : Cond.methodLink own index y ∈ xTB) (hh : h1 + 1 ≤ h2) (hm : maxL ≤ 40) : CallB (xR h2) s args own index y bytes maxL rt' (Cond.code y bytes maxL rt' :: xTB) (xR h1) 0 0 n ∧ (Cond.static y).before args s = true :=
  ⟨callB_of (Ts := xTB) n E.2.2.2.2.2.1 (tb_good' hY.2.2.1) rfl rfl rfl (E.2.2.2.2.2.1 _ hY.2.1) (E.2.2.2.2.2.1 _ hL) hY.2.2.2 (xR_up hh hm), E.2.2.2.2.2.1 _ hY.1⟩
theorem x_pre (E : xE p s m args meth c cc nL rt own G) (hI : xI G M L s.heap H locs) (av : List Value) (U : State) (hU : U.heap = H) (hW : s.WarmedH U.vm) : xP G M L H.size av av.toArray U :=
  ⟨rfl, by rw [hU], by rw [hU]; exact hI.1, va_K.moved hW.alike E.2.2.2.2.2.2.2.1, E.2.2.2.2.2.2.2.2.1, va_Nw.warmM hW E.2.2.2.2.2.2.2.2.2⟩
theorem x_recv (E : xE p s m args meth c cc nL rt own G) (hI : xI G M L s.heap H locs) {o ci : Nat} {fs : List Value} (hm : (o, 0) ∈ ixs) (he : xo G o (M o 0) (L o) = .inr (ci, fs)) {q : vw_C} (hc : vwCl[ci]? = some q) : ∃ cell : Cell, H[xq G o 0]? = some cell ∧ cell.vm.isStatics = false ∧ s.vm.findClass q.1 = some cell.cls := by
  obtain ⟨k, g1, g2⟩ := xw_get G M L hm
  have g3 : (xw G M L)[k]? = some (xq G o 0, .inr (ci, fs)) := by rw [g2, ← he]; rfl
  exact va_recv E.2.2.2.2.2.2.2.1 hI.1 hc g3
theorem x_callVi {r1 : Int32} (E : xE p s m args meth c cc nL rt own G) (hI : xI G M L s.heap H locs) {o ci : Nat} {fs : List Value} (hm : (o, 0) ∈ ixs) (he : xo G o (M o 0) (L o) = .inr (ci, fs)) {q : vw_C} (hc : vwCl[ci]? = some q) (hq : q.1 = y.cls)
    (hM : Met l y (Cond.code y bytes maxL rt' :: xTB) (xR h1) (xP G M L H.size (.ref (xq G o 0) :: As)) (xQi G r1 M1 L1 H.size) 0 0 (xZ G H.size)) (hY : xYV y bytes maxL rt' n) (hL : Cond.methodLink own index y ∈ xTB) (hh : h1 + 1 ≤ h2) (hmx : maxL ≤ 40)
    (hst : st0 = As.reverse ++ .ref (xq G o 0) :: rest) (hn : As.length = n) (hsz : ls.size = nL) (hro : (rest.map fun v => v.category).sum ≤ 8) (hdg : decode cc pc = .ok (.invokevirtual index, 3))
    (kk : ∀ (H : Heap) (locs : List Loc), xI G M1 L1 s.heap H locs → W p l e (xR h2) s m args below meth c H locs 0 0 Q (F0 m (pc + 3) ls (.int r1 :: rest))) : W p l e (xR h2) s m args below meth c H locs 0 0 Q (F0 m pc ls st0) := by
  subst hst
  refine va_calli (va_runV (C := y.cls) (As := As) (rest := rest) ⟨E.1, E.2.1, E.2.2.2.1, E.2.2.2.2.1, E.2.2.2.2.2.1⟩ hM (x_cwV E hY hL hh hmx) ⟨xP_blind _ _ _ _ _, by rw [← hq]; exact x_recv E hI hm he hc, x_pre E hI _⟩ rfl hn hsz rfl (lv_room hro) hdg ⟨Nat.zero_le _, Nat.zero_le _⟩) hI.2 (fun q _ h => xZ_up hI.2.1 q h) (xZ_up hI.2.1) (fun r u t H1 locs1 ht hvm hw hB hz hk hS => ?_)
  subst hw
  exact kk H1 locs1 ⟨by rw [← ht]; exact hB.1, hS⟩
theorem x_callVl {r1 : Int64} (E : xE p s m args meth c cc nL rt own G) (hI : xI G M L s.heap H locs) {o ci : Nat} {fs : List Value} (hm : (o, 0) ∈ ixs) (he : xo G o (M o 0) (L o) = .inr (ci, fs)) {q : vw_C} (hc : vwCl[ci]? = some q) (hq : q.1 = y.cls)
    (hM : Met l y (Cond.code y bytes maxL rt' :: xTB) (xR h1) (xP G M L H.size (.ref (xq G o 0) :: As)) (xQl G r1 M1 L1 H.size) 0 0 (xZ G H.size)) (hY : xYV y bytes maxL rt' n) (hL : Cond.methodLink own index y ∈ xTB) (hh : h1 + 1 ≤ h2) (hmx : maxL ≤ 40)
    (hst : st0 = As.reverse ++ .ref (xq G o 0) :: rest) (hn : As.length = n) (hsz : ls.size = nL) (hro : (rest.map fun v => v.category).sum ≤ 8) (hdg : decode cc pc = .ok (.invokevirtual index, 3))
    (kk : ∀ (H : Heap) (locs : List Loc), xI G M1 L1 s.heap H locs → W p l e (xR h2) s m args below meth c H locs 0 0 Q (F0 m (pc + 3) ls (.long r1 :: rest))) : W p l e (xR h2) s m args below meth c H locs 0 0 Q (F0 m pc ls st0) := by
  subst hst
  refine va_calll (va_runV (C := y.cls) (As := As) (rest := rest) ⟨E.1, E.2.1, E.2.2.2.1, E.2.2.2.2.1, E.2.2.2.2.2.1⟩ hM (x_cwV E hY hL hh hmx) ⟨xP_blind _ _ _ _ _, by rw [← hq]; exact x_recv E hI hm he hc, x_pre E hI _⟩ rfl hn hsz rfl (lv_room hro) hdg ⟨Nat.zero_le _, Nat.zero_le _⟩) hI.2 (fun q _ h => xZ_up hI.2.1 q h) (xZ_up hI.2.1) (fun r u t H1 locs1 ht hvm hw hB hz hk hS => ?_)
  subst hw
  exact kk H1 locs1 ⟨by rw [← ht]; exact hB.1, hS⟩
theorem x_callVv (E : xE p s m args meth c cc nL rt own G) (hI : xI G M L s.heap H locs) {o ci : Nat} {fs : List Value} (hm : (o, 0) ∈ ixs) (he : xo G o (M o 0) (L o) = .inr (ci, fs)) {q : vw_C} (hc : vwCl[ci]? = some q) (hq : q.1 = y.cls)
    (hM : Met l y (Cond.code y bytes maxL rt' :: xTB) (xR h1) (xP G M L H.size (.ref (xq G o 0) :: As)) (xQv G M1 L1 H.size) 0 0 (xZ G H.size)) (hY : xYV y bytes maxL rt' n) (hL : Cond.methodLink own index y ∈ xTB) (hh : h1 + 1 ≤ h2) (hmx : maxL ≤ 40)
    (hst : st0 = As.reverse ++ .ref (xq G o 0) :: rest) (hn : As.length = n) (hsz : ls.size = nL) (hro : (rest.map fun v => v.category).sum ≤ 8) (hdg : decode cc pc = .ok (.invokevirtual index, 3))
    (kk : ∀ (H : Heap) (locs : List Loc), xI G M1 L1 s.heap H locs → W p l e (xR h2) s m args below meth c H locs 0 0 Q (F0 m (pc + 3) ls rest)) : W p l e (xR h2) s m args below meth c H locs 0 0 Q (F0 m pc ls st0) := by
  subst hst
  refine va_callv (va_runV (C := y.cls) (As := As) (rest := rest) ⟨E.1, E.2.1, E.2.2.2.1, E.2.2.2.2.1, E.2.2.2.2.2.1⟩ hM (x_cwV E hY hL hh hmx) ⟨xP_blind _ _ _ _ _, by rw [← hq]; exact x_recv E hI hm he hc, x_pre E hI _⟩ rfl hn hsz rfl (lv_room hro) hdg ⟨Nat.zero_le _, Nat.zero_le _⟩) hI.2 (fun q _ h => xZ_up hI.2.1 q h) (xZ_up hI.2.1) (fun u t H1 locs1 ht hvm hw hB hz hk hS => ?_)
  exact kk H1 locs1 ⟨by rw [← ht]; exact hB.1, hS⟩
theorem x_callSi {r1 : Int32} (E : xE p s m args meth c cc nL rt own G) (hI : xI G M L s.heap H locs)
    (hM : Met l y (Cond.code y bytes maxL rt' :: xTB) (xR h1) (xP G M L H.size As) (xQi G r1 M1 L1 H.size) 0 0 (xZ G H.size)) (hY : xYS y bytes maxL rt' n) (hL : Cond.methodLink own index y ∈ xTB) (hh : h1 + 1 ≤ h2) (hmx : maxL ≤ 40)
    (hst : st0 = As.reverse ++ rest) (hn : As.length = n) (hsz : ls.size = nL) (hro : (rest.map fun v => v.category).sum ≤ 8) (hdg : decode cc pc = .ok (.invokestatic index, 3))
    (kk : ∀ (H : Heap) (locs : List Loc), xI G M1 L1 s.heap H locs → W p l e (xR h2) s m args below meth c H locs 0 0 Q (F0 m (pc + 3) ls (.int r1 :: rest))) : W p l e (xR h2) s m args below meth c H locs 0 0 Q (F0 m pc ls st0) := by
  subst hst
  refine va_calli (va_runS (As := As) (rest := rest) ⟨E.1, E.2.1, E.2.2.2.1, E.2.2.2.2.1, E.2.2.2.2.2.1⟩ hM (x_cwS E hY hL hh hmx) ⟨xP_blind _ _ _ _ _, x_pre E hI _⟩ rfl hn hsz rfl (lv_room hro) hdg ⟨Nat.zero_le _, Nat.zero_le _⟩) hI.2 (fun q _ h => xZ_up hI.2.1 q h) (xZ_up hI.2.1) (fun r u t H1 locs1 ht hvm hw hB hz hk hS => ?_)
  subst hw
  exact kk H1 locs1 ⟨by rw [← ht]; exact hB.1, hS⟩
theorem x_callSv (E : xE p s m args meth c cc nL rt own G) (hI : xI G M L s.heap H locs)
    (hM : Met l y (Cond.code y bytes maxL rt' :: xTB) (xR h1) (xP G M L H.size As) (xQv G M1 L1 H.size) 0 0 (xZ G H.size)) (hY : xYS y bytes maxL rt' n) (hL : Cond.methodLink own index y ∈ xTB) (hh : h1 + 1 ≤ h2) (hmx : maxL ≤ 40)
    (hst : st0 = As.reverse ++ rest) (hn : As.length = n) (hsz : ls.size = nL) (hro : (rest.map fun v => v.category).sum ≤ 8) (hdg : decode cc pc = .ok (.invokestatic index, 3))
    (kk : ∀ (H : Heap) (locs : List Loc), xI G M1 L1 s.heap H locs → W p l e (xR h2) s m args below meth c H locs 0 0 Q (F0 m (pc + 3) ls rest)) : W p l e (xR h2) s m args below meth c H locs 0 0 Q (F0 m pc ls st0) := by
  subst hst
  refine va_callv (va_runS (As := As) (rest := rest) ⟨E.1, E.2.1, E.2.2.2.1, E.2.2.2.2.1, E.2.2.2.2.2.1⟩ hM (x_cwS E hY hL hh hmx) ⟨xP_blind _ _ _ _ _, x_pre E hI _⟩ rfl hn hsz rfl (lv_room hro) hdg ⟨Nat.zero_le _, Nat.zero_le _⟩) hI.2 (fun q _ h => xZ_up hI.2.1 q h) (xZ_up hI.2.1) (fun u t H1 locs1 ht hvm hw hB hz hk hS => ?_)
  exact kk H1 locs1 ⟨by rw [← ht]; exact hB.1, hS⟩
/-- Reader's call of EggScales.beyond, a nest mate's private method -/
theorem x_callNi {r1 : Int32} (E : xE p s m args meth c cc nL rt RX3 G) (hI : xI G M L s.heap H locs)
    (hM : Met l yX7_beyond (Cond.code yX7_beyond bytes maxL rt' :: xTB) (xR h1) (xP G M L H.size As) (xQi G r1 M1 L1 H.size) 0 0 (xZ G H.size)) (hY : xYS yX7_beyond bytes maxL rt' n) (hh : h1 + 1 ≤ h2) (hmx : maxL ≤ 40)
    (hst : st0 = As.reverse ++ rest) (hn : As.length = n) (hsz : ls.size = nL) (hro : (rest.map fun v => v.category).sum ≤ 8) (hdg : decode cc pc = .ok (.invokestatic 78, 3))
    (kk : ∀ (H : Heap) (locs : List Loc), xI G M1 L1 s.heap H locs → W p l e (xR h2) s m args below meth c H locs 0 0 Q (F0 m (pc + 3) ls (.int r1 :: rest))) : W p l e (xR h2) s m args below meth c H locs 0 0 Q (F0 m pc ls st0) := by
  subst hst
  refine va_calli (va_runSN (host := RX7) (Ts := xTB) (As := As) (rest := rest) ⟨E.1, E.2.1, E.2.2.2.1, E.2.2.2.2.1, E.2.2.2.2.2.1⟩ hM ⟨va_cnB n E.2.2.2.2.2.1 (tb_good' hY.2.2.1) rfl rfl rfl E.2.2.2.2.2.2.2.2.2 (E.2.2.2.2.2.1 _ hY.2.1) hY.2.2.2 (xR_up hh hmx), E.2.2.2.2.2.1 _ hY.1, trivial⟩ ⟨xP_blind _ _ _ _ _, x_pre E hI _⟩ rfl hn hsz rfl (lv_room hro) hdg ⟨Nat.zero_le _, Nat.zero_le _⟩) hI.2 (fun q _ h => xZ_up hI.2.1 q h) (xZ_up hI.2.1) (fun r u t H1 locs1 ht hvm hw hB hz hk hS => ?_)
  subst hw
  exact kk H1 locs1 ⟨by rw [← ht]; exact hB.1, hS⟩
theorem x_met {Qc : Array Value → State → Outcome → State → Prop} {sz h : Nat} {av : List Value} (hy : plainName y.cls = true) (hlen : (lg_sl av).length ≤ nL)
    (body : ∀ (p : Program) (e : Env) (s : State) (m : MethodId) (below : List Frame) (meth : Method) (c : Code) (ls : Array Slot), s.heap.size = sz → xE p s m av.toArray meth c cc nL rt y.cls G → lv_has ls nL (lv_args 0 av) → xI G M L s.heap s.heap [] →
      W p l e (xR h) s m av.toArray below meth c s.heap [] 0 0 (MQ below Qc av.toArray s 0 0 (xZ G sz)) (F0 m 0 ls [])) : Met l y (Cond.code y cc nL rt :: xTB) (xR h) (xP G M L sz av) Qc 0 0 (xZ G sz) := by
  refine Met.ofW (cc := cc) (maxL := nL) (ret := rt) hy rfl ?_
  intro p e s m args below meth c s₁ B hml hv
  obtain ⟨rfl, hsz, hW⟩ := hv
  have hts := atoms_spec (ws := Cond.code y cc nL rt :: xTB) B.pre
  have hown : s.vm.findClass y.cls = some m.cls := findClass_of_methodNamed B.named
  rw [lg_entry_eq]
  exact body p e s m below meth c _ hsz ⟨B.exec, B.bytes, B.returns, hml, hown, fun w hw => hts w (List.mem_cons_of_mem _ hw), B.notSynchronized, hW.2⟩ (lv_entry av hlen) ⟨hW.1, va_S.rf⟩
theorem x_max (E : xE p s m args meth c cc nL rt own G) (hL : Cond.methodLink own index Lib.Math.max.name ∈ xTB) (hS : Cond.static Lib.Math.max.name ∈ xTB) (hi : Cond.initialized "java/lang/Math" ∈ xTB) (hC : Cond.code Lib.Math.max.name Lib.Math.max.code 2 (some .int) ∈ xTB) (hh : 1 ≤ h2) (hsz : ls.size = nL) (hro : (rest.map fun v => v.category).sum ≤ 8) {x z : Int32} (hdg : decode cc pc = .ok (.invokestatic index, 3))
    (kk : W p l e (xR h2) s m args below meth c H locs 0 0 Q (F0 m (pc + 3) ls (.int (if x < z then z else x) :: rest))) : W p l e (xR h2) s m args below meth c H locs 0 0 Q (F0 m pc ls (.int z :: .int x :: rest)) :=
  va_mmax E.1 E.2.1 (by rw [hsz]; exact E.2.2.2.1) E.2.2.2.2.1 (E.2.2.2.2.2.1 _ hL) (E.2.2.2.2.2.1 _ hS) (E.2.2.2.2.2.1 _ hi) (E.2.2.2.2.2.1 _ hC) hh (by show _ ≤ 60 * h2; omega) (Nat.le_refl _) (Nat.le_refl _) hdg kk
theorem x_min (E : xE p s m args meth c cc nL rt own G) (hL : Cond.methodLink own index Lib.Math.min.name ∈ xTB) (hS : Cond.static Lib.Math.min.name ∈ xTB) (hi : Cond.initialized "java/lang/Math" ∈ xTB) (hC : Cond.code Lib.Math.min.name Lib.Math.min.code 2 (some .int) ∈ xTB) (hh : 1 ≤ h2) (hsz : ls.size = nL) (hro : (rest.map fun v => v.category).sum ≤ 8) {x z : Int32} (hdg : decode cc pc = .ok (.invokestatic index, 3))
    (kk : W p l e (xR h2) s m args below meth c H locs 0 0 Q (F0 m (pc + 3) ls (.int (if z < x then z else x) :: rest))) : W p l e (xR h2) s m args below meth c H locs 0 0 Q (F0 m pc ls (.int z :: .int x :: rest)) :=
  va_mmin E.1 E.2.1 (by rw [hsz]; exact E.2.2.2.1) E.2.2.2.2.1 (E.2.2.2.2.2.1 _ hL) (E.2.2.2.2.2.1 _ hS) (E.2.2.2.2.2.1 _ hi) (E.2.2.2.2.2.1 _ hC) hh (by show _ ≤ 60 * h2; omega) (Nat.le_refl _) (Nat.le_refl _) hdg kk
theorem x_copy (E : xE p s m args meth c cc nL rt own G) (hI : xI G M L s.heap H locs) {o0 r0 n0 o1 r1 n1 : Nat} (hm0 : (o0, r0) ∈ ixs) (hc0 : ∀ w v, xc G o0 r0 w v = .inl (xk G 0, n0, .inl w)) (hm1 : (o1, r1) ∈ ixs) (hc1 : ∀ w v, xc G o1 r1 w v = .inl (xk G 0, n1, .inl w)) (hL : Cond.methodLink own index arraycopyName ∈ xTB) (hN : Cond.native arraycopyName ∈ xTB) (hS : Cond.static arraycopyName ∈ xTB) (hi : Cond.initialized "java/lang/System" ∈ xTB) (hh : 1 ≤ h2) (hsz : ls.size = nL) (hro : (rest.map fun v => v.category).sum ≤ 8) {sp dp k : Int32} (hb : xcb sp dp k n0 n1 = true) (hdg : decode cc pc = .ok (.invokestatic index, 3)) (hM : xcp M o0 r0 sp o1 r1 dp k = M1)
    (kk : ∀ (H : Heap) (locs : List Loc), xI G M1 L s.heap H locs → W p l e (xR h2) s m args below meth c H locs 0 0 Q (F0 m (pc + 3) ls rest)) : W p l e (xR h2) s m args below meth c H locs 0 0 Q (F0 m pc ls (.int k :: .int dp :: .ref (xq G o1 r1) :: .int sp :: .ref (xq G o0 r0) :: rest)) := by
  obtain ⟨k0, h10, h20⟩ := xw_get G M L hm0
  obtain ⟨k1, h11, h21⟩ := xw_get G M L hm1
  rw [hc0] at h20
  rw [hc1] at h21
  obtain ⟨b1, b2, b3, b4, b5⟩ := xcb_s hb
  refine va_copyi E.1 E.2.1 (by rw [hsz]; exact E.2.2.2.1) E.2.2.2.2.1 (E.2.2.2.2.2.1 _ hL) (E.2.2.2.2.2.1 _ hN) (E.2.2.2.2.2.1 _ hS) (E.2.2.2.2.2.1 _ hi) E.2.2.2.2.2.2.2.1 hI.1 (xw_D E.2.2.2.2.2.2.2.2.1) hI.2 k0 k1 0 0 h20 h21 rfl rfl rfl b1 b2 b3 b4 b5 (fun _ _ => rfl) hh (by
    have h9 : nativeFrameWords "java/lang/System" "arraycopy" 5 + 11 ≤ 40 := by decide +kernel
    show _ ≤ 60 * h2
    omega) hdg (fun H1 locs1 hP hD hS => ?_)
  have e1 := xw_set G M L h11 (va_cpy (M o0 r0) (M o1 r1) sp.toNatClampNeg dp.toNatClampNeg k.toNatClampNeg)
  rw [hc1] at e1
  rw [e1] at hP
  subst hM
  exact kk H1 locs1 ⟨hP, hS⟩
end XCall
section XSw
variable {p : Program} {l : Launch} {e : Env} {R : Room} {s : State} {m : MethodId} {args : Array Value} {below : List Frame} {meth : Method} {c : Code} {H : Heap} {locs : List Loc} {Q : State → Prop}
variable {cc : ByteArray} {pc : Nat} {ls : Array Slot} {rest : List Value}
theorem x_tsIn (hexec : p.tables.exec = Jvm.exec) (hb : c.code = cc) {dflt lo hi : Int} {offs : Array Int} {len : Nat} {x v : Int32} {off : Int} {tgt : Nat} (hx : x = v) (hdg : decode cc pc = .ok (.tableswitch dflt lo hi offs, len)) (h1 : ¬ v.toInt < lo) (h2 : ¬ hi < v.toInt) (ho : offs[(v.toInt - lo).toNat]? = some off) (ht : (pc : Int) + off = (tgt : Int))
    (k : W p l e R s m args below meth c H locs 0 0 Q (F0 m tgt ls rest)) : W p l e R s m args below meth c H locs 0 0 Q (F0 m pc ls (.int x :: rest)) := by
  subst hx
  exact lv_tableIn hexec hb hdg h1 h2 ho ht k
theorem x_tsOut (hexec : p.tables.exec = Jvm.exec) (hb : c.code = cc) {dflt lo hi : Int} {offs : Array Int} {len : Nat} {x : Int32} {tgt : Nat} (hdg : decode cc pc = .ok (.tableswitch dflt lo hi offs, len)) (hx : ∀ k : Nat, k < (hi - lo + 1).toNat → ¬ x = Int32.ofInt (lo + k)) (ht : (pc : Int) + dflt = (tgt : Int))
    (k : W p l e R s m args below meth c H locs 0 0 Q (F0 m tgt ls rest)) : W p l e R s m args below meth c H locs 0 0 Q (F0 m pc ls (.int x :: rest)) := by
  refine lv_tableOut hexec hb hdg ?_ ht k
  by_cases h1 : x.toInt < lo
  · exact Or.inl h1
  · by_cases h2 : hi < x.toInt
    · exact Or.inr h2
    · exact absurd (by rw [show lo + ((x.toInt - lo).toNat : Int) = x.toInt by omega]; exact (Int32.ofInt_toInt x).symm) (hx (x.toInt - lo).toNat (by omega))
end XSw
