def cz : Nat → Int32 := fun _ => 0
abbrev aI (G : xG) (n : Nat) : va_E := .inl (xk G 0, n, .inl cz)
def bT (G : xG) (h : Nat) (u : Nat → Nat) : va_W := (h, .inr (6, [.int 0, .int 0, .ref (u 3), .ref (u 4), .ref (u 5), .ref (u 6), .ref (u 7)])) :: ([(u 3, aI G 5)] ++ [(u 4, aI G 5)] ++ [(u 5, aI G 5)] ++ [(u 6, aI G 6)] ++ [(u 7, aI G 6)])
def bF (G : xG) (h t : Nat) (u : Nat → Nat) : va_W := (h, .inr (0, [.ref t, .ref (u 2), .ref (u 3), .ref (u 4), .ref (u 5), .ref (u 6)])) :: ([(u 2, aI G 6)] ++ [(u 3, aI G 6)] ++ [(u 4, aI G 5)] ++ [(u 5, aI G 5)] ++ [(u 6, aI G 5)])
def bR (G : xG) (h : Nat) (u : Nat → Nat → Nat) : va_W := (h, .inr (3, [.ref (u 0 1), .int 0, .ref (u 101 0), .int 0, .int 0, .int 0, .int 0])) :: ([(u 0 1, .inl (xk G 1, 120, .inl cz))] ++ bT G (u 101 0) (u 1))
def bP (G : xG) (h t : Nat) (u : Nat → Nat → Nat) : va_W := (h, .inr (2, [.ref (u 0 1), .int 0, .int 0])) :: (u 0 1, .inl (xk G 3, 10, .inr (.inr (.inr (.inr (fun k => some (u (k + 101) 0))))))) :: (bF G (u 101 0) t (u 1) ++ bF G (u 102 0) t (u 2) ++ bF G (u 103 0) t (u 3) ++ bF G (u 104 0) t (u 4) ++ bF G (u 105 0) t (u 5) ++ bF G (u 106 0) t (u 6) ++ bF G (u 107 0) t (u 7) ++ bF G (u 108 0) t (u 8) ++ bF G (u 109 0) t (u 9) ++ bF G (u 110 0) t (u 10))
def bS (G : xG) (h t : Nat) (u : Nat → Nat → Nat) : va_W := (h, .inr (4, [.ref t, .ref (u 0 2), .ref (u 0 3), .ref (u 0 4), .int 0, .int 0])) :: (u 0 2, .inl (xk G 3, 7, .inr (.inr (.inr (.inr (fun k => some (u (k + 101) 0))))))) :: ([(u 0 3, aI G 6)] ++ [(u 0 4, aI G 6)] ++ bF G (u 101 0) t (u 1) ++ bF G (u 102 0) t (u 2) ++ bF G (u 103 0) t (u 3) ++ bF G (u 104 0) t (u 4) ++ bF G (u 105 0) t (u 5) ++ bF G (u 106 0) t (u 6) ++ bF G (u 107 0) t (u 7))
def bK (G : xG) (h f : Nat) (u : Nat → Nat → Nat) : va_W := (h, .inr (1, [.ref f, .ref (u 0 2)])) :: [(u 0 2, aI G 64)]
def bE (G : xG) (h t : Nat) (u : Nat → Nat → Nat) : va_W := (h, .inr (5, [.ref t, .ref (u 0 2), .ref (u 0 3), .int 0, .ref (u 0 5), .ref (u 0 6), .int 0, .ref (u 0 8)])) :: ([(u 0 2, aI G 6)] ++ [(u 0 3, aI G 6)] ++ [(u 0 5, aI G 91)] ++ [(u 0 6, aI G 91)] ++ [(u 0 8, aI G 6)])
def bM (G : xG) (h : Nat) (u : Nat → Nat → Nat) : va_W := (h, .inr (8, [.int 0, .ref (u 0 2), .ref (u 0 3), .ref (u 0 4), .int 0, .ref (u 0 6), .ref (u 0 7), .ref (u 0 8), .int 0, .ref (u 0 10), .ref (u 0 11), .int 0, .ref (u 0 13), .long 0, .ref (u 0 15), .int 0, .int 0, .int 0, .int 0, .int 0, .int 0, .int 0, .int 0, .ref (u 0 24), .int 0, .ref (u 0 26), .ref (u 0 27), .ref (u 0 28), .ref (u 0 29), .ref (u 0 30), .ref (u 0 31)])) :: ([(u 0 2, aI G 5)] ++ [(u 0 3, aI G 5)] ++ [(u 0 4, aI G 5)] ++ [(u 0 6, aI G 6)] ++ [(u 0 7, aI G 27)] ++ [(u 0 8, aI G 270)] ++ [(u 0 10, aI G 54)] ++ [(u 0 11, .inl (xk G 2, 2, .inl cz))] ++ [(u 0 13, aI G 12)] ++ [(u 0 15, aI G 120)] ++ [(u 0 24, aI G 15)] ++ [(u 0 26, aI G 12)] ++ [(u 0 27, aI G 27)] ++ [(u 0 28, aI G 6)] ++ [(u 0 29, aI G 6)] ++ [(u 0 30, aI G 64)] ++ [(u 0 31, aI G 6)])
abbrev bX0 (G : xG) (h : Nat) (ob : Nat → Nat) (u : Nat → Nat → Nat) : Nat × va_E := (h, .inr (7, [.ref (ob 1), .ref (ob 3), .ref (ob 9), .ref (ob 10), .ref (ob 4), .ref (u 0 6), .ref (u 0 7), .ref (ob 5), .ref (ob 6), .ref (ob 7), .long 0]))
abbrev xS : Type := (Nat → Nat) × (Nat → Nat → Nat) × (Nat → Nat → Nat) × (Nat → Nat → Nat) × (Nat → Nat → Nat) × (Nat → Nat → Nat) × (Nat → Nat → Nat)
/-- the object EggScales and all that its constructor makes -/
def bX (G : xG) (h : Nat) (w : xS) : va_W := bX0 G h w.1 w.2.1 :: (w.2.1 0 6, .inl (xk G 3, 2, .inr (.inr (.inr (.inr (fun k => some (w.1 (k + 12)))))))) :: (bR G (w.1 1) w.2.2.1 ++ bT G (w.1 3) (w.2.1 3) ++ bF G (w.1 9) (w.1 3) (w.2.1 9) ++ bF G (w.1 10) (w.1 3) (w.2.1 10) ++ bP G (w.1 4) (w.1 3) w.2.2.2.1 ++ [(w.2.1 0 7, .inl (xk G 2, 2, .inl cz))] ++ bS G (w.1 5) (w.1 3) w.2.2.2.2.1 ++ bK G (w.1 6) (w.1 9) w.2.2.2.2.2.1 ++ bE G (w.1 7) (w.1 3) w.2.2.2.2.2.2 ++ bF G (w.1 12) (w.1 3) (w.2.1 12) ++ bF G (w.1 13) (w.1 3) (w.2.1 13))
abbrev nw_RI : Cond := .methodLinkNest RX7 9 yX3_init RX7
abbrev nw_TI : Cond := .methodLinkNest RX3 17 yX6_init RX7
abbrev nw_TX : Cond := .methodLinkNest RX7 18 yX6_init RX7
def cK (G : xG) (s : State) : Prop := va_K (xD G) vwCl (xT G) s ∧ va_AO "EggScales$Floor" s ∧ va_Nw nw_RI s ∧ va_Nw nw_TI s ∧ va_Nw nw_TX s
def rmC (h mc ms : Nat) : Room := { frames := h, cells := mc, slots := ms, locals := 60 * h }
def cE (p : Program) (s : State) (m : MethodId) (args : Array Value) (meth : Method) (c : Code) (cc : ByteArray) (nL : Nat) (own : String) (G : xG) : Prop :=
  p.tables.exec = Jvm.exec ∧ c.code = cc ∧ meth.sig.returnType = none ∧ c.maxLocals = nL ∧ s.vm.findClass own = some m.cls ∧ (∀ w ∈ xTB, w.before args s = true) ∧ meth.locks = false ∧ meth.name = "<init>" ∧ cK G s
abbrev cPre (G : xG) (h : Nat) (bl : va_E) (sz : Nat) (av : List Value) : Array Value → State → Prop := va_Pc av (fun U => U.heap.size = sz ∧ va_P (xD G) vwCl [(h, bl)] U.heap ∧ cK G U ∧ va_D (fun _ => True) [(h, bl)])
abbrev cPost {S : Type} (G : xG) (h : Nat) (bl : va_E) (sz : Nat) (blk : S → va_W) : Array Value → State → Outcome → State → Prop := va_Qv (fun (_ : S) => True) (fun u t => va_P (xD G) vwCl (blk u) t.heap ∧ va_D (va_A [(h, bl)] sz) (blk u)) (va_A [(h, bl)] sz)
theorem cK.warm {G : xG} {s U : State} (hW : s.WarmedH U.vm) (h : cK G s) : cK G U := ⟨va_K.moved hW.alike h.1, va_AO.moved hW.alike h.2.1, va_Nw.warmM hW h.2.2.1, va_Nw.warmM hW h.2.2.2.1, va_Nw.warmM hW h.2.2.2.2⟩
theorem cK.calling {G : xG} {U : State} {g : JFrame} {mk : MethodId} {a : Array Value} (h : cK G U) : cK G (U.calling g mk a) := ⟨va_K.moved (u := U) (U := U.calling g mk a) (Vm.Alike.refl U.vm) h.1, va_AO.moved (u := U) (U := U.calling g mk a) (Vm.Alike.refl U.vm) h.2.1, va_Nw.same rfl rfl h.2.2.1, va_Nw.same rfl rfl h.2.2.2.1, va_Nw.same rfl rfl h.2.2.2.2⟩
theorem cPre_blind (G : xG) (h : Nat) (bl : va_E) (sz : Nat) (av : List Value) : FrameBlind (cPre G h bl sz av) := fun _ _ _ _ q => ⟨q.1, q.2.1, q.2.2.1, cK.calling q.2.2.2.1, q.2.2.2.2⟩
/-- behind a constructor: all that was there, and what it made -/
theorem va_joinL {A0 : Nat → Prop} {D : va_G} {cl : List vw_C} {A wc w1 : va_W} {H H1 : Heap} (hP : va_P D cl (A ++ wc) H) (hD : va_D A0 (A ++ wc)) (hk : ∀ q : Nat, q < H.size → ¬ va_A wc H.size q → H1[q]? = H[q]?) (hF : ∀ q, va_A wc H.size q → A0 q) (hP1 : va_P D cl w1 H1) (hD1 : va_D (va_A wc H.size) w1) : va_P D cl (A ++ w1) H1 ∧ va_D A0 (A ++ w1) := by
  have at' : ∀ (k : Nat) (q : Nat × va_E), A[k]? = some q → (A ++ wc)[k]? = some q := fun k q h => by
    have hl : k < A.length := (List.getElem?_eq_some_iff.mp h).1
    rw [List.getElem?_append_left hl]; exact h
  have apart : ∀ (k : Nat) (q : Nat × va_E), A[k]? = some q → q.1 < H.size ∧ ¬ va_A wc H.size q.1 := by
    intro k q hq
    have hl := (hP k q (at' k q hq)).lt
    refine ⟨hl, fun h => ?_⟩
    rcases h with ⟨j, e, h⟩ | h
    · have hj : (A ++ wc)[A.length + j]? = some (q.1, e) := by
        rw [List.getElem?_append_right (by omega), show A.length + j - A.length = j by omega]; exact h
      have := hD.1 k (A.length + j) q (q.1, e) (at' k q hq) hj rfl
      have hl2 : k < A.length := (List.getElem?_eq_some_iff.mp hq).1
      omega
    · omega
  refine ⟨va_P.app (fun k q hq => (hP k q (at' k q hq)).kept (hk q.1 (apart k q hq).1 (apart k q hq).2)) hP1, va_D.app ⟨fun i j x y hi hj e => hD.1 i j x y (at' i x hi) (at' j y hj) e, fun k q hq => hD.2 k q (at' k q hq)⟩ (hD1.weaken (fun k q _ h => hF q.1 h)) (fun i j x y hx hy hxy => (apart i x hx).2 (by rw [hxy]; exact hD1.2 j y hy))⟩
theorem vp_refs {c : ClassId} {n : Nat} {f g : Nat → Option Nat} (h : ∀ j, j < n → f j = g j) : vp_cell c (n, .inr (.inr (.inr (.inr f)))) = vp_cell c (n, .inr (.inr (.inr (.inr g)))) := by
  rw [vp_cell_q, vp_cell_q]
  unfold arrV
  congr 1
  apply Array.ext_getElem?
  intro j
  by_cases hj : j < n
  · simp [hj, h j hj]
  · simp [hj]
theorem va_Pref {D : va_G} {cl : List vw_C} {ws : va_W} {H : Heap} {k a n : Nat} {c : ClassId} {f g : Nat → Option Nat} (hP : va_P D cl ws H) (hk : ws[k]? = some (a, .inl (c, n, .inr (.inr (.inr (.inr f)))))) (h : ∀ j, j < n → f j = g j) : va_P D cl (ws.set k (a, .inl (c, n, .inr (.inr (.inr (.inr g)))))) H := by
  intro j q hq
  by_cases hj : j = k
  · subst hj
    rw [List.getElem?_set_self (List.getElem?_eq_some_iff.mp hk).1] at hq
    cases hq
    have h1 : H[a]? = some (vp_cell c (n, .inr (.inr (.inr (.inr f))))) := hP j _ hk
    rw [vp_refs h] at h1
    exact h1
  · rw [List.getElem?_set_ne (fun e => hj e.symm)] at hq
    exact hP j q hq
/-- a cell is brought to the second place -/
theorem va_P2 {D : va_G} {cl : List vw_C} {t x : Nat × va_E} {A B : va_W} {H : Heap} (hP : va_P D cl (t :: (A ++ [x] ++ B)) H) : va_P D cl (t :: x :: (A ++ B)) H := by
  intro k q hk
  have hm : q ∈ t :: (A ++ [x] ++ B) := by
    have := List.mem_of_getElem? hk
    simp only [List.mem_cons, List.mem_append, List.not_mem_nil, or_false] at this ⊢
    rcases this with h | h | h | h
    · exact Or.inl h
    · exact Or.inr (Or.inl (Or.inr h))
    · exact Or.inr (Or.inl (Or.inl h))
    · exact Or.inr (Or.inr h)
  obtain ⟨j, hj⟩ := List.getElem?_of_mem hm
  exact hP j q hj
theorem va_D_iff {A : Nat → Prop} {ws : va_W} : va_D A ws ↔ (ws.map (fun q => q.1)).Nodup ∧ ∀ q ∈ ws, A q.1 := by
  constructor
  · intro h
    refine ⟨?_, fun q hq => by obtain ⟨k, hk⟩ := List.getElem?_of_mem hq; exact h.2 k q hk⟩
    show List.Pairwise _ _
    rw [List.pairwise_iff_getElem]
    intro i j hi hj hij e
    have hi' : i < ws.length := by simpa using hi
    have hj' : j < ws.length := by simpa using hj
    have := h.1 i j ws[i] ws[j] (List.getElem?_eq_getElem hi') (List.getElem?_eq_getElem hj') (by simpa using e)
    omega
  · intro ⟨h1, h2⟩
    refine ⟨fun i j a b hi hj e => ?_, fun k q hk => h2 q (List.mem_of_getElem? hk)⟩
    have hi' := (List.getElem?_eq_some_iff.mp hi).1
    exact (List.getElem?_inj (l := ws.map (fun q => q.1)) (by simpa using hi') h1).mp (by simp [hi, hj, e])
theorem va_D2 {Z : Nat → Prop} {t x : Nat × va_E} {A B : va_W} (hD : va_D Z (t :: (A ++ [x] ++ B))) : va_D Z (t :: x :: (A ++ B)) := by
  rw [va_D_iff] at hD ⊢
  refine ⟨?_, fun q hq => hD.2 q ?_⟩
  · have hp : (t :: x :: (A ++ B)).Perm (t :: (A ++ [x] ++ B)) := by
      refine List.Perm.cons t ?_
      rw [List.append_assoc]
      exact (List.perm_middle (a := x) (l₁ := A) (l₂ := B)).symm
    exact (hp.map (fun q => q.1)).nodup_iff.mpr hD.1
  · simp only [List.mem_cons, List.mem_append, List.not_mem_nil, or_false] at hq ⊢
    rcases hq with h | h | h | h
    · exact Or.inl h
    · exact Or.inr (Or.inl (Or.inr h))
    · exact Or.inr (Or.inl (Or.inl h))
    · exact Or.inr (Or.inr h)
section XCt
variable {p : Program} {l : Launch} {e : Env} {R : Room} {s : State} {m : MethodId} {args : Array Value} {below : List Frame} {meth : Method} {c : Code} {H : Heap} {locs : List Loc} {Q : State → Prop} {cells slots : Nat}
variable {cc : ByteArray} {nL : Nat} {own : String} {G : xG} {pc : Nat} {ls : Array Slot} {rest st0 As : List Value} {h1 : Nat} {Z : Nat → Prop} {ws A : va_W}
variable {y : MethodName} {bytes : ByteArray} {maxL n index mc ms : Nat}
theorem y_newa (hexec : p.tables.exec = Jvm.exec) (hb : c.code = cc) {atype : ArrayType} {ty : FieldType} (hty : newarray.typeOf atype = ty) (harr : (Cond.arrayClass ty).before args s = true) (hK : va_K (xD G) vwCl (xT G) s) (t0 : Nat) (hj : (xT G)[t0]? = some (xk G t0, ty)) (hf : ∀ cA : ClassId, va_RA s cA ty → va_RA s (xk G t0) ty → cA = xk G t0) (hP : va_P (xD G) vwCl ws H) (hD : va_D Z ws) (hS : va_S Z s.heap H locs) (hZ : ∀ q, s.heap.size ≤ q → Z q)
    {k : Int32} {N' : Nat} (ha : ∀ cA : ClassId, vp_cell cA (N', .inl cz) = arrV cA N' (fun _ => defaultValue ty)) (hn : ¬ k < 0) (hN : k.toNatClampNeg = N') (hbytes : N' * componentBytes ty ≤ 536870912) (hcells : cells + 1 ≤ R.cells) (hslots : slots + N' ≤ R.slots) (hdg : decode cc pc = .ok (.newarray atype, 2))
    (kk : ∀ (q : Nat) (H : Heap), va_P (xD G) vwCl (ws ++ [(q, .inl (xk G t0, N', .inl cz))]) H → va_D Z (ws ++ [(q, .inl (xk G t0, N', .inl cz))]) → va_S Z s.heap H locs →
      W p l e R s m args below meth c H locs (cells + 1) (slots + N') Q (F0 m (pc + 2) ls (.ref q :: rest))) : W p l e R s m args below meth c H locs cells slots Q (F0 m pc ls (.int k :: rest)) := by
  refine va_newa hexec hb (by rw [hty]; exact harr) hty hK hP hD hS hZ ha hn hN hbytes hcells hslots hdg (fun q cA H1 hK1 hP1 hD1 hS1 => ?_)
  have e1 : cA = xk G t0 := hf cA (hK1.2 4 (cA, ty) rfl).2 (hK.2 t0 _ hj).2
  subst e1
  exact kk q H1 hP1 hD1 hS1
theorem y_newq (hexec : p.tables.exec = Jvm.exec) (hb : c.code = cc) (hown : s.vm.findClass own = some m.cls) (hcl : (Cond.classLink own index RX0).before args s = true) (hov : va_AO "EggScales$Floor" s) (hK : va_K (xD G) vwCl (xT G) s) (hP : va_P (xD G) vwCl ws H) (hD : va_D Z ws) (hS : va_S Z s.heap H locs) (hZ : ∀ q, s.heap.size ≤ q → Z q)
    {k : Int32} {N' : Nat} (hn : ¬ k < 0) (hN : k.toNatClampNeg = N') (hbytes : N' * 4 ≤ 536870912) (hcells : cells + 1 ≤ R.cells) (hslots : slots + N' ≤ R.slots) (hdg : decode cc pc = .ok (.anewarray index, 3))
    (kk : ∀ (q : Nat) (H : Heap), va_P (xD G) vwCl (ws ++ [(q, .inl (xk G 3, N', .inr (.inr (.inr (.inr (fun _ => none))))))]) H → va_D Z (ws ++ [(q, .inl (xk G 3, N', .inr (.inr (.inr (.inr (fun _ => none))))))]) → va_S Z s.heap H locs →
      W p l e R s m args below meth c H locs (cells + 1) (slots + N') Q (F0 m (pc + 3) ls (.ref q :: rest))) : W p l e R s m args below meth c H locs cells slots Q (F0 m pc ls (.int k :: rest)) := by
  refine va_newq (C := "EggScales$Floor") hexec hb hown hcl hov hK hP hD hS hZ hn hN hbytes hcells hslots hdg (fun q cA H1 hK1 hP1 hD1 hS1 => ?_)
  have e1 : cA = xk G 3 := by
    obtain ⟨_, _, _, _, _, f1⟩ := (hK1.2 4 (cA, .object "EggScales$Floor") rfl).2
    obtain ⟨_, _, _, _, _, f2⟩ := (hK.2 3 _ rfl).2
    exact Option.some.inj (f1.symm.trans f2)
  subst e1
  exact kk q H1 hP1 hD1 hS1
/-- a constructor's words: plain, or a nest mate's private one -/
def yI (p : Program) (R : Room) (s : State) (args : Array Value) (own : String) (index : Nat) (y : MethodName) (bytes : ByteArray) (maxL : Nat) (h mc ms n : Nat) : Prop :=
  (CallB R s args own index y bytes maxL none (Cond.code y bytes maxL none :: xTB) (rmC h mc ms) mc ms n ∧ y.name = "<init>" ∧ (Cond.instanceMethod y).before args s = true) ∨ (va_CN R s args own index y RX7 bytes maxL none (Cond.code y bytes maxL none :: xTB) (rmC h mc ms) mc ms n ∧ y.name = "<init>" ∧ (Cond.instanceMethod y).before args s = true)
theorem y_init {S : Type} {q : Nat} {bl : va_E} {blk : S → va_W} (C : cE p s m args meth c cc nL own G) (hP : va_P (xD G) vwCl (A ++ [(q, bl)]) H) (hD : va_D Z (A ++ [(q, bl)])) (hS : va_S Z s.heap H locs) (hZ : ∀ q, s.heap.size ≤ q → Z q)
    (hM : Met l y (Cond.code y bytes maxL none :: xTB) (rmC h1 mc ms) (cPre G q bl H.size (.ref q :: As)) (cPost G q bl H.size blk) mc ms (va_A [(q, bl)] H.size)) (hY : yI p R s args own index y bytes maxL h1 mc ms n)
    (hst : st0 = As.reverse ++ .ref q :: rest) (hn : As.length = n) (hsz : ls.size = nL) (hro : (rest.map fun v => v.category).sum ≤ 8) (hdg : decode cc pc = .ok (.invokespecial index, 3)) (hf : cells + mc ≤ R.cells ∧ slots + ms ≤ R.slots)
    (kk : ∀ (u : S) (H : Heap) (locs : List Loc), va_P (xD G) vwCl (A ++ blk u) H → va_D Z (A ++ blk u) → va_S Z s.heap H locs → W p l e R s m args below meth c H locs (cells + mc) (slots + ms) Q (F0 m (pc + 3) ls rest)) : W p l e R s m args below meth c H locs cells slots Q (F0 m pc ls st0) := by
  subst hst
  have hF : ∀ z, va_A [(q, bl)] H.size z → Z z := by
    intro z hz
    rcases hz with ⟨k, e2, hk⟩ | hz
    · have hk1 : k = 0 := by
        have := (List.getElem?_eq_some_iff.mp hk).1
        simp at this; exact this
      subst hk1
      cases hk
      exact hD.2 A.length (q, bl) (by simp)
    · exact hZ z (Nat.le_trans hS.1 hz)
  have hPc : va_P (xD G) vwCl [(q, bl)] H := fun k z hk => hP (A.length + k) z (by rw [List.getElem?_append_right (by omega), show A.length + k - A.length = k by omega]; exact hk)
  have hDc : va_D (fun _ => True) [(q, bl)] := ⟨fun i j a b hi hj _ => by
    have h1 := (List.getElem?_eq_some_iff.mp hi).1
    have h2 := (List.getElem?_eq_some_iff.mp hj).1
    simp at h1 h2; omega, fun _ _ _ => trivial⟩
  have hpre : PreS s H (cPre G q bl H.size (.ref q :: As)) (.ref q :: As) := ⟨cPre_blind _ _ _ _ _, fun U hU hW => ⟨rfl, by rw [hU], by rw [hU]; exact hPc, cK.warm hW C.2.2.2.2.2.2.2.2, hDc⟩⟩
  have hrun : va_Run p l e R s m args below meth c H locs cells slots mc ms (F0 m pc ls (As.reverse ++ .ref q :: rest)) rest (cPost G q bl H.size blk (.ref q :: As).toArray) (va_A [(q, bl)] H.size) := by
    rcases hY with hY | hY
    · exact va_runI (Ts := xTB) (As := As) (rest := rest) ⟨C.1, C.2.1, C.2.2.2.1, C.2.2.2.2.1, C.2.2.2.2.2.1⟩ hM hY hpre rfl hn hsz rfl (lv_room hro) hdg hf
    · exact va_runIN (host := RX7) (Ts := xTB) (As := As) (rest := rest) ⟨C.1, C.2.1, C.2.2.2.1, C.2.2.2.2.1, C.2.2.2.2.2.1⟩ hM hY hpre rfl hn hsz rfl (lv_room hro) hdg hf
  refine va_callv hrun hS (fun z _ h => hF z h) hF (fun u t H1 locs1 ht hvm hw hB hz hk hS1 => ?_)
  have hP1 : va_P (xD G) vwCl (blk u) H1 := by rw [← ht]; exact hB.1
  obtain ⟨g1, g2⟩ := va_joinL hP hD hk hF hP1 hB.2
  exact kk u H1 locs1 g1 g2 hS1
theorem y_cw (hts : ∀ w ∈ xTB, w.before args s = true) (hc : Cond.code y bytes maxL none ∈ xTB) (hi : Cond.initialized y.cls ∈ xTB) (hin : Cond.instanceMethod y ∈ xTB) (hL : Cond.methodLink own index y ∈ xTB) (hy : y.name = "<init>") (hd : y.cls ≠ "java/lang/invoke/MethodHandle" ∧ y.cls ≠ "java/lang/invoke/VarHandle" ∧ (parseMethodDescriptor y.desc).map (fun d => d.parameters.length) = some n) (hR : (rmC h1 mc ms).frames + 1 ≤ R.frames ∧ 8 + (maxL + 11) + (rmC h1 mc ms).locals ≤ R.locals) : yI p R s args own index y bytes maxL h1 mc ms n :=
  Or.inl (cwI (Ts := xTB) n hts (tb_good' hc) rfl rfl rfl (hts _ hi) (hts _ hL) (hts _ hin) hy hd hR)
theorem y_cn (hts : ∀ w ∈ xTB, w.before args s = true) (hc : Cond.code y bytes maxL none ∈ xTB) (hi : Cond.initialized y.cls ∈ xTB) (hin : Cond.instanceMethod y ∈ xTB) (hL : va_Nw (.methodLinkNest own index y RX7) s) (hy : y.name = "<init>") (hd : y.cls ≠ "java/lang/invoke/MethodHandle" ∧ y.cls ≠ "java/lang/invoke/VarHandle" ∧ (parseMethodDescriptor y.desc).map (fun d => d.parameters.length) = some n) (hR : (rmC h1 mc ms).frames + 1 ≤ R.frames ∧ 8 + (maxL + 11) + (rmC h1 mc ms).locals ≤ R.locals) : yI p R s args own index y bytes maxL h1 mc ms n :=
  Or.inr ⟨va_cnB n hts (tb_good' hc) rfl rfl rfl hL (hts _ hi) hd hR, hy, hts _ hin⟩
end XCt
theorem y_met {S : Type} {l : Launch} {y : MethodName} {cc : ByteArray} {nL : Nat} {G : xG} {sz h mc ms h0 : Nat} {bl : va_E} {av : List Value} {blk : S → va_W} (hy : plainName y.cls = true) (hn : y.name = "<init>") (hlen : (lg_sl av).length ≤ nL)
    (body : ∀ (p : Program) (e : Env) (s : State) (m : MethodId) (below : List Frame) (meth : Method) (c : Code) (ls : Array Slot) (Z : Nat → Prop), s.heap.size = sz → va_A [(h0, bl)] sz = Z → (∀ q : Nat, s.heap.size ≤ q → Z q) → cE p s m av.toArray meth c cc nL y.cls G → lv_has ls nL (lv_args 0 av) → va_P (xD G) vwCl [(h0, bl)] s.heap → va_D Z [(h0, bl)] → va_S Z s.heap s.heap [] →
      W p l e (rmC h mc ms) s m av.toArray below meth c s.heap [] 0 0 (MQ below (va_Qv (fun (_ : S) => True) (fun u t => va_P (xD G) vwCl (blk u) t.heap ∧ va_D Z (blk u)) Z) av.toArray s mc ms Z) (F0 m 0 ls [])) : Met l y (Cond.code y cc nL none :: xTB) (rmC h mc ms) (cPre G h0 bl sz av) (cPost G h0 bl sz blk) mc ms (va_A [(h0, bl)] sz) := by
  refine Met.ofW (cc := cc) (maxL := nL) (ret := none) hy rfl ?_
  intro p e s m args below meth c s₁ B hml hv
  obtain ⟨rfl, hsz, hP, hK, hD0⟩ := hv
  have hts := atoms_spec (ws := Cond.code y cc nL none :: xTB) B.pre
  have hown : s.vm.findClass y.cls = some m.cls := findClass_of_methodNamed B.named
  have hin : meth.name = "<init>" := by rw [← hn]; exact (name_of_methodNamed B.named B.method).1
  subst hsz
  have hD := hD0.self (sz := s.heap.size)
  rw [lg_entry_eq]
  exact body p e s m below meth c _ _ rfl rfl (fun q h => Or.inr h) ⟨B.exec, B.bytes, B.returns, hml, hown, fun w hw => hts w (List.mem_cons_of_mem _ hw), B.notSynchronized, hin, hK⟩ (lv_entry av hlen) hP hD va_S.rf
theorem yc_X7_init : Cond.code yX7_init cX7_init 2 none ∈ xTB := tb_t 18 (by decide +kernel) (by decide +kernel)
theorem yn_X7_init : Cond.instanceMethod yX7_init ∈ xTB := tb_t 17 (by decide +kernel) (by decide +kernel)
theorem yi_X7_init : Cond.initialized yX7_init.cls ∈ xTB := tb_t 1 (by decide +kernel) (by decide +kernel)
theorem yc_X0_init : Cond.code yX0_init cX0_init 2 none ∈ xTB := tb_t 112 (by decide +kernel) (by decide +kernel)
theorem yn_X0_init : Cond.instanceMethod yX0_init ∈ xTB := tb_t 111 (by decide +kernel) (by decide +kernel)
theorem yi_X0_init : Cond.initialized yX0_init.cls ∈ xTB := tb_t 4 (by decide +kernel) (by decide +kernel)
theorem yc_X1_init : Cond.code yX1_init cX1_init 2 none ∈ xTB := tb_t 195 (by decide +kernel) (by decide +kernel)
theorem yn_X1_init : Cond.instanceMethod yX1_init ∈ xTB := tb_t 194 (by decide +kernel) (by decide +kernel)
theorem yi_X1_init : Cond.initialized yX1_init.cls ∈ xTB := tb_t 7 (by decide +kernel) (by decide +kernel)
theorem yc_X2_init : Cond.code yX2_init cX2_init 3 none ∈ xTB := tb_t 144 (by decide +kernel) (by decide +kernel)
theorem yn_X2_init : Cond.instanceMethod yX2_init ∈ xTB := tb_t 143 (by decide +kernel) (by decide +kernel)
theorem yi_X2_init : Cond.initialized yX2_init.cls ∈ xTB := tb_t 5 (by decide +kernel) (by decide +kernel)
theorem yc_X3_init : Cond.code yX3_init cX3_init 1 none ∈ xTB := tb_t 26 (by decide +kernel) (by decide +kernel)
theorem yn_X3_init : Cond.instanceMethod yX3_init ∈ xTB := tb_t 25 (by decide +kernel) (by decide +kernel)
theorem yi_X3_init : Cond.initialized yX3_init.cls ∈ xTB := tb_t 2 (by decide +kernel) (by decide +kernel)
theorem yc_X4_init : Cond.code yX4_init cX4_init 3 none ∈ xTB := tb_t 164 (by decide +kernel) (by decide +kernel)
theorem yn_X4_init : Cond.instanceMethod yX4_init ∈ xTB := tb_t 163 (by decide +kernel) (by decide +kernel)
theorem yi_X4_init : Cond.initialized yX4_init.cls ∈ xTB := tb_t 6 (by decide +kernel) (by decide +kernel)
theorem yc_X5_init : Cond.code yX5_init cX5_init 2 none ∈ xTB := tb_t 208 (by decide +kernel) (by decide +kernel)
theorem yn_X5_init : Cond.instanceMethod yX5_init ∈ xTB := tb_t 207 (by decide +kernel) (by decide +kernel)
theorem yi_X5_init : Cond.initialized yX5_init.cls ∈ xTB := tb_t 8 (by decide +kernel) (by decide +kernel)
theorem yc_X6_init : Cond.code yX6_init cX6_init 1 none ∈ xTB := tb_t 32 (by decide +kernel) (by decide +kernel)
theorem yn_X6_init : Cond.instanceMethod yX6_init ∈ xTB := tb_t 31 (by decide +kernel) (by decide +kernel)
theorem yi_X6_init : Cond.initialized yX6_init.cls ∈ xTB := tb_t 3 (by decide +kernel) (by decide +kernel)
theorem yc_X8_init : Cond.code yX8_init cX8_init 1 none ∈ xTB := tb_t 683 (by decide +kernel) (by decide +kernel)
theorem yn_X8_init : Cond.instanceMethod yX8_init ∈ xTB := tb_t 682 (by decide +kernel) (by decide +kernel)
theorem yi_X8_init : Cond.initialized yX8_init.cls ∈ xTB := tb_t 9 (by decide +kernel) (by decide +kernel)
theorem oi_c : Cond.code objectInit ⟨#[0xb1]⟩ 1 none ∈ xTB := tb_t 21 (by decide +kernel) (by decide +kernel)
theorem oi_n : Cond.instanceMethod objectInit ∈ xTB := tb_t 20 (by decide +kernel) (by decide +kernel)
theorem cl_L_7 : Cond.classLink RL 7 RX7 ∈ xTB := tb_t 14 (by decide +kernel) (by decide +kernel)
theorem is_X7 : Cond.instantiable RX7 11 ∈ xTB := tb_t 15 (by decide +kernel) (by decide +kernel)
theorem cl_X7_7 : Cond.classLink RX7 7 RX3 ∈ xTB := tb_t 22 (by decide +kernel) (by decide +kernel)
theorem is_X3 : Cond.instantiable RX3 7 ∈ xTB := tb_t 23 (by decide +kernel) (by decide +kernel)
theorem cl_X3_15 : Cond.classLink RX3 15 RX6 ∈ xTB := tb_t 28 (by decide +kernel) (by decide +kernel)
theorem is_X6 : Cond.instantiable RX6 7 ∈ xTB := tb_t 29 (by decide +kernel) (by decide +kernel)
theorem ar_char : Cond.arrayClass .char ∈ xTB := tb_t 79 (by decide +kernel) (by decide +kernel)
theorem ar_int : Cond.arrayClass .int ∈ xTB := tb_t 80 (by decide +kernel) (by decide +kernel)
theorem cl_X7_16 : Cond.classLink RX7 16 RX6 ∈ xTB := tb_t 106 (by decide +kernel) (by decide +kernel)
theorem cl_X7_23 : Cond.classLink RX7 23 RX0 ∈ xTB := tb_t 108 (by decide +kernel) (by decide +kernel)
theorem is_X0 : Cond.instantiable RX0 6 ∈ xTB := tb_t 109 (by decide +kernel) (by decide +kernel)
theorem cl_X7_35 : Cond.classLink RX7 35 RX2 ∈ xTB := tb_t 140 (by decide +kernel) (by decide +kernel)
theorem is_X2 : Cond.instantiable RX2 3 ∈ xTB := tb_t 141 (by decide +kernel) (by decide +kernel)
theorem cl_X2_9 : Cond.classLink RX2 9 RX0 ∈ xTB := tb_t 146 (by decide +kernel) (by decide +kernel)
theorem cl_X7_50 : Cond.classLink RX7 50 RX4 ∈ xTB := tb_t 160 (by decide +kernel) (by decide +kernel)
theorem is_X4 : Cond.instantiable RX4 6 ∈ xTB := tb_t 161 (by decide +kernel) (by decide +kernel)
theorem cl_X4_9 : Cond.classLink RX4 9 RX0 ∈ xTB := tb_t 166 (by decide +kernel) (by decide +kernel)
theorem ar_boolean : Cond.arrayClass .boolean ∈ xTB := tb_t 190 (by decide +kernel) (by decide +kernel)
theorem cl_X7_57 : Cond.classLink RX7 57 RX1 ∈ xTB := tb_t 191 (by decide +kernel) (by decide +kernel)
theorem is_X1 : Cond.instantiable RX1 2 ∈ xTB := tb_t 192 (by decide +kernel) (by decide +kernel)
theorem cl_X7_66 : Cond.classLink RX7 66 RX5 ∈ xTB := tb_t 204 (by decide +kernel) (by decide +kernel)
theorem is_X5 : Cond.instantiable RX5 8 ∈ xTB := tb_t 205 (by decide +kernel) (by decide +kernel)
theorem cl_L_10 : Cond.classLink RL 10 RX8 ∈ xTB := tb_t 679 (by decide +kernel) (by decide +kernel)
theorem is_X8 : Cond.instantiable RX8 31 ∈ xTB := tb_t 680 (by decide +kernel) (by decide +kernel)
