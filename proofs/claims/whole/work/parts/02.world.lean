/-! the world: every object of the class and of the reference has a number; row 0 of an object is its own cell (slot k: its field k, where that is an int), row j + 1 the array that its field j holds; a floor is i + 9 (0 floor, 1 trial, 2 3 images, 4 .. 13 past, 14 .. 20 search) -/
abbrev xMem : Type := Nat → Nat → Nat → Int32
abbrev xLL : Type := Nat → Int64
abbrev xG : Type := (Nat → ClassId) × (Nat → Nat → Nat) × (Nat → Nat → Nat) × (Nat → ClassId)
abbrev xD (G : xG) : va_G := (G.1, G.2.1)
def xq (G : xG) (o r : Nat) : Nat := G.2.2.1 o r
def xk (G : xG) (k : Nat) : ClassId := G.2.2.2 k
abbrev xT (G : xG) : List (ClassId × FieldType) := [(xk G 0, .int), (xk G 1, .char), (xk G 2, .boolean), (xk G 3, .object "EggScales$Floor")]
def xo (G : xG) (o : Nat) (w : Nat → Int32) (v : Int64) : va_E := match o with
  | 0 => .inr (7, [.ref (xq G 1 0), .ref (xq G 3 0), .ref (xq G (0 + 9) 0), .ref (xq G (1 + 9) 0), .ref (xq G 4 0), .ref (xq G 0 6), .ref (xq G 0 7), .ref (xq G 5 0), .ref (xq G 6 0), .ref (xq G 7 0), .long v])
  | 1 => .inr (3, [.ref (xq G 1 1), .int (w 1), .ref (xq G 2 0), .int (w 3), .int (w 4), .int (w 5), .int (w 6)])
  | 2 => .inr (6, [.int (w 0), .int (w 1), .ref (xq G 2 3), .ref (xq G 2 4), .ref (xq G 2 5), .ref (xq G 2 6), .ref (xq G 2 7)])
  | 3 => .inr (6, [.int (w 0), .int (w 1), .ref (xq G 3 3), .ref (xq G 3 4), .ref (xq G 3 5), .ref (xq G 3 6), .ref (xq G 3 7)])
  | 4 => .inr (2, [.ref (xq G 4 1), .int (w 1), .int (w 2)])
  | 5 => .inr (4, [.ref (xq G 3 0), .ref (xq G 5 2), .ref (xq G 5 3), .ref (xq G 5 4), .int (w 4), .int (w 5)])
  | 6 => .inr (1, [.ref (xq G (0 + 9) 0), .ref (xq G 6 2)])
  | 7 => .inr (5, [.ref (xq G 3 0), .ref (xq G 7 2), .ref (xq G 7 3), .int (w 3), .ref (xq G 7 5), .ref (xq G 7 6), .int (w 6), .ref (xq G 7 8)])
  | 8 => .inr (8, [.int (w 0), .ref (xq G 8 2), .ref (xq G 8 3), .ref (xq G 8 4), .int (w 4), .ref (xq G 8 6), .ref (xq G 8 7), .ref (xq G 8 8), .int (w 8), .ref (xq G 8 10), .ref (xq G 8 11), .int (w 11), .ref (xq G 8 13), .long v, .ref (xq G 8 15), .int (w 15), .int (w 16), .int (w 17), .int (w 18), .int (w 19), .int (w 20), .int (w 21), .int (w 22), .ref (xq G 8 24), .int (w 24), .ref (xq G 8 26), .ref (xq G 8 27), .ref (xq G 8 28), .ref (xq G 8 29), .ref (xq G 8 30), .ref (xq G 8 31)])
  | i + 9 => .inr (0, [.ref (xq G 3 0), .ref (xq G (i + 9) 2), .ref (xq G (i + 9) 3), .ref (xq G (i + 9) 4), .ref (xq G (i + 9) 5), .ref (xq G (i + 9) 6)])
def xn (o r : Nat) : Nat := match o with
  | 2 => (match r with | 3 => 5 | 4 => 5 | 5 => 5 | 6 => 6 | _ => 6)
  | 3 => (match r with | 3 => 5 | 4 => 5 | 5 => 5 | 6 => 6 | _ => 6)
  | 5 => 6
  | 6 => 64
  | 7 => (match r with | 2 => 6 | 3 => 6 | 5 => 91 | 6 => 91 | _ => 6)
  | 8 => (match r with | 2 => 5 | 3 => 5 | 4 => 5 | 6 => 6 | 7 => 27 | 8 => 270 | 10 => 54 | 13 => 12 | 15 => 120 | 24 => 15 | 26 => 12 | 27 => 27 | 28 => 6 | 29 => 6 | 30 => 64 | _ => 6)
  | _ => (match r with | 2 => 6 | 3 => 6 | 4 => 5 | 5 => 5 | _ => 5)
def xr (G : xG) (o r : Nat) (w : Nat → Int32) : va_E := match o with
  | 0 => (match r with | 6 => .inl (xk G 3, 2, .inr (.inr (.inr (.inr (fun k => some (xq G (k + 2 + 9) 0)))))) | _ => .inl (xk G 2, 2, .inl w))
  | 1 => .inl (xk G 1, 120, .inl w)
  | 4 => .inl (xk G 3, 10, .inr (.inr (.inr (.inr (fun k => some (xq G (k + 4 + 9) 0))))))
  | 5 => (match r with | 2 => .inl (xk G 3, 7, .inr (.inr (.inr (.inr (fun k => some (xq G (k + 14 + 9) 0)))))) | _ => .inl (xk G 0, xn 5 r, .inl w))
  | 8 => (match r with | 11 => .inl (xk G 2, 2, .inl w) | _ => .inl (xk G 0, xn 8 r, .inl w))
  | o => .inl (xk G 0, xn o r, .inl w)
def xc (G : xG) (o r : Nat) (w : Nat → Int32) (v : Int64) : va_E := match r with
  | 0 => xo G o w v
  | r + 1 => xr G o (r + 1) w
def ixs : List (Nat × Nat) := [(0, 0), (0, 6), (0, 7), (1, 0), (1, 1), (2, 0), (2, 3), (2, 4), (2, 5), (2, 6), (2, 7), (3, 0), (3, 3), (3, 4), (3, 5), (3, 6), (3, 7), (4, 0), (4, 1), (5, 0), (5, 2), (5, 3), (5, 4), (6, 0), (6, 2), (7, 0), (7, 2), (7, 3), (7, 5), (7, 6), (7, 8), (8, 0), (8, 2), (8, 3), (8, 4), (8, 6), (8, 7), (8, 8), (8, 10), (8, 11), (8, 13), (8, 15), (8, 24), (8, 26), (8, 27), (8, 28), (8, 29), (8, 30), (8, 31)] ++ (List.range 21).flatMap (fun i => [(i + 9, 0), (i + 9, 2), (i + 9, 3), (i + 9, 4), (i + 9, 5), (i + 9, 6)])
theorem ixs_nd : ixs.Nodup := by decide +kernel
theorem mx_0_0 : (0, 0) ∈ ixs := by decide +kernel
theorem mx_0_6 : (0, 6) ∈ ixs := by decide +kernel
theorem mx_0_7 : (0, 7) ∈ ixs := by decide +kernel
theorem mx_1_0 : (1, 0) ∈ ixs := by decide +kernel
theorem mx_1_1 : (1, 1) ∈ ixs := by decide +kernel
theorem mx_2_0 : (2, 0) ∈ ixs := by decide +kernel
theorem mx_2_3 : (2, 3) ∈ ixs := by decide +kernel
theorem mx_2_4 : (2, 4) ∈ ixs := by decide +kernel
theorem mx_2_5 : (2, 5) ∈ ixs := by decide +kernel
theorem mx_2_6 : (2, 6) ∈ ixs := by decide +kernel
theorem mx_2_7 : (2, 7) ∈ ixs := by decide +kernel
theorem mx_3_0 : (3, 0) ∈ ixs := by decide +kernel
theorem mx_3_3 : (3, 3) ∈ ixs := by decide +kernel
theorem mx_3_4 : (3, 4) ∈ ixs := by decide +kernel
theorem mx_3_5 : (3, 5) ∈ ixs := by decide +kernel
theorem mx_3_6 : (3, 6) ∈ ixs := by decide +kernel
theorem mx_3_7 : (3, 7) ∈ ixs := by decide +kernel
theorem mx_4_0 : (4, 0) ∈ ixs := by decide +kernel
theorem mx_4_1 : (4, 1) ∈ ixs := by decide +kernel
theorem mx_5_0 : (5, 0) ∈ ixs := by decide +kernel
theorem mx_5_2 : (5, 2) ∈ ixs := by decide +kernel
theorem mx_5_3 : (5, 3) ∈ ixs := by decide +kernel
theorem mx_5_4 : (5, 4) ∈ ixs := by decide +kernel
theorem mx_6_0 : (6, 0) ∈ ixs := by decide +kernel
theorem mx_6_2 : (6, 2) ∈ ixs := by decide +kernel
theorem mx_7_0 : (7, 0) ∈ ixs := by decide +kernel
theorem mx_7_2 : (7, 2) ∈ ixs := by decide +kernel
theorem mx_7_3 : (7, 3) ∈ ixs := by decide +kernel
theorem mx_7_5 : (7, 5) ∈ ixs := by decide +kernel
theorem mx_7_6 : (7, 6) ∈ ixs := by decide +kernel
theorem mx_7_8 : (7, 8) ∈ ixs := by decide +kernel
theorem mx_8_0 : (8, 0) ∈ ixs := by decide +kernel
theorem mx_8_2 : (8, 2) ∈ ixs := by decide +kernel
theorem mx_8_3 : (8, 3) ∈ ixs := by decide +kernel
theorem mx_8_4 : (8, 4) ∈ ixs := by decide +kernel
theorem mx_8_6 : (8, 6) ∈ ixs := by decide +kernel
theorem mx_8_7 : (8, 7) ∈ ixs := by decide +kernel
theorem mx_8_8 : (8, 8) ∈ ixs := by decide +kernel
theorem mx_8_10 : (8, 10) ∈ ixs := by decide +kernel
theorem mx_8_11 : (8, 11) ∈ ixs := by decide +kernel
theorem mx_8_13 : (8, 13) ∈ ixs := by decide +kernel
theorem mx_8_15 : (8, 15) ∈ ixs := by decide +kernel
theorem mx_8_24 : (8, 24) ∈ ixs := by decide +kernel
theorem mx_8_26 : (8, 26) ∈ ixs := by decide +kernel
theorem mx_8_27 : (8, 27) ∈ ixs := by decide +kernel
theorem mx_8_28 : (8, 28) ∈ ixs := by decide +kernel
theorem mx_8_29 : (8, 29) ∈ ixs := by decide +kernel
theorem mx_8_30 : (8, 30) ∈ ixs := by decide +kernel
theorem mx_8_31 : (8, 31) ∈ ixs := by decide +kernel
theorem mf_0 {i : Nat} (h : i < 21) : (i + 9, 0) ∈ ixs := List.mem_append_right _ (List.mem_flatMap.mpr ⟨i, List.mem_range.mpr h, by simp⟩)
theorem mf_2 {i : Nat} (h : i < 21) : (i + 9, 2) ∈ ixs := List.mem_append_right _ (List.mem_flatMap.mpr ⟨i, List.mem_range.mpr h, by simp⟩)
theorem mf_3 {i : Nat} (h : i < 21) : (i + 9, 3) ∈ ixs := List.mem_append_right _ (List.mem_flatMap.mpr ⟨i, List.mem_range.mpr h, by simp⟩)
theorem mf_4 {i : Nat} (h : i < 21) : (i + 9, 4) ∈ ixs := List.mem_append_right _ (List.mem_flatMap.mpr ⟨i, List.mem_range.mpr h, by simp⟩)
theorem mf_5 {i : Nat} (h : i < 21) : (i + 9, 5) ∈ ixs := List.mem_append_right _ (List.mem_flatMap.mpr ⟨i, List.mem_range.mpr h, by simp⟩)
theorem mf_6 {i : Nat} (h : i < 21) : (i + 9, 6) ∈ ixs := List.mem_append_right _ (List.mem_flatMap.mpr ⟨i, List.mem_range.mpr h, by simp⟩)
def xw (G : xG) (M : xMem) (L : xLL) : va_W := ixs.map (fun p => (xq G p.1 p.2, xc G p.1 p.2 (M p.1 p.2) (L p.1)))
theorem xw_get (G : xG) (M : xMem) (L : xLL) {o r : Nat} (h : (o, r) ∈ ixs) : ∃ k : Nat, ixs[k]? = some (o, r) ∧ (xw G M L)[k]? = some (xq G o r, xc G o r (M o r) (L o)) := by
  obtain ⟨k, hk⟩ := List.getElem?_of_mem h
  exact ⟨k, hk, by simp [xw, hk]⟩
def xs (M : xMem) (o r : Nat) (w : Nat → Int32) : xMem := va_up M o (va_up (M o) r w)
theorem xs_same (M : xMem) (o r : Nat) (w : Nat → Int32) : xs M o r w o r = w := by simp [xs, va_up]
theorem xs_ne (M : xMem) (o r : Nat) (w : Nat → Int32) {o' r' : Nat} (h : (o', r') ≠ (o, r)) : xs M o r w o' r' = M o' r' := by
  unfold xs va_up
  by_cases h1 : o' = o
  · subst h1
    by_cases h2 : r' = r
    · subst h2; exact absurd rfl h
    · simp [h2]
  · simp [h1]
theorem ixs_uniq {j k : Nat} {p : Nat × Nat} (hj : ixs[j]? = some p) (hk : ixs[k]? = some p) : j = k := by
  obtain ⟨h1, e1⟩ := List.getElem?_eq_some_iff.mp hj
  obtain ⟨h2, e2⟩ := List.getElem?_eq_some_iff.mp hk
  exact (List.getElem?_inj h1 ixs_nd).mp (hj.trans hk.symm)
theorem xw_set (G : xG) (M : xMem) (L : xLL) {o r k : Nat} (hk : ixs[k]? = some (o, r)) (w : Nat → Int32) : (xw G M L).set k (xq G o r, xc G o r w (L o)) = xw G (xs M o r w) L := by
  apply List.ext_getElem?
  intro j
  have hl : k < ixs.length := (List.getElem?_eq_some_iff.mp hk).1
  by_cases hj : j = k
  · subst hj
    rw [List.getElem?_set_self (by simpa [xw] using hl)]
    simp [xw, hk, xs_same]
  · rw [List.getElem?_set_ne (fun e => hj e.symm)]
    simp only [xw, List.getElem?_map]
    cases hq : ixs[j]? with
    | none => rfl
    | some q =>
      obtain ⟨a, b⟩ := q
      have hne : (a, b) ≠ (o, r) := fun e => hj (ixs_uniq hq (by rw [e]; exact hk))
      simp [xs_ne M o r w hne]
theorem xc_long (G : xG) {o r : Nat} (h : r ≠ 0) (w : Nat → Int32) (v v' : Int64) : xc G o r w v = xc G o r w v' := by
  cases r with
  | zero => exact absurd rfl h
  | succ r => rfl
theorem xw_setL (G : xG) (M : xMem) (L : xLL) {o k : Nat} (hk : ixs[k]? = some (o, 0)) (v : Int64) : (xw G M L).set k (xq G o 0, xc G o 0 (M o 0) v) = xw G M (va_up L o v) := by
  apply List.ext_getElem?
  intro j
  have hl : k < ixs.length := (List.getElem?_eq_some_iff.mp hk).1
  by_cases hj : j = k
  · subst hj
    rw [List.getElem?_set_self (by simpa [xw] using hl)]
    simp [xw, hk, va_up]
  · rw [List.getElem?_set_ne (fun e => hj e.symm)]
    simp only [xw, List.getElem?_map]
    cases hq : ixs[j]? with
    | none => rfl
    | some q =>
      obtain ⟨a, b⟩ := q
      by_cases ha : a = o
      · subst ha
        have hb : b ≠ 0 := fun e => hj (ixs_uniq hq (by rw [e]; exact hk))
        simp only [Option.map_some]
        rw [xc_long G hb (M a b) (L a) (va_up L a v a)]
      · simp [va_up, ha]
def xX (G : xG) : Prop := ∀ p ∈ ixs, ∀ p' ∈ ixs, xq G p.1 p.2 = xq G p'.1 p'.2 → p = p'
def xZ (G : xG) (sz : Nat) : Nat → Prop := fun a => (∃ p ∈ ixs, a = xq G p.1 p.2) ∨ sz ≤ a
theorem xw_D {G : xG} {M : xMem} {L : xLL} {sz : Nat} (h : xX G) : va_D (xZ G sz) (xw G M L) := by
  have key : ∀ (i : Nat) (p : Nat × va_E), (xw G M L)[i]? = some p → ∃ q, ixs[i]? = some q ∧ p.1 = xq G q.1 q.2 := by
    intro i p hp
    simp only [xw, List.getElem?_map] at hp
    cases hq : ixs[i]? with
    | none => rw [hq] at hp; cases hp
    | some q => rw [hq] at hp; cases hp; exact ⟨q, rfl, rfl⟩
  refine ⟨fun i j p q hi hj e => ?_, fun k q hk => ?_⟩
  · obtain ⟨a, ha, ea⟩ := key i p hi
    obtain ⟨b, hb, eb⟩ := key j q hj
    have hab := h a (List.mem_of_getElem? ha) b (List.mem_of_getElem? hb) (by rw [← ea, ← eb]; exact e)
    subst hab
    exact ixs_uniq ha hb
  · obtain ⟨a, ha, ea⟩ := key k q hk
    exact Or.inl ⟨a, List.mem_of_getElem? ha, ea⟩
abbrev nw_beyond : Cond := .methodLinkNest RX3 78 yX7_beyond RX7
def xK (G : xG) (U : State) : Prop := va_K (xD G) vwCl (xT G) U ∧ xX G ∧ va_Nw nw_beyond U
def xW (G : xG) (M : xMem) (L : xLL) (U : State) : Prop := va_P (xD G) vwCl (xw G M L) U.heap ∧ xK G U
def xI (G : xG) (M : xMem) (L : xLL) (H0 H : Heap) (locs : List Loc) : Prop := va_P (xD G) vwCl (xw G M L) H ∧ va_S (xZ G H0.size) H0 H locs
def xTB : List Cond := lw_tbl.filter goodWord
theorem tb_in {w : Cond} (h : w ∈ lw_tbl) (hg : goodWord w = true) : w ∈ xTB := List.mem_filter.mpr ⟨h, hg⟩
theorem tb_t {w : Cond} (i : Nat) (h : tables_1[i]? = some w) (hg : goodWord w = true) : w ∈ xTB := tb_in (List.mem_append_right _ (List.mem_of_getElem? h)) hg
theorem tb_p {w : Cond} (i : Nat) (h : (k2_sels lw_privs)[i]? = some w) (hg : goodWord w = true) : w ∈ xTB := tb_in (List.mem_append_left _ (List.mem_of_getElem? h)) hg
theorem tb_good {c c' : Cond} (h : c' ∈ xTB) : GoodIn (c :: xTB) (c' :: xTB) := fun w hw => by
  have hm : w ∈ xTB := by
    rcases List.mem_cons.mp hw with e | e
    · rw [e]; exact h
    · exact e
  exact ⟨List.mem_cons_of_mem _ hm, good_of_word (List.mem_filter.mp hm).2⟩
theorem tb_good' {c' : Cond} (h : c' ∈ xTB) : GoodIn xTB (c' :: xTB) := fun w hw => by
  have hm : w ∈ xTB := by
    rcases List.mem_cons.mp hw with e | e
    · rw [e]; exact h
    · exact e
  exact ⟨hm, good_of_word (List.mem_filter.mp hm).2⟩
/-- a method's setting: the machine, its code, the tables' words, the world's tables -/
def xE (p : Program) (s : State) (m : MethodId) (args : Array Value) (meth : Method) (c : Code) (cc : ByteArray) (nL : Nat) (rt : Option FieldType) (own : String) (G : xG) : Prop :=
  p.tables.exec = Jvm.exec ∧ c.code = cc ∧ meth.sig.returnType = rt ∧ c.maxLocals = nL ∧ s.vm.findClass own = some m.cls ∧ (∀ w ∈ xTB, w.before args s = true) ∧ meth.locks = false ∧ xK G s
def xR (h : Nat) : Room := { frames := h, cells := 0, slots := 0, locals := 60 * h }
abbrev xP (G : xG) (M : xMem) (L : xLL) (sz : Nat) (av : List Value) : Array Value → State → Prop := va_Pc av (fun U => U.heap.size = sz ∧ xW G M L U)
def xQi (G : xG) (r' : Int32) (M' : xMem) (L' : xLL) (sz : Nat) : Array Value → State → Outcome → State → Prop := va_Qi (fun r (_ : Unit) => r = r') (fun _ t => xW G M' L' t) (xZ G sz)
def xQl (G : xG) (r' : Int64) (M' : xMem) (L' : xLL) (sz : Nat) : Array Value → State → Outcome → State → Prop := va_Ql (fun r (_ : Unit) => r = r') (fun _ t => xW G M' L' t) (xZ G sz)
def xQv (G : xG) (M' : xMem) (L' : xLL) (sz : Nat) : Array Value → State → Outcome → State → Prop := va_Qv (fun (_ : Unit) => True) (fun _ t => xW G M' L' t) (xZ G sz)
-- lifted words
def xchk {α : Type} (b : Bool) (k : Option α) : Option α := if b = true then k else none
theorem xchk_s {α : Type} {b : Bool} {k : Option α} {r : α} (h : xchk b k = some r) : b = true ∧ k = some r := by
  unfold xchk at h
  by_cases hb : b = true
  · rw [if_pos hb] at h; exact ⟨hb, h⟩
  · rw [if_neg hb] at h; cases h
def xb1 {α β : Type} (g : Option α) (k : α → Option β) : Option β := match g with
  | some a => k a
  | none => none
theorem xb1_s {α β : Type} {g : Option α} {k : α → Option β} {r : β} (h : xb1 g k = some r) : ∃ a, g = some a ∧ k a = some r := by
  cases g with
  | none => cases h
  | some a => exact ⟨a, rfl, h⟩
def xb2 {α β γ : Type} (g : Option (α × β)) (k : α → β → Option γ) : Option γ := match g with
  | some (a, b) => k a b
  | none => none
theorem xb2_s {α β γ : Type} {g : Option (α × β)} {k : α → β → Option γ} {r : γ} (h : xb2 g k = some r) : ∃ a b, g = some (a, b) ∧ k a b = some r := by
  cases g with
  | none => cases h
  | some q => obtain ⟨a, b⟩ := q; exact ⟨a, b, rfl, h⟩
def xlet {α β : Type} (a : α) (k : α → β) : β := k a
theorem xlet_s {α β : Type} {a : α} {k : α → β} {r : β} (h : xlet a k = r) : ∃ b, a = b ∧ k b = r := ⟨a, rfl, h⟩
theorem xif_t {α : Type} {c : Prop} [Decidable c] {A B r : α} (h : c) (hf : (if c then A else B) = r) : A = r := by rw [if_pos h] at hf; exact hf
theorem xif_f {α : Type} {c : Prop} [Decidable c] {A B r : α} (h : ¬ c) (hf : (if c then A else B) = r) : B = r := by rw [if_neg h] at hf; exact hf
def xb (i : Int32) (n : Nat) : Bool := !(decide (i < 0) || decide (n ≤ i.toNatClampNeg))
theorem xb_in {i : Int32} {n : Nat} (h : xb i n = true) : vp_in i n := by
  unfold xb at h
  unfold vp_in
  simpa using h
theorem xb_fl {i : Int32} {n b : Nat} (h : xb i n = true) (hb : n + b ≤ 21) : i.toNatClampNeg + b < 21 := by
  have := xb_in h
  unfold vp_in at this
  omega
def xnz (y : Int32) : Bool := decide (¬ y = 0)
theorem xnz_s {y : Int32} (h : xnz y = true) : ¬ y = 0 := by simpa [xnz] using h
def xbo (v : Int32) : Bool := decide (narrow .boolean (.int v) = .int v)
theorem xbo_s {v : Int32} (h : xbo v = true) : narrow .boolean (.int v) = .int v := by simpa [xbo] using h
def xbf (v : Int32) : Bool := decide (fits .boolean (.int v) = true)
theorem xbf_s {v : Int32} (h : xbf v = true) : fits .boolean (.int v) = true := by simpa [xbf] using h
def xcb (sp dp n : Int32) (n0 n1 : Nat) : Bool := decide (¬ sp < 0) && decide (¬ dp < 0) && decide (¬ n < 0) && decide (sp.toNatClampNeg + n.toNatClampNeg ≤ n0) && decide (dp.toNatClampNeg + n.toNatClampNeg ≤ n1)
theorem xcb_s {sp dp n : Int32} {n0 n1 : Nat} (h : xcb sp dp n n0 n1 = true) : ¬ sp < 0 ∧ ¬ dp < 0 ∧ ¬ n < 0 ∧ sp.toNatClampNeg + n.toNatClampNeg ≤ n0 ∧ dp.toNatClampNeg + n.toNatClampNeg ≤ n1 := by
  simpa [xcb, and_assoc] using h
/-- an element, a field is written; a row is copied -/
def xst (M : xMem) (o r : Nat) (i v : Int32) : xMem := xs M o r (upd (M o r) i.toNatClampNeg v)
def xsf (M : xMem) (o k : Nat) (v : Int32) : xMem := xs M o 0 (upd (M o 0) k v)
def xcp (M : xMem) (o0 r0 : Nat) (sp : Int32) (o1 r1 : Nat) (dp n : Int32) : xMem := xs M o1 r1 (va_cpy (M o0 r0) (M o1 r1) sp.toNatClampNeg dp.toNatClampNeg n.toNatClampNeg)
def FU : Nat := 100000
section XR
variable {p : Program} {l : Launch} {e : Env} {R : Room} {s : State} {m : MethodId} {args : Array Value} {below : List Frame} {meth : Method} {c : Code} {H : Heap} {locs : List Loc} {Q : State → Prop}
variable {cc : ByteArray} {nL : Nat} {rt : Option FieldType} {own : String} {G : xG} {M : xMem} {L : xLL} {pc : Nat} {ls : Array Slot} {rest : List Value}
theorem x_iald (E : xE p s m args meth c cc nL rt own G) (hI : xI G M L s.heap H locs) {o r n : Nat} (hm : (o, r) ∈ ixs) (hc : ∀ w v, xc G o r w v = .inl (xk G 0, n, .inl w)) {i : Int32} (hin : xb i n = true) (hdg : decode cc pc = .ok (.iaload, 1))
    (kk : W p l e R s m args below meth c H locs 0 0 Q (F0 m (pc + 1) ls (.int (M o r i.toNatClampNeg) :: rest))) : W p l e R s m args below meth c H locs 0 0 Q (F0 m pc ls (.int i :: .ref (xq G o r) :: rest)) := by
  obtain ⟨k, h1, h2⟩ := xw_get G M L hm
  rw [hc] at h2
  exact va_iald E.1 E.2.1 E.2.2.2.2.2.2.2.1 hI.1 k 0 h2 rfl (xb_in hin) hdg kk
theorem x_cald (E : xE p s m args meth c cc nL rt own G) (hI : xI G M L s.heap H locs) {o r n : Nat} (hm : (o, r) ∈ ixs) (hc : ∀ w v, xc G o r w v = .inl (xk G 1, n, .inl w)) {i : Int32} (hin : xb i n = true) (hdg : decode cc pc = .ok (.caload, 1))
    (kk : W p l e R s m args below meth c H locs 0 0 Q (F0 m (pc + 1) ls (.int (M o r i.toNatClampNeg) :: rest))) : W p l e R s m args below meth c H locs 0 0 Q (F0 m pc ls (.int i :: .ref (xq G o r) :: rest)) := by
  obtain ⟨k, h1, h2⟩ := xw_get G M L hm
  rw [hc] at h2
  exact va_cald E.1 E.2.1 E.2.2.2.2.2.2.2.1 hI.1 k 1 h2 rfl (xb_in hin) hdg kk
theorem x_zald (E : xE p s m args meth c cc nL rt own G) (hI : xI G M L s.heap H locs) {o r n : Nat} (hm : (o, r) ∈ ixs) (hc : ∀ w v, xc G o r w v = .inl (xk G 2, n, .inl w)) {i : Int32} (hin : xb i n = true) (hdg : decode cc pc = .ok (.baload, 1))
    (kk : W p l e R s m args below meth c H locs 0 0 Q (F0 m (pc + 1) ls (.int (M o r i.toNatClampNeg) :: rest))) : W p l e R s m args below meth c H locs 0 0 Q (F0 m pc ls (.int i :: .ref (xq G o r) :: rest)) := by
  obtain ⟨k, h1, h2⟩ := xw_get G M L hm
  rw [hc] at h2
  exact va_zald E.1 E.2.1 E.2.2.2.2.2.2.2.1 hI.1 k 2 h2 rfl (xb_in hin) hdg kk
theorem x_aald (E : xE p s m args meth c cc nL rt own G) (hI : xI G M L s.heap H locs) {o r n b : Nat} (hm : (o, r) ∈ ixs) (hc : ∀ w v, xc G o r w v = .inl (xk G 3, n, .inr (.inr (.inr (.inr (fun k => some (xq G (k + b + 9) 0))))))) {i : Int32} (hin : xb i n = true) (hdg : decode cc pc = .ok (.aaload, 1))
    (kk : W p l e R s m args below meth c H locs 0 0 Q (F0 m (pc + 1) ls (.ref (xq G (i.toNatClampNeg + b + 9) 0) :: rest))) : W p l e R s m args below meth c H locs 0 0 Q (F0 m pc ls (.int i :: .ref (xq G o r) :: rest)) := by
  obtain ⟨k, h1, h2⟩ := xw_get G M L hm
  rw [hc] at h2
  exact va_aldq (C := "EggScales$Floor") E.1 E.2.1 E.2.2.2.2.2.2.2.1 hI.1 k 3 h2 rfl (xb_in hin) hdg kk
theorem x_iast (E : xE p s m args meth c cc nL rt own G) (hI : xI G M L s.heap H locs) {o r n : Nat} (hm : (o, r) ∈ ixs) (hc : ∀ w v, xc G o r w v = .inl (xk G 0, n, .inl w)) {i x : Int32} (hin : xb i n = true) (hdg : decode cc pc = .ok (.iastore, 1)) {M1 : xMem} (hM : xst M o r i x = M1)
    (kk : ∀ (H : Heap) (locs : List Loc), xI G M1 L s.heap H locs → W p l e R s m args below meth c H locs 0 0 Q (F0 m (pc + 1) ls rest)) : W p l e R s m args below meth c H locs 0 0 Q (F0 m pc ls (.int x :: .int i :: .ref (xq G o r) :: rest)) := by
  obtain ⟨k, h1, h2⟩ := xw_get G M L hm
  have h3 := h2
  rw [hc] at h3
  refine va_iast E.1 E.2.1 E.2.2.2.2.2.2.2.1 hI.1 (xw_D E.2.2.2.2.2.2.2.2.1) hI.2 k 0 h3 rfl (xb_in hin) hdg (fun H1 locs1 hP hD hS => ?_)
  have e1 := xw_set G M L h1 (upd (M o r) i.toNatClampNeg x)
  rw [hc] at e1
  rw [e1] at hP
  subst hM
  exact kk H1 locs1 ⟨hP, hS⟩
theorem x_cast (E : xE p s m args meth c cc nL rt own G) (hI : xI G M L s.heap H locs) {o r n : Nat} (hm : (o, r) ∈ ixs) (hc : ∀ w v, xc G o r w v = .inl (xk G 1, n, .inl w)) {i x : Int32} (hin : xb i n = true) (hdg : decode cc pc = .ok (.castore, 1)) {M1 : xMem} (hM : xst M o r i (vp_nar .char x) = M1)
    (kk : ∀ (H : Heap) (locs : List Loc), xI G M1 L s.heap H locs → W p l e R s m args below meth c H locs 0 0 Q (F0 m (pc + 1) ls rest)) : W p l e R s m args below meth c H locs 0 0 Q (F0 m pc ls (.int x :: .int i :: .ref (xq G o r) :: rest)) := by
  obtain ⟨k, h1, h2⟩ := xw_get G M L hm
  have h3 := h2
  rw [hc] at h3
  refine va_cast E.1 E.2.1 E.2.2.2.2.2.2.2.1 hI.1 (xw_D E.2.2.2.2.2.2.2.2.1) hI.2 k 1 h3 rfl (xb_in hin) hdg (fun H1 locs1 hP hD hS => ?_)
  have e1 := xw_set G M L h1 (upd (M o r) i.toNatClampNeg (vp_nar .char x))
  rw [hc] at e1
  rw [e1] at hP
  subst hM
  exact kk H1 locs1 ⟨hP, hS⟩
theorem x_zast (E : xE p s m args meth c cc nL rt own G) (hI : xI G M L s.heap H locs) {o r n : Nat} (hm : (o, r) ∈ ixs) (hc : ∀ w v, xc G o r w v = .inl (xk G 2, n, .inl w)) {i x : Int32} (hin : xb i n = true) (hdg : decode cc pc = .ok (.bastore, 1)) {M1 : xMem} (hM : xst M o r i (vp_nar .boolean x) = M1)
    (kk : ∀ (H : Heap) (locs : List Loc), xI G M1 L s.heap H locs → W p l e R s m args below meth c H locs 0 0 Q (F0 m (pc + 1) ls rest)) : W p l e R s m args below meth c H locs 0 0 Q (F0 m pc ls (.int x :: .int i :: .ref (xq G o r) :: rest)) := by
  obtain ⟨k, h1, h2⟩ := xw_get G M L hm
  have h3 := h2
  rw [hc] at h3
  refine va_zast E.1 E.2.1 E.2.2.2.2.2.2.2.1 hI.1 (xw_D E.2.2.2.2.2.2.2.2.1) hI.2 k 2 h3 rfl (xb_in hin) hdg (fun H1 locs1 hP hD hS => ?_)
  have e1 := xw_set G M L h1 (upd (M o r) i.toNatClampNeg (vp_nar .boolean x))
  rw [hc] at e1
  rw [e1] at hP
  subst hM
  exact kk H1 locs1 ⟨hP, hS⟩
theorem x_alen (E : xE p s m args meth c cc nL rt own G) (hI : xI G M L s.heap H locs) {o r n : Nat} (hm : (o, r) ∈ ixs) (hc : ∀ w v, xc G o r w v = .inl (xk G 0, n, .inl w)) (hdg : decode cc pc = .ok (.arraylength, 1))
    (kk : W p l e R s m args below meth c H locs 0 0 Q (F0 m (pc + 1) ls (.int (Int32.ofNat n) :: rest))) : W p l e R s m args below meth c H locs 0 0 Q (F0 m pc ls (.ref (xq G o r) :: rest)) := by
  obtain ⟨k, h1, h2⟩ := xw_get G M L hm
  rw [hc] at h2
  exact va_alen E.1 E.2.1 E.2.2.2.2.2.2.2.1 hI.1 k 0 h2 rfl rfl hdg kk
theorem x_get (E : xE p s m args meth c cc nL rt own G) (hI : xI G M L s.heap H locs) {ref C : String} {T : u_T} {N ci index o : Nat} (hm : (o, 0) ∈ ixs) {fs : List Value} (he : xo G o (M o 0) (L o) = .inr (ci, fs)) (hc : vwCl[ci]? = some (C, T, N)) (hin : ∀ w ∈ u_ws C T N, w ∈ xTB) (k : Nat) (hk : k < N) (hlink : Cond.fieldLink own index ref (T k).2.1 (T k).2.2.1 ∈ xTB) (hsame : ∀ x, s.fieldFound? (T k).1 (T k).2.1 (T k).2.2.1 = some x → s.fieldFound? ref (T k).2.1 (T k).2.2.1 = some x) {v : Value} (hv : fs[k]? = some v) (hdg : decode cc pc = .ok (.getfield index, 3))
    (kk : W p l e R s m args below meth c H locs 0 0 Q (F0 m (pc + 3) ls (v :: rest))) : W p l e R s m args below meth c H locs 0 0 Q (F0 m pc ls (.ref (xq G o 0) :: rest)) := by
  obtain ⟨q, h1, h2⟩ := xw_get G M L hm
  have h3 : (xw G M L)[q]? = some (xq G o 0, .inr (ci, fs)) := by rw [h2, ← he]; rfl
  exact va_get E.1 E.2.1 E.2.2.2.2.2.1 hin E.2.2.2.2.1 E.2.2.2.2.2.2.2.1 hI.1 q h3 hc k hk (E.2.2.2.2.2.1 _ hlink) hsame hv hdg kk
theorem x_put (E : xE p s m args meth c cc nL rt own G) (hI : xI G M L s.heap H locs) {ref C : String} {T : u_T} {N ci index o : Nat} (hm : (o, 0) ∈ ixs) {fs : List Value} (he : xo G o (M o 0) (L o) = .inr (ci, fs)) (hc : vwCl[ci]? = some (C, T, N)) (hin : ∀ w ∈ u_ws C T N, w ∈ xTB) (ty0 : Nat → FieldType) (hty : ∀ k, k < N → parseFieldDescriptor (T k).2.2.1 = some (ty0 k)) (hnm : ∀ a, a < N → ∀ b, b < N → a ≠ b → (T a).2.1 ≠ (T b).2.1) (k : Nat) (hk : k < N) (hlink : Cond.fieldLink own index ref (T k).2.1 (T k).2.2.1 ∈ xTB) (hsame : ∀ x, s.fieldFound? (T k).1 (T k).2.1 (T k).2.2.1 = some x → s.fieldFound? ref (T k).2.1 (T k).2.2.1 = some x) (hfin : (T k).2.2.2 = false) {ty : FieldType} {v : Int32} (hd : parseFieldDescriptor (T k).2.2.1 = some ty) (hn : narrow ty (.int v) = .int v) (hfit : fits ty (.int v) = true) (hl : k < fs.length) (hnew : xo G o (upd (M o 0) k v) (L o) = .inr (ci, fs.set k (.int v))) (hdg : decode cc pc = .ok (.putfield index, 3)) {M1 : xMem} (hM : xsf M o k v = M1)
    (kk : ∀ (H : Heap) (locs : List Loc), xI G M1 L s.heap H locs → W p l e R s m args below meth c H locs 0 0 Q (F0 m (pc + 3) ls rest)) : W p l e R s m args below meth c H locs 0 0 Q (F0 m pc ls (.int v :: .ref (xq G o 0) :: rest)) := by
  obtain ⟨q, h1, h2⟩ := xw_get G M L hm
  have h3 : (xw G M L)[q]? = some (xq G o 0, .inr (ci, fs)) := by rw [h2, ← he]; rfl
  refine va_put E.1 E.2.1 E.2.2.2.2.2.1 hin ty0 hty hnm E.2.2.2.2.1 E.2.2.2.2.2.2.2.1 hI.1 (xw_D E.2.2.2.2.2.2.2.2.1) hI.2 q h3 hc k hk (E.2.2.2.2.2.1 _ hlink) hsame hfin hd hn hfit hl hdg (fun H1 locs1 hP hD hS => ?_)
  have e1 := xw_set G M L h1 (upd (M o 0) k v)
  have e2 : xc G o 0 (upd (M o 0) k v) (L o) = .inr (ci, fs.set k (.int v)) := hnew
  rw [e2] at e1
  rw [e1] at hP
  subst hM
  exact kk H1 locs1 ⟨hP, hS⟩
theorem x_putl (E : xE p s m args meth c cc nL rt own G) (hI : xI G M L s.heap H locs) {ref C : String} {T : u_T} {N ci index o : Nat} (hm : (o, 0) ∈ ixs) {fs : List Value} (he : xo G o (M o 0) (L o) = .inr (ci, fs)) (hc : vwCl[ci]? = some (C, T, N)) (hin : ∀ w ∈ u_ws C T N, w ∈ xTB) (ty0 : Nat → FieldType) (hty : ∀ k, k < N → parseFieldDescriptor (T k).2.2.1 = some (ty0 k)) (hnm : ∀ a, a < N → ∀ b, b < N → a ≠ b → (T a).2.1 ≠ (T b).2.1) (k : Nat) (hk : k < N) (hlink : Cond.fieldLink own index ref (T k).2.1 (T k).2.2.1 ∈ xTB) (hsame : ∀ x, s.fieldFound? (T k).1 (T k).2.1 (T k).2.2.1 = some x → s.fieldFound? ref (T k).2.1 (T k).2.2.1 = some x) (hfin : (T k).2.2.2 = false) {ty : FieldType} {v : Int64} (hd : parseFieldDescriptor (T k).2.2.1 = some ty) (hn : narrow ty (.long v) = .long v) (hfit : fits ty (.long v) = true) (hl : k < fs.length) (hnew : xo G o (M o 0) v = .inr (ci, fs.set k (.long v))) (hdg : decode cc pc = .ok (.putfield index, 3)) {L1 : xLL} (hM : va_up L o v = L1)
    (kk : ∀ (H : Heap) (locs : List Loc), xI G M L1 s.heap H locs → W p l e R s m args below meth c H locs 0 0 Q (F0 m (pc + 3) ls rest)) : W p l e R s m args below meth c H locs 0 0 Q (F0 m pc ls (.long v :: .ref (xq G o 0) :: rest)) := by
  obtain ⟨q, h1, h2⟩ := xw_get G M L hm
  have h3 : (xw G M L)[q]? = some (xq G o 0, .inr (ci, fs)) := by rw [h2, ← he]; rfl
  refine va_put E.1 E.2.1 E.2.2.2.2.2.1 hin ty0 hty hnm E.2.2.2.2.1 E.2.2.2.2.2.2.2.1 hI.1 (xw_D E.2.2.2.2.2.2.2.2.1) hI.2 q h3 hc k hk (E.2.2.2.2.2.1 _ hlink) hsame hfin hd hn hfit hl hdg (fun H1 locs1 hP hD hS => ?_)
  have e1 := xw_setL G M L h1 v
  have e2 : xc G o 0 (M o 0) v = .inr (ci, fs.set k (.long v)) := hnew
  rw [e2] at e1
  rw [e1] at hP
  subst hM
  exact kk H1 locs1 ⟨hP, hS⟩
theorem x_iret {r' : Int32} (E : xE p s m args meth c cc nL (some .int) own G) (hI : xI G M L s.heap H locs) {v : Int32} (hv : v = r') (hdg : decode cc pc = .ok (.ireturn, 1)) : W p l e R s m args below meth c H locs 0 0 (MQ below (xQi G r' M L s.heap.size) args s 0 0 (xZ G s.heap.size)) (F0 m pc ls [.int v]) := by
  subst hv
  exact W.iret E.1 E.2.1 E.2.2.1 (fun t ht hW => ⟨⟨v, (), rfl, rfl, by rw [ht]; exact hI.1, va_K.moved hW.alike E.2.2.2.2.2.2.2.1, E.2.2.2.2.2.2.2.2.1, va_Nw.warmM hW E.2.2.2.2.2.2.2.2.2⟩, hI.2.F ht⟩) hI.2.2.2 hdg E.2.2.2.2.2.2.1
theorem x_zret {r' : Int32} (E : xE p s m args meth c cc nL (some .boolean) own G) (hI : xI G M L s.heap H locs) {v : Int32} (hn : narrow .boolean (.int v) = .int v) (hv : v = r') (hdg : decode cc pc = .ok (.ireturn, 1)) : W p l e R s m args below meth c H locs 0 0 (MQ below (xQi G r' M L s.heap.size) args s 0 0 (xZ G s.heap.size)) (F0 m pc ls [.int v]) := by
  subst hv
  exact W.zret E.1 E.2.1 E.2.2.1 hn (fun t ht hW => ⟨⟨v, (), rfl, rfl, by rw [ht]; exact hI.1, va_K.moved hW.alike E.2.2.2.2.2.2.2.1, E.2.2.2.2.2.2.2.2.1, va_Nw.warmM hW E.2.2.2.2.2.2.2.2.2⟩, hI.2.F ht⟩) hI.2.2.2 hdg E.2.2.2.2.2.2.1
theorem x_lret {r' : Int64} (E : xE p s m args meth c cc nL (some .long) own G) (hI : xI G M L s.heap H locs) {v : Int64} (hv : v = r') (hdg : decode cc pc = .ok (.lreturn, 1)) : W p l e R s m args below meth c H locs 0 0 (MQ below (xQl G r' M L s.heap.size) args s 0 0 (xZ G s.heap.size)) (F0 m pc ls [.long v]) := by
  subst hv
  exact W.lret E.1 E.2.1 E.2.2.1 (fun t ht hW => ⟨⟨v, (), rfl, rfl, by rw [ht]; exact hI.1, va_K.moved hW.alike E.2.2.2.2.2.2.2.1, E.2.2.2.2.2.2.2.2.1, va_Nw.warmM hW E.2.2.2.2.2.2.2.2.2⟩, hI.2.F ht⟩) hI.2.2.2 hdg E.2.2.2.2.2.2.1
theorem x_vret (E : xE p s m args meth c cc nL none own G) (hI : xI G M L s.heap H locs) (hdg : decode cc pc = .ok (.return_, 1)) : W p l e R s m args below meth c H locs 0 0 (MQ below (xQv G M L s.heap.size) args s 0 0 (xZ G s.heap.size)) (F0 m pc ls []) := by
  exact W.vret E.1 E.2.1 E.2.2.1 (fun t ht hW => ⟨⟨(), rfl, trivial, by rw [ht]; exact hI.1, va_K.moved hW.alike E.2.2.2.2.2.2.2.1, E.2.2.2.2.2.2.2.2.1, va_Nw.warmM hW E.2.2.2.2.2.2.2.2.2⟩, hI.2.F ht⟩) hI.2.2.2 hdg E.2.2.2.2.2.2.1
end XR
