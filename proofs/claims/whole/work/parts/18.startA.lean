def qA (x0 m0 : Nat) (w : xS) (u : Nat → Nat → Nat) (o r : Nat) : Nat := match o with
  | 0 => (match r with | 0 => x0 | r + 1 => w.2.1 0 (r + 1))
  | 1 => (match r with | 0 => w.1 1 | r + 1 => w.2.2.1 0 (r + 1))
  | 2 => (match r with | 0 => w.2.2.1 101 0 | r + 1 => w.2.2.1 1 (r + 1))
  | 3 => (match r with | 0 => w.1 3 | r + 1 => w.2.1 3 (r + 1))
  | 4 => (match r with | 0 => w.1 4 | r + 1 => w.2.2.2.1 0 (r + 1))
  | 5 => (match r with | 0 => w.1 5 | r + 1 => w.2.2.2.2.1 0 (r + 1))
  | 6 => (match r with | 0 => w.1 6 | r + 1 => w.2.2.2.2.2.1 0 (r + 1))
  | 7 => (match r with | 0 => w.1 7 | r + 1 => w.2.2.2.2.2.2 0 (r + 1))
  | 8 => (match r with | 0 => m0 | r + 1 => u 0 (r + 1))
  | 9 => (match r with | 0 => w.1 9 | r + 1 => w.2.1 9 (r + 1))
  | 10 => (match r with | 0 => w.1 10 | r + 1 => w.2.1 10 (r + 1))
  | 11 => (match r with | 0 => w.1 12 | r + 1 => w.2.1 12 (r + 1))
  | 12 => (match r with | 0 => w.1 13 | r + 1 => w.2.1 13 (r + 1))
  | 13 => (match r with | 0 => w.2.2.2.1 101 0 | r + 1 => w.2.2.2.1 1 (r + 1))
  | 14 => (match r with | 0 => w.2.2.2.1 102 0 | r + 1 => w.2.2.2.1 2 (r + 1))
  | 15 => (match r with | 0 => w.2.2.2.1 103 0 | r + 1 => w.2.2.2.1 3 (r + 1))
  | 16 => (match r with | 0 => w.2.2.2.1 104 0 | r + 1 => w.2.2.2.1 4 (r + 1))
  | 17 => (match r with | 0 => w.2.2.2.1 105 0 | r + 1 => w.2.2.2.1 5 (r + 1))
  | 18 => (match r with | 0 => w.2.2.2.1 106 0 | r + 1 => w.2.2.2.1 6 (r + 1))
  | 19 => (match r with | 0 => w.2.2.2.1 107 0 | r + 1 => w.2.2.2.1 7 (r + 1))
  | 20 => (match r with | 0 => w.2.2.2.1 108 0 | r + 1 => w.2.2.2.1 8 (r + 1))
  | 21 => (match r with | 0 => w.2.2.2.1 109 0 | r + 1 => w.2.2.2.1 9 (r + 1))
  | 22 => (match r with | 0 => w.2.2.2.1 110 0 | r + 1 => w.2.2.2.1 10 (r + 1))
  | 23 => (match r with | 0 => w.2.2.2.2.1 101 0 | r + 1 => w.2.2.2.2.1 1 (r + 1))
  | 24 => (match r with | 0 => w.2.2.2.2.1 102 0 | r + 1 => w.2.2.2.2.1 2 (r + 1))
  | 25 => (match r with | 0 => w.2.2.2.2.1 103 0 | r + 1 => w.2.2.2.2.1 3 (r + 1))
  | 26 => (match r with | 0 => w.2.2.2.2.1 104 0 | r + 1 => w.2.2.2.2.1 4 (r + 1))
  | 27 => (match r with | 0 => w.2.2.2.2.1 105 0 | r + 1 => w.2.2.2.2.1 5 (r + 1))
  | 28 => (match r with | 0 => w.2.2.2.2.1 106 0 | r + 1 => w.2.2.2.2.1 6 (r + 1))
  | 29 => (match r with | 0 => w.2.2.2.2.1 107 0 | r + 1 => w.2.2.2.2.1 7 (r + 1))
  | _ => 0
def ixo : List (Nat × Nat) := [(0, 0), (0, 6), (1, 0), (1, 1), (2, 0), (2, 3), (2, 4), (2, 5), (2, 6), (2, 7), (3, 0), (3, 3), (3, 4), (3, 5), (3, 6), (3, 7), (9, 0), (9, 2), (9, 3), (9, 4), (9, 5), (9, 6), (10, 0), (10, 2), (10, 3), (10, 4), (10, 5), (10, 6), (4, 0), (4, 1), (13, 0), (13, 2), (13, 3), (13, 4), (13, 5), (13, 6), (14, 0), (14, 2), (14, 3), (14, 4), (14, 5), (14, 6), (15, 0), (15, 2), (15, 3), (15, 4), (15, 5), (15, 6), (16, 0), (16, 2), (16, 3), (16, 4), (16, 5), (16, 6), (17, 0), (17, 2), (17, 3), (17, 4), (17, 5), (17, 6), (18, 0), (18, 2), (18, 3), (18, 4), (18, 5), (18, 6), (19, 0), (19, 2), (19, 3), (19, 4), (19, 5), (19, 6), (20, 0), (20, 2), (20, 3), (20, 4), (20, 5), (20, 6), (21, 0), (21, 2), (21, 3), (21, 4), (21, 5), (21, 6), (22, 0), (22, 2), (22, 3), (22, 4), (22, 5), (22, 6), (0, 7), (5, 0), (5, 2), (5, 3), (5, 4), (23, 0), (23, 2), (23, 3), (23, 4), (23, 5), (23, 6), (24, 0), (24, 2), (24, 3), (24, 4), (24, 5), (24, 6), (25, 0), (25, 2), (25, 3), (25, 4), (25, 5), (25, 6), (26, 0), (26, 2), (26, 3), (26, 4), (26, 5), (26, 6), (27, 0), (27, 2), (27, 3), (27, 4), (27, 5), (27, 6), (28, 0), (28, 2), (28, 3), (28, 4), (28, 5), (28, 6), (29, 0), (29, 2), (29, 3), (29, 4), (29, 5), (29, 6), (6, 0), (6, 2), (7, 0), (7, 2), (7, 3), (7, 5), (7, 6), (7, 8), (11, 0), (11, 2), (11, 3), (11, 4), (11, 5), (11, 6), (12, 0), (12, 2), (12, 3), (12, 4), (12, 5), (12, 6), (8, 0), (8, 2), (8, 3), (8, 4), (8, 6), (8, 7), (8, 8), (8, 10), (8, 11), (8, 13), (8, 15), (8, 24), (8, 26), (8, 27), (8, 28), (8, 29), (8, 30), (8, 31)]
theorem ixo_in : ∀ p ∈ ixs, p ∈ ixo := by decide +kernel
abbrev xM0 : xMem := fun _ _ _ => 0
abbrev xL0 : xLL := fun _ => 0
theorem st_refs {x0 m0 : Nat} {w : xS} {u : Nat → Nat → Nat} : (∀ j, j < 2 → some (w.1 (j + 12)) = some (qA x0 m0 w u (j + 2 + 9) 0)) ∧ (∀ j, j < 10 → some (w.2.2.2.1 (j + 101) 0) = some (qA x0 m0 w u (j + 4 + 9) 0)) ∧ (∀ j, j < 7 → some (w.2.2.2.2.1 (j + 101) 0) = some (qA x0 m0 w u (j + 14 + 9) 0)) := by
  refine ⟨fun j hj => ?_, fun j hj => ?_, fun j hj => ?_⟩
  · rcases (show j = 0 ∨ j = 1 by omega) with rfl | rfl <;> rfl
  · rcases (show j = 0 ∨ j = 1 ∨ j = 2 ∨ j = 3 ∨ j = 4 ∨ j = 5 ∨ j = 6 ∨ j = 7 ∨ j = 8 ∨ j = 9 by omega) with rfl | rfl | rfl | rfl | rfl | rfl | rfl | rfl | rfl | rfl <;> rfl
  · rcases (show j = 0 ∨ j = 1 ∨ j = 2 ∨ j = 3 ∨ j = 4 ∨ j = 5 ∨ j = 6 by omega) with rfl | rfl | rfl | rfl | rfl | rfl | rfl <;> rfl
theorem va_P_cons {D : va_G} {cl : List vw_C} {t : Nat × va_E} {R : va_W} {H : Heap} (h : va_P D cl (t :: R) H) : va_at D cl t H ∧ va_P D cl R H := ⟨h 0 t rfl, fun k q hk => h (k + 1) q (by rw [List.getElem?_cons_succ]; exact hk)⟩
theorem va_P_left {D : va_G} {cl : List vw_C} {A B : va_W} {H : Heap} (h : va_P D cl (A ++ B) H) : va_P D cl A H := fun k q hk => h k q (by rw [List.getElem?_append_left (List.getElem?_eq_some_iff.mp hk).1]; exact hk)
theorem va_P_right {D : va_G} {cl : List vw_C} {A B : va_W} {H : Heap} (h : va_P D cl (A ++ B) H) : va_P D cl B H := fun k q hk => h (A.length + k) q (by rw [List.getElem?_append_right (by omega), show A.length + k - A.length = k by omega]; exact hk)
theorem va_P_one {D : va_G} {cl : List vw_C} {t : Nat × va_E} {H : Heap} (h : va_at D cl t H) : va_P D cl [t] H := fun k q hk => by
  have h1 : k = 0 := by
    have := (List.getElem?_eq_some_iff.mp hk).1
    simp at this; exact this
  subst h1
  cases hk
  exact h
theorem va_at_ref {D : va_G} {cl : List vw_C} {H : Heap} {a n : Nat} {c : ClassId} {f g : Nat → Option Nat} (h : va_at D cl (a, .inl (c, n, .inr (.inr (.inr (.inr f))))) H) (hfg : ∀ j, j < n → f j = g j) : va_at D cl (a, .inl (c, n, .inr (.inr (.inr (.inr g))))) H := by
  have h1 : H[a]? = some (vp_cell c (n, .inr (.inr (.inr (.inr f))))) := h
  rw [vp_refs hfg] at h1
  exact h1
def xf (G : xG) (p : Nat × Nat) : Nat × va_E := (xq G p.1 p.2, xc G p.1 p.2 (xM0 p.1 p.2) (xL0 p.1))
def ixb : List (Nat × Nat) := [(0, 0)] ++ ([(0, 6)] ++ ([(1, 0)] ++ ([(1, 1)] ++ ([(2, 0), (2, 3), (2, 4), (2, 5), (2, 6), (2, 7)] ++ ([(3, 0), (3, 3), (3, 4), (3, 5), (3, 6), (3, 7)] ++ ([(9, 0), (9, 2), (9, 3), (9, 4), (9, 5), (9, 6)] ++ ([(10, 0), (10, 2), (10, 3), (10, 4), (10, 5), (10, 6)] ++ ([(4, 0)] ++ ([(4, 1)] ++ ([(22, 0), (22, 2), (22, 3), (22, 4), (22, 5), (22, 6)] ++ ([(21, 0), (21, 2), (21, 3), (21, 4), (21, 5), (21, 6)] ++ ([(20, 0), (20, 2), (20, 3), (20, 4), (20, 5), (20, 6)] ++ ([(19, 0), (19, 2), (19, 3), (19, 4), (19, 5), (19, 6)] ++ ([(18, 0), (18, 2), (18, 3), (18, 4), (18, 5), (18, 6)] ++ ([(17, 0), (17, 2), (17, 3), (17, 4), (17, 5), (17, 6)] ++ ([(16, 0), (16, 2), (16, 3), (16, 4), (16, 5), (16, 6)] ++ ([(15, 0), (15, 2), (15, 3), (15, 4), (15, 5), (15, 6)] ++ ([(14, 0), (14, 2), (14, 3), (14, 4), (14, 5), (14, 6)] ++ ([(13, 0), (13, 2), (13, 3), (13, 4), (13, 5), (13, 6)] ++ ([(0, 7)] ++ ([(5, 0)] ++ ([(5, 2)] ++ ([(29, 0), (29, 2), (29, 3), (29, 4), (29, 5), (29, 6)] ++ ([(28, 0), (28, 2), (28, 3), (28, 4), (28, 5), (28, 6)] ++ ([(27, 0), (27, 2), (27, 3), (27, 4), (27, 5), (27, 6)] ++ ([(26, 0), (26, 2), (26, 3), (26, 4), (26, 5), (26, 6)] ++ ([(25, 0), (25, 2), (25, 3), (25, 4), (25, 5), (25, 6)] ++ ([(24, 0), (24, 2), (24, 3), (24, 4), (24, 5), (24, 6)] ++ ([(23, 0), (23, 2), (23, 3), (23, 4), (23, 5), (23, 6)] ++ ([(5, 3)] ++ ([(5, 4)] ++ ([(6, 0), (6, 2)] ++ ([(7, 0), (7, 2), (7, 3), (7, 5), (7, 6), (7, 8)] ++ ([(11, 0), (11, 2), (11, 3), (11, 4), (11, 5), (11, 6)] ++ ([(12, 0), (12, 2), (12, 3), (12, 4), (12, 5), (12, 6)] ++ ([(8, 0), (8, 2), (8, 3), (8, 4), (8, 6), (8, 7), (8, 8), (8, 10), (8, 11), (8, 13), (8, 15), (8, 24), (8, 26), (8, 27), (8, 28), (8, 29), (8, 30), (8, 31)]))))))))))))))))))))))))))))))))))))
theorem ixb_in : ∀ p ∈ ixs, p ∈ ixb := by decide +kernel
set_option maxHeartbeats 4000000 in
set_option maxRecDepth 100000 in
/-- the cells that the two constructors make are the world at its start -/
theorem st_world {D : va_G} {G : xG} {x0 m0 : Nat} {w : xS} {u : Nat → Nat → Nat} {H : Heap} (hq : G.2.2.1 = qA x0 m0 w u) (hW : va_P D vwCl (([] ++ bX G x0 w) ++ bM G m0 u) H) : va_P D vwCl (xw G xM0 xL0) H := by
  obtain ⟨dC, dI, q, cA⟩ := G
  have hq : q = qA x0 m0 w u := hq
  subst hq
  have hX := va_P_right (va_P_left hW)
  have hM := va_P_right hW
  obtain ⟨t0, hX⟩ := va_P_cons hX
  obtain ⟨t1, hX⟩ := va_P_cons hX
  have hF12 := va_P_right hX
  have hX := va_P_left hX
  have hF11 := va_P_right hX
  have hX := va_P_left hX
  have hE := va_P_right hX
  have hX := va_P_left hX
  have hK := va_P_right hX
  have hX := va_P_left hX
  have hS := va_P_right hX
  have hX := va_P_left hX
  have hkp := va_P_right hX
  have hX := va_P_left hX
  have hP := va_P_right hX
  have hX := va_P_left hX
  have hF10 := va_P_right hX
  have hX := va_P_left hX
  have hF9 := va_P_right hX
  have hX := va_P_left hX
  have hT := va_P_right hX
  have hX := va_P_left hX
  have hR := hX
  have b0 : va_P D vwCl (([(0, 0)] : List (Nat × Nat)).map (xf (dC, dI, qA x0 m0 w u, cA))) H := va_P_one t0
  have b1 : va_P D vwCl (([(0, 6)] : List (Nat × Nat)).map (xf (dC, dI, qA x0 m0 w u, cA))) H := va_P_one (va_at_ref t1 (st_refs (x0 := x0) (m0 := m0) (w := w) (u := u)).1)
  obtain ⟨r0, hR⟩ := va_P_cons hR
  have b2 : va_P D vwCl (([(1, 0)] : List (Nat × Nat)).map (xf (dC, dI, qA x0 m0 w u, cA))) H := va_P_one r0
  have b3 : va_P D vwCl (([(1, 1)] : List (Nat × Nat)).map (xf (dC, dI, qA x0 m0 w u, cA))) H := va_P_left hR
  have b4 : va_P D vwCl (([(2, 0), (2, 3), (2, 4), (2, 5), (2, 6), (2, 7)] : List (Nat × Nat)).map (xf (dC, dI, qA x0 m0 w u, cA))) H := va_P_right hR
  have b5 : va_P D vwCl (([(3, 0), (3, 3), (3, 4), (3, 5), (3, 6), (3, 7)] : List (Nat × Nat)).map (xf (dC, dI, qA x0 m0 w u, cA))) H := hT
  have b6 : va_P D vwCl (([(9, 0), (9, 2), (9, 3), (9, 4), (9, 5), (9, 6)] : List (Nat × Nat)).map (xf (dC, dI, qA x0 m0 w u, cA))) H := hF9
  have b7 : va_P D vwCl (([(10, 0), (10, 2), (10, 3), (10, 4), (10, 5), (10, 6)] : List (Nat × Nat)).map (xf (dC, dI, qA x0 m0 w u, cA))) H := hF10
  obtain ⟨p0, hPa⟩ := va_P_cons hP
  obtain ⟨p1, hPa⟩ := va_P_cons hPa
  have b8 : va_P D vwCl (([(4, 0)] : List (Nat × Nat)).map (xf (dC, dI, qA x0 m0 w u, cA))) H := va_P_one p0
  have b9 : va_P D vwCl (([(4, 1)] : List (Nat × Nat)).map (xf (dC, dI, qA x0 m0 w u, cA))) H := va_P_one (va_at_ref p1 (st_refs (x0 := x0) (m0 := m0) (w := w) (u := u)).2.1)
  have b10 : va_P D vwCl (([(22, 0), (22, 2), (22, 3), (22, 4), (22, 5), (22, 6)] : List (Nat × Nat)).map (xf (dC, dI, qA x0 m0 w u, cA))) H := va_P_right hPa
  have hPa := va_P_left hPa
  have b11 : va_P D vwCl (([(21, 0), (21, 2), (21, 3), (21, 4), (21, 5), (21, 6)] : List (Nat × Nat)).map (xf (dC, dI, qA x0 m0 w u, cA))) H := va_P_right hPa
  have hPa := va_P_left hPa
  have b12 : va_P D vwCl (([(20, 0), (20, 2), (20, 3), (20, 4), (20, 5), (20, 6)] : List (Nat × Nat)).map (xf (dC, dI, qA x0 m0 w u, cA))) H := va_P_right hPa
  have hPa := va_P_left hPa
  have b13 : va_P D vwCl (([(19, 0), (19, 2), (19, 3), (19, 4), (19, 5), (19, 6)] : List (Nat × Nat)).map (xf (dC, dI, qA x0 m0 w u, cA))) H := va_P_right hPa
  have hPa := va_P_left hPa
  have b14 : va_P D vwCl (([(18, 0), (18, 2), (18, 3), (18, 4), (18, 5), (18, 6)] : List (Nat × Nat)).map (xf (dC, dI, qA x0 m0 w u, cA))) H := va_P_right hPa
  have hPa := va_P_left hPa
  have b15 : va_P D vwCl (([(17, 0), (17, 2), (17, 3), (17, 4), (17, 5), (17, 6)] : List (Nat × Nat)).map (xf (dC, dI, qA x0 m0 w u, cA))) H := va_P_right hPa
  have hPa := va_P_left hPa
  have b16 : va_P D vwCl (([(16, 0), (16, 2), (16, 3), (16, 4), (16, 5), (16, 6)] : List (Nat × Nat)).map (xf (dC, dI, qA x0 m0 w u, cA))) H := va_P_right hPa
  have hPa := va_P_left hPa
  have b17 : va_P D vwCl (([(15, 0), (15, 2), (15, 3), (15, 4), (15, 5), (15, 6)] : List (Nat × Nat)).map (xf (dC, dI, qA x0 m0 w u, cA))) H := va_P_right hPa
  have hPa := va_P_left hPa
  have b18 : va_P D vwCl (([(14, 0), (14, 2), (14, 3), (14, 4), (14, 5), (14, 6)] : List (Nat × Nat)).map (xf (dC, dI, qA x0 m0 w u, cA))) H := va_P_right hPa
  have hPa := va_P_left hPa
  have b19 : va_P D vwCl (([(13, 0), (13, 2), (13, 3), (13, 4), (13, 5), (13, 6)] : List (Nat × Nat)).map (xf (dC, dI, qA x0 m0 w u, cA))) H := hPa
  have b20 : va_P D vwCl (([(0, 7)] : List (Nat × Nat)).map (xf (dC, dI, qA x0 m0 w u, cA))) H := hkp
  obtain ⟨s0, hS⟩ := va_P_cons hS
  obtain ⟨s1, hS⟩ := va_P_cons hS
  have b21 : va_P D vwCl (([(5, 0)] : List (Nat × Nat)).map (xf (dC, dI, qA x0 m0 w u, cA))) H := va_P_one s0
  have b22 : va_P D vwCl (([(5, 2)] : List (Nat × Nat)).map (xf (dC, dI, qA x0 m0 w u, cA))) H := va_P_one (va_at_ref s1 (st_refs (x0 := x0) (m0 := m0) (w := w) (u := u)).2.2)
  have b23 : va_P D vwCl (([(29, 0), (29, 2), (29, 3), (29, 4), (29, 5), (29, 6)] : List (Nat × Nat)).map (xf (dC, dI, qA x0 m0 w u, cA))) H := va_P_right hS
  have hS := va_P_left hS
  have b24 : va_P D vwCl (([(28, 0), (28, 2), (28, 3), (28, 4), (28, 5), (28, 6)] : List (Nat × Nat)).map (xf (dC, dI, qA x0 m0 w u, cA))) H := va_P_right hS
  have hS := va_P_left hS
  have b25 : va_P D vwCl (([(27, 0), (27, 2), (27, 3), (27, 4), (27, 5), (27, 6)] : List (Nat × Nat)).map (xf (dC, dI, qA x0 m0 w u, cA))) H := va_P_right hS
  have hS := va_P_left hS
  have b26 : va_P D vwCl (([(26, 0), (26, 2), (26, 3), (26, 4), (26, 5), (26, 6)] : List (Nat × Nat)).map (xf (dC, dI, qA x0 m0 w u, cA))) H := va_P_right hS
  have hS := va_P_left hS
  have b27 : va_P D vwCl (([(25, 0), (25, 2), (25, 3), (25, 4), (25, 5), (25, 6)] : List (Nat × Nat)).map (xf (dC, dI, qA x0 m0 w u, cA))) H := va_P_right hS
  have hS := va_P_left hS
  have b28 : va_P D vwCl (([(24, 0), (24, 2), (24, 3), (24, 4), (24, 5), (24, 6)] : List (Nat × Nat)).map (xf (dC, dI, qA x0 m0 w u, cA))) H := va_P_right hS
  have hS := va_P_left hS
  have b29 : va_P D vwCl (([(23, 0), (23, 2), (23, 3), (23, 4), (23, 5), (23, 6)] : List (Nat × Nat)).map (xf (dC, dI, qA x0 m0 w u, cA))) H := va_P_right hS
  have hS := va_P_left hS
  have b30 : va_P D vwCl (([(5, 3)] : List (Nat × Nat)).map (xf (dC, dI, qA x0 m0 w u, cA))) H := va_P_left hS
  have b31 : va_P D vwCl (([(5, 4)] : List (Nat × Nat)).map (xf (dC, dI, qA x0 m0 w u, cA))) H := va_P_right hS
  have b32 : va_P D vwCl (([(6, 0), (6, 2)] : List (Nat × Nat)).map (xf (dC, dI, qA x0 m0 w u, cA))) H := hK
  have b33 : va_P D vwCl (([(7, 0), (7, 2), (7, 3), (7, 5), (7, 6), (7, 8)] : List (Nat × Nat)).map (xf (dC, dI, qA x0 m0 w u, cA))) H := hE
  have b34 : va_P D vwCl (([(11, 0), (11, 2), (11, 3), (11, 4), (11, 5), (11, 6)] : List (Nat × Nat)).map (xf (dC, dI, qA x0 m0 w u, cA))) H := hF11
  have b35 : va_P D vwCl (([(12, 0), (12, 2), (12, 3), (12, 4), (12, 5), (12, 6)] : List (Nat × Nat)).map (xf (dC, dI, qA x0 m0 w u, cA))) H := hF12
  have b36 : va_P D vwCl (([(8, 0), (8, 2), (8, 3), (8, 4), (8, 6), (8, 7), (8, 8), (8, 10), (8, 11), (8, 13), (8, 15), (8, 24), (8, 26), (8, 27), (8, 28), (8, 29), (8, 30), (8, 31)] : List (Nat × Nat)).map (xf (dC, dI, qA x0 m0 w u, cA))) H := hM
  have h4 : va_P D vwCl (ixb.map (xf (dC, dI, qA x0 m0 w u, cA))) H := by
    unfold ixb
    simp only [List.map_append]
    exact va_P.app b0 (va_P.app b1 (va_P.app b2 (va_P.app b3 (va_P.app b4 (va_P.app b5 (va_P.app b6 (va_P.app b7 (va_P.app b8 (va_P.app b9 (va_P.app b10 (va_P.app b11 (va_P.app b12 (va_P.app b13 (va_P.app b14 (va_P.app b15 (va_P.app b16 (va_P.app b17 (va_P.app b18 (va_P.app b19 (va_P.app b20 (va_P.app b21 (va_P.app b22 (va_P.app b23 (va_P.app b24 (va_P.app b25 (va_P.app b26 (va_P.app b27 (va_P.app b28 (va_P.app b29 (va_P.app b30 (va_P.app b31 (va_P.app b32 (va_P.app b33 (va_P.app b34 (va_P.app b35 (b36))))))))))))))))))))))))))))))))))))
  intro k z hk
  have hm := List.mem_of_getElem? hk
  obtain ⟨p, hp, rfl⟩ := List.mem_map.mp hm
  obtain ⟨j, hj⟩ := List.getElem?_of_mem (List.mem_map.mpr ⟨p, ixb_in p hp, rfl⟩)
  exact h4 j _ hj
