/-! which scale a test egg falls from, if the scale off is off by by -/
def pFf (A : Nat → Int32) (g off by' : Int32) : Nat → Nat → Int32
  | 0, _ => -9
  | m + 1, k => if g < (if nI k = off then A k + by' else A k) then pFf A g off by' m (k + 1) else nI k
theorem pFf_in {A : Nat → Int32} {g off b : Int32} : ∀ m k, pFf A g off b m k = -9 ∨ ∃ s, s < k + m ∧ pFf A g off b m k = nI s
  | 0, _ => Or.inl rfl
  | m + 1, k => by
    rw [pFf]
    generalize (if nI k = off then A k + b else A k) = x
    by_cases hx : g < x
    · rw [if_pos hx]
      rcases pFf_in (A := A) (g := g) (off := off) (b := b) m (k + 1) with h | ⟨s, hs, h⟩
      · exact Or.inl h
      · exact Or.inr ⟨s, by omega, h⟩
    · rw [if_neg hx]; exact Or.inr ⟨k, by omega, rfl⟩
theorem e_ff {ns : Nat} {g off b : Int32} {M : xMem} (hns : M 3 0 0 = nI ns) (h5 : ns ≤ 5) : f_X5_fallsFrom g off b M = some (pFf (M 3 3) g off b ns 0) := by
  have key : ∀ n k, k ≤ ns → ns - k < n → f_X5_fallsFrom_l3 g off b M n (nI k) = some (pFf (M 3 3) g off b (ns - k) k) := by
    intro n
    induction n with
    | zero => intro k h1 h2; omega
    | succ n ih =>
      intro k h1 h2
      rw [f_X5_fallsFrom_l3, hns]
      by_cases hk : k = ns
      · subst hk
        rw [if_pos (i32_le_rfl _), Nat.sub_self]
        rfl
      · have hi := ih (k + 1) (by omega) (by omega)
        unfold f_X5_fallsFrom_b46
        rw [if_neg (le_nI (by omega) (by omega) (by omega)), xchk_t _ (xb_nI (show k < 5 by omega) (by decide)), xchk_t _ (xb_nI (show k < 5 by omega) (by decide)), nI_clamp (by omega), nI_1, hi, show ns - k = ns - (k + 1) + 1 by omega, pFf]
        by_cases ho : nI k = off
        · rw [if_pos ho, if_pos ho]
          by_cases hx : g < M 3 3 k + b
          · rw [if_pos hx, if_pos hx]
          · rw [if_neg hx, if_neg hx]
        · rw [if_neg ho, if_neg ho]
          by_cases hx : g < M 3 3 k
          · rw [if_pos hx, if_pos hx]
          · rw [if_neg hx, if_neg hx]
  exact key FU 0 (by omega) (FU_gt (by omega))
theorem r_ff {ns : Nat} {g off b : Int32} {M : xMem} {A : Nat → Int32} (hns : M 8 0 0 = nI ns) (h5 : ns ≤ 5) (hA : ∀ s, s < ns → M 8 2 s = A s) : f_X8_fallsFrom g off b M = some (pFf A g off b ns 0) := by
  have key : ∀ n k, k ≤ ns → k < n → f_X8_fallsFrom_l12 g off b M n (pFf A g off b (ns - k) k) (nI k + (-1)) = some (pFf A g off b ns 0) := by
    intro n
    induction n with
    | zero => intro k h1 h2; omega
    | succ n ih =>
      intro k h1 h2
      rw [f_X8_fallsFrom_l12]
      by_cases hk : k = 0
      · subst hk
        rw [if_pos (by decide)]
        rfl
      · obtain ⟨k, rfl⟩ : ∃ j, k = j + 1 := ⟨k - 1, by omega⟩
        have hi := ih k (by omega) (by omega)
        unfold f_X8_fallsFrom_b36 f_X8_fallsFrom_b47
        rw [pk_m1, if_neg (nI_pos (by omega)), xchk_t _ (xb_nI (show k < 5 by omega) (by decide)), nI_clamp (by omega), hA k (by omega), Int32.add_zero]
        rw [show ns - k = ns - (k + 1) + 1 by omega, pFf] at hi
        by_cases ho : nI k = off
        · rw [if_pos ho]
          rw [if_pos ho] at hi
          by_cases hg : g < A k + b
          · rw [if_pos hg]; rw [if_pos hg] at hi; exact hi
          · rw [if_neg hg]; rw [if_neg hg] at hi; exact hi
        · rw [if_neg ho]
          rw [if_neg ho] at hi
          by_cases hg : g < A k
          · rw [if_pos hg]; rw [if_pos hg] at hi; exact hi
          · rw [if_neg hg]; rw [if_neg hg] at hi; exact hi
  have h0 := key FU ns (by omega) (FU_gt (by omega))
  rw [Nat.sub_self] at h0
  unfold f_X8_fallsFrom
  rw [hns, Int32.sub_eq_add_neg]
  exact h0
/-- all tests so far come out so -/
abbrev pSo (A G Sc : Nat → Int32) (ns nt : Nat) (p : Int32 × Int32) : Prop := ∀ k, k < nt → pFf A (G k) p.1 p.2 ns 0 = Sc k
theorem r_so {ns nt : Nat} {p : Int32 × Int32} {M : xMem} {A G Sc : Nat → Int32} (hns : M 8 0 0 = nI ns) (h5 : ns ≤ 5) (hA : ∀ s, s < ns → M 8 2 s = A s) (hnt : M 8 0 11 = nI nt) (h6 : nt ≤ 6) (hG : ∀ k, k < nt → M 8 13 (2 * k) = G k ∧ M 8 13 (2 * k + 1) = Sc k) : f_X8_isSo p.1 p.2 M = some (if pSo A G Sc ns nt p then 1 else 0) := by
  have key : ∀ n k v, k ≤ nt → nt - k < n → (v = 1 ∧ (∀ j, j < k → pFf A (G j) p.1 p.2 ns 0 = Sc j) ∨ v = 0 ∧ ¬ pSo A G Sc ns nt p) → f_X8_isSo_l5 p.1 p.2 M n v (nI k) = some (if pSo A G Sc ns nt p then 1 else 0) := by
    intro n
    induction n with
    | zero => intro k v h1 h2; omega
    | succ n ih =>
      intro k v h1 h2 hv
      rw [f_X8_isSo_l5, hnt]
      by_cases hk : k = nt
      · subst hk
        rw [if_pos (i32_le_rfl _)]
        rcases hv with ⟨rfl, h⟩ | ⟨rfl, h⟩
        · rw [xchk_t _ xbo_1, if_pos h]
        · rw [xchk_t _ xbo_0, if_neg h]
      · have hlt : k < nt := by omega
        have a2 : (2 : Int32) * nI k = nI (2 * k) := pk_mul 2 k
        unfold f_X8_isSo_b51 f_X8_isSo_b52
        rw [if_neg (le_nI (by omega) (by omega) hlt), a2, xchk_t _ (xb_nI (show 2 * k < 12 by omega) (by decide)), nI_clamp (by omega), r_ff hns h5 hA, xb1_e, nI_1 (2 * k), xchk_t _ (xb_nI (show 2 * k + 1 < 12 by omega) (by decide)), nI_clamp (by omega), (hG k hlt).1, (hG k hlt).2, nI_1]
        rcases hv with ⟨rfl, h⟩ | ⟨rfl, h⟩
        · rw [if_neg (by decide)]
          by_cases hq : pFf A (G k) p.1 p.2 ns 0 = Sc k
          · rw [if_pos hq]
            refine ih (k + 1) 1 (by omega) (by omega) (Or.inl ⟨rfl, fun j hj => ?_⟩)
            by_cases hjk : j = k
            · subst hjk; exact hq
            · exact h j (by omega)
          · rw [if_neg hq]
            exact ih (k + 1) 0 (by omega) (by omega) (Or.inr ⟨rfl, fun z => hq (z k hlt)⟩)
        · rw [if_pos rfl]
          exact ih (k + 1) 0 (by omega) (by omega) (Or.inr ⟨rfl, h⟩)
  exact key FU 0 1 (by omega) (FU_gt (by omega)) (Or.inl ⟨rfl, fun j hj => absurd hj (by omega)⟩)
/-! the ways that the class has found -/
def WSt (M0 M : xMem) (wl : List (Int32 × Int32)) : Prop :=
  (∀ o, o ≠ 7 → M o = M0 o) ∧ (∀ r, r ≠ 0 → r ≠ 5 → r ≠ 6 → M 7 r = M0 7 r) ∧ (∀ k, k ≠ 6 → M 7 0 k = M0 7 0 k) ∧ M 7 0 6 = nI wl.length ∧ ∀ i p, wl[i]? = some p → M 7 5 i = p.1 ∧ M 7 6 i = p.2
theorem e_add {M0 M : xMem} {wl : List (Int32 × Int32)} {ns nt : Nat} {p : Int32 × Int32} (hw : WSt M0 M wl) (hl : wl.length < 91) (hns : M0 3 0 0 = nI ns) (h5 : ns ≤ 5) (hnt : M0 7 0 3 = nI nt) (h6 : nt ≤ 6) : ∃ M', f_X5_addIfSo p.1 p.2 M = some M' ∧ WSt M0 M' (wl ++ if pSo (M0 3 3) (M0 7 2) (M0 7 3) ns nt p then [p] else []) := by
  obtain ⟨w1, w2, w3, w4, w5⟩ := id hw
  have m3 : M 3 = M0 3 := w1 3 (by decide)
  have m2 : M 7 2 = M0 7 2 := w2 2 (by decide) (by decide) (by decide)
  have m73 : M 7 3 = M0 7 3 := w2 3 (by decide) (by decide) (by decide)
  have hnt' : M 7 0 3 = nI nt := by rw [w3 3 (by decide)]; exact hnt
  have b91 := xb_nI hl (by decide)
  have key : ∀ n k, k ≤ nt → nt - k < n → (∀ j, j < k → pFf (M0 3 3) (M0 7 2 j) p.1 p.2 ns 0 = M0 7 3 j) → ∃ M', f_X5_addIfSo_l2 p.1 p.2 M n (nI k) = some M' ∧ WSt M0 M' (wl ++ if pSo (M0 3 3) (M0 7 2) (M0 7 3) ns nt p then [p] else []) := by
    intro n
    induction n with
    | zero => intro k h1 h2; omega
    | succ n ih =>
      intro k h1 h2 hs
      rw [f_X5_addIfSo_l2, hnt']
      by_cases hk : k = nt
      · subst hk
        have e1 : xst M 7 5 (nI wl.length) p.1 7 0 6 = nI wl.length := by rw [xst_r (by decide)]; exact w4
        have e2 : xst (xst M 7 5 (nI wl.length) p.1) 7 6 (nI wl.length) p.2 7 0 6 = nI wl.length := by rw [xst_r (by decide)]; exact e1
        rw [if_pos (i32_le_rfl _), w4, xchk_t _ b91, xlet_e, e1, xchk_t _ b91, xlet_e, e2, xlet_e, nI_1, if_pos hs]
        refine ⟨_, rfl, fun o ho => ?_, fun r r0 r5 r6 => ?_, fun k hk => ?_, ?_, fun i q hq => ?_⟩
        · rw [xsf_o ho, xst_o ho, xst_o ho]; exact w1 o ho
        · rw [xsf_r r0, xst_r r6, xst_r r5]; exact w2 r r0 r5 r6
        · rw [xsf_k hk, xst_r (by decide), xst_r (by decide)]; exact w3 k hk
        · rw [xsf_0, List.length_append]; rfl
        · rw [xsf_r (by decide), xsf_r (by decide), xst_r (by decide), xst_e (by omega), xst_e (by omega), xst_r (by decide)]
          by_cases hi : i < wl.length
          · rw [List.getElem?_append_left hi] at hq
            rw [if_neg (by omega), if_neg (by omega)]
            exact w5 i q hq
          · rw [List.getElem?_append_right (by omega)] at hq
            by_cases hz : i = wl.length
            · subst hz
              rw [Nat.sub_self] at hq
              obtain rfl : p = q := Option.some.inj hq
              rw [if_pos rfl, if_pos rfl]
              exact ⟨rfl, rfl⟩
            · obtain ⟨d, hd⟩ : ∃ d, i - wl.length = d + 1 := ⟨i - wl.length - 1, by omega⟩
              rw [hd] at hq
              exact absurd hq (by simp)
      · have hlt : k < nt := by omega
        have b6 := xb_nI (show k < 6 by omega) (by decide)
        rw [if_neg (le_nI (by omega) (by omega) hlt), xchk_t _ b6, nI_clamp (by omega), e_ff (by rw [m3]; exact hns) h5, xb1_e, xchk_t _ b6, m2, m73, m3, nI_1]
        by_cases hq : pFf (M0 3 3) (M0 7 2 k) p.1 p.2 ns 0 = M0 7 3 k
        · rw [if_pos hq]
          refine ih (k + 1) (by omega) (by omega) (fun j hj => ?_)
          by_cases hjk : j = k
          · subst hjk; exact hq
          · exact hs j (by omega)
        · rw [if_neg hq]
          refine ⟨M, rfl, ?_⟩
          rw [if_neg (fun z : pSo (M0 3 3) (M0 7 2) (M0 7 3) ns nt p => hq (z k hlt)), List.append_nil]
          exact hw
  exact key FU 0 (by omega) (FU_gt (by omega)) (fun j hj => absurd hj (by omega))
/-! the ways there may be, in their order -/
def oI (t : Nat) : Int32 := nI t - 9
theorem oI_0 : oI 0 = -9 := by decide
theorem oI_le : ∀ t, t < 19 → ¬ (9 : Int32) < oI t := by decide +kernel
theorem oI_gt : (9 : Int32) < oI 19 := by decide
theorem oI_s : ∀ t, t < 19 → oI t + 1 = oI (t + 1) := by decide +kernel
theorem oI_z : ∀ t, t < 19 → (oI t = 0 ↔ t = 9) := by decide +kernel
def cF (s : Nat) : Nat → Nat → List (Int32 × Int32)
  | 0, _ => []
  | m + 1, t => if t = 9 then cF s m (t + 1) else (nI s, oI t) :: cF s m (t + 1)
def cA : Nat → Nat → List (Int32 × Int32)
  | 0, _ => []
  | m + 1, s => cF s 19 0 ++ cA m (s + 1)
/-- those of a list that are so -/
def fl (P : Int32 × Int32 → Prop) [DecidablePred P] : List (Int32 × Int32) → List (Int32 × Int32)
  | [] => []
  | p :: l => (if P p then [p] else []) ++ fl P l
theorem fl_app (P : Int32 × Int32 → Prop) [DecidablePred P] : ∀ a b, fl P (a ++ b) = fl P a ++ fl P b
  | [], b => rfl
  | p :: a, b => by rw [List.cons_append, fl, fl, fl_app P a b, List.append_assoc]
theorem fl_len (P : Int32 × Int32 → Prop) [DecidablePred P] : ∀ a, (fl P a).length ≤ a.length
  | [] => Nat.le_refl _
  | p :: a => by
    have := fl_len P a
    rw [fl, List.length_append, List.length_cons]
    split
    · simp only [List.length_singleton]; omega
    · simp only [List.length_nil]; omega
theorem cF_len (s : Nat) : ∀ m t, (cF s m t).length ≤ m - (if t ≤ 9 ∧ 9 < t + m then 1 else 0)
  | 0, t => by rw [if_neg (by omega)]; exact Nat.le_refl _
  | m + 1, t => by
    have := cF_len s m (t + 1)
    rw [cF]
    by_cases h9 : t = 9
    · subst h9
      rw [if_neg (by omega)] at this
      rw [if_pos rfl, if_pos (by omega)]
      omega
    · rw [if_neg h9, List.length_cons]
      by_cases hc : t + 1 ≤ 9 ∧ 9 < t + 1 + m
      · rw [if_pos hc] at this
        rw [if_pos (by omega)]
        omega
      · rw [if_neg hc] at this
        rw [if_neg (by omega)]
        omega
theorem cA_len : ∀ m s, (cA m s).length ≤ 18 * m
  | 0, _ => Nat.le_refl _
  | m + 1, s => by
    have h1 := cF_len s 19 0
    have h2 := cA_len m (s + 1)
    rw [if_pos (by omega)] at h1
    rw [cA, List.length_append]
    omega
theorem e_find_in {M0 : xMem} {ns nt s : Nat} {k14 : Int32 → xMem → Option xMem} (hns : M0 3 0 0 = nI ns) (h5 : ns ≤ 5) (hnt : M0 7 0 3 = nI nt) (h6 : nt ≤ 6) : ∀ n t M wl, t ≤ 19 → 19 - t < n → WSt M0 M wl → wl.length + (cF s (19 - t) t).length ≤ 91 → ∃ M', f_X5_findWays_l28 (nI s) k14 n (oI t) M = k14 (nI (s + 1)) M' ∧ WSt M0 M' (wl ++ fl (pSo (M0 3 3) (M0 7 2) (M0 7 3) ns nt) (cF s (19 - t) t)) := by
  intro n
  induction n with
  | zero => intro t M wl h1 h2; omega
  | succ n ih =>
    intro t M wl h1 h2 hw hl
    rw [f_X5_findWays_l28]
    by_cases ht : t = 19
    · subst ht
      rw [if_pos oI_gt, nI_1]
      refine ⟨M, rfl, ?_⟩
      rw [Nat.sub_self, cF, fl, List.append_nil]
      exact hw
    · have htl : t < 19 := by omega
      unfold f_X5_findWays_b44
      rw [show 19 - t = 19 - (t + 1) + 1 by omega, cF] at hl ⊢
      rw [if_neg (oI_le t htl), oI_s t htl]
      by_cases h9 : t = 9
      · rw [if_pos h9] at hl ⊢
        rw [if_pos ((oI_z t htl).mpr h9)]
        exact ih (t + 1) M wl (by omega) (by omega) hw hl
      · rw [if_neg h9] at hl ⊢
        rw [if_neg (fun q => h9 ((oI_z t htl).mp q))]
        rw [List.length_cons] at hl
        obtain ⟨M1, g1, g2⟩ := e_add (p := (nI s, oI t)) hw (by omega) hns h5 hnt h6
        have g1' : f_X5_addIfSo (nI s) (oI t) M = some M1 := g1
        rw [g1', xb1_e]
        obtain ⟨M2, q1, q2⟩ := ih (t + 1) M1 _ (by omega) (by omega) g2 (by
          rw [List.length_append]
          by_cases hz : pSo (M0 3 3) (M0 7 2) (M0 7 3) ns nt (nI s, oI t)
          · rw [if_pos hz, List.length_singleton]; omega
          · rw [if_neg hz, List.length_nil]; omega)
        refine ⟨M2, q1, ?_⟩
        rw [fl, ← List.append_assoc]
        exact q2
theorem e_find {M : xMem} {ns nt : Nat} (hns : M 3 0 0 = nI ns) (h5 : ns ≤ 5) (hnt : M 7 0 3 = nI nt) (h6 : nt ≤ 6) : ∃ M', f_X5_findWays M = some M' ∧ WSt M M' (fl (pSo (M 3 3) (M 7 2) (M 7 3) ns nt) ((-9, 0) :: cA ns 0)) := by
  have key : ∀ n s M1 wl, s ≤ ns → ns - s < n → WSt M M1 wl → wl.length + (cA (ns - s) s).length ≤ 91 → ∃ M', f_X5_findWays_l14 n (nI s) M1 = some M' ∧ WSt M M' (wl ++ fl (pSo (M 3 3) (M 7 2) (M 7 3) ns nt) (cA (ns - s) s)) := by
    intro n
    induction n with
    | zero => intro s M1 wl h1 h2; omega
    | succ n ih =>
      intro s M1 wl h1 h2 hw hl
      rw [f_X5_findWays_l14, hw.1 3 (by decide), hns]
      by_cases hs : s = ns
      · subst hs
        rw [if_pos (i32_le_rfl _)]
        refine ⟨M1, rfl, ?_⟩
        rw [Nat.sub_self, cA, fl, List.append_nil]
        exact hw
      · rw [show ns - s = ns - (s + 1) + 1 by omega, cA] at hl ⊢
        rw [List.length_append] at hl
        rw [if_neg (le_nI (by omega) (by omega) (by omega)), ← oI_0]
        obtain ⟨M2, g1, g2⟩ := e_find_in (s := s) (k14 := f_X5_findWays_l14 n) hns h5 hnt h6 FU 0 M1 wl (by omega) (FU_gt (by omega)) hw (by rw [Nat.sub_zero]; omega)
        rw [Nat.sub_zero] at g2
        rw [g1]
        have hfl := fl_len (pSo (M 3 3) (M 7 2) (M 7 3) ns nt) (cF s 19 0)
        obtain ⟨M3, q1, q2⟩ := ih (s + 1) M2 _ (by omega) (by omega) g2 (by rw [List.length_append]; omega)
        refine ⟨M3, q1, ?_⟩
        rw [fl_app, ← List.append_assoc]
        exact q2
  unfold f_X5_findWays
  rw [xlet_e]
  have w0 : WSt M (xsf M 7 6 0) [] := ⟨fun o ho => xsf_o ho, fun r r0 _ _ => xsf_r r0, fun k hk => xsf_k hk, xsf_0 _ _ _ _, fun i p hq => absurd hq (by simp)⟩
  obtain ⟨M1, g1, g2⟩ := e_add (p := (-9, 0)) w0 (by decide) hns h5 hnt h6
  have g1' : f_X5_addIfSo (-9) 0 (xsf M 7 6 0) = some M1 := g1
  rw [g1', xb1_e]
  have hc := cA_len ns 0
  obtain ⟨M2, q1, q2⟩ := key FU 0 M1 _ (by omega) (FU_gt (by omega)) g2 (by
    rw [List.nil_append, Nat.sub_zero]
    by_cases hz : pSo (M 3 3) (M 7 2) (M 7 3) ns nt (-9, 0)
    · rw [if_pos hz, List.length_singleton]; omega
    · rw [if_neg hz, List.length_nil]; omega)
  refine ⟨M2, q1, ?_⟩
  rw [List.nil_append, Nat.sub_zero] at q2
  rw [fl]
  exact q2
