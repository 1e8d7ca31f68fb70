/-- what the reference has of marks and tests -/
def RT (M : xMem) (A G Sc : Nat → Int32) (ns nt : Nat) : Prop := M 8 0 0 = nI ns ∧ ns ≤ 5 ∧ (∀ s, s < ns → M 8 2 s = A s) ∧ M 8 0 11 = nI nt ∧ nt ≤ 6 ∧ ∀ k, k < nt → M 8 13 (2 * k) = G k ∧ M 8 13 (2 * k + 1) = Sc k
theorem RT.so {M : xMem} {A G Sc : Nat → Int32} {ns nt : Nat} (h : RT M A G Sc ns nt) (a b : Int32) : f_X8_isSo a b M = some (if pSo A G Sc ns nt (a, b) then 1 else 0) := by
  obtain ⟨h1, h2, h3, h4, h5, h6⟩ := h
  exact r_so (p := (a, b)) h1 h2 h3 h4 h5 h6
theorem RT.of {M N : xMem} {A G Sc : Nat → Int32} {ns nt : Nat} (h : RT M A G Sc ns nt) (h0 : N 8 0 = M 8 0) (h2 : N 8 2 = M 8 2) (h13 : N 8 13 = M 8 13) : RT N A G Sc ns nt := by
  unfold RT at h ⊢
  rw [h0, h2, h13]
  exact h
theorem r_waysOff {M : xMem} {A G Sc : Nat → Int32} {ns nt s : Nat} (h : RT M A G Sc ns nt) : f_X8_waysOff (nI s) M = some (nI (fl (pSo A G Sc ns nt) (cF s 19 0)).length) := by
  have key : ∀ n t c, t ≤ 19 → 19 - t < n → f_X8_waysOff_l5 (nI s) M n (nI c) (oI t) = some (nI (c + (fl (pSo A G Sc ns nt) (cF s (19 - t) t)).length)) := by
    intro n
    induction n with
    | zero => intro t c h1 h2; omega
    | succ n ih =>
      intro t c h1 h2
      rw [f_X8_waysOff_l5]
      by_cases ht : t = 19
      · subst ht
        rw [if_pos oI_gt]
        rfl
      · have htl : t < 19 := by omega
        unfold f_X8_waysOff_b29 f_X8_waysOff_b30
        rw [show 19 - t = 19 - (t + 1) + 1 by omega, cF, if_neg (oI_le t htl), oI_s t htl, Int32.add_zero]
        by_cases h9 : t = 9
        · rw [if_pos h9, if_pos ((oI_z t htl).mpr h9)]
          exact ih (t + 1) c (by omega) (by omega)
        · rw [if_neg h9, if_neg (fun q => h9 ((oI_z t htl).mp q)), h.so, xb1_e, fl, List.length_append]
          by_cases hz : pSo A G Sc ns nt (nI s, oI t)
          · rw [if_pos hz, if_pos hz, if_neg (by decide), nI_1, List.length_singleton, ← Nat.add_assoc]
            exact ih (t + 1) (c + 1) (by omega) (by omega)
          · rw [if_neg hz, if_neg hz, if_pos rfl, List.length_nil, Nat.zero_add]
            exact ih (t + 1) c (by omega) (by omega)
  have h0 := key FU 0 0 (by omega) (FU_gt (by omega))
  rw [Nat.zero_add, oI_0] at h0
  exact h0
theorem r_allWays {M : xMem} {A G Sc : Nat → Int32} {ns nt : Nat} (h : RT M A G Sc ns nt) : f_X8_allWays M = some (nI (fl (pSo A G Sc ns nt) ((-9, 0) :: cA ns 0)).length) := by
  have h1 := h.1
  have h5 := h.2.1
  have key : ∀ n s c, s ≤ ns → ns - s < n → f_X8_allWays_l18 M n (nI c) (nI s) = some (nI (c + (fl (pSo A G Sc ns nt) (cA (ns - s) s)).length)) := by
    intro n
    induction n with
    | zero => intro s c h1 h2; omega
    | succ n ih =>
      intro s c g1 g2
      rw [f_X8_allWays_l18, h1]
      by_cases hs : s = ns
      · subst hs
        rw [if_pos (i32_le_rfl _), Nat.sub_self]
        rfl
      · rw [if_neg (le_nI (by omega) (by omega) (by omega)), r_waysOff h, xb1_e, nI_add, nI_1, show ns - s = ns - (s + 1) + 1 by omega, cA, fl_app, List.length_append, ← Nat.add_assoc]
        exact ih (s + 1) _ (by omega) (by omega)
  unfold f_X8_allWays f_X8_allWays_b15
  rw [h.so, xb1_e, fl, List.length_append]
  by_cases hz : pSo A G Sc ns nt (-9, 0)
  · rw [if_pos hz, if_pos hz, if_neg (by decide), List.length_singleton]
    exact key FU 0 1 (by omega) (FU_gt (by omega))
  · rw [if_neg hz, if_neg hz, if_pos rfl, List.length_nil]
    exact key FU 0 0 (by omega) (FU_gt (by omega))
/-! the scales that may be off -/
def sOff : List (Int32 × Int32) → Int32 → Int32
  | [], v => v
  | p :: l, v => sOff l (if p.1 = -9 then v else v ||| ((1 : Int32) <<< (p.1 &&& 31)))
theorem sOff_app : ∀ a b v, sOff (a ++ b) v = sOff b (sOff a v)
  | [], _, _ => rfl
  | p :: a, b, v => by rw [List.cons_append, sOff, sOff_app a b]; rfl
theorem sOff_F {P : Int32 × Int32 → Prop} [DecidablePred P] {s : Nat} (hs : s < 5) : ∀ m t v, sOff (fl P (cF s m t)) v = v ||| (if (fl P (cF s m t)).length = 0 then 0 else (1 : Int32) <<< (nI s &&& 31))
  | 0, t, v => by rw [cF, fl, sOff, List.length_nil, if_pos rfl, Int32.or_zero]
  | m + 1, t, v => by
    rw [cF]
    by_cases h9 : t = 9
    · rw [if_pos h9]; exact sOff_F hs m (t + 1) v
    · rw [if_neg h9, fl]
      by_cases hz : P (nI s, oI t)
      · have n9 : ¬ (nI s, oI t).1 = -9 := n9_neg (by omega)
        rw [if_pos hz, List.cons_append, List.nil_append, sOff, if_neg n9, sOff_F hs m (t + 1), List.length_cons, if_neg (show ¬ (fl P (cF s m (t + 1))).length + 1 = 0 by omega)]
        by_cases h0 : (fl P (cF s m (t + 1))).length = 0
        · rw [if_pos h0, Int32.or_zero]
        · rw [if_neg h0, Int32.or_assoc, Int32.or_self]
      · rw [if_neg hz, List.nil_append]; exact sOff_F hs m (t + 1) v
theorem e_off {M0 M : xMem} {wl : List (Int32 × Int32)} (hw : WSt M0 M wl) (hl : wl.length ≤ 91) : f_X5_scalesOff M = some (sOff wl 0) := by
  obtain ⟨-, -, -, w4, w5⟩ := hw
  have key : ∀ n pre l v, wl = pre ++ l → l.length < n → f_X5_scalesOff_l4 M n v (nI pre.length) = some (sOff l v) := by
    intro n
    induction n with
    | zero => intro pre l v h1 h2; omega
    | succ n ih =>
      intro pre l v h1 h2
      rw [f_X5_scalesOff_l4, w4]
      cases l with
      | nil =>
        rw [List.append_nil] at h1
        rw [h1, if_pos (i32_le_rfl _)]
        rfl
      | cons p l =>
        have hlen : wl.length = pre.length + (l.length + 1) := by rw [h1, List.length_append, List.length_cons]
        have hp : wl[pre.length]? = some p := by
          rw [h1, List.getElem?_append_right (Nat.le_refl _), Nat.sub_self]
          rfl
        have b91 := xb_nI (show pre.length < 91 by omega) (by decide)
        have hi := fun v => ih (pre ++ [p]) l v (by rw [h1, List.append_assoc]; rfl) (by rw [List.length_cons] at h2; omega)
        rw [List.length_append, List.length_singleton] at hi
        unfold f_X5_scalesOff_b34
        rw [if_neg (le_nI (by omega) (by omega) (by omega)), xchk_t _ b91, nI_clamp (by omega), (w5 _ _ hp).1, xchk_t _ b91, nI_1, sOff]
        by_cases h9 : p.1 = -9
        · rw [if_pos h9, if_pos h9]; exact hi v
        · rw [if_neg h9, if_neg h9]; exact hi _
  exact key FU [] wl 0 rfl (FU_gt (by omega))
theorem r_off {M : xMem} {A G Sc : Nat → Int32} {ns nt : Nat} (h : RT M A G Sc ns nt) : f_X8_can_l37 M FU 0 0 = some (sOff (fl (pSo A G Sc ns nt) (cA ns 0)) 0) := by
  have h1 := h.1
  have h5 := h.2.1
  have key : ∀ n s v, s ≤ ns → ns - s < n → f_X8_can_l37 M n v (nI s) = some (sOff (fl (pSo A G Sc ns nt) (cA (ns - s) s)) v) := by
    intro n
    induction n with
    | zero => intro s v h1 h2; omega
    | succ n ih =>
      intro s v g1 g2
      rw [f_X8_can_l37, h1]
      by_cases hs : s = ns
      · subst hs
        rw [if_pos (i32_le_rfl _), Nat.sub_self]
        rfl
      · have hlen := fl_len (pSo A G Sc ns nt) (cF s 19 0)
        have hlen2 := cF_len s 19 0
        unfold f_X8_can_b61
        rw [if_neg (le_nI (by omega) (by omega) (by omega)), r_waysOff h, xb1_e, nI_1, show ns - s = ns - (s + 1) + 1 by omega, cA, fl_app, sOff_app, sOff_F (by omega)]
        by_cases h0 : (fl (pSo A G Sc ns nt) (cF s 19 0)).length = 0
        · rw [if_pos h0, if_pos (by rw [h0]; decide)]
          exact ih (s + 1) _ (by omega) (by omega)
        · rw [if_neg h0, if_neg (nI_nle (by omega) (by omega))]
          exact ih (s + 1) _ (by omega) (by omega)
  exact key FU 0 0 (by omega) (FU_gt (by omega))
theorem fl_mem {P : Int32 × Int32 → Prop} [DecidablePred P] {q : Int32 × Int32} : ∀ l, q ∈ fl P l → q ∈ l
  | [], h => h
  | p :: l, h => by
    rw [fl, List.mem_append] at h
    rcases h with h | h
    · by_cases hz : P p
      · rw [if_pos hz, List.mem_singleton] at h
        rw [h]; exact List.mem_cons_self
      · rw [if_neg hz] at h; exact absurd h (by simp)
    · exact List.mem_cons_of_mem _ (fl_mem l h)
theorem cF_mem {s : Nat} {q : Int32 × Int32} : ∀ m t, q ∈ cF s m t → q.1 = nI s
  | 0, _, h => absurd h (by simp [cF])
  | m + 1, t, h => by
    rw [cF] at h
    by_cases h9 : t = 9
    · rw [if_pos h9] at h; exact cF_mem m (t + 1) h
    · rw [if_neg h9, List.mem_cons] at h
      rcases h with h | h
      · rw [h]
      · exact cF_mem m (t + 1) h
theorem cA_mem {q : Int32 × Int32} : ∀ m s, q ∈ cA m s → ∃ j, j < s + m ∧ q.1 = nI j
  | 0, _, h => absurd h (by simp [cA])
  | m + 1, s, h => by
    rw [cA, List.mem_append] at h
    rcases h with h | h
    · exact ⟨s, by omega, cF_mem 19 0 h⟩
    · obtain ⟨j, hj, e⟩ := cA_mem m (s + 1) h
      exact ⟨j, by omega, e⟩
theorem e_none {M0 M : xMem} {P : Int32 × Int32 → Prop} [DecidablePred P] {ns : Nat} (h5 : ns ≤ 5) (hw : WSt M0 M (fl P ((-9, 0) :: cA ns 0))) : f_X5_noneOff M = some (if P (-9, 0) then 1 else 0) := by
  obtain ⟨-, -, -, w4, w5⟩ := hw
  have hlen := fl_len P ((-9, 0) :: cA ns 0)
  have hlen2 := cA_len ns 0
  rw [List.length_cons] at hlen
  unfold f_X5_noneOff f_X5_noneOff_b22 f_X5_noneOff_b23
  rw [w4, show (0 : Int32).toNatClampNeg = 0 from rfl]
  by_cases hz : P (-9, 0)
  · have hp : (fl P ((-9, 0) :: cA ns 0))[0]? = some ((-9 : Int32), (0 : Int32)) := by rw [fl, if_pos hz]; rfl
    have hpos : 0 < (fl P ((-9, 0) :: cA ns 0)).length := by rw [fl, if_pos hz, List.length_append, List.length_singleton]; omega
    rw [if_pos hz, if_neg (nI_nle hpos (by omega)), (w5 _ _ hp).1, if_pos rfl]
  · rw [if_neg hz]
    cases hl : fl P ((-9, 0) :: cA ns 0) with
    | nil => rw [List.length_nil, if_pos (by decide)]
    | cons p l =>
      rw [hl] at w5 hlen
      rw [List.length_cons] at hlen
      have hp := (w5 0 p rfl).1
      have hm : p ∈ cA ns 0 := by
        have : p ∈ fl P ((-9, 0) :: cA ns 0) := by rw [hl]; exact List.mem_cons_self
        rw [fl, if_neg hz, List.nil_append] at this
        exact fl_mem _ this
      obtain ⟨j, hj, e⟩ := cA_mem ns 0 hm
      rw [List.length_cons, if_neg (nI_nle (by omega) (by omega)), hp, e, if_neg (n9_neg (by omega))]
theorem rX_RT {M : xMem} {ns ne nt : Nat} (hT : rT M ns ne) (hnt : nt ≤ 6) (hx2 : M 8 0 11 = nI nt) (hx3 : ∀ k, k < nt → (∃ w, 1 ≤ w ∧ w ≤ 99 ∧ M 7 2 k = nI w) ∧ M 8 13 (2 * k) = M 7 2 k ∧ M 8 13 (2 * k + 1) = M 7 3 k ∧ (M 7 3 k = -9 ∨ ∃ w, w < ns ∧ M 7 3 k = nI w)) : RT M (M 3 3) (M 7 2) (M 7 3) ns nt :=
  ⟨hT.2.2.2.2.1, hT.1, fun s hs => (hT.2.2.2.2.2.2.1 s hs).2.2.2.1, hx2, hnt, fun k hk => ⟨(hx3 k hk).2.1, (hx3 k hk).2.2.1⟩⟩
theorem WSt.sm {M0 M : xMem} {wl : List (Int32 × Int32)} (hw : WSt M0 M wl) : smR M0 M := by
  obtain ⟨w1, w2, w3, w4, w5⟩ := hw
  have o8 := w1 8 (by decide)
  exact ⟨w1 3 (by decide), by rw [w1 0 (by decide)], by rw [w1 1 (by decide)], by rw [w1 1 (by decide)], w1 4 (by decide), w3 3 (by decide), w2 2 (by decide) (by decide) (by decide), w2 3 (by decide) (by decide) (by decide), fun i _ _ => w1 _ (by omega), by rw [o8], by rw [o8], by rw [o8], by rw [o8], by rw [o8], by rw [o8], by rw [o8], by rw [o8], by rw [o8], by rw [o8], by rw [o8], by rw [o8], by rw [o8], by rw [o8], by rw [o8]⟩
theorem oob_2 {a : Int32} (h0 : ¬ a = 0) (h1 : ¬ a = 1) (h2 : ¬ a = 2) : oob a 0 2 := by
  rcases Classical.em (oob a 0 2) with q | q
  · exact q
  · obtain ⟨j, hj, rfl⟩ := in_c (n := 2) 2 (by decide) (by decide) q
    have : j = 0 ∨ j = 1 ∨ j = 2 := by omega
    rcases this with rfl | rfl | rfl
    · exact absurd rfl h0
    · exact absurd rfl h1
    · exact absurd rfl h2
theorem s_can : S_can Rel := by
  intro a1 M L h
  obtain ⟨ns, ne, hT, hF, hP, hI, ⟨nt, hnt, hx1, hx2, hx3⟩, hl, hL⟩ := id h
  obtain ⟨h5, h6, t3, t4, t5, t6, tS, tE⟩ := id hT
  by_cases hq : oob a1 0 2
  · refine ⟨-1, M, ?_, ?_, h⟩
    · unfold f_X7_can; rw [e_beyond, xb1_e, if_pos hq]; rfl
    · have n0 : ¬ a1 = 0 := fun q => by subst q; exact absurd hq (by decide)
      have n1 : ¬ a1 = 1 := fun q => by subst q; exact absurd hq (by decide)
      have n2 : ¬ a1 = 2 := fun q => by subst q; exact absurd hq (by decide)
      unfold f_X8_can; rw [if_neg n0, if_neg n1, if_neg n2]
  obtain ⟨M1, g1, g2⟩ := e_find t3 h5 hx1 hnt
  have hr := rX_RT hT hnt hx2 hx3
  have o8 : M1 8 = M 8 := g2.1 8 (by decide)
  have hr1 : RT M1 (M 3 3) (M 7 2) (M 7 3) ns nt := hr.of (by rw [o8]) (by rw [o8]) (by rw [o8])
  have hlen := fl_len (pSo (M 3 3) (M 7 2) (M 7 3) ns nt) ((-9, 0) :: cA ns 0)
  have hlen2 := cA_len ns 0
  rw [List.length_cons] at hlen
  have hR1 : Rel M1 L := h.same g2.sm
  unfold f_X7_can f_X8_can f_X7_can_b52
  rw [e_beyond, xb1_e, if_neg hq, if_pos rfl, g1, xb1_e]
  by_cases q0 : a1 = 0
  · refine ⟨_, M1, if_pos q0, ?_, hR1⟩
    rw [if_pos q0, r_allWays hr1, xb1_e, g2.2.2.2.1]
  · rw [if_neg q0]
    by_cases q1 : a1 = 1
    · rw [if_pos q1, e_off g2 (by omega), xb1_e]
      refine ⟨_, M1, rfl, ?_, hR1⟩
      rw [if_neg q0, if_pos q1, r_off hr1, fl, sOff_app]
      congr 1
      by_cases hz : pSo (M 3 3) (M 7 2) (M 7 3) ns nt (-9, 0)
      · rw [if_pos hz, sOff, if_pos rfl, sOff]
      · rw [if_neg hz, sOff]
    · rw [if_neg q1]
      by_cases q2 : a1 = 2
      · rw [e_none h5 g2, xb1_e]
        refine ⟨_, M1, rfl, ?_, hR1⟩
        rw [if_neg q0, if_neg q1, if_pos q2, hr1.so, xb1_e]
        unfold f_X8_can_b86
        by_cases hz : pSo (M 3 3) (M 7 2) (M 7 3) ns nt (-9, 0)
        · rw [if_pos hz, if_neg (by decide)]
        · rw [if_neg hz, if_pos rfl]
      · exact absurd (oob_2 q0 q1 q2) hq
