theorem fb_holes : ∀ (m n : Nat) (f : Nat → Nat), (∀ i, i < n → f i < m) → (∀ i j, i < j → j < n → f i ≠ f j) → n ≤ m := by
  intro m
  induction m with
  | zero =>
    intro n f h1 _
    rcases Nat.eq_zero_or_pos n with h | h
    · omega
    · exact absurd (h1 0 h) (Nat.not_lt_zero _)
  | succ m ih =>
    intro n f h1 h2
    by_cases hx : ∃ i, i < n ∧ f i = m
    · obtain ⟨a, ha, hfa⟩ := hx
      have hg := ih (n - 1) (fun i => if i < a then f i else f (i + 1)) (by
        intro i hi
        by_cases q : i < a
        · simp only [if_pos q]
          have b1 := h1 i (by omega)
          have b2 := h2 i a q ha
          omega
        · simp only [if_neg q]
          have b1 := h1 (i + 1) (by omega)
          have b2 := h2 a (i + 1) (by omega) (by omega)
          omega) (by
        intro i j hij hj
        by_cases q : i < a
        · by_cases r : j < a
          · simp only [if_pos q, if_pos r]
            exact h2 i j hij (by omega)
          · simp only [if_pos q, if_neg r]
            exact h2 i (j + 1) (by omega) (by omega)
        · have r : ¬ j < a := by omega
          simp only [if_neg q, if_neg r]
          exact h2 (i + 1) (j + 1) (by omega) (by omega))
      omega
    · have hg := ih n f (fun i hi => by
        have b1 := h1 i hi
        have b2 : f i ≠ m := fun e => hx ⟨i, hi, e⟩
        omega) h2
      omega
/-- two of them in one place -/
theorem fb_twice {m n : Nat} {f : Nat → Nat} (h : ∀ i, i < n → f i < m) (hm : m < n) : ∃ i j, i < j ∧ j < n ∧ f i = f j := by
  refine Classical.byContradiction fun hx => ?_
  have := fb_holes m n f h (fun i j hij hj e => hx ⟨i, j, hij, hj, e⟩)
  omega
/-- as many as places, none twice: each place is taken -/
theorem fb_onto {n : Nat} {f : Nat → Nat} (h : ∀ i, i < n → f i < n) (h2 : ∀ i j, i < j → j < n → f i ≠ f j) {y : Nat} (hy : y < n) : ∃ i, i < n ∧ f i = y := by
  refine Classical.byContradiction fun hx => ?_
  have hne : ∀ i, i < n → f i ≠ y := fun i hi e => hx ⟨i, hi, e⟩
  have := fb_holes (n - 1) n (fun i => if f i < y then f i else f i - 1) (by
    intro i hi
    have b1 := h i hi
    have b2 := hne i hi
    by_cases q : f i < y
    · simp only [if_pos q]; omega
    · simp only [if_neg q]; omega) (by
    intro i j hij hj
    have b1 := hne i (by omega)
    have b2 := hne j hj
    have b3 := h2 i j hij hj
    by_cases q : f i < y
    · by_cases r : f j < y
      · simp only [if_pos q, if_pos r]; exact b3
      · simp only [if_pos q, if_neg r]; omega
    · by_cases r : f j < y
      · simp only [if_neg q, if_pos r]; omega
      · simp only [if_neg q, if_neg r]; omega)
  omega
/-! ===== how many places have a property ===== -/
def pFull (Rm W : Nat → Int32) (ne s : Nat) : Int32 := if nI (popN (pEn W (nI (s + 1)) ne)) < Rm s then 0 else 1
theorem e_isFull {i ne s : Nat} {M : xMem} (hne : M 3 0 1 = nI ne) (h6 : ne ≤ 6) (hs : s < 5) : f_X0_isFull i (nI s) M = some (pFull (M 3 5) (M (i + 9) 2) ne s) := by
  have h2 := pEn_lt (M (i + 9) 2) (nI (s + 1)) ne
  have h3 : 2 ^ ne ≤ 64 := Nat.pow_le_pow_right (n := 2) (by decide) h6
  unfold f_X0_isFull
  rw [nI_1, e_eggsAt hne h6, xb1_e, pE_n _ _ _ h6, e_bitCount (by omega), xb1_e, xchk_t _ (xb_nI hs (by decide)), nI_clamp (by omega)]
  unfold pFull f_X0_isFull_b27
  by_cases h : nI (popN (pEn (M (i + 9) 2) (nI (s + 1)) ne)) < M 3 5 s
  · rw [if_pos h, if_pos h, xchk_t _ xbo_0]
  · rw [if_neg h, if_neg h, xchk_t _ xbo_1]
theorem e_isFullM {ns ne s : Nat} {M : xMem} {F : Nat → Nat → Int32} (hF : rF ns ne F (M 8 27) 0) (hne : M 8 0 4 = nI ne) (h6 : ne ≤ 6) (hs : s < 5) : f_X8_isFull (nI s) M = some (pFull (M 8 4) (F 2) ne s) := by
  have h2 := pEn_lt (F 2) (nI (s + 1)) ne
  have h3 : 2 ^ ne ≤ 64 := Nat.pow_le_pow_right (n := 2) (by decide) h6
  unfold f_X8_isFull
  rw [show (1 : Int32) + nI s = nI (1 + s) from nI_add 1 s, Nat.add_comm 1 s, e_inPlace hF hne h6, xb1_e, pE_n _ _ _ h6, e_bits (by omega), xb1_e, xchk_t _ (xb_nI hs (by decide)), nI_clamp (by omega)]
  unfold pFull f_X8_isFull_b24
  by_cases h : nI (popN (pEn (F 2) (nI (s + 1)) ne)) < M 8 4 s
  · rw [if_pos h, if_pos h, xchk_t _ xbo_0]
  · rw [if_neg h, if_neg h, xchk_t _ xbo_1]
/-- the first scale of the row, from place k on, m places, whose mark is no more than w -/
def pB (A R : Nat → Int32) (w : Int32) : Nat → Nat → Int32
  | 0, _ => -9
  | m + 1, k => if w < A (R k).toNatClampNeg then pB A R w m (k + 1) else R k
theorem e_belongs {i ns ne e : Nat} {M : xMem} (hns : M 3 0 0 = nI ns) (h5 : ns ≤ 5) (he : e < 6) (hv : vF ns ne (M (i + 9))) : f_X0_belongs i (nI e) M = some (pB (M (i + 9) 4) (M (i + 9) 5) (M (i + 9) 3 e) ns 0) := by
  have key : ∀ n k, k ≤ ns → ns - k < n → f_X0_belongs_l2 i (nI e) M n (nI k) = some (pB (M (i + 9) 4) (M (i + 9) 5) (M (i + 9) 3 e) (ns - k) k) := by
    intro n
    induction n with
    | zero => intro k h1 h2; omega
    | succ n ih =>
      intro k h1 h2
      rw [f_X0_belongs_l2, hns]
      by_cases hk : k = ns
      · subst hk
        rw [if_pos (i32_le_rfl _), Nat.sub_self]
        rfl
      · have hlt : k < ns := by omega
        obtain ⟨w, hw, hR⟩ := (hv.2.1 k hlt).2.1
        have hi := ih (k + 1) (by omega) (by omega)
        rw [if_neg (le_nI (by omega) (by omega) hlt), xchk_t _ (xb_nI (by omega) (by decide)), nI_clamp (by omega), xchk_t _ (by rw [hR]; exact xb_nI (by omega) (by decide)), xchk_t _ (xb_nI he (by decide)), nI_clamp (by omega), nI_1, hi, show ns - k = ns - (k + 1) + 1 by omega, pB]
        by_cases hq : M (i + 9) 3 e < M (i + 9) 4 (M (i + 9) 5 k).toNatClampNeg
        · rw [if_pos hq, if_pos hq]
        · rw [if_neg hq, if_neg hq]
  exact key FU 0 (by omega) (FU_gt (by omega))
theorem e_belongsAs {ns ne e : Nat} {M : xMem} {F : Nat → Nat → Int32} (hF : rF ns ne F (M 8 27) 0) (hv : vF ns ne F) (hns : M 8 0 0 = nI ns) (h5 : ns ≤ 5) (h6 : ne ≤ 6) (he : e < ne) : f_X8_belongsAs (nI e) M = some (pB (F 4) (F 5) (F 3 e) ns 0) := by
  have key : ∀ n k, k ≤ ns → ns - k < n → f_X8_belongsAs_l2 (nI e) M n (nI k) = some (pB (F 4) (F 5) (F 3 e) (ns - k) k) := by
    intro n
    induction n with
    | zero => intro k h1 h2; omega
    | succ n ih =>
      intro k h1 h2
      rw [f_X8_belongsAs_l2, hns]
      by_cases hk : k = ns
      · subst hk
        rw [if_pos (i32_le_rfl _), Nat.sub_self]
        rfl
      · have hlt : k < ns := by omega
        obtain ⟨w, hw, hR⟩ := (hv.2.1 k hlt).2.1
        have hi := ih (k + 1) (by omega) (by omega)
        have e1 : M 8 27 (17 + k) = F 5 k := by have := (hF.2 k hlt).2.1; rwa [Nat.zero_add] at this
        have e2 : M 8 27 (12 + w) = F 4 w := by have := (hF.2 w hw).1; rwa [Nat.zero_add] at this
        have e3 : M 8 27 (6 + e) = F 3 e := by have := (hF.1 e he).2; rwa [Nat.zero_add] at this
        rw [if_neg (le_nI (by omega) (by omega) hlt), show (17 : Int32) + nI k = nI (17 + k) from nI_add 17 k, xchk_t _ (xb_nI (by omega) (by decide)), nI_clamp (by omega), e1, hR, show (12 : Int32) + nI w = nI (12 + w) from nI_add 12 w, xchk_t _ (xb_nI (by omega) (by decide)), show (6 : Int32) + nI e = nI (6 + e) from nI_add 6 e, xchk_t _ (xb_nI (by omega) (by decide)), nI_clamp (by omega), nI_clamp (by omega), e2, e3, nI_1, hi, show ns - k = ns - (k + 1) + 1 by omega, pB, hR, nI_clamp (by omega)]
        by_cases hq : F 3 e < F 4 w
        · rw [if_pos hq, if_pos hq]
        · rw [if_neg hq, if_neg hq]
  exact key FU 0 (by omega) (FU_gt (by omega))
theorem pB_in {A R : Nat → Int32} {w : Int32} {ns : Nat} (hR : ∀ k, k < ns → ∃ j, j < ns ∧ R k = nI j) : ∀ m k, k + m ≤ ns → pB A R w m k = -9 ∨ ∃ j, j < ns ∧ pB A R w m k = nI j
  | 0, _, _ => Or.inl rfl
  | m + 1, k, h => by
    rw [pB]
    by_cases hq : w < A (R k).toNatClampNeg
    · rw [if_pos hq]; exact pB_in hR m (k + 1) (by omega)
    · rw [if_neg hq]; exact Or.inr (hR k (by omega))
def pBe (F : Nat → Nat → Int32) (ns e : Nat) : Int32 := pB (F 4) (F 5) (F 3 e) ns 0
theorem pBe_in {F : Nat → Nat → Int32} {ns ne : Nat} (hv : vF ns ne F) (e : Nat) : pBe F ns e = -9 ∨ ∃ j, j < ns ∧ pBe F ns e = nI j := pB_in (fun k hk => (hv.2.1 k hk).2.1) ns 0 (by omega)
/-- where an egg would be right -/
def pTo (F : Nat → Nat → Int32) (ns e : Nat) : Int32 := if pBe F ns e = -9 then 8 else pBe F ns e + 1
def pRw (F : Nat → Nat → Int32) (ns : Nat) : Nat → Int32 := fun e => if F 2 e = pTo F ns e then 1 else 0
theorem e_isRight {i ns ne e : Nat} {M : xMem} (hns : M 3 0 0 = nI ns) (h5 : ns ≤ 5) (he : e < 6) (hv : vF ns ne (M (i + 9))) : f_X0_isRight i (nI e) M = some (pRw (M (i + 9)) ns e) := by
  unfold f_X0_isRight
  rw [e_belongs hns h5 he hv, xb1_e, xchk_t _ (xb_nI he (by decide))]
  show (if pBe (M (i + 9)) ns e = -9 then _ else _) = _
  unfold pRw pTo f_X0_isRight_b26 f_X0_isRight_b34
  rw [nI_clamp (by omega)]
  by_cases h : pBe (M (i + 9)) ns e = -9
  · rw [if_pos h, if_pos h]
    by_cases h2 : M (i + 9) 2 e = 8
    · rw [if_pos h2, if_pos h2, xchk_t _ xbo_1]
    · rw [if_neg h2, if_neg h2, xchk_t _ xbo_0]
  · rw [if_neg h, if_neg h]
    by_cases h2 : M (i + 9) 2 e = pBe (M (i + 9)) ns e + 1
    · rw [show pB (M (i + 9) 4) (M (i + 9) 5) (M (i + 9) 3 e) ns 0 = pBe (M (i + 9)) ns e from rfl, if_pos h2, if_pos h2, xchk_t _ xbo_1]
    · rw [show pB (M (i + 9) 4) (M (i + 9) 5) (M (i + 9) 3 e) ns 0 = pBe (M (i + 9)) ns e from rfl, if_neg h2, if_neg h2, xchk_t _ xbo_0]
theorem e_rightEggs {i ns ne : Nat} {M : xMem} (hns : M 3 0 0 = nI ns) (h5 : ns ≤ 5) (hne : M 3 0 1 = nI ne) (h6 : ne ≤ 6) (hv : vF ns ne (M (i + 9))) : f_X0_rightEggs i M = some (pE (pRw (M (i + 9)) ns) 1 ne) := by
  have key : ∀ n j, j ≤ ne → ne - j < n → f_X0_rightEggs_l4 i M n (pE (pRw (M (i + 9)) ns) 1 j) (nI j) = some (pE (pRw (M (i + 9)) ns) 1 ne) := by
    intro n
    induction n with
    | zero => intro j h1 h2; omega
    | succ n ih =>
      intro j h1 h2
      rw [f_X0_rightEggs_l4, hne]
      by_cases hj : j = ne
      · subst hj
        rw [if_pos (i32_le_rfl _)]
      · have hlt : j < ne := by omega
        have hi := ih (j + 1) (by omega) (by omega)
        rw [if_neg (le_nI (by omega) (by omega) hlt), e_isRight hns h5 (by omega) hv, xb1_e]
        unfold f_X0_rightEggs_b29
        rw [nI_1]
        rw [pE] at hi
        by_cases hw : pRw (M (i + 9)) ns j = 1
        · rw [if_neg (by rw [hw]; decide)]
          rw [if_pos hw] at hi
          exact hi
        · rw [if_neg hw] at hi
          have h0 : pRw (M (i + 9)) ns j = 0 := by
            unfold pRw at hw ⊢
            by_cases hz : M (i + 9) 2 j = pTo (M (i + 9)) ns j
            · rw [if_pos hz] at hw; exact absurd rfl hw
            · rw [if_neg hz]
          rw [if_pos h0]
          exact hi
  exact key FU 0 (by omega) (FU_gt (by omega))
theorem e_right {ns ne : Nat} {M : xMem} {F : Nat → Nat → Int32} (hF : rF ns ne F (M 8 27) 0) (hv : vF ns ne F) (hns : M 8 0 0 = nI ns) (h5 : ns ≤ 5) (hne : M 8 0 4 = nI ne) (h6 : ne ≤ 6) : f_X8_right M = some (pE (pRw F ns) 1 ne) := by
  have key : ∀ n j, j ≤ ne → ne - j < n → f_X8_right_l4 M n (pE (pRw F ns) 1 j) (nI j) = some (pE (pRw F ns) 1 ne) := by
    intro n
    induction n with
    | zero => intro j h1 h2; omega
    | succ n ih =>
      intro j h1 h2
      rw [f_X8_right_l4, hne]
      by_cases hj : j = ne
      · subst hj
        rw [if_pos (i32_le_rfl _)]
      · have hlt : j < ne := by omega
        have hi := ih (j + 1) (by omega) (by omega)
        have e1 : M 8 27 j = F 2 j := by have := (hF.1 j hlt).1; rwa [Nat.zero_add] at this
        rw [if_neg (le_nI (by omega) (by omega) hlt), e_belongsAs hF hv hns h5 h6 hlt, xb1_e, i32_z, xchk_t _ (xb_nI (by omega) (by decide))]
        have hto : (if (0 : Int32) ≤ pB (F 4) (F 5) (F 3 j) ns 0 then (1 : Int32) + pB (F 4) (F 5) (F 3 j) ns 0 else 8) = pTo F ns j := by
          unfold pTo
          rcases pBe_in hv j with h | ⟨w, hw, h⟩
          · have h' : pB (F 4) (F 5) (F 3 j) ns 0 = -9 := h
            rw [h', if_neg (by decide), h, if_pos rfl]
          · have h' : pB (F 4) (F 5) (F 3 j) ns 0 = nI w := h
            have hn9 : ¬ nI w = -9 := by
              intro q
              have : (nI w).toInt = (-9 : Int32).toInt := by rw [q]
              rw [nI_toInt (by omega), show (-9 : Int32).toInt = -9 by decide] at this
              omega
            rw [h', if_pos (nI_pos' (by omega)), h, if_neg hn9, show (1 : Int32) + nI w = nI (1 + w) from nI_add 1 w, nI_1, Nat.add_comm]
        have hstep : (if (0 : Int32) ≤ pB (F 4) (F 5) (F 3 j) ns 0 then f_X8_right_b39 M (pE (pRw F ns) 1 j) (nI j) (f_X8_right_l4 M n) (1 + pB (F 4) (F 5) (F 3 j) ns 0) else f_X8_right_b39 M (pE (pRw F ns) 1 j) (nI j) (f_X8_right_l4 M n) 8) = f_X8_right_b39 M (pE (pRw F ns) 1 j) (nI j) (f_X8_right_l4 M n) (pTo F ns j) := by
          rw [← hto]
          by_cases hz : (0 : Int32) ≤ pB (F 4) (F 5) (F 3 j) ns 0
          · rw [if_pos hz, if_pos hz]
          · rw [if_neg hz, if_neg hz]
        rw [hstep]
        unfold f_X8_right_b39 f_X8_right_b49
        rw [i32_z, nI_clamp (by omega), e1, nI_1]
        rw [pE] at hi
        by_cases hw : F 2 j = pTo F ns j
        · rw [if_pos hw]
          rw [if_pos (by unfold pRw; rw [if_pos hw])] at hi
          exact hi
        · rw [if_neg hw, Int32.or_zero]
          rw [if_neg (by unfold pRw; rw [if_neg hw]; decide)] at hi
          exact hi
  exact key FU 0 (by omega) (FU_gt (by omega))
def pS (D : Nat → Int32) : Nat → Int32
  | 0 => 0
  | n + 1 => pS D n + D n
theorem e_allFallen {i ns : Nat} {M : xMem} (hns : M 3 0 0 = nI ns) (h5 : ns ≤ 5) : f_X0_allFallen i M = some (pS (M (i + 9) 6) ns) := by
  have key : ∀ n j, j ≤ ns → ns - j < n → f_X0_allFallen_l4 i M n (pS (M (i + 9) 6) j) (nI j) = some (pS (M (i + 9) 6) ns) := by
    intro n
    induction n with
    | zero => intro j h1 h2; omega
    | succ n ih =>
      intro j h1 h2
      rw [f_X0_allFallen_l4, hns]
      by_cases hj : j = ns
      · subst hj
        rw [if_pos (i32_le_rfl _)]
      · have hlt : j < ns := by omega
        rw [if_neg (le_nI (by omega) (by omega) hlt), xchk_t _ (xb_nI (by omega) (by decide)), nI_clamp (by omega), nI_1]
        exact ih (j + 1) (by omega) (by omega)
  exact key FU 0 (by omega) (FU_gt (by omega))
theorem e_fellAll {ns ne : Nat} {M : xMem} {F : Nat → Nat → Int32} (hF : rF ns ne F (M 8 27) 0) (hns : M 8 0 0 = nI ns) (h5 : ns ≤ 5) : f_X8_fellAll M = some (pS (F 6) ns) := by
  have key : ∀ n j, j ≤ ns → ns - j < n → f_X8_fellAll_l4 M n (pS (F 6) j) (nI j) = some (pS (F 6) ns) := by
    intro n
    induction n with
    | zero => intro j h1 h2; omega
    | succ n ih =>
      intro j h1 h2
      rw [f_X8_fellAll_l4, hns]
      by_cases hj : j = ns
      · subst hj
        rw [if_pos (i32_le_rfl _)]
      · have hlt : j < ns := by omega
        have e1 : M 8 27 (22 + j) = F 6 j := by have := (hF.2 j hlt).2.2; rwa [Nat.zero_add] at this
        rw [if_neg (le_nI (by omega) (by omega) hlt), show (22 : Int32) + nI j = nI (22 + j) from nI_add 22 j, xchk_t _ (xb_nI (by omega) (by decide)), nI_clamp (by omega), e1, nI_1]
        exact ih (j + 1) (by omega) (by omega)
  exact key FU 0 (by omega) (FU_gt (by omega))
