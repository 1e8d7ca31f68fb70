theorem xs_xs (M : xMem) (o r : Nat) (w w' : Nat → Int32) : xs (xs M o r w) o r w' = xs M o r w' := by
  funext a b
  unfold xs va_up
  by_cases h1 : a = o
  · subst h1
    by_cases h2 : b = r
    · subst h2; simp
    · simp [h2]
  · simp [h1]
theorem xs_self (M : xMem) (o r : Nat) : xs M o r (M o r) = M := by
  funext a b
  unfold xs va_up
  by_cases h1 : a = o
  · subst h1
    by_cases h2 : b = r
    · subst h2; simp
    · simp [h2]
  · simp [h1]
theorem cpy_0 (f g : Nat → Int32) (b a : Nat) : va_cpy f g b a 0 = g := by
  funext k
  unfold va_cpy
  rw [if_neg (by omega)]
theorem cpy_s (f g : Nat → Int32) (b a j : Nat) : upd (va_cpy f g b a j) (a + j) (f (b + j)) = va_cpy f g b a (j + 1) := by
  funext k
  unfold upd va_cpy
  by_cases h : k = a + j
  · subst h
    rw [if_pos rfl, if_pos (by omega), show a + j - a = j by omega]
  · rw [if_neg h]
    by_cases h2 : a ≤ k ∧ k < a + j
    · rw [if_pos h2, if_pos (by omega)]
    · rw [if_neg h2, if_neg (by omega)]
theorem e_copy {r0 n0 r2 n2 a b : Nat} {M : xMem} (hr : r0 ≠ r2) (h0 : a + 27 ≤ n0) (h2 : b + 27 ≤ n2) (h3 : n0 < 2 ^ 31) (h4 : n2 < 2 ^ 31) : f_X8_copy 8 r0 n0 (nI a) 8 r2 n2 (nI b) M = some (xs M 8 r0 (va_cpy (M 8 r2) (M 8 r0) b a 27)) := by
  have key : ∀ n j, j ≤ 27 → 27 - j < n → f_X8_copy_l3 8 r0 n0 (nI a) 8 r2 n2 (nI b) n (nI j) (xs M 8 r0 (va_cpy (M 8 r2) (M 8 r0) b a j)) = some (xs M 8 r0 (va_cpy (M 8 r2) (M 8 r0) b a 27)) := by
    intro n
    induction n with
    | zero => intro j h1 h2; omega
    | succ n ih =>
      intro j hj1 hj2
      rw [f_X8_copy_l3]
      by_cases hj : j = 27
      · subst hj
        rw [if_pos (by decide)]
      · have hlt : ¬ (27 : Int32) ≤ nI j := le_nI (a := j) (b := 27) (by omega) (by decide) (by omega)
        rw [if_neg hlt, nI_add, nI_add, xchk_t _ (xb_nI (by omega) h4), xchk_t _ (xb_nI (by omega) h3), xlet_e, nI_clamp (by omega), nI_1]
        have e1 : xs M 8 r0 (va_cpy (M 8 r2) (M 8 r0) b a j) 8 r2 = M 8 r2 := xs_ne _ _ _ _ (by intro q; exact hr (Prod.mk.inj q).2.symm)
        rw [e1]
        unfold xst
        rw [xs_same, xs_xs, nI_clamp (by omega), cpy_s]
        exact ih (j + 1) (by omega) (by omega)
  have := key FU 0 (by omega) (FU_gt (by omega))
  rw [cpy_0, xs_self] at this
  exact this
/-- asItIs: the reference's now becomes as its st -/
theorem e_asItIs (M : xMem) : f_X8_asItIs M = some (xs M 8 27 (va_cpy (M 8 7) (M 8 27) 0 0 27)) := by
  unfold f_X8_asItIs
  have := e_copy (r0 := 27) (n0 := 27) (r2 := 7) (n2 := 27) (a := 0) (b := 0) (M := M) (by decide) (by decide) (by decide) (by decide) (by decide)
  rw [show (0 : Int32) = nI 0 from rfl, this, xb1_e]
theorem rF_now {ns ne : Nat} {F : Nat → Nat → Int32} {S g : Nat → Int32} (h5 : ns ≤ 5) (h6 : ne ≤ 6) (h : rF ns ne F S 0) : rF ns ne F (va_cpy S g 0 0 27) 0 := by
  have e : ∀ k, k < 27 → va_cpy S g 0 0 27 k = S k := fun k hk => by
    unfold va_cpy
    rw [if_pos (by omega), Nat.zero_add, Nat.sub_zero]
  refine ⟨fun j hj => ?_, fun j hj => ?_⟩
  · rw [e _ (by omega), e _ (by omega)]; exact h.1 j hj
  · rw [e _ (by omega), e _ (by omega), e _ (by omega)]; exact h.2 j hj
/-- the reference's now, for a floor that its st is -/
def nowM (M : xMem) : xMem := xs M 8 27 (va_cpy (M 8 7) (M 8 27) 0 0 27)
theorem nowM_same (M : xMem) : smR M (nowM M) := by
  unfold smR nowM
  refine ⟨?_, ?_, ?_, ?_, ?_, ?_, ?_, ?_, fun i h1 h2 => ?_, ?_, ?_, ?_, ?_, ?_, ?_, ?_, ?_, ?_, ?_, ?_, ?_, ?_, ?_, ?_⟩ <;> first | (simp [xs, va_up]; done) | (unfold xs; exact va_up_ne _ _ (by omega))
theorem nowM_f {M : xMem} {ns ne : Nat} {F : Nat → Nat → Int32} (h5 : ns ≤ 5) (h6 : ne ≤ 6) (h : rF ns ne F (M 8 7) 0) : rF ns ne F (nowM M 8 27) 0 := by
  have e : nowM M 8 27 = va_cpy (M 8 7) (M 8 27) 0 0 27 := xs_same _ _ _ _
  rw [e]
  exact rF_now h5 h6 h
/-- what is told, by itself: kinds, sticks, rooms of the class -/
def pSeems (k w : Int32) : Int32 := if k = 2 then w + 3 else if k = 4 then w + 3 else if k = 5 then w / 2 else w
theorem e_seems {e : Nat} {w : Int32} {M : xMem} (he : e < 6) : f_X6_seems (nI e) w M = some (pSeems (M 3 7 e) w) := by
  unfold f_X6_seems
  rw [xchk_t _ (xb_nI he (by decide)), nI_clamp (by omega)]
  unfold pSeems f_X6_seems_b36 f_X6_seems_b44
  by_cases h2 : M 3 7 e = 2
  · rw [if_pos h2, if_pos h2]
  · rw [if_neg h2, if_neg h2]
    by_cases h3 : M 3 7 e = 3
    · rw [if_pos h3, if_neg (by rw [h3]; decide), if_neg (by rw [h3]; decide)]
    · rw [if_neg h3]
      by_cases h4 : M 3 7 e = 4
      · rw [if_pos h4, if_pos h4]
      · rw [if_neg h4, if_neg h4]
        by_cases h5 : M 3 7 e = 5
        · rw [if_pos h5, if_pos h5]
        · rw [if_neg h5, if_neg h5]
theorem e_seemsAs {e : Nat} {w : Int32} {M : xMem} (he : e < 6) : f_X8_seemsAs (nI e) w M = some (pSeems (M 8 6 e) w) := by
  unfold f_X8_seemsAs
  rw [xchk_t _ (xb_nI he (by decide)), xchk_t _ (xb_nI he (by decide)), xchk_t _ (xb_nI he (by decide)), nI_clamp (by omega)]
  unfold pSeems f_X8_seemsAs_b20 f_X8_seemsAs_b43
  by_cases h2 : M 8 6 e = 2
  · rw [if_pos h2, if_pos h2]
  · rw [if_neg h2, if_neg h2]
    by_cases h4 : M 8 6 e = 4
    · rw [if_pos h4, if_pos h4]
    · rw [if_neg h4, if_neg h4]
      by_cases h5 : M 8 6 e = 5
      · rw [if_pos h5, if_pos h5]
      · rw [if_neg h5, if_neg h5]
def pStiff (sk d : Int32) : Int32 := if sk = 0 then 0 else d / sk
theorem e_stiffness {i s : Nat} {M : xMem} (hs : s < 5) : f_X0_stiffness i (nI s) M = some (pStiff (M 3 4 s) (M (i + 9) 6 s)) := by
  unfold f_X0_stiffness
  rw [xchk_t _ (xb_nI hs (by decide)), xchk_t _ (xb_nI hs (by decide)), xchk_t _ (xb_nI hs (by decide)), nI_clamp (by omega)]
  unfold pStiff f_X0_stiffness_b32
  by_cases h : M 3 4 s = 0
  · rw [if_pos h, if_pos h]
  · rw [if_neg h, if_neg h, xchk_t _ (by simp [xnz, h])]
theorem e_stiffOf {ns ne s : Nat} {M : xMem} {F : Nat → Nat → Int32} (hF : rF ns ne F (M 8 27) 0) (hs : s < ns) (h5 : ns ≤ 5) : f_X8_stiffOf (nI s) M = some (pStiff (M 8 3 s) (F 6 s)) := by
  have e1 : M 8 27 (22 + s) = F 6 s := by have := (hF.2 s hs).2.2; rwa [Nat.zero_add] at this
  unfold f_X8_stiffOf
  rw [xchk_t _ (xb_nI (by omega) (by decide)), show (22 : Int32) + nI s = nI (22 + s) from nI_add 22 s, xchk_t _ (xb_nI (by omega) (by decide)), xchk_t _ (xb_nI (by omega) (by decide)), nI_clamp (by omega), nI_clamp (by omega), e1]
  unfold pStiff f_X8_stiffOf_b29
  by_cases h : M 8 3 s = 0
  · rw [if_pos h, if_pos h]
  · rw [if_neg h, if_neg h, xchk_t _ (by simp [xnz, h])]
def pLeak (k w : Int32) : Int32 := if k = 3 then (if w ≤ 1 then w else w - 1) else w
theorem e_lighter {e : Nat} {w : Int32} {M : xMem} (he : e < 6) : f_X8_lighter (nI e) w M = some (pLeak (M 8 6 e) w) := by
  unfold f_X8_lighter
  rw [xchk_t _ (xb_nI he (by decide)), nI_clamp (by omega)]
  unfold pLeak f_X8_lighter_b21 f_X8_lighter_b22
  by_cases h3 : M 8 6 e = 3
  · rw [if_pos h3, if_pos h3]
    by_cases hw : w ≤ 1
    · rw [if_pos hw, if_pos hw]
    · rw [if_neg hw, if_neg hw]
  · rw [if_neg h3, if_neg h3]
theorem e_leaked {e w : Nat} {M : xMem} (he : e < 6) (h1 : 1 ≤ w) (h2 : w ≤ 99) : f_X6_leaked (nI e) (nI w) M = some (pLeak (M 3 7 e) (nI w)) := by
  unfold f_X6_leaked
  rw [xchk_t _ (xb_nI he (by decide)), nI_clamp (by omega)]
  unfold pLeak f_X6_leaked_b21
  by_cases h3 : M 3 7 e = 3
  · rw [if_pos h3, if_pos h3]
    have key : ∀ w, w ≤ 99 → 1 ≤ w → (if (1 : Int32) < nI w - 1 then nI w - 1 else 1) = if nI w ≤ 1 then nI w else nI w - 1 := by decide +kernel
    rw [key w h2 h1]
  · rw [if_neg h3, if_neg h3]
