/-! a text that was read becomes the barn -/
theorem e_fill {o r n : Nat} {a : Int32} (hn : n < 1000) (M : xMem) : ∃ R, f_J7_fill_53178 o r n a M = some (xs M o r R) ∧ ∀ k, k < n → R k = a := by
  have key : ∀ f j R, j ≤ n → n - j < f → (∀ k, k < j → R k = a) → ∃ R', f_J7_fill_53178_l5 o r n a f (nI j) (xs M o r R) = some (xs M o r R') ∧ ∀ k, k < n → R' k = a := by
    intro f
    induction f with
    | zero => intro j R h1 h2; omega
    | succ f ih =>
      intro j R h1 h2 h3
      rw [f_J7_fill_53178_l5, show Int32.ofNat n = nI n from rfl]
      by_cases hj : j = n
      · subst hj
        rw [if_pos (i32_le_rfl _)]
        exact ⟨R, rfl, h3⟩
      · rw [if_neg (le_nI (by omega) (by omega) (by omega)), xchk_t _ (xb_nI (show j < n by omega) (by omega)), xlet_e, xs_ut (by omega), nI_1]
        refine ih (j + 1) _ (by omega) (by omega) (fun k hk => ?_)
        rw [upd_e]
        by_cases hkj : k = j
        · rw [if_pos hkj]
        · rw [if_neg hkj]; exact h3 k (by omega)
  have h := key FU 0 (M o r) (by omega) (FU_gt (by omega)) (fun k hk => absurd hk (by omega))
  rw [xs_self] at h
  exact h
theorem e_tbecome (M : xMem) : ∃ M', f_X6_become M = some M' ∧ (∀ o, o ≠ 3 → M' o = M o) ∧ M' 3 0 0 = M 2 0 0 ∧ M' 3 0 1 = M 2 0 1 ∧ (∀ k, k < 5 → M' 3 3 k = M 2 3 k ∧ M' 3 4 k = M 2 4 k ∧ M' 3 5 k = M 2 5 k) ∧ ∀ k, k < 6 → M' 3 6 k = M 2 6 k ∧ M' 3 7 k = M 2 7 k := by
  have z0 : (0 : Int32).toNatClampNeg = 0 := rfl
  have z5 : (5 : Int32).toNatClampNeg = 5 := rfl
  have z6 : (6 : Int32).toNatClampNeg = 6 := rfl
  have hn : (2 : Nat) ≠ 3 := by decide
  unfold f_X6_become
  rw [xlet_e, xlet_e, xchk_t _ (by decide), xlet_e, xchk_t _ (by decide), xlet_e, xchk_t _ (by decide), xlet_e, xchk_t _ (by decide), xlet_e, xchk_t _ (by decide), xlet_e]
  unfold xcp
  rw [z0, z5, z6]
  simp only [xs_o hn, xsf_o hn]
  refine ⟨_, rfl, fun o ho => ?_, ?_, ?_, fun k hk => ⟨?_, ?_, ?_⟩, fun k hk => ⟨?_, ?_⟩⟩
  · rw [xs_o ho, xs_o ho, xs_o ho, xs_o ho, xs_o ho, xsf_o ho, xsf_o ho]
  · rw [xs_ne _ _ _ _ (by decide), xs_ne _ _ _ _ (by decide), xs_ne _ _ _ _ (by decide), xs_ne _ _ _ _ (by decide), xs_ne _ _ _ _ (by decide), xsf_k (by decide), xsf_0]
  · rw [xs_ne _ _ _ _ (by decide), xs_ne _ _ _ _ (by decide), xs_ne _ _ _ _ (by decide), xs_ne _ _ _ _ (by decide), xs_ne _ _ _ _ (by decide), xsf_0]
  · rw [xs_ne _ _ _ _ (by decide), xs_ne _ _ _ _ (by decide), xs_ne _ _ _ _ (by decide), xs_ne _ _ _ _ (by decide), xs_same, cpy_in hk]
  · rw [xs_ne _ _ _ _ (by decide), xs_ne _ _ _ _ (by decide), xs_ne _ _ _ _ (by decide), xs_same, cpy_in hk]
  · rw [xs_ne _ _ _ _ (by decide), xs_ne _ _ _ _ (by decide), xs_same, cpy_in hk]
  · rw [xs_ne _ _ _ _ (by decide), xs_same, cpy_in hk]
  · rw [xs_same, cpy_in hk]
theorem e_begin (M : xMem) : ∃ M', f_X0_begin 0 M = some M' ∧ (∀ o, o ≠ 0 + 9 → M' o = M o) ∧ (∀ k, k < 6 → M' (0 + 9) 2 k = 0 ∧ M' (0 + 9) 3 k = M 3 6 k) ∧ ∀ k, k < 5 → M' (0 + 9) 4 k = M 3 3 k ∧ M' (0 + 9) 5 k = nI k ∧ M' (0 + 9) 6 k = 0 := by
  have z0 : (0 : Int32).toNatClampNeg = 0 := rfl
  have z5 : (5 : Int32).toNatClampNeg = 5 := rfl
  have z6 : (6 : Int32).toNatClampNeg = 6 := rfl
  have hn : (3 : Nat) ≠ 0 + 9 := by decide
  obtain ⟨R2, g1, g2⟩ := e_fill (o := 0 + 9) (r := 2) (n := 6) (a := 0) (by decide) M
  obtain ⟨R6, k1, k2⟩ := e_fill (o := 0 + 9) (r := 6) (n := 5) (a := 0) (by decide) (xs M (0 + 9) 2 R2)
  unfold f_X0_begin
  rw [g1, xb1_e, k1, xb1_e, xchk_t _ (by decide), xlet_e, xchk_t _ (by decide), xlet_e]
  unfold xcp
  rw [z0, z5, z6]
  simp only [xs_o hn]
  obtain ⟨M4, hM4⟩ : ∃ M4, M4 = xs (xs (xs (xs M (0 + 9) 2 R2) (0 + 9) 6 R6) (0 + 9) 3 (va_cpy (M 3 6) (xs (xs M (0 + 9) 2 R2) (0 + 9) 6 R6 (0 + 9) 3) 0 0 6)) (0 + 9) 4 (va_cpy (M 3 3) (xs (xs (xs M (0 + 9) 2 R2) (0 + 9) 6 R6) (0 + 9) 3 (va_cpy (M 3 6) (xs (xs M (0 + 9) 2 R2) (0 + 9) 6 R6 (0 + 9) 3) 0 0 6) (0 + 9) 4) 0 0 5) := ⟨_, rfl⟩
  rw [← hM4]
  have key : ∀ f j R, j ≤ 5 → 5 - j < f → (∀ k, k < j → R k = nI k) → ∃ R', f_X0_begin_l53 0 f (nI j) (xs M4 (0 + 9) 5 R) = some (xs M4 (0 + 9) 5 R') ∧ ∀ k, k < 5 → R' k = nI k := by
    intro f
    induction f with
    | zero => intro j R h1 h2; omega
    | succ f ih =>
      intro j R h1 h2 h3
      rw [f_X0_begin_l53]
      by_cases hj : j = 5
      · subst hj
        rw [if_pos (by decide)]
        exact ⟨R, rfl, h3⟩
      · rw [if_neg (show ¬ (5 : Int32) ≤ nI j from le_nI (a := j) (b := 5) (by omega) (by decide) (by omega)), xchk_t _ (xb_nI (show j < 5 by omega) (by decide)), xlet_e, xs_ut (by omega), nI_1]
        refine ih (j + 1) _ (by omega) (by omega) (fun k hk => ?_)
        rw [upd_e]
        by_cases hkj : k = j
        · rw [if_pos hkj, hkj]
        · rw [if_neg hkj]; exact h3 k (by omega)
  obtain ⟨R5, q1, q2⟩ := key FU 0 (M4 (0 + 9) 5) (by omega) (FU_gt (by omega)) (fun k hk => absurd hk (by omega))
  rw [xs_self] at q1
  refine ⟨_, q1, fun o ho => ?_, fun k hk => ⟨?_, ?_⟩, fun k hk => ⟨?_, ?_, ?_⟩⟩
  · rw [xs_o ho, hM4, xs_o ho, xs_o ho, xs_o ho, xs_o ho]
  · rw [xs_ne _ _ _ _ (by decide), hM4, xs_ne _ _ _ _ (by decide), xs_ne _ _ _ _ (by decide), xs_ne _ _ _ _ (by decide), xs_same, g2 k hk]
  · rw [xs_ne _ _ _ _ (by decide), hM4, xs_ne _ _ _ _ (by decide), xs_same, cpy_in hk]
  · rw [xs_ne _ _ _ _ (by decide), hM4, xs_same, cpy_in hk]
  · rw [xs_same, q2 k hk]
  · rw [xs_ne _ _ _ _ (by decide), hM4, xs_ne _ _ _ _ (by decide), xs_ne _ _ _ _ (by decide), xs_same, k2 k hk]
theorem nar_0 : vp_nar .boolean (0 : Int32) = 0 := by decide +kernel
/-- the class's barn, once the text was read -/
theorem e_barn {M M1 : xMem} {r : Int32} (h : f_X3_readItems M = some (r, M1)) (hr : (0 : Int32) ≤ r) : ∃ M', f_X7_barn M = some (r, M') ∧ M' 8 = M1 8 ∧ M' 3 0 0 = M1 2 0 0 ∧ M' 3 0 1 = M1 2 0 1 ∧ (∀ k, k < 5 → M' 3 3 k = M1 2 3 k ∧ M' 3 4 k = M1 2 4 k ∧ M' 3 5 k = M1 2 5 k) ∧ (∀ k, k < 6 → M' 3 7 k = M1 2 7 k) ∧ (∀ k, k < 6 → M' (0 + 9) 2 k = 0 ∧ M' (0 + 9) 3 k = M1 2 6 k) ∧ (∀ k, k < 5 → M' (0 + 9) 4 k = M1 2 3 k ∧ M' (0 + 9) 5 k = nI k ∧ M' (0 + 9) 6 k = 0) ∧ M' 4 0 1 = M1 4 0 1 ∧ M' 4 0 2 = 0 ∧ M' 7 0 3 = 0 ∧ (∀ i, i < 2 → M' 0 7 i = 0) ∧ M' 1 0 1 = 0 := by
  obtain ⟨M2, a1, a2, a3, a4, a5, a6⟩ := e_tbecome M1
  obtain ⟨M3, b1, b2, b3, b4⟩ := e_begin M2
  obtain ⟨M4, hM4⟩ : ∃ M4, M4 = xsf (xsf M3 4 2 0) 7 3 0 := ⟨_, rfl⟩
  obtain ⟨M5, hM5⟩ : ∃ M5, M5 = xsf (xst (xst M4 0 7 (nI 0) 0) 0 7 (nI 1) 0) 1 1 0 := ⟨_, rfl⟩
  have o5 : ∀ o, o ≠ 0 → o ≠ 1 → M5 o = M4 o := fun o h0 h1 => by rw [hM5, xsf_o h1, xst_o h0, xst_o h0]
  have o4 : ∀ o, o ≠ 4 → o ≠ 7 → M4 o = M3 o := fun o h0 h1 => by rw [hM4, xsf_o h1, xsf_o h0]
  refine ⟨M5, ?_, ?_, ?_, ?_, fun k hk => ?_, fun k hk => ?_, fun k hk => ?_, fun k hk => ?_, ?_, ?_, ?_, fun i hi => ?_, ?_⟩
  · unfold f_X7_barn
    rw [h, xb2_e, if_pos hr, a1, xb1_e, b1, xb1_e, xlet_e, xlet_e, ← hM4, show FU = 99997 + 1 + 1 + 1 from rfl, f_X7_barn_l53, if_neg (by decide), xchk_t _ (by decide), xlet_e, f_X7_barn_l53, if_neg (by decide), xchk_t _ (by decide), xlet_e, f_X7_barn_l53, if_pos (by decide), xlet_e, nar_0, hM5]
    rfl
  · rw [o5 8 (by decide) (by decide), o4 8 (by decide) (by decide), b2 8 (by decide), a2 8 (by decide)]
  · rw [o5 3 (by decide) (by decide), o4 3 (by decide) (by decide), b2 3 (by decide), a3]
  · rw [o5 3 (by decide) (by decide), o4 3 (by decide) (by decide), b2 3 (by decide), a4]
  · rw [o5 3 (by decide) (by decide), o4 3 (by decide) (by decide), b2 3 (by decide)]
    exact a5 k hk
  · rw [o5 3 (by decide) (by decide), o4 3 (by decide) (by decide), b2 3 (by decide)]
    exact (a6 k hk).2
  · rw [o5 _ (by decide) (by decide), o4 _ (by decide) (by decide), (b3 k hk).1, (b3 k hk).2, (a6 k hk).1]
    exact ⟨rfl, rfl⟩
  · rw [o5 _ (by decide) (by decide), o4 _ (by decide) (by decide), (b4 k hk).1, (b4 k hk).2.1, (b4 k hk).2.2, (a5 k hk).1]
    exact ⟨rfl, rfl, rfl⟩
  · rw [o5 4 (by decide) (by decide), hM4, xsf_o (by decide), xsf_k (by decide), b2 4 (by decide), a2 4 (by decide)]
  · rw [o5 4 (by decide) (by decide), hM4, xsf_o (by decide), xsf_0]
  · rw [o5 7 (by decide) (by decide), hM4, xsf_0]
  · rw [hM5, xsf_o (by decide), xst_e (by decide), xst_e (by decide)]
    by_cases h1 : i = 1
    · rw [if_pos h1]
    · rw [if_neg h1, if_pos (by omega)]
  · rw [hM5, xsf_0]
