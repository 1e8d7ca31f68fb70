/-! the reference's barn, once the text was read -/
def st39 (N1 : xMem) (k : Nat) (N' : xMem) : Prop := (∀ o, o ≠ 8 → N' o = N1 o) ∧ (∀ r, r ≠ 2 → r ≠ 3 → r ≠ 4 → r ≠ 7 → N' 8 r = N1 8 r) ∧ (∀ j, j < k → N' 8 2 j = N1 8 24 (3 * j) ∧ N' 8 3 j = N1 8 24 (3 * j + 1) ∧ N' 8 4 j = N1 8 24 (3 * j + 2) ∧ N' 8 7 (12 + j) = N1 8 24 (3 * j) ∧ N' 8 7 (17 + j) = nI j) ∧ ∀ i, i < 12 ∨ 22 ≤ i → i < 27 → N' 8 7 i = 0
theorem r_l39 {N1 : xMem} : ∀ f k N', k ≤ 5 → 5 - k < f → st39 N1 k N' → ∃ N'', f_X8_settles_l39 f (nI k) N' = f_X8_settles_l123 FU 0 N'' ∧ st39 N1 5 N'' := by
  intro f
  induction f with
  | zero => intro k N' h1 h2; omega
  | succ f ih =>
    intro k N' h1 h2 hS
    rw [f_X8_settles_l39]
    by_cases hk : k = 5
    · subst hk
      rw [if_pos (by decide)]
      exact ⟨N', rfl, hS⟩
    · have hk5 : k < 5 := by omega
      obtain ⟨s1, s2, s3, s4⟩ := id hS
      have e24 : N' 8 24 = N1 8 24 := s2 24 (by decide) (by decide) (by decide) (by decide)
      have b5 := xb_nI hk5 (by decide)
      have a12 : (12 : Int32) + nI k = nI (12 + k) := nI_add 12 k
      have a17 : (17 : Int32) + nI k = nI (17 + k) := nI_add 17 k
      rw [if_neg (show ¬ (5 : Int32) ≤ nI k from le_nI (a := k) (b := 5) (by omega) (by decide) hk5), m3_e, a1_e, a2_e, a12, a17, nI_clamp (show 3 * k < 2 ^ 31 by omega), nI_clamp (show 3 * k + 1 < 2 ^ 31 by omega), nI_clamp (show 3 * k + 2 < 2 ^ 31 by omega), nI_clamp (show k < 2 ^ 31 by omega), xchk_t _ (xb_nI (show 3 * k < 15 by omega) (by decide)), xchk_t _ b5, xlet_e, xchk_t _ (xb_nI (show 3 * k + 1 < 15 by omega) (by decide)), xchk_t _ b5, xlet_e, xchk_t _ (xb_nI (show 3 * k + 2 < 15 by omega) (by decide)), xchk_t _ b5, xlet_e, xchk_t _ b5, xchk_t _ (xb_nI (show 12 + k < 27 by omega) (by decide)), xlet_e, xchk_t _ (xb_nI (show 17 + k < 27 by omega) (by decide)), xlet_e, nI_1]
      refine ih (k + 1) _ (by omega) (by omega) ⟨fun o ho => ?_, fun r q1 q2 q3 q4 => ?_, fun j hj => ⟨?_, ?_, ?_, ?_, ?_⟩, fun i hi hi2 => ?_⟩
      · rw [xst_o ho, xst_o ho, xst_o ho, xst_o ho, xst_o ho]; exact s1 o ho
      · rw [xst_r q4, xst_r q4, xst_r q3, xst_r q2, xst_r q1]; exact s2 r q1 q2 q3 q4
      · rw [xst_r (by decide), xst_r (by decide), xst_r (by decide), xst_r (by decide), xst_e (by omega), e24]
        by_cases hjk : j = k
        · rw [if_pos hjk, hjk]
        · rw [if_neg hjk]; exact (s3 j (by omega)).1
      · rw [xst_r (by decide), xst_r (by decide), xst_r (by decide), xst_e (by omega), xst_r (by decide), xst_r (by decide), e24]
        by_cases hjk : j = k
        · rw [if_pos hjk, hjk]
        · rw [if_neg hjk]; exact (s3 j (by omega)).2.1
      · rw [xst_r (by decide), xst_r (by decide), xst_e (by omega), xst_r (by decide), xst_r (by decide), xst_r (by decide), xst_r (by decide), e24]
        by_cases hjk : j = k
        · rw [if_pos hjk, hjk]
        · rw [if_neg hjk]; exact (s3 j (by omega)).2.2.1
      · rw [xst_e (by omega), if_neg (by omega), xst_e (by omega)]
        by_cases hjk : j = k
        · rw [if_pos (by omega), xst_r (by decide), xst_r (by decide), xst_e (by omega), if_pos rfl, e24, hjk]
        · rw [if_neg (by omega), xst_r (by decide), xst_r (by decide), xst_r (by decide)]; exact (s3 j (by omega)).2.2.2.1
      · rw [xst_e (by omega)]
        by_cases hjk : j = k
        · rw [if_pos (by omega), hjk]
        · rw [if_neg (by omega), xst_e (by omega), if_neg (by omega), xst_r (by decide), xst_r (by decide), xst_r (by decide)]; exact (s3 j (by omega)).2.2.2.2
      · rw [xst_e (by omega), if_neg (by omega), xst_e (by omega), if_neg (by omega), xst_r (by decide), xst_r (by decide), xst_r (by decide)]; exact s4 i hi hi2
def st123 (N2 : xMem) (k : Nat) (N' : xMem) : Prop := (∀ o, o ≠ 8 → N' o = N2 o) ∧ (∀ r, r ≠ 6 → r ≠ 7 → N' 8 r = N2 8 r) ∧ (∀ j, j < k → N' 8 6 j = N2 8 26 (2 * j + 1) ∧ N' 8 7 (6 + j) = N2 8 26 (2 * j)) ∧ ∀ i, i < 6 ∨ 12 ≤ i → N' 8 7 i = N2 8 7 i
/-- the last of settling -/
def stEnd (N : xMem) : xMem := xsf (xst (xst (xsf (xsf N 8 8 0) 8 11 0) 8 11 (nI 0) 0) 8 11 (nI 1) 0) 8 15 0
theorem r_l123 {N2 : xMem} : ∀ f k N', k ≤ 6 → 6 - k < f → st123 N2 k N' → ∃ N'', f_X8_settles_l123 f (nI k) N' = some (stEnd N'') ∧ st123 N2 6 N'' := by
  intro f
  induction f with
  | zero => intro k N' h1 h2; omega
  | succ f ih =>
    intro k N' h1 h2 hS
    rw [f_X8_settles_l123]
    by_cases hk : k = 6
    · subst hk
      rw [if_pos (by decide), xlet_e, xlet_e, xlet_e, xlet_e, xlet_e, nar_0]
      exact ⟨N', rfl, hS⟩
    · have hk6 : k < 6 := by omega
      obtain ⟨s1, s2, s3, s4⟩ := id hS
      have e26 : N' 8 26 = N2 8 26 := s2 26 (by decide) (by decide)
      have b6 := xb_nI hk6 (by decide)
      have a6 : (6 : Int32) + nI k = nI (6 + k) := nI_add 6 k
      rw [if_neg (show ¬ (6 : Int32) ≤ nI k from le_nI (a := k) (b := 6) (by omega) (by decide) hk6), m2_e, a1_e, a6, nI_clamp (show 2 * k < 2 ^ 31 by omega), nI_clamp (show 2 * k + 1 < 2 ^ 31 by omega), xchk_t _ (xb_nI (show 2 * k + 1 < 12 by omega) (by decide)), xchk_t _ b6, xlet_e, xchk_t _ (xb_nI (show 2 * k < 12 by omega) (by decide)), xchk_t _ (xb_nI (show 6 + k < 27 by omega) (by decide)), xlet_e, nI_1]
      refine ih (k + 1) _ (by omega) (by omega) ⟨fun o ho => ?_, fun r q1 q2 => ?_, fun j hj => ⟨?_, ?_⟩, fun i hi => ?_⟩
      · rw [xst_o ho, xst_o ho]; exact s1 o ho
      · rw [xst_r q2, xst_r q1]; exact s2 r q1 q2
      · rw [xst_r (by decide), xst_e (by omega), e26]
        by_cases hjk : j = k
        · rw [if_pos hjk, hjk]
        · rw [if_neg hjk]; exact (s3 j (by omega)).1
      · rw [xst_e (by omega), xst_r (by decide), xst_r (by decide), e26]
        by_cases hjk : j = k
        · rw [if_pos (by omega), hjk]
        · rw [if_neg (by omega)]; exact (s3 j (by omega)).2
      · rw [xst_e (by omega), if_neg (by omega), xst_r (by decide)]; exact s4 i hi
theorem r_l18 (N : xMem) : ∃ R, f_X8_settles_l18 FU 0 N = f_X8_settles_l39 FU 0 (xs N 8 7 R) ∧ ∀ k, k < 27 → R k = 0 := by
  have key : ∀ f j R, j ≤ 27 → 27 - j < f → (∀ k, k < j → R k = 0) → ∃ R', f_X8_settles_l18 f (nI j) (xs N 8 7 R) = f_X8_settles_l39 FU 0 (xs N 8 7 R') ∧ ∀ k, k < 27 → R' k = 0 := by
    intro f
    induction f with
    | zero => intro j R h1 h2; omega
    | succ f ih =>
      intro j R h1 h2 h3
      rw [f_X8_settles_l18]
      by_cases hj : j = 27
      · subst hj
        rw [if_pos (by decide)]
        exact ⟨R, rfl, h3⟩
      · rw [if_neg (show ¬ (27 : Int32) ≤ nI j from le_nI (a := j) (b := 27) (by omega) (by decide) (by omega)), xchk_t _ (xb_nI (show j < 27 by omega) (by decide)), xlet_e, xs_ut (by omega), nI_1]
        refine ih (j + 1) _ (by omega) (by omega) (fun k hk => ?_)
        rw [upd_e]
        by_cases hkj : k = j
        · rw [if_pos hkj]
        · rw [if_neg hkj]; exact h3 k (by omega)
  have h := key FU 0 (N 8 7) (by omega) (FU_gt (by omega)) (fun k hk => absurd hk (by omega))
  rw [xs_self] at h
  exact h
theorem r_settles (N : xMem) : ∃ N', f_X8_settles N = some N' ∧ (∀ o, o ≠ 8 → N' o = N o) ∧ N' 8 0 0 = N 8 0 22 ∧ N' 8 0 4 = N 8 0 24 ∧ N' 8 0 8 = 0 ∧ N' 8 0 11 = 0 ∧ N' 8 0 15 = 0 ∧ N' 8 0 21 = N 8 0 21 ∧ (∀ i, i < 2 → N' 8 11 i = 0) ∧ (∀ j, j < 5 → (N' 8 2 j = N 8 24 (3 * j) ∧ N' 8 3 j = N 8 24 (3 * j + 1) ∧ N' 8 4 j = N 8 24 (3 * j + 2)) ∧ N' 8 7 (12 + j) = N 8 24 (3 * j) ∧ N' 8 7 (17 + j) = nI j ∧ N' 8 7 (22 + j) = 0) ∧ ∀ j, j < 6 → N' 8 6 j = N 8 26 (2 * j + 1) ∧ N' 8 7 (6 + j) = N 8 26 (2 * j) ∧ N' 8 7 j = 0 := by
  obtain ⟨N0, hN0⟩ : ∃ N0, N0 = xsf (xsf N 8 0 (N 8 0 22)) 8 4 (N 8 0 24) := ⟨_, rfl⟩
  obtain ⟨R, g1, g2⟩ := r_l18 N0
  obtain ⟨N1, hN1⟩ : ∃ N1, N1 = xs N0 8 7 R := ⟨_, rfl⟩
  rw [← hN1] at g1
  have e17 : N1 8 7 = R := by rw [hN1, xs_same]
  have e1r : ∀ r, r ≠ 7 → N1 8 r = N0 8 r := fun r hr => by rw [hN1]; exact xs_ne _ _ _ _ (by intro z; exact hr (Prod.mk.inj z).2)
  have e1o : ∀ o, o ≠ 8 → N1 o = N o := fun o ho => by rw [hN1, xs_o ho, hN0, xsf_o ho, xsf_o ho]
  have r0 : ∀ r, r ≠ 0 → N0 8 r = N 8 r := fun r hr => by rw [hN0, xsf_r hr, xsf_r hr]
  obtain ⟨N2, k1, s1, s2, s3, s4⟩ := r_l39 (N1 := N1) FU 0 N1 (by omega) (FU_gt (by omega)) ⟨fun _ _ => rfl, fun _ _ _ _ _ => rfl, fun j hj => absurd hj (by omega), fun i _ hi => by rw [e17]; exact g2 i hi⟩
  obtain ⟨N3, q1, t1, t2, t3, t4⟩ := r_l123 (N2 := N2) FU 0 N2 (by omega) (FU_gt (by omega)) ⟨fun _ _ => rfl, fun _ _ _ => rfl, fun j hj => absurd hj (by omega), fun _ _ => rfl⟩
  have h24 : N1 8 24 = N 8 24 := by rw [e1r 24 (by decide), r0 24 (by decide)]
  have h26 : N2 8 26 = N 8 26 := by rw [s2 26 (by decide) (by decide) (by decide) (by decide), e1r 26 (by decide), r0 26 (by decide)]
  have h0 : N3 8 0 = N0 8 0 := by rw [t2 0 (by decide) (by decide), s2 0 (by decide) (by decide) (by decide) (by decide), e1r 0 (by decide)]
  have z : ∀ r, r ≠ 0 → r ≠ 11 → stEnd N3 8 r = N3 8 r := fun r a b => by unfold stEnd; rw [xsf_r a, xst_r b, xst_r b, xsf_r a, xsf_r a]
  have z0 : ∀ k, k ≠ 8 → k ≠ 11 → k ≠ 15 → stEnd N3 8 0 k = N0 8 0 k := fun k a b c => by unfold stEnd; rw [xsf_k c, xst_r (by decide), xst_r (by decide), xsf_k b, xsf_k a, h0]
  refine ⟨stEnd N3, ?_, fun o ho => ?_, ?_, ?_, ?_, ?_, ?_, ?_, fun i hi => ?_, fun j hj => ⟨⟨?_, ?_, ?_⟩, ?_, ?_, ?_⟩, fun j hj => ⟨?_, ?_, ?_⟩⟩
  · unfold f_X8_settles
    rw [xlet_e, xlet_e, show xsf N 8 0 (N 8 0 22) 8 0 24 = N 8 0 24 from xsf_k (by decide), ← hN0, g1]
    have k1' : f_X8_settles_l39 FU 0 N1 = f_X8_settles_l123 FU 0 N2 := k1
    have q1' : f_X8_settles_l123 FU 0 N2 = some (stEnd N3) := q1
    rw [k1', q1']
  · unfold stEnd
    rw [xsf_o ho, xst_o ho, xst_o ho, xsf_o ho, xsf_o ho, t1 o ho, s1 o ho, e1o o ho]
  · rw [z0 0 (by decide) (by decide) (by decide), hN0, xsf_k (by decide), xsf_0]
  · rw [z0 4 (by decide) (by decide) (by decide), hN0, xsf_0]
  · unfold stEnd
    rw [xsf_k (by decide), xst_r (by decide), xst_r (by decide), xsf_k (by decide), xsf_0]
  · unfold stEnd
    rw [xsf_k (by decide), xst_r (by decide), xst_r (by decide), xsf_0]
  · unfold stEnd
    rw [xsf_0]
  · rw [z0 21 (by decide) (by decide) (by decide), hN0, xsf_k (by decide), xsf_k (by decide)]
  · unfold stEnd
    rw [xsf_r (by decide), xst_e (by decide), xst_e (by decide)]
    by_cases h1 : i = 1
    · rw [if_pos h1]
    · rw [if_neg h1, if_pos (by omega)]
  · rw [z 2 (by decide) (by decide), t2 2 (by decide) (by decide), (s3 j hj).1, h24]
  · rw [z 3 (by decide) (by decide), t2 3 (by decide) (by decide), (s3 j hj).2.1, h24]
  · rw [z 4 (by decide) (by decide), t2 4 (by decide) (by decide), (s3 j hj).2.2.1, h24]
  · rw [z 7 (by decide) (by decide), t4 _ (by omega), (s3 j hj).2.2.2.1, h24]
  · rw [z 7 (by decide) (by decide), t4 _ (by omega), (s3 j hj).2.2.2.2]
  · rw [z 7 (by decide) (by decide), t4 _ (by omega), s4 _ (by omega) (by omega)]
  · rw [z 6 (by decide) (by decide), (t3 j hj).1, h26]
  · rw [z 7 (by decide) (by decide), (t3 j hj).2, h26]
  · rw [z 7 (by decide) (by decide), t4 _ (by omega), s4 _ (by omega) (by omega)]
