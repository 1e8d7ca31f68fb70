theorem rF_cpy {ns ne a b : Nat} {F : Nat → Nat → Int32} {S g : Nat → Int32} (h5 : ns ≤ 5) (h6 : ne ≤ 6) (h : rF ns ne F S b) : rF ns ne F (va_cpy S g b a 27) a := by
  have e : ∀ k, k < 27 → va_cpy S g b a 27 (a + k) = S (b + k) := fun k hk => by
    unfold va_cpy
    rw [if_pos (by omega), show a + k - a = k by omega]
  refine ⟨fun j hj => ?_, fun j hj => ?_⟩
  · rw [e _ (by omega), e _ (by omega)]; exact h.1 j hj
  · rw [e _ (by omega), e _ (by omega), e _ (by omega)]; exact h.2 j hj
theorem cpy_out {f g : Nat → Int32} {a b n k : Nat} (h : k < a ∨ a + n ≤ k) : va_cpy f g b a n k = g k := by
  unfold va_cpy
  rw [if_neg (by omega)]
theorem s_undo : S_undo Rel := by
  intro M L h
  obtain ⟨ns, ne, hT, hF, ⟨kn, lt, p1, p2, p3, p4, p5, p6⟩, hI, hX, hl, hL⟩ := id h
  obtain ⟨h5, h6, t3, t4, t5, t6, tS, tE⟩ := id hT
  by_cases hk : kn = 0
  · subst hk
    refine ⟨-2, M, M, ?_, ?_, h⟩
    · unfold f_X7_undo; rw [p4]; rfl
    · unfold f_X8_undo; rw [p5]; rfl
  · have hz : ¬ nI kn = 0 := nI_ne0 (by omega) (by omega)
    obtain ⟨q, rfl⟩ : ∃ q, kn = q + 1 := ⟨kn - 1, by omega⟩
    have cl : (nI lt).toNatClampNeg = lt := nI_clamp (by omega)
    obtain ⟨M1, g1, g2, g3⟩ := e_become (i := 0) (j := lt + 4) (by omega) M
    have e41 : M1 4 0 1 = nI lt := by rw [g3 4 (by decide)]; exact p3
    have e42 : M1 4 0 2 = nI (q + 1) := by rw [g3 4 (by decide)]; exact p4
    have hr : (nI lt + 10 - 1) - (nI lt + 10 - 1) / 10 * 10 = nI ((lt + 9) % 10) := by
      have key : ∀ t, t < 10 → (nI t + 10 - 1) - (nI t + 10 - 1) / 10 * 10 = nI ((t + 9) % 10) := by decide +kernel
      exact key lt p2
    have hp : nI (q + 1) - 1 = nI q := nI_pred q
    have e1 : f_X7_undo M = some (nI q, xsf (xsf M1 4 1 (nI ((lt + 9) % 10))) 4 2 (nI q)) := by
      unfold f_X7_undo f_X2_recall
      rw [p4, if_neg hz, p3, xchk_t _ (xb_nI p2 (by decide)), cl, g1, xb1_e, e41, hr, xlet_e, xsf_k (by decide), e42, hp, xlet_e, xb1_e, xsf_0]
    obtain ⟨M2, hM2⟩ : ∃ M2, M2 = xsf (xsf M1 4 1 (nI ((lt + 9) % 10))) 4 2 (nI q) := ⟨_, rfl⟩
    rw [← hM2] at e1
    have o2 : ∀ o, o ≠ 4 → o ≠ 0 + 9 → M2 o = M o := fun o z1 z2 => by rw [hM2, xsf_o z1, xsf_o z1, g3 o z2]
    have f2 : sameF (M2 (0 + 9)) (M (lt + 4 + 9)) := by rw [hM2, xsf_o (by decide), xsf_o (by decide)]; exact g2
    have k1 : M2 4 0 1 = nI ((lt + 9) % 10) := by rw [hM2, xsf_k (by decide), xsf_0]
    have k2 : M2 4 0 2 = nI q := by rw [hM2, xsf_0]
    have m8 : M2 8 = M 8 := o2 8 (by decide) (by decide)
    have hc := e_copy (r0 := 7) (n0 := 27) (r2 := 8) (n2 := 270) (a := 0) (b := 27 * q) (M := xsf M2 8 8 (nI q)) (by decide) (by decide) (by omega) (by decide) (by decide)
    obtain ⟨M3, hM3⟩ : ∃ M3, M3 = xs (xsf M2 8 8 (nI q)) 8 7 (va_cpy (xsf M2 8 8 (nI q) 8 8) (xsf M2 8 8 (nI q) 8 7) (27 * q) 0 27) := ⟨_, rfl⟩
    have e2 : f_X8_undo M2 = some (nI q, M3) := by
      unfold f_X8_undo
      rw [m8, p5, if_neg hz, hp, xlet_e, xsf_0, show (27 : Int32) * nI q = nI (27 * q) from pk_mul 27 q, show (0 : Int32) = nI 0 from rfl, hc, xb1_e, ← hM3]
      rw [hM3, xs_ne _ _ _ _ (by decide), xsf_0]
    have r8 : ∀ r, r ≠ 0 → r ≠ 7 → M3 8 r = M 8 r := fun r z1 z2 => by rw [hM3, xs_ne _ _ _ _ (by intro z; exact z2 (Prod.mk.inj z).2), xsf_r z1, m8]
    have r80 : ∀ k, k ≠ 8 → M3 8 0 k = M 8 0 k := fun k z => by rw [hM3, xs_ne _ _ _ _ (by decide), xsf_k z, m8]
    have r88 : M3 8 0 8 = nI q := by rw [hM3, xs_ne _ _ _ _ (by decide), xsf_0]
    have o3 : ∀ o, o ≠ 8 → M3 o = M2 o := fun o z => by rw [hM3, xs_o z, xsf_o z]
    have r7 : M3 8 7 = va_cpy (M 8 8) (M 8 7) (27 * q) 0 27 := by rw [hM3, xs_same, xsf_r (by decide), xsf_r (by decide), m8]
    have hring : ringAt lt (q + 1) q = lt := by unfold ringAt; omega
    obtain ⟨g4, g5⟩ := p6 q (by omega)
    rw [hring] at g4 g5
    refine ⟨nI q, M2, M3, e1, e2, ns, ne, ?_, ?_, ⟨q, (lt + 9) % 10, by omega, Nat.mod_lt _ (by decide), by rw [o3 4 (by decide)]; exact k1, by rw [o3 4 (by decide)]; exact k2, r88, fun j hj => ?_⟩, fun i hi => ?_, ?_, ?_, hL⟩
    · unfold rT at hT ⊢
      rw [o3 3 (by decide), o2 3 (by decide) (by decide), r80 0 (by decide), r80 4 (by decide), r8 2 (by decide) (by decide), r8 3 (by decide) (by decide), r8 4 (by decide) (by decide), r8 6 (by decide) (by decide)]
      exact hT
    · rw [o3 (0 + 9) (by decide), r7]
      exact ⟨f2.rF h5 h6 (rF_cpy h5 h6 g4), f2.vF h5 h6 g5⟩
    · have hr2 : ringAt ((lt + 9) % 10) q j = ringAt lt (q + 1) j := by unfold ringAt; omega
      have hrl := ringAt_lt lt (q + 1) j
      rw [hr2, o3 _ (by omega), o2 _ (by omega) (by omega), r8 8 (by decide) (by decide)]
      exact p6 j (by omega)
    · rw [o3 0 (by decide), o2 0 (by decide) (by decide), o3 (i + 2 + 9) (by omega), o2 (i + 2 + 9) (by omega) (by omega), r8 11 (by decide) (by decide), r8 10 (by decide) (by decide)]
      exact hI i hi
    · unfold rX at hX ⊢
      rw [o3 7 (by decide), o2 7 (by decide) (by decide), r80 11 (by decide), r8 13 (by decide) (by decide)]
      exact hX
    · unfold rL at hl ⊢
      rw [o3 1 (by decide), o2 1 (by decide) (by decide), r80 15 (by decide), r8 15 (by decide) (by decide)]
      exact hl
theorem s_keep : S_keep Rel := by
  intro a1 M L h
  obtain ⟨ns, ne, hT, hF, hP, hI, hX, hl, hL⟩ := id h
  obtain ⟨h5, h6, t3, t4, t5, t6, tS, tE⟩ := id hT
  by_cases hq : oob a1 0 1
  · refine ⟨-1, M, M, ?_, ?_, h⟩
    · unfold f_X7_keep; rw [e_beyond, xb1_e, if_pos hq]; rfl
    · unfold f_X8_keep; rw [e_in, xb1_e, if_pos hq]; rfl
  · obtain ⟨s, hs, rfl⟩ := in_c (n := 1) 1 (by decide) (by decide) hq
    have b2 := xb_nI (show s < 2 by omega) (by decide)
    have c2 : (nI s).toNatClampNeg = s := nI_clamp (by omega)
    have hb1 : vp_nar .boolean (1 : Int32) = 1 := by decide +kernel
    obtain ⟨M1, g1, g2, g3⟩ := e_become (i := s + 2) (j := 0) (by omega) M
    obtain ⟨M2, hM2⟩ : ∃ M2, M2 = xst M1 0 7 (nI s) 1 := ⟨_, rfl⟩
    have o2 : ∀ o, o ≠ 0 → o ≠ s + 2 + 9 → M2 o = M o := fun o z1 z2 => by rw [hM2, xst_o z1, g3 o z2]
    have e3 : M2 3 0 1 = nI ne := by rw [o2 3 (by decide) (by omega)]; exact t4
    have m9 : M2 (0 + 9) = M (0 + 9) := o2 (0 + 9) (by decide) (by omega)
    have m8 : M2 8 = M 8 := o2 8 (by decide) (by omega)
    have e1 : f_X7_keep (nI s) M = some (nI (popN (pEn (M (0 + 9) 2) 0 ne)), M2) := by
      unfold f_X7_keep
      rw [e_beyond, xb1_e, if_neg hq, if_pos rfl, xchk_t _ b2, c2, g1, xb1_e, xchk_t _ b2, hb1, xlet_e, ← hM2, e_howManyAt e3 h6, xb1_e, m9]
    have hc := e_copy (r0 := 10) (n0 := 54) (r2 := 7) (n2 := 27) (a := 27 * s) (b := 0) (M := M2) (by decide) (by omega) (by decide) (by decide) (by decide)
    obtain ⟨M3, hM3⟩ : ∃ M3, M3 = xst (xs M2 8 10 (va_cpy (M2 8 7) (M2 8 10) 0 (27 * s) 27)) 8 11 (nI s) 1 := ⟨_, rfl⟩
    have r8 : ∀ r, r ≠ 10 → r ≠ 11 → M3 8 r = M 8 r := fun r z1 z2 => by rw [hM3, xst_r z2, xs_ne _ _ _ _ (by intro z; exact z1 (Prod.mk.inj z).2), m8]
    have o3 : ∀ o, o ≠ 8 → M3 o = M2 o := fun o z => by rw [hM3, xst_o z, xs_o z]
    have r10 : M3 8 10 = va_cpy (M 8 7) (M 8 10) 0 (27 * s) 27 := by rw [hM3, xst_r (by decide), xs_same, m8]
    have r11 : ∀ k, M3 8 11 k = if k = s then 1 else M 8 11 k := fun k => by rw [hM3, xst_e (by omega), xs_ne _ _ _ _ (by decide), m8]
    have hn := nowM_f (M := M3) (F := M (0 + 9)) h5 h6 (by rw [r8 7 (by decide) (by decide)]; exact hF.1)
    have n4 : nowM M3 8 0 4 = nI ne := by rw [nowM_8 _ (by decide), r8 0 (by decide) (by decide)]; exact t6
    obtain ⟨r, q1, q2⟩ := e_bitsIn (N := nowM M3) (a := 0) hn n4 h6
    have e2 : f_X8_keep (nI s) M2 = some (nI (popN (pEn (M (0 + 9) 2) 0 ne)), nowM M3) := by
      unfold f_X8_keep
      rw [e_in, xb1_e, if_neg hq, if_neg (by decide), show (27 : Int32) * nI s = nI (27 * s) from pk_mul 27 s]
      have hc' : f_X8_copy 8 10 54 (nI (27 * s)) 8 7 27 0 M2 = some (xs M2 8 10 (va_cpy (M2 8 7) (M2 8 10) 0 (27 * s) 27)) := hc
      rw [hc', xb1_e, xchk_t _ b2, hb1, xlet_e, ← hM3, asIt, xb1_e, q1, xb1_e, q2, xb1_e]
    refine ⟨_, M2, nowM M3, e1, e2, Rel.same (nowM_same M3) ⟨ns, ne, ?_, ?_, ?_, fun i hi => ?_, ?_, ?_, hL⟩⟩
    · unfold rT at hT ⊢
      rw [o3 3 (by decide), o2 3 (by decide) (by omega), r8 0 (by decide) (by decide), r8 2 (by decide) (by decide), r8 3 (by decide) (by decide), r8 4 (by decide) (by decide), r8 6 (by decide) (by decide)]
      exact hT
    · rw [o3 (0 + 9) (by decide), m9, r8 7 (by decide) (by decide)]
      exact hF
    · obtain ⟨kn, lt, p1, p2, p3, p4, p5, p6⟩ := hP
      refine ⟨kn, lt, p1, p2, by rw [o3 4 (by decide), o2 4 (by decide) (by omega)]; exact p3, by rw [o3 4 (by decide), o2 4 (by decide) (by omega)]; exact p4, by rw [r8 0 (by decide) (by decide)]; exact p5, fun j hj => ?_⟩
      have hrl := ringAt_lt lt kn j
      rw [o3 _ (by omega), o2 _ (by omega) (by omega), r8 8 (by decide) (by decide)]
      exact p6 j hj
    · have k07 : M3 0 7 i = if i = s then 1 else M 0 7 i := by
        rw [o3 0 (by decide), hM2, xst_e (by omega), g3 0 (by omega)]
      rw [r11, k07, r10]
      by_cases his : i = s
      · subst his
        rw [if_pos rfl, if_pos rfl]
        have f3 : sameF (M3 (i + 2 + 9)) (M (0 + 9)) := by rw [o3 _ (by omega), hM2, xst_o (by omega)]; exact g2
        exact ⟨rfl, Or.inr ⟨rfl, f3.rF h5 h6 (rF_cpy h5 h6 hF.1), f3.vF h5 h6 hF.2⟩⟩
      · rw [if_neg his, if_neg his, o3 _ (by omega), o2 _ (by omega) (by omega)]
        obtain ⟨z1, z2⟩ := hI i hi
        refine ⟨z1, ?_⟩
        rcases z2 with z2 | ⟨z2, z3, z4⟩
        · exact Or.inl z2
        · refine Or.inr ⟨z2, ⟨fun e he => ?_, fun t ht => ?_⟩, z4⟩
          · rw [cpy_out (by omega), cpy_out (by omega)]; exact z3.1 e he
          · rw [cpy_out (by omega), cpy_out (by omega), cpy_out (by omega)]; exact z3.2 t ht
    · unfold rX at hX ⊢
      rw [o3 7 (by decide), o2 7 (by decide) (by omega), r8 0 (by decide) (by decide), r8 13 (by decide) (by decide)]
      exact hX
    · unfold rL at hl ⊢
      rw [o3 1 (by decide), o2 1 (by decide) (by omega), r8 0 (by decide) (by decide), r8 15 (by decide) (by decide)]
      exact hl
