/-- what the reference was told, as K, Sk, Rm say -/
def tM (N : xMem) (K Sk Rm : Nat → Int32) (ns ne : Nat) : Prop := N 8 0 0 = nI ns ∧ ns ≤ 5 ∧ N 8 0 4 = nI ne ∧ ne ≤ 6 ∧ (∀ e, e < ne → N 8 6 e = K e ∧ ∃ w, w ≤ 5 ∧ K e = nI w) ∧ ∀ s, s < ns → N 8 3 s = Sk s ∧ N 8 4 s = Rm s ∧ ∃ w, w ≤ 9 ∧ Sk s = nI w
theorem tM_of {M : xMem} {ns ne : Nat} (hT : rT M ns ne) : tM M (M 3 7) (M 3 4) (M 3 5) ns ne := by
  obtain ⟨h5, h6, t3, t4, t5, t6, tS, tE⟩ := hT
  exact ⟨t5, h5, t6, h6, fun e he => ⟨(tE e he).2, (tE e he).1⟩, fun s hs => ⟨(tS s hs).2.2.2.2.1, (tS s hs).2.2.2.2.2, (tS s hs).2.1⟩⟩
theorem tM.of8 {M N : xMem} {K Sk Rm : Nat → Int32} {ns ne : Nat} (h : tM M K Sk Rm ns ne) (h00 : N 8 0 0 = M 8 0 0) (h04 : N 8 0 4 = M 8 0 4) (h3 : N 8 3 = M 8 3) (h4 : N 8 4 = M 8 4) (h6 : N 8 6 = M 8 6) : tM N K Sk Rm ns ne := by
  unfold tM at h ⊢
  rw [h00, h04, h3, h4, h6]
  exact h
theorem up_self (M : xMem) (o : Nat) : va_up M o (M o) = M := by
  funext a
  unfold va_up
  by_cases h : a = o
  · simp [h]
  · simp [h]
abbrev rollF (M : xMem) (ns ne e : Nat) (F : Nat → Nat → Int32) : Int32 × (Nat → Nat → Int32) := pRoll (M 3 7) (M 3 4) (M 3 5) ne e ns 0 F
theorem e_roll {M : xMem} {i ns ne e : Nat} (hns : M 3 0 0 = nI ns) (h5 : ns ≤ 5) (hne : M 3 0 1 = nI ne) (h6 : ne ≤ 6) (he : e < ne) (hK : ∃ w, w ≤ 5 ∧ M 3 7 e = nI w) (hv : vF ns ne (M (i + 9))) : f_X0_roll i (nI e) M = some ((rollF M ns ne e (M (i + 9))).1, va_up M (i + 9) (rollF M ns ne e (M (i + 9))).2) := by
  have h := e_roll_l (i := i) hns h5 hne h6 he hK FU 0 (M (i + 9)) (by omega) (FU_gt (by omega)) hv
  rw [up_self] at h
  exact h
theorem e_rolled {N : xMem} {K Sk Rm : Nat → Int32} {ns ne e : Nat} {F : Nat → Nat → Int32} (hT : tM N K Sk Rm ns ne) (he : e < ne) (hv : vF ns ne F) (hF : rF ns ne F (N 8 27) 0) : ∃ S', f_X8_rolled (nI e) N = some ((pRoll K Sk Rm ne e ns 0 F).1, xs N 8 27 S') ∧ rF ns ne (pRoll K Sk Rm ne e ns 0 F).2 S' 0 := by
  obtain ⟨t1, h5, t2, h6, t3, t4⟩ := hT
  have h := e_rolled_l t1 h5 t2 h6 he (t3 e he).1 (t3 e he).2 t4 FU 0 F (N 8 27) (by omega) (FU_gt (by omega)) hv hF
  rw [xs_self] at h
  exact h
theorem s_goes : S_goes Rel := by
  intro a1 M L h
  obtain ⟨ns, ne, hT, hF, hP, hI, hX, hl, hL⟩ := id h
  obtain ⟨h5, h6, t3, t4, t5, t6, tS, tE⟩ := id hT
  by_cases hq : oob a1 0 (nI ne - 1)
  · refine ⟨-1, M, M, ?_, ?_, h⟩
    · unfold f_X7_goes; rw [e_noEgg t4, xb1_e, if_pos hq]; rfl
    · unfold f_X8_goes; rw [e_isEgg t6, xb1_e, if_pos hq]; rfl
  · obtain ⟨s, hs, rfl⟩ := in_nI (by omega) hq
    have b6 := xb_nI (show s < 6 by omega) (by decide)
    have c6 : (nI s).toNatClampNeg = s := nI_clamp (by omega)
    have b27 := xb_nI (show s < 27 by omega) (by decide)
    have m0 := ((st_at hF.1).1 s hs).1
    by_cases hz : M (0 + 9) 2 s = 0
    · obtain ⟨M1, g1, g2, g3⟩ := e_become (i := 1) (j := 0) (by decide) M
      have hv1 : vF ns ne (M1 (1 + 9)) := g2.vF h5 h6 hF.2
      have e3 : M1 3 = M 3 := g3 3 (by decide)
      have gr := e_roll (M := M1) (i := 1) (e := s) (by rw [e3]; exact t3) h5 (by rw [e3]; exact t4) h6 hs (by rw [e3]; exact (tE s hs).1) hv1
      obtain ⟨M2, hM2⟩ : ∃ M2, M2 = va_up M1 (1 + 9) (rollF M1 ns ne s (M1 (1 + 9))).2 := ⟨_, rfl⟩
      have o2 : ∀ o, o ≠ 1 + 9 → M2 o = M o := fun o ho => by rw [hM2, va_up_ne _ _ ho, g3 o ho]
      have o8 : M2 8 = M 8 := o2 8 (by decide)
      rw [← hM2] at gr
      have hsm : smR M M2 := ⟨o2 3 (by decide), by rw [o2 0 (by decide)], by rw [o2 1 (by decide)], by rw [o2 1 (by decide)], o2 4 (by decide), by rw [o2 7 (by decide)], by rw [o2 7 (by decide)], by rw [o2 7 (by decide)], fun i hi1 hi2 => o2 _ (by omega), by rw [o8], by rw [o8], by rw [o8], by rw [o8], by rw [o8], by rw [o8], by rw [o8], by rw [o8], by rw [o8], by rw [o8], by rw [o8], by rw [o8], by rw [o8], by rw [o8], by rw [o8]⟩
      have hF1 : rF ns ne (M1 (1 + 9)) (M2 8 7) 0 := by rw [o8]; exact g2.rF h5 h6 hF.1
      have hn := nowM_f (M := M2) h5 h6 hF1
      have htm : tM (nowM M2) (M1 3 7) (M1 3 4) (M1 3 5) ns ne := by
        rw [e3]
        exact (tM_of hT).of8 (by rw [nowM_8 _ (by decide), o8]) (by rw [nowM_8 _ (by decide), o8]) (by rw [nowM_8 _ (by decide), o8]) (by rw [nowM_8 _ (by decide), o8]) (by rw [nowM_8 _ (by decide), o8])
      obtain ⟨S', q1, q2⟩ := e_rolled htm hs hv1 hn
      refine ⟨(rollF M1 ns ne s (M1 (1 + 9))).1, M2, xs (nowM M2) 8 27 S', ?_, ?_, (h.same hsm).same (M' := xs (nowM M2) 8 27 S') ?_⟩
      · unfold f_X7_goes; rw [e_noEgg t4, xb1_e, if_neg hq, if_pos rfl, xchk_t _ b6, c6, if_pos hz, g1, xb1_e, gr, xb2_e]
      · unfold f_X8_goes; rw [e_isEgg (by rw [o8]; exact t6), xb1_e, if_neg hq, if_neg (by decide), i32_z, xchk_t _ b27, c6, o8, m0, if_pos hz, asIt, xb1_e, q1, xb2_e]
      · have := nowM_same M2
        unfold nowM
        rw [xs_xs]
        unfold smR
        refine ⟨?_, ?_, ?_, ?_, ?_, ?_, ?_, ?_, fun i h1 h2 => ?_, ?_, ?_, ?_, ?_, ?_, ?_, ?_, ?_, ?_, ?_, ?_, ?_, ?_, ?_, ?_⟩ <;> first | (simp [xs, va_up]; done) | (unfold xs; exact va_up_ne _ _ (by omega))
    · refine ⟨-2, M, M, ?_, ?_, h⟩
      · unfold f_X7_goes; rw [e_noEgg t4, xb1_e, if_neg hq, if_pos rfl, xchk_t _ b6, c6, if_neg hz]
      · unfold f_X8_goes; rw [e_isEgg t6, xb1_e, if_neg hq, if_neg (by decide), i32_z, xchk_t _ b27, c6, m0, if_neg hz]
theorem s_rolls : S_rolls Rel := by
  intro a1 M L h
  obtain ⟨ns, ne, hT, hF, ⟨kn, lt, p1, p2, p3, p4, p5, p6⟩, hI, hX, hl, hL⟩ := id h
  obtain ⟨h5, h6, t3, t4, t5, t6, tS, tE⟩ := id hT
  by_cases hq : oob a1 0 (nI ne - 1)
  · refine ⟨-1, M, M, ?_, ?_, h⟩
    · unfold f_X7_rolls; rw [e_noEgg t4, xb1_e, if_pos hq]; rfl
    · unfold f_X8_rolls; rw [e_isEgg t6, xb1_e, if_pos hq]; rfl
  · obtain ⟨s, hs, rfl⟩ := in_nI (by omega) hq
    have b6 := xb_nI (show s < 6 by omega) (by decide)
    have c6 : (nI s).toNatClampNeg = s := nI_clamp (by omega)
    have b27 := xb_nI (show s < 27 by omega) (by decide)
    have m0 := ((st_at hF.1).1 s hs).1
    by_cases hz : M (0 + 9) 2 s = 0
    · have hm : (lt + 1) % 10 < 10 := Nat.mod_lt _ (by decide)
      obtain ⟨M1, g1, a1, a2, a3, a4⟩ := e_remember p3 p2 p4 p1
      have e3 : M1 3 = M 3 := a4 3 (by decide) (by omega)
      have m8 : M1 8 = M 8 := a4 8 (by decide) (by omega)
      have m9 : M1 (0 + 9) = M (0 + 9) := a4 (0 + 9) (by decide) (by omega)
      have hv1 : vF ns ne (M1 (0 + 9)) := by rw [m9]; exact hF.2
      have gr := e_roll (M := M1) (i := 0) (e := s) (by rw [e3]; exact t3) h5 (by rw [e3]; exact t4) h6 hs (by rw [e3]; exact (tE s hs).1) hv1
      have hv' := pRoll_v (K := M1 3 7) (Sk := M1 3 4) (Rm := M1 3 5) h5 (by rw [e3]; exact (tE s hs).1) hs ns 0 _ (by omega) hv1
      obtain ⟨M2, hM2⟩ : ∃ M2, M2 = va_up M1 (0 + 9) (rollF M1 ns ne s (M1 (0 + 9))).2 := ⟨_, rfl⟩
      have o2 : ∀ o, o ≠ 0 + 9 → M2 o = M1 o := fun o ho => by rw [hM2, va_up_ne _ _ ho]
      have o9 : M2 (0 + 9) = (rollF M1 ns ne s (M1 (0 + 9))).2 := by rw [hM2, va_up_self]
      rw [← hM2] at gr
      have o8 : M2 8 = M 8 := by rw [o2 8 (by decide), m8]
      obtain ⟨M3, g3, c1, c2, c3, c4, c5⟩ := e_remembers (M := M2) (by rw [o8]; exact p5) p1
      have s7 : M3 8 7 = M 8 7 := by rw [c3 7 (by decide) (by decide), o8]
      have hF3 : rF ns ne (M1 (0 + 9)) (M3 8 7) 0 := by rw [s7, m9]; exact hF.1
      have hn := nowM_f (M := M3) h5 h6 hF3
      have htm : tM (nowM M3) (M1 3 7) (M1 3 4) (M1 3 5) ns ne := by
        rw [e3]
        exact (tM_of hT).of8 (by rw [nowM_8 _ (by decide), c2 0 (by decide), o8]) (by rw [nowM_8 _ (by decide), c2 4 (by decide), o8]) (by rw [nowM_8 _ (by decide), c3 3 (by decide) (by decide), o8]) (by rw [nowM_8 _ (by decide), c3 4 (by decide) (by decide), o8]) (by rw [nowM_8 _ (by decide), c3 6 (by decide) (by decide), o8])
      obtain ⟨S', q1, q2⟩ := e_rolled htm hs hv1 hn
      have hc := e_copy (r0 := 7) (n0 := 27) (r2 := 27) (n2 := 27) (a := 0) (b := 0) (M := xs (nowM M3) 8 27 S') (by decide) (by decide) (by decide) (by decide) (by decide)
      obtain ⟨M4, hM4⟩ : ∃ M4, M4 = xs (xs (nowM M3) 8 27 S') 8 7 (va_cpy (xs (nowM M3) 8 27 S' 8 27) (xs (nowM M3) 8 27 S' 8 7) 0 0 27) := ⟨_, rfl⟩
      rw [← hM4] at hc
      have d1 : ∀ o, o ≠ 8 → M4 o = M3 o := fun o ho => by rw [hM4, xs_o ho, xs_o ho]; exact xs_o ho
      have d2 : ∀ r, r ≠ 7 → r ≠ 27 → M4 8 r = M3 8 r := fun r hr1 hr2 => by
        rw [hM4, xs_ne _ _ _ _ (by intro q; exact hr1 (Prod.mk.inj q).2), xs_ne _ _ _ _ (by intro q; exact hr2 (Prod.mk.inj q).2), nowM_8 _ hr2]
      have e47 : rF ns ne (rollF M1 ns ne s (M1 (0 + 9))).2 (M4 8 7) 0 := by
        rw [hM4, xs_same, xs_same]
        exact rF_now h5 h6 q2
      have e49 : M4 (0 + 9) = (rollF M1 ns ne s (M1 (0 + 9))).2 := by rw [d1 _ (by decide), c4 _ (by decide), o9]
      refine ⟨(rollF M1 ns ne s (M1 (0 + 9))).1, M2, M4, ?_, ?_, push hT hF.1 hF.2 p1 p2 p6 hI hX hl hL a1 a2 a3 a4 o2 c1 c2 c3 c4 c5 d1 d2 (by rw [e49]; exact e47) (by rw [e49]; exact hv')⟩
      · unfold f_X7_rolls; rw [e_noEgg t4, xb1_e, if_neg hq, if_pos rfl, xchk_t _ b6, c6, if_pos hz, g1, xb1_e, gr, xb2_e]
      · unfold f_X8_rolls; rw [e_isEgg (by rw [o8]; exact t6), xb1_e, if_neg hq, if_neg (by decide), i32_z, xchk_t _ b27, c6, o8, m0, if_pos hz, g3, xb1_e, asIt, xb1_e, q1, xb2_e, show (0 : Int32) = nI 0 from rfl, hc, xb1_e]
    · refine ⟨-2, M, M, ?_, ?_, h⟩
      · unfold f_X7_rolls; rw [e_noEgg t4, xb1_e, if_neg hq, if_pos rfl, xchk_t _ b6, c6, if_neg hz]
      · unfold f_X8_rolls; rw [e_isEgg t6, xb1_e, if_neg hq, if_neg (by decide), i32_z, xchk_t _ b27, c6, m0, if_neg hz]
