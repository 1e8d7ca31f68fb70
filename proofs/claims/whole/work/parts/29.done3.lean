theorem st_at {ns ne : Nat} {F : Nat → Nat → Int32} {S : Nat → Int32} (h : rF ns ne F S 0) : (∀ e, e < ne → S e = F 2 e ∧ S (6 + e) = F 3 e) ∧ ∀ s, s < ns → S (12 + s) = F 4 s ∧ S (17 + s) = F 5 s ∧ S (22 + s) = F 6 s := by
  refine ⟨fun e he => ?_, fun s hs => ?_⟩
  · simpa only [Nat.zero_add] using h.1 e he
  · simpa only [Nat.zero_add] using h.2 s hs
theorem s_wipes : S_wipes Rel := by
  intro a1 M L h
  obtain ⟨ns, ne, hT, hF, hP, hI, hX, hl, hL⟩ := id h
  obtain ⟨h5, h6, t3, t4, t5, t6, tS, tE⟩ := id hT
  by_cases hq : oob a1 0 (nI ns - 1)
  · refine ⟨-1, M, M, ?_, ?_, h⟩
    · unfold f_X7_wipes; rw [e_noScale t3, xb1_e, if_pos hq]; rfl
    · unfold f_X8_wipes; rw [e_isScale t5, xb1_e, if_pos hq]; rfl
  · obtain ⟨s, hs, rfl⟩ := in_nI (by omega) hq
    have b5 := xb_nI (show s < 5 by omega) (by decide)
    have c5 : (nI s).toNatClampNeg = s := nI_clamp (by omega)
    have b22 := xb_nI (show 22 + s < 27 by omega) (by decide)
    have c22 : (nI (22 + s)).toNatClampNeg = 22 + s := nI_clamp (by omega)
    have a22 : (22 : Int32) + nI s = nI (22 + s) := nI_add 22 s
    have m22 := ((st_at hF.1).2 s hs).2.2
    by_cases hz : M (0 + 9) 6 s = 0
    · refine ⟨-2, M, M, ?_, ?_, h⟩
      · unfold f_X7_wipes; rw [e_noScale t3, xb1_e, if_neg hq, if_pos rfl, xchk_t _ b5, c5, if_pos hz]
      · unfold f_X8_wipes; rw [e_isScale t5, xb1_e, if_neg hq, if_neg (by decide), a22, xchk_t _ b22, c22, m22, if_pos hz]
    · obtain ⟨M1, M3, g1, m3, m8, m9, g3, s7, s0, s9, hR, -⟩ := push_set (r := 6) (b := 22) (n := ns) (j := s) (v := 0) h hT (by omega) hs (Or.inr (Or.inr ⟨rfl, 0, by omega, rfl⟩))
      refine ⟨M (0 + 9) 6 s, xst M1 (0 + 9) 6 (nI s) 0, xst M3 8 7 (nI (22 + s)) 0, ?_, ?_, hR⟩
      · unfold f_X7_wipes; rw [e_noScale t3, xb1_e, if_neg hq, if_pos rfl, xchk_t _ b5, c5, if_neg hz, g1, xb1_e, xchk_t _ b5, xlet_e]
      · have w8 : xst M1 (0 + 9) 6 (nI s) 0 8 = M 8 := by rw [xst_o (by decide), m8]
        unfold f_X8_wipes; rw [e_isScale (by rw [w8]; exact t5), xb1_e, if_neg hq, if_neg (by decide), a22, xchk_t _ b22, c22, w8, m22, if_neg hz, g3, xb1_e, xchk_t _ b22, xlet_e]
theorem s_sets : S_sets Rel := by
  intro a1 a2 M L h
  obtain ⟨ns, ne, hT, hF, hP, hI, hX, hl, hL⟩ := id h
  obtain ⟨h5, h6, t3, t4, t5, t6, tS, tE⟩ := id hT
  by_cases hq : oob a1 0 (nI ns - 1)
  · refine ⟨-1, M, M, ?_, ?_, h⟩
    · unfold f_X7_sets; rw [e_noScale t3, xb1_e, if_pos hq]; rfl
    · unfold f_X8_sets; rw [e_isScale t5, xb1_e, if_pos hq]; rfl
  · by_cases hq2 : oob a2 1 99
    · refine ⟨-1, M, M, ?_, ?_, h⟩
      · unfold f_X7_sets; rw [e_noScale t3, xb1_e, if_neg hq, if_pos rfl, e_beyond, xb1_e, if_pos hq2]; rfl
      · unfold f_X8_sets; rw [e_isScale t5, xb1_e, if_neg hq, if_neg (by decide), e_in, xb1_e, if_pos hq2]; rfl
    · obtain ⟨s, hs, rfl⟩ := in_nI (by omega) hq
      obtain ⟨w, hw1, hw2, hw3⟩ := in_1 (n := 99) 99 (by decide) (by decide) hq2
      have b5 := xb_nI (show s < 5 by omega) (by decide)
      have c5 : (nI s).toNatClampNeg = s := nI_clamp (by omega)
      have b12 := xb_nI (show 12 + s < 27 by omega) (by decide)
      have c12 : (nI (12 + s)).toNatClampNeg = 12 + s := nI_clamp (by omega)
      have a12 : (12 : Int32) + nI s = nI (12 + s) := nI_add 12 s
      have m12 := ((st_at hF.1).2 s hs).1
      by_cases hz : M (0 + 9) 4 s = a2
      · refine ⟨-2, M, M, ?_, ?_, h⟩
        · unfold f_X7_sets; rw [e_noScale t3, xb1_e, if_neg hq, if_pos rfl, e_beyond, xb1_e, if_neg hq2, if_pos rfl, xchk_t _ b5, c5, if_pos hz]
        · unfold f_X8_sets; rw [e_isScale t5, xb1_e, if_neg hq, if_neg (by decide), e_in, xb1_e, if_neg hq2, if_neg (by decide), a12, xchk_t _ b12, c12, m12, if_pos hz]
      · obtain ⟨M1, M3, g1, m3, m8, m9, g3, s7, s0, s9, hR, -⟩ := push_set (r := 4) (b := 12) (n := ns) (j := s) (v := a2) h hT (by omega) hs (Or.inr (Or.inl ⟨rfl, w, hw1, hw2, hw3⟩))
        refine ⟨M (0 + 9) 4 s, xst M1 (0 + 9) 4 (nI s) a2, xst M3 8 7 (nI (12 + s)) a2, ?_, ?_, hR⟩
        · unfold f_X7_sets; rw [e_noScale t3, xb1_e, if_neg hq, if_pos rfl, e_beyond, xb1_e, if_neg hq2, if_pos rfl, xchk_t _ b5, c5, if_neg hz, g1, xb1_e, xchk_t _ b5, xlet_e]
        · have w8 : xst M1 (0 + 9) 4 (nI s) a2 8 = M 8 := by rw [xst_o (by decide), m8]
          unfold f_X8_sets; rw [e_isScale (by rw [w8]; exact t5), xb1_e, if_neg hq, if_neg (by decide), e_in, xb1_e, if_neg hq2, if_neg (by decide), a12, xchk_t _ b12, c12, w8, m12, if_neg hz, g3, xb1_e, xchk_t _ b12, xlet_e]
theorem s_drops : S_drops Rel := by
  intro a1 M L h
  obtain ⟨ns, ne, hT, hF, hP, hI, hX, hl, hL⟩ := id h
  obtain ⟨h5, h6, t3, t4, t5, t6, tS, tE⟩ := id hT
  by_cases hq : oob a1 0 (nI ne - 1)
  · refine ⟨-1, M, M, ?_, ?_, h⟩
    · unfold f_X7_drops; rw [e_noEgg t4, xb1_e, if_pos hq]; rfl
    · unfold f_X8_drops; rw [e_isEgg t6, xb1_e, if_pos hq]; rfl
  · obtain ⟨s, hs, rfl⟩ := in_nI (by omega) hq
    have b6 := xb_nI (show s < 6 by omega) (by decide)
    have c6 : (nI s).toNatClampNeg = s := nI_clamp (by omega)
    have b27 := xb_nI (show s < 27 by omega) (by decide)
    have m0 := ((st_at hF.1).1 s hs).1
    by_cases hz : M (0 + 9) 2 s = 9
    · refine ⟨-2, M, M, ?_, ?_, h⟩
      · unfold f_X7_drops; rw [e_noEgg t4, xb1_e, if_neg hq, if_pos rfl, xchk_t _ b6, c6, if_pos hz]
      · unfold f_X8_drops; rw [e_isEgg t6, xb1_e, if_neg hq, if_neg (by decide), i32_z, xchk_t _ b27, c6, m0, if_pos hz]
    · obtain ⟨M1, M3, g1, m3, m8, m9, g3, s7, s0, s9, hR, -⟩ := push_set (r := 2) (b := 0) (n := ne) (j := s) (v := 9) h hT (by omega) hs (Or.inl ⟨rfl, 9, by omega, rfl⟩)
      rw [Nat.zero_add] at hR
      refine ⟨M (0 + 9) 2 s, xst M1 (0 + 9) 2 (nI s) 9, xst M3 8 7 (nI s) 9, ?_, ?_, hR⟩
      · unfold f_X7_drops; rw [e_noEgg t4, xb1_e, if_neg hq, if_pos rfl, xchk_t _ b6, c6, if_neg hz, g1, xb1_e, xchk_t _ b6, xlet_e]
      · have w8 : xst M1 (0 + 9) 2 (nI s) 9 8 = M 8 := by rw [xst_o (by decide), m8]
        unfold f_X8_drops; rw [e_isEgg (by rw [w8]; exact t6), xb1_e, if_neg hq, if_neg (by decide), i32_z, xchk_t _ b27, c6, w8, m0, if_neg hz, g3, xb1_e, xchk_t _ b27, xlet_e]
theorem s_takes : S_takes Rel := by
  intro a1 M L h
  obtain ⟨ns, ne, hT, hF, hP, hI, hX, hl, hL⟩ := id h
  obtain ⟨h5, h6, t3, t4, t5, t6, tS, tE⟩ := id hT
  by_cases hq : oob a1 0 (nI ne - 1)
  · refine ⟨-1, M, M, ?_, ?_, h⟩
    · unfold f_X7_takes; rw [e_noEgg t4, xb1_e, if_pos hq]; rfl
    · unfold f_X8_takes; rw [e_isEgg t6, xb1_e, if_pos hq]; rfl
  · obtain ⟨s, hs, rfl⟩ := in_nI (by omega) hq
    have b6 := xb_nI (show s < 6 by omega) (by decide)
    have c6 : (nI s).toNatClampNeg = s := nI_clamp (by omega)
    have b27 := xb_nI (show s < 27 by omega) (by decide)
    have m0 := ((st_at hF.1).1 s hs).1
    by_cases hz0 : M (0 + 9) 2 s = 0
    · refine ⟨-2, M, M, ?_, ?_, h⟩
      · unfold f_X7_takes; rw [e_noEgg t4, xb1_e, if_neg hq, if_pos rfl, xchk_t _ b6, c6, if_pos hz0]; rfl
      · unfold f_X8_takes; rw [e_isEgg t6, xb1_e, if_neg hq, if_neg (by decide), i32_z, xchk_t _ b27, c6, m0, if_pos hz0]; rfl
    · by_cases hz : M (0 + 9) 2 s = 9
      · refine ⟨-2, M, M, ?_, ?_, h⟩
        · unfold f_X7_takes; rw [e_noEgg t4, xb1_e, if_neg hq, if_pos rfl, xchk_t _ b6, c6, if_neg hz0, xchk_t _ b6, if_pos hz]; rfl
        · unfold f_X8_takes; rw [e_isEgg t6, xb1_e, if_neg hq, if_neg (by decide), i32_z, xchk_t _ b27, c6, m0, if_neg hz0, xchk_t _ b27, if_pos hz]; rfl
      · obtain ⟨M1, M3, g1, m3, m8, m9, g3, s7, s0, s9, hR, hrf⟩ := push_set (r := 2) (b := 0) (n := ne) (j := s) (v := 0) h hT (by omega) hs (Or.inl ⟨rfl, 0, by omega, rfl⟩)
        rw [Nat.zero_add] at hR
        have hrf' : rF ns ne (xst M1 (0 + 9) 2 (nI s) 0 (0 + 9)) (xst M3 8 7 (nI s) 0 8 7) 0 := by
          rw [show (0 : Nat) + s = s from Nat.zero_add s] at hrf; exact hrf
        have hn := nowM_f (M := xst M3 8 7 (nI s) 0) h5 h6 hrf'
        have n4 : nowM (xst M3 8 7 (nI s) 0) 8 0 4 = nI ne := by rw [nowM_8 _ (by decide), xst_r (by decide), s0 4 (by decide)]; exact t6
        obtain ⟨r, q1, q2⟩ := e_bitsIn (N := nowM (xst M3 8 7 (nI s) 0)) (a := 0) hn n4 h6
        refine ⟨nI (popN (pEn (xst M1 (0 + 9) 2 (nI s) 0 (0 + 9) 2) 0 ne)), xst M1 (0 + 9) 2 (nI s) 0, nowM (xst M3 8 7 (nI s) 0), ?_, ?_, hR.same (nowM_same _)⟩
        · have e3 : xst M1 (0 + 9) 2 (nI s) 0 3 0 1 = nI ne := by rw [xst_o (by decide), m3]; exact t4
          unfold f_X7_takes; rw [e_noEgg t4, xb1_e, if_neg hq, if_pos rfl, xchk_t _ b6, c6, if_neg hz0, xchk_t _ b6, if_neg hz, g1, xb1_e, xchk_t _ b6, xlet_e, e_howManyAt e3 h6, xb1_e]
        · have w8 : xst M1 (0 + 9) 2 (nI s) 0 8 = M 8 := by rw [xst_o (by decide), m8]
          unfold f_X8_takes; rw [e_isEgg (by rw [w8]; exact t6), xb1_e, if_neg hq, if_neg (by decide), i32_z, xchk_t _ b27, c6, w8, m0, if_neg hz0, xchk_t _ b27, if_neg hz, g3, xb1_e, xchk_t _ b27, xlet_e, asIt, xb1_e, q1, xb1_e, q2, xb1_e]
