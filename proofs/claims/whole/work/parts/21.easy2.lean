theorem char_nI {w : Nat} (h : w ≤ 255) : vp_nar .char (((nI w).toUInt32 % 65536).toInt32) = nI w := by
  rw [pk_vc, pk_char, pk_tn (by omega), Nat.mod_eq_of_lt (by omega)]
theorem s_type : S_type Rel := by
  intro a1 M L h
  obtain ⟨ns, ne, hT, hF, hP, hI, hX, ⟨tl, htl, hl1, hl2, hl3⟩, hL⟩ := id h
  by_cases hq : oob a1 0 255
  · refine ⟨-1, M, M, ?_, ?_, h⟩
    · unfold f_X7_type; rw [e_beyond, xb1_e, if_pos hq]; rfl
    · unfold f_X8_type; rw [e_in, xb1_e, if_pos hq]; rfl
  · obtain ⟨w, hw, rfl⟩ := in_c (n := 255) 255 (by decide) (by decide) hq
    by_cases ht : tl = 120
    · subst ht
      refine ⟨-3, M, M, ?_, ?_, h⟩
      · unfold f_X7_type; rw [e_beyond, xb1_e, if_neg hq, hl1]; rfl
      · unfold f_X8_type; rw [e_in, xb1_e, if_neg hq, hl2]; rfl
    · have hlt : tl < 120 := by omega
      have c1 : nI tl < 120 := (nI_ltI (b := 120) (by omega) (by decide)).mpr hlt
      have c2 : ¬ nI tl = 120 := fun e => ht ((nI_eq (b := 120) (by omega) (by decide)).mp e)
      refine ⟨nI (tl + 1), xsf (xst M 1 1 (nI tl) (nI w)) 1 1 (nI (tl + 1)), xsf (xst (xsf (xst M 1 1 (nI tl) (nI w)) 1 1 (nI (tl + 1))) 8 15 (nI tl) (nI w)) 8 15 (nI (tl + 1)), ?_, ?_, ns, ne, ?_, ?_, ?_, ?_, ?_, ⟨tl + 1, by omega, ?_, ?_, fun k hk => ?_⟩, hL⟩
      · unfold f_X7_type
        rw [e_beyond, xb1_e, if_neg hq, hl1, if_pos rfl, if_pos c1, xchk_t _ (xb_nI hlt (by decide)), xlet_e, xlet_e, char_nI hw]
        have e1 : xst M 1 1 (nI tl) (nI w) 1 0 1 + 1 = nI (tl + 1) := by rw [nI_succ]; simp [xst, xs, va_up, hl1]
        rw [e1]
        simp [xsf, xs, va_up, upd]
      · unfold f_X8_type
        have e0 : xsf (xst M 1 1 (nI tl) (nI w)) 1 1 (nI (tl + 1)) 8 0 15 = nI tl := by simp [xsf, xst, xs, va_up, hl2]
        rw [e_in, xb1_e, if_neg hq, if_neg (by decide), e0, if_neg c2, xchk_t _ (xb_nI hlt (by decide)), xlet_e, xlet_e]
        have e1 : xst (xsf (xst M 1 1 (nI tl) (nI w)) 1 1 (nI (tl + 1))) 8 15 (nI tl) (nI w) 8 0 15 + 1 = nI (tl + 1) := by rw [nI_succ]; simp [xst, xsf, xs, va_up, hl2]
        rw [e1]
        simp [xsf, xs, va_up, upd]
      · simpa [rT, xsf, xst, xs, va_up, upd] using hT
      · simpa [xsf, xst, xs, va_up, upd] using hF
      · obtain ⟨kn, lt, h1, h2, h3, h4, h5, h6⟩ := hP
        refine ⟨kn, lt, h1, h2, by simpa [xsf, xst, xs, va_up, upd] using h3, by simpa [xsf, xst, xs, va_up, upd] using h4, by simpa [xsf, xst, xs, va_up, upd] using h5, fun j hj => ?_⟩
        simpa [xsf, xst, xs, va_up, upd] using h6 j hj
      · intro i hi
        have := hI i hi
        simpa [xsf, xst, xs, va_up, upd] using this
      · simpa [rX, xsf, xst, xs, va_up, upd] using hX
      · simp [xsf, xst, xs, va_up, upd]
      · simp [xsf, xst, xs, va_up, upd]
      · have hc : (nI tl).toNatClampNeg = tl := nI_clamp (by omega)
        by_cases hk2 : k = tl
        · subst hk2
          refine ⟨by simp [xsf, xst, xs, va_up, upd, hc], w, hw, by simp [xsf, xst, xs, va_up, upd, hc]⟩
        · have := hl3 k (by omega)
          simpa [xsf, xst, xs, va_up, upd, hc, hk2] using this
theorem s_tested_26 {a1 a2 : Int32} {M : xMem} {L : xLL} (h : Rel M L) {w : Nat} (hw1 : 1 ≤ w) (hw2 : w ≤ 99) (ha : a1 = nI w) (hb : a2 = -9 ∨ ∃ j, (∀ ns, M 3 0 0 = nI ns → ns ≤ 5 → j < ns) ∧ a2 = nI j) : ∃ (r : Int32) (M1 M2 : xMem), f_X7_tested_b26 a1 a2 M = some (r, M1) ∧ f_X8_tested_b26 a1 a2 M1 = some (r, M2) ∧ Rel M2 L := by
  obtain ⟨ns, ne, hT, hF, hP, hI, ⟨nt, hnt, hx1, hx2, hx3⟩, hl, hL⟩ := id h
  by_cases ht : nt = 6
  · subst ht
    refine ⟨-3, M, M, ?_, ?_, h⟩
    · unfold f_X7_tested_b26; rw [hx1]; rfl
    · unfold f_X8_tested_b26; rw [hx2]; rfl
  · have hlt : nt < 6 := by omega
    have c1 : nI nt < 6 := (nI_ltI (b := 6) (by omega) (by decide)).mpr hlt
    have c2 : ¬ nI nt = 6 := fun e => ht ((nI_eq (b := 6) (by omega) (by decide)).mp e)
    have hc : (nI nt).toNatClampNeg = nt := nI_clamp (by omega)
    have hc2 : (nI (2 * nt)).toNatClampNeg = 2 * nt := nI_clamp (by omega)
    have hc3 : (nI (2 * nt + 1)).toNatClampNeg = 2 * nt + 1 := nI_clamp (by omega)
    have m2 : (2 : Int32) * nI nt = nI (2 * nt) := pk_mul 2 nt
    have hb2 : a2 = -9 ∨ ∃ j, j < ns ∧ a2 = nI j := by
      rcases hb with hb | ⟨j, hj, hb⟩
      · exact Or.inl hb
      · exact Or.inr ⟨j, hj ns hT.2.2.1 hT.1, hb⟩
    have e1 : f_X7_tested_b26 a1 a2 M = some (nI (nt + 1), xsf (xst (xst M 7 2 (nI nt) a1) 7 3 (nI nt) a2) 7 3 (nI (nt + 1))) := by
      unfold f_X7_tested_b26 f_X5_add
      have e0 : xst M 7 2 (nI nt) a1 7 0 3 = nI nt := by simp [xst, xs, va_up, hx1]
      have e01 : xst (xst M 7 2 (nI nt) a1) 7 3 (nI nt) a2 7 0 3 + 1 = nI (nt + 1) := by rw [nI_succ]; simp [xst, xs, va_up, hx1]
      rw [hx1, if_pos c1, xchk_t _ (xb_nI hlt (by decide)), xlet_e, e0, xchk_t _ (xb_nI hlt (by decide)), xlet_e, xlet_e, xb1_e, e01]
      simp [xsf, xs, va_up, upd]
    generalize hM1 : xsf (xst (xst M 7 2 (nI nt) a1) 7 3 (nI nt) a2) 7 3 (nI (nt + 1)) = M1 at e1
    have x2 : M1 8 0 11 = nI nt := by rw [← hM1]; simp [xsf, xst, xs, va_up, hx2]
    have e2 : f_X8_tested_b26 a1 a2 M1 = some (nI (nt + 1), xsf (xst (xst M1 8 13 (nI (2 * nt)) a1) 8 13 (nI (2 * nt + 1)) a2) 8 11 (nI (nt + 1))) := by
      unfold f_X8_tested_b26
      have e0 : xst M1 8 13 (nI (2 * nt)) a1 8 0 11 = nI nt := by simp [xst, xs, va_up, x2]
      have e01 : xst (xst M1 8 13 (nI (2 * nt)) a1) 8 13 (nI (2 * nt + 1)) a2 8 0 11 + 1 = nI (nt + 1) := by
        have z : xst (xst M1 8 13 (nI (2 * nt)) a1) 8 13 (nI (2 * nt + 1)) a2 8 0 11 = nI nt := by simp [xst, xs, va_up, x2]
        rw [z, nI_1]
      rw [x2, if_neg c2, m2, xchk_t _ (xb_nI (by omega) (by decide)), xlet_e, e0, m2, nI_1, xchk_t _ (xb_nI (by omega) (by decide)), xlet_e, xlet_e, e01]
      simp [xsf, xs, va_up, upd]
    refine ⟨nI (nt + 1), M1, _, e1, e2, ns, ne, ?_, ?_, ?_, ?_, ⟨nt + 1, by omega, ?_, ?_, fun k hk => ?_⟩, ?_, hL⟩
    · rw [← hM1]; simpa [rT, xsf, xst, xs, va_up, upd] using hT
    · rw [← hM1]; simpa [xsf, xst, xs, va_up, upd] using hF
    · obtain ⟨kn, lt, h1, h2, h3, h4, h5, h6⟩ := hP
      rw [← hM1]
      refine ⟨kn, lt, h1, h2, by simpa [xsf, xst, xs, va_up, upd] using h3, by simpa [xsf, xst, xs, va_up, upd] using h4, by simpa [xsf, xst, xs, va_up, upd] using h5, fun j hj => ?_⟩
      simpa [xsf, xst, xs, va_up, upd] using h6 j hj
    · intro i hi
      have := hI i hi
      rw [← hM1]
      simpa [xsf, xst, xs, va_up, upd] using this
    · rw [← hM1]; simp [xsf, xst, xs, va_up, upd]
    · simp [xsf, xst, xs, va_up, upd]
    · rw [← hM1]
      by_cases hk2 : k = nt
      · subst hk2
        refine ⟨⟨w, hw1, hw2, by simp [xsf, xst, xs, va_up, upd, hc, ha]⟩, by simp [xsf, xst, xs, va_up, upd, hc, hc2, hc3], by simp [xsf, xst, xs, va_up, upd, hc, hc2, hc3], ?_⟩
        simpa [xsf, xst, xs, va_up, upd, hc] using hb2
      · have h7 := hx3 k (by omega)
        have n1 : ¬ 2 * k = 2 * nt := by omega
        have n2 : ¬ 2 * k = 2 * nt + 1 := by omega
        have n3 : ¬ 2 * k + 1 = 2 * nt := by omega
        have n4 : ¬ 2 * k + 1 = 2 * nt + 1 := by omega
        simpa [xsf, xst, xs, va_up, upd, hc, hc2, hc3, hk2, n1, n2, n3, n4] using h7
    · rw [← hM1]; simpa [rL, xsf, xst, xs, va_up, upd] using hl
theorem s_tested : S_tested Rel := by
  intro a1 a2 M L h
  obtain ⟨ns, ne, hT, -⟩ := id h
  have hs3 := hT.2.2.1
  have hs8 := hT.2.2.2.2.1
  by_cases hq : oob a1 1 99
  · refine ⟨-1, M, M, ?_, ?_, h⟩
    · unfold f_X7_tested; rw [e_beyond, xb1_e, if_pos hq]; rfl
    · unfold f_X8_tested; rw [e_in, xb1_e, if_pos hq]; rfl
  · obtain ⟨w, hw1, hw2, hw3⟩ := in_1 (n := 99) 99 (by decide) (by decide) hq
    have k1 : f_X7_tested a1 a2 M = if a2 = -9 then f_X7_tested_b26 a1 a2 M else if oob a2 0 (nI ns - 1) then f_X7_tested_b24 M else f_X7_tested_b26 a1 a2 M := by
      unfold f_X7_tested
      rw [e_beyond, xb1_e, if_neg hq, if_pos rfl, e_noScale hs3, xb1_e]
      by_cases q9 : a2 = -9
      · rw [if_pos q9, if_pos q9]
      · rw [if_neg q9, if_neg q9]
        by_cases q8 : oob a2 0 (nI ns - 1) <;> simp [q8]
    have k2 : ∀ M1 : xMem, M1 8 0 0 = nI ns → f_X8_tested a1 a2 M1 = if oob a2 0 (nI ns - 1) then (if a2 = -9 then f_X8_tested_b26 a1 a2 M1 else f_X8_tested_b24 M1) else f_X8_tested_b26 a1 a2 M1 := by
      intro M1 h1
      unfold f_X8_tested
      rw [e_in, xb1_e, if_neg hq, if_neg (by decide), e_isScale h1, xb1_e]
      by_cases q8 : oob a2 0 (nI ns - 1) <;> simp [q8]
    by_cases q9 : a2 = -9
    · obtain ⟨r, M1, M2, g1, g2, g3⟩ := s_tested_26 h hw1 hw2 hw3 (Or.inl q9)
      have hm : M1 8 0 0 = nI ns := by
        unfold f_X7_tested_b26 at g1
        by_cases z : M 7 0 3 < 6
        · rw [if_pos z] at g1
          obtain ⟨M3, g4, g5⟩ := xb1_s g1
          unfold f_X5_add at g4
          obtain ⟨-, g4⟩ := xchk_s g4
          rw [xlet_e] at g4
          obtain ⟨-, g4⟩ := xchk_s g4
          rw [xlet_e, xlet_e] at g4
          obtain ⟨rfl, rfl⟩ := xinj2 g5
          obtain rfl := xinj1 g4
          simpa [xsf, xst, xs, va_up, upd] using hs8
        · rw [if_neg z] at g1
          obtain ⟨rfl, rfl⟩ := xinj2 g1
          exact hs8
      refine ⟨r, M1, M2, by rw [k1, if_pos q9]; exact g1, ?_, g3⟩
      rw [k2 M1 hm, if_pos (Or.inl (by rw [q9]; decide)), if_pos q9]
      exact g2
    · by_cases q8 : oob a2 0 (nI ns - 1)
      · refine ⟨-1, M, M, by rw [k1, if_neg q9, if_pos q8]; rfl, by rw [k2 M hs8, if_pos q8, if_neg q9]; rfl, h⟩
      · obtain ⟨j, hj, hj2⟩ := in_nI (by have := hT.1; omega) q8
        obtain ⟨r, M1, M2, g1, g2, g3⟩ := s_tested_26 h hw1 hw2 hw3 (Or.inr ⟨j, fun n2 e1 e2 => by
          have : n2 = ns := (nI_eq (by omega) (by have := hT.1; omega)).mp (e1.symm.trans hs3)
          omega, hj2⟩)
        have hm : M1 8 0 0 = nI ns := by
          unfold f_X7_tested_b26 at g1
          by_cases z : M 7 0 3 < 6
          · rw [if_pos z] at g1
            obtain ⟨M3, g4, g5⟩ := xb1_s g1
            unfold f_X5_add at g4
            obtain ⟨-, g4⟩ := xchk_s g4
            rw [xlet_e] at g4
            obtain ⟨-, g4⟩ := xchk_s g4
            rw [xlet_e, xlet_e] at g4
            obtain ⟨rfl, rfl⟩ := xinj2 g5
            obtain rfl := xinj1 g4
            simpa [xsf, xst, xs, va_up, upd] using hs8
          · rw [if_neg z] at g1
            obtain ⟨rfl, rfl⟩ := xinj2 g1
            exact hs8
        refine ⟨r, M1, M2, by rw [k1, if_neg q9, if_neg q8]; exact g1, ?_, g3⟩
        rw [k2 M1 hm, if_neg q8]
        exact g2
