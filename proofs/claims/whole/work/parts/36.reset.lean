theorem i32_add {a b : Int32} (h1 : -1073741824 ≤ a.toInt) (h2 : a.toInt ≤ 1073741823) (h3 : -1073741824 ≤ b.toInt) (h4 : b.toInt ≤ 1073741823) : (a + b).toInt = a.toInt + b.toInt := by
  rw [Int32.toInt_add]
  exact Int.bmod_eq_of_le (by omega) (by omega)
theorem i32_sub {a b : Int32} (h1 : -1073741824 ≤ a.toInt) (h2 : a.toInt ≤ 1073741823) (h3 : -1073741824 ≤ b.toInt) (h4 : b.toInt ≤ 1073741823) : (a - b).toInt = a.toInt - b.toInt := by
  rw [Int32.toInt_sub]
  exact Int.bmod_eq_of_le (by omega) (by omega)
theorem rs_a {a : Int32} (h1 : -2000 ≤ a.toInt) (h2 : a.toInt ≤ 2000) : a < 99 ↔ a + 1 ≤ 99 := by
  rw [i32_lt, i32_le, i32_add (by omega) (by omega) (by decide) (by decide), show (99 : Int32).toInt = 99 by decide, show (1 : Int32).toInt = 1 by decide]
  omega
theorem rs_b {a z : Int32} (h1 : -2000 ≤ a.toInt) (h2 : a.toInt ≤ 2000) (h3 : 0 ≤ z.toInt) (h4 : z.toInt ≤ 2000) : (if (0 : Int32) < a - z then a - z else 0) = if a ≤ z then 0 else a - z := by
  have e : (0 : Int32) < a - z ↔ ¬ a ≤ z := by
    rw [i32_lt, i32_le, i32_sub (by omega) (by omega) (by omega) (by omega), show (0 : Int32).toInt = 0 by decide]
    omega
  by_cases h : a ≤ z
  · rw [if_pos h, if_neg (fun q => e.mp q h)]
  · rw [if_neg h, if_pos (e.mpr h)]
theorem rs_c {a z : Int32} (h1 : -2000 ≤ a.toInt) (h2 : a.toInt ≤ 2000) (h3 : -2000 ≤ z.toInt) (h4 : z.toInt ≤ 2000) : (if (0 : Int32) < a - z then a - z else 0) = if a ≤ z then 0 else a - z := by
  have e : (0 : Int32) < a - z ↔ ¬ a ≤ z := by
    rw [i32_lt, i32_le, i32_sub (by omega) (by omega) (by omega) (by omega), show (0 : Int32).toInt = 0 by decide]
    omega
  by_cases h : a ≤ z
  · rw [if_pos h, if_neg (fun q => e.mp q h)]
  · rw [if_neg h, if_pos (e.mpr h)]
theorem s_reset : S_reset Rel := by
  intro a1 a2 M L h
  obtain ⟨ns, ne, hT, hF, hP, hI, hX, hl, hL⟩ := id h
  obtain ⟨h5, h6, t3, t4, t5, t6, tS, tE⟩ := id hT
  by_cases hq : oob a1 0 (nI ne - 1)
  · refine ⟨-1, M, ?_, ?_, h⟩
    · unfold f_X7_reset; rw [e_noEgg t4, xb1_e, if_pos hq]; rfl
    · unfold f_X8_reset; rw [e_isEgg t6, xb1_e, if_pos hq]; rfl
  by_cases hq2 : oob a2 0 (nI ns - 1)
  · refine ⟨-1, M, ?_, ?_, h⟩
    · unfold f_X7_reset; rw [e_noEgg t4, xb1_e, if_neg hq, if_pos rfl, e_noScale t3, xb1_e, if_pos hq2]; rfl
    · unfold f_X8_reset; rw [e_isEgg t6, xb1_e, if_neg hq, if_neg (by decide), e_isScale t5, xb1_e, if_pos hq2]; rfl
  obtain ⟨e, he, rfl⟩ := in_nI (by omega) hq
  obtain ⟨g, hg, rfl⟩ := in_nI (by omega) hq2
  have b6 := xb_nI (show e < 6 by omega) (by decide)
  have c6 : (nI e).toNatClampNeg = e := nI_clamp (by omega)
  have b27 := xb_nI (show e < 27 by omega) (by decide)
  have m0 := ((st_at hF.1).1 e he).1
  rcases Classical.em (¬ M (0 + 9) 2 e = 0) with hz | hz'
  · refine ⟨-2, M, ?_, ?_, h⟩
    · unfold f_X7_reset; rw [e_noEgg t4, xb1_e, if_neg hq, if_pos rfl, e_noScale t3, xb1_e, if_neg hq2, if_pos rfl, xchk_t _ b6, c6, if_neg hz]
    · unfold f_X8_reset; rw [e_isEgg t6, xb1_e, if_neg hq, if_neg (by decide), e_isScale t5, xb1_e, if_neg hq2, if_neg (by decide), i32_z, xchk_t _ b27, c6, m0, if_neg hz]
  have hz : M (0 + 9) 2 e = 0 := Classical.not_not.mp hz'
  have hn := nowM_f h5 h6 hF.1
  obtain ⟨hS1, hS2⟩ := st_at hn
  have n4 : nowM M 8 0 4 = nI ne := by rw [nowM_8 M (by decide)]; exact t6
  obtain ⟨p, hp, hpg⟩ := place_ex hF.2 h5 hg
  obtain ⟨kd, hkd, hK1⟩ := (tE e he).1
  have hK2 : nowM M 8 6 e = nI kd := by rw [nowM_8 M (by decide), (tE e he).2, hK1]
  -- what is told of a place, once for class and reference
  have hfull : ∀ s, s < ns → f_X0_isFull 0 (nI s) M = some (pFull (M 3 5) (M (0 + 9) 2) ne s) ∧ f_X8_isFull (nI s) (nowM M) = some (pFull (M 3 5) (M (0 + 9) 2) ne s) := fun s hs => by
    refine ⟨e_isFull t4 h6 (by omega), ?_⟩
    rw [e_isFullM hn n4 h6 (by omega)]
    unfold pFull
    rw [nowM_8 M (by decide), (tS s hs).2.2.2.2.2]
  have hhigh : ∀ s w, s < ns → 1 ≤ w → w ≤ 99 → ∃ x y : Nat, x ≤ 102 ∧ y ≤ 999 ∧ f_X6_seems (nI e) (nI w) M = some (nI x) ∧ f_X0_stiffness 0 (nI s) M = some (nI y) ∧ f_X8_seemsAs (nI e) (nI w) (nowM M) = some (nI x) ∧ f_X8_stiffOf (nI s) (nowM M) = some (nI y) := fun s w hs w1 w2 => by
    obtain ⟨x, hx, hx2⟩ := seems_ok hkd w2
    obtain ⟨q, hq', hsk⟩ := (tS s hs).2.1
    obtain ⟨d, hd, hD⟩ := (hF.2.2.1 s hs).2.2
    obtain ⟨y, hy, hy2⟩ := stiff_ok hq' hd
    refine ⟨x, y, hx, hy, ?_, ?_, ?_, ?_⟩
    · rw [e_seems (by omega), hK1, hx2]
    · rw [e_stiffness (by omega), hsk, hD, hy2]
    · rw [e_seemsAs (by omega), hK2, hx2]
    · rw [e_stiffOf hn hs h5, nowM_8 M (by decide), (tS s hs).2.2.2.2.1, hsk, hD, hy2]
  have hleak : ∀ w, 1 ≤ w → w ≤ 99 → ∃ w', 1 ≤ w' ∧ w' ≤ 99 ∧ f_X6_leaked (nI e) (nI w) M = some (nI w') ∧ f_X8_lighter (nI e) (nI w) (nowM M) = some (nI w') := fun w w1 w2 => by
    obtain ⟨w', q1, q2, q3⟩ := leak_ok hkd w1 w2
    exact ⟨w', q1, q2, by rw [e_leaked (by omega) w1 w2, hK1, q3], by rw [e_lighter (by omega), hK2, q3]⟩
  have key : ∀ n j w c, j ≤ p → p - j < n → 1 ≤ w → w ≤ 99 → ∃ r, f_X0_leastChange_l13 0 (nI e) (nI g) M n (nI w) c (nI j) = some r ∧ (pFull (M 3 5) (M (0 + 9) 2) ne g = 0 → f_X8_reset_l63 (nI e) (nI g) (nowM M) n c (nI w) (nI j) = some (r, nowM M)) ∧ (pFull (M 3 5) (M (0 + 9) 2) ne g ≠ 0 → r = -9) := by
    intro n
    induction n with
    | zero => intro j w c h1 h2; omega
    | succ n ih =>
      intro j w c h1 h2 w1 w2
      have hjn : j < ns := by omega
      obtain ⟨s, hs, hR⟩ := (hF.2.2.1 j hjn).2.1
      obtain ⟨x, y, hx, hy, v1, v2, v3, v4⟩ := hhigh s w hs w1 w2
      obtain ⟨z, z1, z2, hZ⟩ := (hF.2.2.1 s hs).1
      have b5 := xb_nI (show s < 5 by omega) (by decide)
      have c5 : (nI s).toNatClampNeg = s := nI_clamp (by omega)
      have a17 : (17 : Int32) + nI j = nI (17 + j) := nI_add 17 j
      have b17 := xb_nI (show 17 + j < 27 by omega) (by decide)
      have m17 : nowM M 8 27 (nI (17 + j)).toNatClampNeg = nI s := by rw [nI_clamp (by omega), (hS2 j hjn).2.1, hR]
      have a12 : (12 : Int32) + nI s = nI (12 + s) := nI_add 12 s
      have b12 := xb_nI (show 12 + s < 27 by omega) (by decide)
      have m12 : nowM M 8 27 (nI (12 + s)).toNatClampNeg = nI z := by rw [nI_clamp (by omega), (hS2 s hs).1, hZ]
      have ti : (nI x - nI y).toInt = (x : Int) - y := pk_sub_toInt (by omega) (by omega)
      have ti1 : (nI x - nI y + 1).toInt = (x : Int) - y + 1 := by rw [i32_add (by omega) (by omega) (by decide) (by decide), ti]; rfl
      have tz : (nI z).toInt = (z : Int) := nI_toInt (by omega)
      rw [f_X0_leastChange_l13, f_X8_reset_l63, t3, if_neg (le_nI (by omega) (by omega) hjn), xchk_t _ (xb_nI (show j < 5 by omega) (by decide)), v1, xb1_e, nI_clamp (by omega), hR, v2, xb1_e, (hfull s hs).1, xb1_e, c5, hZ, a17, xchk_t _ b17, xchk_t _ b17, m17]
      by_cases hjp : j = p
      · have hsg : s = g := by
          rw [hjp, hpg] at hR
          exact ((nI_eq (by omega) (by omega)).mp hR).symm
        subst hsg
        rw [if_pos rfl, if_pos rfl]
        by_cases hful : pFull (M 3 5) (M (0 + 9) 2) ne s = 0
        · rw [if_pos hful, v3, xb1_e, v4, xb1_e, a12, xchk_t _ b12, xchk_t _ b12, m12]
          by_cases hone : (1 : Int32) ≤ nI x - nI y
          · rw [if_pos hone, if_pos hone, xchk_t _ b5, rs_c (by omega) (by omega) (by omega) (by omega)]
            unfold f_X0_leastChange_b99 f_X8_reset_b235
            refine ⟨_, rfl, fun _ => ?_, fun q => absurd hful q⟩
            by_cases hle : nI z ≤ nI x - nI y
            · rw [if_pos hle, if_pos hle]
            · rw [if_neg hle, if_neg hle]
          · rw [if_neg hone, if_neg hone]
            exact ⟨_, rfl, fun _ => rfl, fun q => absurd hful q⟩
        · rw [if_neg hful]
          exact ⟨_, rfl, fun q => absurd q hful, fun _ => rfl⟩
      · have hsg : ¬ nI s = nI g := fun q => hjp (hF.2.2.2 j p hjn hp (by rw [hR, hpg, q]))
        rw [if_neg hsg, if_neg hsg, (hfull s hs).2, xb1_e]
        obtain ⟨w', q1, q2, q3, q4⟩ := hleak w w1 w2
        by_cases hful : pFull (M 3 5) (M (0 + 9) 2) ne s = 0
        · rw [if_pos hful, if_pos hful, v3, xb1_e, v4, xb1_e]
          unfold f_X8_reset_b118 f_X0_leastChange_b115
          rw [if_pos hful, a17, m17, a12, xchk_t _ b12, xchk_t _ b12, m12]
          by_cases h99 : nI x - nI y < 99
          · rw [if_pos h99, if_pos ((rs_a (by omega) (by omega)).mp h99), nI_clamp (by omega), hR, xchk_t _ b5, c5, hZ, rs_c (by omega) (by omega) (by omega) (by omega)]
            unfold f_X0_leastChange_b142 f_X8_reset_b163
            rw [q3, q4, xb1_e, xb1_e, xb1_e, nI_1]
            obtain ⟨r, i1, i2, i3⟩ := ih (j + 1) w' (c + if nI x - nI y + 1 ≤ nI z then 0 else nI x - nI y + 1 - nI z) (by omega) (by omega) q1 q2
            refine ⟨r, i1, fun q => ?_, i3⟩
            rw [← i2 q]
            by_cases hle : nI x - nI y + 1 ≤ nI z
            · rw [if_pos hle, if_pos hle]
            · rw [if_neg hle, if_neg hle]
          · rw [if_neg h99, if_neg (fun q => h99 ((rs_a (by omega) (by omega)).mpr q))]
            exact ⟨_, rfl, fun _ => rfl, fun _ => rfl⟩
        · rw [if_neg hful, if_neg hful]
          unfold f_X8_reset_b118 f_X0_leastChange_b115
          have z1' : (1 : Int32) ≤ nI z := by rw [i32_le, tz, show (1 : Int32).toInt = 1 by decide]; omega
          rw [if_neg hful, a17, m17, a12, xchk_t _ b12, m12, if_pos (by decide), if_pos z1']
          unfold f_X0_leastChange_b142 f_X8_reset_b163
          rw [q3, q4, xb1_e, xb1_e, nI_1]
          exact ih (j + 1) w' (c + 0) (by omega) (by omega) q1 q2
  obtain ⟨w, w1, w2, w3⟩ := (hF.2.1 e he).2
  obtain ⟨r, i1, i2, i3⟩ := key FU 0 w 0 (by omega) (FU_gt (by omega)) w1 w2
  have m6 : nowM M 8 27 (6 + e) = nI w := by rw [(hS1 e he).2, w3]
  refine ⟨r, nowM M, ?_, ?_, h.same (nowM_same M)⟩
  · unfold f_X7_reset; rw [e_noEgg t4, xb1_e, if_neg hq, if_pos rfl, e_noScale t3, xb1_e, if_neg hq2, if_pos rfl, xchk_t _ b6, c6, if_pos hz]
    unfold f_X0_leastChange
    rw [xchk_t _ b6, c6, w3]
    rw [show (nI 0) = (0 : Int32) from rfl] at i1
    rw [i1, xb1_e]
  · unfold f_X8_reset; rw [e_isEgg t6, xb1_e, if_neg hq, if_neg (by decide), e_isScale t5, xb1_e, if_neg hq2, if_neg (by decide), i32_z, xchk_t _ b27, c6, m0, if_pos hz, asIt, xb1_e, (hfull g hg).2, xb1_e]
    by_cases hful : pFull (M 3 5) (M (0 + 9) 2) ne g = 0
    · rw [if_pos hful, show (6 : Int32) + nI e = nI (6 + e) from nI_add 6 e, xchk_t _ (xb_nI (show 6 + e < 27 by omega) (by decide)), nI_clamp (by omega), m6]
      exact i2 hful
    · rw [if_neg hful, i3 hful]
