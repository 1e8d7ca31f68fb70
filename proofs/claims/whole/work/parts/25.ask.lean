/-- every scale has one place in the row -/
theorem place_ex {ns ne s : Nat} {F : Nat → Nat → Int32} (hv : vF ns ne F) (h5 : ns ≤ 5) (hs : s < ns) : ∃ k, k < ns ∧ F 5 k = nI s := by
  have hR : ∀ k, ∃ j, k < ns → j < ns ∧ F 5 k = nI j := fun k => by
    by_cases hk : k < ns
    · obtain ⟨w, h1, h2⟩ := (hv.2.1 k hk).2.1
      exact ⟨w, fun _ => ⟨h1, h2⟩⟩
    · exact ⟨0, fun h => absurd h hk⟩
  have hf : ∃ f : Nat → Nat, ∀ k, k < ns → f k < ns ∧ F 5 k = nI (f k) := ⟨fun k => (hR k).choose, fun k hk => (hR k).choose_spec hk⟩
  obtain ⟨f, hf⟩ := hf
  obtain ⟨k, hk, hk2⟩ := fb_onto (f := f) (fun k hk => (hf k hk).1) (fun a b hab hb e => by
    have := hv.2.2 a b (by omega) hb (by rw [(hf a (by omega)).2, (hf b hb).2, e])
    omega) hs
  exact ⟨k, hk, by rw [(hf k hk).2, hk2]⟩
theorem e_placeOf {i ns ne s k : Nat} {M : xMem} (hv : vF ns ne (M (i + 9))) (h5 : ns ≤ 5) (hk : k < ns) (hs : M (i + 9) 5 k = nI s) : f_X0_placeOf i (nI s) M = some (nI k) := by
  have key : ∀ n j, j ≤ k → k - j < n → f_X0_placeOf_l2 i (nI s) M n (nI j) = some (nI k) := by
    intro n
    induction n with
    | zero => intro j h1 h2; omega
    | succ n ih =>
      intro j h1 h2
      rw [f_X0_placeOf_l2]
      unfold f_X0_placeOf_b23
      by_cases h4 : j = 4
      · have : k = j := by omega
        subst this
        rw [h4, if_pos (by decide)]
      · have h9 : ¬ (4 : Int32) ≤ nI j := le_nI (a := j) (b := 4) (by omega) (by decide) (by omega)
        rw [if_neg h9, xchk_t _ (xb_nI (by omega) (by decide)), nI_clamp (by omega)]
        by_cases hj : j = k
        · subst hj
          rw [if_pos hs]
        · have hne : ¬ M (i + 9) 5 j = nI s := fun q => hj (hv.2.2 j k (by omega) hk (q.trans hs.symm))
          rw [if_neg hne, nI_1]
          exact ih (j + 1) (by omega) (by omega)
  exact key FU 0 (by omega) (FU_gt (by omega))
theorem e_placeOfM {ns ne s k : Nat} {M : xMem} {F : Nat → Nat → Int32} (hF : rF ns ne F (M 8 7) 0) (hv : vF ns ne F) (hns : M 8 0 0 = nI ns) (h5 : ns ≤ 5) (hk : k < ns) (hs : F 5 k = nI s) : f_X8_placeOf (nI s) M = some (nI k) := by
  have key : ∀ n j v, j ≤ ns → ns - j < n → (k < j → v = nI k) → f_X8_placeOf_l4 (nI s) M n v (nI j) = some (nI k) := by
    intro n
    induction n with
    | zero => intro j v h1 h2; omega
    | succ n ih =>
      intro j v h1 h2 h3
      rw [f_X8_placeOf_l4, hns]
      by_cases hj : j = ns
      · subst hj
        rw [if_pos (i32_le_rfl _), h3 hk]
      · have hlt : j < ns := by omega
        have e1 : M 8 7 (17 + j) = F 5 j := by have := (hF.2 j hlt).2.1; rwa [Nat.zero_add] at this
        rw [if_neg (le_nI (by omega) (by omega) hlt), show (17 : Int32) + nI j = nI (17 + j) from nI_add 17 j, xchk_t _ (xb_nI (by omega) (by decide)), nI_clamp (by omega), e1]
        unfold f_X8_placeOf_b30
        rw [nI_1]
        by_cases hq : F 5 j = nI s
        · have : j = k := hv.2.2 j k hlt hk (hq.trans hs.symm)
          subst this
          rw [if_pos hq]
          exact ih (j + 1) _ (by omega) (by omega) (fun _ => rfl)
        · rw [if_neg hq]
          refine ih (j + 1) _ (by omega) (by omega) (fun h => h3 ?_)
          have : k ≠ j := fun q => hq (by rw [← q]; exact hs)
          omega
  exact key FU 0 0 (by omega) (FU_gt (by omega)) (fun h => absurd h (by omega))
theorem nowM_8 (M : xMem) {r : Nat} (h : r ≠ 27) : nowM M 8 r = M 8 r := by
  unfold nowM
  exact xs_ne _ _ _ _ (by intro q; exact h (Prod.mk.inj q).2)
theorem asIt (M : xMem) : f_X8_asItIs M = some (nowM M) := e_asItIs M
theorem s_now : S_now Rel := by
  intro a1 M L h
  obtain ⟨ns, ne, hT, hF, hP, hI, hX, hl, hL⟩ := id h
  obtain ⟨h5, h6, t3, t4, t5, t6, -⟩ := id hT
  obtain ⟨kn, lt, -, -, -, k4, k5, -⟩ := hP
  have hn := nowM_f h5 h6 hF.1
  have n0 : nowM M 8 0 0 = nI ns := by rw [nowM_8 M (by decide)]; exact t5
  have n4 : nowM M 8 0 4 = nI ne := by rw [nowM_8 M (by decide)]; exact t6
  have n8 : nowM M 8 0 8 = nI kn := by rw [nowM_8 M (by decide)]; exact k5
  have e : ∃ r, f_X7_now a1 M = some r ∧ f_X8_now a1 M = some (r, nowM M) := by
    unfold f_X7_now f_X8_now
    rw [asIt, xb1_e, e_eggsAt t4 h6, e_eggsAt t4 h6, e_rightEggs t3 h5 t4 h6 hF.2, e_allFallen t3 h5, e_inPlace hn n4 h6, e_inPlace hn n4 h6, e_right hn hF.2 n0 h5 n4 h6, e_fellAll hn n0 h5, k4, n8]
    simp only [xb1_e]
    by_cases q0 : a1 = 0
    · exact ⟨_, if_pos q0, if_pos q0⟩
    · rw [if_neg q0, if_neg q0]
      by_cases q1 : a1 = 1
      · exact ⟨_, if_pos q1, if_pos q1⟩
      · rw [if_neg q1, if_neg q1]
        by_cases q2 : a1 = 2
        · exact ⟨_, if_pos q2, if_pos q2⟩
        · rw [if_neg q2, if_neg q2]
          by_cases q3 : a1 = 3
          · exact ⟨_, if_pos q3, if_pos q3⟩
          · rw [if_neg q3, if_neg q3]
            by_cases q4 : a1 = 4
            · exact ⟨_, if_pos q4, if_pos q4⟩
            · exact ⟨_, if_neg q4, if_neg q4⟩
  obtain ⟨r, g1, g2⟩ := e
  exact ⟨r, nowM M, g1, g2, h.same (nowM_same M)⟩
theorem s_scale : S_scale Rel := by
  intro a1 a2 M L h
  obtain ⟨ns, ne, hT, hF, hP, hI, hX, hl, hL⟩ := id h
  obtain ⟨h5, h6, t3, t4, t5, t6, tS, tE⟩ := id hT
  by_cases hq : oob a1 0 (nI ns - 1)
  · refine ⟨-1, M, ?_, ?_, h⟩
    · unfold f_X7_scale; rw [e_noScale t3, xb1_e, if_pos hq]; rfl
    · unfold f_X8_scale; rw [e_isScale t5, xb1_e, if_pos hq]; rfl
  · obtain ⟨s, hs, rfl⟩ := in_nI (by omega) hq
    have hn := nowM_f h5 h6 hF.1
    have n4 : nowM M 8 0 4 = nI ne := by rw [nowM_8 M (by decide)]; exact t6
    have n0 : nowM M 8 0 0 = nI ns := by rw [nowM_8 M (by decide)]; exact t5
    have hF7 : rF ns ne (M (0 + 9)) (nowM M 8 7) 0 := by rw [nowM_8 M (by decide)]; exact hF.1
    obtain ⟨k, hk, hks⟩ := place_ex hF.2 h5 hs
    have m1 : nowM M 8 7 (12 + s) = M (0 + 9) 4 s := by have := (hF7.2 s hs).1; rwa [Nat.zero_add] at this
    have m2 : nowM M 8 7 (22 + s) = M (0 + 9) 6 s := by have := (hF7.2 s hs).2.2; rwa [Nat.zero_add] at this
    have m3 : nowM M 8 3 s = M 3 4 s := by rw [nowM_8 M (by decide)]; exact (tS s hs).2.2.2.2.1
    have m4 : nowM M 8 4 s = M 3 5 s := by rw [nowM_8 M (by decide)]; exact (tS s hs).2.2.2.2.2
    have e : ∃ r, f_X7_scale (nI s) a2 M = some r ∧ f_X8_scale (nI s) a2 M = some (r, nowM M) := by
      unfold f_X7_scale f_X8_scale
      rw [e_noScale t3, xb1_e, if_neg hq, e_isScale t5, xb1_e, if_neg hq, asIt, xb1_e, if_pos rfl, if_neg (by decide : ¬ (1 : Int32) = 0)]
      rw [e_placeOf hF.2 h5 hk hks, e_placeOfM hF7 hF.2 n0 h5 hk hks, e_eggsAt t4 h6, e_inPlace hn n4 h6, show (12 : Int32) + nI s = nI (12 + s) from nI_add 12 s, show (22 : Int32) + nI s = nI (22 + s) from nI_add 22 s, nI_1, show (1 : Int32) + nI s = nI (1 + s) from nI_add 1 s, Nat.add_comm 1 s]
      rw [xchk_t _ (xb_nI (show s < 5 by omega) (by decide)), xchk_t _ (xb_nI (show s < 5 by omega) (by decide)), xchk_t _ (xb_nI (show s < 5 by omega) (by decide)), xchk_t _ (xb_nI (show s < 5 by omega) (by decide)), xchk_t _ (xb_nI (show 12 + s < 27 by omega) (by decide)), xchk_t _ (xb_nI (show 22 + s < 27 by omega) (by decide)), xchk_t _ (xb_nI (show s < 5 by omega) (by decide)), xchk_t _ (xb_nI (show s < 5 by omega) (by decide)), nI_clamp (show s < 2 ^ 31 by omega), nI_clamp (show 12 + s < 2 ^ 31 by omega), nI_clamp (show 22 + s < 2 ^ 31 by omega), m1, m2, m3, m4]
      simp only [xb1_e]
      by_cases q0 : a2 = 0
      · exact ⟨_, if_pos q0, if_pos q0⟩
      · rw [if_neg q0, if_neg q0]
        by_cases q1 : a2 = 1
        · exact ⟨_, if_pos q1, if_pos q1⟩
        · rw [if_neg q1, if_neg q1]
          by_cases q2 : a2 = 2
          · exact ⟨_, if_pos q2, if_pos q2⟩
          · rw [if_neg q2, if_neg q2]
            by_cases q3 : a2 = 3
            · exact ⟨_, if_pos q3, if_pos q3⟩
            · rw [if_neg q3, if_neg q3]
              by_cases q4 : a2 = 4
              · exact ⟨_, if_pos q4, if_pos q4⟩
              · rw [if_neg q4, if_neg q4]
                by_cases q5 : a2 = 5
                · exact ⟨_, if_pos q5, if_pos q5⟩
                · exact ⟨_, if_neg q5, if_neg q5⟩
    obtain ⟨r, g1, g2⟩ := e
    exact ⟨r, nowM M, g1, g2, h.same (nowM_same M)⟩
theorem s_egg : S_egg Rel := by
  intro a1 a2 M L h
  obtain ⟨ns, ne, hT, hF, hP, hI, hX, hl, hL⟩ := id h
  obtain ⟨h5, h6, t3, t4, t5, t6, tS, tE⟩ := id hT
  by_cases hq : oob a1 0 (nI ne - 1)
  · refine ⟨-1, M, ?_, ?_, h⟩
    · unfold f_X7_egg; rw [e_noEgg t4, xb1_e, if_pos hq]; rfl
    · unfold f_X8_egg; rw [e_isEgg t6, xb1_e, if_pos hq]; rfl
  · obtain ⟨s, hs, rfl⟩ := in_nI (by omega) hq
    have hn := nowM_f h5 h6 hF.1
    have n0 : nowM M 8 0 0 = nI ns := by rw [nowM_8 M (by decide)]; exact t5
    have hF7 : rF ns ne (M (0 + 9)) (nowM M 8 7) 0 := by rw [nowM_8 M (by decide)]; exact hF.1
    have m1 : nowM M 8 7 (6 + s) = M (0 + 9) 3 s := by have := (hF7.1 s hs).2; rwa [Nat.zero_add] at this
    have m2 : nowM M 8 7 s = M (0 + 9) 2 s := by have := (hF7.1 s hs).1; rwa [Nat.zero_add] at this
    have m3 : nowM M 8 6 s = M 3 7 s := by rw [nowM_8 M (by decide)]; exact (tE s hs).2
    have e : ∃ r, f_X7_egg (nI s) a2 M = some r ∧ f_X8_egg (nI s) a2 M = some (r, nowM M) := by
      unfold f_X7_egg f_X8_egg
      rw [e_noEgg t4, xb1_e, if_neg hq, e_isEgg t6, xb1_e, if_neg hq, asIt, xb1_e, if_pos rfl, if_neg (by decide : ¬ (1 : Int32) = 0)]
      simp only [xchk_t _ (xb_nI (show s < 6 by omega) (by decide)), nI_clamp (show s < 2 ^ 31 by omega), i32_z, show (6 : Int32) + nI s = nI (6 + s) from nI_add 6 s, xchk_t _ (xb_nI (show 6 + s < 27 by omega) (by decide)), xchk_t _ (xb_nI (show s < 27 by omega) (by decide)), nI_clamp (show 6 + s < 2 ^ 31 by omega), m1, m2, m3, e_seems (show s < 6 by omega), e_seemsAs (show s < 6 by omega), e_belongs t3 h5 (show s < 6 by omega) hF.2, e_belongsAs hn hF.2 n0 h5 h6 hs, xb1_e]
      by_cases q0 : a2 = 0
      · exact ⟨_, if_pos q0, if_pos q0⟩
      · rw [if_neg q0, if_neg q0]
        by_cases q1 : a2 = 1
        · exact ⟨_, if_pos q1, if_pos q1⟩
        · rw [if_neg q1, if_neg q1]
          by_cases q2 : a2 = 2
          · exact ⟨_, if_pos q2, if_pos q2⟩
          · rw [if_neg q2, if_neg q2]
            by_cases q3 : a2 = 3
            · exact ⟨_, if_pos q3, if_pos q3⟩
            · rw [if_neg q3, if_neg q3]
              by_cases q4 : a2 = 4
              · exact ⟨_, if_pos q4, if_pos q4⟩
              · exact ⟨_, if_neg q4, if_neg q4⟩
    obtain ⟨r, g1, g2⟩ := e
    exact ⟨r, nowM M, g1, g2, h.same (nowM_same M)⟩
