theorem l_up2 (L : xLL) (a b : Int64) (k : Nat) : va_up (va_up L k (L k + a)) k (va_up L k (L k + a) k + b) = va_up L k (L k + (a + b)) := by
  funext j
  unfold va_up
  by_cases h : j = k
  · subst h; simp [Int64.add_assoc]
  · simp [h]
theorem Rel.long {M : xMem} {L : xLL} (h : Rel M L) (c : Int64) : Rel M (va_up (va_up L 0 (L 0 + c)) 8 (va_up L 0 (L 0 + c) 8 + c)) := by
  obtain ⟨ns, ne, hT, hF, hP, hI, hX, hl, hL⟩ := h
  refine ⟨ns, ne, hT, hF, hP, hI, hX, hl, ?_⟩
  simp [va_up, hL]
theorem s_rate : S_rate Rel := by
  intro a1 a2 M L h
  obtain ⟨ns, ne, hT, hF, hP, hI, hX, hl, hL⟩ := id h
  obtain ⟨h5, h6, t3, t4, t5, t6, tS, tE⟩ := id hT
  by_cases hq2 : oob a2 0 (nI ne - 1)
  · refine ⟨-1000000, L, M, L, ?_, ?_, h⟩
    · unfold f_X7_rate; rw [e_noEgg t4, xb1_e, if_pos hq2]; rfl
    · unfold f_X8_rate; rw [e_in, xb1_e, e_isEgg t6, xb1_e, if_pos hq2]
      by_cases hq : oob a1 0 5
      · rw [if_pos hq]; rfl
      · rw [if_neg hq]; rfl
  · obtain ⟨e, he, rfl⟩ := in_nI (by omega) hq2
    by_cases hq : oob a1 0 5
    · refine ⟨-1000000, L, M, L, ?_, ?_, h⟩
      · have n : ∀ c : Int32, 0 ≤ c.toInt → c.toInt ≤ 5 → ¬ a1 = c := fun c y1 y2 y => by
          rcases hq with hq | hq
          · rw [i32_lt, y, show (0 : Int32).toInt = 0 by decide] at hq; omega
          · rw [i32_lt, y, show (5 : Int32).toInt = 5 by decide] at hq; omega
        unfold f_X7_rate
        rw [e_noEgg t4, xb1_e, if_neg hq2, if_pos rfl, if_neg (n 0 (by decide) (by decide)), if_neg (n 1 (by decide) (by decide)), if_neg (n 2 (by decide) (by decide)), if_neg (n 3 (by decide) (by decide)), if_neg (n 4 (by decide) (by decide)), if_neg (n 5 (by decide) (by decide))]
      · unfold f_X8_rate; rw [e_in, xb1_e, if_pos hq]; rfl
    · have b6 := xb_nI (show e < 6 by omega) (by decide)
      have ce : (nI e).toNatClampNeg = e := nI_clamp (by omega)
      have be := xb_nI (show e < 27 by omega) (by decide)
      have b6e := xb_nI (show 6 + e < 27 by omega) (by decide)
      have c6e : (nI (6 + e)).toNatClampNeg = 6 + e := nI_clamp (by omega)
      have a6 : (6 : Int32) + nI e = nI (6 + e) := nI_add 6 e
      have hn := nowM_f h5 h6 hF.1
      have n0 : nowM M 8 0 0 = nI ns := by rw [nowM_8 M (by decide)]; exact t5
      have n4 : nowM M 8 0 4 = nI ne := by rw [nowM_8 M (by decide)]; exact t6
      have m1 : nowM M 8 7 (6 + e) = M (0 + 9) 3 e := by rw [nowM_8 M (by decide)]; exact ((st_at hF.1).1 e he).2
      have m2 : nowM M 8 7 e = M (0 + 9) 2 e := by rw [nowM_8 M (by decide)]; exact ((st_at hF.1).1 e he).1
      obtain ⟨r, q1, q2⟩ := e_bitsIn (N := nowM M) (a := M (0 + 9) 2 e) hn n4 h6
      have egg : ∀ L' : xLL, f_X7_rateEgg (nI e) M L' = some (M (0 + 9) 3 e, va_up L' 0 (L' 0 + 1)) := fun L' => by
        unfold f_X7_rateEgg; rw [xlet_e, xchk_t _ b6, ce]
      have brown : ∀ L' : xLL, f_X7_rateBrown (nI e) M L' = some (M (0 + 9) 3 e + nI (popN (pEn (M (0 + 9) 2) (M (0 + 9) 2 e) ne)), va_up L' 0 (L' 0 + 11)) := fun L' => by
        unfold f_X7_rateBrown; rw [xlet_e, egg, xb2_e, xchk_t _ b6, ce, e_howManyAt t4 h6, xb1_e, l_up2]; rfl
      have two : ∀ L' : xLL, f_X7_rateDouble (nI e) M L' = some (M (0 + 9) 3 e - nI ns, va_up L' 0 (L' 0 + 101)) := fun L' => by
        unfold f_X7_rateDouble; rw [xlet_e, egg, xb2_e, t3, l_up2]; rfl
      have k8 : f_X8_rate a1 (nI e) M = fun L' => (if a1 = 1 then some (M (0 + 9) 3 e + nI (popN (pEn (M (0 + 9) 2) (M (0 + 9) 2 e) ne)), nowM M, va_up L' 8 (L' 8 + 11)) else if a1 = 2 then some (M (0 + 9) 3 e - nI ns, nowM M, va_up L' 8 (L' 8 + 101)) else if a1 = 3 then some (2 * (M (0 + 9) 3 e + nI (popN (pEn (M (0 + 9) 2) (M (0 + 9) 2 e) ne))), nowM M, va_up L' 8 (L' 8 + 1011)) else if a1 = 4 then some (M (0 + 9) 3 e - nI ns + nI e, nowM M, va_up L' 8 (L' 8 + 10101)) else if a1 = 5 then some (M (0 + 9) 3 e + pS (M (0 + 9) 6) ns, nowM M, va_up L' 8 (L' 8 + 100001)) else some (M (0 + 9) 3 e, nowM M, va_up L' 8 (L' 8 + 1))) := by
        funext L'
        unfold f_X8_rate
        rw [e_in, xb1_e, if_neg hq, if_neg (by decide), e_isEgg t6, xb1_e, if_neg hq2, if_neg (by decide), asIt, xb1_e, a6, xchk_t _ b6e, i32_z, xchk_t _ be, ce, m2, q1, xb1_e, q2, xb1_e, c6e, m1, n0, e_fellAll hn n0 h5]
        simp only [xlet_e, xb1_e]
      have fin : ∀ (v : Int32) (c : Int64), f_X7_rate a1 (nI e) M L = some (v, va_up L 0 (L 0 + c)) → (∀ L' : xLL, f_X8_rate a1 (nI e) M L' = some (v, nowM M, va_up L' 8 (L' 8 + c))) → ∃ (r : Int32) (L1 : xLL) (M2 : xMem) (L2 : xLL), f_X7_rate a1 (nI e) M L = some (r, L1) ∧ f_X8_rate a1 (nI e) M L1 = some (r, M2, L2) ∧ Rel M2 L2 := fun v c y1 y2 => ⟨v, _, _, _, y1, y2 _, (h.long c).same (nowM_same M)⟩
      have k7 : f_X7_rate a1 (nI e) M L = (if a1 = 0 then xb2 (f_X7_rateEgg (nI e) M L) (fun r54 L54 => some (r54, L54)) else if a1 = 1 then xb2 (f_X7_rateBrown (nI e) M L) (fun r54 L54 => some (r54, L54)) else if a1 = 2 then xb2 (f_X7_rateDouble (nI e) M L) (fun r54 L54 => some (r54, L54)) else if a1 = 3 then xb2 (f_X7_rateCracked (nI e) M L) (fun r54 L54 => some (r54, L54)) else if a1 = 4 then xb2 (f_X7_rateDuck (nI e) M L) (fun r54 L54 => some (r54, L54)) else if a1 = 5 then xb2 (f_X7_rateBantam (nI e) M L) (fun r54 L54 => some (r54, L54)) else some (-1000000, L)) := by
        unfold f_X7_rate
        rw [e_noEgg t4, xb1_e, if_neg hq2, if_pos rfl]
      by_cases q0 : a1 = 0
      · refine fin (M (0 + 9) 3 e) 1 (by rw [k7, if_pos q0, egg, xb2_e]) (fun L' => ?_)
        rw [k8, q0]; rfl
      · by_cases w1 : a1 = 1
        · refine fin _ 11 (by rw [k7, if_neg q0, if_pos w1, brown, xb2_e]) (fun L' => ?_)
          rw [k8]; exact if_pos w1
        · by_cases w2 : a1 = 2
          · refine fin _ 101 (by rw [k7, if_neg q0, if_neg w1, if_pos w2, two, xb2_e]) (fun L' => ?_)
            rw [k8]; simp only [if_neg w1, if_pos w2]
          · by_cases w3 : a1 = 3
            · refine fin (2 * (M (0 + 9) 3 e + nI (popN (pEn (M (0 + 9) 2) (M (0 + 9) 2 e) ne)))) 1011 ?_ (fun L' => ?_)
              · rw [k7, if_neg q0, if_neg w1, if_neg w2, if_pos w3]
                unfold f_X7_rateCracked
                rw [xlet_e, brown, xb2_e, xb2_e, l_up2]; rfl
              · rw [k8]; simp only [if_neg w1, if_neg w2, if_pos w3]
            · by_cases w4 : a1 = 4
              · refine fin (M (0 + 9) 3 e - nI ns + nI e) 10101 ?_ (fun L' => ?_)
                · rw [k7, if_neg q0, if_neg w1, if_neg w2, if_neg w3, if_pos w4]
                  unfold f_X7_rateDuck
                  rw [xlet_e, two, xb2_e, xb2_e, l_up2]; rfl
                · rw [k8]; simp only [if_neg w1, if_neg w2, if_neg w3, if_pos w4]
              · by_cases w5 : a1 = 5
                · refine fin (M (0 + 9) 3 e + pS (M (0 + 9) 6) ns) 100001 ?_ (fun L' => ?_)
                  · rw [k7, if_neg q0, if_neg w1, if_neg w2, if_neg w3, if_neg w4, if_pos w5]
                    unfold f_X7_rateBantam
                    rw [xlet_e, egg, xb2_e, e_allFallen t3 h5, xb1_e, xb2_e, l_up2]; rfl
                  · rw [k8]; simp only [if_neg w1, if_neg w2, if_neg w3, if_neg w4, if_pos w5]
                · exfalso
                  obtain ⟨j, hj, rfl⟩ := in_c (n := 5) 5 (by decide) (by decide) hq
                  have : j = 0 ∨ j = 1 ∨ j = 2 ∨ j = 3 ∨ j = 4 ∨ j = 5 := by omega
                  rcases this with rfl | rfl | rfl | rfl | rfl | rfl
                  · exact q0 rfl
                  · exact w1 rfl
                  · exact w2 rfl
                  · exact w3 rfl
                  · exact w4 rfl
                  · exact w5 rfl
