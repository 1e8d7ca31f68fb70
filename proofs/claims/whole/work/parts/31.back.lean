theorem s_back : S_back Rel := by
  intro a1 M L h
  obtain ⟨ns, ne, hT, hF, hP, hI, hX, hl, hL⟩ := id h
  obtain ⟨h5, h6, t3, t4, t5, t6, tS, tE⟩ := id hT
  by_cases hq : oob a1 0 1
  · refine ⟨-1, M, M, ?_, ?_, h⟩
    · unfold f_X7_back; rw [e_beyond, xb1_e, if_pos hq]; rfl
    · unfold f_X8_back; rw [e_in, xb1_e, if_pos hq]; rfl
  · obtain ⟨s, hs, rfl⟩ := in_c (n := 1) 1 (by decide) (by decide) hq
    have b2 := xb_nI (show s < 2 by omega) (by decide)
    have c2 : (nI s).toNatClampNeg = s := nI_clamp (by omega)
    obtain ⟨z1, z2⟩ := hI s (by omega)
    rcases z2 with z2 | ⟨z2, z3, z4⟩
    · refine ⟨-2, M, M, ?_, ?_, h⟩
      · unfold f_X7_back; rw [e_beyond, xb1_e, if_neg hq, if_pos rfl, xchk_t _ b2, c2, if_pos z2]
      · unfold f_X8_back; rw [e_in, xb1_e, if_neg hq, if_neg (by decide), xchk_t _ b2, c2, z1, if_pos z2]
    · have hz : ¬ M 0 7 s = 0 := by rw [z2]; decide
      obtain ⟨M1, g1, g2, g3⟩ := e_become (i := 0) (j := s + 2) (by omega) M
      obtain ⟨M2, hM2⟩ : ∃ M2, M2 = xsf M1 4 2 0 := ⟨_, rfl⟩
      have o2 : ∀ o, o ≠ 4 → o ≠ 0 + 9 → M2 o = M o := fun o y1 y2 => by rw [hM2, xsf_o y1, g3 o y2]
      have f2 : sameF (M2 (0 + 9)) (M (s + 2 + 9)) := by rw [hM2, xsf_o (by decide)]; exact g2
      have e3 : M2 3 0 1 = nI ne := by rw [o2 3 (by decide) (by decide)]; exact t4
      have m8 : M2 8 = M 8 := o2 8 (by decide) (by decide)
      have e1 : f_X7_back (nI s) M = some (nI (popN (pEn (M2 (0 + 9) 2) 0 ne)), M2) := by
        unfold f_X7_back
        rw [e_beyond, xb1_e, if_neg hq, if_pos rfl, xchk_t _ b2, c2, if_neg hz, xchk_t _ b2, g1, xb1_e, xlet_e, ← hM2, e_howManyAt e3 h6, xb1_e]
      have hc := e_copy (r0 := 7) (n0 := 27) (r2 := 10) (n2 := 54) (a := 0) (b := 27 * s) (M := M2) (by decide) (by decide) (by omega) (by decide) (by decide)
      obtain ⟨M3, hM3⟩ : ∃ M3, M3 = xsf (xs M2 8 7 (va_cpy (M2 8 10) (M2 8 7) (27 * s) 0 27)) 8 8 0 := ⟨_, rfl⟩
      have r8 : ∀ r, r ≠ 0 → r ≠ 7 → M3 8 r = M 8 r := fun r y1 y2 => by rw [hM3, xsf_r y1, xs_ne _ _ _ _ (by intro z; exact y2 (Prod.mk.inj z).2), m8]
      have r80 : ∀ k, k ≠ 8 → M3 8 0 k = M 8 0 k := fun k y => by rw [hM3, xsf_k y, xs_ne _ _ _ _ (by decide), m8]
      have o3 : ∀ o, o ≠ 8 → M3 o = M2 o := fun o y => by rw [hM3, xsf_o y, xs_o y]
      have r7 : M3 8 7 = va_cpy (M 8 10) (M 8 7) (27 * s) 0 27 := by rw [hM3, xsf_r (by decide), xs_same, m8]
      have hrf : rF ns ne (M2 (0 + 9)) (M3 8 7) 0 := by rw [r7]; exact f2.rF h5 h6 (rF_cpy h5 h6 z3)
      have hn := nowM_f (M := M3) h5 h6 hrf
      have n4 : nowM M3 8 0 4 = nI ne := by rw [nowM_8 _ (by decide), r80 4 (by decide)]; exact t6
      obtain ⟨r, q1, q2⟩ := e_bitsIn (N := nowM M3) (a := 0) hn n4 h6
      have e2 : f_X8_back (nI s) M2 = some (nI (popN (pEn (M2 (0 + 9) 2) 0 ne)), nowM M3) := by
        unfold f_X8_back
        have hc' : f_X8_copy 8 7 27 0 8 10 54 (nI (27 * s)) M2 = some (xs M2 8 7 (va_cpy (M2 8 10) (M2 8 7) (27 * s) 0 27)) := hc
        rw [e_in, xb1_e, if_neg hq, if_neg (by decide), xchk_t _ b2, c2, m8, z1, if_neg hz, show (27 : Int32) * nI s = nI (27 * s) from pk_mul 27 s, hc', xb1_e, xlet_e, ← hM3, asIt, xb1_e, q1, xb1_e, q2, xb1_e]
      refine ⟨_, M2, nowM M3, e1, e2, Rel.same (nowM_same M3) ⟨ns, ne, ?_, ?_, ?_, fun i hi => ?_, ?_, ?_, hL⟩⟩
      · unfold rT at hT ⊢
        rw [o3 3 (by decide), o2 3 (by decide) (by decide), r80 0 (by decide), r80 4 (by decide), r8 2 (by decide) (by decide), r8 3 (by decide) (by decide), r8 4 (by decide) (by decide), r8 6 (by decide) (by decide)]
        exact hT
      · rw [o3 (0 + 9) (by decide)]
        exact ⟨hrf, f2.vF h5 h6 z4⟩
      · obtain ⟨kn, lt, p1, p2, p3, p4, p5, p6⟩ := hP
        refine ⟨0, lt, by omega, p2, ?_, ?_, ?_, fun j hj => absurd hj (by omega)⟩
        · rw [o3 4 (by decide), hM2, xsf_k (by decide), g3 4 (by decide)]; exact p3
        · rw [o3 4 (by decide), hM2, xsf_0]; rfl
        · rw [hM3, xsf_0]; rfl
      · rw [o3 0 (by decide), o2 0 (by decide) (by decide), o3 (i + 2 + 9) (by omega), o2 (i + 2 + 9) (by omega) (by omega), r8 11 (by decide) (by decide), r8 10 (by decide) (by decide)]
        exact hI i hi
      · unfold rX at hX ⊢
        rw [o3 7 (by decide), o2 7 (by decide) (by decide), r80 11 (by decide), r8 13 (by decide) (by decide)]
        exact hX
      · unfold rL at hl ⊢
        rw [o3 1 (by decide), o2 1 (by decide) (by decide), r80 15 (by decide), r8 15 (by decide) (by decide)]
        exact hl
theorem swk_lt {k x ns : Nat} (hk : k + 1 < ns) (hx : x < ns) : (if x = k + 1 then k else if x = k then k + 1 else x) < ns := by
  by_cases a : x = k + 1
  · rw [if_pos a]; omega
  · rw [if_neg a]
    by_cases b : x = k
    · rw [if_pos b]; omega
    · rw [if_neg b]; exact hx
theorem swk_inj {k t u : Nat} (h : (if t = k + 1 then k else if t = k then k + 1 else t) = (if u = k + 1 then k else if u = k then k + 1 else u)) : t = u := by
  by_cases a : t = k + 1
  · rw [if_pos a] at h
    by_cases c : u = k + 1
    · omega
    · rw [if_neg c] at h
      by_cases d : u = k
      · rw [if_pos d] at h; omega
      · rw [if_neg d] at h; omega
  · rw [if_neg a] at h
    by_cases b : t = k
    · rw [if_pos b] at h
      by_cases c : u = k + 1
      · rw [if_pos c] at h; omega
      · rw [if_neg c] at h
        by_cases d : u = k
        · omega
        · rw [if_neg d] at h; omega
    · rw [if_neg b] at h
      by_cases c : u = k + 1
      · rw [if_pos c] at h; omega
      · rw [if_neg c] at h
        by_cases d : u = k
        · rw [if_pos d] at h; omega
        · rw [if_neg d] at h; exact h
theorem s_shifts : S_shifts Rel := by
  intro a1 M L h
  obtain ⟨ns, ne, hT, hF, ⟨kn, lt, p1, p2, p3, p4, p5, p6⟩, hI, hX, hl, hL⟩ := id h
  obtain ⟨h5, h6, t3, t4, t5, t6, tS, tE⟩ := id hT
  by_cases hq : oob a1 0 (nI ns - 1)
  · refine ⟨-1, M, M, ?_, ?_, h⟩
    · unfold f_X7_shifts; rw [e_noScale t3, xb1_e, if_pos hq]; rfl
    · unfold f_X8_shifts; rw [e_isScale t5, xb1_e, if_pos hq]; rfl
  · obtain ⟨s, hs, rfl⟩ := in_nI (by omega) hq
    obtain ⟨k, hk, hks⟩ := place_ex hF.2 h5 hs
    have hn1 : nI ns - 1 = nI (ns - 1) := by
      obtain ⟨q, rfl⟩ : ∃ q, ns = q + 1 := ⟨ns - 1, by omega⟩
      rw [nI_pred]; rfl
    by_cases hlast : k = ns - 1
    · refine ⟨-2, M, M, ?_, ?_, h⟩
      · unfold f_X7_shifts
        rw [e_noScale t3, xb1_e, if_neg hq, if_pos rfl, e_placeOf hF.2 h5 hk hks, xb1_e, t3, hn1, if_neg (nI_nlt (by omega) (by omega))]
      · unfold f_X8_shifts
        rw [e_isScale t5, xb1_e, if_neg hq, if_neg (by decide), e_placeOfM hF.1 hF.2 t5 h5 hk hks, xb1_e, t5, hn1, if_pos (by rw [hlast])]
    · have hk1 : k + 1 < ns := by omega
      obtain ⟨M1, g1, a1, a2, a3, a4⟩ := e_remember p3 p2 p4 p1
      have hm : (lt + 1) % 10 < 10 := Nat.mod_lt _ (by decide)
      have m8 : M1 8 = M 8 := a4 8 (by decide) (by omega)
      have m9 : M1 (0 + 9) = M (0 + 9) := a4 (0 + 9) (by decide) (by omega)
      have ck : (nI k).toNatClampNeg = k := nI_clamp (by omega)
      have ck1 : (nI (k + 1)).toNatClampNeg = k + 1 := nI_clamp (by omega)
      have bk := xb_nI (show k < 5 by omega) (by decide)
      have bk1 := xb_nI (show k + 1 < 5 by omega) (by decide)
      obtain ⟨M2, hM2⟩ : ∃ M2, M2 = xst (xst M1 (0 + 9) 5 (nI k) (M (0 + 9) 5 (k + 1))) (0 + 9) 5 (nI (k + 1)) (nI s) := ⟨_, rfl⟩
      have e1 : f_X7_shifts (nI s) M = some (nI (k + 1), M2) := by
        unfold f_X7_shifts
        rw [e_noScale t3, xb1_e, if_neg hq, if_pos rfl, e_placeOf hF.2 h5 hk hks, xb1_e, t3, hn1, if_pos (nI_lt (by omega) (by omega)), g1, xb1_e, nI_1, xchk_t _ bk1, xchk_t _ bk, ck1, m9, xlet_e, xchk_t _ bk1, xlet_e, ← hM2]
      have w8 : M2 8 = M 8 := by rw [hM2, xst_o (by decide), xst_o (by decide), m8]
      obtain ⟨M3, g3, c1, c2, c3, c4, c5⟩ := e_remembers (M := M2) (by rw [w8]; exact p5) p1
      have s7 : M3 8 7 = M 8 7 := by rw [c3 7 (by decide) (by decide), w8]
      have hst := (st_at hF.1).2
      have r1 : M 8 7 (17 + k + 1) = M (0 + 9) 5 (k + 1) := by have := (hst (k + 1) hk1).2.1; rwa [show 17 + (k + 1) = 17 + k + 1 by omega] at this
      have cq : (nI (17 + k)).toNatClampNeg = 17 + k := nI_clamp (by omega)
      have cq1 : (nI (17 + k + 1)).toNatClampNeg = 17 + k + 1 := nI_clamp (by omega)
      have bq := xb_nI (show 17 + k < 27 by omega) (by decide)
      have bq1 := xb_nI (show 17 + k + 1 < 27 by omega) (by decide)
      obtain ⟨M4, hM4⟩ : ∃ M4, M4 = xst (xst M3 8 7 (nI (17 + k)) (M (0 + 9) 5 (k + 1))) 8 7 (nI (17 + k + 1)) (nI s) := ⟨_, rfl⟩
      have n9 : M2 (0 + 9) = fun q x => if q = 5 then (if x = k + 1 then nI s else if x = k then M (0 + 9) 5 (k + 1) else M (0 + 9) 5 x) else M (0 + 9) q x := by
        funext q x
        by_cases hq5 : q = 5
        · subst hq5
          rw [if_pos rfl, hM2, xst_e (by omega), xst_e (by omega), m9]
        · rw [if_neg hq5, hM2, xst_r hq5, xst_r hq5, m9]
      have hrow : ∀ q, q ≠ 5 → M2 (0 + 9) q = M (0 + 9) q := fun q hq5 => by rw [n9]; funext x; exact if_neg hq5
      have hrow5 : ∀ x, M2 (0 + 9) 5 x = if x = k + 1 then nI s else if x = k then M (0 + 9) 5 (k + 1) else M (0 + 9) 5 x := fun x => by rw [n9]; exact if_pos rfl
      have hpl : f_X8_placeOf (nI s) M2 = some (nI k) := by
        refine e_placeOfM (F := M (0 + 9)) (ns := ns) (ne := ne) ?_ hF.2 ?_ h5 hk hks
        · rw [w8]; exact hF.1
        · rw [w8]; exact t5
      have e2 : f_X8_shifts (nI s) M2 = some (nI (k + 1), M4) := by
        unfold f_X8_shifts
        rw [e_isScale (by rw [w8]; exact t5), xb1_e, if_neg hq, if_neg (by decide), hpl, xb1_e, w8, t5, hn1, if_neg (fun z => hlast ((nI_eq (by omega) (by omega)).mp z)), g3, xb1_e, show (17 : Int32) + nI k = nI (17 + k) from nI_add 17 k, nI_1, nI_1, xchk_t _ bq1, xchk_t _ bq, cq1, s7, r1, xlet_e, xchk_t _ bq1, xlet_e, ← hM4]
      have s4 : ∀ x, M4 8 7 x = if x = 17 + k + 1 then nI s else if x = 17 + k then M (0 + 9) 5 (k + 1) else M 8 7 x := fun x => by
        rw [hM4, xst_e (by omega), xst_e (by omega), s7]
      have o4 : M4 (0 + 9) = M2 (0 + 9) := by rw [hM4, xst_o (by decide), xst_o (by decide), c4 (0 + 9) (by decide)]
      refine ⟨nI (k + 1), M2, M4, e1, e2, push hT hF.1 hF.2 p1 p2 p6 hI hX hl hL a1 a2 a3 a4 (fun o ho => by rw [hM2, xst_o ho, xst_o ho]) c1 c2 c3 c4 c5 (fun o ho => by rw [hM4, xst_o ho, xst_o ho]) (fun r hr _ => by rw [hM4, xst_r hr, xst_r hr]) ?_ ?_⟩
      · rw [o4]
        refine ⟨fun e he => ⟨?_, ?_⟩, fun t ht => ⟨?_, ?_, ?_⟩⟩
        · rw [s4, hrow 2 (by decide), if_neg (by omega), if_neg (by omega)]; exact (hF.1.1 e he).1
        · rw [s4, hrow 3 (by decide), if_neg (by omega), if_neg (by omega)]; exact (hF.1.1 e he).2
        · rw [s4, hrow 4 (by decide), if_neg (by omega), if_neg (by omega)]; exact (hF.1.2 t ht).1
        · rw [s4, hrow5]
          by_cases y1 : t = k + 1
          · rw [if_pos (by omega), if_pos y1]
          · rw [if_neg (by omega), if_neg y1]
            by_cases y2 : t = k
            · rw [if_pos (by omega), if_pos y2]
            · rw [if_neg (by omega), if_neg y2]; exact (hF.1.2 t ht).2.1
        · rw [s4, hrow 6 (by decide), if_neg (by omega), if_neg (by omega)]; exact (hF.1.2 t ht).2.2
      · rw [o4]
        have hinj := hF.2.2.2
        refine ⟨fun e he => ?_, fun t ht => ⟨?_, ?_, ?_⟩, fun t u ht hu e => ?_⟩
        · rw [hrow 2 (by decide), hrow 3 (by decide)]; exact hF.2.1 e he
        · rw [hrow 4 (by decide)]; exact (hF.2.2.1 t ht).1
        · rw [hrow5]
          by_cases y1 : t = k + 1
          · rw [if_pos y1]; exact ⟨s, hs, rfl⟩
          · rw [if_neg y1]
            by_cases y2 : t = k
            · rw [if_pos y2]; exact (hF.2.2.1 (k + 1) hk1).2.1
            · rw [if_neg y2]; exact (hF.2.2.1 t ht).2.1
        · rw [hrow 6 (by decide)]; exact (hF.2.2.1 t ht).2.2
        · rw [hrow5, hrow5] at e
          have sw : ∀ x, x < ns → (if x = k + 1 then nI s else if x = k then M (0 + 9) 5 (k + 1) else M (0 + 9) 5 x) = M (0 + 9) 5 (if x = k + 1 then k else if x = k then k + 1 else x) := fun x hx => by
            by_cases y1 : x = k + 1
            · rw [if_pos y1, if_pos y1, hks]
            · rw [if_neg y1, if_neg y1]
              by_cases y2 : x = k
              · rw [if_pos y2, if_pos y2]
              · rw [if_neg y2, if_neg y2]
          rw [sw t ht, sw u hu] at e
          exact swk_inj (hinj _ _ (swk_lt hk1 ht) (swk_lt hk1 hu) e)
