theorem rF_up {ns ne r b n j : Nat} {F : Nat → Nat → Int32} {S : Nat → Int32} {v : Int32} (h : rF ns ne F S 0) (h5 : ns ≤ 5) (h6 : ne ≤ 6) (hb : (r = 2 ∧ b = 0 ∧ n = ne) ∨ (r = 3 ∧ b = 6 ∧ n = ne) ∨ (r = 6 ∧ b = 22 ∧ n = ns)) (hj : j < n) : rF ns ne (setF F r j v) (upd S (b + j) v) 0 := by
  have s1 : ∀ k, upd S (b + j) v k = if k = b + j then v else S k := fun _ => rfl
  refine ⟨fun e he => ⟨?_, ?_⟩, fun s hs => ⟨?_, ?_, ?_⟩⟩
  · have g := (h.1 e he).1
    rw [s1]
    by_cases hr : r = 2
    · subst hr; rw [setF_e]
      by_cases hej : e = j
      · rw [if_pos (by omega), if_pos hej]
      · rw [if_neg (by omega), if_neg hej]; exact g
    · rw [setF_r (by omega), if_neg (by omega)]; exact g
  · have g := (h.1 e he).2
    rw [s1]
    by_cases hr : r = 3
    · subst hr; rw [setF_e]
      by_cases hej : e = j
      · rw [if_pos (by omega), if_pos hej]
      · rw [if_neg (by omega), if_neg hej]; exact g
    · rw [setF_r (by omega), if_neg (by omega)]; exact g
  · have g := (h.2 s hs).1
    rw [s1, setF_r (by omega), if_neg (by omega)]; exact g
  · have g := (h.2 s hs).2.1
    rw [s1, setF_r (by omega), if_neg (by omega)]; exact g
  · have g := (h.2 s hs).2.2
    rw [s1]
    by_cases hr : r = 6
    · subst hr; rw [setF_e]
      by_cases hej : s = j
      · rw [if_pos (by omega), if_pos hej]
      · rw [if_neg (by omega), if_neg hej]; exact g
    · rw [setF_r (by omega), if_neg (by omega)]; exact g
theorem seems_ok {kd w : Nat} (hk : kd ≤ 5) (h2 : w ≤ 99) : ∃ w', w' ≤ 102 ∧ pSeems (nI kd) (nI w) = nI w' := by
  have key : ∀ kd, kd ≤ 5 → ∀ w, w ≤ 99 → pSeems (nI kd) (nI w) = nI (if kd = 2 then w + 3 else if kd = 4 then w + 3 else if kd = 5 then w / 2 else w) := by decide +kernel
  refine ⟨_, ?_, key kd hk w h2⟩
  split
  · omega
  · split
    · omega
    · split <;> omega
theorem stiff_ok {a d : Nat} (ha : a ≤ 9) (hd : d ≤ 999) : ∃ q, q ≤ 999 ∧ pStiff (nI a) (nI d) = nI q := by
  unfold pStiff
  by_cases h : a = 0
  · subst h; exact ⟨0, by omega, if_pos rfl⟩
  · refine ⟨d / a, Nat.le_trans (Nat.div_le_self d a) hd, ?_⟩
    rw [if_neg (nI_ne0 (by omega) (by omega)), pk_div (by omega) (by omega) (by omega)]
theorem tip_iff {x y z : Nat} (hx : x ≤ 200) (hy : y ≤ 999) (hz : z ≤ 99) : nI x - nI y < nI z ↔ nI x < nI z + nI y := by
  rw [nI_add, i32_lt, i32_lt, pk_sub_toInt (by omega) (by omega), nI_toInt (by omega), nI_toInt (by omega), nI_toInt (by omega)]
  omega
theorem xs_st {N0 : xMem} {S : Nat → Int32} {j : Nat} {v : Int32} (hj : j < 2 ^ 31) : xst (xs N0 8 27 S) 8 27 (nI j) v = xs N0 8 27 (upd S j v) := by
  unfold xst
  rw [xs_same, xs_xs, nI_clamp hj]
theorem e_rolled_l {N0 : xMem} {K Sk Rm : Nat → Int32} {ns ne e : Nat} (hns : N0 8 0 0 = nI ns) (h5 : ns ≤ 5) (hne : N0 8 0 4 = nI ne) (h6 : ne ≤ 6) (he : e < ne) (hK : N0 8 6 e = K e) (hK2 : ∃ w, w ≤ 5 ∧ K e = nI w) (hT : ∀ s, s < ns → N0 8 3 s = Sk s ∧ N0 8 4 s = Rm s ∧ ∃ w, w ≤ 9 ∧ Sk s = nI w) : ∀ n k F S, k ≤ ns → ns - k < n → vF ns ne F → rF ns ne F S 0 → ∃ S', f_X8_rolled_l2 (nI e) n (nI k) (xs N0 8 27 S) = some ((pRoll K Sk Rm ne e (ns - k) k F).1, xs N0 8 27 S') ∧ rF ns ne (pRoll K Sk Rm ne e (ns - k) k F).2 S' 0 := by
  intro n
  induction n with
  | zero => intro k F S h1 h2; omega
  | succ n ih =>
    intro k F S h1 h2 hv hF
    have u0 : ∀ r, r ≠ 27 → xs N0 8 27 S 8 r = N0 8 r := fun r hr => xs_ne _ _ _ _ (by intro z; exact hr (Prod.mk.inj z).2)
    have u27 : xs N0 8 27 S 8 27 = S := xs_same _ _ _ _
    have hF27 : rF ns ne F (xs N0 8 27 S 8 27) 0 := by rw [u27]; exact hF
    obtain ⟨hS1, hS2⟩ := st_at hF
    have be := xb_nI (show e < 27 by omega) (by decide)
    have ce : (nI e).toNatClampNeg = e := nI_clamp (by omega)
    have a6 : (6 : Int32) + nI e = nI (6 + e) := nI_add 6 e
    have b6 := xb_nI (show 6 + e < 27 by omega) (by decide)
    have c6 : (nI (6 + e)).toNatClampNeg = 6 + e := nI_clamp (by omega)
    rw [f_X8_rolled_l2, u0 0 (by decide), hns]
    by_cases hk : k = ns
    · subst hk
      rw [if_pos (i32_le_rfl _), Nat.sub_self, i32_z, xchk_t _ be, xlet_e, xs_st (by omega)]
      refine ⟨_, rfl, ?_⟩
      have := rF_up (r := 2) (b := 0) (n := ne) (j := e) (v := 8) hF h5 h6 (by omega) he
      rw [Nat.zero_add] at this
      exact this
    · have hlt : k < ns := by omega
      obtain ⟨s, hs, hR⟩ := (hv.2.1 k hlt).2.1
      obtain ⟨kd, hkd, hK1⟩ := hK2
      obtain ⟨w, w1, w2, w3⟩ := (hv.1 e he).2
      obtain ⟨d, hd, hD⟩ := (hv.2.1 s hs).2.2
      obtain ⟨z, z1, z2, hZ⟩ := (hv.2.1 s hs).1
      obtain ⟨t1, t2, q, hq, hSk⟩ := hT s hs
      obtain ⟨x, hx, hX⟩ := seems_ok hkd w2
      obtain ⟨y, hy, hY⟩ := stiff_ok hq hd
      have hv2 : vF ns ne (setF F 3 e (pLeak (K e) (F 3 e))) := vF_w hv (by rw [hK1, w3]; exact leak_ok hkd w1 w2)
      have hrf2 : rF ns ne (setF F 3 e (pLeak (K e) (F 3 e))) (upd S (6 + e) (pLeak (K e) (F 3 e))) 0 := rF_up (r := 3) (b := 6) (n := ne) hF h5 h6 (by omega) he
      obtain ⟨S', hi1, hi2⟩ := ih (k + 1) _ _ (by omega) (by omega) hv2 hrf2
      have hkk : f_X8_rolled_b105 (nI e) (nI k) (xs N0 8 27 S) (f_X8_rolled_l2 (nI e) n) = some ((pRoll K Sk Rm ne e (ns - (k + 1)) (k + 1) (setF F 3 e (pLeak (K e) (F 3 e)))).1, xs N0 8 27 S') := by
        unfold f_X8_rolled_b105
        rw [a6, xchk_t _ b6, c6, u27, (hS1 e he).2, e_lighter (by omega), u0 6 (by decide), hK, xb1_e, xchk_t _ b6, xlet_e, xs_st (by omega), nI_1]
        exact hi1
      have a17 : (17 : Int32) + nI k = nI (17 + k) := nI_add 17 k
      have a12 : (12 : Int32) + nI s = nI (12 + s) := nI_add 12 s
      have a22 : (22 : Int32) + nI s = nI (22 + s) := nI_add 22 s
      have b22 := xb_nI (show 22 + s < 27 by omega) (by decide)
      have c22 : (nI (22 + s)).toNatClampNeg = 22 + s := nI_clamp (by omega)
      have cs : (nI s).toNatClampNeg = s := nI_clamp (by omega)
      have hfull : f_X8_isFull (nI s) (xs N0 8 27 S) = some (pFull Rm (F 2) ne s) := by
        rw [e_isFullM hF27 (by rw [u0 0 (by decide)]; exact hne) h6 (by omega), u0 4 (by decide)]
        unfold pFull
        rw [t2]
      rw [if_neg (le_nI (by omega) (by omega) hlt), a17, xchk_t _ (xb_nI (show 17 + k < 27 by omega) (by decide)), a6, xchk_t _ b6, c6, u27, (hS1 e he).2, e_seemsAs (by omega), u0 6 (by decide), hK, xb1_e, nI_clamp (show 17 + k < 2 ^ 31 by omega), (hS2 k hlt).2.1, hR, a12, xchk_t _ (xb_nI (show 12 + s < 27 by omega) (by decide)), e_stiffOf hF27 hs h5, u0 3 (by decide), t1, xb1_e, nI_clamp (show 12 + s < 2 ^ 31 by omega), (hS2 s hs).1, hfull, xb1_e, hkk, show ns - k = ns - (k + 1) + 1 by omega, pRoll, hR, cs]
      have htip : (pSeems (K e) (F 3 e) < F 4 s + pStiff (Sk s) (F 6 s)) ↔ (pSeems (K e) (F 3 e) - pStiff (Sk s) (F 6 s) < F 4 s) := by
        rw [hK1, w3, hX, hSk, hD, hY, hZ]
        exact (tip_iff (by omega) hy z2).symm
      by_cases c1 : pSeems (K e) (F 3 e) - pStiff (Sk s) (F 6 s) < F 4 s
      · rw [if_pos (htip.mpr c1), if_pos c1]
        exact ⟨S', rfl, hi2⟩
      · rw [if_neg (fun y => c1 (htip.mp y)), if_neg c1]
        by_cases c2 : pFull Rm (F 2) ne s = 0
        · rw [if_pos c2, if_pos c2, i32_z, xchk_t _ be, xlet_e, xs_st (by omega), a22, xchk_t _ b22, xchk_t _ b22, show (1 : Int32) + nI s = nI s + 1 by rw [show (1 : Int32) + nI s = nI (1 + s) from nI_add 1 s, nI_1, Nat.add_comm]]
          have e27 : xs N0 8 27 (upd S e (nI s + 1)) 8 27 (22 + s) = F 6 s := by
            rw [xs_same]
            unfold upd
            rw [if_neg (by omega)]
            exact (hS2 s hs).2.2
          have e17 : xs N0 8 27 S 8 27 (nI (17 + k)).toNatClampNeg = nI s := by rw [u27, nI_clamp (by omega), (hS2 k hlt).2.1, hR]
          rw [c22, e27]
          unfold f_X8_rolled_b101
          rw [a17, e17, a22, xchk_t _ b22, c22, e27, xlet_e, xs_st (by omega), xlet_e, xs_st (by omega)]
          have hfin : ∀ v : Int32, rF ns ne (setF (setF F 2 e (nI s + 1)) 6 s v) (upd (upd S e (nI s + 1)) (22 + s) v) 0 := fun v => by
            have r1 := rF_up (r := 2) (b := 0) (n := ne) (j := e) (v := nI s + 1) hF h5 h6 (by omega) he
            rw [Nat.zero_add] at r1
            exact rF_up (r := 6) (b := 22) (n := ns) r1 h5 h6 (by omega) hs
          rw [hD]
          by_cases c9 : (999 : Int32) ≤ nI d
          · have hd9 : d = 999 := by
              have := (nI_leI (a := 999) (by decide) (by omega)).mp c9
              omega
            subst hd9
            rw [if_pos c9, if_neg (by decide)]
            exact ⟨_, rfl, hfin _⟩
          · have hd9 : d < 999 := by
              rcases Nat.lt_or_ge d 999 with y | y
              · exact y
              · exact absurd ((nI_leI (a := 999) (by decide) (by omega)).mpr y) c9
            rw [if_neg c9]
            have hv9 : (if nI d + 1 < (999 : Int32) then nI d + 1 else 999) = nI d + 1 := by
              by_cases y : d + 1 < 999
              · have y2 : nI d + 1 < (999 : Int32) := by rw [nI_1]; exact (nI_ltI (b := 999) (by omega) (by decide)).mpr y
                rw [if_pos y2]
              · have : d = 998 := by omega
                subst this
                decide
            rw [hv9, xchk_t _ b22]
            exact ⟨_, rfl, hfin _⟩
        · rw [if_neg c2, if_neg c2]
          exact ⟨S', rfl, hi2⟩
