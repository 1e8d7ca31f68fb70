/-! the reference's order of scales -/
theorem rowR_snoc {R : Nat → Int32} {pre : List Nat} {e : Nat} : rowR R (pre ++ [e]) = upd (rowR R pre) pre.length (nI e) := by
  funext k
  rw [upd_e]
  by_cases hk : k = pre.length
  · subst hk
    rw [if_pos rfl, rowR_s (d := e) (by rw [List.getElem?_append_right (Nat.le_refl _), Nat.sub_self]; rfl)]
  · rw [if_neg hk]
    unfold rowR
    by_cases hl : k < pre.length
    · rw [List.getElem?_append_left hl]
    · rw [List.getElem?_eq_none (by rw [List.length_append, List.length_singleton]; omega), List.getElem?_eq_none (by omega)]
theorem rF_row {ns ne : Nat} {F : Nat → Nat → Int32} {S : Nat → Int32} {pre : List Nat} {e : Nat} (h5 : ns ≤ 5) (h6 : ne ≤ 6) (h : rF ns ne (rowF F pre) S 0) (hl : pre.length < ns) : rF ns ne (rowF F (pre ++ [e])) (upd S (17 + pre.length) (nI e)) 0 := by
  have s1 : ∀ k, upd S (17 + pre.length) (nI e) k = if k = 17 + pre.length then nI e else S k := fun _ => rfl
  refine ⟨fun j hj => ?_, fun j hj => ?_⟩
  · have g := h.1 j hj
    rw [rowF_r (by decide), rowF_r (by decide)] at g ⊢
    rw [s1, if_neg (by omega), s1, if_neg (by omega)]
    exact g
  · have g := h.2 j hj
    rw [rowF_r (show 4 ≠ 5 by decide), rowF_r (show 6 ≠ 5 by decide), rowF_5] at g ⊢
    rw [s1 (0 + (12 + j)), if_neg (by omega), s1 (0 + (22 + j)), if_neg (by omega), s1, rowR_snoc, upd_e]
    refine ⟨g.1, ?_, g.2.2⟩
    by_cases hj2 : j = pre.length
    · rw [if_pos (by omega), if_pos hj2]
    · rw [if_neg (by omega), if_neg hj2]; exact g.2.1
theorem r_rollsAll {N1 : xMem} {K Sk Rm : Nat → Int32} {F : Nat → Nat → Int32} {ns ne : Nat} {S : Nat → Int32} (hT : tM N1 K Sk Rm ns ne) (hv : vF ns ne F) (hF : rF ns ne F S 0) : ∃ S', f_X8_rollsAll (xs N1 8 27 S) = some (xs N1 8 27 S') ∧ rF ns ne (rAll K Sk Rm ns ne F ne) S' 0 := by
  have h5 := hT.2.1
  have h6 := hT.2.2.2.1
  have hne := hT.2.2.1
  have hK : ∀ e, e < ne → ∃ w, w ≤ 5 ∧ K e = nI w := fun e he => (hT.2.2.2.2.1 e he).2
  have key : ∀ f k S, k ≤ ne → ne - k < f → rF ns ne (rAll K Sk Rm ns ne F k) S 0 → ∃ S', f_X8_rollsAll_l2 f (nI k) (xs N1 8 27 S) = some (xs N1 8 27 S') ∧ rF ns ne (rAll K Sk Rm ns ne F ne) S' 0 := by
    intro f
    induction f with
    | zero => intro k S h1 h2; omega
    | succ f ih =>
      intro k S h1 h2 hFk
      have e04 : xs N1 8 27 S 8 0 4 = nI ne := by rw [xs_ne _ _ _ _ (by decide)]; exact hne
      rw [f_X8_rollsAll_l2, e04]
      by_cases hk : k = ne
      · subst hk
        rw [if_pos (i32_le_rfl _)]
        exact ⟨S, rfl, hFk⟩
      · have hlt : k < ne := by omega
        have e27 : xs N1 8 27 S 8 27 k = rAll K Sk Rm ns ne F k 2 k := by rw [xs_same]; exact ((st_at hFk).1 k hlt).1
        rw [if_neg (le_nI (by omega) (by omega) hlt), i32_z, xchk_t _ (xb_nI (show k < 27 by omega) (by decide)), nI_clamp (by omega), e27]
        unfold f_X8_rollsAll_b27
        rw [nI_1]
        by_cases hz : rAll K Sk Rm ns ne F k 2 k = 0
        · obtain ⟨S', g1, g2⟩ := e_rolled (hT.up (R := S) (Or.inl rfl)) hlt (rAll_v (Sk := Sk) (Rm := Rm) h5 hK hv k h1) (by rw [xs_same]; exact hFk)
          rw [if_pos hz, g1, xb2_e, xs_xs]
          exact ih (k + 1) S' (by omega) (by omega) (by rw [rAll, if_pos hz]; exact g2)
        · rw [if_neg hz]
          exact ih (k + 1) S (by omega) (by omega) (by rw [rAll, if_neg hz]; exact hFk)
  exact key FU 0 S (by omega) (FU_gt (by omega)) hF
theorem r_rowp {N1 : xMem} {K Sk Rm : Nat → Int32} {F0 : Nat → Nat → Int32} {ns ne : Nat} {v : Int32} {k : Int32 → xMem → Option (Int32 × xMem)} (hT : tM N1 K Sk Rm ns ne) {p : List Nat} (hl : p.length = ns) (hp : rPa (N1 8 28) p) (hv : vF ns ne (rowF F0 p)) : ∀ q f pre S, pre ++ q = p → q.length < f → rF ns ne (rowF F0 pre) S 0 → ∃ S', f_X8_row_l63 v k f (nI pre.length) (xs N1 8 27 S) = if nI (scF ns ne (rAll K Sk Rm ns ne (rowF F0 p) ne)) ≤ v then k v (xs N1 8 27 S') else xb1 (f_X8_keepsOrder (xs N1 8 27 S')) (fun M => k (nI (scF ns ne (rAll K Sk Rm ns ne (rowF F0 p) ne))) M) := by
  have h5 := hT.2.1
  have h6 := hT.2.2.2.1
  have hns := hT.1
  have hK : ∀ e, e < ne → ∃ w, w ≤ 5 ∧ K e = nI w := fun e he => (hT.2.2.2.2.1 e he).2
  intro q
  induction q with
  | nil =>
    intro f pre S h1 h2 hF
    rw [List.append_nil] at h1
    subst h1
    cases f with
    | zero => exact absurd h2 (by omega)
    | succ f =>
      have e00 : xs N1 8 27 S 8 0 0 = nI ns := by rw [xs_ne _ _ _ _ (by decide)]; exact hns
      obtain ⟨S', g1, g2⟩ := r_rollsAll hT hv hF
      refine ⟨S', ?_⟩
      rw [f_X8_row_l63, e00, hl, if_pos (i32_le_rfl _), g1, xb1_e]
      exact r_score (hT.up (Or.inl rfl)) (rAll_v h5 hK hv ne (Nat.le_refl _)) (by rw [xs_same]; exact g2)
  | cons e q ih =>
    intro f pre S h1 h2 hF
    rw [List.length_cons] at h2
    cases f with
    | zero => exact absurd h2 (by omega)
    | succ f =>
      have hlen := congrArg List.length h1
      rw [List.length_append, List.length_cons] at hlen
      have e00 : xs N1 8 27 S 8 0 0 = nI ns := by rw [xs_ne _ _ _ _ (by decide)]; exact hns
      have hpe : p[pre.length]? = some e := by rw [← h1, List.getElem?_append_right (Nat.le_refl _), Nat.sub_self]; rfl
      have e28 : xs N1 8 27 S 8 28 pre.length = nI e := by rw [xs_ne _ _ _ _ (by decide)]; exact hp _ _ hpe
      obtain ⟨S'', i1⟩ := ih f (pre ++ [e]) (upd S (17 + pre.length) (nI e)) (by rw [← h1, List.append_assoc]; rfl) (by omega) (rF_row h5 h6 hF (by omega))
      refine ⟨S'', ?_⟩
      have a17 : (17 : Int32) + nI pre.length = nI (17 + pre.length) := nI_add 17 pre.length
      rw [f_X8_row_l63, e00, if_neg (le_nI (by omega) (by omega) (by omega)), xchk_t _ (xb_nI (show pre.length < 6 by omega) (by decide)), a17, xchk_t _ (xb_nI (show 17 + pre.length < 27 by omega) (by decide)), xlet_e, nI_clamp (show pre.length < 2 ^ 31 by omega), e28, xs_ut (by omega), nI_1]
      rw [List.length_append, List.length_singleton] at i1
      exact i1
theorem all_set : ∀ ns, ns ≤ 5 → ((1 : Int32) <<< (nI ns &&& 31)) - 1 = nI (2 ^ ns - 1) := by decide +kernel
theorem r_row_step {N0 : xMem} {K Sk Rm : Nat → Int32} {F0 : Nat → Nat → Int32} {ns ne : Nat} {a1 : Int32} (hT : tM N0 K Sk Rm ns ne) (hv : vF ns ne F0) (hF : rF ns ne F0 (N0 8 7) 0) : ∀ p, p.length = ns → (∀ d, d ∈ p → d < 6) → ∀ f st N, RS N0 N ns st → ∃ N', f_X8_row_l29 a1 (nI (6 ^ ns)) (f + 1) (moI st) (nI (enc p)) N = f_X8_row_l29 a1 (nI (6 ^ ns)) f (moI (if okB (sS ns) p = true then btr (scF ns ne (rAll K Sk Rm ns ne (rowF F0 p) ne)) p st else st)) (nI (enc p + 1)) N' ∧ RS N0 N' ns (if okB (sS ns) p = true then btr (scF ns ne (rAll K Sk Rm ns ne (rowF F0 p) ne)) p st else st) := by
  intro p hl hd f st N hR
  have h5 := hT.2.1
  have h6 := hT.2.2.2.1
  have he := enc_lt p hd
  rw [hl] at he
  have h66 : 6 ^ ns ≤ 46656 := Nat.le_trans (Nat.pow_le_pow_right (n := 6) (by decide) (show ns ≤ 6 by omega)) (by decide)
  obtain ⟨R, g1, g2⟩ := e_isOrder (M := N) (sS_lt h5) (p := p) (by omega) hd
  rw [hl] at g1
  have hR2 := hR.up (r := 28) (R := R) (Or.inr rfl)
  have e00 : N 8 0 0 = nI ns := by rw [hR.2.1 0 (by decide) (by decide) (by decide)]; exact hT.1
  rw [f_X8_row_l29, if_neg (le_nI (by omega) (by omega) he), e00, all_set ns h5, g1, xb2_e]
  by_cases hok : okB (sS ns) p = true
  · have hok' : okB (sB (2 ^ ns - 1)) p = true := hok
    rw [if_pos hok', if_neg (by decide), asIt, xb1_e, if_pos hok]
    have hT2 : tM (xs N 8 28 R) K Sk Rm ns ne := by
      refine tM.up (r := 28) ?_ (Or.inr (Or.inl rfl))
      exact hT.of8 (by rw [hR.2.1 0 (by decide) (by decide) (by decide)]) (by rw [hR.2.1 0 (by decide) (by decide) (by decide)]) (hR.2.1 3 (by decide) (by decide) (by decide)) (hR.2.1 4 (by decide) (by decide) (by decide)) (hR.2.1 6 (by decide) (by decide) (by decide))
    have e28 : xs N 8 28 R 8 28 = R := xs_same _ _ _ _
    have e7 : xs N 8 28 R 8 7 = N0 8 7 := by rw [xs_ne _ _ _ _ (by decide), hR.2.1 7 (by decide) (by decide) (by decide)]
    have hr0 : rowF F0 [] = F0 := by
      unfold rowF
      have : rowR (F0 5) [] = F0 5 := by
        funext k
        exact rowR_n (Nat.zero_le _)
      rw [this]
      funext a
      unfold va_up
      by_cases h : a = 5
      · simp [h]
      · simp [h]
    obtain ⟨S', i1⟩ := r_rowp (F0 := F0) (v := moI st) (k := f_X8_row_b121 (nI (enc p)) (f_X8_row_l29 a1 (nI (6 ^ ns)) f)) hT2 hl (by rw [e28]; exact g2) (rowF_v h5 hv hl hok) p FU [] (va_cpy (xs N 8 28 R 8 7) (xs N 8 28 R 8 27) 0 0 27) rfl (FU_gt (by omega)) (by
      rw [hr0, e7]
      exact rF_now h5 h6 hF)
    obtain ⟨N', j1, j2⟩ := r_best (k := f_X8_row_b121 (nI (enc p)) (f_X8_row_l29 a1 (nI (6 ^ ns)) f)) (hR2.up (r := 27) (R := S') (Or.inl rfl)) (scF_le ns ne (rAll K Sk Rm ns ne (rowF F0 p) ne)) hl (by omega) (by rw [xs_ne _ _ _ _ (by decide), e28]; exact g2)
    refine ⟨N', ?_, j2⟩
    have i2 := i1.trans j1
    unfold nowM
    refine Eq.trans i2 ?_
    unfold f_X8_row_b121
    rw [nI_1]
  · have hok' : ¬ okB (sB (2 ^ ns - 1)) p = true := hok
    rw [if_neg hok', if_pos rfl, if_neg hok]
    unfold f_X8_row_b121
    rw [nI_1]
    exact ⟨_, rfl, hR2⟩
theorem r_row {N0 : xMem} {K Sk Rm : Nat → Int32} {F0 : Nat → Nat → Int32} {ns ne : Nat} {a1 : Int32} (hT : tM N0 K Sk Rm ns ne) (hv : vF ns ne F0) (hF : rF ns ne F0 (N0 8 7) 0) : ∃ N' f, f_X8_row_l29 a1 (nI (6 ^ ns)) FU (-1) 0 N0 = f_X8_row_l29 a1 (nI (6 ^ ns)) (f + 1) (moI (TT (sS ns) (fun p => scF ns ne (rAll K Sk Rm ns ne (rowF F0 p) ne)) ns [] none)) (nI (6 ^ ns)) N' ∧ RS N0 N' ns (TT (sS ns) (fun p => scF ns ne (rAll K Sk Rm ns ne (rowF F0 p) ne)) ns [] none) := by
  have h5 := hT.2.1
  have h66 : 6 ^ ns ≤ 46656 := Nat.le_trans (Nat.pow_le_pow_right (n := 6) (by decide) (show ns ≤ 6 by omega)) (by decide)
  obtain ⟨N', h1, h2⟩ := enumT (inS := sS ns) (score := fun p => scF ns ne (rAll K Sk Rm ns ne (rowF F0 p) ne)) (n := ns) (Lp := f_X8_row_l29 a1 (nI (6 ^ ns))) (RR := fun st N => RS N0 N ns st) (r_row_step hT hv hF) ns [] (by rw [List.length_nil]; omega) (fun d hd => absurd hd (by simp)) (99999 - 6 ^ ns + 1) none N0 ⟨fun _ _ => rfl, fun _ _ _ _ => rfl, fun b q e => by cases e⟩
  rw [if_pos (show okB (sS ns) [] = true from rfl)] at h1 h2
  have e0 : enc [] = 0 := rfl
  rw [show 99999 - 6 ^ ns + 1 + 6 ^ ns = FU by unfold FU; omega, e0, Nat.zero_mul, Nat.zero_add, Nat.one_mul] at h1
  exact ⟨N', 99999 - 6 ^ ns, h1, h2⟩
theorem s_row : S_row Rel := by
  intro a1 M L h
  obtain ⟨ns, ne, hT, hF, hP, hI, hX, hl, hL⟩ := id h
  obtain ⟨h5, h6, t3, t4, t5, t6, tS, tE⟩ := id hT
  by_cases hq : oob a1 (-1) (nI ns - 1)
  · refine ⟨-1, M, M, ?_, ?_, h⟩
    · unfold f_X7_row; rw [t3, e_beyond, xb1_e, if_pos hq]; rfl
    · unfold f_X8_row; rw [t5, e_in, xb1_e, if_pos hq]; rfl
  · obtain ⟨M1, g1, g2⟩ := e_orderScales hT hF.2
    obtain ⟨x, hx⟩ : ∃ x, TT (sS ns) (wS M ns ne (M (0 + 9))) ns [] none = some x := TT_some ns [] none (by
      rw [List.length_nil, Nat.zero_add]
      have := pop_av _ (sS_lt h5)
      show ns ≤ avN (sB (2 ^ ns - 1)) 6
      rw [this, sS_pop ns h5]
      exact Nat.le_refl _)
    obtain ⟨b, q⟩ := x
    rw [hx] at g2
    obtain ⟨c1, c2, c3, c4⟩ := id g2
    obtain ⟨hb6, hql, hqp⟩ := c4 b q rfl
    have o8 : M1 8 = M 8 := c1 8 (by decide) (fun j _ => by omega)
    have htm : tM M1 (M 3 7) (M 3 4) (M 3 5) ns ne := (tM_of hT).of8 (by rw [o8]) (by rw [o8]) (by rw [o8]) (by rw [o8]) (by rw [o8])
    obtain ⟨N', f, r1, r2⟩ := r_row (a1 := a1) htm hF.2 (by rw [o8]; exact hF.1)
    have hx' : TT (sS ns) (fun p => scF ns ne (rAll (M 3 7) (M 3 4) (M 3 5) ns ne (rowF (M (0 + 9)) p) ne)) ns [] none = some (b, q) := hx
    rw [hx'] at r1 r2
    obtain ⟨-, -, hqp2⟩ := r2.2.2 b q rfl
    have hrel : Rel N' L := (h.same g2.sm).same r2.sm
    have k1 : f_X7_row a1 M = if a1 = -1 then some (nI b, M1) else xchk (xb a1 6) (some (M1 5 4 a1.toNatClampNeg, M1)) := by
      unfold f_X7_row f_X7_row_b54
      rw [t3, e_beyond, xb1_e, if_neg hq, if_pos rfl, g1, xb1_e, c3]
      rfl
    have k2 : f_X8_row a1 M1 = if 0 ≤ a1 then xchk (xb a1 6) (some (N' 8 29 a1.toNatClampNeg, N')) else some (nI b, N') := by
      unfold f_X8_row
      rw [o8, t5, e_in, xb1_e, if_neg hq, if_neg (by decide), e_sixes (by omega), xb1_e, r1, f_X8_row_l29, if_pos (i32_le_rfl _)]
      rfl
    by_cases hm : a1 = -1
    · refine ⟨nI b, M1, N', by rw [k1, if_pos hm], ?_, hrel⟩
      rw [k2, if_neg (by rw [hm]; decide)]
    · obtain ⟨j, hj, rfl⟩ := in_nI (by omega) (oob_m1 hq hm)
      have hp0 : (0 : Int32) ≤ nI j := nI_pos' (by omega)
      rw [if_neg hm] at k1
      rw [if_pos hp0] at k2
      have hb := xb_nI (show j < 6 by omega) (by decide)
      obtain ⟨d, hd⟩ : ∃ d, q[j]? = some d := ⟨_, List.getElem?_eq_getElem (by omega)⟩
      refine ⟨nI d, M1, N', ?_, ?_, hrel⟩
      · rw [k1, xchk_t _ hb, nI_clamp (by omega), hqp j d hd]
      · rw [k2, xchk_t _ hb, nI_clamp (by omega), hqp2 j d hd]
