theorem i32_nlt {a b : Int32} : b ≤ a ↔ ¬ a < b := by rw [i32_le, i32_lt]; omega
theorem oob_m1 {a c : Int32} (h : ¬ oob a (-1) c) (ha : ¬ a = -1) : ¬ oob a 0 c := by
  have h1 : ¬ a < -1 := fun q => h (Or.inl q)
  have h2 : ¬ c < a := fun q => h (Or.inr q)
  intro q
  rcases q with q | q
  · rw [i32_lt, show (-1 : Int32).toInt = -1 by decide] at h1
    rw [i32_lt, show (0 : Int32).toInt = 0 by decide] at q
    exact ha (Int32.toInt_inj.mp (by rw [show (-1 : Int32).toInt = -1 by decide]; omega))
  · exact h2 q
theorem enc_lt : ∀ l : List Nat, (∀ d, d ∈ l → d < 6) → enc l < 6 ^ l.length := by
  refine snoc_ind (fun _ => by decide) (fun l d ih h => ?_)
  have h1 := ih (fun x hx => h x (List.mem_append_left _ hx))
  have h2 := h d (List.mem_append_right _ (List.mem_singleton.mpr rfl))
  rw [enc_snoc, List.length_append, List.length_singleton, Nat.pow_succ]
  omega
theorem CS.sm {M M' : xMem} {n : Nat} {st : oSt} (h : CS M M' n st) : smR M M' := by
  have hh : ∀ o, o < 23 → o ≠ 5 → M' o = M o := fun o h1 h2 => h.1 o h2 (fun j _ => by omega)
  have o8 := hh 8 (by decide) (by decide)
  exact ⟨hh 3 (by decide) (by decide), by rw [hh 0 (by decide) (by decide)], by rw [hh 1 (by decide) (by decide)], by rw [hh 1 (by decide) (by decide)], hh 4 (by decide) (by decide), by rw [hh 7 (by decide) (by decide)], by rw [hh 7 (by decide) (by decide)], by rw [hh 7 (by decide) (by decide)], fun i hi1 hi2 => hh _ (by omega) (by omega), by rw [o8], by rw [o8], by rw [o8], by rw [o8], by rw [o8], by rw [o8], by rw [o8], by rw [o8], by rw [o8], by rw [o8], by rw [o8], by rw [o8], by rw [o8], by rw [o8], by rw [o8]⟩
theorem e_orderEggs {M : xMem} {ns ne : Nat} (hT : rT M ns ne) (hv : vF ns ne (M (0 + 9))) : ∃ M', f_X4_orderEggs 0 M = some M' ∧ CS M M' (popN (pEn (M (0 + 9) 2) 0 ne)) (TT (nS (M (0 + 9)) ne) (oS M ns ne (M (0 + 9))) (popN (pEn (M (0 + 9) 2) 0 ne)) [] none) := by
  obtain ⟨h5, h6, t3, t4, t5, t6, tS, tE⟩ := id hT
  obtain ⟨M1, g1, g2, g3⟩ := e_become (i := 14) (j := 0) (by decide) M
  have m3 : M1 3 = M 3 := g3 3 (by decide)
  have m9 : M1 (0 + 9) = M (0 + 9) := g3 (0 + 9) (by decide)
  unfold f_X4_orderEggs
  rw [show (0 : Int32).toNatClampNeg + 14 = 14 from rfl, g1, xb1_e, e_howManyAt (i := 0) (by rw [m3]; exact t4) h6, xb1_e, xlet_e, xlet_e, m9]
  obtain ⟨n, hn⟩ : ∃ n, n = popN (pEn (M (0 + 9) 2) 0 ne) := ⟨_, rfl⟩
  rw [← hn]
  obtain ⟨M2, hM2⟩ : ∃ M2, M2 = xsf (xsf M1 5 4 (nI n)) 5 5 (-1) := ⟨_, rfl⟩
  have o2 : ∀ o, o ≠ 5 → M2 o = M1 o := fun o ho => by rw [hM2, xsf_o ho, xsf_o ho]
  have n3 : M2 3 = M 3 := by rw [o2 3 (by decide), m3]
  have n9 : M2 (0 + 9) = M (0 + 9) := by rw [o2 _ (by decide), m9]
  have h2 := pEn_lt (pRw (M (0 + 9)) ns) 1 ne
  have h3 : 2 ^ ne ≤ 64 := Nat.pow_le_pow_right (n := 2) (by decide) h6
  rw [← hM2, e_rightEggs (i := 0) (by rw [n3]; exact t3) h5 (by rw [n3]; exact t4) h6 (by rw [n9]; exact hv), xb1_e, n9, pE_n _ _ _ h6, e_bitCount (by omega), xb1_e]
  have hn6 : n ≤ 6 := by rw [hn]; exact popN_le _
  have hC : CS M M2 n none := by
    refine ⟨fun o ho hj => ?_, ?_, ?_, fun b q e => by cases e⟩
    · rw [o2 o ho, g3 o (hj 0 (by decide))]
    · rw [hM2, xsf_k (by decide), xsf_0]
    · rw [hM2, xsf_0]; rfl
  obtain ⟨M', q1, q2, -, -⟩ := e_rollOne (M0 := M) (F0 := M (0 + 9)) t3 h5 t4 h6 (fun e he => (tE e he).1) hv hn6 8 n [] M2 none (by omega) (by rw [List.length_nil]; omega) rfl hC (by
    show sameF (M2 (14 + 9)) (M (0 + 9))
    rw [o2 _ (by decide)]
    exact g2) (fun i d h => absurd h (by simp))
  refine ⟨M', ?_, q2⟩
  have q1' : f_X4_rollOneMore 8 0 (nI (popN (pEn (pRw (M (0 + 9)) ns) 1 ne))) M2 = some M' := q1
  rw [q1', xb1_e]
/-! the reference's -/
theorem e_keepsOrder (N : xMem) : f_X8_keepsOrder N = some (xs N 8 29 (va_cpy (N 8 28) (N 8 29) 0 0 6)) := by
  have key : ∀ n j, j ≤ 6 → 6 - j < n → f_X8_keepsOrder_l2 n (nI j) (xs N 8 29 (va_cpy (N 8 28) (N 8 29) 0 0 j)) = some (xs N 8 29 (va_cpy (N 8 28) (N 8 29) 0 0 6)) := by
    intro n
    induction n with
    | zero => intro j h1 h2; omega
    | succ n ih =>
      intro j h1 h2
      rw [f_X8_keepsOrder_l2]
      by_cases hj : j = 6
      · subst hj; rw [if_pos (by decide)]
      · have hlt : ¬ (6 : Int32) ≤ nI j := le_nI (a := j) (b := 6) (by omega) (by decide) (by omega)
        have hb := xb_nI (show j < 6 by omega) (by decide)
        have hcs := cpy_s (N 8 28) (N 8 29) 0 0 j
        rw [Nat.zero_add] at hcs
        rw [if_neg hlt, xchk_t _ hb, xchk_t _ hb, xlet_e, nI_clamp (by omega), xs_ne _ _ _ _ (by decide), xs_ut (by omega), nI_1, hcs]
        exact ih (j + 1) (by omega) (by omega)
  have h := key FU 0 (by omega) (FU_gt (by omega))
  rw [cpy_0, xs_self] at h
  exact h
theorem e_sixes {n : Nat} {M : xMem} (hn : n ≤ 6) : f_X8_sixes (nI n) M = some (nI (6 ^ n)) := by
  have key : ∀ f j, j ≤ n → n - j < f → f_X8_sixes_l4 (nI n) f (nI (6 ^ j)) (nI j) = some (nI (6 ^ n)) := by
    intro f
    induction f with
    | zero => intro j h1 h2; omega
    | succ f ih =>
      intro j h1 h2
      rw [f_X8_sixes_l4]
      by_cases hj : j = n
      · subst hj; rw [if_pos (i32_le_rfl _)]
      · have hm : nI (6 ^ j) * 6 = nI (6 ^ (j + 1)) := by rw [Nat.pow_succ]; exact pk_mul (6 ^ j) 6
        rw [if_neg (le_nI (by omega) (by omega) (by omega)), hm, nI_1]
        exact ih (j + 1) (by omega) (by omega)
  exact key FU 0 (by omega) (FU_gt (by omega))
def RS (N0 N : xMem) (n : Nat) (st : oSt) : Prop :=
  (∀ o, o ≠ 8 → N o = N0 o) ∧ (∀ r, r ≠ 27 → r ≠ 28 → r ≠ 29 → N 8 r = N0 8 r) ∧ ∀ b q, st = some (b, q) → b ≤ 6 ∧ q.length = n ∧ rPa (N 8 29) q
theorem RS.up {N0 N : xMem} {n r : Nat} {st : oSt} {R : Nat → Int32} (h : RS N0 N n st) (hr : r = 27 ∨ r = 28) : RS N0 (xs N 8 r R) n st :=
  ⟨fun o ho => by rw [xs_o ho]; exact h.1 o ho, fun q h1 h2 h3 => by rw [xs_ne _ _ _ _ (by intro z; have := (Prod.mk.inj z).2; omega)]; exact h.2.1 q h1 h2 h3, fun b q e => by rw [xs_ne _ _ _ _ (by intro z; have := (Prod.mk.inj z).2; omega)]; exact h.2.2 b q e⟩
theorem RS.sm {M M' : xMem} {n : Nat} {st : oSt} (h : RS M M' n st) : smR M M' :=
  ⟨h.1 3 (by decide), by rw [h.1 0 (by decide)], by rw [h.1 1 (by decide)], by rw [h.1 1 (by decide)], h.1 4 (by decide), by rw [h.1 7 (by decide)], by rw [h.1 7 (by decide)], by rw [h.1 7 (by decide)], fun i _ _ => h.1 _ (by omega), h.2.1 2 (by decide) (by decide) (by decide), h.2.1 3 (by decide) (by decide) (by decide), h.2.1 4 (by decide) (by decide) (by decide), h.2.1 6 (by decide) (by decide) (by decide), h.2.1 7 (by decide) (by decide) (by decide), h.2.1 8 (by decide) (by decide) (by decide), h.2.1 10 (by decide) (by decide) (by decide), h.2.1 11 (by decide) (by decide) (by decide), h.2.1 13 (by decide) (by decide) (by decide), h.2.1 15 (by decide) (by decide) (by decide), by rw [h.2.1 0 (by decide) (by decide) (by decide)], by rw [h.2.1 0 (by decide) (by decide) (by decide)], by rw [h.2.1 0 (by decide) (by decide) (by decide)], by rw [h.2.1 0 (by decide) (by decide) (by decide)], by rw [h.2.1 0 (by decide) (by decide) (by decide)]⟩
/-- the score is held against the best so far -/
theorem r_best {N0 N : xMem} {n sc : Nat} {st : oSt} {p : List Nat} {k : Int32 → xMem → Option (Int32 × xMem)} (h : RS N0 N n st) (hsc : sc ≤ 6) (hl : p.length = n) (hn : n ≤ 6) (hp : rPa (N 8 28) p) : ∃ N', (if nI sc ≤ moI st then k (moI st) N else xb1 (f_X8_keepsOrder N) (fun M => k (nI sc) M)) = k (moI (btr sc p st)) N' ∧ RS N0 N' n (btr sc p st) := by
  have hmo := moI_lt (st := st) (k := sc) (by omega) (fun b q e => (h.2.2 b q e).1)
  by_cases hlo : moI st < nI sc
  · rw [if_neg (fun q => (i32_nlt.mp q) hlo), e_keepsOrder, xb1_e, btr_some (hmo.mp hlo)]
    refine ⟨_, rfl, fun o ho => ?_, fun r h1 h2 h3 => ?_, fun b q e => ?_⟩
    · rw [xs_o ho]; exact h.1 o ho
    · rw [xs_ne _ _ _ _ (by intro z; exact h3 (Prod.mk.inj z).2)]; exact h.2.1 r h1 h2 h3
    · obtain ⟨rfl, rfl⟩ := Prod.mk.inj (Option.some.inj e)
      refine ⟨hsc, hl, fun i d hd => ?_⟩
      have hi : i < p.length := (List.getElem?_eq_some_iff.mp hd).1
      rw [xs_same, cpy_in (by omega)]
      exact hp i d hd
  · obtain ⟨b, q, rfl, hbq⟩ := st_not (fun z => hlo (hmo.mpr z))
    rw [if_pos (i32_nlt.mpr hlo), btr, if_neg (by omega)]
    exact ⟨N, rfl, h⟩
theorem tM.up {N : xMem} {K Sk Rm : Nat → Int32} {ns ne r : Nat} {R : Nat → Int32} (h : tM N K Sk Rm ns ne) (hr : r = 27 ∨ r = 28 ∨ r = 29) : tM (xs N 8 r R) K Sk Rm ns ne := by
  have hx : ∀ q, q < 27 → xs N 8 r R 8 q = N 8 q := fun q hq => xs_ne _ _ _ _ (by intro z; have := (Prod.mk.inj z).2; omega)
  exact h.of8 (by rw [hx 0 (by decide)]) (by rw [hx 0 (by decide)]) (hx 3 (by decide)) (hx 4 (by decide)) (hx 6 (by decide))
theorem r_score {N : xMem} {K Sk Rm : Nat → Int32} {F : Nat → Nat → Int32} {ns ne : Nat} (hT : tM N K Sk Rm ns ne) (hv : vF ns ne F) (hF : rF ns ne F (N 8 27) 0) {α : Type} {k : Int32 → Option α} : xb1 (f_X8_right N) (fun r => xb1 (f_X8_bits r N) k) = k (nI (scF ns ne F)) := by
  obtain ⟨t1, h5, t2, h6, -, -⟩ := hT
  have h2 := pEn_lt (pRw F ns) 1 ne
  have h3 : 2 ^ ne ≤ 64 := Nat.pow_le_pow_right (n := 2) (by decide) h6
  rw [e_right hF hv t1 h5 t2 h6, xb1_e, pE_n _ _ _ h6, e_bits (by omega), xb1_e]
  rfl
theorem r_rollp {N1 : xMem} {K Sk Rm : Nat → Int32} {F0 : Nat → Nat → Int32} {ns ne n : Nat} {v : Int32} {k : Int32 → xMem → Option (Int32 × xMem)} (hT : tM N1 K Sk Rm ns ne) (hv : vF ns ne F0) (hn : n ≤ 6) {p : List Nat} (hl : p.length = n) (hp : rPa (N1 8 28) p) (hd : ∀ d, d ∈ p → d < ne) : ∀ q f pre S, pre ++ q = p → q.length < f → rF ns ne (rSeq K Sk Rm ns ne F0 pre) S 0 → ∃ S', f_X8_order_l63 (nI n) v k f (nI pre.length) (xs N1 8 27 S) = if nI (scF ns ne (rSeq K Sk Rm ns ne F0 p)) ≤ v then k v (xs N1 8 27 S') else xb1 (f_X8_keepsOrder (xs N1 8 27 S')) (fun M => k (nI (scF ns ne (rSeq K Sk Rm ns ne F0 p))) M) := by
  have h5 := hT.2.1
  have hK : ∀ e, e < ne → ∃ w, w ≤ 5 ∧ K e = nI w := fun e he => (hT.2.2.2.2.1 e he).2
  intro q
  induction q with
  | nil =>
    intro f pre S h1 h2 hF
    rw [List.append_nil] at h1
    subst h1
    cases f with
    | zero => exact absurd h2 (by omega)
    | succ f =>
      refine ⟨S, ?_⟩
      rw [f_X8_order_l63, hl, if_pos (i32_le_rfl _)]
      exact r_score (hT.up (Or.inl rfl)) (rSeq_v h5 hK hv pre hd) (by rw [xs_same]; exact hF)
  | cons e q ih =>
    intro f pre S h1 h2 hF
    rw [List.length_cons] at h2
    cases f with
    | zero => exact absurd h2 (by omega)
    | succ f =>
      have hlen := congrArg List.length h1
      rw [List.length_append, List.length_cons] at hlen
      have hpe : p[pre.length]? = some e := by rw [← h1, List.getElem?_append_right (Nat.le_refl _), Nat.sub_self]; rfl
      have e28 : xs N1 8 27 S 8 28 pre.length = nI e := by rw [xs_ne _ _ _ _ (by decide)]; exact hp _ _ hpe
      have hdp : ∀ d, d ∈ pre → d < ne := fun d hx => hd d (by rw [← h1]; exact List.mem_append_left _ hx)
      have he : e < ne := hd e (by rw [← h1]; exact List.mem_append_right _ List.mem_cons_self)
      obtain ⟨S', g1, g2⟩ := e_rolled (hT.up (R := S) (Or.inl rfl)) he (rSeq_v h5 hK hv pre hdp) (by rw [xs_same]; exact hF)
      obtain ⟨S'', i1⟩ := ih f (pre ++ [e]) S' (by rw [← h1, List.append_assoc]; rfl) (by omega) (by rw [rSeq_snoc]; exact g2)
      refine ⟨S'', ?_⟩
      rw [f_X8_order_l63, if_neg (le_nI (by omega) (by omega) (by omega)), xchk_t _ (xb_nI (show pre.length < 6 by omega) (by decide)), nI_clamp (by omega), e28, g1, xb2_e, xs_xs, nI_1]
      rw [List.length_append, List.length_singleton] at i1
      exact i1
theorem r_order_step {N0 : xMem} {K Sk Rm : Nat → Int32} {F0 : Nat → Nat → Int32} {ns ne n : Nat} {a1 : Int32} (hT : tM N0 K Sk Rm ns ne) (hv : vF ns ne F0) (hF : rF ns ne F0 (N0 8 7) 0) (hn : n ≤ 6) : ∀ p, p.length = n → (∀ d, d ∈ p → d < 6) → ∀ f st N, RS N0 N n st → ∃ N', f_X8_order_l38 a1 (nI (pEn (F0 2) 0 ne)) (nI n) (nI (6 ^ n)) (f + 1) (moI st) (nI (enc p)) N = f_X8_order_l38 a1 (nI (pEn (F0 2) 0 ne)) (nI n) (nI (6 ^ n)) f (moI (if okB (nS F0 ne) p = true then btr (scF ns ne (rSeq K Sk Rm ns ne F0 p)) p st else st)) (nI (enc p + 1)) N' ∧ RS N0 N' n (if okB (nS F0 ne) p = true then btr (scF ns ne (rSeq K Sk Rm ns ne F0 p)) p st else st) := by
  intro p hl hd f st N hR
  have h5 := hT.2.1
  have h6 := hT.2.2.2.1
  have he := enc_lt p hd
  rw [hl] at he
  have h66 : 6 ^ n ≤ 46656 := Nat.le_trans (Nat.pow_le_pow_right (n := 6) (by decide) hn) (by decide)
  obtain ⟨R, g1, g2⟩ := e_isOrder (M := N) (nS_lt (F0 := F0) h6) (p := p) (by omega) hd
  rw [hl] at g1
  have hR2 := hR.up (r := 28) (R := R) (Or.inr rfl)
  rw [f_X8_order_l38, if_neg (le_nI (by omega) (by omega) he), g1, xb2_e]
  by_cases hok : okB (nS F0 ne) p = true
  · have hok' : okB (sB (pEn (F0 2) 0 ne)) p = true := hok
    rw [if_pos hok', if_neg (by decide), asIt, xb1_e, if_pos hok]
    have hT2 : tM (xs N 8 28 R) K Sk Rm ns ne := by
      refine tM.up (r := 28) ?_ (Or.inr (Or.inl rfl))
      exact hT.of8 (by rw [hR.2.1 0 (by decide) (by decide) (by decide)]) (by rw [hR.2.1 0 (by decide) (by decide) (by decide)]) (hR.2.1 3 (by decide) (by decide) (by decide)) (hR.2.1 4 (by decide) (by decide) (by decide)) (hR.2.1 6 (by decide) (by decide) (by decide))
    have e28 : xs N 8 28 R 8 28 = R := xs_same _ _ _ _
    have e7 : xs N 8 28 R 8 7 = N0 8 7 := by rw [xs_ne _ _ _ _ (by decide), hR.2.1 7 (by decide) (by decide) (by decide)]
    obtain ⟨S', i1⟩ := r_rollp (v := moI st) (k := f_X8_order_b111 (nI (enc p)) (f_X8_order_l38 a1 (nI (pEn (F0 2) 0 ne)) (nI n) (nI (6 ^ n)) f)) hT2 hv hn hl (by rw [e28]; exact g2) (ok_lt h6 hok) p FU [] (va_cpy (xs N 8 28 R 8 7) (xs N 8 28 R 8 27) 0 0 27) rfl (FU_gt (by omega)) (by
      show rF ns ne F0 _ 0
      rw [e7]
      exact rF_now h5 h6 hF)
    obtain ⟨N', j1, j2⟩ := r_best (k := f_X8_order_b111 (nI (enc p)) (f_X8_order_l38 a1 (nI (pEn (F0 2) 0 ne)) (nI n) (nI (6 ^ n)) f)) (hR2.up (r := 27) (R := S') (Or.inl rfl)) (scF_le ns ne (rSeq K Sk Rm ns ne F0 p)) hl hn (by rw [xs_ne _ _ _ _ (by decide), e28]; exact g2)
    refine ⟨N', ?_, j2⟩
    have i2 := i1.trans j1
    unfold nowM
    refine Eq.trans i2 ?_
    unfold f_X8_order_b111
    rw [nI_1]
  · have hok' : ¬ okB (sB (pEn (F0 2) 0 ne)) p = true := hok
    rw [if_neg hok', if_pos rfl, if_neg hok]
    unfold f_X8_order_b111
    rw [nI_1]
    exact ⟨_, rfl, hR2⟩
theorem r_order {N0 : xMem} {K Sk Rm : Nat → Int32} {F0 : Nat → Nat → Int32} {ns ne n : Nat} {a1 : Int32} (hT : tM N0 K Sk Rm ns ne) (hv : vF ns ne F0) (hF : rF ns ne F0 (N0 8 7) 0) (hn : n ≤ 6) : ∃ N' f, f_X8_order_l38 a1 (nI (pEn (F0 2) 0 ne)) (nI n) (nI (6 ^ n)) FU (-1) 0 N0 = f_X8_order_l38 a1 (nI (pEn (F0 2) 0 ne)) (nI n) (nI (6 ^ n)) (f + 1) (moI (TT (nS F0 ne) (fun p => scF ns ne (rSeq K Sk Rm ns ne F0 p)) n [] none)) (nI (6 ^ n)) N' ∧ RS N0 N' n (TT (nS F0 ne) (fun p => scF ns ne (rSeq K Sk Rm ns ne F0 p)) n [] none) := by
  have h66 : 6 ^ n ≤ 46656 := Nat.le_trans (Nat.pow_le_pow_right (n := 6) (by decide) hn) (by decide)
  obtain ⟨N', h1, h2⟩ := enumT (inS := nS F0 ne) (score := fun p => scF ns ne (rSeq K Sk Rm ns ne F0 p)) (n := n) (Lp := f_X8_order_l38 a1 (nI (pEn (F0 2) 0 ne)) (nI n) (nI (6 ^ n))) (RR := fun st N => RS N0 N n st) (r_order_step hT hv hF hn) n [] (by rw [List.length_nil]; omega) (fun d hd => absurd hd (by simp)) (99999 - 6 ^ n + 1) none N0 ⟨fun _ _ => rfl, fun _ _ _ _ => rfl, fun b q e => by cases e⟩
  rw [if_pos (show okB (nS F0 ne) [] = true from rfl)] at h1 h2
  have e0 : enc [] = 0 := rfl
  rw [show 99999 - 6 ^ n + 1 + 6 ^ n = FU by unfold FU; omega, e0, Nat.zero_mul, Nat.zero_add, Nat.one_mul] at h1
  exact ⟨N', 99999 - 6 ^ n, h1, h2⟩
theorem s_order : S_order Rel := by
  intro a1 M L h
  obtain ⟨ns, ne, hT, hF, hP, hI, hX, hl, hL⟩ := id h
  obtain ⟨h5, h6, t3, t4, t5, t6, tS, tE⟩ := id hT
  by_cases hq : oob a1 (-1) 5
  · refine ⟨-1, M, M, ?_, ?_, h⟩
    · unfold f_X7_order; rw [e_beyond, xb1_e, if_pos hq]; rfl
    · unfold f_X8_order; rw [e_in, xb1_e, if_pos hq]; rfl
  · obtain ⟨M1, g1, g2⟩ := e_orderEggs hT hF.2
    obtain ⟨n, hn⟩ : ∃ n, n = popN (pEn (M (0 + 9) 2) 0 ne) := ⟨_, rfl⟩
    have hn6 : n ≤ 6 := by rw [hn]; exact popN_le _
    rw [← hn] at g2
    obtain ⟨x, hx⟩ : ∃ x, TT (nS (M (0 + 9)) ne) (oS M ns ne (M (0 + 9))) n [] none = some x := TT_some n [] none (by
      rw [List.length_nil, Nat.zero_add]
      have := pop_av _ (nS_lt (F0 := M (0 + 9)) h6)
      show n ≤ avN (sB (pEn (M (0 + 9) 2) 0 ne)) 6
      rw [this, ← hn]
      exact Nat.le_refl _)
    obtain ⟨b, q⟩ := x
    rw [hx] at g2
    obtain ⟨c1, c2, c3, c4⟩ := id g2
    obtain ⟨hb6, hql, hqp⟩ := c4 b q rfl
    have o8 : M1 8 = M 8 := c1 8 (by decide) (fun j _ => by omega)
    have hn8 : rF ns ne (M (0 + 9)) (nowM M1 8 27) 0 := nowM_f (M := M1) h5 h6 (by rw [o8]; exact hF.1)
    have htm : tM (nowM M1) (M 3 7) (M 3 4) (M 3 5) ns ne := (tM_of hT).of8 (by rw [nowM_8 _ (by decide), o8]) (by rw [nowM_8 _ (by decide), o8]) (by rw [nowM_8 _ (by decide), o8]) (by rw [nowM_8 _ (by decide), o8]) (by rw [nowM_8 _ (by decide), o8])
    obtain ⟨N', f, r1, r2⟩ := r_order (a1 := a1) (n := n) htm hF.2 (by rw [nowM_8 _ (by decide), o8]; exact hF.1) hn6
    have hx' : TT (nS (M (0 + 9)) ne) (fun p => scF ns ne (rSeq (M 3 7) (M 3 4) (M 3 5) ns ne (M (0 + 9)) p)) n [] none = some (b, q) := hx
    rw [hx'] at r1 r2
    obtain ⟨-, -, hqp2⟩ := r2.2.2 b q rfl
    have hrel : Rel N' L := ((h.same g2.sm).same (nowM_same M1)).same r2.sm
    have hS := nS_lt (F0 := M (0 + 9)) h6
    have k1 : f_X7_order a1 M = if a1 = -1 then some (nI b, M1) else if nI n ≤ a1 then some (-9, M1) else xchk (xb a1 6) (some (M1 5 4 a1.toNatClampNeg, M1)) := by
      unfold f_X7_order f_X7_order_b60
      rw [e_beyond, xb1_e, if_neg hq, if_pos rfl, g1, xb1_e, c2, c3]
      rfl
    have k2 : f_X8_order a1 M1 = if 0 ≤ a1 then (if nI n ≤ a1 then some (-9, N') else xchk (xb a1 6) (some (N' 8 29 a1.toNatClampNeg, N'))) else some (nI b, N') := by
      unfold f_X8_order
      rw [e_in, xb1_e, if_neg hq, if_neg (by decide), asIt, xb1_e, e_inPlace hn8 htm.2.2.1 h6, xb1_e, pE_n _ _ _ h6, e_bits hS, xb1_e, ← hn, e_sixes hn6, xb1_e, r1, f_X8_order_l38, if_pos (i32_le_rfl _)]
      rfl
    by_cases hm : a1 = -1
    · refine ⟨nI b, M1, N', by rw [k1, if_pos hm], ?_, hrel⟩
      rw [k2, if_neg (by rw [hm]; decide)]
    · obtain ⟨j, hj, rfl⟩ := in_c (n := 5) 5 (by decide) (by decide) (oob_m1 hq hm)
      have hp0 : (0 : Int32) ≤ nI j := nI_pos' (by omega)
      rw [if_neg hm] at k1
      rw [if_pos hp0] at k2
      by_cases hjn : nI n ≤ nI j
      · exact ⟨-9, M1, N', by rw [k1, if_pos hjn], by rw [k2, if_pos hjn], hrel⟩
      · have hjn' : j < n := by
          rcases Nat.lt_or_ge j n with z | z
          · exact z
          · exact absurd ((nI_leI (by omega) (by omega)).mpr z) hjn
        have hb := xb_nI (show j < 6 by omega) (by decide)
        obtain ⟨d, hd⟩ : ∃ d, q[j]? = some d := ⟨_, List.getElem?_eq_getElem (by omega)⟩
        refine ⟨nI d, M1, N', ?_, ?_, hrel⟩
        · rw [k1, if_neg hjn, xchk_t _ hb, nI_clamp (by omega), hqp j d hd]
        · rw [k2, if_neg hjn, xchk_t _ hb, nI_clamp (by omega), hqp2 j d hd]
