/-! the class's search for an order of eggs -/
theorem sameF.tr {F G H : Nat → Nat → Int32} (h1 : sameF F G) (h2 : sameF G H) : sameF F H :=
  ⟨fun k hk => ⟨(h1.1 k hk).1.trans (h2.1 k hk).1, (h1.1 k hk).2.trans (h2.1 k hk).2⟩, fun k hk => ⟨(h1.2 k hk).1.trans (h2.2 k hk).1, (h1.2 k hk).2.1.trans (h2.2 k hk).2.1, (h1.2 k hk).2.2.trans (h2.2 k hk).2.2⟩⟩
/-- what the search holds: the best so far -/
def CS (M0 M : xMem) (n : Nat) (st : oSt) : Prop :=
  (∀ o, o ≠ 5 → (∀ j, j < 7 → o ≠ j + 14 + 9) → M o = M0 o) ∧ M 5 0 4 = nI n ∧ M 5 0 5 = moI st ∧ ∀ b q, st = some (b, q) → b ≤ 6 ∧ q.length = n ∧ rPa (M 5 4) q
theorem moI_lt {st : oSt} {k : Nat} (hk : k < 100) (h : ∀ b q, st = some (b, q) → b ≤ 6) : moI st < nI k ↔ ∀ b q, st = some (b, q) → b < k := by
  cases st with
  | none =>
    refine ⟨fun _ b q h => (by cases h), fun _ => ?_⟩
    show (-1 : Int32) < nI k
    rw [i32_lt, nI_toInt (by omega), show (-1 : Int32).toInt = -1 by decide]
    omega
  | some x =>
    obtain ⟨b, q⟩ := x
    have hb := h b q rfl
    show nI b < nI k ↔ _
    rw [nI_ltI (by omega) (by omega)]
    refine ⟨fun h b' q' e => ?_, fun h => h b q rfl⟩
    obtain ⟨rfl, rfl⟩ := Prod.mk.inj (Option.some.inj e)
    exact h
theorem btr_some {sc : Nat} {p : List Nat} {st : oSt} (h : ∀ b q, st = some (b, q) → b < sc) : btr sc p st = some (sc, p) := by
  cases st with
  | none => rfl
  | some x =>
    obtain ⟨b, q⟩ := x
    rw [btr, if_pos (h b q rfl)]
theorem st_not {st : oSt} {k : Nat} (h : ¬ ∀ b q, st = some (b, q) → b < k) : ∃ b q, st = some (b, q) ∧ k ≤ b := by
  cases st with
  | none => exact absurd (fun b q e => by cases e) h
  | some x =>
    obtain ⟨b, q⟩ := x
    refine ⟨b, q, rfl, ?_⟩
    rcases Nat.lt_or_ge b k with hb | hb
    · refine absurd (fun b' q' e => ?_) h
      obtain ⟨rfl, rfl⟩ := Prod.mk.inj (Option.some.inj e)
      exact hb
    · exact hb
theorem e_keepTried {M0 M : xMem} {n sc : Nat} {st : oSt} {pre : List Nat} (h : CS M0 M n st) (hn : n ≤ 6) (hl : pre.length = n) (hp : rPa (M 5 3) pre) (hsc : sc ≤ 6) : ∃ M', f_X4_keepTried (nI sc) M = some M' ∧ CS M0 M' n (some (sc, pre)) ∧ (∀ o, o ≠ 5 → M' o = M o) ∧ M' 5 3 = M 5 3 := by
  obtain ⟨h1, h2, h3, h4⟩ := h
  unfold f_X4_keepTried
  have e4 : xsf M 5 5 (nI sc) 5 0 4 = nI n := by rw [xsf_k (by decide)]; exact h2
  have hx : xcb 0 0 (nI n) 6 6 = true := by
    have key : ∀ n, n ≤ 6 → xcb 0 0 (nI n) 6 6 = true := by decide +kernel
    exact key n hn
  have z0 : (0 : Int32).toNatClampNeg = 0 := rfl
  rw [xlet_e, e4, xchk_t _ hx, xlet_e]
  refine ⟨_, rfl, ⟨fun o ho hj => ?_, ?_, ?_, fun b q e => ?_⟩, fun o ho => ?_, ?_⟩
  · unfold xcp; rw [xs_o ho, xsf_o ho]; exact h1 o ho hj
  · unfold xcp; rw [xs_ne _ _ _ _ (by decide)]; exact e4
  · unfold xcp; rw [xs_ne _ _ _ _ (by decide)]; exact xsf_0 _ _ _ _
  · obtain ⟨rfl, rfl⟩ := Prod.mk.inj (Option.some.inj e)
    refine ⟨hsc, hl, fun i d hd => ?_⟩
    have hi : i < n := by rw [← hl]; exact (List.getElem?_eq_some_iff.mp hd).1
    unfold xcp
    rw [xs_same, z0, nI_clamp (by omega), cpy_in hi, xsf_r (by decide)]
    exact hp i d hd
  · unfold xcp; rw [xs_o ho, xsf_o ho]
  · unfold xcp; rw [xs_ne _ _ _ _ (by decide), xsf_r (by decide)]
/-! eggs of the nest as a set -/
def nS (F0 : Nat → Nat → Int32) (ne : Nat) : Nat → Bool := sB (pEn (F0 2) 0 ne)
theorem nS_lt {F0 : Nat → Nat → Int32} {ne : Nat} (h6 : ne ≤ 6) : pEn (F0 2) 0 ne < 64 := by
  have h2 := pEn_lt (F0 2) 0 ne
  have h3 : 2 ^ ne ≤ 64 := Nat.pow_le_pow_right (n := 2) (by decide) h6
  omega
theorem nS_iff {F0 : Nat → Nat → Int32} {ne e : Nat} (h6 : ne ≤ 6) : nS F0 ne e = true ↔ e < ne ∧ F0 2 e = 0 := by
  unfold nS sB
  rw [decide_eq_true_iff]
  by_cases he : e < 6
  · exact pEn_bit h6 he
  · have h2 := nS_lt (F0 := F0) h6
    have h3 : 2 ^ 6 ≤ 2 ^ e := Nat.pow_le_pow_right (n := 2) (by decide) (by omega)
    have h4 : pEn (F0 2) 0 ne / 2 ^ e = 0 := Nat.div_eq_of_lt (by omega)
    rw [h4]
    exact ⟨fun q => absurd q (by decide), fun q => absurd q.1 (by omega)⟩
theorem okB_mem {inS : Nat → Bool} : ∀ {l : List Nat}, okB inS l = true → ∀ d, d ∈ l → inS d = true
  | [], _, d, hd => absurd hd (by simp)
  | a :: l, h, d, hd => by
    rw [okB, Bool.and_eq_true, Bool.and_eq_true] at h
    rcases List.mem_cons.mp hd with q | q
    · rw [q]; exact h.1.1
    · exact okB_mem h.2 d q
abbrev oR (M : xMem) (ns ne : Nat) (F0 : Nat → Nat → Int32) (p : List Nat) : Nat → Nat → Int32 := rSeq (M 3 7) (M 3 4) (M 3 5) ns ne F0 p
def oS (M : xMem) (ns ne : Nat) (F0 : Nat → Nat → Int32) (p : List Nat) : Nat := scF ns ne (oR M ns ne F0 p)
theorem oS_le (M : xMem) (ns ne : Nat) (F0 : Nat → Nat → Int32) (p : List Nat) : oS M ns ne F0 p ≤ 6 := scF_le _ _ _
theorem ok_lt {F0 : Nat → Nat → Int32} {ne : Nat} (h6 : ne ≤ 6) {pre : List Nat} (hok : okB (nS F0 ne) pre = true) : ∀ d, d ∈ pre → d < ne := fun d hd => ((nS_iff h6).mp (okB_mem hok d hd)).1
theorem oS_step {M : xMem} {ns ne : Nat} {F0 : Nat → Nat → Int32} (h5 : ns ≤ 5) (h6 : ne ≤ 6) (hK : ∀ e, e < ne → ∃ w, w ≤ 5 ∧ M 3 7 e = nI w) (hv : vF ns ne F0) {pre : List Nat} {e : Nat} (hok : okB (nS F0 ne) (pre ++ [e]) = true) : oS M ns ne F0 (pre ++ [e]) = oS M ns ne F0 pre + if pRw (oR M ns ne F0 (pre ++ [e])) ns e = 1 then 1 else 0 := by
  rw [okB_snoc, Bool.and_eq_true, Bool.and_eq_true] at hok
  obtain ⟨hok1, hin, hnc⟩ := hok
  obtain ⟨he, h0⟩ := (nS_iff h6).mp hin
  have hlt := ok_lt h6 hok1
  have hnc' : pre.contains e = false := by
    cases hb : pre.contains e with
    | true => rw [hb] at hnc; exact absurd hnc (by decide)
    | false => rfl
  unfold oS oR
  rw [rSeq_snoc]
  exact scF_step h5 h6 he (rSeq_v h5 hK hv pre hlt) ((rSeq_nest h5 hK hv pre hlt).mpr ⟨h0, hnc'⟩)
theorem e_rollOne {M0 : xMem} {F0 : Nat → Nat → Int32} {ns ne n : Nat} (hns : M0 3 0 0 = nI ns) (h5 : ns ≤ 5) (hne : M0 3 0 1 = nI ne) (h6 : ne ≤ 6) (hK : ∀ e, e < ne → ∃ w, w ≤ 5 ∧ M0 3 7 e = nI w) (hv : vF ns ne F0) (hn : n ≤ 6) : ∀ d m pre M st, m < d → pre.length + m = n → okB (nS F0 ne) pre = true → CS M0 M n st → sameF (M (pre.length + 14 + 9)) (oR M0 ns ne F0 pre) → rPa (M 5 3) pre → ∃ M', f_X4_rollOneMore d (nI pre.length) (nI (oS M0 ns ne F0 pre)) M = some M' ∧ CS M0 M' n (TT (nS F0 ne) (oS M0 ns ne F0) m pre st) ∧ (∀ j, j ≤ pre.length → M' (j + 14 + 9) = M (j + 14 + 9)) ∧ ∀ j, j < pre.length → M' 5 3 j = M 5 3 j := by
  intro d
  induction d with
  | zero => intro m pre M st h; omega
  | succ d ih =>
    intro m pre M st hm hl hok hCS hsame hpa
    have hlt := ok_lt h6 hok
    have hsc := oS_le M0 ns ne F0 pre
    obtain ⟨c1, c2, c3, c4⟩ := id hCS
    rw [f_X4_rollOneMore]
    unfold fF_X4_rollOneMore
    rw [c2, c3, nI_add, pk_sub (by omega), show oS M0 ns ne F0 pre + n - pre.length = oS M0 ns ne F0 pre + m by omega]
    have hmo := moI_lt (st := st) (k := oS M0 ns ne F0 pre + m) (by omega) (fun b q e => (c4 b q e).1)
    by_cases hlo : moI st < nI (oS M0 ns ne F0 pre + m)
    · rw [if_pos hlo]
      have hb := hmo.mp hlo
      cases m with
      | zero =>
        rw [if_neg (by rw [show n = pre.length by omega]; exact nI_nlt (by omega) (by omega))]
        obtain ⟨M', g1, g2, g3, g4⟩ := e_keepTried hCS hn (by omega) hpa hsc
        rw [g1, xb1_e]
        refine ⟨M', rfl, ?_, fun j _ => g3 _ (by omega), fun j _ => by rw [g4]⟩
        rw [TT, btr_some (fun b q e => by have := hb b q e; omega)]
        exact g2
      | succ m =>
        rw [if_pos (nI_lt (by omega) (by omega))]
        unfold f_X4_rollEach
        rw [xchk_t _ (xb_nI (show pre.length < 7 by omega) (by decide)), nI_1, xchk_t _ (xb_nI (show pre.length + 1 < 7 by omega) (by decide))]
        obtain ⟨g, hg⟩ : ∃ g : Nat → oSt → oSt, g = fun e st => if (nS F0 ne e && !(pre.contains e)) = true then TT (nS F0 ne) (oS M0 ns ne F0) m (pre ++ [e]) st else st := ⟨_, rfl⟩
        have key : ∀ fu e M', e ≤ ne → ne - e < fu → CS M0 M' n (fe g e st) → (∀ j, j ≤ pre.length → M' (j + 14 + 9) = M (j + 14 + 9)) → (∀ j, j < pre.length → M' 5 3 j = M 5 3 j) → ∃ M'', f_X4_rollEach_l20 (nI pre.length) (nI (oS M0 ns ne F0 pre)) (f_X4_rollOneMore d) fu (nI e) M' = some M'' ∧ CS M0 M'' n (fe g ne st) ∧ (∀ j, j ≤ pre.length → M'' (j + 14 + 9) = M (j + 14 + 9)) ∧ ∀ j, j < pre.length → M'' 5 3 j = M 5 3 j := by
          intro fu
          induction fu with
          | zero => intro e M' h1 h2; omega
          | succ fu ihf =>
            intro e M' h1 h2 hC' hfl htr
            have m3 : M' 3 = M0 3 := hC'.1 3 (by decide) (fun j _ => by omega)
            rw [f_X4_rollEach_l20, m3, hne]
            by_cases he : e = ne
            · subst he
              rw [if_pos (i32_le_rfl _)]
              exact ⟨M', rfl, hC', hfl, htr⟩
            · have hel : e < ne := by omega
              have hb6 := xb_nI (show e < 6 by omega) (by decide)
              have hr0 := rSeq_nest (Sk := M0 3 4) (Rm := M0 3 5) (e := e) h5 hK hv pre hlt
              have hfe : M' (pre.length + 14 + 9) 2 e = oR M0 ns ne F0 pre 2 e := by rw [hfl _ (Nat.le_refl _)]; exact (hsame.1 e (by omega)).1
              rw [if_neg (le_nI (by omega) (by omega) hel), xchk_t _ hb6, nI_clamp (show e < 2 ^ 31 by omega), nI_1, nI_clamp (show pre.length < 2 ^ 31 by omega), nI_clamp (show pre.length + 1 < 2 ^ 31 by omega), hfe]
              by_cases hz : oR M0 ns ne F0 pre 2 e = 0
              · obtain ⟨hz1, hz2⟩ := hr0.mp hz
                have hin : (nS F0 ne e && !(pre.contains e)) = true := by rw [(nS_iff h6).mpr ⟨hel, hz1⟩, hz2]; rfl
                have hok' : okB (nS F0 ne) (pre ++ [e]) = true := by rw [okB_snoc, hok, hin]; rfl
                have hlt' := ok_lt h6 hok'
                obtain ⟨M1, g1, g2, g3⟩ := e_become (i := pre.length + 1 + 14) (j := pre.length + 14) (by omega) M'
                have hs1 : sameF (M1 (pre.length + 1 + 14 + 9)) (oR M0 ns ne F0 pre) := g2.tr (by rw [hfl _ (Nat.le_refl _)]; exact hsame)
                have hvp := rSeq_v (Sk := M0 3 4) (Rm := M0 3 5) h5 hK hv pre hlt
                have hv1 := hs1.vF h5 h6 hvp
                have e3 : M1 3 = M0 3 := by rw [g3 3 (by omega), m3]
                have gr := e_roll (M := M1) (i := pre.length + 1 + 14) (e := e) (by rw [e3]; exact hns) h5 (by rw [e3]; exact hne) h6 hel (by rw [e3]; exact hK e hel) hv1
                obtain ⟨M2, hM2⟩ : ∃ M2, M2 = va_up M1 (pre.length + 1 + 14 + 9) (rollF M1 ns ne e (M1 (pre.length + 1 + 14 + 9))).2 := ⟨_, rfl⟩
                rw [← hM2] at gr
                have o2 : ∀ o, o ≠ pre.length + 1 + 14 + 9 → M2 o = M' o := fun o ho => by rw [hM2, va_up_ne _ _ ho, g3 o ho]
                have f2 : sameF (M2 (pre.length + 1 + 14 + 9)) (oR M0 ns ne F0 (pre ++ [e])) := by
                  rw [hM2, va_up_self]
                  show sameF _ (rSeq (M0 3 7) (M0 3 4) (M0 3 5) ns ne F0 (pre ++ [e]))
                  rw [rSeq_snoc]
                  unfold rollF
                  rw [e3]
                  exact pRoll_same h5 h6 (by omega) ns 0 _ _ (by omega) (fun j hj => (hvp.2.1 j hj).2.1) hs1
                obtain ⟨M3, hM3⟩ : ∃ M3, M3 = xst M2 5 3 (nI pre.length) (nI e) := ⟨_, rfl⟩
                have o3 : ∀ o, o ≠ 5 → M3 o = M2 o := fun o ho => by rw [hM3, xst_o ho]
                have f3 : sameF (M3 (pre.length + 1 + 14 + 9)) (oR M0 ns ne F0 (pre ++ [e])) := by rw [o3 _ (by omega)]; exact f2
                have hvs := rSeq_v (Sk := M0 3 4) (Rm := M0 3 5) h5 hK hv (pre ++ [e]) hlt'
                have m33 : M3 3 = M0 3 := by rw [o3 3 (by decide), o2 3 (by omega), m3]
                have gi := e_isRight (M := M3) (i := pre.length + 1 + 14) (e := e) (by rw [m33]; exact hns) h5 (by omega) (f3.vF h5 h6 hvs)
                rw [pRw_same h5 (by omega) (fun j hj => (hvs.2.1 j hj).2.1) f3] at gi
                have hst := oS_step h5 h6 hK hv hok'
                have m2r : ∀ r, M2 5 r = M' 5 r := fun r => by rw [o2 5 (by omega)]
                have hC3 : CS M0 M3 n (fe g e st) := by
                  refine ⟨fun o ho hj => ?_, ?_, ?_, fun b q hq => ?_⟩
                  · rw [o3 o ho, o2 o (hj (pre.length + 1) (by omega))]; exact hC'.1 o ho hj
                  · rw [hM3, xst_r (by decide), m2r]; exact hC'.2.1
                  · rw [hM3, xst_r (by decide), m2r]; exact hC'.2.2.1
                  · rw [hM3, xst_r (by decide), m2r]; exact hC'.2.2.2 b q hq
                have hp3 : rPa (M3 5 3) (pre ++ [e]) := by
                  have hp' : rPa (M2 5 3) pre := fun i x hx => by
                    rw [m2r, htr i (List.getElem?_eq_some_iff.mp hx).1]; exact hpa i x hx
                  have := rPa_snoc (d := e) hp'
                  rw [hM3]
                  unfold xst
                  rw [xs_same, nI_clamp (by omega)]
                  exact this
                have hle : (pre ++ [e]).length = pre.length + 1 := by rw [List.length_append, List.length_singleton]
                obtain ⟨M4, q1, q2, q3, q4⟩ := ih m (pre ++ [e]) M3 (fe g e st) (by omega) (by omega) hok' hC3 (by rw [hle]; exact f3) hp3
                rw [hle] at q1 q3 q4
                have hfe1 : fe g (e + 1) st = TT (nS F0 ne) (oS M0 ns ne F0) m (pre ++ [e]) (fe g e st) := by
                  rw [fe, hg]
                  exact if_pos hin
                have hnext := ihf (e + 1) M4 (by omega) (by omega) (by rw [hfe1]; exact q2) (fun j hj => by rw [q3 j (by omega), o3 _ (by omega), o2 _ (by omega), hfl j hj]) (fun j hj => by
                  rw [q4 j (by omega), hM3, xst_e (by omega), if_neg (by omega), m2r, htr j hj])
                rw [if_pos hz, g1, xb1_e, gr, xb2_e, xchk_t _ (xb_nI (show pre.length < 6 by omega) (by decide)), xlet_e, ← hM3, gi, xb1_e]
                have hb85 : ∀ v, v = nI (oS M0 ns ne F0 (pre ++ [e])) → ∃ M'', f_X4_rollEach_b85 (nI pre.length) (f_X4_rollOneMore d) M3 (f_X4_rollEach_b88 (nI e) (f_X4_rollEach_l20 (nI pre.length) (nI (oS M0 ns ne F0 pre)) (f_X4_rollOneMore d) fu)) v = some M'' ∧ CS M0 M'' n (fe g ne st) ∧ (∀ j, j ≤ pre.length → M'' (j + 14 + 9) = M (j + 14 + 9)) ∧ ∀ j, j < pre.length → M'' 5 3 j = M 5 3 j := by
                  intro v hv'
                  unfold f_X4_rollEach_b85 f_X4_rollEach_b88
                  rw [nI_1, hv', q1, xb1_e, nI_1]
                  exact hnext
                by_cases hw : pRw (oR M0 ns ne F0 (pre ++ [e])) ns e = 1
                · rw [if_neg (by rw [hw]; decide)]
                  rw [if_pos hw] at hst
                  exact hb85 _ (by rw [nI_1, hst])
                · have hw0 : pRw (oR M0 ns ne F0 (pre ++ [e])) ns e = 0 := by
                    unfold pRw at hw ⊢
                    by_cases hz' : oR M0 ns ne F0 (pre ++ [e]) 2 e = pTo (oR M0 ns ne F0 (pre ++ [e])) ns e
                    · rw [if_pos hz'] at hw; exact absurd rfl hw
                    · rw [if_neg hz']
                  rw [if_pos hw0]
                  rw [if_neg hw] at hst
                  exact hb85 _ (by rw [hst, Nat.add_zero])
              · have hin : ¬ (nS F0 ne e && !(pre.contains e)) = true := fun q => by
                  rw [Bool.and_eq_true, Bool.not_eq_true'] at q
                  exact hz (hr0.mpr ⟨((nS_iff h6).mp q.1).2, q.2⟩)
                have hfe1 : fe g (e + 1) st = fe g e st := by
                  rw [fe, hg]
                  exact if_neg hin
                rw [if_neg hz]
                unfold f_X4_rollEach_b88
                rw [nI_1]
                exact ihf (e + 1) M' (by omega) (by omega) (by rw [hfe1]; exact hC') hfl htr
        obtain ⟨M'', k1, k2, k3, k4⟩ := key FU 0 M (by omega) (FU_gt (by omega)) hCS (fun _ _ => rfl) (fun _ _ => rfl)
        have hmore := fe_more (g := g) (st := st) (a := ne) (fun k st' hk => by
          rw [hg]
          refine if_neg (fun q => ?_)
          rw [Bool.and_eq_true] at q
          have := ((nS_iff h6).mp q.1).1
          omega) (6 - ne)
        rw [show ne + (6 - ne) = 6 by omega] at hmore
        rw [show (0 : Int32) = nI 0 from rfl, k1, xb1_e]
        refine ⟨M'', rfl, ?_, k3, k4⟩
        rw [TT, ← hg, hmore]
        exact k2
    · rw [if_neg hlo]
      obtain ⟨b, q, rfl, hbq⟩ := st_not (fun h => hlo (hmo.mpr h))
      refine ⟨M, rfl, ?_, fun _ _ => rfl, fun _ _ => rfl⟩
      rw [TT_prune (fun pre e hok' => by
        rw [oS_step h5 h6 hK hv hok']
        split <;> omega) m pre b q hok hbq]
      exact hCS
