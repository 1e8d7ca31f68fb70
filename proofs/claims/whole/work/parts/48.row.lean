/-! orders of scales: pure -/
def rAll (K Sk Rm : Nat → Int32) (ns ne : Nat) (F : Nat → Nat → Int32) : Nat → Nat → Nat → Int32
  | 0 => F
  | k + 1 => if rAll K Sk Rm ns ne F k 2 k = 0 then (pRoll K Sk Rm ne k ns 0 (rAll K Sk Rm ns ne F k)).2 else rAll K Sk Rm ns ne F k
theorem rAll_v {K Sk Rm : Nat → Int32} {ns ne : Nat} {F : Nat → Nat → Int32} (h5 : ns ≤ 5) (hK : ∀ e, e < ne → ∃ w, w ≤ 5 ∧ K e = nI w) (hv : vF ns ne F) : ∀ k, k ≤ ne → vF ns ne (rAll K Sk Rm ns ne F k)
  | 0, _ => hv
  | k + 1, h => by
    have hi := rAll_v (Sk := Sk) (Rm := Rm) h5 hK hv k (by omega)
    rw [rAll]
    split
    · exact pRoll_v h5 (hK k (by omega)) (by omega) ns 0 _ (by omega) hi
    · exact hi
def rowR (R : Nat → Int32) (p : List Nat) : Nat → Int32 := fun k => match p[k]? with
  | some d => nI d
  | none => R k
def rowF (F : Nat → Nat → Int32) (p : List Nat) : Nat → Nat → Int32 := va_up F 5 (rowR (F 5) p)
theorem rowF_r {F : Nat → Nat → Int32} {p : List Nat} {r : Nat} (h : r ≠ 5) : rowF F p r = F r := va_up_ne _ _ h
theorem rowF_5 {F : Nat → Nat → Int32} {p : List Nat} : rowF F p 5 = rowR (F 5) p := va_up_self _ _ _
theorem rowR_s {R : Nat → Int32} {p : List Nat} {k d : Nat} (h : p[k]? = some d) : rowR R p k = nI d := by
  unfold rowR
  rw [h]
theorem rowR_n {R : Nat → Int32} {p : List Nat} {k : Nat} (h : p.length ≤ k) : rowR R p k = R k := by
  unfold rowR
  rw [List.getElem?_eq_none h]
theorem okB_inj {inS : Nat → Bool} : ∀ {l : List Nat}, okB inS l = true → ∀ (i j d : Nat), l[i]? = some d → l[j]? = some d → i = j
  | [], _, i, j, d, h1, _ => absurd h1 (by simp)
  | a :: l, h, i, j, d, h1, h2 => by
    rw [okB, Bool.and_eq_true, Bool.and_eq_true, Bool.not_eq_true'] at h
    have hno : ∀ k : Nat, l[k]? = some a → False := fun k hk => by
      have hm : a ∈ l := List.mem_of_getElem? hk
      have hc : l.contains a = true := List.contains_iff_mem.mpr hm
      rw [h.1.2] at hc
      exact absurd hc (by decide)
    cases i with
    | zero =>
      cases j with
      | zero => rfl
      | succ j =>
        rw [List.getElem?_cons_zero] at h1
        rw [List.getElem?_cons_succ] at h2
        obtain rfl := Option.some.inj h1
        exact (hno j h2).elim
    | succ i =>
      rw [List.getElem?_cons_succ] at h1
      cases j with
      | zero =>
        rw [List.getElem?_cons_zero] at h2
        obtain rfl := Option.some.inj h2
        exact (hno i h1).elim
      | succ j =>
        rw [List.getElem?_cons_succ] at h2
        rw [okB_inj h.2 i j d h1 h2]
/-- all scales as a set -/
def sS (ns : Nat) : Nat → Bool := sB (2 ^ ns - 1)
theorem sS_key : ∀ ns, ns ≤ 5 → ∀ d, d < 6 → ((2 ^ ns - 1) / 2 ^ d % 2 = 1 ↔ d < ns) := by decide +kernel
theorem sS_lt {ns : Nat} (h5 : ns ≤ 5) : 2 ^ ns - 1 < 64 := by
  have h3 : 2 ^ ns ≤ 2 ^ 5 := Nat.pow_le_pow_right (n := 2) (by decide) h5
  omega
theorem sS_iff {ns d : Nat} (h5 : ns ≤ 5) : sS ns d = true ↔ d < ns := by
  unfold sS sB
  rw [decide_eq_true_iff]
  by_cases hd : d < 6
  · exact sS_key ns h5 d hd
  · have h2 := sS_lt h5
    have h3 : 2 ^ 6 ≤ 2 ^ d := Nat.pow_le_pow_right (n := 2) (by decide) (by omega)
    have h4 : (2 ^ ns - 1) / 2 ^ d = 0 := Nat.div_eq_of_lt (by omega)
    rw [h4]
    exact ⟨fun q => absurd q (by decide), fun q => absurd q (by omega)⟩
theorem sS_pop : ∀ ns, ns ≤ 5 → popN (2 ^ ns - 1) = ns := by decide +kernel
theorem rowF_v {ns ne : Nat} {F : Nat → Nat → Int32} {p : List Nat} (h5 : ns ≤ 5) (hv : vF ns ne F) (hl : p.length = ns) (hok : okB (sS ns) p = true) : vF ns ne (rowF F p) := by
  have hp : ∀ k, k < ns → ∃ d, p[k]? = some d ∧ d < ns := fun k hk => by
    have hg : p[k]? = some p[k] := List.getElem?_eq_getElem (by omega)
    exact ⟨_, hg, (sS_iff h5).mp (okB_mem hok _ (List.mem_of_getElem? hg))⟩
  refine ⟨fun e he => ?_, fun s hs => ?_, fun s t hs ht e => ?_⟩
  · rw [rowF_r (by decide), rowF_r (by decide)]; exact hv.1 e he
  · obtain ⟨d, h1, h2⟩ := hp s hs
    rw [rowF_r (show 4 ≠ 5 by decide), rowF_r (show 6 ≠ 5 by decide), rowF_5, rowR_s h1]
    exact ⟨(hv.2.1 s hs).1, ⟨d, h2, rfl⟩, (hv.2.1 s hs).2.2⟩
  · obtain ⟨d, h1, h2⟩ := hp s hs
    obtain ⟨d', h1', h2'⟩ := hp t ht
    rw [rowF_5, rowR_s h1, rowR_s h1'] at e
    have hdd := (nI_eq (by omega) (by omega)).mp e
    rw [← hdd] at h1'
    exact okB_inj hok s t d h1 h1'
def wS (M : xMem) (ns ne : Nat) (F0 : Nat → Nat → Int32) (p : List Nat) : Nat := scF ns ne (rAll (M 3 7) (M 3 4) (M 3 5) ns ne (rowF F0 p) ne)
theorem wS_le (M : xMem) (ns ne : Nat) (F0 : Nat → Nat → Int32) (p : List Nat) : wS M ns ne F0 p ≤ 6 := scF_le _ _ _
/-! the class's -/
theorem e_tryRow {M0 M : xMem} {F0 : Nat → Nat → Int32} {ns ne : Nat} {st : oSt} {p : List Nat} (hns : M0 3 0 0 = nI ns) (h5 : ns ≤ 5) (hne : M0 3 0 1 = nI ne) (h6 : ne ≤ 6) (hK : ∀ e, e < ne → ∃ w, w ≤ 5 ∧ M0 3 7 e = nI w) (hv : vF ns ne F0) (hCS : CS M0 M ns st) (hsame : sameF (M (14 + 9)) F0) (hl : p.length = ns) (hok : okB (sS ns) p = true) (hpa : rPa (M 5 3) p) : ∃ M', f_X4_tryRow M = some M' ∧ CS M0 M' ns (btr (wS M0 ns ne F0 p) p st) ∧ M' (14 + 9) = M (14 + 9) ∧ M' 5 3 = M 5 3 := by
  have z1 : (1 : Int32).toNatClampNeg + 14 = 15 := rfl
  have z0 : (0 : Int32).toNatClampNeg = 0 := rfl
  obtain ⟨c1, c2, c3, c4⟩ := id hCS
  obtain ⟨M1, g1, g2, g3⟩ := e_become (i := 15) (j := 14) (by decide) M
  have hx : xcb 0 0 (nI ns) 6 5 = true := by
    have key : ∀ n, n ≤ 5 → xcb 0 0 (nI n) 6 5 = true := by decide +kernel
    exact key ns h5
  have m5 : M1 5 = M 5 := g3 5 (by decide)
  unfold f_X4_tryRow
  rw [z1, show (0 : Int32).toNatClampNeg + 14 = 14 from rfl, g1, xb1_e, m5, c2, xchk_t _ hx, xlet_e]
  obtain ⟨M2, hM2⟩ : ∃ M2, M2 = xcp M1 5 3 0 (15 + 9) 5 0 (nI ns) := ⟨_, rfl⟩
  rw [← hM2]
  have o2 : ∀ o, o ≠ 15 + 9 → M2 o = M o := fun o ho => by rw [hM2]; unfold xcp; rw [xs_o ho, g3 o ho]
  have hs1 := g2.tr hsame
  have f2 : sameF (M2 (15 + 9)) (rowF F0 p) := by
    rw [hM2]
    unfold xcp
    rw [z0, nI_clamp (by omega), m5]
    refine ⟨fun k hk => ?_, fun k hk => ?_⟩
    · rw [xs_ne _ _ _ _ (by decide), xs_ne _ _ _ _ (by decide), rowF_r (by decide), rowF_r (by decide)]
      exact hs1.1 k hk
    · rw [xs_ne _ _ _ _ (by decide), xs_same, xs_ne _ _ _ _ (by decide), rowF_r (show 4 ≠ 5 by decide), rowF_r (show 6 ≠ 5 by decide), rowF_5]
      refine ⟨(hs1.2 k hk).1, ?_, (hs1.2 k hk).2.2⟩
      by_cases hkn : k < ns
      · have hg : p[k]? = some p[k] := List.getElem?_eq_getElem (by omega)
        rw [cpy_in hkn, rowR_s hg]
        exact hpa _ _ hg
      · rw [pk_cpy_out (by omega), rowR_n (by omega)]
        exact (hs1.2 k hk).2.1
  have hvr := rowF_v h5 hv hl hok
  have key : ∀ fu k M', k ≤ ne → ne - k < fu → (∀ o, o ≠ 15 + 9 → M' o = M o) → sameF (M' (15 + 9)) (rAll (M0 3 7) (M0 3 4) (M0 3 5) ns ne (rowF F0 p) k) → ∃ M'', f_X4_tryRow_l36 fu (nI k) M' = some M'' ∧ CS M0 M'' ns (btr (wS M0 ns ne F0 p) p st) ∧ M'' (14 + 9) = M (14 + 9) ∧ M'' 5 3 = M 5 3 := by
    intro fu
    induction fu with
    | zero => intro k M' h1 h2; omega
    | succ fu ih =>
      intro k M' h1 h2 ho hs
      have m3 : M' 3 = M0 3 := by rw [ho 3 (by decide)]; exact c1 3 (by decide) (fun j _ => by omega)
      have hvk := rAll_v (Sk := M0 3 4) (Rm := M0 3 5) h5 hK hvr k h1
      have hv' := hs.vF h5 h6 hvk
      rw [f_X4_tryRow_l36, m3, hne, z1]
      by_cases hk : k = ne
      · subst hk
        have h2 := pEn_lt (pRw (M' (15 + 9)) ns) 1 k
        have h3 : 2 ^ k ≤ 64 := Nat.pow_le_pow_right (n := 2) (by decide) h6
        have hsc : popN (pEn (pRw (M' (15 + 9)) ns) 1 k) = wS M0 ns k F0 p := by
          unfold wS scF
          rw [pEn_congr (fun e he => pRw_same h5 (by omega) (fun j hj => (hvk.2.1 j hj).2.1) hs)]
        rw [if_pos (i32_le_rfl _), e_rightEggs (i := 15) (by rw [m3]; exact hns) h5 (by rw [m3]; exact hne) h6 hv', xb1_e, pE_n _ _ _ h6, e_bitCount (by omega), xb1_e, hsc]
        have hC' : CS M0 M' ns st := by
          refine ⟨fun o ho1 ho2 => ?_, ?_, ?_, fun b q e => ?_⟩
          · rw [ho o (ho2 1 (by decide))]; exact c1 o ho1 ho2
          · rw [ho 5 (by decide)]; exact c2
          · rw [ho 5 (by decide)]; exact c3
          · rw [ho 5 (by decide)]; exact c4 b q e
        have hmo := moI_lt (st := st) (k := wS M0 ns k F0 p) (by have := wS_le M0 ns k F0 p; omega) (fun b q e => (c4 b q e).1)
        rw [hC'.2.2.1]
        by_cases hlo : moI st < nI (wS M0 ns k F0 p)
        · obtain ⟨M'', q1, q2, q3, q4⟩ := e_keepTried hC' (by omega) hl (by rw [ho 5 (by decide)]; exact hpa) (wS_le M0 ns k F0 p)
          rw [if_neg (fun q => (i32_nlt.mp q) hlo), q1, xb1_e, btr_some (hmo.mp hlo)]
          exact ⟨M'', rfl, q2, by rw [q3 _ (by decide), ho _ (by decide)], by rw [q4, ho 5 (by decide)]⟩
        · rw [if_pos (i32_nlt.mpr hlo)]
          refine ⟨M', rfl, ?_, ho _ (by decide), by rw [ho 5 (by decide)]⟩
          obtain ⟨b, q, rfl, hbq⟩ := st_not (fun z => hlo (hmo.mpr z))
          rw [btr, if_neg (by omega)]
          exact hC'
      · have hlt : k < ne := by omega
        have hb6 := xb_nI (show k < 6 by omega) (by decide)
        have e2 : M' (15 + 9) 2 k = rAll (M0 3 7) (M0 3 4) (M0 3 5) ns ne (rowF F0 p) k 2 k := (hs.1 k (by omega)).1
        rw [if_neg (le_nI (by omega) (by omega) hlt), xchk_t _ hb6, nI_clamp (by omega), e2]
        unfold f_X4_tryRow_b62
        rw [nI_1]
        by_cases hz : rAll (M0 3 7) (M0 3 4) (M0 3 5) ns ne (rowF F0 p) k 2 k = 0
        · have gr := e_roll (M := M') (i := 15) (e := k) (by rw [m3]; exact hns) h5 (by rw [m3]; exact hne) h6 hlt (by rw [m3]; exact hK k hlt) hv'
          rw [if_pos hz, gr, xb2_e]
          refine ih (k + 1) _ (by omega) (by omega) (fun o ho' => by rw [va_up_ne _ _ ho', ho o ho']) ?_
          rw [va_up_self, rAll, if_pos hz]
          unfold rollF
          rw [m3]
          exact pRoll_same h5 h6 (by omega) ns 0 _ _ (by omega) (fun j hj => (hvk.2.1 j hj).2.1) hs
        · rw [if_neg hz]
          refine ih (k + 1) M' (by omega) (by omega) ho ?_
          rw [rAll, if_neg hz]
          exact hs
  exact key FU 0 M2 (by omega) (FU_gt (by omega)) o2 f2
theorem has0_key : ∀ S, S < 64 → ∀ e, e < 6 → (((nI S >>> (nI e &&& 31)) &&& (1 : Int32)) = 0 ↔ ¬ S / 2 ^ e % 2 = 1) := by decide +kernel
theorem e_placeOne {M0 : xMem} {F0 : Nat → Nat → Int32} {ns ne : Nat} (hns : M0 3 0 0 = nI ns) (h5 : ns ≤ 5) (hne : M0 3 0 1 = nI ne) (h6 : ne ≤ 6) (hK : ∀ e, e < ne → ∃ w, w ≤ 5 ∧ M0 3 7 e = nI w) (hv : vF ns ne F0) : ∀ d m pre A M st, m < d → pre.length + m = ns → okB (sS ns) pre = true → CS M0 M ns st → A < 64 → (∀ j, j < 6 → (A / 2 ^ j % 2 = 1 ↔ pre.contains j = true)) → sameF (M (14 + 9)) F0 → rPa (M 5 3) pre → ∃ M', f_X4_placeOneMore d (nI pre.length) (nI A) M = some M' ∧ CS M0 M' ns (TT (sS ns) (wS M0 ns ne F0) m pre st) ∧ M' (14 + 9) = M (14 + 9) ∧ ∀ j, j < pre.length → M' 5 3 j = M 5 3 j := by
  intro d
  induction d with
  | zero => intro m pre A M st h; omega
  | succ d ih =>
    intro m pre A M st hm hl hok hCS hA hbit hsame hpa
    obtain ⟨c1, c2, c3, c4⟩ := id hCS
    rw [f_X4_placeOneMore]
    unfold fF_X4_placeOneMore
    rw [c2]
    cases m with
    | zero =>
      rw [if_neg (by rw [show ns = pre.length by omega]; exact nI_nlt (by omega) (by omega))]
      obtain ⟨M', g1, g2, g3, g4⟩ := e_tryRow hns h5 hne h6 hK hv hCS hsame (by omega) hok hpa
      rw [g1, xb1_e]
      exact ⟨M', rfl, by rw [TT]; exact g2, g3, fun j _ => by rw [g4]⟩
    | succ m =>
      rw [if_pos (nI_lt (by omega) (by omega))]
      unfold f_X4_placeEach
      obtain ⟨g, hg⟩ : ∃ g : Nat → oSt → oSt, g = fun e st => if (sS ns e && !(pre.contains e)) = true then TT (sS ns) (wS M0 ns ne F0) m (pre ++ [e]) st else st := ⟨_, rfl⟩
      have key : ∀ fu e M', e ≤ ns → ns - e < fu → CS M0 M' ns (fe g e st) → M' (14 + 9) = M (14 + 9) → (∀ j, j < pre.length → M' 5 3 j = M 5 3 j) → ∃ M'', f_X4_placeEach_l2 (nI pre.length) (nI A) (f_X4_placeOneMore d) fu (nI e) M' = some M'' ∧ CS M0 M'' ns (fe g ns st) ∧ M'' (14 + 9) = M (14 + 9) ∧ ∀ j, j < pre.length → M'' 5 3 j = M 5 3 j := by
        intro fu
        induction fu with
        | zero => intro e M' h1 h2; omega
        | succ fu ihf =>
          intro e M' h1 h2 hC' hfl htr
          have m3 : M' 3 = M0 3 := hC'.1 3 (by decide) (fun j _ => by omega)
          rw [f_X4_placeEach_l2, m3, hns]
          by_cases he : e = ns
          · subst he
            rw [if_pos (i32_le_rfl _)]
            exact ⟨M', rfl, hC', hfl, htr⟩
          · have hel : e < ns := by omega
            have he6 : e < 6 := by omega
            have hh := has0_key A hA e he6
            rw [if_neg (le_nI (by omega) (by omega) hel)]
            by_cases hc : pre.contains e = true
            · have hin : ¬ (sS ns e && !(pre.contains e)) = true := fun q => by
                rw [Bool.and_eq_true, Bool.not_eq_true', hc] at q
                exact absurd q.2 (by decide)
              have hfe1 : fe g (e + 1) st = fe g e st := by
                rw [fe, hg]
                exact if_neg hin
              rw [if_neg (fun q => hh.mp q ((hbit e he6).mpr hc))]
              unfold f_X4_placeEach_b40
              rw [nI_1]
              exact ihf (e + 1) M' (by omega) (by omega) (by rw [hfe1]; exact hC') hfl htr
            · have hc' : pre.contains e = false := by
                cases hb : pre.contains e with
                | true => exact absurd hb hc
                | false => rfl
              have hin : (sS ns e && !(pre.contains e)) = true := by rw [(sS_iff h5).mpr hel, hc']; rfl
              have hok' : okB (sS ns) (pre ++ [e]) = true := by rw [okB_snoc, hok, hin]; rfl
              obtain ⟨M3, hM3⟩ : ∃ M3, M3 = xst M' 5 3 (nI pre.length) (nI e) := ⟨_, rfl⟩
              have o3 : ∀ o, o ≠ 5 → M3 o = M' o := fun o ho => by rw [hM3, xst_o ho]
              have hC3 : CS M0 M3 ns (fe g e st) := by
                refine ⟨fun o ho hj => ?_, ?_, ?_, fun b q hq => ?_⟩
                · rw [o3 o ho]; exact hC'.1 o ho hj
                · rw [hM3, xst_r (by decide)]; exact hC'.2.1
                · rw [hM3, xst_r (by decide)]; exact hC'.2.2.1
                · rw [hM3, xst_r (by decide)]; exact hC'.2.2.2 b q hq
              have hp3 : rPa (M3 5 3) (pre ++ [e]) := by
                have hp' : rPa (M' 5 3) pre := fun i x hx => by
                  rw [htr i (List.getElem?_eq_some_iff.mp hx).1]; exact hpa i x hx
                have := rPa_snoc (d := e) hp'
                rw [hM3]
                unfold xst
                rw [xs_same, nI_clamp (by omega)]
                exact this
              have hle : (pre ++ [e]).length = pre.length + 1 := by rw [List.length_append, List.length_singleton]
              obtain ⟨M4, q1, q2, q3, q4⟩ := ih m (pre ++ [e]) (A ||| 2 ^ e) M3 (fe g e st) (by omega) (by omega) hok' hC3 (put_key A hA e he6).2 (fun j hj => by
                rw [putbit_key A hA e he6 j hj, hbit j hj, contains_snoc, Bool.or_eq_true, beq_iff_eq]) (by rw [o3 _ (by decide), hfl]; exact hsame) hp3
              rw [hle] at q1 q4
              have hfe1 : fe g (e + 1) st = TT (sS ns) (wS M0 ns ne F0) m (pre ++ [e]) (fe g e st) := by
                rw [fe, hg]
                exact if_pos hin
              rw [if_pos (hh.mpr (fun q => hc ((hbit e he6).mp q))), xchk_t _ (xb_nI (show pre.length < 6 by omega) (by decide)), xlet_e, ← hM3, nI_1, (put_key A hA e he6).1, q1, xb1_e]
              unfold f_X4_placeEach_b40
              rw [nI_1]
              exact ihf (e + 1) M4 (by omega) (by omega) (by rw [hfe1]; exact q2) (by rw [q3, o3 _ (by decide), hfl]) (fun j hj => by
                rw [q4 j (by omega), hM3, xst_e (by omega), if_neg (by omega), htr j hj])
      obtain ⟨M'', k1, k2, k3, k4⟩ := key FU 0 M (by omega) (FU_gt (by omega)) hCS rfl (fun _ _ => rfl)
      have hmore := fe_more (g := g) (st := st) (a := ns) (fun k st' hk => by
        rw [hg]
        refine if_neg (fun q => ?_)
        rw [Bool.and_eq_true] at q
        have := (sS_iff h5).mp q.1
        omega) (6 - ns)
      rw [show ns + (6 - ns) = 6 by omega] at hmore
      rw [show (0 : Int32) = nI 0 from rfl, k1, xb1_e]
      refine ⟨M'', rfl, ?_, k3, k4⟩
      rw [TT, ← hg, hmore]
      exact k2
theorem e_orderScales {M : xMem} {ns ne : Nat} (hT : rT M ns ne) (hv : vF ns ne (M (0 + 9))) : ∃ M', f_X4_orderScales 0 M = some M' ∧ CS M M' ns (TT (sS ns) (wS M ns ne (M (0 + 9))) ns [] none) := by
  obtain ⟨h5, h6, t3, t4, t5, t6, tS, tE⟩ := id hT
  obtain ⟨M1, g1, g2, g3⟩ := e_become (i := 14) (j := 0) (by decide) M
  unfold f_X4_orderScales
  rw [show (0 : Int32).toNatClampNeg + 14 = 14 from rfl, g1, xb1_e, g3 3 (by decide), t3, xlet_e, xlet_e]
  obtain ⟨M2, hM2⟩ : ∃ M2, M2 = xsf (xsf M1 5 4 (nI ns)) 5 5 (-1) := ⟨_, rfl⟩
  have o2 : ∀ o, o ≠ 5 → M2 o = M1 o := fun o ho => by rw [hM2, xsf_o ho, xsf_o ho]
  have hC : CS M M2 ns none := by
    refine ⟨fun o ho hj => ?_, ?_, ?_, fun b q e => by cases e⟩
    · rw [o2 o ho, g3 o (hj 0 (by decide))]
    · rw [hM2, xsf_k (by decide), xsf_0]
    · rw [hM2, xsf_0]; rfl
  obtain ⟨M', q1, q2, -, -⟩ := e_placeOne (M0 := M) (F0 := M (0 + 9)) t3 h5 t4 h6 (fun e he => (tE e he).1) hv 8 ns [] 0 M2 none (by omega) (by rw [List.length_nil]; omega) rfl hC (by decide) (fun j hj => by
    have : ∀ j, j < 6 → ¬ 0 / 2 ^ j % 2 = 1 := by decide
    exact ⟨fun q => absurd q (this j hj), fun q => absurd q (by simp)⟩) (by
    rw [o2 _ (by decide)]
    exact g2) (fun i d h => absurd h (by simp))
  refine ⟨M', ?_, q2⟩
  have q1' : f_X4_placeOneMore 8 0 0 M2 = some M' := q1
  rw [← hM2, q1', xb1_e]
