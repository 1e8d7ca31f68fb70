def setF (F : Nat → Nat → Int32) (r j : Nat) (v : Int32) : Nat → Nat → Int32 := va_up F r (upd (F r) j v)
theorem setF_r {F : Nat → Nat → Int32} {r j q : Nat} {v : Int32} (h : q ≠ r) : setF F r j v q = F q := va_up_ne _ _ h
theorem setF_e {F : Nat → Nat → Int32} {r j k : Nat} {v : Int32} : setF F r j v r k = if k = j then v else F r k := by
  unfold setF
  rw [va_up_self]
  rfl
theorem up_xst {M0 : xMem} {o r j : Nat} {F : Nat → Nat → Int32} {v : Int32} (hj : j < 2 ^ 31) : xst (va_up M0 o F) o r (nI j) v = va_up M0 o (setF F r j v) := by
  unfold xst xs setF
  rw [va_up_self, nI_clamp hj]
  funext a
  unfold va_up
  by_cases h : a = o
  · simp [h]
  · simp [h]
/-- an egg e rolls, from place k of the row on, m places left -/
def pRoll (K Sk Rm : Nat → Int32) (ne e : Nat) : Nat → Nat → (Nat → Nat → Int32) → Int32 × (Nat → Nat → Int32)
  | 0, _, F => (-9, setF F 2 e 8)
  | m + 1, k, F =>
    if pSeems (K e) (F 3 e) - pStiff (Sk (F 5 k).toNatClampNeg) (F 6 (F 5 k).toNatClampNeg) < F 4 (F 5 k).toNatClampNeg then pRoll K Sk Rm ne e m (k + 1) (setF F 3 e (pLeak (K e) (F 3 e)))
    else if pFull Rm (F 2) ne (F 5 k).toNatClampNeg = 0 then (F 5 k, setF (setF F 2 e (F 5 k + 1)) 6 (F 5 k).toNatClampNeg (if F 6 (F 5 k).toNatClampNeg + 1 < 999 then F 6 (F 5 k).toNatClampNeg + 1 else 999))
    else pRoll K Sk Rm ne e m (k + 1) (setF F 3 e (pLeak (K e) (F 3 e)))
theorem leak_ok {kd w : Nat} (hk : kd ≤ 5) (h1 : 1 ≤ w) (h2 : w ≤ 99) : ∃ w', 1 ≤ w' ∧ w' ≤ 99 ∧ pLeak (nI kd) (nI w) = nI w' := by
  have key : ∀ kd, kd ≤ 5 → ∀ w, w ≤ 99 → 1 ≤ w → pLeak (nI kd) (nI w) = nI (if kd = 3 then (if w ≤ 1 then w else w - 1) else w) := by decide +kernel
  refine ⟨if kd = 3 then (if w ≤ 1 then w else w - 1) else w, ?_, ?_, key kd hk w h2 h1⟩
  · split
    · split <;> omega
    · exact h1
  · split
    · split <;> omega
    · exact h2
theorem vF_w {ns ne e : Nat} {F : Nat → Nat → Int32} {v : Int32} (hv : vF ns ne F) (ok : ∃ w, 1 ≤ w ∧ w ≤ 99 ∧ v = nI w) : vF ns ne (setF F 3 e v) := by
  refine ⟨fun j hj => ⟨?_, ?_⟩, fun s hs => ?_, fun s t hs ht => ?_⟩
  · rw [setF_r (by decide)]; exact (hv.1 j hj).1
  · rw [setF_e]
    by_cases h : j = e
    · rw [if_pos h]; exact ok
    · rw [if_neg h]; exact (hv.1 j hj).2
  · rw [setF_r (by decide), setF_r (by decide), setF_r (by decide)]; exact hv.2.1 s hs
  · rw [setF_r (by decide)]; exact hv.2.2 s t hs ht
theorem vF_1 {ns ne r j : Nat} {F : Nat → Nat → Int32} {v : Int32} (hv : vF ns ne F) (ok : (r = 2 ∧ ∃ w, (w ≤ ns ∨ w = 8 ∨ w = 9) ∧ v = nI w) ∨ (r = 4 ∧ ∃ w, 1 ≤ w ∧ w ≤ 99 ∧ v = nI w) ∨ (r = 6 ∧ ∃ w, w ≤ 999 ∧ v = nI w)) : vF ns ne (setF F r j v) := vF_set hv (by omega) (fun q hq => setF_r hq) (fun k => setF_e) ok
theorem fall_ok {w : Nat} (h : w ≤ 999) : ∃ w', w' ≤ 999 ∧ (if nI w + 1 < (999 : Int32) then nI w + 1 else 999) = nI w' := by
  by_cases hw : w + 1 < 999
  · refine ⟨w + 1, by omega, ?_⟩
    have q : nI (w + 1) < (999 : Int32) := (nI_ltI (b := 999) (by omega) (by decide)).mpr hw
    rw [nI_1, if_pos q]
  · refine ⟨999, by omega, ?_⟩
    have q : ¬ nI (w + 1) < (999 : Int32) := fun q => hw ((nI_ltI (b := 999) (by omega) (by decide)).mp q)
    rw [nI_1, if_neg q]
    rfl
theorem pRoll_v {K Sk Rm : Nat → Int32} {ns ne e : Nat} (h5 : ns ≤ 5) (hK : ∃ w, w ≤ 5 ∧ K e = nI w) (he : e < ne) : ∀ m k F, k + m ≤ ns → vF ns ne F → vF ns ne (pRoll K Sk Rm ne e m k F).2
  | 0, _, F, _, hv => vF_1 hv (Or.inl ⟨rfl, 8, by omega, rfl⟩)
  | m + 1, k, F, h, hv => by
    obtain ⟨kd, hkd, hK1⟩ := hK
    obtain ⟨w, w1, w2, w3⟩ := (hv.1 e he).2
    obtain ⟨s, hs, hR⟩ := (hv.2.1 k (by omega)).2.1
    obtain ⟨d, hd, hD⟩ := (hv.2.1 s hs).2.2
    have hv2 : vF ns ne (setF F 3 e (pLeak (K e) (F 3 e))) := vF_w hv (by rw [hK1, w3]; exact leak_ok hkd w1 w2)
    have hi := pRoll_v (Sk := Sk) (Rm := Rm) h5 ⟨kd, hkd, hK1⟩ he m (k + 1) _ (by omega) hv2
    rw [pRoll]
    split
    · exact hi
    · split
      · rw [hR, nI_clamp (by omega), hD, nI_1]
        refine vF_1 (vF_1 hv (Or.inl ⟨rfl, s + 1, by omega, rfl⟩)) (Or.inr (Or.inr ⟨rfl, ?_⟩))
        exact fall_ok hd
      · exact hi
/-- the class's roll, on floor i -/
theorem e_roll_l {M0 : xMem} {i ns ne e : Nat} (hns : M0 3 0 0 = nI ns) (h5 : ns ≤ 5) (hne : M0 3 0 1 = nI ne) (h6 : ne ≤ 6) (he : e < ne) (hK : ∃ w, w ≤ 5 ∧ M0 3 7 e = nI w) : ∀ n k F, k ≤ ns → ns - k < n → vF ns ne F → f_X0_roll_l2 i (nI e) n (nI k) (va_up M0 (i + 9) F) = some ((pRoll (M0 3 7) (M0 3 4) (M0 3 5) ne e (ns - k) k F).1, va_up M0 (i + 9) (pRoll (M0 3 7) (M0 3 4) (M0 3 5) ne e (ns - k) k F).2) := by
  intro n
  induction n with
  | zero => intro k F h1 h2; omega
  | succ n ih =>
    intro k F h1 h2 hv
    have u3 : va_up M0 (i + 9) F 3 = M0 3 := va_up_ne _ _ (by omega)
    have u9 : va_up M0 (i + 9) F (i + 9) = F := va_up_self _ _ _
    have b6 := xb_nI (show e < 6 by omega) (by decide)
    have ce : (nI e).toNatClampNeg = e := nI_clamp (by omega)
    rw [f_X0_roll_l2, u3, hns]
    by_cases hk : k = ns
    · subst hk
      rw [if_pos (i32_le_rfl _), Nat.sub_self, xchk_t _ b6, xlet_e, up_xst (by omega)]
      rfl
    · have hlt : k < ns := by omega
      obtain ⟨s, hs, hR⟩ := (hv.2.1 k hlt).2.1
      obtain ⟨kd, hkd, hK1⟩ := hK
      obtain ⟨w, w1, w2, w3⟩ := (hv.1 e he).2
      have hv2 : vF ns ne (setF F 3 e (pLeak (M0 3 7 e) (F 3 e))) := vF_w hv (by rw [hK1, w3]; exact leak_ok hkd w1 w2)
      have hi := ih (k + 1) _ (by omega) (by omega) hv2
      have bs := xb_nI (show s < 5 by omega) (by decide)
      have cs : (nI s).toNatClampNeg = s := nI_clamp (by omega)
      have hkk : f_X0_roll_b74 i (nI e) (nI k) (va_up M0 (i + 9) F) (f_X0_roll_l2 i (nI e) n) = some ((pRoll (M0 3 7) (M0 3 4) (M0 3 5) ne e (ns - (k + 1)) (k + 1) (setF F 3 e (pLeak (M0 3 7 e) (F 3 e)))).1, va_up M0 (i + 9) (pRoll (M0 3 7) (M0 3 4) (M0 3 5) ne e (ns - (k + 1)) (k + 1) (setF F 3 e (pLeak (M0 3 7 e) (F 3 e)))).2) := by
        unfold f_X0_roll_b74
        rw [xchk_t _ b6, ce, u9, w3, e_leaked (by omega) w1 w2, xb1_e, xchk_t _ b6, xlet_e, up_xst (by omega), nI_1, u3]
        rw [w3] at hi
        exact hi
      have hmark : f_X0_highestMark i (nI e) (nI s) (va_up M0 (i + 9) F) = some (pSeems (M0 3 7 e) (F 3 e) - pStiff (M0 3 4 s) (F 6 s)) := by
        unfold f_X0_highestMark
        rw [xchk_t _ b6, ce, u9, e_seems (by omega), xb1_e, e_stiffness (by omega), xb1_e, u3, u9]
      have hfull : f_X0_isFull i (nI s) (va_up M0 (i + 9) F) = some (pFull (M0 3 5) (F 2) ne s) := by
        rw [e_isFull (by rw [u3]; exact hne) h6 (by omega), u3, u9]
      rw [if_neg (le_nI (by omega) (by omega) hlt), xchk_t _ (xb_nI (show k < 5 by omega) (by decide)), nI_clamp (by omega), u9, hR, xchk_t _ bs, hmark, xb1_e, cs, hfull, xb1_e, hkk, show ns - k = ns - (k + 1) + 1 by omega, pRoll, hR, cs]
      by_cases c1 : pSeems (M0 3 7 e) (F 3 e) - pStiff (M0 3 4 s) (F 6 s) < F 4 s
      · rw [if_pos c1, if_pos c1]
      · rw [if_neg c1, if_neg c1]
        by_cases c2 : pFull (M0 3 5) (F 2) ne s = 0
        · rw [if_pos c2, if_pos c2, xchk_t _ b6, xlet_e, up_xst (by omega), xchk_t _ bs, xchk_t _ bs, xlet_e, up_xst (by omega)]
          have e6 : va_up M0 (i + 9) (setF F 2 e (nI s + 1)) (i + 9) 6 s = F 6 s := by rw [va_up_self, setF_r (by decide)]
          rw [e6]
        · rw [if_neg c2, if_neg c2]
