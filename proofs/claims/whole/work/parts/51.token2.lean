/-! one token, by the class and by the reference -/
def lk (t : Nat) : Int32 := if t = 115 then 115 else if t = 101 then 101 else if t = 59 then 59 else 1
theorem nI_is {t c : Nat} {v : Int32} (hv : v = nI c) (ht : t ≤ 255) (hc : c ≤ 255) : nI t = v ↔ t = c := by
  rw [hv]
  exact nI_eq (by omega) (by omega)
theorem c_tok_end {M : xMem} {T : Nat → Nat} {tl : Nat} (hM : cTx M T tl) (h3 : M 1 0 3 = nI tl) : ∃ M', f_X3_readToken_b38 M = some M' ∧ cFr M M' ∧ M' 1 0 3 = nI tl ∧ M' 1 0 4 = nI tl ∧ M' 1 0 5 = 0 := by
  obtain ⟨M1, hM1⟩ : ∃ M1, M1 = xsf M 1 4 (nI tl) := ⟨_, rfl⟩
  have f1 : cFr M M1 := by rw [hM1]; exact cFr.f M _ (by decide)
  have e3 : M1 1 0 3 = nI tl := by rw [hM1, xsf_k (by decide)]; exact h3
  have e4 : M1 1 0 4 = nI tl := by rw [hM1, xsf_0]
  have e1 := (f1.tx hM).1
  have hq : ¬ nI tl < nI tl := by rw [i32_lt]; omega
  refine ⟨xsf M1 1 5 0, ?_, f1.tr (cFr.f _ _ (by decide)), by rw [xsf_k (by decide), e3], by rw [xsf_k (by decide), e4], xsf_0 _ _ _ _⟩
  unfold f_X3_readToken_b38
  rw [h3, ← hM1, xlet_e, e3, e1, if_neg hq, xlet_e]
  rfl
theorem c_tok_let {M : xMem} {T : Nat → Nat} {tl a : Nat} (hT : gTx T tl) (hM : cTx M T tl) (h3 : M 1 0 3 = nI a) (ha : a < tl) (hnd : ¬ dg T a) : ∃ M', f_X3_readToken_b38 M = some M' ∧ cFr M M' ∧ M' 1 0 3 = nI (a + 1) ∧ M' 1 0 4 = nI a ∧ M' 1 0 5 = lk (T a) := by
  have ht := hT.1
  have h2 := hT.2 a ha
  obtain ⟨M1, hM1⟩ : ∃ M1, M1 = xsf M 1 4 (nI a) := ⟨_, rfl⟩
  have f1 : cFr M M1 := by rw [hM1]; exact cFr.f M _ (by decide)
  have e3 : M1 1 0 3 = nI a := by rw [hM1, xsf_k (by decide)]; exact h3
  have e4 : M1 1 0 4 = nI a := by rw [hM1, xsf_0]
  have t1 := f1.tx hM
  have hb : ∀ v, v = lk (T a) → ∃ M', f_X3_readToken_b117 M1 f_X3_readToken_b130 v = some M' ∧ cFr M M' ∧ M' 1 0 3 = nI (a + 1) ∧ M' 1 0 4 = nI a ∧ M' 1 0 5 = lk (T a) := by
    intro v hv
    refine ⟨xsf (xsf M1 1 5 v) 1 3 (nI (a + 1)), ?_, (f1.tr (cFr.f _ _ (by decide))).tr (cFr.f _ _ (by decide)), xsf_0 _ _ _ _, by rw [xsf_k (by decide), xsf_k (by decide), e4], by rw [xsf_k (by decide), xsf_0, hv]⟩
    unfold f_X3_readToken_b117 f_X3_readToken_b130
    rw [xlet_e, xlet_e, xsf_k (by decide), e3, nI_1]
  unfold f_X3_readToken_b38 f_X3_readToken_b112
  rw [h3, ← hM1, xlet_e, e3, t1.1, if_pos (nI_lt ha (by omega)), c_digit hT t1 ha, xb1_e, if_neg hnd, if_pos rfl, xchk_t _ (xb_nI (show a < 120 by omega) (by decide)), nI_clamp (by omega), t1.2 a ha]
  unfold lk at hb
  by_cases q1 : T a = 115
  · rw [if_pos ((nI_is (c := 115) (v := 115) rfl h2 (by decide)).mpr q1)]
    obtain ⟨M', g⟩ := hb (nI (T a)) (by rw [if_pos q1, q1]; rfl)
    exact ⟨M', g⟩
  · rw [if_neg (fun z => q1 ((nI_is (c := 115) (v := 115) rfl h2 (by decide)).mp z))]
    by_cases q2 : T a = 101
    · rw [if_pos ((nI_is (c := 101) (v := 101) rfl h2 (by decide)).mpr q2)]
      obtain ⟨M', g⟩ := hb (nI (T a)) (by rw [if_neg q1, if_pos q2, q2]; rfl)
      exact ⟨M', g⟩
    · rw [if_neg (fun z => q2 ((nI_is (c := 101) (v := 101) rfl h2 (by decide)).mp z))]
      by_cases q3 : T a = 59
      · rw [if_pos ((nI_is (c := 59) (v := 59) rfl h2 (by decide)).mpr q3)]
        obtain ⟨M', g⟩ := hb (nI (T a)) (by rw [if_neg q1, if_neg q2, if_pos q3, q3]; rfl)
        exact ⟨M', g⟩
      · rw [if_neg (fun z => q3 ((nI_is (c := 59) (v := 59) rfl h2 (by decide)).mp z))]
        obtain ⟨M', g⟩ := hb 1 (by rw [if_neg q1, if_neg q2, if_neg q3])
        exact ⟨M', g⟩
/-- a number that is none: too great, or with a nought ahead -/
abbrev nbad (T : Nat → Nat) (a m : Nat) : Prop := 99 < dN T a m ∨ (T a = 48 ∧ 1 < m)
theorem c_tok_num {M : xMem} {T : Nat → Nat} {tl a m : Nat} (hT : gTx T tl) (hM : cTx M T tl) (h3 : M 1 0 3 = nI a) (ha : a < tl) (hm : a + m ≤ tl) (hd : ∀ j, j < m → dg T (a + j)) (he : a + m = tl ∨ ¬ dg T (a + m)) (hm0 : 0 < m) : ∃ M', f_X3_readToken_b38 M = some M' ∧ cFr M M' ∧ M' 1 0 3 = nI (a + m) ∧ M' 1 0 4 = nI a ∧ M' 1 0 5 = (if nbad T a m then 1 else 2) ∧ M' 1 0 6 = nI (min 100 (dN T a m)) := by
  have ht := hT.1
  have h2 := hT.2 a ha
  have h9 := dN_le (T := T) (a := a) m hd
  obtain ⟨M1, hM1⟩ : ∃ M1, M1 = xsf M 1 4 (nI a) := ⟨_, rfl⟩
  have f1 : cFr M M1 := by rw [hM1]; exact cFr.f M _ (by decide)
  have e3 : M1 1 0 3 = nI a := by rw [hM1, xsf_k (by decide)]; exact h3
  have t1 := f1.tx hM
  obtain ⟨M2, hM2⟩ : ∃ M2, M2 = xsf M1 1 6 0 := ⟨_, rfl⟩
  have f2 : cFr M M2 := by rw [hM2]; exact f1.tr (cFr.f _ _ (by decide))
  have hda := hd 0 hm0
  rw [Nat.add_zero] at hda
  obtain ⟨M3, g1, g2, g3, g4, g5⟩ := c_digits (a := a) hT m FU 0 M2 (f2.tx hM) (by rw [hM2, xsf_k (by decide)]; exact e3) (by rw [hM2, xsf_0]; rfl) (by omega) (fun j hj => hd j (by omega)) he (FU_gt (by omega))
  have e4 : M3 1 0 4 = nI a := by rw [g5, hM2, xsf_k (by decide), hM1, xsf_0]
  rw [Nat.zero_add] at g4
  rw [Nat.add_zero] at g3
  have f3 := f2.tr g2
  have t3 := f3.tx hM
  have hb : ∀ v, v = (if nbad T a m then (1 : Int32) else 2) → ∃ M', f_X3_readDigits_b121 M3 v = some M' ∧ cFr M M' ∧ M' 1 0 3 = nI (a + m) ∧ M' 1 0 4 = nI a ∧ M' 1 0 5 = (if nbad T a m then 1 else 2) ∧ M' 1 0 6 = nI (min 100 (dN T a m)) := by
    intro v hv
    refine ⟨xsf M3 1 5 v, ?_, f3.tr (cFr.f _ _ (by decide)), by rw [xsf_k (by decide), g3], by rw [xsf_k (by decide), e4], by rw [xsf_0, hv], by rw [xsf_k (by decide), g4]⟩
    unfold f_X3_readDigits_b121
    rw [xlet_e]
  have hk : ∃ M', f_X3_readDigits_b69 M3 = some M' ∧ cFr M M' ∧ M' 1 0 3 = nI (a + m) ∧ M' 1 0 4 = nI a ∧ M' 1 0 5 = (if nbad T a m then 1 else 2) ∧ M' 1 0 6 = nI (min 100 (dN T a m)) := by
    unfold f_X3_readDigits_b69 f_X3_readDigits_b100 f_X3_readDigits_b101 f_X3_readDigits_b116
    rw [e4, xchk_t _ (xb_nI (show a < 120 by omega) (by decide)), nI_clamp (by omega), t3.2 a ha, g3, g4, nI_1, if_pos (rfl : (0 : Int32) = 0), if_neg (by decide : ¬ (1 : Int32) = 0)]
    have h99 : nI (min 100 (dN T a m)) ≤ (99 : Int32) ↔ ¬ 99 < dN T a m := by
      rw [show (99 : Int32) = nI 99 from rfl, nI_leI (by omega) (by decide)]
      omega
    have h48 := nI_is (c := 48) (v := 48) rfl h2 (by decide)
    have hpl : nI (a + m) ≤ nI (a + 1) ↔ ¬ 1 < m := by
      rw [nI_leI (by omega) (by omega)]
      omega
    by_cases q0 : T a = 48
    · rw [if_pos (h48.mpr q0)]
      by_cases q1 : 1 < m
      · rw [if_neg (fun z => hpl.mp z q1)]
        exact hb 1 (by rw [if_pos (Or.inr ⟨q0, q1⟩)])
      · rw [if_pos (hpl.mpr q1)]
        by_cases q2 : 99 < dN T a m
        · rw [if_neg (fun z => h99.mp z q2)]
          exact hb 1 (by rw [if_pos (Or.inl q2)])
        · rw [if_pos (h99.mpr q2)]
          refine hb 2 (by rw [if_neg]; rintro (z | z); exact q2 z; exact q1 z.2)
    · rw [if_neg (fun z => q0 (h48.mp z))]
      by_cases q2 : 99 < dN T a m
      · rw [if_neg (fun z => h99.mp z q2)]
        exact hb 1 (by rw [if_pos (Or.inl q2)])
      · rw [if_pos (h99.mpr q2)]
        refine hb 2 (by rw [if_neg]; rintro (z | z); exact q2 z; exact q0 z.1)
  obtain ⟨M', k1, k2⟩ := hk
  refine ⟨M', ?_, k2⟩
  unfold f_X3_readToken_b38 f_X3_readDigits
  rw [h3, ← hM1, xlet_e, e3, t1.1, if_pos (nI_lt ha (by omega)), c_digit hT t1 ha, xb1_e, if_pos hda, if_neg (by decide), xlet_e, ← hM2, g1, k1, xb1_e]
  rfl
/-- what the reference has read -/
def Cur (N : xMem) (st : Nat) (kd : Int32) (nm nx : Nat) : Prop :=
  N 8 0 16 = nI nx ∧ N 8 0 17 = nI st ∧ ((kd = 0 ∧ N 8 0 18 = 0) ∨ (kd = 1 ∧ N 8 0 18 = 4) ∨ (kd = 2 ∧ N 8 0 18 = 2 ∧ N 8 0 19 = nI nm ∧ nm ≤ 99) ∨ (kd = 115 ∧ N 8 0 18 = 1 ∧ N 8 0 19 = 115) ∨ (kd = 101 ∧ N 8 0 18 = 1 ∧ N 8 0 19 = 101) ∨ (kd = 59 ∧ N 8 0 18 = 3))
theorem r_tok_end {N : xMem} {T : Nat → Nat} {tl n : Nat} (hT : gTx T tl) (hN : rTx N T tl) (h3 : N 8 0 16 = nI tl) : ∃ N', f_X8_reads_l0 (n + 1) N = some N' ∧ rFr N N' ∧ Cur N' tl 0 0 tl := by
  obtain ⟨N1, hN1⟩ : ∃ N1, N1 = xsf N 8 17 (nI tl) := ⟨_, rfl⟩
  have f1 : rFr N N1 := by rw [hN1]; exact rFr.f N _ (by decide) (by decide)
  have e6 : N1 8 0 16 = nI tl := by rw [hN1, xsf_k (by decide)]; exact h3
  have l0 := r_letter hT hN (Nat.le_refl tl)
  have l1 := r_letter hT (f1.tx hN) (Nat.le_refl tl)
  rw [if_neg (Nat.lt_irrefl tl)] at l0 l1
  refine ⟨xsf (xsf N1 8 19 0) 8 18 0, ?_, (f1.tr (rFr.f _ _ (by decide) (by decide))).tr (rFr.f _ _ (by decide) (by decide)), ?_, ?_, Or.inl ⟨rfl, xsf_0 _ _ _ _⟩⟩
  · rw [f_X8_reads_l0, h3, l0, xb1_e, if_neg (by decide), xlet_e, ← hN1, e6, l1, xb1_e, xlet_e, if_neg (by decide), xlet_e]
    rfl
  · rw [xsf_k (by decide), xsf_k (by decide), e6]
  · rw [xsf_k (by decide), xsf_k (by decide), hN1, xsf_0]
theorem r_tok_let {N : xMem} {T : Nat → Nat} {tl a n : Nat} (hT : gTx T tl) (hN : rTx N T tl) (h3 : N 8 0 16 = nI a) (ha : a < tl) (h32 : ¬ T a = 32) (hnd : ¬ dg T a) : ∃ N', f_X8_reads_l0 (n + 1) N = some N' ∧ rFr N N' ∧ Cur N' a (lk (T a)) 0 (a + 1) := by
  have ht := hT.1
  have h2 := hT.2 a ha
  obtain ⟨N1, hN1⟩ : ∃ N1, N1 = xsf N 8 17 (nI a) := ⟨_, rfl⟩
  have f1 : rFr N N1 := by rw [hN1]; exact rFr.f N _ (by decide) (by decide)
  have e6 : N1 8 0 16 = nI a := by rw [hN1, xsf_k (by decide)]; exact h3
  have l0 := r_letter hT hN (Nat.le_of_lt ha)
  have l1 := r_letter hT (f1.tx hN) (Nat.le_of_lt ha)
  rw [if_pos ha] at l0 l1
  obtain ⟨N2, hN2⟩ : ∃ N2, N2 = xsf N1 8 19 0 := ⟨_, rfl⟩
  have f2 : rFr N N2 := by rw [hN2]; exact f1.tr (rFr.f _ _ (by decide) (by decide))
  have e26 : N2 8 0 16 = nI a := by rw [hN2, xsf_k (by decide), e6]
  have e27 : N2 8 0 17 = nI a := by rw [hN2, xsf_k (by decide), hN1, xsf_0]
  have hb : ∀ v : Int32, ∃ N', f_X8_reads_b201 (nI (T a)) N2 f_X8_reads_b219 v = some N' ∧ rFr N N' ∧ N' 8 0 16 = nI (a + 1) ∧ N' 8 0 17 = nI a ∧ N' 8 0 18 = v ∧ N' 8 0 19 = nI (T a) := by
    intro v
    refine ⟨xsf (xsf (xsf N2 8 18 v) 8 19 (nI (T a))) 8 16 (nI (a + 1)), ?_, ((f2.tr (rFr.f _ _ (by decide) (by decide))).tr (rFr.f _ _ (by decide) (by decide))).tr (rFr.f _ _ (by decide) (by decide)), xsf_0 _ _ _ _, by rw [xsf_k (by decide), xsf_k (by decide), xsf_k (by decide), e27], by rw [xsf_k (by decide), xsf_k (by decide), xsf_0], by rw [xsf_k (by decide), xsf_0]⟩
    unfold f_X8_reads_b201 f_X8_reads_b219
    rw [xlet_e, xlet_e, xlet_e, xsf_k (by decide), xsf_k (by decide), e26, nI_1]
  rw [f_X8_reads_l0, h3, l0, xb1_e, if_neg (fun z => h32 ((nI_is (c := 32) (v := 32) rfl h2 (by decide)).mp z)), xlet_e, ← hN1, e6, l1, xb1_e, xlet_e, ← hN2, if_pos (nI_pos' (by omega)), r_fig h2, xb1_e, if_neg hnd, if_pos rfl]
  unfold f_X8_reads_b186
  unfold lk
  by_cases q1 : T a = 115
  · rw [if_pos ((nI_is (c := 115) (v := 115) rfl h2 (by decide)).mpr q1), if_pos q1]
    obtain ⟨N', g1, g2, g3, g4, g5, g6⟩ := hb 1
    exact ⟨N', g1, g2, g3, g4, Or.inr (Or.inr (Or.inr (Or.inl ⟨rfl, g5, by rw [g6, q1]; rfl⟩)))⟩
  · rw [if_neg (fun z => q1 ((nI_is (c := 115) (v := 115) rfl h2 (by decide)).mp z)), if_neg q1]
    by_cases q2 : T a = 101
    · rw [if_pos ((nI_is (c := 101) (v := 101) rfl h2 (by decide)).mpr q2), if_pos q2]
      obtain ⟨N', g1, g2, g3, g4, g5, g6⟩ := hb 1
      exact ⟨N', g1, g2, g3, g4, Or.inr (Or.inr (Or.inr (Or.inr (Or.inl ⟨rfl, g5, by rw [g6, q2]; rfl⟩))))⟩
    · rw [if_neg (fun z => q2 ((nI_is (c := 101) (v := 101) rfl h2 (by decide)).mp z)), if_neg q2]
      by_cases q3 : T a = 59
      · rw [if_pos ((nI_is (c := 59) (v := 59) rfl h2 (by decide)).mpr q3), if_pos q3]
        obtain ⟨N', g1, g2, g3, g4, g5, g6⟩ := hb 3
        exact ⟨N', g1, g2, g3, g4, Or.inr (Or.inr (Or.inr (Or.inr (Or.inr ⟨rfl, g5⟩))))⟩
      · rw [if_neg (fun z => q3 ((nI_is (c := 59) (v := 59) rfl h2 (by decide)).mp z)), if_neg q3]
        obtain ⟨N', g1, g2, g3, g4, g5, g6⟩ := hb 4
        exact ⟨N', g1, g2, g3, g4, Or.inr (Or.inl ⟨rfl, g5⟩)⟩
theorem r_tok_num {N : xMem} {T : Nat → Nat} {tl a m n : Nat} (hT : gTx T tl) (hN : rTx N T tl) (h3 : N 8 0 16 = nI a) (ha : a < tl) (hm : a + m ≤ tl) (hd : ∀ j, j < m → dg T (a + j)) (he : a + m = tl ∨ ¬ dg T (a + m)) (hm0 : 0 < m) : ∃ N', f_X8_reads_l0 (n + 1) N = some N' ∧ rFr N N' ∧ Cur N' a (if nbad T a m then 1 else 2) (dN T a m) (a + m) := by
  have ht := hT.1
  have h2 := hT.2 a ha
  have h9 := dN_le (T := T) (a := a) m hd
  have hda := hd 0 hm0
  rw [Nat.add_zero] at hda
  obtain ⟨N1, hN1⟩ : ∃ N1, N1 = xsf N 8 17 (nI a) := ⟨_, rfl⟩
  have f1 : rFr N N1 := by rw [hN1]; exact rFr.f N _ (by decide) (by decide)
  have e6 : N1 8 0 16 = nI a := by rw [hN1, xsf_k (by decide)]; exact h3
  have l0 := r_letter hT hN (Nat.le_of_lt ha)
  have l1 := r_letter hT (f1.tx hN) (Nat.le_of_lt ha)
  rw [if_pos ha] at l0 l1
  obtain ⟨N2, hN2⟩ : ∃ N2, N2 = xsf N1 8 19 0 := ⟨_, rfl⟩
  have f2 : rFr N N2 := by rw [hN2]; exact f1.tr (rFr.f _ _ (by decide) (by decide))
  have e26 : N2 8 0 16 = nI a := by rw [hN2, xsf_k (by decide), e6]
  have e27 : N2 8 0 17 = nI a := by rw [hN2, xsf_k (by decide), hN1, xsf_0]
  obtain ⟨N3, g1, g2, g3, g4, g5⟩ := r_digits (a := a) (r39 := nI (T a)) (k219 := f_X8_reads_b219) hT m (99999 - m + 1) 0 N2 (f2.tx hN) e26 (by rw [hN2, xsf_0]; rfl) (by omega) (fun j hj => hd j (by omega))
  rw [show 99999 - m + 1 + m = FU by unfold FU; omega] at g1
  rw [Nat.zero_add] at g4
  rw [Nat.add_zero] at g3
  rw [e27] at g5
  have f3 := f2.tr g2
  have t3 := f3.tx hN
  have hb : ∀ v : Int32, ∃ N', f_X8_reads_b167 N3 f_X8_reads_b219 v = some N' ∧ rFr N N' ∧ N' 8 0 16 = nI (a + m) ∧ N' 8 0 17 = nI a ∧ N' 8 0 18 = v ∧ N' 8 0 19 = nI (dN T a m) := by
    intro v
    refine ⟨xsf N3 8 18 v, ?_, f3.tr (rFr.f _ _ (by decide) (by decide)), by rw [xsf_k (by decide), g3], by rw [xsf_k (by decide), g5], xsf_0 _ _ _ _, by rw [xsf_k (by decide), g4]⟩
    unfold f_X8_reads_b167 f_X8_reads_b219
    rw [xlet_e]
  have hbad : nbad T a m → ∃ N', f_X8_reads_b167 N3 f_X8_reads_b219 4 = some N' ∧ rFr N N' ∧ Cur N' a (if nbad T a m then 1 else 2) (dN T a m) (a + m) := fun hx => by
    obtain ⟨N', p1, p2, p3, p4, p5, p6⟩ := hb 4
    exact ⟨N', p1, p2, p3, p4, Or.inr (Or.inl ⟨if_pos hx, p5⟩)⟩
  have hgood : ¬ nbad T a m → ∃ N', f_X8_reads_b167 N3 f_X8_reads_b219 2 = some N' ∧ rFr N N' ∧ Cur N' a (if nbad T a m then 1 else 2) (dN T a m) (a + m) := fun hx => by
    obtain ⟨N', p1, p2, p3, p4, p5, p6⟩ := hb 2
    refine ⟨N', p1, p2, p3, p4, Or.inr (Or.inr (Or.inl ⟨if_neg hx, p5, p6, ?_⟩))⟩
    rcases Nat.lt_or_ge 99 (dN T a m) with z | z
    · exact absurd (Or.inl z) hx
    · exact z
  rw [f_X8_reads_l0, h3, l0, xb1_e, if_neg (fun z => by
    have := (nI_is (c := 32) (v := 32) rfl h2 (by decide)).mp z
    omega), xlet_e, ← hN1, e6, l1, xb1_e, xlet_e, ← hN2, if_pos (nI_pos' (by omega)), r_fig h2, xb1_e, if_pos hda, if_neg (by decide), g1, f_X8_reads_l67, g3, r_letter hT t3 hm, xb1_e]
  have hfig : f_X8_isFigure (if a + m < tl then nI (T (a + m)) else -1) N3 = some 0 := by
    by_cases hq : a + m < tl
    · rw [if_pos hq, r_fig (hT.2 _ hq)]
      rcases he with he | he
      · omega
      · rw [if_neg he]
    · rw [if_neg hq, r_fig_m]
  rw [hfig, xb1_e, if_pos rfl, g4, g5]
  unfold f_X8_reads_b162 f_X8_reads_b166
  have h99 : (99 : Int32) < nI (dN T a m) ↔ 99 < dN T a m := by
    rw [show (99 : Int32) = nI 99 from rfl, nI_ltI (by decide) (by omega)]
  have h48 := nI_is (c := 48) (v := 48) rfl h2 (by decide)
  have hpl : nI (a + m) - nI a ≤ 1 ↔ ¬ 1 < m := by
    rw [pk_sub (by omega), show (1 : Int32) = nI 1 from rfl, nI_leI (by omega) (by decide)]
    omega
  by_cases q2 : 99 < dN T a m
  · rw [if_pos (h99.mpr q2)]
    exact hbad (Or.inl q2)
  · rw [if_neg (fun z => q2 (h99.mp z))]
    by_cases q0 : T a = 48
    · rw [if_pos (h48.mpr q0)]
      by_cases q1 : 1 < m
      · rw [if_neg (fun z => hpl.mp z q1)]
        exact hbad (Or.inr ⟨q0, q1⟩)
      · rw [if_pos (hpl.mpr q1)]
        exact hgood (by rintro (z | z); exact q2 z; exact q1 z.2)
    · rw [if_neg (fun z => q0 (h48.mp z))]
      exact hgood (by rintro (z | z); exact q2 z; exact q0 z.1)
/-- what the class reads from p on -/
def TkC (T : Nat → Nat) (tl p st : Nat) (kd : Int32) (nm nx : Nat) : Prop := ∀ M, cTx M T tl → M 1 0 3 = nI p → ∃ M', f_X3_readToken M = some M' ∧ cFr M M' ∧ M' 1 0 3 = nI nx ∧ M' 1 0 4 = nI st ∧ M' 1 0 5 = kd ∧ (kd = 2 → M' 1 0 6 = nI nm)
def TkR (T : Nat → Nat) (tl p st : Nat) (kd : Int32) (nm nx : Nat) : Prop := ∀ N, rTx N T tl → N 8 0 16 = nI p → ∃ N', f_X8_reads N = some N' ∧ rFr N N' ∧ Cur N' st kd nm nx
theorem tok_ex {T : Nat → Nat} {tl p : Nat} (hT : gTx T tl) (hp : p ≤ tl) : ∃ st kd nm nx, st ≤ tl ∧ nx ≤ tl ∧ TkC T tl p st kd nm nx ∧ TkR T tl p st kd nm nx := by
  have ht := hT.1
  obtain ⟨m, h1, h2, h3⟩ := run_ex (fun k => T k = 32) tl (tl - p) p rfl hp
  have hC : ∀ (st : Nat) (kd : Int32) (nm nx : Nat), (∀ M, cTx M T tl → M 1 0 3 = nI (p + m) → ∃ M', f_X3_readToken_b38 M = some M' ∧ cFr M M' ∧ M' 1 0 3 = nI nx ∧ M' 1 0 4 = nI st ∧ M' 1 0 5 = kd ∧ (kd = 2 → M' 1 0 6 = nI nm)) → TkC T tl p st kd nm nx := by
    intro st kd nm nx h M hM h0
    obtain ⟨M1, g1, g2, g3⟩ := c_skip hT m FU p M hM h0 h1 h2 h3 (FU_gt (by omega))
    obtain ⟨M', k1, k2, k3⟩ := h M1 (g2.tx hM) g3
    exact ⟨M', g1.trans k1, g2.tr k2, k3⟩
  have hR : ∀ (st : Nat) (kd : Int32) (nm nx : Nat), (∀ n N, rTx N T tl → N 8 0 16 = nI (p + m) → ∃ N', f_X8_reads_l0 (n + 1) N = some N' ∧ rFr N N' ∧ Cur N' st kd nm nx) → TkR T tl p st kd nm nx := by
    intro st kd nm nx h N hN h0
    obtain ⟨N1, g1, g2, g3⟩ := r_skip hT m (99999 - m + 1) p N hN h0 h1 h2
    rw [show 99999 - m + 1 + m = FU by unfold FU; omega] at g1
    obtain ⟨N', k1, k2, k3⟩ := h _ N1 (g2.tx hN) g3
    exact ⟨N', g1.trans k1, g2.tr k2, k3⟩
  by_cases ha : p + m = tl
  · refine ⟨tl, 0, 0, tl, Nat.le_refl _, Nat.le_refl _, hC _ _ _ _ (fun M hM h0 => ?_), hR _ _ _ _ (fun n N hN h0 => ?_)⟩
    · obtain ⟨M', k1, k2, k3, k4, k5⟩ := c_tok_end hM (by rw [h0, ha])
      exact ⟨M', k1, k2, k3, k4, k5, fun q => absurd q (by decide)⟩
    · exact r_tok_end hT hN (by rw [h0, ha])
  · have hlt : p + m < tl := by omega
    have h32 : ¬ T (p + m) = 32 := by
      rcases h3 with h3 | h3
      · exact absurd h3 ha
      · exact h3
    by_cases hdg : dg T (p + m)
    · obtain ⟨m2, i1, i2, i3⟩ := run_ex (fun k => dg T k) tl (tl - (p + m)) (p + m) rfl h1
      have hm0 : 0 < m2 := by
        rcases Nat.eq_zero_or_pos m2 with z | z
        · subst z
          rcases i3 with i3 | i3
          · omega
          · exact absurd hdg i3
        · exact z
      have hd : ∀ j, j < m2 → dg T (p + m + j) := fun j hj => i2 (p + m + j) (by omega) (by omega)
      refine ⟨p + m, if nbad T (p + m) m2 then 1 else 2, dN T (p + m) m2, p + m + m2, by omega, i1, hC _ _ _ _ (fun M hM h0 => ?_), hR _ _ _ _ (fun n N hN h0 => ?_)⟩
      · obtain ⟨M', k1, k2, k3, k4, k5, k6⟩ := c_tok_num hT hM h0 hlt i1 hd i3 hm0
        refine ⟨M', k1, k2, k3, k4, k5, fun q => ?_⟩
        by_cases hb : nbad T (p + m) m2
        · rw [if_pos hb] at q
          exact absurd q (by decide)
        · rw [k6]
          have : dN T (p + m) m2 ≤ 99 := by
            rcases Nat.lt_or_ge 99 (dN T (p + m) m2) with z | z
            · exact absurd (Or.inl z) hb
            · exact z
          rw [show min 100 (dN T (p + m) m2) = dN T (p + m) m2 by omega]
      · exact r_tok_num hT hN h0 hlt i1 hd i3 hm0
    · refine ⟨p + m, lk (T (p + m)), 0, p + m + 1, by omega, by omega, hC _ _ _ _ (fun M hM h0 => ?_), hR _ _ _ _ (fun n N hN h0 => ?_)⟩
      · obtain ⟨M', k1, k2, k3, k4, k5⟩ := c_tok_let hT hM h0 hlt hdg
        refine ⟨M', k1, k2, k3, k4, k5, fun q => ?_⟩
        unfold lk at q
        split at q
        · exact absurd q (by decide)
        · split at q
          · exact absurd q (by decide)
          · split at q
            · exact absurd q (by decide)
            · exact absurd q (by decide)
      · exact r_tok_let hT hN h0 hlt h32 hdg
