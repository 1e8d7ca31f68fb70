/-! items: a scale, an egg -/
def rSc3 (M92 : xMem) : Option xMem := xb2 (f_X8_takesNumber 1 9 M92) (fun r109 M109 => xchk (xb ((3 * (M92 8 0 22)) + 2) 15) (xlet (xst M109 8 24 ((3 * (M92 8 0 22)) + 2) r109) (fun M112 => xlet (xsf M112 8 22 ((M112 8 0 22) + 1)) (fun M120 => f_X8_readItem_b173 M120))))
def rSc2 (M72 : xMem) : Option xMem := xb2 (f_X8_takesNumber 0 9 M72) (fun r89 M89 => xchk (xb ((3 * (M72 8 0 22)) + 1) 15) (xlet (xst M89 8 24 ((3 * (M72 8 0 22)) + 1) r89) (fun M92 => rSc3 M92)))
def rSc1 (M46 : xMem) : Option xMem := xb2 (f_X8_takesNumber 1 99 M46) (fun r69 M69 => xchk (xb (3 * (M46 8 0 22)) 15) (xlet (xst M69 8 24 (3 * (M46 8 0 22)) r69) (fun M72 => rSc2 M72)))
def rEg2 (M143 : xMem) : Option xMem := xb2 (f_X8_takesNumber 0 5 M143) (fun r159 M159 => xchk (xb ((2 * (M143 8 0 24)) + 1) 12) (xlet (xst M159 8 26 ((2 * (M143 8 0 24)) + 1) r159) (fun M162 => xlet (xsf M162 8 24 ((M162 8 0 24) + 1)) (fun M170 => f_X8_readItem_b173 M170))))
def rEg1 (M46 : xMem) : Option xMem := xb2 (f_X8_takesNumber 1 99 M46) (fun r140 M140 => xchk (xb (2 * (M46 8 0 24)) 12) (xlet (xst M140 8 26 (2 * (M46 8 0 24)) r140) (fun M143 => rEg2 M143)))
theorem b45_e (M : xMem) : f_X8_readItem_b45 M = xb1 (f_X8_reads M) (fun M46 => if M 8 0 19 = 115 then rSc1 M46 else rEg1 M46) := rfl
def cSc3 (a1 : Int32) (M49 : xMem) : Option (Int32 × xMem) := xb2 (f_X3_readNumber 1 9 M49) (fun r54 M54 => if r54 = 0 then some (0, M54) else xchk (xb a1 5) (xlet (xst M54 2 5 a1 (M54 1 0 6)) (fun M74 => xlet (xsf M74 2 0 ((M74 2 0 0) + 1)) (fun M85 => some (1, M85)))))
def cSc2 (a1 : Int32) (M24 : xMem) : Option (Int32 × xMem) := xb2 (f_X3_readNumber 0 9 M24) (fun r29 M29 => if r29 = 0 then some (0, M29) else xchk (xb a1 5) (xlet (xst M29 2 4 a1 (M29 1 0 6)) (fun M49 => cSc3 a1 M49)))
theorem cSc1_e (a1 : Int32) (M : xMem) : f_X3_readScale a1 M = xb2 (f_X3_readNumber 1 99 M) (fun r4 M4 => if r4 = 0 then some (0, M4) else xchk (xb a1 5) (xlet (xst M4 2 3 a1 (M4 1 0 6)) (fun M24 => cSc2 a1 M24))) := rfl
def cEgg2 (a1 : Int32) (M24 : xMem) : Option (Int32 × xMem) := xb2 (f_X3_readNumber 0 5 M24) (fun r28 M28 => if r28 = 0 then some (0, M28) else xchk (xb a1 6) (xlet (xst M28 2 7 a1 (M28 1 0 6)) (fun M48 => xlet (xsf M48 2 1 ((M48 2 0 1) + 1)) (fun M59 => some (1, M59)))))
theorem cEgg1_e (a1 : Int32) (M : xMem) : f_X3_readEgg a1 M = xb2 (f_X3_readNumber 1 99 M) (fun r4 M4 => if r4 = 0 then some (0, M4) else xchk (xb a1 6) (xlet (xst M4 2 6 a1 (M4 1 0 6)) (fun M24 => cEgg2 a1 M24))) := rfl
theorem m3_e (s : Nat) : (3 : Int32) * nI s = nI (3 * s) := pk_mul 3 s
theorem m2_e (s : Nat) : (2 : Int32) * nI s = nI (2 * s) := pk_mul 2 s
theorem a1_e (s : Nat) : nI s + 1 = nI (s + 1) := nI_add s 1
theorem a2_e (s : Nat) : nI s + 2 = nI (s + 2) := nI_add s 2
/-! once wrong, wrong to the end -/
theorem wr_sc3 {N : xMem} {s : Nat} (h : N 8 0 20 = 1) (h22 : N 8 0 22 = nI s) (hs : s < 5) : ∃ N'', rSc3 N = some N'' ∧ rFi N N'' ∧ N'' 8 0 20 = 1 ∧ N'' 8 0 17 = N 8 0 17 := by
  unfold rSc3
  rw [take_wrong h, xb2_e, h22, m3_e, a2_e, xchk_t _ (xb_nI (show 3 * s + 2 < 15 by omega) (by decide)), xlet_e, xlet_e]
  obtain ⟨N3, hN3⟩ : ∃ N3, N3 = xsf (xst (xsf N 8 20 1) 8 24 (nI (3 * s + 2)) 0) 8 22 (xst (xsf N 8 20 1) 8 24 (nI (3 * s + 2)) 0 8 0 22 + 1) := ⟨_, rfl⟩
  rw [← hN3]
  have f3 : rFi N N3 := by rw [hN3]; exact ((rFn.f20 N 1).i.tr (rFi.st _ _ _ (Or.inl rfl))).tr (rFi.sf _ _ (Or.inl rfl))
  obtain ⟨N'', k1, k2, k3, k4⟩ := end_wrong (N := N3) (by rw [hN3, xsf_k (by decide), xst_r (by decide), xsf_0])
  exact ⟨N'', k1, f3.tr k2, k3, by rw [k4, hN3, xsf_k (by decide), xst_r (by decide), xsf_k (by decide)]⟩
theorem wr_sc2 {N : xMem} {s : Nat} (h : N 8 0 20 = 1) (h22 : N 8 0 22 = nI s) (hs : s < 5) : ∃ N'', rSc2 N = some N'' ∧ rFi N N'' ∧ N'' 8 0 20 = 1 ∧ N'' 8 0 17 = N 8 0 17 := by
  unfold rSc2
  rw [take_wrong h, xb2_e, h22, m3_e, a1_e, xchk_t _ (xb_nI (show 3 * s + 1 < 15 by omega) (by decide)), xlet_e]
  obtain ⟨N'', k1, k2, k3, k4⟩ := wr_sc3 (N := xst (xsf N 8 20 1) 8 24 (nI (3 * s + 1)) 0) (by rw [xst_r (by decide), xsf_0]) (by rw [xst_r (by decide), xsf_k (by decide)]; exact h22) hs
  exact ⟨N'', k1, ((rFn.f20 N 1).i.tr (rFi.st _ _ _ (Or.inl rfl))).tr k2, k3, by rw [k4, xst_r (by decide), xsf_k (by decide)]⟩
theorem wr_eg2 {N : xMem} {s : Nat} (h : N 8 0 20 = 1) (h24 : N 8 0 24 = nI s) (hs : s < 6) : ∃ N'', rEg2 N = some N'' ∧ rFi N N'' ∧ N'' 8 0 20 = 1 ∧ N'' 8 0 17 = N 8 0 17 := by
  unfold rEg2
  rw [take_wrong h, xb2_e, h24, m2_e, a1_e, xchk_t _ (xb_nI (show 2 * s + 1 < 12 by omega) (by decide)), xlet_e, xlet_e]
  obtain ⟨N3, hN3⟩ : ∃ N3, N3 = xsf (xst (xsf N 8 20 1) 8 26 (nI (2 * s + 1)) 0) 8 24 (xst (xsf N 8 20 1) 8 26 (nI (2 * s + 1)) 0 8 0 24 + 1) := ⟨_, rfl⟩
  rw [← hN3]
  have f3 : rFi N N3 := by rw [hN3]; exact ((rFn.f20 N 1).i.tr (rFi.st _ _ _ (Or.inr rfl))).tr (rFi.sf _ _ (Or.inr rfl))
  obtain ⟨N'', k1, k2, k3, k4⟩ := end_wrong (N := N3) (by rw [hN3, xsf_k (by decide), xst_r (by decide), xsf_0])
  exact ⟨N'', k1, f3.tr k2, k3, by rw [k4, hN3, xsf_k (by decide), xst_r (by decide), xsf_k (by decide)]⟩
/-! a number stored behind the draft's end -/
theorem DR.sc {M N : xMem} {s e r k : Nat} {v v' : Int32} (h : DR M N s e) (hr : r = 3 ∨ r = 4 ∨ r = 5) (hk : 3 * s ≤ k) (hk2 : k < 15) : DR (xst M 2 r (nI s) v) (xst N 8 24 (nI k) v') s e := by
  obtain ⟨h1, h2, h3, h4, h5, h6, h7, h8⟩ := h
  have m : ∀ q j, j < s → xst M 2 r (nI s) v 2 q j = M 2 q j := fun q j hj => by
    by_cases hq : q = r
    · subst hq; rw [xst_e (by omega), if_neg (by omega)]
    · rw [xst_r hq]
  have n : ∀ j, j < 3 * s → xst N 8 24 (nI k) v' 8 24 j = N 8 24 j := fun j hj => by rw [xst_e (by omega), if_neg (by omega)]
  refine ⟨h1, h2, by rw [xst_r (by omega)]; exact h3, by rw [xst_r (by omega)]; exact h4, by rw [xst_r (by decide)]; exact h5, by rw [xst_r (by decide)]; exact h6, fun j hj => ?_, fun j hj => ?_⟩
  · rw [m 3 j hj, m 4 j hj, m 5 j hj, n _ (by omega), n _ (by omega), n _ (by omega)]
    exact h7 j hj
  · rw [xst_r (by omega), xst_r (by omega), xst_r (show 26 ≠ 24 by decide)]
    exact h8 j hj
theorem DR.eg {M N : xMem} {s e r k : Nat} {v v' : Int32} (h : DR M N s e) (hr : r = 6 ∨ r = 7) (hk : 2 * e ≤ k) (hk2 : k < 12) : DR (xst M 2 r (nI e) v) (xst N 8 26 (nI k) v') s e := by
  obtain ⟨h1, h2, h3, h4, h5, h6, h7, h8⟩ := h
  have m : ∀ q j, j < e → xst M 2 r (nI e) v 2 q j = M 2 q j := fun q j hj => by
    by_cases hq : q = r
    · subst hq; rw [xst_e (by omega), if_neg (by omega)]
    · rw [xst_r hq]
  have n : ∀ j, j < 2 * e → xst N 8 26 (nI k) v' 8 26 j = N 8 26 j := fun j hj => by rw [xst_e (by omega), if_neg (by omega)]
  refine ⟨h1, h2, by rw [xst_r (by omega)]; exact h3, by rw [xst_r (by omega)]; exact h4, by rw [xst_r (by decide)]; exact h5, by rw [xst_r (by decide)]; exact h6, fun j hj => ?_, fun j hj => ?_⟩
  · rw [xst_r (show 3 ≠ r by omega), xst_r (show 4 ≠ r by omega), xst_r (show 5 ≠ r by omega), xst_r (show 24 ≠ 26 by decide)]
    exact h7 j hj
  · rw [m 6 j hj, m 7 j hj, n _ (by omega), n _ (by omega)]
    exact h8 j hj
theorem lo_hi {w : Nat} {a b : Nat} (hw : w ≤ 99) (ha : a ≤ 99) (hb : b ≤ 99) {x y : Int32} (hx : x = nI a) (hy : y = nI b) (h : ¬ oob (nI w) x y) : a ≤ w ∧ w ≤ b := by
  rw [hx, hy] at h
  unfold oob at h
  rw [nI_ltI (by omega) (by omega), nI_ltI (by omega) (by omega)] at h
  omega
theorem go_sc3 {T : Nat → Nat} {tl s e w1 w2 : Nat} {M0 N0 M N : xMem} (hT : gTx T tl) (c0 : cFi M0 M) (r0 : rFi N0 N) (hM : cTx M T tl) (hN : rTx N T tl) (hl : Lag T tl M N) (h20 : N 8 0 20 = 0) (hD : DR M N s e) (hs : s < 5) (m1 : M 2 3 s = nI w1) (n1 : N 8 24 (3 * s) = nI w1) (b1 : 1 ≤ w1 ∧ w1 ≤ 99) (m2 : M 2 4 s = nI w2) (n2 : N 8 24 (3 * s + 1) = nI w2) (b2 : w2 ≤ 9) : GO T tl M0 N0 (s + 1) e (xb2 (cSc3 (nI s) M) KE) (rSc3 N) := by
  have h22 := hD.2.2.2.2.1
  unfold cSc3 rSc3
  rw [h22, m3_e, a2_e]
  refine go_num hT c0 r0 hM hN hl h20 (fun N' f1 f2 => ?_) (fun M' N' w f1 f2 f3 f4 f5 f6 f7 => ?_)
  · rw [xchk_t _ (xb_nI (show 3 * s + 2 < 15 by omega) (by decide)), xlet_e, xlet_e]
    obtain ⟨N3, hN3⟩ : ∃ N3, N3 = xsf (xst N' 8 24 (nI (3 * s + 2)) 0) 8 22 (xst N' 8 24 (nI (3 * s + 2)) 0 8 0 22 + 1) := ⟨_, rfl⟩
    rw [← hN3]
    obtain ⟨N'', k1, k2, k3, k4⟩ := end_wrong (N := N3) (by rw [hN3, xsf_k (by decide), xst_r (by decide), f2])
    refine ⟨N'', k1, ?_, k3, by rw [k4, hN3, xsf_k (by decide), xst_r (by decide)]⟩
    refine rFi.tr ?_ k2
    rw [hN3]
    exact (rFi.st _ _ _ (Or.inl rfl)).tr (rFi.sf _ _ (Or.inl rfl))
  · obtain ⟨l1, l2⟩ := lo_hi (a := 1) (b := 9) f5 (by decide) (by decide) rfl rfl f4
    have hD' := hD.of f1 f2
    have M2 : M' 2 = M 2 := f1.1 2 (by decide)
    have N24 : N' 8 24 = N 8 24 := f2.2.1 24 (by decide)
    rw [xchk_t _ (xb_nI (show s < 5 by omega) (by decide)), xlet_e, xlet_e, f6, xchk_t _ (xb_nI (show 3 * s + 2 < 15 by omega) (by decide)), xlet_e, xlet_e]
    have e20 : xst M' 2 5 (nI s) (nI w) 2 0 0 + 1 = nI (s + 1) := by rw [xst_r (by decide), hD'.2.2.1, nI_1]
    have e22 : xst N' 8 24 (nI (3 * s + 2)) (nI w) 8 0 22 + 1 = nI (s + 1) := by rw [xst_r (by decide), hD'.2.2.2.2.1, nI_1]
    rw [e20, e22]
    obtain ⟨Md, hMd⟩ : ∃ Md, Md = xsf (xst M' 2 5 (nI s) (nI w)) 2 0 (nI (s + 1)) := ⟨_, rfl⟩
    obtain ⟨Nd, hNd⟩ : ∃ Nd, Nd = xsf (xst N' 8 24 (nI (3 * s + 2)) (nI w)) 8 22 (nI (s + 1)) := ⟨_, rfl⟩
    rw [← hMd, ← hNd]
    have fc : cFi M Md := by rw [hMd]; exact (f1.i.tr (cFi.st _ _ _ _)).tr (cFi.sf _ _ _)
    have fr : rFi N Nd := by rw [hNd]; exact (f2.i.tr (rFi.st _ _ _ (Or.inl rfl))).tr (rFi.sf _ _ (Or.inl rfl))
    refine go_end hT (c0.tr fc) (r0.tr fr) (fc.tx hM) (fr.tx hN) (f7.of (by rw [hMd, xsf_o (by decide), xst_o (by decide)]) (fun k k1 k2 => by rw [hNd, xsf_k (by omega), xst_r (by decide)])) (by rw [hNd, xsf_k (by decide), xst_r (by decide), f3]) ?_
    obtain ⟨d1, d2, d3, d4, d5, d6, d7, d8⟩ := hD'
    refine ⟨by omega, d2, by rw [hMd, xsf_0], by rw [hMd, xsf_k (by decide), xst_r (by decide), d4], by rw [hNd, xsf_0], by rw [hNd, xsf_k (by decide), xst_r (by decide), d6], fun j hj => ?_, fun j hj => ?_⟩
    · rw [hMd, hNd, xsf_r (by decide), xsf_r (by decide), xsf_r (by decide), xsf_r (by decide), xst_r (show 3 ≠ 5 by decide), xst_r (show 4 ≠ 5 by decide), xst_e (by omega), xst_e (by omega), xst_e (by omega), xst_e (by omega)]
      by_cases hjs : j = s
      · subst hjs
        rw [if_pos rfl, if_neg (by omega), if_neg (by omega), if_pos rfl, M2, N24, m1, m2, n1, n2]
        exact ⟨⟨w1, b1.1, b1.2, rfl⟩, ⟨w2, b2, rfl⟩, ⟨w, l1, l2, rfl⟩, rfl, rfl, rfl⟩
      · rw [if_neg hjs, if_neg (by omega), if_neg (by omega), if_neg (by omega)]
        exact d7 j (by omega)
    · rw [hMd, hNd, xsf_r (by decide), xsf_r (by decide), xsf_r (by decide), xst_r (show 6 ≠ 5 by decide), xst_r (show 7 ≠ 5 by decide), xst_r (show 26 ≠ 24 by decide)]
      exact d8 j hj
theorem go_sc2 {T : Nat → Nat} {tl s e w1 : Nat} {M0 N0 M N : xMem} (hT : gTx T tl) (c0 : cFi M0 M) (r0 : rFi N0 N) (hM : cTx M T tl) (hN : rTx N T tl) (hl : Lag T tl M N) (h20 : N 8 0 20 = 0) (hD : DR M N s e) (hs : s < 5) (m1 : M 2 3 s = nI w1) (n1 : N 8 24 (3 * s) = nI w1) (b1 : 1 ≤ w1 ∧ w1 ≤ 99) : GO T tl M0 N0 (s + 1) e (xb2 (cSc2 (nI s) M) KE) (rSc2 N) := by
  have h22 := hD.2.2.2.2.1
  unfold cSc2 rSc2
  rw [h22, m3_e, a1_e]
  refine go_num hT c0 r0 hM hN hl h20 (fun N' f1 f2 => ?_) (fun M' N' w f1 f2 f3 f4 f5 f6 f7 => ?_)
  · rw [xchk_t _ (xb_nI (show 3 * s + 1 < 15 by omega) (by decide)), xlet_e]
    obtain ⟨N'', k1, k2, k3, k4⟩ := wr_sc3 (N := xst N' 8 24 (nI (3 * s + 1)) 0) (by rw [xst_r (by decide), f2]) (by rw [xst_r (by decide), f1.2.2 22 (by omega)]; exact h22) hs
    exact ⟨N'', k1, (rFi.st _ _ _ (Or.inl rfl)).tr k2, k3, by rw [k4, xst_r (by decide)]⟩
  · obtain ⟨l1, l2⟩ := lo_hi (a := 0) (b := 9) f5 (by decide) (by decide) rfl rfl f4
    have hD' := hD.of f1 f2
    have M2 : M' 2 = M 2 := f1.1 2 (by decide)
    have N24 : N' 8 24 = N 8 24 := f2.2.1 24 (by decide)
    rw [xchk_t _ (xb_nI (show s < 5 by omega) (by decide)), xlet_e, f6, xchk_t _ (xb_nI (show 3 * s + 1 < 15 by omega) (by decide)), xlet_e]
    have fc : cFi M (xst M' 2 4 (nI s) (nI w)) := f1.i.tr (cFi.st _ _ _ _)
    have fr : rFi N (xst N' 8 24 (nI (3 * s + 1)) (nI w)) := f2.i.tr (rFi.st _ _ _ (Or.inl rfl))
    exact go_sc3 hT (c0.tr fc) (r0.tr fr) (fc.tx hM) (fr.tx hN) (f7.of (by rw [xst_o (by decide)]) (fun k k1 k2 => by rw [xst_r (by decide)])) (by rw [xst_r (by decide), f3]) (hD'.sc (by omega) (by omega) (by omega)) hs (by rw [xst_r (by decide), M2, m1]) (by rw [xst_e (by omega), if_neg (by omega), N24, n1]) b1 (w2 := w) (by rw [xst_e (by omega), if_pos rfl]) (by rw [xst_e (by omega), if_pos rfl]) l2
theorem go_sc1 {T : Nat → Nat} {tl s e : Nat} {M0 N0 M N : xMem} (hT : gTx T tl) (c0 : cFi M0 M) (r0 : rFi N0 N) (hM : cTx M T tl) (hN : rTx N T tl) (hl : Lag T tl M N) (h20 : N 8 0 20 = 0) (hD : DR M N s e) (hs : s < 5) : GO T tl M0 N0 (s + 1) e (xb2 (f_X3_readScale (nI s) M) KE) (rSc1 N) := by
  have h22 := hD.2.2.2.2.1
  rw [cSc1_e]
  unfold rSc1
  rw [h22, m3_e]
  refine go_num hT c0 r0 hM hN hl h20 (fun N' f1 f2 => ?_) (fun M' N' w f1 f2 f3 f4 f5 f6 f7 => ?_)
  · rw [xchk_t _ (xb_nI (show 3 * s < 15 by omega) (by decide)), xlet_e]
    obtain ⟨N'', k1, k2, k3, k4⟩ := wr_sc2 (N := xst N' 8 24 (nI (3 * s)) 0) (by rw [xst_r (by decide), f2]) (by rw [xst_r (by decide), f1.2.2 22 (by omega)]; exact h22) hs
    exact ⟨N'', k1, (rFi.st _ _ _ (Or.inl rfl)).tr k2, k3, by rw [k4, xst_r (by decide)]⟩
  · have hlh := lo_hi (a := 1) (b := 99) f5 (by decide) (by decide) rfl rfl f4
    have hD' := hD.of f1 f2
    rw [xchk_t _ (xb_nI (show s < 5 by omega) (by decide)), xlet_e, f6, xchk_t _ (xb_nI (show 3 * s < 15 by omega) (by decide)), xlet_e]
    have fc : cFi M (xst M' 2 3 (nI s) (nI w)) := f1.i.tr (cFi.st _ _ _ _)
    have fr : rFi N (xst N' 8 24 (nI (3 * s)) (nI w)) := f2.i.tr (rFi.st _ _ _ (Or.inl rfl))
    exact go_sc2 hT (c0.tr fc) (r0.tr fr) (fc.tx hM) (fr.tx hN) (f7.of (by rw [xst_o (by decide)]) (fun k k1 k2 => by rw [xst_r (by decide)])) (by rw [xst_r (by decide), f3]) (hD'.sc (by omega) (by omega) (by omega)) hs (w1 := w) (by rw [xst_e (by omega), if_pos rfl]) (by rw [xst_e (by omega), if_pos rfl]) hlh
theorem go_eg2 {T : Nat → Nat} {tl s e w1 : Nat} {M0 N0 M N : xMem} (hT : gTx T tl) (c0 : cFi M0 M) (r0 : rFi N0 N) (hM : cTx M T tl) (hN : rTx N T tl) (hl : Lag T tl M N) (h20 : N 8 0 20 = 0) (hD : DR M N s e) (he : e < 6) (m1 : M 2 6 e = nI w1) (n1 : N 8 26 (2 * e) = nI w1) (b1 : 1 ≤ w1 ∧ w1 ≤ 99) : GO T tl M0 N0 s (e + 1) (xb2 (cEgg2 (nI e) M) KE) (rEg2 N) := by
  have h24 := hD.2.2.2.2.2.1
  unfold cEgg2 rEg2
  rw [h24, m2_e, a1_e]
  refine go_num hT c0 r0 hM hN hl h20 (fun N' f1 f2 => ?_) (fun M' N' w f1 f2 f3 f4 f5 f6 f7 => ?_)
  · rw [xchk_t _ (xb_nI (show 2 * e + 1 < 12 by omega) (by decide)), xlet_e, xlet_e]
    obtain ⟨N3, hN3⟩ : ∃ N3, N3 = xsf (xst N' 8 26 (nI (2 * e + 1)) 0) 8 24 (xst N' 8 26 (nI (2 * e + 1)) 0 8 0 24 + 1) := ⟨_, rfl⟩
    rw [← hN3]
    obtain ⟨N'', k1, k2, k3, k4⟩ := end_wrong (N := N3) (by rw [hN3, xsf_k (by decide), xst_r (by decide), f2])
    refine ⟨N'', k1, ?_, k3, by rw [k4, hN3, xsf_k (by decide), xst_r (by decide)]⟩
    refine rFi.tr ?_ k2
    rw [hN3]
    exact (rFi.st _ _ _ (Or.inr rfl)).tr (rFi.sf _ _ (Or.inr rfl))
  · obtain ⟨l1, l2⟩ := lo_hi (a := 0) (b := 5) f5 (by decide) (by decide) rfl rfl f4
    have hD' := hD.of f1 f2
    have M2 : M' 2 = M 2 := f1.1 2 (by decide)
    have N26 : N' 8 26 = N 8 26 := f2.2.1 26 (by decide)
    rw [xchk_t _ (xb_nI (show e < 6 by omega) (by decide)), xlet_e, xlet_e, f6, xchk_t _ (xb_nI (show 2 * e + 1 < 12 by omega) (by decide)), xlet_e, xlet_e]
    have e20 : xst M' 2 7 (nI e) (nI w) 2 0 1 + 1 = nI (e + 1) := by rw [xst_r (by decide), hD'.2.2.2.1, nI_1]
    have e22 : xst N' 8 26 (nI (2 * e + 1)) (nI w) 8 0 24 + 1 = nI (e + 1) := by rw [xst_r (by decide), hD'.2.2.2.2.2.1, nI_1]
    rw [e20, e22]
    obtain ⟨Md, hMd⟩ : ∃ Md, Md = xsf (xst M' 2 7 (nI e) (nI w)) 2 1 (nI (e + 1)) := ⟨_, rfl⟩
    obtain ⟨Nd, hNd⟩ : ∃ Nd, Nd = xsf (xst N' 8 26 (nI (2 * e + 1)) (nI w)) 8 24 (nI (e + 1)) := ⟨_, rfl⟩
    rw [← hMd, ← hNd]
    have fc : cFi M Md := by rw [hMd]; exact (f1.i.tr (cFi.st _ _ _ _)).tr (cFi.sf _ _ _)
    have fr : rFi N Nd := by rw [hNd]; exact (f2.i.tr (rFi.st _ _ _ (Or.inr rfl))).tr (rFi.sf _ _ (Or.inr rfl))
    refine go_end hT (c0.tr fc) (r0.tr fr) (fc.tx hM) (fr.tx hN) (f7.of (by rw [hMd, xsf_o (by decide), xst_o (by decide)]) (fun k k1 k2 => by rw [hNd, xsf_k (by omega), xst_r (by decide)])) (by rw [hNd, xsf_k (by decide), xst_r (by decide), f3]) ?_
    obtain ⟨d1, d2, d3, d4, d5, d6, d7, d8⟩ := hD'
    refine ⟨d1, by omega, by rw [hMd, xsf_k (by decide), xst_r (by decide), d3], by rw [hMd, xsf_0], by rw [hNd, xsf_k (by decide), xst_r (by decide), d5], by rw [hNd, xsf_0], fun j hj => ?_, fun j hj => ?_⟩
    · rw [hMd, hNd, xsf_r (by decide), xsf_r (by decide), xsf_r (by decide), xsf_r (by decide), xst_r (show 3 ≠ 7 by decide), xst_r (show 4 ≠ 7 by decide), xst_r (show 5 ≠ 7 by decide), xst_r (show 24 ≠ 26 by decide)]
      exact d7 j hj
    · rw [hMd, hNd, xsf_r (by decide), xsf_r (by decide), xsf_r (by decide), xst_r (show 6 ≠ 7 by decide), xst_e (by omega), xst_e (by omega), xst_e (by omega)]
      by_cases hjs : j = e
      · subst hjs
        rw [if_pos rfl, if_neg (by omega), if_pos rfl, M2, N26, m1, n1]
        exact ⟨⟨w1, b1.1, b1.2, rfl⟩, ⟨w, l2, rfl⟩, rfl, rfl⟩
      · rw [if_neg hjs, if_neg (by omega), if_neg (by omega)]
        exact d8 j (by omega)
theorem go_eg1 {T : Nat → Nat} {tl s e : Nat} {M0 N0 M N : xMem} (hT : gTx T tl) (c0 : cFi M0 M) (r0 : rFi N0 N) (hM : cTx M T tl) (hN : rTx N T tl) (hl : Lag T tl M N) (h20 : N 8 0 20 = 0) (hD : DR M N s e) (he : e < 6) : GO T tl M0 N0 s (e + 1) (xb2 (f_X3_readEgg (nI e) M) KE) (rEg1 N) := by
  have h24 := hD.2.2.2.2.2.1
  rw [cEgg1_e]
  unfold rEg1
  rw [h24, m2_e]
  refine go_num hT c0 r0 hM hN hl h20 (fun N' f1 f2 => ?_) (fun M' N' w f1 f2 f3 f4 f5 f6 f7 => ?_)
  · rw [xchk_t _ (xb_nI (show 2 * e < 12 by omega) (by decide)), xlet_e]
    obtain ⟨N'', k1, k2, k3, k4⟩ := wr_eg2 (N := xst N' 8 26 (nI (2 * e)) 0) (by rw [xst_r (by decide), f2]) (by rw [xst_r (by decide), f1.2.2 24 (by omega)]; exact h24) he
    exact ⟨N'', k1, (rFi.st _ _ _ (Or.inr rfl)).tr k2, k3, by rw [k4, xst_r (by decide)]⟩
  · have hlh := lo_hi (a := 1) (b := 99) f5 (by decide) (by decide) rfl rfl f4
    have hD' := hD.of f1 f2
    rw [xchk_t _ (xb_nI (show e < 6 by omega) (by decide)), xlet_e, f6, xchk_t _ (xb_nI (show 2 * e < 12 by omega) (by decide)), xlet_e]
    have fc : cFi M (xst M' 2 6 (nI e) (nI w)) := f1.i.tr (cFi.st _ _ _ _)
    have fr : rFi N (xst N' 8 26 (nI (2 * e)) (nI w)) := f2.i.tr (rFi.st _ _ _ (Or.inr rfl))
    exact go_eg2 hT (c0.tr fc) (r0.tr fr) (fc.tx hM) (fr.tx hN) (f7.of (by rw [xst_o (by decide)]) (fun k k1 k2 => by rw [xst_r (by decide)])) (by rw [xst_r (by decide), f3]) (hD'.eg (by omega) (by omega) (by omega)) he (w1 := w) (by rw [xst_e (by omega), if_pos rfl]) (by rw [xst_e (by omega), if_pos rfl]) hlh
