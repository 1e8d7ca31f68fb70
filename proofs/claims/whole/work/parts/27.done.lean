/-- a call that is remembered by both, then changes the floor and st alike: what holds of both goes on -/
theorem push {M M1 M2 M3 M4 : xMem} {L : xLL} {ns ne lt kn : Nat} (hT : rT M ns ne) (hF : rF ns ne (M (0 + 9)) (M 8 7) 0) (hv : vF ns ne (M (0 + 9))) (p1 : kn ≤ 10) (p2 : lt < 10) (p6 : ∀ j, j < kn → rF ns ne (M (ringAt lt kn j + 4 + 9)) (M 8 8) (27 * j) ∧ vF ns ne (M (ringAt lt kn j + 4 + 9))) (hI : rI M ns ne) (hX : rX M ns) (hl : rL M) (hL : L 0 = L 8)
    (a1 : M1 4 0 1 = nI ((lt + 1) % 10)) (a2 : M1 4 0 2 = nI (min (kn + 1) 10)) (a3 : sameF (M1 ((lt + 1) % 10 + 4 + 9)) (M (0 + 9))) (a4 : ∀ o, o ≠ 4 → o ≠ (lt + 1) % 10 + 4 + 9 → M1 o = M o)
    (b1 : ∀ o, o ≠ 0 + 9 → M2 o = M1 o)
    (c1 : M3 8 0 8 = nI (min (kn + 1) 10)) (c2 : ∀ k, k ≠ 8 → M3 8 0 k = M2 8 0 k) (c3 : ∀ r, r ≠ 0 → r ≠ 8 → M3 8 r = M2 8 r) (c4 : ∀ o, o ≠ 8 → M3 o = M2 o) (c5 : ∀ j k, k < 27 → j < min (kn + 1) 10 → M3 8 8 (27 * j + k) = if j + 1 = min (kn + 1) 10 then M2 8 7 k else M2 8 8 (27 * (j + (if kn = 10 then 1 else 0)) + k))
    (d1 : ∀ o, o ≠ 8 → M4 o = M3 o) (d2 : ∀ r, r ≠ 7 → r ≠ 27 → M4 8 r = M3 8 r) (hF' : rF ns ne (M4 (0 + 9)) (M4 8 7) 0) (hv' : vF ns ne (M4 (0 + 9))) : Rel M4 L := by
  have h5 := hT.1
  have h6 := hT.2.1
  have hm : (lt + 1) % 10 < 10 := Nat.mod_lt _ (by decide)
  have hO : ∀ o, o ≠ 8 → o ≠ 4 → o ≠ 0 + 9 → o ≠ (lt + 1) % 10 + 4 + 9 → M4 o = M o := fun o z1 z2 z3 z4 => by rw [d1 o z1, c4 o z1, b1 o z3, a4 o z2 z4]
  have m8 : M2 8 = M 8 := by rw [b1 8 (by decide), a4 8 (by decide) (by omega)]
  have h8r : ∀ r, r ≠ 0 → r ≠ 7 → r ≠ 8 → r ≠ 27 → M4 8 r = M 8 r := fun r z1 z2 z3 z4 => by rw [d2 r z2 z4, c3 r z1 z3, m8]
  have h80 : ∀ k, k ≠ 8 → M4 8 0 k = M 8 0 k := fun k z => by rw [d2 0 (by decide) (by decide), c2 k z, m8]
  have h4 : ∀ o, o ≠ 8 → o ≠ 0 + 9 → M4 o = M1 o := fun o z1 z2 => by rw [d1 o z1, c4 o z1, b1 o z2]
  refine ⟨ns, ne, ?_, ⟨hF', hv'⟩, ⟨min (kn + 1) 10, (lt + 1) % 10, by omega, hm, by rw [h4 4 (by decide) (by decide)]; exact a1, by rw [h4 4 (by decide) (by decide)]; exact a2, by rw [d2 0 (by decide) (by decide)]; exact c1, fun j hj => ?_⟩, fun i hi => ?_, ?_, ?_, hL⟩
  · unfold rT at hT ⊢
    rw [hO 3 (by decide) (by decide) (by decide) (by omega), h80 0 (by decide), h80 4 (by decide), h8r 2 (by decide) (by decide) (by decide) (by decide), h8r 3 (by decide) (by decide) (by decide) (by decide), h8r 4 (by decide) (by decide) (by decide) (by decide), h8r 6 (by decide) (by decide) (by decide) (by decide)]
    exact hT
  · have e8 : M4 8 8 = M3 8 8 := d2 8 (by decide) (by decide)
    have c5' := c5
    rw [m8] at c5'
    by_cases hlast : j + 1 = min (kn + 1) 10
    · have hr : ringAt ((lt + 1) % 10) (min (kn + 1) 10) j = (lt + 1) % 10 := by unfold ringAt; omega
      rw [hr, e8, h4 ((lt + 1) % 10 + 4 + 9) (by omega) (by omega)]
      refine ⟨a3.rF h5 h6 ?_, a3.vF h5 h6 hv⟩
      refine ⟨fun e he => ?_, fun s hs => ?_⟩
      · rw [c5' j e (by omega) hj, if_pos hlast, c5' j (6 + e) (by omega) hj, if_pos hlast]
        simpa only [Nat.zero_add] using hF.1 e he
      · rw [c5' j (12 + s) (by omega) hj, if_pos hlast, c5' j (17 + s) (by omega) hj, if_pos hlast, c5' j (22 + s) (by omega) hj, if_pos hlast]
        simpa only [Nat.zero_add] using hF.2 s hs
    · obtain ⟨j', hj'⟩ : ∃ j', j' = j + (if kn = 10 then 1 else 0) := ⟨_, rfl⟩
      have hj1 : j' < kn := by rw [hj']; split <;> omega
      have hr : ringAt ((lt + 1) % 10) (min (kn + 1) 10) j = ringAt lt kn j' := by
        unfold ringAt
        rw [hj']
        split <;> omega
      have hj0 : kn = 10 → 1 ≤ j' := fun q => by rw [hj', if_pos q]; omega
      have hne : ringAt lt kn j' + 4 + 9 ≠ (lt + 1) % 10 + 4 + 9 := by
        unfold ringAt
        by_cases q : kn = 10
        · have := hj0 q
          omega
        · omega
      have hrl := ringAt_lt lt kn j'
      rw [hr, e8, hO _ (by omega) (by omega) (by omega) hne]
      obtain ⟨g1, g2⟩ := p6 j' hj1
      refine ⟨⟨fun e he => ?_, fun s hs => ?_⟩, g2⟩
      · rw [c5' j e (by omega) hj, if_neg hlast, c5' j (6 + e) (by omega) hj, if_neg hlast, ← hj']
        exact g1.1 e he
      · rw [c5' j (12 + s) (by omega) hj, if_neg hlast, c5' j (17 + s) (by omega) hj, if_neg hlast, c5' j (22 + s) (by omega) hj, if_neg hlast, ← hj']
        exact g1.2 s hs
  · rw [hO 0 (by decide) (by decide) (by decide) (by omega), h8r 11 (by decide) (by decide) (by decide) (by decide), h8r 10 (by decide) (by decide) (by decide) (by decide), hO (i + 2 + 9) (by omega) (by omega) (by omega) (by omega)]
    exact hI i hi
  · unfold rX at hX ⊢
    rw [hO 7 (by decide) (by decide) (by decide) (by omega), h80 11 (by decide), h8r 13 (by decide) (by decide) (by decide) (by decide)]
    exact hX
  · unfold rL at hl ⊢
    rw [hO 1 (by decide) (by decide) (by decide) (by omega), h80 15 (by decide), h8r 15 (by decide) (by decide) (by decide) (by decide)]
    exact hl
theorem e_howManyAt {i ne : Nat} {a : Int32} {M : xMem} (hne : M 3 0 1 = nI ne) (h6 : ne ≤ 6) : f_X0_howManyAt i a M = some (nI (popN (pEn (M (i + 9) 2) a ne))) := by
  have h2 := pEn_lt (M (i + 9) 2) a ne
  have h3 : 2 ^ ne ≤ 64 := Nat.pow_le_pow_right (n := 2) (by decide) h6
  unfold f_X0_howManyAt
  rw [e_eggsAt hne h6, xb1_e, pE_n _ _ _ h6, e_bitCount (by omega), xb1_e]
theorem e_bitsIn {ns ne : Nat} {a : Int32} {M N : xMem} {F : Nat → Nat → Int32} (hF : rF ns ne F (M 8 27) 0) (hne : M 8 0 4 = nI ne) (h6 : ne ≤ 6) : ∃ r, f_X8_inPlace a M = some r ∧ f_X8_bits r N = some (nI (popN (pEn (F 2) a ne))) := by
  have h2 := pEn_lt (F 2) a ne
  have h3 : 2 ^ ne ≤ 64 := Nat.pow_le_pow_right (n := 2) (by decide) h6
  exact ⟨_, e_inPlace hF hne h6, by rw [pE_n _ _ _ h6, e_bits (by omega)]⟩
theorem xst_o {M : xMem} {o r o' : Nat} {i v : Int32} (h : o' ≠ o) : xst M o r i v o' = M o' := by
  unfold xst
  exact xs_o h
theorem xst_r {M : xMem} {o r r' : Nat} {i v : Int32} (h : r' ≠ r) : xst M o r i v o r' = M o r' := by
  unfold xst
  exact xs_ne _ _ _ _ (by intro q; exact h (Prod.mk.inj q).2)
theorem xst_e {M : xMem} {o r j k : Nat} {v : Int32} (h : j < 2 ^ 31) : xst M o r (nI j) v o r k = if k = j then v else M o r k := by
  unfold xst
  rw [xs_same, nI_clamp h]
  rfl
/-- one slot of the floor's row r and of st's part from b on is written alike -/
theorem rF_set {ns ne r b n j : Nat} {F F' : Nat → Nat → Int32} {S S' : Nat → Int32} {v : Int32} (h : rF ns ne F S 0) (h5 : ns ≤ 5) (h6 : ne ≤ 6) (hb : (r = 2 ∧ b = 0 ∧ n = ne) ∨ (r = 4 ∧ b = 12 ∧ n = ns) ∨ (r = 6 ∧ b = 22 ∧ n = ns) ∨ (r = 5 ∧ b = 17 ∧ n = ns)) (hj : j < n) (f1 : ∀ q, q ≠ r → F' q = F q) (f2 : ∀ k, F' r k = if k = j then v else F r k) (s1 : ∀ k, S' k = if k = b + j then v else S k) : rF ns ne F' S' 0 := by
  refine ⟨fun e he => ⟨?_, ?_⟩, fun s hs => ⟨?_, ?_, ?_⟩⟩
  · have g := (h.1 e he).1
    rw [s1]
    by_cases hr : r = 2
    · subst hr; rw [f2]
      by_cases hej : e = j
      · rw [if_pos (by omega), if_pos hej]
      · rw [if_neg (by omega), if_neg hej]; exact g
    · rw [f1 2 (by omega), if_neg (by omega)]; exact g
  · have g := (h.1 e he).2
    rw [s1, f1 3 (by omega), if_neg (by omega)]; exact g
  · have g := (h.2 s hs).1
    rw [s1]
    by_cases hr : r = 4
    · subst hr; rw [f2]
      by_cases hej : s = j
      · rw [if_pos (by omega), if_pos hej]
      · rw [if_neg (by omega), if_neg hej]; exact g
    · rw [f1 4 (by omega), if_neg (by omega)]; exact g
  · have g := (h.2 s hs).2.1
    rw [s1]
    by_cases hr : r = 5
    · subst hr; rw [f2]
      by_cases hej : s = j
      · rw [if_pos (by omega), if_pos hej]
      · rw [if_neg (by omega), if_neg hej]; exact g
    · rw [f1 5 (by omega), if_neg (by omega)]; exact g
  · have g := (h.2 s hs).2.2
    rw [s1]
    by_cases hr : r = 6
    · subst hr; rw [f2]
      by_cases hej : s = j
      · rw [if_pos (by omega), if_pos hej]
      · rw [if_neg (by omega), if_neg hej]; exact g
    · rw [f1 6 (by omega), if_neg (by omega)]; exact g
