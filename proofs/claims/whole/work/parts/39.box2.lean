/-- the lightest box among the sets below S, the first of them -/
def bxS (W : Nat → Int32) (T ne n : Nat) (w : Int32) : Nat → Int32 × Int32
  | 0 => (-9, 0)
  | S + 1 => if S &&& T = S ∧ okC W ne n w S then (if (bxS W T ne n w S).1 = -9 ∨ ¬ (bxS W T ne n w S).2 ≤ gI W S ne then (nI S, gI W S ne) else bxS W T ne n w S) else bxS W T ne n w S
theorem bxS_inv {W : Nat → Int32} {T ne n : Nat} {w : Int32} : ∀ S, bxS W T ne n w S = (-9, 0) ∨ ∃ j, j < S ∧ bxS W T ne n w S = (nI j, gI W j ne)
  | 0 => Or.inl rfl
  | S + 1 => by
    have hi := bxS_inv (W := W) (T := T) (ne := ne) (n := n) (w := w) S
    have hi2 : bxS W T ne n w S = (-9, 0) ∨ ∃ j, j < S + 1 ∧ bxS W T ne n w S = (nI j, gI W j ne) := by
      rcases hi with h | ⟨j, hj, h⟩
      · exact Or.inl h
      · exact Or.inr ⟨j, by omega, h⟩
    rw [bxS]
    split
    · split
      · exact Or.inr ⟨S, by omega, rfl⟩
      · exact hi2
    · exact hi2
theorem bxS_out {W : Nat → Int32} {T ne n m : Nat} {w : Int32} (hT : T < m) : ∀ k, bxS W T ne n w (m + k) = bxS W T ne n w m
  | 0 => rfl
  | k + 1 => by
    have h : ¬ (m + k &&& T = m + k ∧ okC W ne n w (m + k)) := fun q => by
      have := Nat.and_le_right (n := m + k) (m := T)
      rw [q.1] at this
      omega
    rw [← Nat.add_assoc, bxS, if_neg h]
    exact bxS_out hT k
theorem n9_neg {j : Nat} (h : j < 2 ^ 31) : ¬ nI j = -9 := fun q => by
  have : (nI j).toInt = (-9 : Int32).toInt := by rw [q]
  rw [nI_toInt h, show (-9 : Int32).toInt = -9 by decide] at this
  omega
theorem e_light {ns ne n : Nat} {w : Int32} {M : xMem} (hns : M 3 0 0 = nI ns) (h5 : ns ≤ 5) (hne : M 3 0 1 = nI ne) (h6 : ne ≤ 6) (hv : vF ns ne (M (0 + 9))) (hn1 : 1 ≤ n) (hn : n ≤ 6) : f_X1_lightestBox (nI n) w M = some (bxS (M (0 + 9) 3) (tN (M (0 + 9) 2) ne) ne n w (2 ^ ne)).1 := by
  have hT : tN (M (0 + 9) 2) ne < 2 ^ ne := pEn_lt _ _ _
  have h64 : 2 ^ ne ≤ 64 := Nat.pow_le_pow_right (n := 2) (by decide) h6
  obtain ⟨T, hTd⟩ : ∃ T, T = tN (M (0 + 9) 2) ne := ⟨_, rfl⟩
  unfold f_X1_lightestBox
  rw [e_trays hns h5 hne h6 hv, xb1_e, ← hTd]
  rw [← hTd] at hT
  have key : ∀ m S, 1 ≤ S → S ≤ 64 → 64 - S < m → f_X1_lightestBox_l18 (nI n) w M (nI T) m (bxS (M (0 + 9) 3) T ne n w S).1 (bxS (M (0 + 9) 3) T ne n w S).2 (nI S) = some (bxS (M (0 + 9) 3) T ne n w 64).1 := by
    intro m
    induction m with
    | zero => intro S h1 h2; omega
    | succ m ih =>
      intro S h1 h2 h3
      rw [f_X1_lightestBox_l18]
      by_cases hS : S = 64
      · subst hS
        rw [if_pos (by decide)]
      · have hi := ih (S + 1) (by omega) (by omega) (by omega)
        have hlt : ¬ (64 : Int32) ≤ nI S := le_nI (a := S) (b := 64) (by omega) (by decide) (by omega)
        unfold f_X1_lightestBox_b70 f_X1_lightestBox_b62
        rw [if_neg hlt, e_isBox hne h6 (by omega) (by omega) hn, xb1_e, e_grams hne h6 (by omega), xb1_e, nI_1]
        rw [bxS] at hi
        by_cases hok : S &&& T = S ∧ okC (M (0 + 9) 3) ne n w S
        · rw [if_pos hok, if_neg (by decide)]
          rw [if_pos hok] at hi
          by_cases h9 : (bxS (M (0 + 9) 3) T ne n w S).1 = -9
          · rw [if_pos h9]
            rw [if_pos (Or.inl h9)] at hi
            exact hi
          · rw [if_neg h9]
            by_cases hle : (bxS (M (0 + 9) 3) T ne n w S).2 ≤ gI (M (0 + 9) 3) S ne
            · rw [if_pos hle]
              rw [if_neg (fun q => q.elim h9 (fun z => z hle))] at hi
              exact hi
            · rw [if_neg hle]
              rw [if_pos (Or.inr hle)] at hi
              exact hi
        · rw [if_neg hok, if_pos rfl]
          rw [if_neg hok] at hi
          exact hi
  have h1 : bxS (M (0 + 9) 3) T ne n w 1 = (-9, 0) := by
    rw [bxS, if_neg (fun q => by have := q.2.1; have z : popN 0 = 0 := rfl; omega)]
    rfl
  have hk := key FU 1 (by omega) (by omega) (FU_gt (by omega))
  rw [h1] at hk
  rw [show (1 : Int32) = nI 1 from rfl, hk]
  have := bxS_out (W := M (0 + 9) 3) (ne := ne) (n := n) (w := w) hT (64 - 2 ^ ne)
  rw [show 2 ^ ne + (64 - 2 ^ ne) = 64 by omega] at this
  rw [this]
theorem shl_key : ∀ W, W ≤ 6 → (1 : Int32) <<< (nI W &&& 31) = nI (2 ^ W) := by decide +kernel
theorem s_box : S_box Rel := by
  intro a1 a2 a3 M L h
  obtain ⟨ns, ne, hT, hF, hP, hI, hX, hl, hL⟩ := id h
  obtain ⟨h5, h6, t3, t4, t5, t6, tS, tE⟩ := id hT
  by_cases hq : oob a1 1 6
  · refine ⟨-1, ?_, ?_, h⟩
    · unfold f_X7_box; rw [e_noBox, xb1_e, if_pos (Or.inl hq)]; rfl
    · unfold f_X8_box; rw [e_in, xb1_e, if_pos hq]; rfl
  by_cases hq2 : oob a2 0 600
  · refine ⟨-1, ?_, ?_, h⟩
    · unfold f_X7_box; rw [e_noBox, xb1_e, if_pos (Or.inr hq2)]; rfl
    · unfold f_X8_box; rw [e_in, xb1_e, if_neg hq, if_neg (by decide), e_in, xb1_e, if_pos hq2]; rfl
  have hqq : ¬ (oob a1 1 6 ∨ oob a2 0 600) := fun q => q.elim hq hq2
  by_cases hq3 : oob a3 0 1
  · refine ⟨-1, ?_, ?_, h⟩
    · unfold f_X7_box; rw [e_noBox, xb1_e, if_neg hqq, if_pos rfl, e_beyond, xb1_e, if_pos hq3]; rfl
    · unfold f_X8_box; rw [e_in, xb1_e, if_neg hq, if_neg (by decide), e_in, xb1_e, if_neg hq2, if_neg (by decide), e_in, xb1_e, if_pos hq3]; rfl
  obtain ⟨n, hn1, hn, rfl⟩ := in_1 (n := 6) 6 (by decide) (by decide) hq
  have hT2 : tN (M (0 + 9) 2) ne < 2 ^ ne := pEn_lt _ _ _
  have h64 : 2 ^ ne ≤ 64 := Nat.pow_le_pow_right (n := 2) (by decide) h6
  obtain ⟨T, hTd⟩ : ∃ T, T = tN (M (0 + 9) 2) ne := ⟨_, rfl⟩
  obtain ⟨B, hB⟩ : ∃ B, B = bxS (M (0 + 9) 3) T ne n a2 (2 ^ ne) := ⟨_, rfl⟩
  have hW : ∀ e, e < ne → ∃ w, w ≤ 99 ∧ M (0 + 9) 3 e = nI w := fun e he => by
    obtain ⟨w, -, w2, w3⟩ := (hF.2.1 e he).2
    exact ⟨w, w2, w3⟩
  have hneg : ∀ S, S ≤ 64 → ((bxS (M (0 + 9) 3) T ne n a2 S).1 < 0 ↔ (bxS (M (0 + 9) 3) T ne n a2 S).1 = -9) := fun S hS64 => by
    rcases bxS_inv (W := M (0 + 9) 3) (T := T) (ne := ne) (n := n) (w := a2) S with q | ⟨j, hj, q⟩
    · rw [q]; decide
    · rw [q]
      exact ⟨fun z => absurd z (nI_pos (by omega)), fun z => absurd z (n9_neg (by omega))⟩
  have href : f_X8_box_l42 (nI n) a2 a3 M FU (-9) 0 0 = some (if B.1 = -9 then B.1 else if a3 = 0 then B.1 else B.2 - a2) := by
    have key : ∀ m S, S ≤ 2 ^ ne → 2 ^ ne - S < m → f_X8_box_l42 (nI n) a2 a3 M m (bxS (M (0 + 9) 3) T ne n a2 S).1 (bxS (M (0 + 9) 3) T ne n a2 S).2 (nI S) = some (if B.1 = -9 then B.1 else if a3 = 0 then B.1 else B.2 - a2) := by
      intro m
      induction m with
      | zero => intro S h1 h2; omega
      | succ m ih =>
        intro S h1 h2
        have hng := hneg S (by omega)
        rw [f_X8_box_l42, t6, shl_key ne h6]
        by_cases hS : S = 2 ^ ne
        · unfold f_X8_box_b130 f_X8_box_b139
          rw [if_pos (by rw [hS]; exact i32_le_rfl _)]
          rw [hS, ← hB] at hng ⊢
          by_cases h9 : B.1 = -9
          · rw [if_pos (hng.mpr h9), if_pos h9]
          · rw [if_neg (fun q => h9 (hng.mp q)), if_neg h9]
            by_cases h0 : a3 = 0
            · rw [if_pos h0, if_pos h0]
            · rw [if_neg h0, if_neg h0]
        · have hi := ih (S + 1) (by omega) (by omega)
          unfold f_X8_box_b84 f_X8_box_b80 f_X8_box_b85 f_X8_box_b99 f_X8_box_b113
          rw [if_neg (le_nI (by omega) (by omega) (by omega)), e_boxed hF.1 t6 h6 (by omega) hn, xb1_e, ← hTd, nI_1]
          rw [bxS] at hi
          by_cases hok : S &&& T = S ∧ okC (M (0 + 9) 3) ne n a2 S
          · rw [if_pos hok] at hi ⊢
            obtain ⟨g, hg1, hg2⟩ := gI_n (S := S) hW
            have hg : ¬ gI (M (0 + 9) 3) S ne < 0 := by rw [hg2]; exact nI_pos (by omega)
            rw [if_neg hg]
            by_cases h9 : (bxS (M (0 + 9) 3) T ne n a2 S).1 = -9
            · rw [if_pos (hng.mpr h9), if_neg (by decide), if_neg (by decide)]
              rw [if_pos (Or.inl h9)] at hi
              exact hi
            · rw [if_neg (fun q => h9 (hng.mp q))]
              by_cases hle : (bxS (M (0 + 9) 3) T ne n a2 S).2 ≤ gI (M (0 + 9) 3) S ne
              · rw [if_pos hle, if_pos rfl, if_pos rfl]
                rw [if_neg (fun q => q.elim h9 (fun z => z hle))] at hi
                exact hi
              · rw [if_neg hle, if_neg (by decide), if_neg (by decide)]
                rw [if_pos (Or.inr hle)] at hi
                exact hi
          · rw [if_neg hok] at hi ⊢
            rw [if_pos (by decide), if_pos rfl, if_pos rfl]
            exact hi
    exact key FU 0 (Nat.zero_le _) (FU_gt (by omega))
  refine ⟨if B.1 = -9 then B.1 else if a3 = 0 then B.1 else B.2 - a2, ?_, ?_, h⟩
  · unfold f_X7_box f_X7_box_b41
    rw [e_noBox, xb1_e, if_neg hqq, if_pos rfl, e_beyond, xb1_e, if_neg hq3, if_pos rfl, e_light t3 h5 t4 h6 hF.2 hn1 hn, xb1_e, ← hTd, ← hB]
    by_cases h9 : B.1 = -9
    · rw [if_pos h9, if_pos h9]
    · rw [if_neg h9, if_neg h9]
      by_cases h0 : a3 = 0
      · rw [if_pos h0, if_pos h0]
      · rw [if_neg h0, if_neg h0]
        rcases bxS_inv (W := M (0 + 9) 3) (T := T) (ne := ne) (n := n) (w := a2) (2 ^ ne) with q | ⟨j, hj, q⟩
        · rw [← hB] at q; rw [q] at h9; exact absurd rfl h9
        · rw [← hB] at q
          rw [q, e_grams t4 h6 (by omega), xb1_e]
  · unfold f_X8_box
    rw [e_in, xb1_e, if_neg hq, if_neg (by decide), e_in, xb1_e, if_neg hq2, if_neg (by decide), e_in, xb1_e, if_neg hq3, if_neg (by decide), href]
