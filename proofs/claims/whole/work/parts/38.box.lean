/-! sets of eggs, as numbers below 64 -/
theorem bit_key : ∀ n, n < 6 → ∀ x, x < 2 ^ n → ∀ e, e < 6 → (x + 2 ^ n) / 2 ^ e % 2 = if e = n then 1 else x / 2 ^ e % 2 := by decide +kernel
theorem bit_key0 : ∀ n, n ≤ 6 → ∀ x, x < 2 ^ n → ∀ e, e < 6 → n ≤ e → x / 2 ^ e % 2 = 0 := by decide +kernel
theorem pEn_bit {w : Nat → Int32} {a : Int32} : ∀ {n e : Nat}, n ≤ 6 → e < 6 → (pEn w a n / 2 ^ e % 2 = 1 ↔ e < n ∧ w e = a)
  | 0, e, _, he => by
    have := bit_key0 0 (by omega) 0 (by decide) e he (by omega)
    show 0 / 2 ^ e % 2 = 1 ↔ _
    omega
  | n + 1, e, hn, he => by
    have h := pEn_bit (w := w) (a := a) (n := n) (e := e) (by omega) he
    have hl := pEn_lt w a n
    rw [pEn]
    by_cases hw : w n = a
    · rw [if_pos hw, bit_key n (by omega) _ hl e he]
      by_cases hen : e = n
      · subst hen
        rw [if_pos rfl]
        exact ⟨fun _ => ⟨by omega, hw⟩, fun _ => rfl⟩
      · rw [if_neg hen, h]
        exact ⟨fun q => ⟨by omega, q.2⟩, fun q => ⟨by omega, q.2⟩⟩
    · rw [if_neg hw, Nat.add_zero, h]
      refine ⟨fun q => ⟨by omega, q.2⟩, fun q => ⟨?_, q.2⟩⟩
      have : e ≠ n := fun z => hw (z ▸ q.2)
      omega
theorem sub_key : ∀ S, S < 64 → ∀ A, A < 64 → (S &&& A = S ↔ ∀ e, e < 6 → S / 2 ^ e % 2 = 1 → A / 2 ^ e % 2 = 1) := by decide +kernel
theorem mask_key : ∀ S, S < 64 → ∀ A, A < 64 → (nI S &&& (nI A ^^^ (-1 : Int32)) = 0 ↔ S &&& A = S) := by decide +kernel
theorem rest_key : ∀ S, S < 64 → ∀ A, A < 64 → S &&& A = S → nI A &&& (nI S ^^^ (-1 : Int32)) = nI (A - S) := by decide +kernel
theorem and_key : ∀ S, S < 64 → ∀ A, A < 64 → nI S &&& nI A = nI (S &&& A) := by decide +kernel
theorem xor_key : ∀ S, S < 64 → ∀ A, A < 64 → S &&& A = S → A - S = A ^^^ S := by decide +kernel
theorem has_key : ∀ S, S < 64 → ∀ e, e < 6 → (((nI S >>> (nI e &&& 31)) &&& (1 : Int32)) = 1 ↔ S / 2 ^ e % 2 = 1) := by decide +kernel
/-- what the eggs of a set weigh -/
def gI (W : Nat → Int32) (S : Nat) : Nat → Int32
  | 0 => 0
  | e + 1 => gI W S e + if S / 2 ^ e % 2 = 1 then W e else 0
theorem gI_n {W : Nat → Int32} {S : Nat} : ∀ {n : Nat}, (∀ e, e < n → ∃ w, w ≤ 99 ∧ W e = nI w) → ∃ g, g ≤ 99 * n ∧ gI W S n = nI g
  | 0, _ => ⟨0, by omega, rfl⟩
  | n + 1, h => by
    obtain ⟨g, h1, h2⟩ := gI_n (S := S) (n := n) (fun e he => h e (by omega))
    obtain ⟨w, h3, h4⟩ := h n (by omega)
    rw [gI, h2, h4]
    by_cases hb : S / 2 ^ n % 2 = 1
    · rw [if_pos hb, nI_add]
      exact ⟨g + w, by omega, rfl⟩
    · rw [if_neg hb, Int32.add_zero]
      exact ⟨g, by omega, rfl⟩
theorem e_grams {i ne S : Nat} {M : xMem} (hne : M 3 0 1 = nI ne) (h6 : ne ≤ 6) (hS : S < 64) : f_X0_gramsOf i (nI S) M = some (gI (M (i + 9) 3) S ne) := by
  have key : ∀ n j, j ≤ ne → ne - j < n → f_X0_gramsOf_l4 i (nI S) M n (gI (M (i + 9) 3) S j) (nI j) = some (gI (M (i + 9) 3) S ne) := by
    intro n
    induction n with
    | zero => intro j h1 h2; omega
    | succ n ih =>
      intro j h1 h2
      rw [f_X0_gramsOf_l4, hne]
      by_cases hj : j = ne
      · subst hj
        rw [if_pos (i32_le_rfl _)]
      · have hi := ih (j + 1) (by omega) (by omega)
        unfold f_X0_gramsOf_b33
        rw [if_neg (le_nI (by omega) (by omega) (by omega)), xchk_t _ (xb_nI (show j < 6 by omega) (by decide)), nI_clamp (by omega), nI_1]
        rw [gI] at hi
        by_cases hb : S / 2 ^ j % 2 = 1
        · rw [if_pos ((has_key S hS j (by omega)).mpr hb)]
          rw [if_pos hb] at hi
          exact hi
        · rw [if_neg (fun q => hb ((has_key S hS j (by omega)).mp q))]
          rw [if_neg hb, Int32.add_zero] at hi
          exact hi
  exact key FU 0 (by omega) (FU_gt (by omega))
/-- so many eggs, and heavy enough -/
abbrev okC (W : Nat → Int32) (ne n : Nat) (w : Int32) (S : Nat) : Prop := popN S = n ∧ ¬ gI W S ne < w
theorem e_isBox {ne n S A : Nat} {w : Int32} {M : xMem} (hne : M 3 0 1 = nI ne) (h6 : ne ≤ 6) (hS : S < 64) (hA : A < 64) (hn : n ≤ 6) : f_X1_isBox (nI S) (nI A) (nI n) w M = some (if S &&& A = S ∧ okC (M (0 + 9) 3) ne n w S then 1 else 0) := by
  have hp := popN_le S
  unfold f_X1_isBox f_X1_isBox_b33 f_X1_isBox_b34
  rw [e_bitCount hS, xb1_e, e_grams hne h6 hS, xb1_e, xchk_t _ xbo_0, xchk_t _ xbo_1]
  by_cases h1 : S &&& A = S
  · rw [if_pos ((mask_key S hS A hA).mpr h1)]
    by_cases h2 : popN S = n
    · rw [if_pos (by rw [h2])]
      by_cases h3 : gI (M (0 + 9) 3) S ne < w
      · rw [if_pos h3, if_neg (fun q => q.2.2 h3)]
      · rw [if_neg h3, if_pos ⟨h1, h2, h3⟩]
    · rw [if_neg (fun q => h2 ((nI_eq (by omega) (by omega)).mp q)), if_neg (fun q => h2 q.2.1)]
  · rw [if_neg (fun q => h1 ((mask_key S hS A hA).mp q)), if_neg (fun q => h1 q.1)]
/-- the eggs in trays -/
def tW (F2 : Nat → Int32) : Nat → Int32 := fun e => if oob (F2 e) 1 5 then 0 else 1
def tN (F2 : Nat → Int32) (ne : Nat) : Nat := pEn (tW F2) 1 ne
theorem pE_or {w1 w2 w3 : Nat → Int32} {a2 : Int32} : ∀ {n : Nat}, (∀ e, e < n → (w3 e = 1 ↔ w1 e = 1 ∨ w2 e = a2)) → pE w1 1 n ||| pE w2 a2 n = pE w3 1 n
  | 0, _ => by show (0 : Int32) ||| 0 = 0; decide
  | n + 1, h => by
    have hi := pE_or (n := n) (fun e he => h e (by omega))
    have hn := h n (by omega)
    rw [pE, pE, pE]
    by_cases h1 : w1 n = 1
    · rw [if_pos h1, if_pos (hn.mpr (Or.inl h1))]
      by_cases h2 : w2 n = a2
      · rw [if_pos h2, Int32.or_assoc, ← Int32.or_assoc _ (pE w2 a2 n), Int32.or_comm _ (pE w2 a2 n), Int32.or_assoc, Int32.or_self, ← Int32.or_assoc, hi]
      · rw [if_neg h2, Int32.or_assoc, Int32.or_comm _ (pE w2 a2 n), ← Int32.or_assoc, hi]
    · rw [if_neg h1]
      by_cases h2 : w2 n = a2
      · rw [if_pos h2, if_pos (hn.mpr (Or.inr h2)), ← Int32.or_assoc, hi]
      · rw [if_neg h2, if_neg (fun q => (hn.mp q).elim h1 h2), hi]
theorem e_trays {ns ne : Nat} {M : xMem} (hns : M 3 0 0 = nI ns) (h5 : ns ≤ 5) (hne : M 3 0 1 = nI ne) (h6 : ne ≤ 6) (hv : vF ns ne (M (0 + 9))) : f_X0_eggsInTrays 0 M = some (nI (tN (M (0 + 9) 2) ne)) := by
  obtain ⟨tj, htj⟩ : ∃ tj : Nat → Nat → Int32, ∀ j e, tj j e = if ∃ s, s < j ∧ M (0 + 9) 2 e = nI (s + 1) then 1 else 0 := ⟨fun j e => @ite _ (∃ s, s < j ∧ M (0 + 9) 2 e = nI (s + 1)) (Classical.propDecidable _) 1 0, fun j e => by
    by_cases h : ∃ s, s < j ∧ M (0 + 9) 2 e = nI (s + 1)
    · simp only [if_pos h]
    · simp only [if_neg h]⟩
  have tj1 : ∀ j e, tj j e = 1 ↔ ∃ s, s < j ∧ M (0 + 9) 2 e = nI (s + 1) := fun j e => by
    rw [htj]
    by_cases h : ∃ s, s < j ∧ M (0 + 9) 2 e = nI (s + 1)
    · rw [if_pos h]; exact ⟨fun _ => h, fun _ => rfl⟩
    · rw [if_neg h]; exact ⟨fun q => absurd q (by decide), fun q => absurd q h⟩
  have h0 : ∀ n, pE (tj 0) 1 n = 0 := by
    intro n
    induction n with
    | zero => rfl
    | succ n ih => rw [pE, if_neg (fun q => by obtain ⟨s, hs, -⟩ := (tj1 0 n).mp q; omega), ih]
  have key : ∀ n j, j ≤ ns → ns - j < n → f_X0_eggsInTrays_l4 0 M n (pE (tj j) 1 ne) (nI j) = some (pE (tj ns) 1 ne) := by
    intro n
    induction n with
    | zero => intro j h1 h2; omega
    | succ n ih =>
      intro j h1 h2
      rw [f_X0_eggsInTrays_l4, hns]
      by_cases hj : j = ns
      · subst hj
        rw [if_pos (i32_le_rfl _)]
      · rw [if_neg (le_nI (by omega) (by omega) (by omega)), nI_1, e_eggsAt hne h6, xb1_e, pE_or (w3 := tj (j + 1)) (fun e he => ?_)]
        · exact ih (j + 1) (by omega) (by omega)
        · rw [tj1, tj1]
          constructor
          · rintro ⟨s, hs, q⟩
            by_cases hsj : s = j
            · subst hsj; exact Or.inr q
            · exact Or.inl ⟨s, by omega, q⟩
          · rintro (⟨s, hs, q⟩ | q)
            · exact ⟨s, by omega, q⟩
            · exact ⟨j, by omega, q⟩
  have hk := key FU 0 (by omega) (FU_gt (by omega))
  rw [h0] at hk
  have hend : pE (tj ns) 1 ne = pE (tW (M (0 + 9) 2)) 1 ne := by
    have gen : ∀ n, n ≤ ne → pE (tj ns) 1 n = pE (tW (M (0 + 9) 2)) 1 n := by
      intro n
      induction n with
      | zero => intro _; rfl
      | succ n ih =>
        intro hn
        rw [pE, pE, ih (by omega)]
        have hiff : tj ns n = 1 ↔ tW (M (0 + 9) 2) n = 1 := by
          rw [tj1]
          obtain ⟨w, hw, hw2⟩ := (hv.1 n (by omega)).1
          unfold tW
          rw [hw2]
          have key2 : ∀ w, w ≤ 9 → (oob (nI w) 1 5 ↔ ¬ (1 ≤ w ∧ w ≤ 5)) := by decide +kernel
          by_cases ho : 1 ≤ w ∧ w ≤ 5
          · rw [if_neg (fun q => (key2 w (by omega)).mp q ho)]
            exact ⟨fun _ => rfl, fun _ => ⟨w - 1, by omega, by rw [show w - 1 + 1 = w by omega]⟩⟩
          · rw [if_pos ((key2 w (by omega)).mpr ho)]
            refine ⟨fun ⟨s, hs, q⟩ => ?_, fun q => absurd q (by decide)⟩
            have := (nI_eq (by omega) (by omega)).mp q
            omega
        by_cases q : tj ns n = 1
        · rw [if_pos q, if_pos (hiff.mp q)]
        · rw [if_neg q, if_neg (fun z => q (hiff.mpr z))]
    exact gen ne (Nat.le_refl _)
  rw [hend, pE_n _ _ _ h6] at hk
  exact hk
/-- the reference's boxed -/
theorem e_boxed {ns ne n S : Nat} {w : Int32} {M : xMem} {F : Nat → Nat → Int32} (hF : rF ns ne F (M 8 7) 0) (hne : M 8 0 4 = nI ne) (h6 : ne ≤ 6) (hS : S < 2 ^ ne) (hn : n ≤ 6) : f_X8_boxed (nI S) (nI n) w M = some (if S &&& tN (F 2) ne = S ∧ okC (F 3) ne n w S then gI (F 3) S ne else -1) := by
  have hp := popN_le S
  have h64 : 2 ^ ne ≤ 64 := Nat.pow_le_pow_right (n := 2) (by decide) h6
  have hS64 : S < 64 := by omega
  obtain ⟨hS1, -⟩ := st_at hF
  have htl : tN (F 2) ne < 64 := by have := pEn_lt (tW (F 2)) 1 ne; unfold tN; omega
  obtain ⟨isAt, hisAt⟩ : ∃ isAt : Nat → Prop, ∀ j, isAt j ↔ (popN S = n ∧ ∀ e, e < j → S / 2 ^ e % 2 = 1 → tW (F 2) e = 1) := ⟨_, fun _ => Iff.rfl⟩
  have key : ∀ m j v, j ≤ ne → ne - j < m → (v = 1 ∧ isAt j ∨ v = 0 ∧ ¬ isAt j) → f_X8_boxed_l21 (nI S) w M m (gI (F 3) S j) v (nI j) = some (if S &&& tN (F 2) ne = S ∧ okC (F 3) ne n w S then gI (F 3) S ne else -1) := by
    intro m
    induction m with
    | zero => intro j v h1 h2; omega
    | succ m ih =>
      intro j v h1 h2 hvj
      rw [f_X8_boxed_l21, hne]
      unfold f_X8_boxed_b118 f_X8_boxed_b119
      by_cases hj : j = ne
      · subst hj
        have hall : isAt j ↔ (popN S = n ∧ S &&& tN (F 2) j = S) := by
          rw [hisAt, sub_key S hS64 _ htl]
          refine ⟨fun q => ⟨q.1, fun e he hb => ?_⟩, fun q => ⟨q.1, fun e he hb => ?_⟩⟩
          · have hej : e < j := by
              rcases Nat.lt_or_ge e j with z | z
              · exact z
              · rw [bit_key0 j h6 S hS e he z] at hb; omega
            exact (pEn_bit h6 he).mpr ⟨hej, q.2 e hej hb⟩
          · exact ((pEn_bit h6 (by omega)).mp (q.2 e (by omega) hb)).2
        rw [if_pos (i32_le_rfl _)]
        rcases hvj with ⟨rfl, hi⟩ | ⟨rfl, hi⟩
        · rw [if_neg (by decide)]
          have hi2 := hall.mp hi
          by_cases h3 : gI (F 3) S j < w
          · rw [if_pos h3, if_neg (fun q => q.2.2 h3)]
          · rw [if_neg h3, if_pos ⟨hi2.2, hi2.1, h3⟩]
        · rw [if_pos rfl, if_neg (fun q => hi (hall.mpr ⟨q.2.1, q.1⟩))]
      · have hlt : j < ne := by omega
        have hnext : isAt (j + 1) ↔ isAt j ∧ (S / 2 ^ j % 2 = 1 → tW (F 2) j = 1) := by
          rw [hisAt, hisAt]
          refine ⟨fun q => ⟨⟨q.1, fun e he => q.2 e (by omega)⟩, q.2 j (by omega)⟩, fun q => ⟨q.1.1, fun e he => ?_⟩⟩
          by_cases hej : e = j
          · subst hej; exact q.2
          · exact q.1.2 e (by omega)
        have hb55 : ∀ t : Int32, (t = if S / 2 ^ j % 2 = 1 then F 3 j else 0) → f_X8_boxed_b55 (nI S) M (gI (F 3) S j) v (nI j) (f_X8_boxed_l21 (nI S) w M m) t = some (if S &&& tN (F 2) ne = S ∧ okC (F 3) ne n w S then gI (F 3) S ne else -1) := by
          intro t ht
          have hg : gI (F 3) S j + t = gI (F 3) S (j + 1) := by rw [gI, ht]
          unfold f_X8_boxed_b55 f_X8_boxed_b93 f_X8_boxed_b89 f_X8_boxed_b94
          rw [e_has hS64 (by omega), xb1_e, i32_z, xchk_t _ (xb_nI (show j < 27 by omega) (by decide)), e_in, xb1_e, nI_clamp (by omega), (hS1 j hlt).1, hg, nI_1]
          rcases hvj with ⟨rfl, hi⟩ | ⟨rfl, hi⟩
          · rw [if_neg (by decide)]
            by_cases hb : S / 2 ^ j % 2 = 1
            · rw [if_pos hb, if_neg (by decide)]
              by_cases ho : oob (F 2 j) 1 5
              · rw [if_pos ho, if_pos rfl]
                refine ih (j + 1) 0 (by omega) (by omega) (Or.inr ⟨rfl, fun q => ?_⟩)
                have := (hnext.mp q).2 hb
                unfold tW at this
                rw [if_pos ho] at this
                exact absurd this (by decide)
              · rw [if_neg ho, if_neg (by decide)]
                exact ih (j + 1) 1 (by omega) (by omega) (Or.inl ⟨rfl, hnext.mpr ⟨hi, fun _ => by unfold tW; rw [if_neg ho]⟩⟩)
            · rw [if_neg hb, if_pos rfl]
              exact ih (j + 1) 1 (by omega) (by omega) (Or.inl ⟨rfl, hnext.mpr ⟨hi, fun q => absurd q hb⟩⟩)
          · rw [if_pos rfl]
            exact ih (j + 1) 0 (by omega) (by omega) (Or.inr ⟨rfl, fun q => hi (hnext.mp q).1⟩)
        rw [if_neg (le_nI (by omega) (by omega) hlt), e_has hS64 (by omega), xb1_e, show (6 : Int32) + nI j = nI (6 + j) from nI_add 6 j, xchk_t _ (xb_nI (show 6 + j < 27 by omega) (by decide)), nI_clamp (by omega), (hS1 j hlt).2]
        by_cases hb : S / 2 ^ j % 2 = 1
        · rw [if_pos hb, if_neg (by decide)]
          exact hb55 _ (by rw [if_pos hb])
        · rw [if_neg hb, if_pos rfl]
          exact hb55 _ (by rw [if_neg hb])
  unfold f_X8_boxed f_X8_boxed_b16
  rw [e_bits hS64, xb1_e]
  by_cases h2 : popN S = n
  · rw [if_pos (by rw [h2])]
    exact key FU 0 1 (by omega) (FU_gt (by omega)) (Or.inl ⟨rfl, (hisAt 0).mpr ⟨h2, fun e he => absurd he (by omega)⟩⟩)
  · rw [if_neg (fun q => h2 ((nI_eq (by omega) (by omega)).mp q))]
    exact key FU 0 0 (by omega) (FU_gt (by omega)) (Or.inr ⟨rfl, fun q => h2 ((hisAt 0).mp q).1⟩)
theorem e_noBox {a0 a1 : Int32} {M : xMem} : f_X7_noBox a0 a1 M = some (if oob a0 1 6 ∨ oob a1 0 600 then 1 else 0) := by
  unfold f_X7_noBox f_X7_noBox_b21 f_X7_noBox_b26
  rw [e_beyond, xb1_e, e_beyond, xb1_e, xchk_t _ xbo_0, xchk_t _ xbo_1]
  by_cases h1 : oob a0 1 6
  · rw [if_pos h1, if_neg (by decide), if_pos (Or.inl h1)]
  · rw [if_neg h1, if_pos rfl]
    by_cases h2 : oob a1 0 600
    · rw [if_pos h2, if_neg (by decide), if_pos (Or.inr h2)]
    · rw [if_neg h2, if_pos rfl, if_neg (fun q => q.elim h1 h2)]
