/-! floors: what the small methods answer, in one form for class and reference -/
theorem le_nI {a b : Nat} (ha : a < 2 ^ 31) (hb : b < 2 ^ 31) (h : a < b) : ¬ nI b ≤ nI a := fun q => by
  have := (nI_leI hb ha).mp q
  omega
theorem i32_le_rfl (a : Int32) : a ≤ a := by rw [i32_le]; omega
theorem FU_gt {n : Nat} (h : n < 1000) : n < FU := by unfold FU; omega
theorem i32_z (a : Int32) : 0 + a = a := Int32.zero_add a
/-- the eggs below n that are at a, as bits -/
def pE (w : Nat → Int32) (a : Int32) : Nat → Int32
  | 0 => 0
  | n + 1 => if w n = a then pE w a n ||| ((1 : Int32) <<< (nI n &&& 31)) else pE w a n
theorem pE_congr {w w' : Nat → Int32} {a : Int32} : ∀ {n : Nat}, (∀ e, e < n → w e = w' e) → pE w a n = pE w' a n
  | 0, _ => rfl
  | n + 1, h => by rw [pE, pE, pE_congr (fun e he => h e (by omega)), h n (by omega)]
theorem e_eggsAt_l {i ne : Nat} {a : Int32} {M : xMem} (hne : M 3 0 1 = nI ne) (h6 : ne ≤ 6) : ∀ n j, j ≤ ne → ne - j < n → f_X0_eggsAt_l4 i a M n (pE (M (i + 9) 2) a j) (nI j) = some (pE (M (i + 9) 2) a ne) := by
  intro n
  induction n with
  | zero => intro j h1 h2; omega
  | succ n ih =>
    intro j h1 h2
    rw [f_X0_eggsAt_l4, hne]
    by_cases hj : j = ne
    · subst hj
      rw [if_pos (i32_le_rfl _)]
    · have hlt : j < ne := by omega
      have hi := ih (j + 1) (by omega) (by omega)
      rw [if_neg (le_nI (by omega) (by omega) hlt), xchk_t _ (xb_nI (by omega) (by decide)), nI_clamp (by omega)]
      by_cases hw : M (i + 9) 2 j = a
      · rw [if_pos hw, f_X0_eggsAt_b31, nI_1]
        rw [pE, if_pos hw] at hi
        exact hi
      · rw [if_neg hw, f_X0_eggsAt_b31, nI_1]
        rw [pE, if_neg hw] at hi
        exact hi
theorem e_eggsAt {i ne : Nat} {a : Int32} {M : xMem} (hne : M 3 0 1 = nI ne) (h6 : ne ≤ 6) : f_X0_eggsAt i a M = some (pE (M (i + 9) 2) a ne) := e_eggsAt_l hne h6 FU 0 (by omega) (FU_gt (by omega))
theorem e_inPlace_l {ns ne : Nat} {a : Int32} {M : xMem} {F : Nat → Nat → Int32} (hF : rF ns ne F (M 8 27) 0) (hne : M 8 0 4 = nI ne) (h6 : ne ≤ 6) : ∀ n j, j ≤ ne → ne - j < n → f_X8_inPlace_l4 a M n (pE (F 2) a j) (nI j) = some (pE (F 2) a ne) := by
  intro n
  induction n with
  | zero => intro j h1 h2; omega
  | succ n ih =>
    intro j h1 h2
    rw [f_X8_inPlace_l4, hne]
    by_cases hj : j = ne
    · subst hj
      rw [if_pos (i32_le_rfl _)]
    · have hlt : j < ne := by omega
      have hi := ih (j + 1) (by omega) (by omega)
      have hw0 : M 8 27 j = F 2 j := by have := (hF.1 j hlt).1; rwa [Nat.zero_add] at this
      rw [if_neg (le_nI (by omega) (by omega) hlt), i32_z, xchk_t _ (xb_nI (by omega) (by decide)), nI_clamp (by omega), hw0]
      by_cases hw : F 2 j = a
      · rw [if_pos hw, f_X8_inPlace_b32, nI_1]
        rw [pE, if_pos hw] at hi
        exact hi
      · rw [if_neg hw, f_X8_inPlace_b32, nI_1, Int32.or_zero]
        rw [pE, if_neg hw] at hi
        exact hi
theorem e_inPlace {ns ne : Nat} {a : Int32} {M : xMem} {F : Nat → Nat → Int32} (hF : rF ns ne F (M 8 27) 0) (hne : M 8 0 4 = nI ne) (h6 : ne ≤ 6) : f_X8_inPlace a M = some (pE (F 2) a ne) := e_inPlace_l hF hne h6 FU 0 (by omega) (FU_gt (by omega))
/-- the bits of pE are those of a number below 2 ^ n -/
def pEn (w : Nat → Int32) (a : Int32) : Nat → Nat
  | 0 => 0
  | n + 1 => pEn w a n + if w n = a then 2 ^ n else 0
theorem pEn_lt (w : Nat → Int32) (a : Int32) : ∀ n, pEn w a n < 2 ^ n
  | 0 => Nat.zero_lt_one
  | n + 1 => by
    have := pEn_lt w a n
    rw [pEn, Nat.pow_succ]
    split <;> omega
theorem pE_n (w : Nat → Int32) (a : Int32) : ∀ n, n ≤ 6 → pE w a n = nI (pEn w a n)
  | 0, _ => rfl
  | n + 1, h => by
    have h1 := pE_n w a n (by omega)
    have h2 := pEn_lt w a n
    rw [pE, pEn, h1]
    by_cases hw : w n = a
    · rw [if_pos hw, if_pos hw]
      have key : ∀ m, m < 6 → ∀ k, k < 2 ^ m → nI k ||| ((1 : Int32) <<< (nI m &&& 31)) = nI (k + 2 ^ m) := by decide +kernel
      exact key n (by omega) _ h2
    · rw [if_neg hw, if_neg hw, Nat.add_zero]
def popN (k : Nat) : Nat := k % 2 + k / 2 % 2 + k / 4 % 2 + k / 8 % 2 + k / 16 % 2 + k / 32 % 2
theorem e_bitCount {k : Nat} {M : xMem} (h : k < 64) : f_J6_bitCount_0f7a4 (nI k) M = some (nI (popN k)) := by
  unfold f_J6_bitCount_0f7a4
  revert k
  decide +kernel
theorem e_bits {k : Nat} {M : xMem} (h : k < 64) : f_X8_bits (nI k) M = some (nI (popN k)) := by
  unfold f_X8_bits
  have h0 : ∀ (a : Int32) (n : Nat), f_X8_bits_l4 a (n + 7) 0 0 = some (0 + (a >>> ((0 : Int32) &&& 31) &&& 1) + (a >>> ((0 + 1 : Int32) &&& 31) &&& 1) + (a >>> ((0 + 1 + 1 : Int32) &&& 31) &&& 1) + (a >>> ((0 + 1 + 1 + 1 : Int32) &&& 31) &&& 1) + (a >>> ((0 + 1 + 1 + 1 + 1 : Int32) &&& 31) &&& 1) + (a >>> ((0 + 1 + 1 + 1 + 1 + 1 : Int32) &&& 31) &&& 1)) := by
    intro a n
    rw [f_X8_bits_l4, if_neg (by decide), f_X8_bits_l4, if_neg (by decide), f_X8_bits_l4, if_neg (by decide), f_X8_bits_l4, if_neg (by decide), f_X8_bits_l4, if_neg (by decide), f_X8_bits_l4, if_neg (by decide), f_X8_bits_l4, if_pos (by decide)]
  rw [show FU = 99993 + 7 from rfl, h0]
  revert k
  decide +kernel
