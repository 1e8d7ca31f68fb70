theorem nI_sb {a b : Nat} (h : b ≤ a) : nI a - nI b = nI (a - b) := by
  have e : nI a = nI (a - b) + nI b := by rw [nI_add, Nat.sub_add_cancel h]
  rw [e, Int32.add_sub_cancel]
/-! the class's side -/
theorem e_power {b t : Nat} {M : xMem} (ht : t < 900) : f_X7_power (nI b) (nI t) M = some (nI (b ^ t)) := by
  have key : ∀ n j, j ≤ t → t - j < n → f_X7_power_l4 (nI b) (nI t) n (nI (b ^ j)) (nI j) = some (nI (b ^ t)) := by
    intro n
    induction n with
    | zero => intro j h1 h2; omega
    | succ n ih =>
      intro j h1 h2
      rw [f_X7_power_l4]
      by_cases hj : j = t
      · subst hj
        rw [if_pos (i32_le_rfl _)]
      · rw [if_neg (le_nI (by omega) (by omega) (by omega)), pk_mul, nI_1, ← Nat.pow_succ]
        exact ih (j + 1) (by omega) (by omega)
  exact key FU 0 (by omega) (FU_gt (by omega))
def chN (W : Nat) : Nat → Nat
  | 0 => 1
  | j + 1 => chN W j * (W - j) / (j + 1)
def wyN (x W : Nat) : Nat → Nat
  | 0 => 0
  | j + 1 => wyN x W j + chN W j * x ^ j * (10 - x) ^ (W - j)
theorem chN_b : ∀ W, W ≤ 6 → ∀ j, j ≤ 6 → chN W j * (W - j) < 1000 := by decide +kernel
theorem e_ways {x k W : Nat} {M : xMem} (hx : x ≤ 10) (hk : k ≤ 6) (hW : W ≤ 6) : f_X7_waysToCrack (nI x) (nI k) (nI W) M = some (nI (wyN x W (min W k + 1))) := by
  have key : ∀ n j, j ≤ min W k + 1 → min W k + 1 - j < n → f_X7_waysToCrack_l8 (nI x) (nI k) (nI W) M n (nI (wyN x W j)) (nI (chN W j)) (nI j) = some (nI (wyN x W (min W k + 1))) := by
    intro n
    induction n with
    | zero => intro j h1 h2; omega
    | succ n ih =>
      intro j h1 h2
      rw [f_X7_waysToCrack_l8]
      unfold f_X7_waysToCrack_b64
      by_cases hW1 : W < j
      · rw [if_pos (nI_lt hW1 (by omega)), show j = min W k + 1 by omega]
      · rw [if_neg (fun q => hW1 ((nI_ltI (by omega) (by omega)).mp q))]
        by_cases hk1 : k < j
        · rw [if_pos (nI_lt hk1 (by omega)), show j = min W k + 1 by omega]
        · have hb := chN_b W hW j (by omega)
          rw [if_neg (fun q => hk1 ((nI_ltI (by omega) (by omega)).mp q)), e_power (by omega), xb1_e, show (10 : Int32) = nI 10 from rfl, nI_sb hx, nI_sb (show j ≤ W by omega), e_power (by omega), xb1_e, nI_1, xchk_t _ (by have := nI_ne0 (n := j + 1) (by omega) (by omega); simp [xnz, this]), pk_mul, pk_mul, nI_add, pk_mul, pk_div (by omega) (by omega) (by omega)]
          exact ih (j + 1) (by omega) (by omega)
  exact key FU 0 (by omega) (FU_gt (by omega))
def gcN : Nat → Nat → Nat → Nat
  | 0, a, _ => a
  | n + 1, a, b => if b = 0 then a else gcN n b (a % b)
theorem e_gc {a b : Nat} {M : xMem} (ha : a < 2 ^ 31) (hb : b < 2 ^ 31) : f_X7_greatestCommon (nI a) (nI b) M = some (nI (gcN 64 a b)) := by
  have key : ∀ n i a b, i ≤ 64 → 64 - i < n → a < 2 ^ 31 → b < 2 ^ 31 → f_X7_greatestCommon_l7 n (nI a) (nI b) (nI i) = some (nI (gcN (64 - i) a b)) := by
    intro n
    induction n with
    | zero => intro i a b h1 h2; omega
    | succ n ih =>
      intro i a b h1 h2 ha hb
      rw [f_X7_greatestCommon_l7]
      unfold f_X7_greatestCommon_b34
      by_cases hi : i = 64
      · subst hi
        rw [if_pos (by decide)]
        rfl
      · have h64 : ¬ (64 : Int32) ≤ nI i := le_nI (a := i) (b := 64) (by omega) (by decide) (by omega)
        rw [if_neg h64, show 64 - i = 64 - (i + 1) + 1 by omega, gcN]
        by_cases h0 : b = 0
        · subst h0
          rw [if_pos (show nI 0 = 0 from rfl), if_pos rfl]
        · have hn := nI_ne0 (n := b) (by omega) hb
          rw [if_neg hn, if_neg h0, xchk_t _ (by simp [xnz, hn]), pk_rem ha (by omega) hb, nI_1]
          exact ih (i + 1) _ _ (by omega) (by omega) hb (Nat.lt_trans (Nat.mod_lt _ (by omega)) hb)
  exact key FU 0 a b (by omega) (FU_gt (by omega)) ha hb
/-- the whole eggs in the nest -/
def pW (W K : Nat → Int32) : Nat → Nat
  | 0 => 0
  | n + 1 => pW W K n + if W n = 0 ∧ K n ≠ 3 then 1 else 0
theorem pW_le (W K : Nat → Int32) : ∀ n, pW W K n ≤ n
  | 0 => Nat.le_refl _
  | n + 1 => by
    have := pW_le W K n
    rw [pW]
    split <;> omega
theorem e_whole {i ne : Nat} {M : xMem} (hne : M 3 0 1 = nI ne) (h6 : ne ≤ 6) : f_X0_wholeInNest i M = some (nI (pW (M (i + 9) 2) (M 3 7) ne)) := by
  have key : ∀ n j, j ≤ ne → ne - j < n → f_X0_wholeInNest_l4 i M n (nI (pW (M (i + 9) 2) (M 3 7) j)) (nI j) = some (nI (pW (M (i + 9) 2) (M 3 7) ne)) := by
    intro n
    induction n with
    | zero => intro j h1 h2; omega
    | succ n ih =>
      intro j h1 h2
      rw [f_X0_wholeInNest_l4, hne]
      by_cases hj : j = ne
      · subst hj
        rw [if_pos (i32_le_rfl _)]
      · have hi := ih (j + 1) (by omega) (by omega)
        have b6 := xb_nI (show j < 6 by omega) (by decide)
        unfold f_X0_wholeInNest_b40
        rw [if_neg (le_nI (by omega) (by omega) (by omega)), xchk_t _ b6, nI_clamp (by omega), xchk_t _ b6, nI_1, nI_1]
        rw [pW] at hi
        by_cases h0 : M (i + 9) 2 j = 0
        · rw [if_pos h0]
          by_cases h3 : M 3 7 j = 3
          · rw [if_pos h3]
            rw [if_neg (fun q => q.2 h3)] at hi
            exact hi
          · rw [if_neg h3]
            rw [if_pos ⟨h0, h3⟩] at hi
            exact hi
        · rw [if_neg h0]
          rw [if_neg (fun q => h0 q.1)] at hi
          exact hi
  exact key FU 0 (by omega) (FU_gt (by omega))
/-! the reference's side -/
def lwN : Nat → Nat → Nat → Option Nat
  | 0, _, _ => none
  | n + 1, y, z => if z = 0 then some y else lwN n z (y % z)
theorem e_lowest_l {a0 a1 a2 : Int32} : ∀ n m y z r, y < 2 ^ 31 → z < 2 ^ 31 → lwN n y z = some r → f_X8_lowest_l5 a0 a1 a2 (n + m) (nI y) (nI z) = if a2 = 0 then f_X8_lowest_b35 (nI r) a0 else f_X8_lowest_b35 (nI r) a1 := by
  intro n
  induction n with
  | zero => intro m y z r _ _ h; exact absurd h (by simp [lwN])
  | succ n ih =>
    intro m y z r hy hz h
    rw [show n + 1 + m = (n + m) + 1 by omega, f_X8_lowest_l5]
    rw [lwN] at h
    by_cases h0 : z = 0
    · subst h0
      rw [if_pos rfl] at h
      obtain rfl : y = r := Option.some.inj h
      rw [if_pos (by decide)]
    · have hn := nI_ne0 (n := z) (by omega) hz
      rw [if_neg h0] at h
      rw [if_neg (nI_nle (by omega) hz), xchk_t _ (by simp [xnz, hn]), pk_rem hy (by omega) hz]
      exact ih m z (y % z) r hz (Nat.lt_trans (Nat.mod_lt _ (by omega)) hz) h
def itsN (x S : Nat) : Nat → Nat
  | 0 => 1
  | e + 1 => itsN x S e * if S / 2 ^ e % 2 = 1 then x else 10 - x
def abN (x k W : Nat) : Nat → Nat
  | 0 => 0
  | S + 1 => abN x k W S + if k < popN S then 0 else itsN x S W
theorem e_has {S e : Nat} {M : xMem} (hS : S < 64) (he : e < 6) : f_X8_has (nI S) (nI e) M = some (if S / 2 ^ e % 2 = 1 then 1 else 0) := by
  have key : ∀ S, S < 64 → ∀ e, e < 6 → (((nI S >>> (nI e &&& 31)) &&& (1 : Int32)) = 1 ↔ S / 2 ^ e % 2 = 1) := by decide +kernel
  unfold f_X8_has f_X8_has_b14
  by_cases h : S / 2 ^ e % 2 = 1
  · rw [if_pos ((key S hS e he).mpr h), if_pos h, xchk_t _ xbo_1]
  · rw [if_neg (fun q => h ((key S hS e he).mp q)), if_neg h, xchk_t _ xbo_0]
theorem popN_le (k : Nat) : popN k ≤ 6 := by unfold popN; omega
theorem e_sets {x k W : Nat} {M : xMem} {S v : Nat} {k122 : Int32 → Int32 → Option Int32} (hx : x ≤ 10) (hk : k ≤ 6) (hW : W ≤ 6) (hS : S < 64) : f_X8_cracks_l137 (nI x) (nI k) M (nI W) (nI v) (nI S) k122 FU 1 0 = k122 (nI (v + if k < popN S then 0 else itsN x S W)) (nI (S + 1)) := by
  have key : ∀ n e, e ≤ W → W - e < n → f_X8_cracks_l137 (nI x) (nI k) M (nI W) (nI v) (nI S) k122 n (nI (itsN x S e)) (nI e) = k122 (nI (v + if k < popN S then 0 else itsN x S W)) (nI (S + 1)) := by
    intro n
    induction n with
    | zero => intro j h1 h2; omega
    | succ n ih =>
      intro e h1 h2
      rw [f_X8_cracks_l137]
      unfold f_X8_cracks_b190 f_X8_cracks_b164
      by_cases he : e = W
      · subst he
        have hp := popN_le S
        rw [if_pos (i32_le_rfl _), e_bits hS, xb1_e, nI_1]
        by_cases hq : k < popN S
        · rw [if_pos (nI_lt hq (by omega)), if_pos hq, Int32.add_zero]
          rfl
        · rw [if_neg (fun q => hq ((nI_ltI (by omega) (by omega)).mp q)), if_neg hq, nI_add]
      · have hi := ih (e + 1) (by omega) (by omega)
        rw [itsN, ← pk_mul] at hi
        rw [if_neg (le_nI (by omega) (by omega) (by omega)), e_has hS (by omega), xb1_e, nI_1, show (10 : Int32) = nI 10 from rfl, nI_sb hx]
        by_cases hq : S / 2 ^ e % 2 = 1
        · rw [if_pos hq, if_neg (by decide)]
          rw [if_pos hq] at hi
          exact hi
        · rw [if_neg hq, if_pos rfl]
          rw [if_neg hq] at hi
          exact hi
  exact key FU 0 (by omega) (FU_gt (by omega))
theorem e_above {x k W : Nat} {M : xMem} {a3 lo : Int32} (hx : x ≤ 10) (hk : k ≤ 6) (hW : W ≤ 6) : f_X8_cracks_l122 (nI x) (nI k) a3 M (nI W) lo FU 0 0 = f_X8_lowest (nI (abN x k W (2 ^ W))) lo a3 M := by
  have hp : 2 ^ W ≤ 64 := Nat.pow_le_pow_right (n := 2) (by decide) hW
  have hsh : (1 : Int32) <<< (nI W &&& 31) = nI (2 ^ W) := by
    have key : ∀ W, W ≤ 6 → (1 : Int32) <<< (nI W &&& 31) = nI (2 ^ W) := by decide +kernel
    exact key W hW
  have key : ∀ n S, S ≤ 2 ^ W → 2 ^ W - S < n → f_X8_cracks_l122 (nI x) (nI k) a3 M (nI W) lo n (nI (abN x k W S)) (nI S) = f_X8_lowest (nI (abN x k W (2 ^ W))) lo a3 M := by
    intro n
    induction n with
    | zero => intro j h1 h2; omega
    | succ n ih =>
      intro S h1 h2
      rw [f_X8_cracks_l122, hsh]
      by_cases hS : S = 2 ^ W
      · rw [if_pos (by rw [hS]; exact i32_le_rfl _), hS]
        cases f_X8_lowest (nI (abN x k W (2 ^ W))) lo a3 M <;> rfl
      · rw [if_neg (le_nI (by omega) (by omega) (by omega)), e_sets hx hk hW (by omega)]
        exact ih (S + 1) (by omega) (by omega)
  exact key FU 0 (Nat.zero_le _) (FU_gt (by omega))
theorem e_many {ns ne x k : Nat} {M : xMem} {a1 a2 a3 : Int32} {F : Nat → Nat → Int32} {K : Nat → Int32} (hF : rF ns ne F (M 8 7) 0) (hne : M 8 0 4 = nI ne) (h6 : ne ≤ 6) (hK : ∀ e, e < ne → M 8 6 e = K e) : f_X8_cracks_l40 a1 a2 a3 M FU 0 1 0 = f_X8_cracks_l122 a1 a2 a3 M (nI (pW (F 2) K ne)) (nI (10 ^ pW (F 2) K ne)) FU 0 0 := by
  obtain ⟨hS1, -⟩ := st_at hF
  have key : ∀ n j, j ≤ ne → ne - j < n → f_X8_cracks_l40 a1 a2 a3 M n (nI (pW (F 2) K j)) (nI (10 ^ pW (F 2) K j)) (nI j) = f_X8_cracks_l122 a1 a2 a3 M (nI (pW (F 2) K ne)) (nI (10 ^ pW (F 2) K ne)) FU 0 0 := by
    intro n
    induction n with
    | zero => intro j h1 h2; omega
    | succ n ih =>
      intro j h1 h2
      rw [f_X8_cracks_l40, hne]
      by_cases hj : j = ne
      · subst hj
        rw [if_pos (i32_le_rfl _)]
      · have hi := ih (j + 1) (by omega) (by omega)
        unfold f_X8_cracks_b76 f_X8_cracks_b77 f_X8_cracks_b91 f_X8_cracks_b107
        rw [if_neg (le_nI (by omega) (by omega) (by omega)), i32_z, xchk_t _ (xb_nI (show j < 27 by omega) (by decide)), nI_clamp (by omega), xchk_t _ (xb_nI (show j < 6 by omega) (by decide)), (hS1 j (by omega)).1, hK j (by omega)]
        rw [pW] at hi
        by_cases h0 : F 2 j = 0
        · rw [if_pos h0]
          by_cases h3 : K j = 3
          · rw [if_pos h3, if_pos rfl, if_pos rfl, Int32.add_zero, Int32.mul_one, nI_1]
            rw [if_neg (fun q => q.2 h3)] at hi
            exact hi
          · rw [if_neg h3, if_neg (by decide), if_neg (by decide), nI_1, nI_1, show (10 : Int32) = nI 10 from rfl, pk_mul, ← Nat.pow_succ]
            rw [if_pos ⟨h0, h3⟩] at hi
            exact hi
        · rw [if_neg h0, if_pos rfl, if_pos rfl, Int32.add_zero, Int32.mul_one, nI_1]
          rw [if_neg (fun q => h0 q.1)] at hi
          exact hi
  exact key FU 0 (by omega) (FU_gt (by omega))
theorem crack_key : ∀ x, x ≤ 10 → ∀ k, k ≤ 6 → ∀ W, W ≤ 6 → wyN x W (min W k + 1) = abN x k W (2 ^ W) ∧ abN x k W (2 ^ W) ≤ 1000000 ∧ gcN 64 (10 ^ W) (abN x k W (2 ^ W)) ≠ 0 ∧ gcN 64 (10 ^ W) (abN x k W (2 ^ W)) ≤ 1000000 ∧ lwN 64 (abN x k W (2 ^ W)) (10 ^ W) = some (gcN 64 (10 ^ W) (abN x k W (2 ^ W))) := by decide +kernel
theorem s_cracks : S_cracks Rel := by
  intro a1 a2 a3 M L h
  obtain ⟨ns, ne, hT, hF, hP, hI, hX, hl, hL⟩ := id h
  obtain ⟨h5, h6, t3, t4, t5, t6, tS, tE⟩ := id hT
  by_cases hq : oob a1 0 10
  · refine ⟨-1, ?_, ?_, h⟩
    · unfold f_X7_cracks; rw [e_beyond, xb1_e, if_pos hq]; rfl
    · unfold f_X8_cracks; rw [e_in, xb1_e, if_pos hq]; rfl
  by_cases hq2 : oob a2 0 6
  · refine ⟨-1, ?_, ?_, h⟩
    · unfold f_X7_cracks; rw [e_beyond, xb1_e, if_neg hq, if_pos rfl, e_beyond, xb1_e, if_pos hq2]; rfl
    · unfold f_X8_cracks; rw [e_in, xb1_e, if_neg hq, if_neg (by decide), e_in, xb1_e, if_pos hq2]; rfl
  by_cases hq3 : oob a3 0 1
  · refine ⟨-1, ?_, ?_, h⟩
    · unfold f_X7_cracks; rw [e_beyond, xb1_e, if_neg hq, if_pos rfl, e_beyond, xb1_e, if_neg hq2, if_pos rfl, e_beyond, xb1_e, if_pos hq3]; rfl
    · unfold f_X8_cracks; rw [e_in, xb1_e, if_neg hq, if_neg (by decide), e_in, xb1_e, if_neg hq2, if_neg (by decide), e_in, xb1_e, if_pos hq3]; rfl
  obtain ⟨x, hx, rfl⟩ := in_c (n := 10) 10 (by decide) (by decide) hq
  obtain ⟨k, hk, rfl⟩ := in_c (n := 6) 6 (by decide) (by decide) hq2
  obtain ⟨W, hWd⟩ : ∃ W, W = pW (M (0 + 9) 2) (M 3 7) ne := ⟨_, rfl⟩
  have hW : W ≤ 6 := by have := pW_le (M (0 + 9) 2) (M 3 7) ne; omega
  obtain ⟨k1, k2, k3, k4, k5⟩ := crack_key x hx k hk W hW
  have hp : 10 ^ W ≤ 1000000 := Nat.pow_le_pow_right (n := 10) (by decide) hW
  have hgn := nI_ne0 (n := gcN 64 (10 ^ W) (abN x k W (2 ^ W))) (by omega) (by omega)
  have hnz : xnz (nI (gcN 64 (10 ^ W) (abN x k W (2 ^ W)))) = true := by simp [xnz, hgn]
  refine ⟨if a3 = 0 then nI (abN x k W (2 ^ W)) / nI (gcN 64 (10 ^ W) (abN x k W (2 ^ W))) else nI (10 ^ W) / nI (gcN 64 (10 ^ W) (abN x k W (2 ^ W))), ?_, ?_, h⟩
  · unfold f_X7_cracks
    rw [e_beyond, xb1_e, if_neg hq, if_pos rfl, e_beyond, xb1_e, if_neg hq2, if_pos rfl, e_beyond, xb1_e, if_neg hq3, if_pos rfl, e_whole t4 h6, xb1_e, ← hWd, show (10 : Int32) = nI 10 from rfl, e_power (by omega), xb1_e, e_ways hx hk hW, xb1_e, k1, e_gc (by omega) (by omega), xb1_e, if_neg hgn]
    unfold f_X7_cracks_b85
    rw [xchk_t _ hnz, xchk_t _ hnz]
    by_cases h0 : a3 = 0
    · rw [if_pos h0, if_pos h0]
    · rw [if_neg h0, if_neg h0]
  · unfold f_X8_cracks
    rw [e_in, xb1_e, if_neg hq, if_neg (by decide), e_in, xb1_e, if_neg hq2, if_neg (by decide), e_in, xb1_e, if_neg hq3, if_neg (by decide), e_many (x := x) (k := k) hF.1 t6 h6 (fun e he => (tE e he).2), ← hWd, e_above hx hk hW]
    unfold f_X8_lowest
    rw [show FU = 64 + 99936 from rfl, e_lowest_l 64 99936 _ _ _ (by omega) (by omega) k5]
    unfold f_X8_lowest_b35
    rw [xchk_t _ hnz, xchk_t _ hnz]
    by_cases h0 : a3 = 0
    · rw [if_pos h0, if_pos h0]
    · rw [if_neg h0, if_neg h0]
