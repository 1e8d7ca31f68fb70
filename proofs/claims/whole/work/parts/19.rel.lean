/-! THE RELATION between what the class and what the reference hold; then the calls, one by one. Numbers: ns scales, ne eggs. -/
/-- a floor F (rows 2 where, 3 weight, 4 mark, 5 row, 6 fallen) is what S holds from place k on -/
def rF (ns ne : Nat) (F : Nat → Nat → Int32) (S : Nat → Int32) (k : Nat) : Prop :=
  (∀ e, e < ne → S (k + e) = F 2 e ∧ S (k + (6 + e)) = F 3 e) ∧ ∀ s, s < ns → S (k + (12 + s)) = F 4 s ∧ S (k + (17 + s)) = F 5 s ∧ S (k + (22 + s)) = F 6 s
/-- a floor is as it may be: eggs in the nest, a tray, the basket or nowhere; weights, marks, what has fallen in their bounds; the row a row of all scales -/
def vF (ns ne : Nat) (F : Nat → Nat → Int32) : Prop :=
  (∀ e, e < ne → (∃ w, (w ≤ ns ∨ w = 8 ∨ w = 9) ∧ F 2 e = nI w) ∧ ∃ w, 1 ≤ w ∧ w ≤ 99 ∧ F 3 e = nI w) ∧
  (∀ s, s < ns → (∃ w, 1 ≤ w ∧ w ≤ 99 ∧ F 4 s = nI w) ∧ (∃ w, w < ns ∧ F 5 s = nI w) ∧ ∃ w, w ≤ 999 ∧ F 6 s = nI w) ∧
  ∀ s t, s < ns → t < ns → F 5 s = F 5 t → s = t
/-- what was told -/
def rT (M : xMem) (ns ne : Nat) : Prop :=
  ns ≤ 5 ∧ ne ≤ 6 ∧ M 3 0 0 = nI ns ∧ M 3 0 1 = nI ne ∧ M 8 0 0 = nI ns ∧ M 8 0 4 = nI ne ∧
  (∀ s, s < ns → (∃ w, 1 ≤ w ∧ w ≤ 99 ∧ M 3 3 s = nI w) ∧ (∃ w, w ≤ 9 ∧ M 3 4 s = nI w) ∧ (∃ w, 1 ≤ w ∧ w ≤ 9 ∧ M 3 5 s = nI w) ∧ M 8 2 s = M 3 3 s ∧ M 8 3 s = M 3 4 s ∧ M 8 4 s = M 3 5 s) ∧
  ∀ e, e < ne → (∃ w, w ≤ 5 ∧ M 3 7 e = nI w) ∧ M 8 6 e = M 3 7 e
/-- where in the ring of ten the j-th of kn known floors lies, the latest at lt -/
def ringAt (lt kn j : Nat) : Nat := (lt + 11 + j - kn) % 10
def rP (M : xMem) (ns ne : Nat) : Prop :=
  ∃ kn lt, kn ≤ 10 ∧ lt < 10 ∧ M 4 0 1 = nI lt ∧ M 4 0 2 = nI kn ∧ M 8 0 8 = nI kn ∧ ∀ j, j < kn → rF ns ne (M (ringAt lt kn j + 4 + 9)) (M 8 8) (27 * j) ∧ vF ns ne (M (ringAt lt kn j + 4 + 9))
def rI (M : xMem) (ns ne : Nat) : Prop :=
  ∀ i, i < 2 → M 8 11 i = M 0 7 i ∧ (M 0 7 i = 0 ∨ M 0 7 i = 1 ∧ rF ns ne (M (i + 2 + 9)) (M 8 10) (27 * i) ∧ vF ns ne (M (i + 2 + 9)))
def rX (M : xMem) (ns : Nat) : Prop :=
  ∃ nt, nt ≤ 6 ∧ M 7 0 3 = nI nt ∧ M 8 0 11 = nI nt ∧ ∀ k, k < nt → (∃ w, 1 ≤ w ∧ w ≤ 99 ∧ M 7 2 k = nI w) ∧ M 8 13 (2 * k) = M 7 2 k ∧ M 8 13 (2 * k + 1) = M 7 3 k ∧ (M 7 3 k = -9 ∨ ∃ w, w < ns ∧ M 7 3 k = nI w)
def rL (M : xMem) : Prop :=
  ∃ tl, tl ≤ 120 ∧ M 1 0 1 = nI tl ∧ M 8 0 15 = nI tl ∧ ∀ k, k < tl → M 8 15 k = M 1 1 k ∧ ∃ w, w ≤ 255 ∧ M 1 1 k = nI w
def Rel (M : xMem) (L : xLL) : Prop :=
  ∃ ns ne, rT M ns ne ∧ (rF ns ne (M (0 + 9)) (M 8 7) 0 ∧ vF ns ne (M (0 + 9))) ∧ rP M ns ne ∧ rI M ns ne ∧ rX M ns ∧ rL M ∧ L 0 = L 8
theorem Rel_0 : Rel xM0 xL0 := by
  refine ⟨0, 0, ⟨by omega, by omega, rfl, rfl, rfl, rfl, fun s h => absurd h (by omega), fun s h => absurd h (by omega)⟩, ⟨⟨fun s h => absurd h (by omega), fun s h => absurd h (by omega)⟩, fun s h => absurd h (by omega), fun s h => absurd h (by omega), fun s t h => absurd h (by omega)⟩, ⟨0, 0, by omega, by omega, rfl, rfl, rfl, fun j h => absurd h (by omega)⟩, fun i _ => ⟨rfl, Or.inl rfl⟩, ⟨0, by omega, rfl, rfl, fun j h => absurd h (by omega)⟩, ⟨0, by omega, rfl, rfl, fun j h => absurd h (by omega)⟩, rfl⟩
/-! small words -/
theorem xb_nI {j n : Nat} (h : j < n) (hn : n < 2 ^ 31) : xb (nI j) n = true := by
  have h1 := vp_in_nI h hn
  unfold vp_in at h1
  unfold xb
  simpa using h1
theorem xchk_t {α : Type} {b : Bool} (k : Option α) (h : b = true) : xchk b k = k := by unfold xchk; rw [if_pos h]
theorem xb1_e {α β : Type} (a : α) (k : α → Option β) : xb1 (some a) k = k a := rfl
theorem xb2_e {α β γ : Type} (a : α) (b : β) (k : α → β → Option γ) : xb2 (some (a, b)) k = k a b := rfl
theorem xb3_e {α β γ δ : Type} (a : α) (b : β) (c : γ) (k : α → β → γ → Option δ) : xb3 (some (a, b, c)) k = k a b c := rfl
theorem xlet_e {α β : Type} (a : α) (k : α → β) : xlet a k = k a := rfl
theorem xbo_0 : xbo 0 = true := by decide +kernel
theorem xbo_1 : xbo 1 = true := by decide +kernel
theorem xbf_0 : xbf 0 = true := by decide +kernel
theorem xbf_1 : xbf 1 = true := by decide +kernel
theorem i32_lt {a b : Int32} : a < b ↔ a.toInt < b.toInt := Int32.lt_iff_toInt_lt
theorem i32_le {a b : Int32} : a ≤ b ↔ a.toInt ≤ b.toInt := Int32.le_iff_toInt_le
/-- is a number out of its bounds -/
abbrev oob (a b c : Int32) : Prop := a < b ∨ c < a
theorem e_beyond (a b c : Int32) (M : xMem) : f_X7_beyond a b c M = some (if oob a b c then 1 else 0) := by
  unfold f_X7_beyond
  by_cases h1 : a < b
  · simp [h1, f_X7_beyond_b10, f_X7_beyond_b15, xchk, xbo_1]
  · by_cases h2 : a ≤ c
    · have h3 : ¬ c < a := by rw [i32_lt]; rw [i32_le] at h2; omega
      simp [h1, h2, h3, f_X7_beyond_b10, f_X7_beyond_b15, xchk, xbo_0]
    · have h3 : c < a := by rw [i32_lt]; rw [i32_le] at h2; omega
      simp [h1, h2, h3, f_X7_beyond_b10, f_X7_beyond_b15, xchk, xbo_1]
theorem e_in (a b c : Int32) (M : xMem) : f_X8_in a b c M = some (if oob a b c then 0 else 1) := by
  unfold f_X8_in
  by_cases h1 : a < b <;> by_cases h2 : c < a <;> simp [h1, h2, f_X8_in_b14, f_X8_in_b15, xchk, xbo_0, xbo_1]
theorem e_noScale {a : Int32} {M : xMem} {ns : Nat} (h : M 3 0 0 = nI ns) : f_X7_noScale a M = some (if oob a 0 (nI ns - 1) then 1 else 0) := by
  unfold f_X7_noScale
  rw [e_beyond, xb1_e, h]
  by_cases hq : oob a 0 (nI ns - 1) <;> simp [hq, xchk, xbo_0, xbo_1]
theorem e_noEgg {a : Int32} {M : xMem} {ne : Nat} (h : M 3 0 1 = nI ne) : f_X7_noEgg a M = some (if oob a 0 (nI ne - 1) then 1 else 0) := by
  unfold f_X7_noEgg
  rw [e_beyond, xb1_e, h]
  by_cases hq : oob a 0 (nI ne - 1) <;> simp [hq, xchk, xbo_0, xbo_1]
theorem e_isScale {a : Int32} {M : xMem} {ns : Nat} (h : M 8 0 0 = nI ns) : f_X8_isScale a M = some (if oob a 0 (nI ns - 1) then 0 else 1) := by
  unfold f_X8_isScale
  rw [e_in, xb1_e, h]
  by_cases hq : oob a 0 (nI ns - 1) <;> simp [hq, xchk, xbo_0, xbo_1]
theorem e_isEgg {a : Int32} {M : xMem} {ne : Nat} (h : M 8 0 4 = nI ne) : f_X8_isEgg a M = some (if oob a 0 (nI ne - 1) then 0 else 1) := by
  unfold f_X8_isEgg
  rw [e_in, xb1_e, h]
  by_cases hq : oob a 0 (nI ne - 1) <;> simp [hq, xchk, xbo_0, xbo_1]
theorem nI_m1 {n : Nat} (h : n < 2 ^ 30) : (nI n - 1).toInt = (n : Int) - 1 := by
  have := pk_sub_toInt (a := n) (b := 1) h (by decide)
  exact this
theorem in_nI {a : Int32} {n : Nat} (hn : n < 2 ^ 30) (h : ¬ oob a 0 (nI n - 1)) : ∃ j, j < n ∧ a = nI j := by
  have h1 : ¬ a < 0 := fun q => h (Or.inl q)
  have h2 : ¬ nI n - 1 < a := fun q => h (Or.inr q)
  obtain ⟨j, hj, rfl⟩ := nI_of h1
  refine ⟨j, ?_, rfl⟩
  rw [i32_lt, nI_m1 hn, nI_toInt hj] at h2
  omega
theorem in_c {a : Int32} {n : Nat} (c : Int32) (hn : n < 2 ^ 30) (hc : c.toInt = n) (h : ¬ oob a 0 c) : ∃ j, j ≤ n ∧ a = nI j := by
  have h1 : ¬ a < 0 := fun q => h (Or.inl q)
  have h2 : ¬ c < a := fun q => h (Or.inr q)
  obtain ⟨j, hj, rfl⟩ := nI_of h1
  refine ⟨j, ?_, rfl⟩
  rw [i32_lt, hc, nI_toInt hj] at h2
  omega
theorem in_1 {a : Int32} {n : Nat} (c : Int32) (hn : n < 2 ^ 30) (hc : c.toInt = n) (h : ¬ oob a 1 c) : ∃ j, 1 ≤ j ∧ j ≤ n ∧ a = nI j := by
  have h1 : ¬ a < 1 := fun q => h (Or.inl q)
  have h2 : ¬ c < a := fun q => h (Or.inr q)
  have h0 : ¬ a < 0 := by
    rw [i32_lt] at h1 ⊢
    have : (1 : Int32).toInt = 1 := by decide
    have : (0 : Int32).toInt = 0 := by decide
    omega
  obtain ⟨j, hj, rfl⟩ := nI_of h0
  rw [i32_lt, hc, nI_toInt hj] at h2
  rw [i32_lt, nI_toInt hj, show (1 : Int32).toInt = 1 by decide] at h1
  exact ⟨j, by omega, by omega, rfl⟩
