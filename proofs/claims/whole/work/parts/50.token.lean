/-! reading: letters, tokens -/
def cTx (M : xMem) (T : Nat → Nat) (tl : Nat) : Prop := M 1 0 1 = nI tl ∧ ∀ k, k < tl → M 1 1 k = nI (T k)
def rTx (N : xMem) (T : Nat → Nat) (tl : Nat) : Prop := N 8 0 15 = nI tl ∧ ∀ k, k < tl → N 8 15 k = nI (T k)
/-- the text is one that can be -/
def gTx (T : Nat → Nat) (tl : Nat) : Prop := tl ≤ 120 ∧ ∀ k, k < tl → T k ≤ 255
def cFr (M M' : xMem) : Prop := (∀ o, o ≠ 1 → M' o = M o) ∧ (∀ r, r ≠ 0 → M' 1 r = M 1 r) ∧ M' 1 0 1 = M 1 0 1
def rFr (N N' : xMem) : Prop := (∀ o, o ≠ 8 → N' o = N o) ∧ (∀ r, r ≠ 0 → N' 8 r = N 8 r) ∧ ∀ k, k < 16 ∨ 20 ≤ k → N' 8 0 k = N 8 0 k
theorem cFr.rf (M : xMem) : cFr M M := ⟨fun _ _ => rfl, fun _ _ => rfl, rfl⟩
theorem cFr.tr {A B C : xMem} (h1 : cFr A B) (h2 : cFr B C) : cFr A C := ⟨fun o ho => (h2.1 o ho).trans (h1.1 o ho), fun r hr => (h2.2.1 r hr).trans (h1.2.1 r hr), h2.2.2.trans h1.2.2⟩
theorem cFr.f (M : xMem) {k : Nat} (v : Int32) (hk : k ≠ 1) : cFr M (xsf M 1 k v) := ⟨fun o ho => xsf_o ho, fun r hr => xsf_r hr, xsf_k (fun q => hk q.symm)⟩
theorem cFr.tx {M M' : xMem} {T : Nat → Nat} {tl : Nat} (h : cFr M M') (ht : cTx M T tl) : cTx M' T tl := ⟨h.2.2.trans ht.1, fun k hk => by rw [h.2.1 1 (by decide)]; exact ht.2 k hk⟩
theorem rFr.rf (M : xMem) : rFr M M := ⟨fun _ _ => rfl, fun _ _ => rfl, fun _ _ => rfl⟩
theorem rFr.tr {A B C : xMem} (h1 : rFr A B) (h2 : rFr B C) : rFr A C := ⟨fun o ho => (h2.1 o ho).trans (h1.1 o ho), fun r hr => (h2.2.1 r hr).trans (h1.2.1 r hr), fun k hk => (h2.2.2 k hk).trans (h1.2.2 k hk)⟩
theorem rFr.f (N : xMem) {k : Nat} (v : Int32) (h1 : 16 ≤ k) (h2 : k < 20) : rFr N (xsf N 8 k v) := ⟨fun o ho => xsf_o ho, fun r hr => xsf_r hr, fun j hj => xsf_k (by omega)⟩
theorem rFr.tx {N N' : xMem} {T : Nat → Nat} {tl : Nat} (h : rFr N N') (ht : rTx N T tl) : rTx N' T tl := ⟨(h.2.2 15 (by omega)).trans ht.1, fun k hk => by rw [h.2.1 15 (by decide)]; exact ht.2 k hk⟩
abbrev dg (T : Nat → Nat) (k : Nat) : Prop := 48 ≤ T k ∧ T k ≤ 57
theorem run_ex (P : Nat → Prop) (tl : Nat) : ∀ d p, d = tl - p → p ≤ tl → ∃ m, p + m ≤ tl ∧ (∀ k, p ≤ k → k < p + m → P k) ∧ (p + m = tl ∨ ¬ P (p + m)) := by
  intro d
  induction d with
  | zero => intro p h1 h2; exact ⟨0, by omega, fun k _ _ => by omega, Or.inl (by omega)⟩
  | succ d ih =>
    intro p h1 h2
    rcases Classical.em (P p) with hp | hp
    · obtain ⟨m, a, b, c⟩ := ih (p + 1) (by omega) (by omega)
      refine ⟨m + 1, by omega, fun k k1 k2 => ?_, ?_⟩
      · by_cases hk : k = p
        · rw [hk]; exact hp
        · exact b k (by omega) (by omega)
      · rw [show p + (m + 1) = p + 1 + m by omega]; exact c
    · exact ⟨0, by omega, fun k _ _ => by omega, Or.inr hp⟩
theorem c_skip {T : Nat → Nat} {tl : Nat} (hT : gTx T tl) : ∀ m n p M, cTx M T tl → M 1 0 3 = nI p → p + m ≤ tl → (∀ k, p ≤ k → k < p + m → T k = 32) → (p + m = tl ∨ ¬ T (p + m) = 32) → m < n → ∃ M', f_X3_readToken_l0 n M = f_X3_readToken_b38 M' ∧ cFr M M' ∧ M' 1 0 3 = nI (p + m) := by
  have ht := hT.1
  intro m
  induction m with
  | zero =>
    intro n p M hM h3 hp hs he hn
    cases n with
    | zero => exact absurd hn (by omega)
    | succ n =>
      refine ⟨M, ?_, cFr.rf M, h3⟩
      rw [f_X3_readToken_l0, hM.1, h3]
      by_cases hpt : p = tl
      · subst hpt
        rw [if_pos (i32_le_rfl _)]
      · have hT2 := hT.2 p (by omega)
        have hc : ¬ nI (T p) = 32 := fun q => by
          have := (nI_eq (b := 32) (by omega) (by decide)).mp q
          rcases he with he | he
          · omega
          · exact he this
        rw [if_neg (le_nI (by omega) (by omega) (by omega)), xchk_t _ (xb_nI (show p < 120 by omega) (by decide)), nI_clamp (by omega), hM.2 p (by omega), if_neg hc]
  | succ m ih =>
    intro n p M hM h3 hp hs he hn
    cases n with
    | zero => exact absurd hn (by omega)
    | succ n =>
      obtain ⟨M', g1, g2, g3⟩ := ih n (p + 1) (xsf M 1 3 (nI (p + 1))) ((cFr.f M _ (by decide)).tx hM) (xsf_0 _ _ _ _) (by omega) (fun k k1 k2 => hs k (by omega) (by omega)) (by rw [show p + 1 + m = p + (m + 1) by omega]; exact he) (by omega)
      refine ⟨M', ?_, (cFr.f M _ (by decide)).tr g2, by rw [g3, show p + 1 + m = p + (m + 1) by omega]⟩
      have hc : nI (T p) = 32 := by rw [hs p (Nat.le_refl _) (by omega)]; rfl
      rw [f_X3_readToken_l0, hM.1, h3, if_neg (le_nI (by omega) (by omega) (by omega)), xchk_t _ (xb_nI (show p < 120 by omega) (by decide)), nI_clamp (by omega), hM.2 p (by omega), if_pos hc, xlet_e, nI_1]
      exact g1
theorem r_letter {N : xMem} {T : Nat → Nat} {tl p : Nat} (hT : gTx T tl) (h : rTx N T tl) (hp : p ≤ tl) : f_X8_letterAt (nI p) N = some (if p < tl then nI (T p) else -1) := by
  have ht := hT.1
  unfold f_X8_letterAt f_X8_letterAt_b18
  rw [h.1]
  by_cases hpt : p < tl
  · rw [if_neg (le_nI (by omega) (by omega) hpt), xchk_t _ (xb_nI (show p < 120 by omega) (by decide)), nI_clamp (by omega), h.2 p hpt, if_pos hpt]
  · rw [if_pos (nI_le (by omega) (by omega)), if_neg hpt]
theorem r_fig {N : xMem} {t : Nat} (ht : t ≤ 255) : f_X8_isFigure (nI t) N = some (if 48 ≤ t ∧ t ≤ 57 then 1 else 0) := by
  unfold f_X8_isFigure
  rw [e_in, xb1_e]
  have h : oob (nI t) 48 57 ↔ ¬ (48 ≤ t ∧ t ≤ 57) := by
    unfold oob
    rw [show (48 : Int32) = nI 48 from rfl, show (57 : Int32) = nI 57 from rfl, nI_ltI (by omega) (by omega), nI_ltI (by omega) (by omega)]
    omega
  by_cases hq : 48 ≤ t ∧ t ≤ 57
  · rw [if_neg (fun q => h.mp q hq), if_pos hq, xchk_t _ xbo_1]
  · rw [if_pos (h.mpr hq), if_neg hq, xchk_t _ xbo_0]
theorem r_fig_m {N : xMem} : f_X8_isFigure (-1) N = some 0 := by
  unfold f_X8_isFigure
  rw [e_in, xb1_e, if_pos (Or.inl (by decide)), xchk_t _ xbo_0]
theorem r_skip {T : Nat → Nat} {tl : Nat} (hT : gTx T tl) : ∀ m n p N, rTx N T tl → N 8 0 16 = nI p → p + m ≤ tl → (∀ k, p ≤ k → k < p + m → T k = 32) → ∃ N', f_X8_reads_l0 (n + m) N = f_X8_reads_l0 n N' ∧ rFr N N' ∧ N' 8 0 16 = nI (p + m) := by
  have ht := hT.1
  intro m
  induction m with
  | zero => intro n p N hN h3 hp hs; exact ⟨N, rfl, rFr.rf N, h3⟩
  | succ m ih =>
    intro n p N hN h3 hp hs
    obtain ⟨N', g1, g2, g3⟩ := ih n (p + 1) (xsf N 8 16 (nI (p + 1))) ((rFr.f N _ (by decide) (by decide)).tx hN) (xsf_0 _ _ _ _) (by omega) (fun k k1 k2 => hs k (by omega) (by omega))
    refine ⟨N', ?_, (rFr.f N _ (by decide) (by decide)).tr g2, by rw [g3, show p + 1 + m = p + (m + 1) by omega]⟩
    have hc : nI (T p) = 32 := by rw [hs p (Nat.le_refl _) (by omega)]; rfl
    rw [show n + (m + 1) = n + m + 1 by omega, f_X8_reads_l0, h3, r_letter hT hN (by omega), xb1_e, if_pos (show p < tl by omega), if_pos hc, xlet_e, nI_1]
    exact g1
/-! numbers -/
def dN (T : Nat → Nat) (a : Nat) : Nat → Nat
  | 0 => 0
  | m + 1 => if 99 < dN T a m then dN T a m else 10 * dN T a m + (T (a + m) - 48)
theorem dN_le {T : Nat → Nat} {a : Nat} : ∀ m, (∀ j, j < m → dg T (a + j)) → dN T a m ≤ 999
  | 0, _ => by rw [dN]; omega
  | m + 1, h => by
    have hi := dN_le m (fun j hj => h j (by omega))
    have hm := h m (by omega)
    rw [dN]
    split
    · exact hi
    · omega
theorem c_digit {M : xMem} {T : Nat → Nat} {tl p : Nat} (hT : gTx T tl) (h : cTx M T tl) (hp : p < tl) : f_X3_digitAt (nI p) M = some (if dg T p then 1 else 0) := by
  have ht := hT.1
  have h2 := hT.2 p hp
  have hb := xb_nI (show p < 120 by omega) (by decide)
  unfold f_X3_digitAt f_X3_digitAt_b26 f_X3_digitAt_b27
  rw [xchk_t _ hb, xchk_t _ hb, nI_clamp (by omega), h.2 p hp, xchk_t _ xbo_0, xchk_t _ xbo_1]
  by_cases h48 : T p < 48
  · have q : nI (T p) < (48 : Int32) := (nI_ltI (b := 48) (by omega) (by decide)).mpr h48
    rw [if_pos q, if_neg (fun z => by omega)]
  · have q : ¬ nI (T p) < (48 : Int32) := fun z => h48 ((nI_ltI (b := 48) (by omega) (by decide)).mp z)
    rw [if_neg q]
    by_cases h57 : 57 < T p
    · have q2 : (57 : Int32) < nI (T p) := (nI_ltI (a := 57) (by decide) (by omega)).mpr h57
      rw [if_pos q2, if_neg (fun z => by omega)]
    · have q2 : ¬ (57 : Int32) < nI (T p) := fun z => h57 ((nI_ltI (a := 57) (by decide) (by omega)).mp z)
      rw [if_neg q2, if_pos ⟨by omega, by omega⟩]
theorem c_digits {T : Nat → Nat} {tl a : Nat} (hT : gTx T tl) : ∀ m n k M, cTx M T tl → M 1 0 3 = nI (a + k) → M 1 0 6 = nI (min 100 (dN T a k)) → a + k + m ≤ tl → (∀ j, j < k + m → dg T (a + j)) → (a + k + m = tl ∨ ¬ dg T (a + k + m)) → m < n → ∃ M', f_X3_readDigits_l5 n M = f_X3_readDigits_b69 M' ∧ cFr M M' ∧ M' 1 0 3 = nI (a + k + m) ∧ M' 1 0 6 = nI (min 100 (dN T a (k + m))) ∧ M' 1 0 4 = M 1 0 4 := by
  have ht := hT.1
  intro m
  induction m with
  | zero =>
    intro n k M hM h3 h6 hp hs he hn
    cases n with
    | zero => exact absurd hn (by omega)
    | succ n =>
      refine ⟨M, ?_, cFr.rf M, h3, h6, rfl⟩
      rw [f_X3_readDigits_l5, hM.1, h3]
      by_cases hpt : a + k = tl
      · rw [hpt, if_pos (i32_le_rfl _)]
      · have hnd : ¬ dg T (a + k) := by
          rcases he with he | he
          · omega
          · exact he
        rw [if_neg (le_nI (by omega) (by omega) (by omega)), c_digit hT hM (by omega), xb1_e, if_neg hnd, if_pos rfl]
  | succ m ih =>
    intro n k M hM h3 h6 hp hs he hn
    cases n with
    | zero => exact absurd hn (by omega)
    | succ n =>
      have hd := hs k (by omega)
      have h9 := dN_le (T := T) (a := a) k (fun j hj => hs j (by omega))
      have hv : (if nI (min 100 (dN T a k)) * 10 + nI (T (a + k)) - 48 < (100 : Int32) then nI (min 100 (dN T a k)) * 10 + nI (T (a + k)) - 48 else 100) = nI (min 100 (dN T a (k + 1))) := by
        have e1 : nI (min 100 (dN T a k)) * 10 + nI (T (a + k)) - 48 = nI (min 100 (dN T a k) * 10 + T (a + k) - 48) := by
          rw [show nI (min 100 (dN T a k)) * 10 = nI (min 100 (dN T a k) * 10) from pk_mul _ 10, nI_add]
          exact pk_sub (b := 48) (by omega)
        rw [e1]
        have hmin : min 100 (dN T a (k + 1)) = if min 100 (dN T a k) * 10 + T (a + k) - 48 < 100 then min 100 (dN T a k) * 10 + T (a + k) - 48 else 100 := by
          rw [dN]
          split
          · rw [if_neg (by omega)]; omega
          · split <;> omega
        rw [hmin]
        by_cases hlt : min 100 (dN T a k) * 10 + T (a + k) - 48 < 100
        · have q : nI (min 100 (dN T a k) * 10 + T (a + k) - 48) < (100 : Int32) := (nI_ltI (b := 100) (by omega) (by decide)).mpr hlt
          rw [if_pos q, if_pos hlt]
        · have q : ¬ nI (min 100 (dN T a k) * 10 + T (a + k) - 48) < (100 : Int32) := fun z => hlt ((nI_ltI (b := 100) (by omega) (by decide)).mp z)
          rw [if_neg q, if_neg hlt]
          rfl
      obtain ⟨M1, hM1⟩ : ∃ M1, M1 = xsf (xsf M 1 6 (nI (min 100 (dN T a (k + 1))))) 1 3 (nI (a + (k + 1))) := ⟨_, rfl⟩
      have f1 : cFr M M1 := by rw [hM1]; exact (cFr.f M _ (by decide)).tr (cFr.f _ _ (by decide))
      obtain ⟨M', g1, g2, g3, g4, g5⟩ := ih n (k + 1) M1 (f1.tx hM) (by rw [hM1, xsf_0]) (by rw [hM1, xsf_k (by decide), xsf_0]) (by omega) (fun j hj => hs j (by omega)) (by rw [show a + (k + 1) + m = a + k + (m + 1) by omega]; exact he) (by omega)
      refine ⟨M', ?_, f1.tr g2, by rw [g3, show a + (k + 1) + m = a + k + (m + 1) by omega], by rw [g4, show k + 1 + m = k + (m + 1) by omega], by rw [g5, hM1, xsf_k (by decide), xsf_k (by decide)]⟩
      rw [f_X3_readDigits_l5, hM.1, h3, if_neg (le_nI (by omega) (by omega) (by omega)), c_digit hT hM (by omega), xb1_e, if_pos hd, if_neg (by decide), xchk_t _ (xb_nI (show a + k < 120 by omega) (by decide)), xlet_e, nI_clamp (by omega), hM.2 _ (by omega), h6, hv, xlet_e, xsf_k (by decide), h3, nI_1, show a + k + 1 = a + (k + 1) by omega, ← hM1]
      exact g1
theorem r_digits {T : Nat → Nat} {tl a : Nat} {r39 : Int32} {k219 : xMem → Option xMem} (hT : gTx T tl) : ∀ m n k N, rTx N T tl → N 8 0 16 = nI (a + k) → N 8 0 19 = nI (dN T a k) → a + k + m ≤ tl → (∀ j, j < k + m → dg T (a + j)) → ∃ N', f_X8_reads_l67 r39 k219 (n + m) N = f_X8_reads_l67 r39 k219 n N' ∧ rFr N N' ∧ N' 8 0 16 = nI (a + k + m) ∧ N' 8 0 19 = nI (dN T a (k + m)) ∧ N' 8 0 17 = N 8 0 17 := by
  have ht := hT.1
  intro m
  induction m with
  | zero => intro n k N hN h3 h6 hp hs; exact ⟨N, rfl, rFr.rf N, h3, h6, rfl⟩
  | succ m ih =>
    intro n k N hN h3 h6 hp hs
    have hd := hs k (by omega)
    have h9 := dN_le (T := T) (a := a) k (fun j hj => hs j (by omega))
    have h2 := hT.2 (a + k) (by omega)
    obtain ⟨N1, hN1⟩ : ∃ N1, N1 = xsf (xsf N 8 19 (nI (dN T a (k + 1)))) 8 16 (nI (a + (k + 1))) := ⟨_, rfl⟩
    have f1 : rFr N N1 := by rw [hN1]; exact (rFr.f N _ (by decide) (by decide)).tr (rFr.f _ _ (by decide) (by decide))
    obtain ⟨N', g1, g2, g3, g4, g5⟩ := ih n (k + 1) N1 (f1.tx hN) (by rw [hN1, xsf_0]) (by rw [hN1, xsf_k (by decide), xsf_0]) (by omega) (fun j hj => hs j (by omega))
    refine ⟨N', ?_, f1.tr g2, by rw [g3, show a + (k + 1) + m = a + k + (m + 1) by omega], by rw [g4, show k + 1 + m = k + (m + 1) by omega], by rw [g5, hN1, xsf_k (by decide), xsf_k (by decide)]⟩
    have hb : ∀ v, v = nI (dN T a (k + 1)) → f_X8_reads_b117 N (f_X8_reads_l67 r39 k219 (n + m)) v = f_X8_reads_l67 r39 k219 n N' := by
      intro v hv
      unfold f_X8_reads_b117
      rw [hv, xlet_e, xlet_e, xsf_k (by decide), h3, nI_1, show a + k + 1 = a + (k + 1) by omega, ← hN1]
      exact g1
    rw [show n + (m + 1) = n + m + 1 by omega, f_X8_reads_l67, h3, r_letter hT hN (by omega), xb1_e, if_pos (show a + k < tl by omega), r_fig h2, xb1_e, if_pos hd, if_neg (by decide), h6]
    by_cases h99 : dN T a k ≤ 99
    · have q : nI (dN T a k) ≤ (99 : Int32) := (nI_leI (b := 99) (by omega) (by decide)).mpr h99
      rw [if_pos q, xb1_e]
      refine hb _ ?_
      rw [dN, if_neg (by omega), show (10 : Int32) * nI (dN T a k) = nI (10 * dN T a k) from pk_mul 10 _, nI_add]
      have := pk_sub (a := 10 * dN T a k + T (a + k)) (b := 48) (by omega)
      rw [show (48 : Int32) = nI 48 from rfl, this, show 10 * dN T a k + T (a + k) - 48 = 10 * dN T a k + (T (a + k) - 48) by omega]
    · have q : ¬ nI (dN T a k) ≤ (99 : Int32) := fun z => h99 ((nI_leI (b := 99) (by omega) (by decide)).mp z)
      rw [if_neg q]
      refine hb _ ?_
      rw [dN, if_pos (by omega)]
