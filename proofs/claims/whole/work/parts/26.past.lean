/-- two floors hold the same -/
def sameF (F G : Nat → Nat → Int32) : Prop := (∀ k, k < 6 → F 2 k = G 2 k ∧ F 3 k = G 3 k) ∧ ∀ k, k < 5 → F 4 k = G 4 k ∧ F 5 k = G 5 k ∧ F 6 k = G 6 k
theorem sameF.rF {F G : Nat → Nat → Int32} {ns ne k : Nat} {S : Nat → Int32} (h : sameF F G) (h5 : ns ≤ 5) (h6 : ne ≤ 6) (hr : rF ns ne G S k) : rF ns ne F S k := by
  refine ⟨fun e he => ?_, fun s hs => ?_⟩
  · rw [(h.1 e (by omega)).1, (h.1 e (by omega)).2]; exact hr.1 e he
  · rw [(h.2 s (by omega)).1, (h.2 s (by omega)).2.1, (h.2 s (by omega)).2.2]; exact hr.2 s hs
theorem sameF.vF {F G : Nat → Nat → Int32} {ns ne : Nat} (h : sameF F G) (h5 : ns ≤ 5) (h6 : ne ≤ 6) (hv : vF ns ne G) : vF ns ne F := by
  refine ⟨fun e he => ?_, fun s hs => ?_, fun s t hs ht e => ?_⟩
  · rw [(h.1 e (by omega)).1, (h.1 e (by omega)).2]; exact hv.1 e he
  · rw [(h.2 s (by omega)).1, (h.2 s (by omega)).2.1, (h.2 s (by omega)).2.2]; exact hv.2.1 s hs
  · rw [(h.2 s (by omega)).2.1, (h.2 t (by omega)).2.1] at e; exact hv.2.2 s t hs ht e
theorem cpy_in {f g : Nat → Int32} {n k : Nat} (h : k < n) : va_cpy f g 0 0 n k = f k := by
  unfold va_cpy
  rw [if_pos (by omega), Nat.zero_add, Nat.sub_zero]
theorem xs_o {M : xMem} {o r o' : Nat} {w : Nat → Int32} (h : o' ≠ o) : xs M o r w o' = M o' := by
  unfold xs
  exact va_up_ne _ _ h
theorem e_become {i j : Nat} (hij : i ≠ j) (M : xMem) : ∃ M1, f_X0_become i j M = some M1 ∧ sameF (M1 (i + 9)) (M (j + 9)) ∧ ∀ o, o ≠ i + 9 → M1 o = M o := by
  have hn : j + 9 ≠ i + 9 := by omega
  have z0 : (0 : Int32).toNatClampNeg = 0 := rfl
  have z5 : (5 : Int32).toNatClampNeg = 5 := rfl
  have z6 : (6 : Int32).toNatClampNeg = 6 := rfl
  unfold f_X0_become
  rw [xchk_t _ (by decide), xlet_e, xchk_t _ (by decide), xlet_e, xchk_t _ (by decide), xlet_e, xchk_t _ (by decide), xlet_e, xchk_t _ (by decide), xlet_e]
  refine ⟨_, rfl, ?_, ?_⟩
  · unfold xcp
    rw [z0, z5, z6]
    simp only [xs_o hn]
    refine ⟨fun k hk => ⟨?_, ?_⟩, fun k hk => ⟨?_, ?_, ?_⟩⟩
    · rw [xs_ne _ _ _ _ (by simp), xs_ne _ _ _ _ (by simp), xs_ne _ _ _ _ (by simp), xs_ne _ _ _ _ (by simp), xs_same, cpy_in hk]
    · rw [xs_ne _ _ _ _ (by simp), xs_ne _ _ _ _ (by simp), xs_ne _ _ _ _ (by simp), xs_same, cpy_in hk]
    · rw [xs_ne _ _ _ _ (by simp), xs_ne _ _ _ _ (by simp), xs_same, cpy_in hk]
    · rw [xs_ne _ _ _ _ (by simp), xs_same, cpy_in hk]
    · rw [xs_same, cpy_in hk]
  · intro o ho
    unfold xcp
    rw [xs_o ho, xs_o ho, xs_o ho, xs_o ho, xs_o ho]
theorem rem10 {k : Nat} (h : k ≤ 20) : nI k - nI k / 10 * 10 = nI (k % 10) := by
  have key : ∀ k, k ≤ 20 → nI k - nI k / 10 * 10 = nI (k % 10) := by decide +kernel
  exact key k h
theorem xsf_o {M : xMem} {o k o' : Nat} {v : Int32} (h : o' ≠ o) : xsf M o k v o' = M o' := by
  unfold xsf
  exact xs_o h
theorem xsf_0 (M : xMem) (o k : Nat) (v : Int32) : xsf M o k v o 0 k = v := by
  unfold xsf
  rw [xs_same]
  simp [upd]
theorem xsf_k {M : xMem} {o k k' : Nat} {v : Int32} (h : k' ≠ k) : xsf M o k v o 0 k' = M o 0 k' := by
  unfold xsf
  rw [xs_same]
  simp [upd, h]
theorem xsf_r {M : xMem} {o k r : Nat} {v : Int32} (h : r ≠ 0) : xsf M o k v o r = M o r := by
  unfold xsf
  exact xs_ne _ _ _ _ (by intro q; exact h (Prod.mk.inj q).2)
theorem e_remember {lt kn : Nat} {M : xMem} (h1 : M 4 0 1 = nI lt) (hlt : lt < 10) (h2 : M 4 0 2 = nI kn) (hkn : kn ≤ 10) : ∃ M1, f_X2_remember 0 M = some M1 ∧ M1 4 0 1 = nI ((lt + 1) % 10) ∧ M1 4 0 2 = nI (min (kn + 1) 10) ∧ sameF (M1 ((lt + 1) % 10 + 4 + 9)) (M (0 + 9)) ∧ ∀ o, o ≠ 4 → o ≠ (lt + 1) % 10 + 4 + 9 → M1 o = M o := by
  have hm : (lt + 1) % 10 < 10 := Nat.mod_lt _ (by decide)
  unfold f_X2_remember
  rw [h1, nI_1, rem10 (by omega), xlet_e, xsf_0, xchk_t _ (xb_nI hm (by decide)), nI_clamp (by omega)]
  obtain ⟨M1, g1, g2, g3⟩ := e_become (i := (lt + 1) % 10 + 4) (j := 0) (by omega) (xsf M 4 1 (nI ((lt + 1) % 10)))
  have e2 : M1 4 0 2 = nI kn := by rw [g3 4 (by omega), xsf_k (by decide)]; exact h2
  have e1 : M1 4 0 1 = nI ((lt + 1) % 10) := by rw [g3 4 (by omega), xsf_0]
  have hmin : (if nI kn + 1 < (10 : Int32) then nI kn + 1 else 10) = nI (min (kn + 1) 10) := by
    have key : ∀ k, k ≤ 10 → (if nI k + 1 < (10 : Int32) then nI k + 1 else 10) = nI (min (k + 1) 10) := by decide +kernel
    exact key kn hkn
  rw [g1, xb1_e, xlet_e, e2, hmin]
  refine ⟨_, rfl, ?_, xsf_0 _ _ _ _, ?_, fun o ho1 ho2 => ?_⟩
  · rw [xsf_k (by decide)]; exact e1
  · rw [xsf_o (by omega)]
    rw [xsf_o (by omega)] at g2
    exact g2
  · rw [xsf_o ho1, g3 o ho2, xsf_o ho1]
/-- the reference's remembers: the oldest of ten goes -/
theorem e_remembers {kn : Nat} {M : xMem} (h8 : M 8 0 8 = nI kn) (hkn : kn ≤ 10) : ∃ M1, f_X8_remembers M = some M1 ∧ M1 8 0 8 = nI (min (kn + 1) 10) ∧ (∀ k, k ≠ 8 → M1 8 0 k = M 8 0 k) ∧ (∀ r, r ≠ 0 → r ≠ 8 → M1 8 r = M 8 r) ∧ (∀ o, o ≠ 8 → M1 o = M o) ∧ ∀ j k, k < 27 → j < min (kn + 1) 10 → M1 8 8 (27 * j + k) = if j + 1 = min (kn + 1) 10 then M 8 7 k else M 8 8 (27 * (j + (if kn = 10 then 1 else 0)) + k) := by
  have last : ∀ (q : Nat) (N : xMem), q ≤ 9 → N 8 0 8 = nI q → f_X8_remembers_b49 N = some (xsf (xs N 8 8 (va_cpy (N 8 7) (N 8 8) 0 (27 * q) 27)) 8 8 (nI (q + 1))) := by
    intro q N hq hN
    unfold f_X8_remembers_b49
    have := e_copy (r0 := 8) (n0 := 270) (r2 := 7) (n2 := 27) (a := 27 * q) (b := 0) (M := N) (by decide) (by omega) (by decide) (by decide) (by decide)
    rw [hN, show (27 : Int32) * nI q = nI (27 * q) from pk_mul 27 q, show (0 : Int32) = nI 0 from rfl, this, xb1_e, xlet_e]
    have e1 : xs N 8 8 (va_cpy (N 8 7) (N 8 8) 0 (27 * q) 27) 8 0 8 = nI q := by rw [xs_ne _ _ _ _ (by decide)]; exact hN
    rw [e1, nI_1]
  have fin : ∀ (q : Nat) (N : xMem), ∀ j k, k < 27 → xsf (xs N 8 8 (va_cpy (N 8 7) (N 8 8) 0 (27 * q) 27)) 8 8 (nI (q + 1)) 8 8 (27 * j + k) = if j = q then N 8 7 k else N 8 8 (27 * j + k) := by
    intro q N j k hk
    rw [xsf_r (by decide), xs_same]
    unfold va_cpy
    by_cases hj : j = q
    · subst hj
      rw [if_pos (by omega), if_pos rfl, show 0 + (27 * j + k - 27 * j) = k by omega]
    · rw [if_neg hj, if_neg (by omega)]
  unfold f_X8_remembers
  by_cases h10 : kn = 10
  · subst h10
    rw [h8, if_pos (by decide)]
    have key : ∀ n j, j ≤ 243 → 243 - j < n → f_X8_remembers_l11 f_X8_remembers_b49 n (nI j) (xs M 8 8 (va_cpy (M 8 8) (M 8 8) 27 0 j)) = f_X8_remembers_b49 (xsf (xs M 8 8 (va_cpy (M 8 8) (M 8 8) 27 0 243)) 8 8 (nI 9)) := by
      intro n
      induction n with
      | zero => intro j h1 h2; omega
      | succ n ih =>
        intro j hj1 hj2
        rw [f_X8_remembers_l11]
        by_cases hj : j = 243
        · subst hj
          rw [if_pos (by decide), xlet_e]
          have e1 : xs M 8 8 (va_cpy (M 8 8) (M 8 8) 27 0 243) 8 0 8 - 1 = nI 9 := by rw [xs_ne _ _ _ _ (by decide), h8]; decide
          rw [e1]
        · have hlt : ¬ (243 : Int32) ≤ nI j := le_nI (a := j) (b := 243) (by omega) (by decide) (by omega)
          rw [if_neg hlt, show nI j + 27 = nI (j + 27) from nI_add j 27, xchk_t _ (xb_nI (by omega) (by decide)), xchk_t _ (xb_nI (by omega) (by decide)), xlet_e, nI_clamp (by omega), nI_1]
          have e1 : xs M 8 8 (va_cpy (M 8 8) (M 8 8) 27 0 j) 8 8 (j + 27) = M 8 8 (27 + j) := by
            rw [xs_same]
            unfold va_cpy
            rw [if_neg (by omega), Nat.add_comm]
          rw [e1]
          unfold xst
          rw [xs_same, xs_xs, nI_clamp (by omega)]
          have e2 := cpy_s (M 8 8) (M 8 8) 27 0 j
          rw [Nat.zero_add] at e2
          rw [e2]
          exact ih (j + 1) (by omega) (by omega)
    have k0 := key FU 0 (by omega) (by unfold FU; omega)
    rw [cpy_0, xs_self] at k0
    rw [show (0 : Int32) = nI 0 from rfl, k0, last 9 _ (by omega) (xsf_0 _ _ _ _)]
    refine ⟨_, rfl, xsf_0 _ _ _ _, fun k hk => ?_, fun r hr0 hr8 => ?_, fun o ho => ?_, fun j k hk hj => ?_⟩
    · rw [xsf_k hk, xs_ne _ _ _ _ (by decide), xsf_k hk, xs_ne _ _ _ _ (by decide)]
    · rw [xsf_r hr0, xs_ne _ _ _ _ (by intro q; exact hr8 (Prod.mk.inj q).2), xsf_r hr0, xs_ne _ _ _ _ (by intro q; exact hr8 (Prod.mk.inj q).2)]
    · rw [xsf_o ho, xs_o ho, xsf_o ho, xs_o ho]
    · have hj' : j < 10 := by omega
      rw [fin 9 _ j k hk, xsf_r (by decide), xsf_r (by decide), xs_ne _ _ _ _ (by decide), xs_same]
      by_cases h9 : j = 9
      · rw [if_pos h9, if_pos (by omega)]
      · rw [if_neg h9, if_neg (by omega), if_pos rfl]
        unfold va_cpy
        rw [if_pos (by omega), show 27 + (27 * j + k - 0) = 27 * (j + 1) + k by omega]
  · have hn : ¬ nI kn = 10 := fun e => h10 ((nI_eq (b := 10) (by omega) (by decide)).mp e)
    rw [h8, if_neg hn, last kn M (by omega) h8]
    have hmin : min (kn + 1) 10 = kn + 1 := by omega
    rw [hmin]
    refine ⟨_, rfl, xsf_0 _ _ _ _, fun k hk => ?_, fun r hr0 hr8 => ?_, fun o ho => ?_, fun j k hk hj => ?_⟩
    · rw [xsf_k hk, xs_ne _ _ _ _ (by decide)]
    · rw [xsf_r hr0, xs_ne _ _ _ _ (by intro q; exact hr8 (Prod.mk.inj q).2)]
    · rw [xsf_o ho, xs_o ho]
    · rw [fin kn M j k hk, if_neg h10]
      by_cases h9 : j = kn
      · rw [if_pos h9, if_pos (by omega)]
      · rw [if_neg h9, if_neg (by omega), Nat.add_zero]
