/-! numbers and items, the class one token behind the reference -/
def Lag (T : Nat → Nat) (tl : Nat) (M N : xMem) : Prop := ∃ p st kd nm nx, p ≤ tl ∧ st ≤ tl ∧ nx ≤ tl ∧ M 1 0 3 = nI p ∧ TkC T tl p st kd nm nx ∧ Cur N st kd nm nx
theorem Lag.of {T : Nat → Nat} {tl : Nat} {M N M' N' : xMem} (h : Lag T tl M N) (h1 : M' 1 0 3 = M 1 0 3) (h2 : ∀ k, 16 ≤ k → k < 20 → N' 8 0 k = N 8 0 k) : Lag T tl M' N' := by
  obtain ⟨p, st, kd, nm, nx, a1, a2, a3, a4, a5, a6⟩ := h
  refine ⟨p, st, kd, nm, nx, a1, a2, a3, h1.trans a4, a5, ?_⟩
  unfold Cur at a6 ⊢
  rw [h2 16 (by decide) (by decide), h2 17 (by decide) (by decide), h2 18 (by decide) (by decide), h2 19 (by decide) (by decide)]
  exact a6
def cFi (M M' : xMem) : Prop := (∀ o, o ≠ 1 → o ≠ 2 → M' o = M o) ∧ (∀ r, r ≠ 0 → M' 1 r = M 1 r) ∧ M' 1 0 1 = M 1 0 1
def rFi (N N' : xMem) : Prop := (∀ o, o ≠ 8 → N' o = N o) ∧ (∀ r, r ≠ 0 → r ≠ 24 → r ≠ 26 → N' 8 r = N 8 r) ∧ ∀ k, k < 16 ∨ k = 21 → N' 8 0 k = N 8 0 k
def rFn (N N' : xMem) : Prop := (∀ o, o ≠ 8 → N' o = N o) ∧ (∀ r, r ≠ 0 → N' 8 r = N 8 r) ∧ ∀ k, k < 16 ∨ 20 < k → N' 8 0 k = N 8 0 k
theorem cFi.tr {A B C : xMem} (h1 : cFi A B) (h2 : cFi B C) : cFi A C := ⟨fun o ho hp => (h2.1 o ho hp).trans (h1.1 o ho hp), fun r hr => (h2.2.1 r hr).trans (h1.2.1 r hr), h2.2.2.trans h1.2.2⟩
theorem cFr.i {A B : xMem} (h : cFr A B) : cFi A B := ⟨fun o ho _ => h.1 o ho, h.2.1, h.2.2⟩
theorem cFi.rf (A : xMem) : cFi A A := ⟨fun _ _ _ => rfl, fun _ _ => rfl, rfl⟩
theorem cFi.st (M : xMem) (r : Nat) (i v : Int32) : cFi M (xst M 2 r i v) := ⟨fun o _ hp => xst_o hp, fun r' _ => by rw [xst_o (by decide)], by rw [xst_o (by decide)]⟩
theorem cFi.sf (M : xMem) (k : Nat) (v : Int32) : cFi M (xsf M 2 k v) := ⟨fun o _ hp => xsf_o hp, fun r' _ => by rw [xsf_o (by decide)], by rw [xsf_o (by decide)]⟩
theorem cFi.tx {M M' : xMem} {T : Nat → Nat} {tl : Nat} (h : cFi M M') (ht : cTx M T tl) : cTx M' T tl := ⟨h.2.2.trans ht.1, fun k hk => by rw [h.2.1 1 (by decide)]; exact ht.2 k hk⟩
theorem rFi.rf (A : xMem) : rFi A A := ⟨fun _ _ => rfl, fun _ _ _ _ => rfl, fun _ _ => rfl⟩
theorem rFi.tr {A B C : xMem} (h1 : rFi A B) (h2 : rFi B C) : rFi A C := ⟨fun o ho => (h2.1 o ho).trans (h1.1 o ho), fun r a b c => (h2.2.1 r a b c).trans (h1.2.1 r a b c), fun k hk => (h2.2.2 k hk).trans (h1.2.2 k hk)⟩
theorem rFn.i {A B : xMem} (h : rFn A B) : rFi A B := ⟨h.1, fun r a _ _ => h.2.1 r a, fun k hk => h.2.2 k (by omega)⟩
theorem rFr.n {A B : xMem} (h : rFr A B) : rFn A B := ⟨h.1, h.2.1, fun k hk => h.2.2 k (by omega)⟩
theorem rFn.tr {A B C : xMem} (h1 : rFn A B) (h2 : rFn B C) : rFn A C := ⟨fun o ho => (h2.1 o ho).trans (h1.1 o ho), fun r hr => (h2.2.1 r hr).trans (h1.2.1 r hr), fun k hk => (h2.2.2 k hk).trans (h1.2.2 k hk)⟩
theorem rFn.f20 (N : xMem) (v : Int32) : rFn N (xsf N 8 20 v) := ⟨fun o ho => xsf_o ho, fun r hr => xsf_r hr, fun j hj => xsf_k (by omega)⟩
theorem rFi.st (N : xMem) {r : Nat} (i v : Int32) (hr : r = 24 ∨ r = 26) : rFi N (xst N 8 r i v) := ⟨fun o ho => xst_o ho, fun q a b c => xst_r (by omega), fun k _ => by rw [xst_r (by omega)]⟩
theorem rFi.sf (N : xMem) {k : Nat} (v : Int32) (hk : k = 22 ∨ k = 24) : rFi N (xsf N 8 k v) := ⟨fun o ho => xsf_o ho, fun q a _ _ => xsf_r a, fun j hj => xsf_k (by omega)⟩
theorem rFi.tx {N N' : xMem} {T : Nat → Nat} {tl : Nat} (h : rFi N N') (ht : rTx N T tl) : rTx N' T tl := ⟨(h.2.2 15 (by omega)).trans ht.1, fun k hk => by rw [h.2.1 15 (by decide) (by decide) (by decide)]; exact ht.2 k hk⟩
/-- the draft -/
def DR (M N : xMem) (s e : Nat) : Prop := s ≤ 5 ∧ e ≤ 6 ∧ M 2 0 0 = nI s ∧ M 2 0 1 = nI e ∧ N 8 0 22 = nI s ∧ N 8 0 24 = nI e ∧
  (∀ j, j < s → (∃ w, 1 ≤ w ∧ w ≤ 99 ∧ M 2 3 j = nI w) ∧ (∃ w, w ≤ 9 ∧ M 2 4 j = nI w) ∧ (∃ w, 1 ≤ w ∧ w ≤ 9 ∧ M 2 5 j = nI w) ∧ N 8 24 (3 * j) = M 2 3 j ∧ N 8 24 (3 * j + 1) = M 2 4 j ∧ N 8 24 (3 * j + 2) = M 2 5 j) ∧
  ∀ j, j < e → (∃ w, 1 ≤ w ∧ w ≤ 99 ∧ M 2 6 j = nI w) ∧ (∃ w, w ≤ 5 ∧ M 2 7 j = nI w) ∧ N 8 26 (2 * j) = M 2 6 j ∧ N 8 26 (2 * j + 1) = M 2 7 j
theorem DR.of {M N M' N' : xMem} {s e : Nat} (h : DR M N s e) (h1 : cFr M M') (h2 : rFn N N') : DR M' N' s e := by
  unfold DR at h ⊢
  rw [h1.1 2 (by decide), h2.2.2 22 (by omega), h2.2.2 24 (by omega), h2.2.1 24 (by decide), h2.2.1 26 (by decide)]
  exact h
/-- how the class goes on behind an item's numbers -/
def KE : Int32 → xMem → Option (Int32 × xMem) := fun r M => if r = 0 then some (0, M) else xb2 (f_X3_readEnd M) (fun r M => if r = 0 then some (0, M) else some (1, M))
def GO (T : Nat → Nat) (tl : Nat) (M0 N0 : xMem) (s e : Nat) (rc : Option (Int32 × xMem)) (rr : Option xMem) : Prop := ∃ M' N', rr = some N' ∧ cFi M0 M' ∧ rFi N0 N' ∧ ((rc = some (0, M') ∧ N' 8 0 20 = 1 ∧ ∃ st, st ≤ tl ∧ M' 1 0 4 = nI st ∧ N' 8 0 17 = nI st) ∨ (rc = some (1, M') ∧ N' 8 0 20 = 0 ∧ Lag T tl M' N' ∧ DR M' N' s e))
theorem b31_e (N : xMem) : f_X8_takesNumber_b31 (f_X8_takesNumber_b32 N) = some (0, xsf N 8 20 1) := by
  unfold f_X8_takesNumber_b31 f_X8_takesNumber_b32 f_X8_takesNumber_b43 f_X8_takesNumber_b60 f_X8_takesNumber_b70
  rw [if_pos rfl, xchk_t _ xbo_1, xchk_t _ xbf_1, xlet_e, if_pos rfl, if_pos rfl]
theorem take_wrong {N : xMem} {a b : Int32} (h : N 8 0 20 = 1) : f_X8_takesNumber a b N = some (0, xsf N 8 20 1) := by
  unfold f_X8_takesNumber
  rw [h, if_neg (by decide), b31_e]
theorem go_num {T : Nat → Nat} {tl s e : Nat} {M0 N0 M N : xMem} {a b : Int32} {KC : xMem → Option (Int32 × xMem)} {KR : Int32 → xMem → Option xMem} (hT : gTx T tl) (c0 : cFi M0 M) (r0 : rFi N0 N) (hM : cTx M T tl) (hN : rTx N T tl) (hl : Lag T tl M N) (h20 : N 8 0 20 = 0)
    (hw : ∀ N', rFn N N' → N' 8 0 20 = 1 → ∃ N'', KR 0 N' = some N'' ∧ rFi N' N'' ∧ N'' 8 0 20 = 1 ∧ N'' 8 0 17 = N' 8 0 17)
    (hok : ∀ M' N' w, cFr M M' → rFn N N' → N' 8 0 20 = 0 → ¬ oob (nI w) a b → w ≤ 99 → M' 1 0 6 = nI w → Lag T tl M' N' → GO T tl M0 N0 s e (xb2 (KC M') KE) (KR (nI w) N')) :
    GO T tl M0 N0 s e (xb2 (xb2 (f_X3_readNumber a b M) (fun r M4 => if r = 0 then some (0, M4) else KC M4)) KE) (xb2 (f_X8_takesNumber a b N) KR) := by
  obtain ⟨p, st, kd, nm, nx, hp, hst, hnx, hc3, hTk, hCur⟩ := hl
  obtain ⟨M1, g1, g2, g3, g4, g5, g6⟩ := hTk M hM hc3
  have wrong : f_X3_readNumber a b M = some (0, M1) → f_X8_takesNumber a b N = f_X8_takesNumber_b31 (f_X8_takesNumber_b32 N) → GO T tl M0 N0 s e (xb2 (xb2 (f_X3_readNumber a b M) (fun r M4 => if r = 0 then some (0, M4) else KC M4)) KE) (xb2 (f_X8_takesNumber a b N) KR) := by
    intro e1 e2
    obtain ⟨N'', k1, k2, k3, k4⟩ := hw (xsf N 8 20 1) (rFn.f20 N 1) (xsf_0 _ _ _ _)
    refine ⟨M1, N'', ?_, c0.tr g2.i, (r0.tr (rFn.f20 N 1).i).tr k2, Or.inl ⟨?_, k3, st, hst, g4, ?_⟩⟩
    · rw [e2, b31_e, xb2_e, k1]
    · rw [e1, xb2_e, if_pos rfl, xb2_e]
      unfold KE
      rw [if_pos rfl]
    · rw [k4, xsf_k (by decide)]
      exact hCur.2.1
  by_cases hk : kd = 2
  · obtain ⟨c18, c19, c99⟩ : N 8 0 18 = 2 ∧ N 8 0 19 = nI nm ∧ nm ≤ 99 := by
      rcases hCur.2.2 with h | h | h | h | h | h
      · rw [h.1] at hk; exact absurd hk (by decide)
      · rw [h.1] at hk; exact absurd hk (by decide)
      · exact h.2
      · rw [h.1] at hk; exact absurd hk (by decide)
      · rw [h.1] at hk; exact absurd hk (by decide)
      · rw [h.1] at hk; exact absurd hk (by decide)
    have g6' := g6 hk
    by_cases hq : oob (nI nm) a b
    · refine wrong ?_ ?_
      · unfold f_X3_readNumber f_X3_readNumber_b28 f_X3_readNumber_b29
        rw [g1, xb1_e, g5, if_pos hk, g6', e_beyond, xb1_e, if_pos hq, if_neg (by decide), xchk_t _ xbo_0]
      · unfold f_X8_takesNumber
        rw [h20, if_pos rfl, c18, if_pos rfl, c19, e_in, xb1_e, if_pos hq, if_pos rfl]
    · have e1 : f_X3_readNumber a b M = some (1, M1) := by
        unfold f_X3_readNumber f_X3_readNumber_b28 f_X3_readNumber_b29
        rw [g1, xb1_e, g5, if_pos hk, g6', e_beyond, xb1_e, if_neg hq, if_pos rfl, xchk_t _ xbo_1]
      obtain ⟨N1, hN1⟩ : ∃ N1, N1 = xsf N 8 20 0 := ⟨_, rfl⟩
      have f1 : rFn N N1 := by rw [hN1]; exact rFn.f20 N 0
      obtain ⟨st', kd', nm', nx', b1, b2, b3, b4⟩ := tok_ex (T := T) (tl := tl) (p := nx) hT hnx
      obtain ⟨N2, d1, d2, d3⟩ := b4 N1 (f1.i.tx hN) (by rw [hN1, xsf_k (by decide)]; exact hCur.1)
      have e2 : f_X8_takesNumber a b N = some (nI nm, N2) := by
        unfold f_X8_takesNumber f_X8_takesNumber_b32 f_X8_takesNumber_b43 f_X8_takesNumber_b60 f_X8_takesNumber_b70
        rw [h20, if_pos rfl, c18, if_pos rfl, c19, e_in, xb1_e, if_neg hq, if_neg (by decide), if_neg (by decide), xchk_t _ xbo_0, xchk_t _ xbf_0, xlet_e, if_neg (by decide), ← hN1, d1, xb1_e, if_neg (by decide)]
        rw [hN1, xsf_k (by decide), c19]
      have := hok M1 N2 nm g2 (f1.tr d2.n) (by rw [d2.2.2 20 (by omega), hN1, xsf_0]) hq c99 g6' ⟨nx, st', kd', nm', nx', hnx, b1, b2, g3, b3, d3⟩
      rw [e1, e2, xb2_e, xb2_e, if_neg (by decide)]
      exact this
  · refine wrong ?_ ?_
    · unfold f_X3_readNumber f_X3_readNumber_b28 f_X3_readNumber_b29
      rw [g1, xb1_e, g5, if_neg hk, xchk_t _ xbo_0]
    · have c18 : ¬ N 8 0 18 = 2 := by
        rcases hCur.2.2 with h | h | h | h | h | h
        · rw [h.2]; decide
        · rw [h.2]; decide
        · exact absurd h.1 hk
        · rw [h.2.1]; decide
        · rw [h.2.1]; decide
        · rw [h.2]; decide
      unfold f_X8_takesNumber
      rw [h20, if_pos rfl, if_neg c18]
theorem end_wrong {N : xMem} (h : N 8 0 20 = 1) : ∃ N'', f_X8_readItem_b173 N = some N'' ∧ rFi N N'' ∧ N'' 8 0 20 = 1 ∧ N'' 8 0 17 = N 8 0 17 := by
  refine ⟨xsf N 8 20 1, ?_, (rFn.f20 N 1).i, xsf_0 _ _ _ _, xsf_k (by decide)⟩
  unfold f_X8_readItem_b173 f_X8_readItem_b189 f_X8_readItem_b194 f_X8_readItem_b208
  rw [h, if_neg (by decide), xchk_t _ xbo_1, xchk_t _ xbf_1, xlet_e, xsf_0, if_neg (by decide)]
theorem go_end {T : Nat → Nat} {tl s e : Nat} {M0 N0 M N : xMem} (hT : gTx T tl) (c0 : cFi M0 M) (r0 : rFi N0 N) (hM : cTx M T tl) (hN : rTx N T tl) (hl : Lag T tl M N) (h20 : N 8 0 20 = 0) (hD : DR M N s e) : GO T tl M0 N0 s e (xb2 (some (1, M)) KE) (f_X8_readItem_b173 N) := by
  obtain ⟨p, st, kd, nm, nx, hp, hst, hnx, hc3, hTk, hCur⟩ := hl
  obtain ⟨M1, g1, g2, g3, g4, g5, g6⟩ := hTk M hM hc3
  have hE : xb2 (some (1, M)) KE = xb2 (f_X3_readEnd M) (fun r M => if r = 0 then some (0, M) else some (1, M)) := by
    rw [xb2_e]
    unfold KE
    rw [if_neg (by decide)]
  rw [hE]
  unfold f_X3_readEnd f_X3_readEnd_b18
  rw [g1, xb1_e, g5]
  by_cases hk : kd = 59
  · have c18 : N 8 0 18 = 3 := by
      rcases hCur.2.2 with h | h | h | h | h | h
      · rw [h.1] at hk; exact absurd hk (by decide)
      · rw [h.1] at hk; exact absurd hk (by decide)
      · rw [h.1] at hk; exact absurd hk (by decide)
      · rw [h.1] at hk; exact absurd hk (by decide)
      · rw [h.1] at hk; exact absurd hk (by decide)
      · exact h.2
    obtain ⟨N1, hN1⟩ : ∃ N1, N1 = xsf N 8 20 0 := ⟨_, rfl⟩
    have f1 : rFn N N1 := by rw [hN1]; exact rFn.f20 N 0
    obtain ⟨st', kd', nm', nx', b1, b2, b3, b4⟩ := tok_ex (T := T) (tl := tl) (p := nx) hT hnx
    obtain ⟨N2, d1, d2, d3⟩ := b4 N1 (f1.i.tx hN) (by rw [hN1, xsf_k (by decide)]; exact hCur.1)
    have f2 := f1.tr d2.n
    refine ⟨M1, N2, ?_, c0.tr g2.i, r0.tr f2.i, Or.inr ⟨?_, ?_, ⟨nx, st', kd', nm', nx', hnx, b1, b2, g3, b3, d3⟩, hD.of g2 f2⟩⟩
    · unfold f_X8_readItem_b173 f_X8_readItem_b194 f_X8_readItem_b208
      rw [h20, if_pos rfl, c18, if_pos rfl, xchk_t _ xbo_0, xchk_t _ xbf_0, xlet_e, xsf_0, if_pos rfl, ← hN1, d1, xb1_e]
    · rw [if_pos hk, xchk_t _ xbo_1, xb2_e, if_neg (by decide)]
    · rw [d2.2.2 20 (by omega), hN1, xsf_0]
  · have c18 : ¬ N 8 0 18 = 3 := by
      rcases hCur.2.2 with h | h | h | h | h | h
      · rw [h.2]; decide
      · rw [h.2]; decide
      · rw [h.2.1]; decide
      · rw [h.2.1]; decide
      · rw [h.2.1]; decide
      · exact absurd h.1 hk
    refine ⟨M1, xsf N 8 20 1, ?_, c0.tr g2.i, r0.tr (rFn.f20 N 1).i, Or.inl ⟨?_, xsf_0 _ _ _ _, st, hst, g4, by rw [xsf_k (by decide)]; exact hCur.2.1⟩⟩
    · unfold f_X8_readItem_b173 f_X8_readItem_b189 f_X8_readItem_b194 f_X8_readItem_b208
      rw [h20, if_pos rfl, if_neg c18, xchk_t _ xbo_1, xchk_t _ xbf_1, xlet_e, xsf_0, if_neg (by decide)]
    · rw [if_neg hk, xchk_t _ xbo_0, xb2_e, if_pos rfl]
