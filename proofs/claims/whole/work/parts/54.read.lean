/-! the whole text -/
theorem ke_s : (fun (r28 : Int32) (M28 : xMem) => if r28 = 0 then (f_X3_readItem_b45 f_X3_readItem_b46) M28 else xb2 (f_X3_readEnd M28) (fun r35 M35 => if r35 = 0 then (f_X3_readItem_b45 f_X3_readItem_b46) M35 else f_X3_readItem_b46 1 M35)) = KE := by
  funext r M
  unfold KE
  simp only [f_X3_readItem_b45, f_X3_readItem_b46, xchk_t _ xbo_0, xchk_t _ xbo_1]
theorem ke_e : (fun (r28 : Int32) (M28 : xMem) => if r28 = 0 then (f_X3_readItem_b93 f_X3_readItem_b94) M28 else xb2 (f_X3_readEnd M28) (fun r35 M35 => if r35 = 0 then (f_X3_readItem_b93 f_X3_readItem_b94) M35 else f_X3_readItem_b94 1 M35)) = KE := by
  funext r M
  unfold KE
  simp only [f_X3_readItem_b93, f_X3_readItem_b94, xchk_t _ xbo_0, xchk_t _ xbo_1]
theorem go_item {T : Nat → Nat} {tl s e st nm nx : Nat} {kd : Int32} {M N : xMem} (hT : gTx T tl) (hM : cTx M T tl) (hN : rTx N T tl) (h20 : N 8 0 20 = 0) (hD : DR M N s e) (hst : st ≤ tl) (hnx : nx ≤ tl) (h3 : M 1 0 3 = nI nx) (h4 : M 1 0 4 = nI st) (h5 : M 1 0 5 = kd) (hC : Cur N st kd nm nx) : ∃ s' e', s' + e' = s + e + 1 ∧ GO T tl M N s' e' (f_X3_readItem M) (f_X8_readItem N) := by
  obtain ⟨d1, d2, d3, d4, d5, d6, -, -⟩ := id hD
  have fail : f_X3_readItem M = some (0, M) → f_X8_readItem N = f_X8_readItem_b39 N → ∃ s' e', s' + e' = s + e + 1 ∧ GO T tl M N s' e' (f_X3_readItem M) (f_X8_readItem N) := fun e1 e2 => by
    refine ⟨s + 1, e, by omega, M, xsf N 8 20 1, ?_, cFi.rf M, (rFn.f20 N 1).i, Or.inl ⟨e1, xsf_0 _ _ _ _, st, hst, h4, by rw [xsf_k (by decide)]; exact hC.2.1⟩⟩
    rw [e2]
    unfold f_X8_readItem_b39
    rw [xlet_e]
  have other : ¬ kd = 115 → ¬ kd = 101 → ¬ N 8 0 18 = 1 → ∃ s' e', s' + e' = s + e + 1 ∧ GO T tl M N s' e' (f_X3_readItem M) (f_X8_readItem N) := fun q1 q2 q3 => by
    refine fail ?_ ?_
    · unfold f_X3_readItem f_X3_readItem_b47 f_X3_readItem_b95
      rw [h5, if_neg q1, if_neg q2]
    · unfold f_X8_readItem
      rw [if_neg q3]
  have reads : ∃ N1, f_X8_reads N = some N1 ∧ rFr N N1 ∧ Lag T tl M N1 := by
    obtain ⟨st', kd', nm', nx', b1, b2, b3, b4⟩ := tok_ex (T := T) (tl := tl) (p := nx) hT hnx
    obtain ⟨N1, k1, k2, k3⟩ := b4 N hN hC.1
    exact ⟨N1, k1, k2, nx, st', kd', nm', nx', hnx, b1, b2, h3, b3, k3⟩
  rcases hC.2.2 with h | h | h | h | h | h
  · exact other (by rw [h.1]; decide) (by rw [h.1]; decide) (by rw [h.2]; decide)
  · exact other (by rw [h.1]; decide) (by rw [h.1]; decide) (by rw [h.2]; decide)
  · exact other (by rw [h.1]; decide) (by rw [h.1]; decide) (by rw [h.2.1]; decide)
  · obtain ⟨hk, h18, h19⟩ := h
    rw [hk] at h5
    by_cases hs : s = 5
    · refine fail ?_ ?_
      · unfold f_X3_readItem f_X3_readItem_b47 f_X3_readItem_b95
        rw [h5, if_pos rfl, d3, hs, if_pos (show (5 : Int32) ≤ nI 5 by decide), if_neg (by decide)]
      · unfold f_X8_readItem
        rw [h18, if_pos rfl, h19, if_pos rfl, d5, hs, if_pos (show nI 5 = (5 : Int32) from rfl)]
    · have hs5 : s < 5 := by omega
      obtain ⟨N1, k1, k2, k3⟩ := reads
      refine ⟨s + 1, e, by omega, ?_⟩
      have e1 : f_X3_readItem M = xb2 (f_X3_readScale (nI s) M) KE := by
        unfold f_X3_readItem
        rw [h5, if_pos rfl, d3, if_neg (show ¬ (5 : Int32) ≤ nI s from le_nI (a := s) (b := 5) (by omega) (by decide) hs5), ke_s]
      have e2 : f_X8_readItem N = rSc1 N1 := by
        unfold f_X8_readItem
        rw [h18, if_pos rfl, h19, if_pos rfl, d5, if_neg (show ¬ nI s = (5 : Int32) from fun q => hs ((nI_eq (b := 5) (by omega) (by decide)).mp q)), b45_e, k1, xb1_e, h19, if_pos rfl]
      rw [e1, e2]
      exact go_sc1 hT (cFi.rf M) k2.n.i hM (k2.tx hN) k3 (by rw [k2.2.2 20 (by omega)]; exact h20) (hD.of (cFr.rf M) k2.n) hs5
  · obtain ⟨hk, h18, h19⟩ := h
    rw [hk] at h5
    by_cases he : e = 6
    · refine fail ?_ ?_
      · unfold f_X3_readItem f_X3_readItem_b47 f_X3_readItem_b95
        rw [h5, if_neg (by decide), if_pos rfl, d4, he, if_pos (show (6 : Int32) ≤ nI 6 by decide)]
      · unfold f_X8_readItem
        rw [h18, if_pos rfl, h19, if_neg (by decide), d6, he, if_pos (show nI 6 = (6 : Int32) from rfl)]
    · have he6 : e < 6 := by omega
      obtain ⟨N1, k1, k2, k3⟩ := reads
      refine ⟨s, e + 1, by omega, ?_⟩
      have e1 : f_X3_readItem M = xb2 (f_X3_readEgg (nI e) M) KE := by
        unfold f_X3_readItem f_X3_readItem_b47
        rw [h5, if_neg (by decide), if_pos rfl, d4, if_neg (show ¬ (6 : Int32) ≤ nI e from le_nI (a := e) (b := 6) (by omega) (by decide) he6), ke_e]
      have e2 : f_X8_readItem N = rEg1 N1 := by
        unfold f_X8_readItem
        rw [h18, if_pos rfl, h19, if_neg (by decide), d6, if_neg (show ¬ nI e = (6 : Int32) from fun q => he ((nI_eq (b := 6) (by omega) (by decide)).mp q)), b45_e, k1, xb1_e, h19, if_neg (by decide)]
      rw [e1, e2]
      exact go_eg1 hT (cFi.rf M) k2.n.i hM (k2.tx hN) k3 (by rw [k2.2.2 20 (by omega)]; exact h20) (hD.of (cFr.rf M) k2.n) he6
  · exact other (by rw [h.1]; decide) (by rw [h.1]; decide) (by rw [h.2]; decide)
/-- what reading leaves as it was in the reference -/
def rFb (N N' : xMem) : Prop := (∀ o, o ≠ 8 → N' o = N o) ∧ (∀ r, r ≠ 0 → r ≠ 24 → r ≠ 26 → N' 8 r = N 8 r) ∧ ∀ k, k < 16 → N' 8 0 k = N 8 0 k
theorem rFb.tr {A B C : xMem} (h1 : rFb A B) (h2 : rFb B C) : rFb A C := ⟨fun o ho => (h2.1 o ho).trans (h1.1 o ho), fun r a b c => (h2.2.1 r a b c).trans (h1.2.1 r a b c), fun k hk => (h2.2.2 k hk).trans (h1.2.2 k hk)⟩
theorem rFi.b {A B : xMem} (h : rFi A B) : rFb A B := ⟨h.1, h.2.1, fun k hk => h.2.2 k (Or.inl hk)⟩
theorem rFb.rf (A : xMem) : rFb A A := ⟨fun _ _ => rfl, fun _ _ _ _ => rfl, fun _ _ => rfl⟩
theorem rFb.f (N : xMem) {k : Nat} (v : Int32) (hk : 16 ≤ k) : rFb N (xsf N 8 k v) := ⟨fun o ho => xsf_o ho, fun r a _ _ => xsf_r a, fun j hj => xsf_k (by omega)⟩
theorem rFb.tx {N N' : xMem} {T : Nat → Nat} {tl : Nat} (h : rFb N N') (ht : rTx N T tl) : rTx N' T tl := ⟨(h.2.2 15 (by omega)).trans ht.1, fun k hk => by rw [h.2.1 15 (by decide) (by decide) (by decide)]; exact ht.2 k hk⟩
def RD (tl : Nat) (M N : xMem) (rc : Option (Int32 × xMem)) (rr : Option (Int32 × xMem)) : Prop := ∃ M' N', cFi M M' ∧ rFb N N' ∧ ((∃ st, st ≤ tl ∧ rc = some (-10 - nI st, M') ∧ rr = some (-10 - nI st, N')) ∨ ∃ s e, rc = some (nI (s + e), M') ∧ rr = f_X8_barn_b60 N' ∧ N' 8 0 20 = 0 ∧ N' 8 0 21 = nI (s + e) ∧ DR M' N' s e)
theorem go_items {T : Nat → Nat} {tl : Nat} (hT : gTx T tl) : ∀ n M N s e st kd nm nx, 12 - (s + e) < n → cTx M T tl → rTx N T tl → N 8 0 20 = 0 → N 8 0 21 = nI (s + e) → DR M N s e → st ≤ tl → nx ≤ tl → M 1 0 3 = nI nx → M 1 0 4 = nI st → M 1 0 5 = kd → Cur N st kd nm nx → RD tl M N (f_X3_readItems_l27 n (nI (s + e)) M) (f_X8_barn_l29 n N) := by
  intro n
  induction n with
  | zero => intro M N s e st kd nm nx h; omega
  | succ n ih =>
    intro M N s e st kd nm nx hn hM hN h20 h21 hD hst hnx h3 h4 h5 hC
    have hs5 := hD.1
    have he6 := hD.2.1
    have hlt : ¬ (120 : Int32) ≤ nI (s + e) := le_nI (a := s + e) (b := 120) (by omega) (by decide) (by omega)
    rw [f_X3_readItems_l27, f_X8_barn_l29, if_neg hlt, h5]
    by_cases hk : kd = 0
    · have h18 : N 8 0 18 = 0 := by
        rcases hC.2.2 with h | h | h | h | h | h
        · exact h.2
        · rw [h.1] at hk; exact absurd hk (by decide)
        · rw [h.1] at hk; exact absurd hk (by decide)
        · rw [h.1] at hk; exact absurd hk (by decide)
        · rw [h.1] at hk; exact absurd hk (by decide)
        · rw [h.1] at hk; exact absurd hk (by decide)
      rw [if_pos hk, h18, if_pos rfl]
      exact ⟨M, N, cFi.rf M, rFb.rf N, Or.inr ⟨s, e, rfl, rfl, h20, h21, hD⟩⟩
    · have h18 : ¬ N 8 0 18 = 0 := by
        rcases hC.2.2 with h | h | h | h | h | h
        · exact absurd h.1 hk
        · rw [h.2]; decide
        · rw [h.2.1]; decide
        · rw [h.2.1]; decide
        · rw [h.2.1]; decide
        · rw [h.2]; decide
      rw [if_neg hk, if_neg h18, h20, if_pos rfl]
      obtain ⟨s', e', hse, M1, N1, g1, g2, g3, g4⟩ := go_item hT hM hN h20 hD hst hnx h3 h4 h5 hC
      rw [g1, xb1_e, xlet_e, g3.2.2 21 (Or.inr rfl), h21, nI_1]
      obtain ⟨N2, hN2⟩ : ∃ N2, N2 = xsf N1 8 21 (nI (s + e + 1)) := ⟨_, rfl⟩
      rw [← hN2]
      have f2 : rFb N N2 := by rw [hN2]; exact g3.b.tr (rFb.f _ _ (by decide))
      rcases g4 with ⟨k1, k2, st', k3, k4, k5⟩ | ⟨k1, k2, k3, k4⟩
      · rw [k1, xb2_e, if_pos rfl, k4]
        refine ⟨M1, N2, g2, f2, Or.inl ⟨st', k3, rfl, ?_⟩⟩
        obtain ⟨n', rfl⟩ : ∃ n', n = n' + 1 := ⟨n - 1, by omega⟩
        have e20 : N2 8 0 20 = 1 := by rw [hN2, xsf_k (by decide), k2]
        have e17 : N2 8 0 17 = nI st' := by rw [hN2, xsf_k (by decide), k5]
        have hb : f_X8_barn_b60 N2 = some (-10 - nI st', N2) := by
          unfold f_X8_barn_b60
          rw [e20, if_neg (by decide), e17]
        rw [f_X8_barn_l29, e20, if_neg (show ¬ (1 : Int32) = 0 by decide), hb, ite_self]
      · obtain ⟨p, st', kd', nm', nx', a1, a2, a3, a4, a5, a6⟩ := k3
        obtain ⟨M2, c1, c2, c3, c4, c5, c6⟩ := a5 M1 (g2.tx hM) a4
        rw [k1, xb2_e, if_neg (by decide), c1, xb1_e, ← hse]
        have hD2 : DR M2 N2 s' e' := by
          have := k4.of c2 ⟨fun _ _ => rfl, fun _ _ => rfl, fun _ _ => rfl⟩
          unfold DR at this ⊢
          rw [hN2, xsf_k (by decide), xsf_k (by decide), xsf_r (by decide), xsf_r (by decide)]
          exact this
        have hC2 : Cur N2 st' kd' nm' nx' := by
          unfold Cur at a6 ⊢
          rw [hN2, xsf_k (by decide), xsf_k (by decide), xsf_k (by decide), xsf_k (by decide)]
          exact a6
        obtain ⟨M', N', i1, i2, i3⟩ := ih M2 N2 s' e' st' kd' nm' nx' (by omega) (c2.tx (g2.tx hM)) (f2.tx hN) (by rw [hN2, xsf_k (by decide), k2]) (by rw [hN2, xsf_0, hse]) hD2 a2 a3 c3 c4 c5 hC2
        exact ⟨M', N', (g2.tr c2.i).tr i1, f2.tr i2, i3⟩
theorem go_read {T : Nat → Nat} {tl : Nat} {M N : xMem} (hT : gTx T tl) (hM : cTx M T tl) (hN : rTx N T tl) : RD tl M N (f_X3_readItems M) (f_X8_barn N) := by
  obtain ⟨M1, hM1⟩ : ∃ M1, M1 = xsf (xsf (xsf M 2 0 0) 2 1 0) 1 3 0 := ⟨_, rfl⟩
  obtain ⟨N1, hN1⟩ : ∃ N1, N1 = xsf (xsf (xsf (xsf (xsf N 8 16 0) 8 20 0) 8 21 0) 8 22 0) 8 24 0 := ⟨_, rfl⟩
  have fc : cFi M M1 := by rw [hM1]; exact ((cFi.sf _ _ _).tr (cFi.sf _ _ _)).tr (cFr.f _ _ (by decide)).i
  have fr : rFb N N1 := by rw [hN1]; exact ((((rFb.f _ _ (by decide)).tr (rFb.f _ _ (by decide))).tr (rFb.f _ _ (by decide))).tr (rFb.f _ _ (by decide))).tr (rFb.f _ _ (by decide))
  obtain ⟨st, kd, nm, nx, b1, b2, b3, b4⟩ := tok_ex (T := T) (tl := tl) (p := 0) hT (Nat.zero_le _)
  obtain ⟨M2, g1, g2, g3, g4, g5, g6⟩ := b3 M1 (fc.tx hM) (by rw [hM1, xsf_0]; rfl)
  obtain ⟨N2, k1, k2, k3⟩ := b4 N1 (fr.tx hN) (by rw [hN1, xsf_k (by decide), xsf_k (by decide), xsf_k (by decide), xsf_k (by decide), xsf_0]; rfl)
  have m2 : M2 2 = M1 2 := g2.1 2 (by decide)
  have hD : DR M2 N2 0 0 := by
    refine ⟨by decide, by decide, ?_, ?_, ?_, ?_, fun j hj => absurd hj (by omega), fun j hj => absurd hj (by omega)⟩
    · rw [m2, hM1, xsf_o (by decide), xsf_k (by decide), xsf_0]; rfl
    · rw [m2, hM1, xsf_o (by decide), xsf_0]; rfl
    · rw [k2.2.2 22 (by omega), hN1, xsf_k (by decide), xsf_0]; rfl
    · rw [k2.2.2 24 (by omega), hN1, xsf_0]; rfl
  obtain ⟨M', N', i1, i2, i3⟩ := go_items hT FU M2 N2 0 0 st kd nm nx (FU_gt (by decide)) (g2.tx (fc.tx hM)) (k2.tx (fr.tx hN)) (by rw [k2.2.2 20 (by omega), hN1, xsf_k (by decide), xsf_k (by decide), xsf_k (by decide), xsf_0]) (by rw [k2.2.2 21 (by omega), hN1, xsf_k (by decide), xsf_k (by decide), xsf_0]; rfl) hD b1 b2 g3 g4 g5 k3
  have e1 : f_X3_readItems M = f_X3_readItems_l27 FU (nI (0 + 0)) M2 := by
    unfold f_X3_readItems
    rw [xlet_e, xlet_e, xlet_e, ← hM1, g1, xb1_e]
    rfl
  have e2 : f_X8_barn N = f_X8_barn_l29 FU N2 := by
    unfold f_X8_barn
    rw [xlet_e, xlet_e, xlet_e, xlet_e, xlet_e, ← hN1, k1, xb1_e]
  rw [e1, e2]
  exact ⟨M', N', (fc.tr g2.i).tr i1, (fr.tr k2.n.i.b).tr i2, i3⟩
