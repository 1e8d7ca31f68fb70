theorem cFi.sm {M M' : xMem} (h : cFi M M') : smR M M' := by
  have hh : ∀ o, o ≠ 1 → o ≠ 2 → M' o = M o := h.1
  have o8 := hh 8 (by decide) (by decide)
  exact ⟨hh 3 (by decide) (by decide), by rw [hh 0 (by decide) (by decide)], h.2.2, h.2.1 1 (by decide), hh 4 (by decide) (by decide), by rw [hh 7 (by decide) (by decide)], by rw [hh 7 (by decide) (by decide)], by rw [hh 7 (by decide) (by decide)], fun i hi1 hi2 => hh _ (by omega) (by omega), by rw [o8], by rw [o8], by rw [o8], by rw [o8], by rw [o8], by rw [o8], by rw [o8], by rw [o8], by rw [o8], by rw [o8], by rw [o8], by rw [o8], by rw [o8], by rw [o8], by rw [o8]⟩
theorem rFb.sm {N N' : xMem} (h : rFb N N') : smR N N' :=
  ⟨h.1 3 (by decide), by rw [h.1 0 (by decide)], by rw [h.1 1 (by decide)], by rw [h.1 1 (by decide)], h.1 4 (by decide), by rw [h.1 7 (by decide)], by rw [h.1 7 (by decide)], by rw [h.1 7 (by decide)], fun i _ _ => h.1 _ (by omega), h.2.1 2 (by decide) (by decide) (by decide), h.2.1 3 (by decide) (by decide) (by decide), h.2.1 4 (by decide) (by decide) (by decide), h.2.1 6 (by decide) (by decide) (by decide), h.2.1 7 (by decide) (by decide) (by decide), h.2.1 8 (by decide) (by decide) (by decide), h.2.1 10 (by decide) (by decide) (by decide), h.2.1 11 (by decide) (by decide) (by decide), h.2.1 13 (by decide) (by decide) (by decide), h.2.1 15 (by decide) (by decide) (by decide), h.2.2 0 (by decide), h.2.2 4 (by decide), h.2.2 8 (by decide), h.2.2 11 (by decide), h.2.2 15 (by decide)⟩
theorem m10_neg {st : Nat} (h : st ≤ 120) : (-10 - nI st).toInt = -10 - (st : Int) := by
  rw [i32_sub (by decide) (by decide) (by rw [nI_toInt (by omega)]; omega) (by rw [nI_toInt (by omega)]; omega), nI_toInt (by omega)]
  rfl
theorem s_barn : S_barn Rel := by
  intro M L h
  obtain ⟨ns, ne, hT, hF, ⟨kn, lt, p1, p2, p3, p4, p5, p6⟩, hI, hX, ⟨tl, htl, hl1, hl2, hl3⟩, hL⟩ := id h
  obtain ⟨T, hTd⟩ : ∃ T : Nat → Nat, T = fun k => (M 1 1 k).toNatClampNeg := ⟨_, rfl⟩
  have hTk : ∀ k, k < tl → M 1 1 k = nI (T k) ∧ T k ≤ 255 := fun k hk => by
    obtain ⟨w, hw, e⟩ := (hl3 k hk).2
    have : T k = w := by rw [hTd]; show (M 1 1 k).toNatClampNeg = w; rw [e]; exact nI_clamp (by omega)
    rw [this]
    exact ⟨e, hw⟩
  have hG : gTx T tl := ⟨htl, fun k hk => (hTk k hk).2⟩
  have hcM : cTx M T tl := ⟨hl1, fun k hk => (hTk k hk).1⟩
  have hrN : ∀ N : xMem, N 8 = M 8 → rTx N T tl := fun N hN => ⟨by rw [hN]; exact hl2, fun k hk => by rw [hN, (hl3 k hk).1]; exact (hTk k hk).1⟩
  obtain ⟨M1, N0, a1, -, a3⟩ := go_read hG hcM (hrN M rfl)
  have o8 : M1 8 = M 8 := a1.1 8 (by decide) (by decide)
  rcases a3 with ⟨st, hst, c1, -⟩ | ⟨s, e, c1, -, -, -, hD0⟩
  · have hneg : ¬ (0 : Int32) ≤ -10 - nI st := fun q => by
      rw [i32_le, m10_neg (by omega), show (0 : Int32).toInt = 0 by decide] at q
      omega
    have e1 : f_X7_barn M = some (-10 - nI st, M1) := by
      unfold f_X7_barn
      rw [c1, xb2_e, if_neg hneg]
    obtain ⟨M1', N', -, b2, b3⟩ := go_read hG hcM (hrN M1 o8)
    rcases b3 with ⟨st', hst', d1, d2⟩ | ⟨s, e, d1, -, -, -, hD⟩
    · rw [c1] at d1
      obtain ⟨q1, -⟩ := Prod.mk.inj (Option.some.inj d1)
      exact ⟨-10 - nI st, M1, N', e1, by rw [q1]; exact d2, (h.same a1.sm).same b2.sm⟩
    · rw [c1] at d1
      obtain ⟨q1, -⟩ := Prod.mk.inj (Option.some.inj d1)
      have := congrArg Int32.toInt q1
      rw [m10_neg (by omega), nI_toInt (by have := hD.1; have := hD.2.1; omega)] at this
      omega
  · have hse : s + e ≤ 11 := by have := hD0.1; have := hD0.2.1; omega
    obtain ⟨Mf, e1, f8, f30, f31, f3s, f3k, f9e, f9s, f41, f42, f7, f07, f1⟩ := e_barn c1 (nI_pos' (by omega))
    obtain ⟨M1', N', -, b2, b3⟩ := go_read hG hcM (hrN Mf (by rw [f8, o8]))
    rcases b3 with ⟨st', hst', d1, d2⟩ | ⟨s2, e2, d1, d2, d3, d4, hD⟩
    · rw [c1] at d1
      obtain ⟨q1, -⟩ := Prod.mk.inj (Option.some.inj d1)
      have := congrArg Int32.toInt q1
      rw [m10_neg (by omega), nI_toInt (by omega)] at this
      omega
    · rw [c1] at d1
      obtain ⟨q1, q2⟩ := Prod.mk.inj (Option.some.inj d1)
      subst q2
      obtain ⟨N2, g1, g2, g3, g4, g5, g6, g7, g8, g9, g10, g11⟩ := r_settles N'
      obtain ⟨h5, h6, D3, D4, D5, D6, D7, D8⟩ := hD
      have oo : ∀ o, o ≠ 8 → N2 o = Mf o := fun o ho => (g2 o ho).trans (b2.1 o ho)
      have o3 := oo 3 (by decide)
      have o9 := oo (0 + 9) (by decide)
      have e2' : f_X8_barn Mf = some (nI (s + e), N2) := by
        rw [d2]
        unfold f_X8_barn_b60
        rw [d3, if_pos rfl, g1, xb1_e, g8, d4, ← q1]
      refine ⟨nI (s + e), Mf, N2, e1, e2', s2, e2, ⟨h5, h6, ?_, ?_, ?_, ?_, fun j hj => ?_, fun j hj => ?_⟩, ⟨⟨fun j hj => ⟨?_, ?_⟩, fun j hj => ⟨?_, ?_, ?_⟩⟩, fun j hj => ⟨?_, ?_⟩, fun j hj => ⟨?_, ?_, ?_⟩, fun j k hj hk q => ?_⟩, ⟨0, lt, by omega, p2, ?_, ?_, ?_, fun j hj => absurd hj (by omega)⟩, fun i hi => ⟨?_, Or.inl ?_⟩, ⟨0, by omega, ?_, ?_, fun j hj => absurd hj (by omega)⟩, ⟨0, by omega, ?_, ?_, fun j hj => absurd hj (by omega)⟩, hL⟩
      · rw [o3, f30, D3]
      · rw [o3, f31, D4]
      · rw [g3, D5]
      · rw [g4, D6]
      · obtain ⟨x1, x2, x3, x4, x5, x6⟩ := D7 j hj
        obtain ⟨y1, y2, y3⟩ := f3s j (by omega)
        obtain ⟨⟨z1, z2, z3⟩, -⟩ := g10 j (by omega)
        rw [o3, y1, y2, y3, z1, z2, z3]
        exact ⟨x1, x2, x3, x4, x5, x6⟩
      · obtain ⟨x1, x2, x3, x4⟩ := D8 j hj
        rw [o3, f3k j (by omega), (g11 j (by omega)).1]
        exact ⟨x2, x4⟩
      · rw [Nat.zero_add, o9, (g11 j (by omega)).2.2, (f9e j (by omega)).1]
      · rw [Nat.zero_add, o9, (g11 j (by omega)).2.1, (f9e j (by omega)).2]
        exact (D8 j hj).2.2.1
      · rw [Nat.zero_add, o9, (g10 j (by omega)).2.1, (f9s j (by omega)).1]
        exact (D7 j hj).2.2.2.1
      · rw [Nat.zero_add, o9, (g10 j (by omega)).2.2.1, (f9s j (by omega)).2.1]
      · rw [Nat.zero_add, o9, (g10 j (by omega)).2.2.2, (f9s j (by omega)).2.2]
      · exact ⟨0, Or.inl (Nat.zero_le _), by rw [o9, (f9e j (by omega)).1]; rfl⟩
      · rw [o9, (f9e j (by omega)).2]
        exact (D8 j hj).1
      · rw [o9, (f9s j (by omega)).1]
        exact (D7 j hj).1
      · exact ⟨j, hj, by rw [o9, (f9s j (by omega)).2.1]⟩
      · exact ⟨0, by omega, by rw [o9, (f9s j (by omega)).2.2]; rfl⟩
      · rw [o9, (f9s j (by omega)).2.1, (f9s k (by omega)).2.1] at q
        exact (nI_eq (by omega) (by omega)).mp q
      · rw [oo 4 (by decide), f41, a1.1 4 (by decide) (by decide)]
        exact p3
      · rw [oo 4 (by decide), f42]; rfl
      · rw [g5]; rfl
      · rw [g9 i hi, oo 0 (by decide), f07 i hi]
      · rw [oo 0 (by decide), f07 i hi]
      · rw [oo 7 (by decide), f7]; rfl
      · rw [g6]; rfl
      · rw [oo 1 (by decide), f1]; rfl
      · rw [g7]; rfl
