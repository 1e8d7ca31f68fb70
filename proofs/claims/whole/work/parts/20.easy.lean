/-- what the relation looks at is the same in both memories -/
def smR (M M' : xMem) : Prop :=
  M' 3 = M 3 ∧ M' 0 7 = M 0 7 ∧ M' 1 0 1 = M 1 0 1 ∧ M' 1 1 = M 1 1 ∧ M' 4 = M 4 ∧ M' 7 0 3 = M 7 0 3 ∧ M' 7 2 = M 7 2 ∧ M' 7 3 = M 7 3 ∧ (∀ i, i < 14 → i ≠ 1 → M' (i + 9) = M (i + 9)) ∧
  M' 8 2 = M 8 2 ∧ M' 8 3 = M 8 3 ∧ M' 8 4 = M 8 4 ∧ M' 8 6 = M 8 6 ∧ M' 8 7 = M 8 7 ∧ M' 8 8 = M 8 8 ∧ M' 8 10 = M 8 10 ∧ M' 8 11 = M 8 11 ∧ M' 8 13 = M 8 13 ∧ M' 8 15 = M 8 15 ∧
  M' 8 0 0 = M 8 0 0 ∧ M' 8 0 4 = M 8 0 4 ∧ M' 8 0 8 = M 8 0 8 ∧ M' 8 0 11 = M 8 0 11 ∧ M' 8 0 15 = M 8 0 15
theorem ringAt_lt (lt kn j : Nat) : ringAt lt kn j < 10 := Nat.mod_lt _ (by decide)
theorem Rel.same {M M' : xMem} {L : xLL} (hs : smR M M') (h : Rel M L) : Rel M' L := by
  obtain ⟨a1, a2, a3, a4, a5, a6, a7, a8, a9, b1, b2, b3, b4, b5, b6, b7, b8, b9, b10, c1, c2, c3, c4, c5⟩ := hs
  obtain ⟨ns, ne, hT, hF, hP, hI, hX, hl, hL⟩ := h
  refine ⟨ns, ne, ?_, ?_, ?_, ?_, ?_, ?_, hL⟩
  · unfold rT at hT ⊢
    rw [a1, c1, c2, b1, b2, b3, b4]; exact hT
  · rw [a9 0 (by omega) (by omega), b5]; exact hF
  · obtain ⟨kn, lt, h1, h2, h3, h4, h5, h6⟩ := hP
    refine ⟨kn, lt, h1, h2, by rw [a5]; exact h3, by rw [a5]; exact h4, by rw [c3]; exact h5, fun j hj => ?_⟩
    have := ringAt_lt lt kn j
    rw [a9 (ringAt lt kn j + 4) (by omega) (by omega), b6]
    exact h6 j hj
  · intro i hi
    rw [a2, b8, a9 (i + 2) (by omega) (by omega), b7]
    exact hI i hi
  · unfold rX at hX ⊢
    rw [a6, c4, a7, a8, b9]; exact hX
  · unfold rL at hl ⊢
    rw [a3, c5, b10, a4]; exact hl
theorem s_count : S_count Rel := by
  intro a1 M L h
  obtain ⟨ns, ne, hT, hF, hP, hI, ⟨nt, hnt, hx1, hx2, hx3⟩, ⟨tl, htl, hl1, hl2, hl3⟩, hL⟩ := id h
  obtain ⟨h1, h2, h3, h4, h5, h6, -⟩ := hT
  have e : f_X8_count a1 M = f_X7_count a1 M := by
    unfold f_X7_count f_X8_count
    rw [h3, h4, h5, h6, hx1, hx2, hl1, hl2]
  have e2 : ∃ r, f_X7_count a1 M = some r := by
    unfold f_X7_count
    by_cases q0 : a1 = 0
    · exact ⟨_, if_pos q0⟩
    · rw [if_neg q0]
      by_cases q1 : a1 = 1
      · exact ⟨_, if_pos q1⟩
      · rw [if_neg q1]
        by_cases q2 : a1 = 2
        · exact ⟨_, if_pos q2⟩
        · rw [if_neg q2]
          by_cases q3 : a1 = 3
          · exact ⟨_, if_pos q3⟩
          · exact ⟨_, if_neg q3⟩
  obtain ⟨r, hr⟩ := e2
  exact ⟨r, hr, by rw [e]; exact hr, h⟩
theorem s_trace : S_trace Rel := by
  intro M L h
  obtain ⟨ns, ne, hT, hF, hP, hI, hX, hl, hL⟩ := id h
  exact ⟨L 0, rfl, by unfold f_X8_trace; rw [hL], h⟩
theorem s_clear : S_clear Rel := by
  intro M L h
  obtain ⟨ns, ne, hT, hF, hP, hI, hX, ⟨tl, htl, hl1, hl2, hl3⟩, hL⟩ := id h
  refine ⟨nI tl, xsf M 1 1 0, xsf (xsf M 1 1 0) 8 15 0, by unfold f_X7_clear; rw [xlet_e, hl1], by unfold f_X8_clear; rw [xlet_e]; simp [xsf, xs, va_up, hl2], ns, ne, ?_, ?_, ?_, ?_, ?_, ⟨0, by omega, by simp [xsf, xs, va_up, upd, nI], by simp [xsf, xs, va_up, upd, nI], fun k hk => absurd hk (by omega)⟩, hL⟩
  · simpa [rT, xsf, xs, va_up, upd] using hT
  · simpa [xsf, xs, va_up, upd] using hF
  · obtain ⟨kn, lt, h1, h2, h3, h4, h5, h6⟩ := hP
    refine ⟨kn, lt, h1, h2, by simpa [xsf, xs, va_up, upd] using h3, by simpa [xsf, xs, va_up, upd] using h4, by simpa [xsf, xs, va_up, upd] using h5, fun j hj => ?_⟩
    simpa [xsf, xs, va_up, upd] using h6 j hj
  · intro i hi
    have := hI i hi
    simpa [xsf, xs, va_up, upd] using this
  · simpa [rX, xsf, xs, va_up, upd] using hX
theorem s_forget : S_forget Rel := by
  intro M L h
  obtain ⟨ns, ne, hT, hF, hP, hI, ⟨nt, hnt, hx1, hx2, hx3⟩, hl, hL⟩ := id h
  refine ⟨nI nt, xsf M 7 3 0, xsf (xsf M 7 3 0) 8 11 0, by unfold f_X7_forget; rw [xlet_e, hx1], by unfold f_X8_forget; rw [xlet_e]; simp [xsf, xs, va_up, hx2], ns, ne, ?_, ?_, ?_, ?_, ⟨0, by omega, by simp [xsf, xs, va_up, upd, nI], by simp [xsf, xs, va_up, upd, nI], fun k hk => absurd hk (by omega)⟩, ?_, hL⟩
  · simpa [rT, xsf, xs, va_up, upd] using hT
  · simpa [xsf, xs, va_up, upd] using hF
  · obtain ⟨kn, lt, h1, h2, h3, h4, h5, h6⟩ := hP
    refine ⟨kn, lt, h1, h2, by simpa [xsf, xs, va_up, upd] using h3, by simpa [xsf, xs, va_up, upd] using h4, by simpa [xsf, xs, va_up, upd] using h5, fun j hj => ?_⟩
    simpa [xsf, xs, va_up, upd] using h6 j hj
  · intro i hi
    have := hI i hi
    simpa [xsf, xs, va_up, upd] using this
  · simpa [rL, xsf, xs, va_up, upd] using hl
