theorem vF_set {ns ne r j : Nat} {F F' : Nat → Nat → Int32} {v : Int32} (hv : vF ns ne F) (hr : r ≠ 5) (f1 : ∀ q, q ≠ r → F' q = F q) (f2 : ∀ k, F' r k = if k = j then v else F r k) (ok : (r = 2 ∧ ∃ w, (w ≤ ns ∨ w = 8 ∨ w = 9) ∧ v = nI w) ∨ (r = 4 ∧ ∃ w, 1 ≤ w ∧ w ≤ 99 ∧ v = nI w) ∨ (r = 6 ∧ ∃ w, w ≤ 999 ∧ v = nI w)) : vF ns ne F' := by
  refine ⟨fun e he => ⟨?_, ?_⟩, fun s hs => ⟨?_, ?_, ?_⟩, fun s t hs ht => ?_⟩
  · have g := (hv.1 e he).1
    rcases ok with ⟨rfl, w, hw, rfl⟩ | ⟨rfl, -⟩ | ⟨rfl, -⟩
    · rw [f2]
      by_cases hj : e = j
      · rw [if_pos hj]; exact ⟨w, hw, rfl⟩
      · rw [if_neg hj]; exact g
    · rw [f1 2 (by decide)]; exact g
    · rw [f1 2 (by decide)]; exact g
  · have g := (hv.1 e he).2
    rcases ok with ⟨rfl, -⟩ | ⟨rfl, -⟩ | ⟨rfl, -⟩ <;> (rw [f1 3 (by decide)]; exact g)
  · have g := (hv.2.1 s hs).1
    rcases ok with ⟨rfl, -⟩ | ⟨rfl, w, hw, hw2, rfl⟩ | ⟨rfl, -⟩
    · rw [f1 4 (by decide)]; exact g
    · rw [f2]
      by_cases hj : s = j
      · rw [if_pos hj]; exact ⟨w, hw, hw2, rfl⟩
      · rw [if_neg hj]; exact g
    · rw [f1 4 (by decide)]; exact g
  · have g := (hv.2.1 s hs).2.1
    rw [f1 5 (by omega)]; exact g
  · have g := (hv.2.1 s hs).2.2
    rcases ok with ⟨rfl, -⟩ | ⟨rfl, -⟩ | ⟨rfl, w, hw, rfl⟩
    · rw [f1 6 (by decide)]; exact g
    · rw [f1 6 (by decide)]; exact g
    · rw [f2]
      by_cases hj : s = j
      · rw [if_pos hj]; exact ⟨w, hw, rfl⟩
      · rw [if_neg hj]; exact g
  · rw [f1 5 (by omega)]; exact hv.2.2 s t hs ht
/-- both remember, then slot j of row r of the floor, slot b + j of st, become v -/
theorem push_set {M : xMem} {L : xLL} {ns ne r b n j : Nat} {v : Int32} (h : Rel M L) (hT : rT M ns ne) (hb : (r = 2 ∧ b = 0 ∧ n = ne) ∨ (r = 4 ∧ b = 12 ∧ n = ns) ∨ (r = 6 ∧ b = 22 ∧ n = ns)) (hj : j < n) (ok : (r = 2 ∧ ∃ w, (w ≤ ns ∨ w = 8 ∨ w = 9) ∧ v = nI w) ∨ (r = 4 ∧ ∃ w, 1 ≤ w ∧ w ≤ 99 ∧ v = nI w) ∨ (r = 6 ∧ ∃ w, w ≤ 999 ∧ v = nI w)) :
    ∃ M1 M3, f_X2_remember 0 M = some M1 ∧ M1 3 = M 3 ∧ M1 8 = M 8 ∧ M1 (0 + 9) = M (0 + 9) ∧ f_X8_remembers (xst M1 (0 + 9) r (nI j) v) = some M3 ∧ M3 8 7 = M 8 7 ∧ (∀ k, k ≠ 8 → M3 8 0 k = M 8 0 k) ∧ M3 (0 + 9) = xst M1 (0 + 9) r (nI j) v (0 + 9) ∧ Rel (xst M3 8 7 (nI (b + j)) v) L ∧ rF ns ne (xst M1 (0 + 9) r (nI j) v (0 + 9)) (xst M3 8 7 (nI (b + j)) v 8 7) 0 := by
  obtain ⟨ns', ne', hT', hF, ⟨kn, lt, p1, p2, p3, p4, p5, p6⟩, hI, hX, hl, hL⟩ := id h
  have h5 := hT.1
  have h6 := hT.2.1
  have en : ns' = ns := (nI_eq (by have := hT'.1; omega) (by omega)).mp (hT'.2.2.1.symm.trans hT.2.2.1)
  have ee : ne' = ne := (nI_eq (by have := hT'.2.1; omega) (by omega)).mp (hT'.2.2.2.1.symm.trans hT.2.2.2.1)
  subst en ee
  have hm : (lt + 1) % 10 < 10 := Nat.mod_lt _ (by decide)
  obtain ⟨M1, g1, a1, a2, a3, a4⟩ := e_remember p3 p2 p4 p1
  have m3 : M1 3 = M 3 := a4 3 (by decide) (by omega)
  have m8 : M1 8 = M 8 := a4 8 (by decide) (by omega)
  have m9 : M1 (0 + 9) = M (0 + 9) := a4 (0 + 9) (by decide) (by omega)
  have w8 : xst M1 (0 + 9) r (nI j) v 8 = M 8 := by rw [xst_o (by decide), m8]
  obtain ⟨M3, g3, c1, c2, c3, c4, c5⟩ := e_remembers (M := xst M1 (0 + 9) r (nI j) v) (by rw [w8]; exact p5) p1
  have s7 : M3 8 7 = M 8 7 := by rw [c3 7 (by decide) (by decide), w8]
  have s9 : M3 (0 + 9) = xst M1 (0 + 9) r (nI j) v (0 + 9) := c4 (0 + 9) (by decide)
  have hjs : j < 6 := by rcases hb with ⟨-, -, rfl⟩ | ⟨-, -, rfl⟩ | ⟨-, -, rfl⟩ <;> omega
  have hbs : b ≤ 22 := by omega
  have f1 : ∀ q, q ≠ r → xst M1 (0 + 9) r (nI j) v (0 + 9) q = M (0 + 9) q := fun q hq => by rw [xst_r hq, m9]
  have f2 : ∀ k, xst M1 (0 + 9) r (nI j) v (0 + 9) r k = if k = j then v else M (0 + 9) r k := fun k => by rw [xst_e (by omega), m9]
  have s1 : ∀ k, xst M3 8 7 (nI (b + j)) v 8 7 k = if k = b + j then v else M 8 7 k := fun k => by rw [xst_e (by omega), s7]
  have hrf : rF ns' ne' (xst M1 (0 + 9) r (nI j) v (0 + 9)) (xst M3 8 7 (nI (b + j)) v 8 7) 0 := rF_set hF.1 h5 h6 (by omega) hj f1 f2 s1
  have hvf : vF ns' ne' (xst M1 (0 + 9) r (nI j) v (0 + 9)) := vF_set hF.2 (by omega) f1 f2 ok
  refine ⟨M1, M3, g1, m3, m8, m9, g3, s7, fun k hk => by rw [c2 k hk, w8], s9, ?_, hrf⟩
  have e9 : xst M3 8 7 (nI (b + j)) v (0 + 9) = xst M1 (0 + 9) r (nI j) v (0 + 9) := by rw [xst_o (by decide), s9]
  exact push hT hF.1 hF.2 p1 p2 p6 hI hX hl hL a1 a2 a3 a4 (fun o ho => xst_o ho) c1 c2 c3 c4 c5 (fun o ho => xst_o ho) (fun q hq _ => xst_r hq) (by rw [e9]; exact hrf) (by rw [e9]; exact hvf)
