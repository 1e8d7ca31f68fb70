set_option maxHeartbeats 4000000 in
set_option maxRecDepth 100000 in
theorem st_adr {G : xG} {x0 m0 : Nat} {w : xS} {u : Nat → Nat → Nat} : (([] ++ bX G x0 w) ++ bM G m0 u).map (fun (q : Nat × va_E) => q.1) = ixo.map (fun p => qA x0 m0 w u p.1 p.2) := by
  simp only [bX, bX0, bR, bT, bF, bP, bS, bK, bE, bM, ixo, List.map_append, List.map_cons, List.map_nil, List.nil_append, List.cons_append, List.append_assoc, qA]
theorem st_apart {Z : Nat → Prop} {G : xG} {x0 m0 : Nat} {w : xS} {u : Nat → Nat → Nat} (hq : G.2.2.1 = qA x0 m0 w u) (hD : va_D Z (([] ++ bX G x0 w) ++ bM G m0 u)) : xX G ∧ ∀ p ∈ ixs, Z (xq G p.1 p.2) := by
  rw [va_D_iff] at hD
  have e : ∀ p : Nat × Nat, xq G p.1 p.2 = qA x0 m0 w u p.1 p.2 := fun p => by unfold xq; rw [hq]
  have hnd := hD.1
  rw [st_adr] at hnd
  refine ⟨fun p hp p' hp' h => ?_, fun p hp => ?_⟩
  · obtain ⟨i, hi⟩ := List.getElem?_of_mem (ixo_in p hp)
    obtain ⟨j, hj⟩ := List.getElem?_of_mem (ixo_in p' hp')
    rw [e, e] at h
    have hil := (List.getElem?_eq_some_iff.mp hi).1
    have hij := (List.getElem?_inj (l := ixo.map (fun p => qA x0 m0 w u p.1 p.2)) (by simpa using hil) hnd (j := j)).mp (by simp [hi, hj, h])
    subst hij
    exact Option.some.inj (hi.symm.trans hj)
  · have hm : qA x0 m0 w u p.1 p.2 ∈ ixo.map (fun p => qA x0 m0 w u p.1 p.2) := List.mem_map.mpr ⟨p, ixo_in p hp, rfl⟩
    rw [← st_adr (G := G)] at hm
    obtain ⟨z, hz, hz2⟩ := List.mem_map.mp hm
    rw [e, ← hz2]
    exact hD.2 z hz
