theorem xinj3 {α β γ : Type} {a r : α} {b q : β} {c d : γ} (h : some (a, b, c) = some (r, q, d)) : a = r ∧ b = q ∧ c = d := by
  have h1 := Option.some.inj h
  exact ⟨congrArg Prod.fst h1, congrArg (fun z => z.2.1) h1, congrArg (fun z => z.2.2) h1⟩
def xb3 {α β γ δ : Type} (g : Option (α × β × γ)) (k : α → β → γ → Option δ) : Option δ := match g with
  | some (a, b, c) => k a b c
  | none => none
theorem xb3_s {α β γ δ : Type} {g : Option (α × β × γ)} {k : α → β → γ → Option δ} {r : δ} (h : xb3 g k = some r) : ∃ a b c, g = some (a, b, c) ∧ k a b c = some r := by
  cases g with
  | none => cases h
  | some q => obtain ⟨a, b, c⟩ := q; exact ⟨a, b, c, rfl, h⟩
