theorem xinj1 {α : Type} {a r : α} (h : some a = some r) : a = r := Option.some.inj h
theorem xinj2 {α β : Type} {a r : α} {b q : β} (h : some (a, b) = some (r, q)) : a = r ∧ b = q := by
  have h1 := Option.some.inj h
  exact ⟨congrArg Prod.fst h1, congrArg Prod.snd h1⟩
