theorem so2 {α β : Type} {a c : α} {b d : β} (H : some (a, b) = some (c, d)) : a = c ∧ b = d := Prod.mk.inj (Option.some.inj H)
