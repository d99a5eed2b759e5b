theorem pr1 {α β : Type} {a : α} {b : β} {r : α × β} (h : some (a, b) = some r) : a = r.1 := by cases h; rfl
theorem pr2 {α β : Type} {a : α} {b : β} {r : α × β} (h : some (a, b) = some r) : b = r.2 := by cases h; rfl
