theorem rm_all : ∀ g, g < 13 → ∀ W, W < 5 → rmA g W 0 = wl W g := by decide +kernel
