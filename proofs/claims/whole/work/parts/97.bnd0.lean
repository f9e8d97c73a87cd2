theorem bnd_all : ∀ g, qF g → bnd g := by sorry
