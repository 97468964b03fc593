theorem law_pure : ∀ xs : Nat → Int32, f_law xs = some () ∧ ∀ q, f_L_init xs = some q → lF q.1 := fun xs => l_law (l_init xs)
