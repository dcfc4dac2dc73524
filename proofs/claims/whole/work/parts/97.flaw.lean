theorem flaw : FLaw := sorry
