/-- what is owed of the small machine -/
theorem law_sm (X : smX) (hX : X.1 ≤ 2560) (B : Nat) : ∃ h' : smH, sm_E PP X 156 0 [(0, .retAddr 40)] [] (fun _ => none, B, 0) = some (some (.int 1), h') ∧ h'.2.1 ≤ B + 600000 ∧ h'.2.2 ≤ 7302250 := sorry
