/-! DOUBT by FIGURES of the reference -/
def alD (a b : Nat) : Bool := decide (10 * (if b ≤ a then b else a) + (if b ≤ a then a else b) ∈ [6, 8, 17, 38, 49, 56, 68])
theorem ak_d : ∀ a, a < 10 → ∀ b, b < 10 → ak (48 + a) (48 + b) = alD a b := by decide +kernel
theorem ak_self : ∀ a, a < 10 → ak (48 + a) (48 + a) = false := by decide +kernel
theorem m131 {X : smX} {h : smH} {a b : Nat} (ha : a < 10) (hb : b < 10) : sm_C PP X 131 [.int (nI a), .int (nI b)] h = some (some (.int (bI (ak (48 + a) (48 + b)))), h) := by
  rw [ak_d a ha b hb]
  have fin : ∀ x y : Nat, x < 10 → y < 10 → sm_E PP X 131 21 [(2, .int (nI x))] [.int (nI y)] h = some (some (.int (bI (decide (10 * x + y ∈ [6, 8, 17, 38, 49, 56, 68])))), h) := fun x y hx hy => by
    rw [b131_21]
    simp only [pk_mul, nI_add, b131_79, b131_84, nkb, nI_eq (show 10 * x + y < 2 ^ 31 by omega) (show 6 < 2 ^ 31 by omega), nI_eq (show 10 * x + y < 2 ^ 31 by omega) (show 8 < 2 ^ 31 by omega), nI_eq (show 10 * x + y < 2 ^ 31 by omega) (show 17 < 2 ^ 31 by omega), nI_eq (show 10 * x + y < 2 ^ 31 by omega) (show 38 < 2 ^ 31 by omega), nI_eq (show 10 * x + y < 2 ^ 31 by omega) (show 49 < 2 ^ 31 by omega), nI_eq (show 10 * x + y < 2 ^ 31 by omega) (show 56 < 2 ^ 31 by omega), nI_eq (show 10 * x + y < 2 ^ 31 by omega) (show 68 < 2 ^ 31 by omega), if_pos nk10, if_pos nk11]
    by_cases g : 10 * x + y ∈ [6, 8, 17, 38, 49, 56, 68]
    · rw [decide_eq_true g]
      simp only [List.mem_cons, List.not_mem_nil, or_false] at g
      rcases g with g | g | g | g | g | g | g <;> simp [g, bI]
    · rw [decide_eq_false g]
      simp only [List.mem_cons, List.not_mem_nil, or_false, not_or] at g
      simp [g, bI]
  rw [c131, b131_0]
  unfold alD
  by_cases h1 : b ≤ a
  · rw [if_pos (nI_le h1 (by omega)), b131_10, if_pos (nI_le h1 (by omega)), fin b a hb ha, if_pos h1, if_pos h1]
  · rw [if_neg (nI_ge (by omega) (by omega)), b131_10, if_neg (nI_ge (by omega) (by omega)), fin a b ha hb, if_neg h1, if_neg h1]
